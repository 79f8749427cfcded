/-! the order: both sides -/
theorem tb_eq {a b n : Nat} (ha : a < 2 ^ n) (hb : b < 2 ^ n) (h : ∀ i, i < n → a.testBit i = b.testBit i) : a = b := by
  refine Nat.eq_of_testBit_eq (fun i => ?_)
  by_cases q : i < n
  · exact h i q
  · have hp : 2 ^ n ≤ 2 ^ i := Nat.pow_le_pow_right (by decide) (by omega)
    rw [Nat.testBit_lt_two_pow (by omega), Nat.testBit_lt_two_pow (by omega)]
def R0F (π : PLN) (σ : ST) : Nat := setF (uC σ) (nP π)
def f0F (π : PLN) (σ : ST) : Nat := setF (fun t => bearF π (σ 0 0) t && havF π σ t == 0) (nT π)
def boT (π : PLN) (σ : ST) : Nat × List Nat := bo π σ (cnU σ (nP π)) (R0F π σ) (f0F π σ)
def orV (π : PLN) (σ : ST) (x : Int32) : Int32 := if x = -1 then nI (boT π σ).1 else if 0 ≤ x ∧ x < nI (cnU σ (nP π)) then nI ((boT π σ).2.getD x.toNatClampNeg 0) else -2
theorem R0_tb {π : PLN} {σ : ST} {p : Nat} (hp : p < nP π) : (R0F π σ).testBit p = uC σ p := setF_tb _ hp
theorem R0_cn (π : PLN) (σ : ST) : cnF (R0F π σ).testBit (nP π) = cnU σ (nP π) := cn_ext _ (fun i hi => R0_tb hi)
theorem up_first (y : Nat × List Nat) : upD (0, []) 0 [] y = (y.1 + 1, y.2) := by
  unfold upD
  rw [if_pos (by show 0 < _ + 1; omega), Nat.zero_add, List.nil_append]
def scQ : List Nat := [15, 245, 239, 240, 241, 242, 243, 244]
theorem scQ_no {a : Nat} (h : live a ∨ 247 ≤ a) : a ∉ scQ := by unfold live at h; simp [scQ]; omega
section
variable {G : GG} {d : Nat} {P : Int32 → mm_M → Prop} {Pv : mm_M → Prop} {Q : Option Value → mm_M → Prop} {r : Nat → Nat} {I : Nat → Nat → Int32} {J : Nat → Nat → Int64} {π : PLN} {σ : Nat → Nat → Nat} {us : List ST} {fe : FE} {ms : Nat → Option (ST × FE)} {ln : LN} {nm : NMT} {tp : List Nat} {y : Nat} {τ : ST}
theorem KS.fQ {I' : Nat → Nat → Int32} (hk : KS I 38 π σ) (hf : Fr scQ I I') : KS I' 38 π σ := hk.lo (fun a ha => hf a (by simp [scQ]; omega))
theorem d63 {l a b c : Nat} (h0 : I 239 0 = nI l) (hl : l < 6) (h : ∀ I', Fr [239, 241, 242, 243] I I' → I' 239 0 = nI (l + 1) → (∀ k, k ≠ 0 → I' 239 k = I 239 k) → (I' 241 l = nI a ∧ I' 242 l = nI b ∧ I' 243 l = nI c) → (∀ i, i ≠ l → I' 241 i = I 241 i ∧ I' 242 i = I 242 i ∧ I' 243 i = I 243 i) → Pv (mem r I' J)) : CV G (d + 1) 63 [.ref 239, .int (nI a), .int (nI b), .int (nI c)] (mem r I J) Pv := by
  refine e63 ?_
  have e1 : u2 I 241 l (nI a) 239 0 = nI l := by rw [u2n (by decide)]; exact h0
  simp only [mKm, mNm, mIm, mIf, mJm, mJf, mRm, sIm, sJm, rwIm, rwJm, kN, nN, rN, true_and, h0, ix hl (by decide), e1]
  refine ifn (nI_ge (b := 6) hl (by decide)) (b63_0_29 ?_)
  have e2 : u2 (u2 I 241 l (nI a)) 242 l (nI b) 239 0 = nI l := by rw [u2n (by decide)]; exact e1
  have e3 : u2 (u2 (u2 I 241 l (nI a)) 242 l (nI b)) 243 l (nI c) 239 0 = nI l := by rw [u2n (by decide)]; exact e2
  simp only [mKm, mNm, mIm, mIf, mJm, mJf, mRm, sIm, sJm, rwIm, rwJm, kN, nN, rN, true_and, e2, ix hl (by decide), e3, nI_1]
  refine b63_0_49 ⟨rfl, h _ ((((Fr.rfl.u2 (by decide)).u2 (by decide)).u2 (by decide)).u2 (by decide)) u2s (fun k hk => ?_) ⟨?_, ?_, ?_⟩ (fun i hi => ⟨?_, ?_, ?_⟩)⟩
  · rw [u2i hk, u2n (by decide), u2n (by decide), u2n (by decide)]
  · rw [u2n (by decide), u2n (by decide), u2n (by decide), u2s]
  · rw [u2n (by decide), u2n (by decide), u2s]
  · rw [u2n (by decide), u2s]
  · rw [u2n (by decide), u2n (by decide), u2n (by decide), u2i hi]
  · rw [u2n (by decide), u2n (by decide), u2i hi, u2n (by decide)]
  · rw [u2n (by decide), u2i hi, u2n (by decide), u2n (by decide)]
theorem QT.step {I' : Nat → Nat → Int32} {p c : Nat} (hq : QT I π σ p) (hu : uC σ p = true) (hc : c < 64) (hcb : ∀ t, t < nT π → c.testBit t = fitF π σ p t) (h0 : I' 239 0 = nI (cnU σ p + 1)) (h1 : ∀ k, k ≠ 0 → I' 239 k = I 239 k) (h2 : I' 241 (cnU σ p) = nI p ∧ I' 242 (cnU σ p) = nI (σ 4 p) ∧ I' 243 (cnU σ p) = nI c) (h3 : ∀ i, i ≠ cnU σ p → I' 241 i = I 241 i ∧ I' 242 i = I 242 i ∧ I' 243 i = I 243 i) : QT I' π σ (p + 1) := by
  refine ⟨by rw [h0]; unfold cnU; rw [cn_st hu], by rw [h1 3 (by decide)]; exact hq.2.1, by rw [h1 4 (by decide)]; exact hq.2.2.1, fun q hqp hqu => ?_⟩
  by_cases e : q = p
  · subst e; exact ⟨h2.1, h2.2.1, c, hc, h2.2.2, hcb⟩
  · have hlt : cnU σ q < cnU σ p := cn_lt hqu (by omega)
    obtain ⟨g1, g2, g3⟩ := h3 (cnU σ q) (by omega)
    rw [g1, g2, g3]
    exact hq.2.2.2 q (by omega) hqu
theorem QT.skip {p : Nat} (hq : QT I π σ p) (hu : uC σ p = false) : QT I π σ (p + 1) := by
  refine ⟨by unfold cnU; rw [cnF_s, hu]; exact hq.1, hq.2.1, hq.2.2.1, fun q hqp hqu => ?_⟩
  by_cases e : q = p
  · subst e; rw [hu] at hqu; exact absurd hqu (by decide)
  · exact hq.2.2.2 q (by omega) hqu
theorem d131 {x : Int32} (hk : KS I 38 π σ) (h : ∀ I', Fr scQ I I' → P (orV π σ x) (mem r I' J)) : CI G (d + 14) 131 [.ref 1, .int x] (mem r I J) P := by
  have hT := hk.w.t
  have hP := hk.w.p
  have hL : cnU σ (nP π) ≤ nP π := cn_le _ _
  refine e131 ?_
  simp only [mKm, mNm, mIm, mIf, mJm, mJf, mRm, sIm, sJm, rwIm, rwJm, kN, nN, rN, true_and]
  refine d123 hk (fun I1 hf1 hz1 => ?_)
  have hk1 := hk.fq hf1
  simp only [mKm, mNm, mIm, mIf, mJm, mJf, mRm, sIm, sJm, rwIm, rwJm, kN, nN, rN, true_and, hk1.p.n0, hk1.p.n3]
  refine e62 ?_
  simp only [mKm, mNm, mIm, mIf, mJm, mJf, mRm, sIm, sJm, rwIm, rwJm, kN, nN, rN, true_and]
  refine c287 ?_
  rw [show (6 : Int32) = nI 6 from rfl, m_min (by decide) (by omega), show min 6 (nT π) = nT π by omega]
  simp only [mKm, mNm, mIm, mIf, mJm, mJf, mRm, sIm, sJm, rwIm, rwJm, kN, nN, rN, true_and]
  refine lp (n := nP π) (X := fun p => ∀ I', Fr scQ I I' → SZ I' π σ → QT I' π σ p → XX G (d + 13) (some .int) P131 (QI P) 31 [.ref 1, .int x, .int (nI p)] [] (mem r I' J)) (fun I2 hf2 hz2 hq2 => ?_) (fun p hp ih I2 hf2 hz2 hq2 => ?_) _ ((((hf1.mono (by simp [scQ])).u2 (by decide)).u2 (by decide)).u2 (by decide)) (fun t ht => by rw [u2n (by decide), u2n (by decide), u2n (by decide)]; exact hz1 t ht) ⟨by rw [u2i (by decide), u2i (by decide), u2s]; rfl, by rw [u2i (by decide), u2s], u2s, fun p hp => by omega⟩
  · have hk2 := hk.fQ hf2
    refine x131_31 ?_
    simp only [mKm, mNm, mIm, mIf, mJm, mJf, mRm, sIm, sJm, rwIm, rwJm, kN, nN, rN, true_and, hk2.p.n1]
    refine ifp (nI_le (Nat.le_refl _) (by omega)) (d129 hk2 (fun f hf hfb => ⟨rfl, ?_⟩))
    have ef : f = f0F π σ := tb_eq hf (setF_lt _ _) (fun i hi => by rw [hfb i hi]; exact (setF_tb (fun t => bearF π (σ 0 0) t && havF π σ t == 0) hi).symm)
    have hf64 : f < 64 := Nat.lt_of_lt_of_le hf (p2_64 hT)
    refine e64 ?_
    simp only [mKm, mNm, mIm, mIf, mJm, mJf, mRm, sIm, sJm, rwIm, rwJm, kN, nN, rN, true_and]
    have hq3 : QT (u2 I2 239 1 (-1)) π σ (nP π) := hq2.fr ⟨fun a ha => u2n (by simp at ha; omega), fun k hk => u2i hk⟩
    refine d65 hk2.w hk.v (cnU σ (nP π)) (d + 12) 0 0 (R0F π σ) f 0 (0, []) [] _ _ (by omega) (by omega) hq3 (by decide) hf64 (by omega) (by decide) rfl (fun j hj => by omega) ⟨u2s, fun z => absurd rfl z⟩ (fun p hp => by rw [R0_tb hp, Nat.zero_testBit]; simp) (R0_cn π σ) (fun I3 hf3 _ hS3 => ?_)
    rw [up_first, ef] at hS3
    obtain ⟨h1, h40⟩ := hS3
    have h1 : I3 239 1 = nI (boT π σ).1 := by rw [h1]; exact nI_pred _
    have h40 : ∀ j, j < cnU σ (nP π) → I3 240 j = nI ((boT π σ).2.getD j 0) := fun j hj => h40 (by show _ + 1 ≠ 0; omega) j hj
    have h0 : I3 239 0 = nI (cnU σ (nP π)) := by rw [hf3.2 0 (by decide)]; exact hq3.1
    have hfr : Fr scQ I I3 := (hf2.u2 (v := -1) (k := 1) (a := 239) (by decide)).trans (fun a ha => hf3.1 a (by simp [scQ] at ha ⊢; omega))
    have h := h I3 hfr
    unfold orV at h
    refine ifb (fun q => x131_111 ?_) (fun q => ?_)
    · rw [if_neg q] at h
      refine ifb (fun q2 => ?_) (fun q2 => ?_)
      · rw [if_neg (fun z => Int32.not_lt.mpr z.1 q2)] at h
        rw [m2]; exact ⟨_, rfl, h⟩
      · simp only [mKm, mNm, mIm, mIf, mJm, mJf, mRm, sIm, sJm, rwIm, rwJm, kN, nN, rN, true_and, h0]
        refine ifb (fun q3 => ?_) (fun q3 => ?_)
        · rw [if_neg (fun z => Int32.not_lt.mpr q3 z.2)] at h
          rw [m2]; exact ⟨_, rfl, h⟩
        · have hxr : 0 ≤ x ∧ x < nI (cnU σ (nP π)) := ⟨Int32.not_lt.mp q2, Int32.not_le.mp q3⟩
          rw [if_pos hxr] at h
          obtain ⟨j, hj, rfl⟩ := inR (by omega) hxr
          rw [nI_clamp (by omega)] at h
          simp only [mKm, mNm, mIm, mIf, mJm, mJf, mRm, sIm, sJm, rwIm, rwJm, kN, nN, rN, true_and, ix (show j < 6 by omega) (by decide), h40 j hj]
          exact ⟨_, rfl, h⟩
    · rw [if_pos (Decidable.not_not.mp q)] at h
      simp only [mKm, mNm, mIm, mIf, mJm, mJf, mRm, sIm, sJm, rwIm, rwJm, kN, nN, rN, true_and, h1]
      exact ⟨_, rfl, h⟩
  · have hk2 := hk.fQ hf2
    have hp6 : p < 6 := by omega
    have h5 := (hk.v.2.2 p hp).2.2.1
    have hcp : cnU σ p ≤ p := cn_le _ _
    refine x131_31 ?_
    simp only [mKm, mNm, mIm, mIf, mJm, mJf, mRm, sIm, sJm, rwIm, rwJm, kN, nN, rN, true_and, stN hk2.st, hk2.p.n1, ix hp6 (by decide), hk2.r5 hp, hk2.r4 hp, sh_m1 (show σ 5 p < 2 ^ 30 by omega)]
    refine ifn (nI_ge hp (by omega)) (ifb (fun q => ?_) (fun q => ?_))
    · rw [nI_1]
      exact ih I2 hf2 hz2 (hq2.skip (beq_false_of_ne q))
    · rw [Decidable.not_not] at q
      have hu : uC σ p = true := by unfold uC; rw [q]; rfl
      refine d124 hk2 hz2 hp ?_
      simp only [mKm, mNm, mIm, mIf, mJm, mJf, mRm, sIm, sJm, rwIm, rwJm, kN, nN, rN, true_and]
      refine d63 hq2.1 (by omega) (fun I3 hf3 g0 g1 g2 g3 => ?_)
      rw [nI_1]
      refine ih I3 (hf2.trans (hf3.mono (by simp [scQ]))) (fun t ht => by rw [hf3 245 (by decide)]; exact hz2 t ht) (hq2.step hu (setF_le _ hT) (fun t ht => setF_tb _ ht) g0 g1 g2 g3)
/-! going out, as the other side plays it -/
def goR (π : PLN) (p : Nat) : Nat → Nat → ST → ST
  | 0, _, τ => τ
  | n + 1, t, τ => goR π p n (t + 1) (if mayF π τ p t then tryF π τ p t else τ)
theorem go_stop {p : Nat} (h : ∀ t, mayF π τ p t = false) : ∀ n t, goR π p n t τ = τ := by
  intro n
  induction n with
  | zero => intro t; rfl
  | succ n ih => intro t; show goR π p n (t + 1) (if mayF π τ p t then _ else _) = _; rw [h t]; exact ih (t + 1)
theorem u2_self {α : Type} (f : Nat → Nat → α) (a k : Nat) : u2 f a k (f a k) = f := by
  funext x y
  by_cases e : x = a
  · subst e
    by_cases e2 : y = k
    · subst e2; rw [u2s]
    · rw [u2i e2]
  · rw [u2n e]
theorem hav_4 {p o i : Nat} : havF π (u2 τ 4 p o) i = havF π τ i := by unfold havF; rw [u2n (by decide)]
theorem go_main {p f : Nat} : ∀ n t (τ : ST), τ 5 p = 0 → τ 4 p ≤ π.1 3 0 → (∀ i, t ≤ i → i < t + n → f.testBit i = (bearF π (τ 0 0) i && havF π τ i == 0)) → ∃ o, o ≤ π.1 3 0 ∧ goR π p n t τ = (if trG (fitF π τ p) f (π.1 3 0) n t (τ 4 p) = 0 then u2 τ 4 p o else shodF π (u2 τ 4 p o) p (trG (fitF π τ p) f (π.1 3 0) n t (τ 4 p) - 1)) := by
  intro n
  induction n with
  | zero => intro t τ _ h4 _; exact ⟨τ 4 p, h4, by rw [if_pos (show trG (fitF π τ p) f (π.1 3 0) 0 t (τ 4 p) = 0 from rfl), u2_self]; rfl⟩
  | succ n ih =>
    intro t τ h5 h4 hb
    unfold trG
    by_cases q : π.1 3 0 ≤ τ 4 p
    · refine ⟨τ 4 p, h4, ?_⟩
      simp only [if_pos q, if_true]
      rw [u2_self]
      exact go_stop (fun t => by unfold mayF; rw [decide_eq_false (by omega), Bool.and_false]; rfl) (n + 1) t
    · simp only [if_neg q]
      have hbt := hb t (Nat.le_refl _) (by omega)
      have hm : mayF π τ p t = f.testBit t := by unfold mayF; rw [h5, decide_eq_true (by omega), hbt]; simp
      show ∃ o, o ≤ π.1 3 0 ∧ goR π p n (t + 1) (if mayF π τ p t then tryF π τ p t else τ) = _
      rw [hm]
      cases e1 : f.testBit t with
      | false =>
        simp only [Bool.false_eq_true, if_false]
        exact ih (t + 1) τ h5 h4 (fun i h1 h2 => hb i (by omega) (by omega))
      | true =>
        simp only [if_true]
        cases e2 : fitF π τ p t with
        | false =>
          simp only [Bool.false_eq_true, if_false]
          have et : tryF π τ p t = u2 τ 4 p (τ 4 p + 1) := by unfold tryF; rw [e2]; rfl
          rw [et]
          have e4 : u2 τ 4 p (τ 4 p + 1) 4 p = τ 4 p + 1 := u2s
          have ef : fitF π (u2 τ 4 p (τ 4 p + 1)) p = fitF π τ p := funext (fun i => fit_u2 (by decide))
          obtain ⟨o, ho, e⟩ := ih (t + 1) (u2 τ 4 p (τ 4 p + 1)) (by rw [u2n (by decide)]; exact h5) (by rw [e4]; omega) (fun i h1 h2 => by rw [hav_4, u2n (by decide)]; exact hb i (by omega) (by omega))
          rw [e4, ef, u2_u2] at e
          exact ⟨o, ho, e⟩
        | true =>
          simp only [if_true]
          have et : tryF π τ p t = shodF π (u2 τ 4 p (τ 4 p + 1)) p t := by unfold tryF; rw [e2]; rfl
          rw [et]
          refine ⟨τ 4 p + 1, by omega, ?_⟩
          rw [if_neg (by omega), Nat.add_sub_cancel]
          refine go_stop (fun i => ?_) n (t + 1)
          have : shodF π (u2 τ 4 p (τ 4 p + 1)) p t 5 p = t + 1 := by unfold shodF; rw [u2n (by decide), u2s]
          unfold mayF
          rw [this, beq_false_of_ne (by omega)]; rfl
theorem m248 {p : Nat} (hk : KR I 1260 π τ) (hp : p < nP π) (h : ∀ I', Fs 1260 I I' → KR I' 1260 π (goR π p (nT π) 0 τ) → Pv (mem r I' J)) : CV G (d + 6) 248 [.ref 247, .int (nI p)] (mem r I J) Pv := by
  have hT := hk.w.t
  have loop : ∀ n t (τ : ST) (I1 : Nat → Nat → Int32), t + n = nT π → Fs 1260 I I1 → KR I1 1260 π τ → (∀ I', Fs 1260 I I' → KR I' 1260 π (goR π p n t τ) → Pv (mem r I' J)) → XX G (d + 5) none P248 (QV Pv) 2 [.ref 247, .int (nI p), .int (nI t)] [] (mem r I1 J) := by
    intro n
    induction n with
    | zero =>
      intro t τ I1 ht hf1 hk1 hh
      exact x248_2 ⟨rfl, m166 hk1.p (ifp (nI_le (by omega) (by omega)) ⟨rfl, hh I1 hf1 hk1⟩)⟩
    | succ n ih =>
      intro t τ I1 ht hf1 hk1 hh
      have htT : t < nT π := by omega
      refine x248_2 ⟨rfl, m166 hk1.p (ifn (nI_ge htT (by omega)) ⟨rfl, m218 (b := 1260) hk1 hp htT ?_⟩)⟩
      by_cases q : mayF π τ p t = true
      · rw [if_pos q]
        refine ifn (by decide) ⟨rfl, m221 (b := 1260) hk1 hp htT q (fun I2 hf2 hk2 => ?_)⟩
        rw [nI_1]
        refine ih (t + 1) _ I2 (by omega) (hf1.trans hf2) hk2 (fun I' hf' hk' => hh I' hf' ?_)
        show KR I' 1260 π (goR π p n (t + 1) (if mayF π τ p t then _ else _))
        rw [if_pos q]; exact hk'
      · rw [if_neg q]
        refine ifp rfl ?_
        rw [nI_1]
        refine ih (t + 1) _ I1 (by omega) hf1 hk1 (fun I' hf' hk' => hh I' hf' ?_)
        show KR I' 1260 π (goR π p n (t + 1) (if mayF π τ p t then _ else _))
        rw [if_neg q]; exact hk'
  exact e248 (loop (nT π) 0 τ I (by omega) Fs.rfl hk h)
def sC (τ : ST) (q : Nat) : Bool := τ 5 q != 0
def SI (π : PLN) (σ τ : ST) (f c R : Nat) : Prop := (τ 0 0 = σ 0 0 ∧ τ 1 = σ 1 ∧ τ 2 = σ 2 ∧ τ 3 = σ 3) ∧ WSt π τ ∧ (∀ t, t < nT π → f.testBit t = (bearF π (σ 0 0) t && havF π τ t == 0)) ∧ (∀ p, p < nP π → R.testBit p = true → τ 5 p = 0 ∧ τ 4 p = σ 4 p) ∧ cnF (sC τ) (nP π) = cnF (sC σ) (nP π) + c
theorem exF_ext {c c' : Nat → Bool} : ∀ n, (∀ i, i < n → c i = c' i) → exF c n = exF c' n := by
  intro n
  induction n with
  | zero => intro _; rfl
  | succ n ih => intro h; unfold exF; rw [ih (fun i hi => h i (by omega)), h n (by omega)]
theorem cn_add {c c' : Nat → Bool} {p N : Nat} (hp : p < N) (h : c p = false) (h1 : c' p = true) (h' : ∀ q, q ≠ p → c' q = c q) : cnF c' N = cnF c N + 1 := by
  have := cn_rem (c := c') (c' := c) hp h1 (fun q _ => by
    by_cases e : q = p
    · subst e; rw [h, decide_eq_true rfl]; simp
    · rw [decide_eq_false e, h' q e]; simp)
  omega
theorem SI_go {f c R p : Nat} (hw : WP π) (h : SI π σ τ f c R) (hp : p < nP π) (hR : R.testBit p = true) : SI π σ (goR π p (nT π) 0 τ) (fnx f (trF π σ f p)) (c + hit (trF π σ f p)) (R &&& (63 - 2 ^ p)) := by
  obtain ⟨⟨a0, a1, a2, a3⟩, hv, hb, hd, he⟩ := h
  obtain ⟨h5, h4⟩ := hd p hp hR
  have hT := hw.t
  have hP := hw.p
  have hv4 := (hv.2.2 p hp).2.1
  have ef : fitF π τ p = fitF π σ p := by funext t; unfold fitF; rw [a0, a1, a2, a3]
  obtain ⟨o, ho, e⟩ := go_main (π := π) (p := p) (f := f) (nT π) 0 τ h5 hv4 (fun i _ hi => by rw [a0]; exact hb i (by omega))
  have etr : trG (fitF π τ p) f (π.1 3 0) (nT π) 0 (τ 4 p) = trF π σ f p := by unfold trF; rw [ef, h4]
  rw [etr] at e
  have htb : trF π σ f p ≤ 0 + nT π := trG_b _ _ _ _ _ _
  rw [e]
  have rem : ∀ q, q < nP π → (R &&& (63 - 2 ^ p)).testBit q = true → R.testBit q = true ∧ q ≠ p := fun q hq hh => by
    rw [rem_tb (by omega) (by omega)] at hh
    simp only [Bool.and_eq_true, Bool.not_eq_true', decide_eq_false_iff_not] at hh
    exact hh
  unfold fnx hit
  by_cases q : trF π σ f p = 0
  · rw [if_pos q, if_pos q, if_pos q]
    refine ⟨⟨by rw [u2n (by decide)]; exact a0, by rw [u2n (by decide)]; exact a1, by rw [u2n (by decide)]; exact a2, by rw [u2n (by decide)]; exact a3⟩, hv.up (by omega) (by omega) (by omega) (by omega) (fun _ => ho) (by omega) (by omega), fun t ht => by rw [hav_4]; exact hb t ht, fun r hr hh => ?_, ?_⟩
    · obtain ⟨g1, g2⟩ := rem r hr hh
      rw [u2n (by decide), u2i g2]
      exact hd r hr g1
    · rw [Nat.add_zero, ← he]
      refine cn_ext _ (fun i _ => ?_)
      unfold sC; rw [u2n (by decide)]
  · rw [if_neg q, if_neg q, if_neg q]
    have ht0 : trF π σ f p - 1 < nT π := by omega
    generalize trF π σ f p - 1 = t0 at ht0
    have r5 : ∀ q, shodF π (u2 τ 4 p o) p t0 5 q = if q = p then t0 + 1 else τ 5 q := fun q => by
      unfold shodF
      rw [u2n (by decide)]
      by_cases e2 : q = p
      · subst e2; rw [u2s, if_pos rfl]
      · rw [u2i e2, if_neg e2, u2n (by decide)]
    have rk : ∀ k, k < 4 → shodF π (u2 τ 4 p o) p t0 k = τ k := fun k hk => by
      unfold shodF
      rw [u2n (by omega), u2n (by omega), u2n (by omega)]
    refine ⟨⟨by rw [rk 0 (by decide)]; exact a0, by rw [rk 1 (by decide)]; exact a1, by rw [rk 2 (by decide)]; exact a2, by rw [rk 3 (by decide)]; exact a3⟩, shod_v (hv.up (by omega) (by omega) (by omega) (by omega) (fun _ => ho) (by omega) (by omega)) ht0, fun t ht => ?_, fun r hr hh => ?_, ?_⟩
    · rw [rem_tb (by omega) (by omega), hb t ht]
      unfold havF
      rw [setF_0, setF_0]
      by_cases e2 : t = t0
      · subst e2
        rw [exF_t (c := fun q => shodF π (u2 τ 4 p o) p t 5 q == t + 1) (i := p) (by show (_ == _) = true; rw [r5, if_pos rfl, beq_self_eq_true]) _ hp]
        simp
      · rw [decide_eq_false e2, Bool.not_false, Bool.and_true]
        congr 2
        refine exF_ext _ (fun i _ => ?_)
        show (τ 5 i == t + 1) = (shodF π (u2 τ 4 p o) p t0 5 i == t + 1)
        rw [r5]
        by_cases e3 : i = p
        · subst e3; rw [if_pos rfl, h5, beq_false_of_ne (by omega), beq_false_of_ne (by omega)]
        · rw [if_neg e3]
    · obtain ⟨g1, g2⟩ := rem r hr hh
      rw [r5, if_neg g2]
      refine ⟨(hd r hr g1).1, ?_⟩
      unfold shodF
      rw [u2n (by decide), u2n (by decide), u2i g2]
      exact (hd r hr g1).2
    · rw [← Nat.add_assoc, ← he]
      refine cn_add hp (by unfold sC; rw [h5]; rfl) (by unfold sC; rw [r5, if_pos rfl]; rfl) (fun q hq => by unfold sC; rw [r5, if_neg hq])
theorem pc_set (c : Nat → Bool) {n : Nat} (hn : n ≤ 30) : pcF (setF c n) 30 = cnF c n := by
  have key : ∀ k, pcF (setF c n) k = cnF c (min k n) := by
    intro k
    induction k with
    | zero => rw [Nat.zero_min]; rfl
    | succ k ih =>
      show pcF (setF c n) k + setF c n / 2 ^ k % 2 = _
      by_cases e : k < n
      · rw [ih, setF_bit c n k e, show min k n = k by omega, show min (k + 1) n = k + 1 by omega, cnF_s]
      · have h1 := setF_lt c n
        have h2 : 2 ^ n ≤ 2 ^ k := Nat.pow_le_pow_right (by decide) (by omega)
        rw [ih, Nat.div_eq_of_lt (by omega), show min k n = n by omega, show min (k + 1) n = n by omega]; rfl
  rw [key, show min 30 n = n by omega]
def simF (π : PLN) (σ : ST) (l : List Nat) : ST := l.foldl (fun τ p => goR π p (nT π) 0 τ) σ
theorem sim_app (l : List Nat) (p : Nat) : simF π σ (l ++ [p]) = goR π p (nT π) 0 (simF π σ l) := by unfold simF; rw [List.foldl_append]; rfl
theorem take_s {l : List Nat} {k : Nat} (h : k < l.length) : l.take (k + 1) = l.take k ++ [l.getD k 0] := by
  rw [List.take_add_one, List.getD_eq_getElem?_getD, List.getElem?_eq_getElem h]; rfl
def Fo (I I' : Nat → Nat → Int32) : Prop := (∀ a, a ∉ [247, 261, 262, 263, 267, 268] → I' a = I a) ∧ (∀ k, k ≠ 33 → I' 247 k = I 247 k) ∧ ∀ k, (k < 1260 ∨ 1303 ≤ k) → I' 263 k = I 263 k
theorem Fo.rfl' : Fo I I := ⟨fun _ _ => rfl, fun _ _ => rfl, fun _ _ => rfl⟩
theorem Fo.trans {I' I2 : Nat → Nat → Int32} (h : Fo I I') (h' : Fo I' I2) : Fo I I2 := ⟨fun a ha => (h'.1 a ha).trans (h.1 a ha), fun k hk => (h'.2.1 k hk).trans (h.2.1 k hk), fun k hk => (h'.2.2 k hk).trans (h.2.2 k hk)⟩
theorem Fo.u {I' : Nat → Nat → Int32} {a k : Nat} {v : Int32} (h : Fo I I') (ha : a = 267 ∨ a = 268) : Fo I (u2 I' a k v) := ⟨fun x hx => by rw [u2n (by simp at hx; omega)]; exact h.1 x hx, fun k hk => by rw [u2n (by omega)]; exact h.2.1 k hk, fun k hk => by rw [u2n (by omega)]; exact h.2.2 k hk⟩
theorem Fo.u33 {I' : Nat → Nat → Int32} {v : Int32} (h : Fo I I') : Fo I (u2 I' 247 33 v) := ⟨fun x hx => by rw [u2n (by simp at hx; omega)]; exact h.1 x hx, fun k hk => by rw [u2i hk]; exact h.2.1 k hk, fun k hk => by rw [u2n (by decide)]; exact h.2.2 k hk⟩
theorem Fo.fs {I' I2 : Nat → Nat → Int32} (h : Fo I I') (hf : Fs 1260 I' I2) : Fo I I2 := ⟨fun a ha => by rw [hf.1 a (by simp at ha ⊢; omega)]; exact h.1 a ha, fun k hk => by rw [hf.1 247 (by decide)]; exact h.2.1 k hk, fun k hk => by rw [hf.2 k (by omega)]; exact h.2.2 k hk⟩
theorem KR.fo {I' : Nat → Nat → Int32} (hk : KR I 0 π σ) (h : Fo I I') : KR I' 0 π σ := hk.keep (fun a ha => h.1 a (by simp at ha ⊢; omega)) (fun k _ hk => h.2.2 k (by omega))
def DSo (I : Nat → Nat → Int32) (N : Nat) (x : Nat × List Nat) : Prop := I 247 33 = nI x.1 - 1 ∧ (x.1 ≠ 0 → ∀ j, j < N → I 268 j = nI (x.2.getD j 0))
theorem m247 {L : Nat} (hL : L ≤ 6) : ∀ (k D n R f c : Nat) (x : Nat × List Nat) (pre : List Nat) (I : Nat → Nat → Int32) (Pv : mm_M → Prop), n + k = L → k + 9 ≤ D → KR I 0 π σ → R < 2 ^ nP π → c + k ≤ 6 → x.1 ≤ 7 → pre.length = n → (∀ j, j < n → I 267 j = nI (pre.getD j 0) ∧ pre.getD j 0 < nP π) → SI π σ (simF π σ pre) f c R → DSo I L x → cnF R.testBit (nP π) = k → (∀ I', Fo I I' → (∀ j, j < n → I' 267 j = I 267 j) → DSo I' L (upD x c pre (bo π σ k R f)) → Pv (mem r I' J)) → CV G D 247 [.ref 247, .int (nI n), .int (nI R)] (mem r I J) Pv := by
  intro k
  induction k with
  | zero =>
    intro D n R f c x pre I Pv hnk hD hk hR hc hx hl hd hSI hS hcn h
    obtain ⟨d, rfl⟩ : ∃ d, D = d + 9 := ⟨D - 9, by omega⟩
    have hP := hk.w.p
    have hR0 : R = 0 := tb_eq hR (Nat.two_pow_pos _) (fun i hi => by
      rw [Nat.zero_testBit]
      exact cn_end (c := R.testBit) (P := 0) (N := nP π) (by rw [hcn]; rfl) i (Nat.zero_le _) hi)
    have eb : bo π σ 0 R f = (0, []) := rfl
    rw [eb] at h
    rw [hR0]
    refine e247 (ifn (fun z => z rfl) ⟨rfl, ?_⟩)
    refine m220k (b := 0) (t := 1260) hk (by decide) (by decide) (fun I1 hf1 hk1 => ?_)
    refine lp (n := n) (X := fun j => ∀ I', Fs 1260 I I' → KR I' 1260 π (simF π σ (pre.take j)) → XX G (d + 8) none P247 (QV Pv) 16 [.ref 247, .int (nI n), .int (nI 0), .int (nI j), jk] [] (mem r I' J)) (fun I2 hf2 hk2 => ?_) (fun j hj ih I2 hf2 hk2 => ?_) I1 hf1 hk1
    · rw [List.take_of_length_le (by omega)] at hk2
      have hk02 : KR I2 0 π σ := hk.keep (fun a ha => hf2.1 a (by simp at ha ⊢; omega)) (fun k _ hk => hf2.2 k (by omega))
      obtain ⟨-, -, -, -, he⟩ := hSI
      have e1 : pcF (shodS π (simF π σ pre)) 30 = cnF (sC (simF π σ pre)) (nP π) := pc_set _ (by omega)
      have e2 : pcF (shodS π σ) 30 = cnF (sC σ) (nP π) := pc_set _ (by omega)
      have l1 : shodS π (simF π σ pre) < 64 := setF_le _ hP
      have l2 : shodS π σ < 64 := setF_le _ hP
      refine x247_16 (ifp (nI_le (Nat.le_refl _) (by omega)) ⟨rfl, m245 (b := 1260) hk2 (m246 l1 ⟨rfl, m245 (b := 0) hk02 (m246 l2 ?_)⟩)⟩)
      rw [e1, e2, he, pk_sub (by omega), Nat.add_sub_cancel_left]
      have hfo : Fo I I2 := Fo.rfl'.fs hf2
      have h33 : I2 247 33 = nI x.1 - 1 := by rw [hf2.1 247 (by decide)]; exact hS.1
      have h67 : I2 267 = I 267 := hf2.1 267 (by decide)
      have h68 : I2 268 = I 268 := hf2.1 268 (by decide)
      by_cases q : c + 1 ≤ x.1
      · rw [up_no (by show c + 0 + 1 ≤ x.1; omega)] at h
        have ql : nI c ≤ nI x.1 - 1 := (sh_le (by omega) (by omega)).mpr q
        have e33 : u2 I2 247 33 (I2 247 33) = I2 := u2_self I2 247 33
        have hh := h I2 hfo (fun j hj => by rw [h67]) ⟨h33, fun z j hj => by rw [h68]; exact hS.2 z j hj⟩
        refine x247_60 ?_
        simp only [mKm, mNm, mIm, mIf, mJm, mJf, mRm, sIm, sJm, rwIm, rwJm, kN, nN, rN, true_and, e33]
        rw [h33]
        exact ifb (fun _ => ifp ql ⟨rfl, hh⟩) (fun _ => ifp ql (ifp ql ⟨rfl, hh⟩))
      · have ql : ¬ nI c ≤ nI x.1 - 1 := fun z => q ((sh_le (by omega) (by omega)).mp z)
        unfold upD at h
        dsimp only at h
        rw [if_pos (show x.1 < c + 0 + 1 by omega)] at h
        refine lp (n := n) (X := fun j => ∀ I', Fo I I' → I' 267 = I 267 → I' 247 33 = nI x.1 - 1 → (∀ i, i < j → I' 268 i = I 267 i) → XX G (d + 8) none P247 (QV Pv) 60 [.ref 247, .int (nI n), .int (nI 0), .int (nI c), .int (nI j)] [] (mem r I' J)) (fun I3 hf3 g67 g33 g68 => ?_) (fun j hj ih I3 hf3 g67 g33 g68 => ?_) I2 hfo h67 h33 (fun i hi => by omega)
        · refine x247_60 ?_
          simp only [mKm, mNm, mIm, mIf, mJm, mJf, mRm, sIm, sJm, rwIm, rwJm, kN, nN, rN, true_and, g33]
          refine ifp (nI_le (Nat.le_refl _) (by omega)) (ifn ql ⟨rfl, h _ hf3.u33 (fun j hj => by rw [u2n (by decide), g67]) ⟨?_, fun _ j hj => ?_⟩⟩)
          · rw [u2s]; exact (nI_pred c).symm
          · rw [u2n (by decide), g68 j (by omega), List.append_nil]; exact (hd j (by omega)).1
        · refine x247_60 ?_
          simp only [mKm, mNm, mIm, mIf, mJm, mJf, mRm, sIm, sJm, rwIm, rwJm, kN, nN, rN, true_and, g33, ix (show j < 6 by omega) (by decide)]
          refine ifn (nI_ge hj (by omega)) (ifn ql (b247_60_88 ?_))
          rw [nI_1]
          refine ih _ (hf3.u (Or.inr rfl)) (by rw [u2n (by decide)]; exact g67) (by rw [u2n (by decide)]; exact g33) (fun i hi => ?_)
          by_cases e : i = j
          · subst e; rw [u2s, g67]
          · rw [u2i e]; exact g68 i (by omega)
    · obtain ⟨d1, d2⟩ := hd j hj
      have e67 : I2 267 j = nI (pre.getD j 0) := by rw [hf2.1 267 (by decide)]; exact d1
      refine x247_16 (ifn (nI_ge hj (by omega)) ?_)
      simp only [mKm, mNm, mIm, mIf, mJm, mJf, mRm, sIm, sJm, rwIm, rwJm, kN, nN, rN, true_and, ix (show j < 6 by omega) (by decide), e67]
      refine m248 hk2 d2 (fun I3 hf3 hk3 => ?_)
      rw [nI_1]
      refine ih I3 (hf2.trans hf3) ?_
      rw [take_s (by omega), sim_app]
      exact hk3
  | succ k ihk =>
    intro D n R f c x pre I Pv hnk hD hk hR hc hx hl hd hSI hS hcn h
    obtain ⟨d, rfl⟩ : ∃ d, D = d + 9 := ⟨D - 9, by omega⟩
    have hP := hk.w.p
    have hR64 : R < 64 := Nat.lt_of_lt_of_le hR (p2_64 hP)
    have hn6 : n < 6 := by omega
    have hR0 : R ≠ 0 := fun z => by
      rw [z] at hcn
      rw [cn_ext (c' := fun _ => false) _ (fun i _ => Nat.zero_testBit i)] at hcn
      have : ∀ m, cnF (fun _ => false) m = 0 := by
        intro m
        induction m with
        | zero => rfl
        | succ m ih => rw [cnF_s, ih]; rfl
      rw [this] at hcn; omega
    obtain ⟨ys, es, eb⟩ := bo_sel (π := π) (σ := σ) (f := f) hcn
    rw [eb] at h
    refine e247 (ifp (nI_ne0 (by omega) (by omega)) ?_)
    refine lp (n := nP π) (X := fun p => ∀ I', Fo I I' → (∀ j, j < n → I' 267 j = I 267 j) → DSo I' L (upO x c pre (selF R.testBit (bcd π σ k R f) p)) → (upO x c pre (selF R.testBit (bcd π σ k R f) p)).1 ≤ 7 → XX G (d + 8) none P247 (QV Pv) 117 [.ref 247, .int (nI n), .int (nI R), .int (nI p), jk] [] (mem r I' J)) (fun I1 hf1 h67 hS1 hx1 => ?_) (fun p hp ih I1 hf1 h67 hS1 hx1 => ?_) I Fo.rfl' (fun _ _ => rfl) hS hx
    · rw [es] at hS1
      exact x247_117 ⟨rfl, m168 (hk.fo hf1).p (ifp (nI_le (Nat.le_refl _) (by omega)) ⟨rfl, h I1 hf1 h67 hS1⟩)⟩
    · have hp6 : p < 6 := by omega
      refine x247_117 ⟨rfl, m168 (hk.fo hf1).p (ifn (nI_ge hp (by omega)) ?_)⟩
      rw [bit_at p (by omega) R hR64, tb_dm, nI_1]
      cases e1 : R.testBit p with
      | false =>
        have es2 : selF R.testBit (bcd π σ k R f) (p + 1) = selF R.testBit (bcd π σ k R f) p := by
          show (if R.testBit p then _ else _) = _
          rw [e1]; rfl
        exact ifp (by decide) (ih I1 hf1 h67 (by rw [es2]; exact hS1) (by rw [es2]; exact hx1))
      | true =>
        have es2 : upO x c pre (selF R.testBit (bcd π σ k R f) (p + 1)) = upD (upO x c pre (selF R.testBit (bcd π σ k R f) p)) c pre (bcd π σ k R f p) := by
          show upO x c pre (if R.testBit p then _ else _) = _
          rw [e1, if_pos rfl]
          cases selF R.testBit (bcd π σ k R f) p with
          | none => rfl
          | some y => exact (up_up x c pre y _).symm
        refine ifn (fun z => z rfl) ?_
        simp only [mKm, mNm, mIm, mIf, mJm, mJf, mRm, sIm, sJm, rwIm, rwJm, kN, nN, rN, true_and, ix hn6 (by decide), an_1 R hR64 p hp6, nI_1]
        have hhb := hit_b (trF π σ f p)
        refine ihk (d + 8) (n + 1) (R &&& (63 - 2 ^ p)) (fnx f (trF π σ f p)) (c + hit (trF π σ f p)) _ (pre ++ [p]) _ _ (by omega) (by omega) (hk.fo (hf1.u (Or.inl rfl))) (Nat.lt_of_le_of_lt Nat.and_le_left hR) (by omega) hx1 (by rw [List.length_append, hl]; rfl) (fun j hj => ?_) (by rw [sim_app]; exact SI_go hk.w hSI hp e1) ⟨by rw [u2n (by decide)]; exact hS1.1, fun q j hj => by rw [u2n (by decide)]; exact hS1.2 q j hj⟩ ?_ (fun I3 hf3 h673 hS3 => ?_)
        · by_cases e : j = n
          · subst e; rw [u2s, ← hl, getD_last]; exact ⟨rfl, hp⟩
          · rw [u2i e, getD_app (by omega), h67 j (by omega)]; exact hd j (by omega)
        · have := cn_rem (c := R.testBit) (c' := (R &&& (63 - 2 ^ p)).testBit) hp e1 (fun q hqN => rem_tb hp6 (by omega))
          omega
        · rw [up_cd] at hS3
          have hbv : c + (bcd π σ k R f p).1 ≤ 6 := by
            have := bo_b π σ k (R &&& (63 - 2 ^ p)) (fnx f (trF π σ f p))
            show c + (hit (trF π σ f p) + (bo π σ k (R &&& (63 - 2 ^ p)) (fnx f (trF π σ f p))).1) ≤ 6
            omega
          refine ih I3 ((hf1.u (Or.inl rfl)).trans hf3) (fun j hj => ?_) (by rw [es2]; exact hS3) (by rw [es2]; exact up_b7 hx1 hbv)
          rw [h673 j (by omega), u2i (by omega), h67 j hj]
def Fp (I I' : Nat → Nat → Int32) : Prop := (∀ a, a ∉ [247, 261, 262, 263, 267, 268] → I' a = I a) ∧ (∀ k, k ≠ 33 → k ≠ 32 → I' 247 k = I 247 k) ∧ ∀ k, (k < 1260 ∨ 1303 ≤ k) → I' 263 k = I 263 k
theorem m244 {x : Int32} (hk : KR I 0 π σ) (h : ∀ I', Fp (T0 I) I' → P (orV π σ x) (mem r I' J)) : CI G (d + 17) 244 [.ref 247, .int x] (mem r I J) P := by
  have hT := hk.w.t
  have hP := hk.w.p
  have hk0 := hk.t0
  have hL : cnU σ (nP π) ≤ nP π := cn_le _ _
  obtain ⟨h2n, h64⟩ := sh_2n (nP π) (by omega)
  have l2 : shodS π σ < 64 := setF_le _ hP
  have h2p : 0 < 2 ^ nP π := Nat.two_pow_pos _
  have eR : (2 ^ nP π - 1) &&& (63 - shodS π σ) = R0F π σ := by
    refine tb_eq (n := nP π) (Nat.lt_of_le_of_lt Nat.and_le_left (by omega)) (setF_lt _ _) (fun i hi => ?_)
    rw [Nat.testBit_and, Nat.testBit_two_pow_sub_one, decide_eq_true hi, Bool.true_and, tb_63 _ l2 i (by omega), R0_tb hi]
    unfold shodS uC
    rw [setF_tb _ hi]
    by_cases e : σ 5 i = 0
    · rw [e]; rfl
    · rw [beq_false_of_ne e, bne_iff_ne.mpr e]; rfl
  have hR64 : R0F π σ < 64 := Nat.lt_of_lt_of_le (setF_lt _ _) h64
  refine e244 ?_
  simp only [mKm, mNm, mIm, mIf, mJm, mJf, mRm, sIm, sJm, rwIm, rwJm, kN, nN, rN, true_and]
  refine m168 hk0.p ⟨rfl, m245 (b := 0) hk0 (b244_0_22 ?_)⟩
  have e1 : nI (2 ^ nP π) - 1 = nI (2 ^ nP π - 1) := pk_sub (b := 1) (by omega)
  rw [h2n, e1, an_eq _ (by omega) _ l2, eR]
  refine m246 hR64 ?_
  have epc : pcF (R0F π σ) 30 = cnU σ (nP π) := pc_set _ (by omega)
  rw [epc]
  simp only [mKm, mNm, mIm, mIf, mJm, mJf, mRm, sIm, sJm, rwIm, rwJm, kN, nN, rN, true_and, u2s]
  refine m201 ?_
  have hk1 : KR (u2 (u2 I 247 0 0) 247 32 (nI (cnU σ (nP π)))) 0 π σ := hk0.keep (fun a ha => u2n (by intro z; subst z; exact absurd ha (by decide))) (fun k _ _ => by rw [u2n (by decide)]; rfl)
  unfold orV at h
  by_cases q : (-1 : Int32) ≤ x ∧ x ≤ nI (cnU σ (nP π)) - 1
  · rw [if_pos q]
    refine ifp (by decide) ?_
    simp only [mKm, mNm, mIm, mIf, mJm, mJf, mRm, sIm, sJm, rwIm, rwJm, kN, nN, rN, true_and]
    have hk2 : KR (u2 (u2 (u2 I 247 0 0) 247 32 (nI (cnU σ (nP π)))) 247 33 (-1)) 0 π σ := hk1.fo Fo.rfl'.u33
    refine m247 (L := cnU σ (nP π)) (by omega) (cnU σ (nP π)) (d + 16) 0 (R0F π σ) (f0F π σ) 0 (0, []) [] _ _ (by omega) (by omega) hk2 (setF_lt _ _) (by omega) (by decide) rfl (fun j hj => by omega) ⟨⟨rfl, rfl, rfl, rfl⟩, hk.v, fun t ht => setF_tb _ ht, fun p hp hh => ⟨by rw [R0_tb hp] at hh; exact eq_of_beq hh, rfl⟩, rfl⟩ ⟨u2s, fun z => absurd rfl z⟩ (R0_cn π σ) (fun I3 hf3 _ hS3 => ?_)
    rw [up_first] at hS3
    obtain ⟨h1, h68⟩ := hS3
    have h1 : I3 247 33 = nI (boT π σ).1 := by rw [h1]; exact nI_pred _
    have h68 : ∀ j, j < cnU σ (nP π) → I3 268 j = nI ((boT π σ).2.getD j 0) := fun j hj => h68 (by show _ + 1 ≠ 0; omega) j hj
    have h := h I3 ⟨fun a ha => by rw [hf3.1 a ha, u2n (by simp at ha; omega), u2n (by simp at ha; omega)]; rfl, fun k k1 k2 => by rw [hf3.2.1 k k1, u2i k1, u2i k2]; rfl, fun k hk => by rw [hf3.2.2 k hk, u2n (by decide), u2n (by decide)]; rfl⟩
    refine ifb (fun q2 => ?_) (fun q2 => ?_)
    · rw [if_neg q2] at h
      have hxr : 0 ≤ x ∧ x < nI (cnU σ (nP π)) := by
        have h0 : 0 ≤ x := by
          refine Int32.not_lt.mp (fun z => q2 ?_)
          have a1 := Int32.le_iff_toInt_le.mp q.1
          have a2 := Int32.lt_iff_toInt_lt.mp z
          have e1 : (-1 : Int32).toInt = -1 := rfl
          have e2 : (0 : Int32).toInt = 0 := rfl
          exact Int32.toInt_inj.mp (by rw [e1]; omega)
        obtain ⟨j, hj, rfl⟩ := nI_of (Int32.not_lt.mpr h0)
        refine ⟨h0, ?_⟩
        by_cases e0 : cnU σ (nP π) = 0
        · rw [e0] at q
          exact absurd (Int32.le_trans h0 q.2) (by decide)
        · rw [sh_ix e0] at q
          have := (nI_leI hj (by omega)).mp q.2
          exact nI_lt (by omega) (by omega)
      rw [if_pos hxr] at h
      obtain ⟨j, hj, rfl⟩ := inR (by omega) hxr
      rw [nI_clamp (by omega)] at h
      simp only [mKm, mNm, mIm, mIf, mJm, mJf, mRm, sIm, sJm, rwIm, rwJm, kN, nN, rN, true_and, ix (show j < 6 by omega) (by decide), h68 j hj]
      exact ⟨_, rfl, h⟩
    · rw [if_pos (Decidable.not_not.mp q2)] at h
      simp only [mKm, mNm, mIm, mIf, mJm, mJf, mRm, sIm, sJm, rwIm, rwJm, kN, nN, rN, true_and, h1]
      exact ⟨_, rfl, h⟩
  · rw [if_neg q]
    have q1 : ¬ x = -1 := fun z => q (by
      rw [z]
      refine ⟨by decide, ?_⟩
      by_cases e0 : cnU σ (nP π) = 0
      · rw [e0]; decide
      · rw [sh_ix e0]; exact Int32.le_trans (show (-1 : Int32) ≤ 0 by decide) (nI_pos' (by omega)))
    have q2 : ¬ (0 ≤ x ∧ x < nI (cnU σ (nP π))) := fun z => q (by
      obtain ⟨j, hj, rfl⟩ := inR (by omega) z
      refine ⟨Int32.le_trans (by decide) z.1, ?_⟩
      rw [sh_ix (by omega)]; exact nI_le (by omega) (by omega))
    have h := h (u2 (u2 I 247 0 0) 247 32 (nI (cnU σ (nP π)))) ⟨fun a ha => by rw [u2n (by simp at ha; omega)]; rfl, fun k k1 k2 => by rw [u2i k2]; rfl, fun k hk => by rw [u2n (by decide)]; rfl⟩
    rw [if_neg q1, if_neg q2] at h
    refine ifn (fun z => z rfl) ?_
    rw [m2]; exact ⟨_, rfl, h⟩
theorem L131 {M : mm_M} (h : PR y M) (x : Int32) : EQ G (d + 40) 131 244 y [.int x] M := by
  obtain ⟨r, I, J, π, σ, us, ms, fe, ln, nm, tp, rfl, hA, hR, hY⟩ := h
  refine d131 hA.k (fun I1 hf1 => ⟨rfl, ?_⟩)
  refine m244 (hR.k.lo (fun a ha => hf1 a (scQ_no (Or.inr ha)))) (fun I2 hf2 => ⟨rfl, ?_⟩)
  refine PR_g hA hR hY (by omega) (fun a ha => hf1 a (scQ_no ha)) (fun _ _ => rfl) (fun a ha => ?_) (fun _ _ => rfl) ⟨fun a ha => ?_, fun k hk => ?_, fun k hk => ?_, rfl, rfl⟩
  · rw [hf2.1 a (by simp; omega)]; exact u2n (by omega)
  · rw [hf2.1 a (by simp at ha ⊢; omega)]; exact u2n (by simp at ha; omega)
  · rw [hf2.2.2 k (by omega)]; unfold T0; rw [u2n (by decide)]
  · rw [hf2.2.1 k (by simp at hk; omega) (by simp at hk; omega)]; unfold T0; rw [u2i (by simp at hk; omega)]
end
