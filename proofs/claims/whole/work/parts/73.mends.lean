/-! mending -/
def modF (τ : ST) (t o : Nat) : ST := if t = o then pruneF τ t else graftF τ t o
def menF (π : PLN) (p : Nat) : Nat → ST → Bool
  | 0, τ => exF (fitF π τ p) (nT π)
  | n + 1, τ => exF (fitF π τ p) (nT π) || exF (fun t => exF (fun o => menF π p n (modF τ t o)) (nT π)) (nT π)
def meV (π : PLN) (p : Nat) (σ : ST) : Int32 := if menF π p 0 σ then 0 else if menF π p 1 σ then 1 else if menF π p 2 σ then 2 else -1
/-- alike but for the lasts -/
def agr (σ τ : ST) : Prop := τ 0 0 = σ 0 0 ∧ τ 2 = σ 2 ∧ τ 3 = σ 3
theorem agr_mod {σ τ : ST} {t o : Nat} (h : agr σ τ) : agr σ (modF τ t o) := by
  unfold modF pruneF graftF
  split
  · exact ⟨by rw [u2n (by decide)]; exact h.1, by rw [u2n (by decide)]; exact h.2.1, by rw [u2n (by decide)]; exact h.2.2⟩
  · exact ⟨by rw [u2n (by decide)]; exact h.1, by rw [u2n (by decide)]; exact h.2.1, by rw [u2n (by decide)]; exact h.2.2⟩
def lfC (π : PLN) (σ : ST) (p t l : Nat) : Bool := bearF π (σ 0 0) t && pinF π p (σ 3 p) (szF π l (σ 2 t) (σ 0 0)) == 0
theorem fit_lf {π : PLN} {σ τ : ST} {p t : Nat} (h : agr σ τ) : fitF π τ p t = lfC π σ p t (τ 1 t) := by
  unfold fitF lfC
  rw [h.1, h.2.1, h.2.2]
theorem mod_back (τ : ST) (t o : Nat) : ∀ k i, u2 (modF τ t o) 1 t (τ 1 t) k i = τ k i := by
  intro k i
  unfold modF pruneF graftF
  by_cases e : k = 1
  · subst e
    by_cases e2 : i = t
    · subst e2; rw [u2s]
    · rw [u2i e2]
      split
      · rw [u2i e2]
      · rw [u2i e2]
  · rw [u2n e]
    split
    · rw [u2n e]
    · rw [u2n e]
def LFS (J : Nat → Nat → Int64) (π : PLN) (σ : ST) (p : Nat) : Prop := ∀ t, t < nT π → J 246 t = lN (setF (lfC π σ p t) 31)
section
variable {G : GG} {d : Nat} {P : Int32 → mm_M → Prop} {Pv : mm_M → Prop} {Q : Option Value → mm_M → Prop} {r : Nat → Nat} {I : Nat → Nat → Int32} {J : Nat → Nat → Int64} {π : PLN} {σ : Nat → Nat → Nat} {us : List ST} {fe : FE} {ms : Nat → Option (ST × FE)} {ln : LN} {nm : NMT} {tp : List Nat} {y : Nat} {τ : ST}
theorem d134 {Pj : Int64 → mm_M → Prop} {p t : Nat} (hk : KS I 38 π σ) (hp : p < nP π) (ht : t < nT π) (hb : bearF π (σ 0 0) t = true) (h : ∀ I', Fr [15] I I' → Pj (lN (setF (lfC π σ p t) 31)) (mem r I' J)) : CJ G (d + 4) 134 [.ref 1, .int (nI p), .int (nI t)] (mem r I J) Pj := by
  have hT := hk.w.t
  have hP := hk.w.p
  have hy := hk.v.1
  have hf3 := (hk.v.2.2 p hp).1
  have h6 : t < 6 := by omega
  have h6p : p < 6 := by omega
  refine e134 (lp (n := 31) (X := fun k => ∀ I', Fr [15] I I' → XX G (d + 3) (some .long) P134 (QJ Pj) 5 [.ref 1, .int (nI p), .int (nI t), .long (lN (setF (lfC π σ p t) k)), jk, .int (nI k), jk] [] (mem r I' J)) (fun I1 hf1 => ?_) (fun k hkn ih I1 hf1 => ?_) I Fr.rfl)
  · exact x134_5 (ifp (by decide) ⟨_, rfl, h I1 hf1⟩)
  · have hk1 := hk.fr hf1
    refine x134_5 (ifn (nI_nlt (a := 30) (b := k) (by omega) (by decide)) ?_)
    simp only [mKm, mNm, mIm, mIf, mJm, mJf, mRm, sIm, sJm, rwIm, rwJm, kN, nN, rN, true_and, stN hk.st, ix h6 (by decide), hk1.r2 ht, hk1.r0]
    refine d57 hk1.p hk1.w (by omega) (fun I2 hf2 => ?_)
    have hk2 := hk1.fr hf2
    simp only [mKm, mNm, mIm, mIf, mJm, mJf, mRm, sIm, sJm, rwIm, rwJm, kN, nN, rN, true_and, stN hk.st, ix h6p (by decide), hk2.r3 hp]
    refine d59 hk2.p hk2.w hp hf3 sz_le ?_
    have hl := pin_le (π := π) (p := p) hf3 (sz_le (π := π) (l := k) (g := σ 2 t) (y := σ 0 0))
    have ec : lfC π σ p t k = (pinF π p (σ 3 p) (szF π k (σ 2 t) (σ 0 0)) == 0) := by unfold lfC; rw [hb, Bool.true_and]
    have ih := ih I2 (hf1.trans hf2)
    by_cases q : pinF π p (σ 3 p) (szF π k (σ 2 t) (σ 0 0)) = 0
    · rw [q]
      refine ifn (fun z => z rfl) (b134_5_68 ?_)
      rw [setL_up (by omega) (by rw [ec, q]; rfl), nI_1]
      exact ih
    · refine ifp (nI_ne0 (by omega) (by omega)) (b134_68_71 ?_)
      have : setF (lfC π σ p t) (k + 1) = setF (lfC π σ p t) k := by
        show setF (lfC π σ p t) k + (if lfC π σ p t k then 2 ^ k else 0) = _
        rw [ec, beq_false_of_ne q]; rfl
      rw [this] at ih
      rw [nI_1]
      exact ih
theorem setF_none {c : Nat → Bool} : ∀ n, (∀ i, i < n → c i = false) → setF c n = 0 := by
  intro n
  induction n with
  | zero => intro _; rfl
  | succ n ih =>
    intro h
    unfold setF
    rw [ih (fun i hi => h i (by omega)), h n (by omega)]; rfl
theorem d133 {p : Nat} (hk : KS I 38 π σ) (hp : p < nP π) (h : ∀ I' J', Fr [15] I I' → (∀ a, a ≠ 246 → J' a = J a) → LFS J' π σ p → Pv (mem r I' J')) : CV G (d + 5) 133 [.ref 1, .int (nI p)] (mem r I J) Pv := by
  have hT := hk.w.t
  refine e133 (lp (n := nT π) (X := fun k => ∀ I' J', Fr [15] I I' → (∀ a, a ≠ 246 → J' a = J a) → (∀ t, t < k → J' 246 t = lN (setF (lfC π σ p t) 31)) → XX G (d + 4) none P133 (QV Pv) 2 [.ref 1, .int (nI p), .int (nI k)] [] (mem r I' J')) (fun I1 J1 hf1 hj1 hl1 => ?_) (fun k hkn ih I1 J1 hf1 hj1 hl1 => ?_) I J Fr.rfl (fun _ _ => rfl) (fun t ht => by omega))
  · have hk1 := hk.fr hf1
    refine x133_2 ?_
    simp only [mKm, mNm, mIm, mIf, mJm, mJf, mRm, sIm, sJm, rwIm, rwJm, kN, nN, rN, true_and, stN hk.st, hk1.p.n0]
    exact ifp (nI_le (Nat.le_refl _) (by omega)) ⟨rfl, h I1 J1 hf1 hj1 hl1⟩
  · have hk1 := hk.fr hf1
    have h6 : k < 6 := by omega
    refine x133_2 ?_
    simp only [mKm, mNm, mIm, mIf, mJm, mJf, mRm, sIm, sJm, rwIm, rwJm, kN, nN, rN, true_and, stN hk.st, hk1.p.n0]
    refine ifn (nI_ge hkn (by omega)) (d71 hk1 hkn ?_)
    have step : ∀ I2 (v : Int64), Fr [15] I I2 → v = lN (setF (lfC π σ p k) 31) → XX G (d + 4) none P133 (QV Pv) 2 [.ref 1, .int (nI p), .int (nI (k + 1))] [] (mem r I2 (u2 J1 246 k v)) := fun I2 v hf2 hv => by
      refine ih I2 _ hf2 (fun a ha => by rw [u2n ha]; exact hj1 a ha) (fun t ht => ?_)
      by_cases e : t = k
      · subst e; rw [u2s]; exact hv
      · rw [u2i e]; exact hl1 t (by omega)
    by_cases q : bearF π (σ 0 0) k = true
    · rw [if_pos q]
      refine ifn (by decide) ?_
      simp only [mKm, mNm, mIm, mIf, mJm, mJf, mRm, sIm, sJm, rwIm, rwJm, kN, nN, rN, true_and]
      refine d134 hk1 hp hkn q (fun I2 hf2 => ?_)
      simp only [mKm, mNm, mIm, mIf, mJm, mJf, mRm, sIm, sJm, rwIm, rwJm, kN, nN, rN, true_and, ix h6 (by decide), nI_1]
      exact step I2 _ (hf1.trans hf2) rfl
    · rw [if_neg q]
      refine ifp rfl ?_
      simp only [mKm, mNm, mIm, mIf, mJm, mJf, mRm, sIm, sJm, rwIm, rwJm, kN, nN, rN, true_and, ix h6 (by decide), nI_1]
      refine step I1 _ hf1 ?_
      rw [setF_none 31 (fun i _ => by unfold lfC; rw [Bool.not_eq_true] at q; rw [q]; rfl)]; rfl
theorem d136 {p : Nat} (hk : KS I 46 π τ) (ha : agr σ τ) (hl : LFS J π σ p) (h : P (bI (exF (fitF π τ p) (nT π))) (mem r I J)) : CI G (d + 1) 136 [.ref 1] (mem r I J) P := by
  have hT := hk.w.t
  refine e136 (lp (n := nT π) (X := fun k => (∀ i, i < k → fitF π τ p i = false) → XX G d (some .boolean) P136 (QI P) 2 [.ref 1, .int (nI k)] [] (mem r I J)) (fun hn => ?_) (fun k hkn ih hn => ?_) (fun i hi => by omega))
  · refine x136_2 ?_
    simp only [mKm, mNm, mIm, mIf, mJm, mJf, mRm, sIm, sJm, rwIm, rwJm, kN, nN, rN, true_and, hk.p.n0]
    rw [exF_f _ hn] at h
    exact ifp (nI_le (Nat.le_refl _) (by omega)) ⟨_, rfl, h⟩
  · have h6 : k < 6 := by omega
    have hv := (hk.v.2.1 k hkn).1
    have hb := setF_le (lfC π σ p k) (n := 31) (m := 63) (by decide)
    have e1 := setF_bit (lfC π σ p k) 31 (τ 1 k) (by omega)
    have e2 := fit_lf (π := π) (p := p) (t := k) ha
    refine x136_2 ?_
    simp only [mKm, mNm, mIm, mIf, mJm, mJf, mRm, sIm, sJm, rwIm, rwJm, kN, nN, rN, true_and, stN hk.st, hk.p.n0, ix h6 (by decide), hk.r1 hkn, hl k hkn]
    rw [wb_bit (by omega) (by omega), lg_0 (by omega), e1, nI_1]
    refine ifn (nI_ge hkn (by omega)) (ifb (fun q => ih (fun i hi => ?_)) (fun q => ⟨_, rfl, ?_⟩))
    · by_cases e : i = k
      · subst e
        rw [e2]
        cases e3 : lfC π σ p i (τ 1 i) with
        | false => rfl
        | true => rw [e3] at q; exact absurd q (by decide)
      · exact hn i (by omega)
    · have : fitF π τ p k = true := by
        rw [e2]
        cases e3 : lfC π σ p k (τ 1 k) with
        | true => rfl
        | false => rw [e3] at q; exact absurd rfl q
      rw [exF_t this _ hkn] at h
      exact h
theorem mod_v {t o : Nat} (hv : WSt π τ) (ht : t < nT π) (ho : o < nT π) : WSt π (modF τ t o) := by
  have a1 := (hv.2.1 t ht).1
  have a2 := (hv.2.1 o ho).1
  unfold modF pruneF graftF
  split
  · exact hv.up (by omega) (by omega) (by omega) (by omega) (by omega) (by omega) (by omega)
  · exact hv.up (by omega) (by omega) (by omega) (by omega) (by omega) (by omega) (by omega)
theorem d135 {p : Nat} (hl : LFS J π σ p) : ∀ (n D : Nat) (τ : ST) (I : Nat → Nat → Int32) (P : Int32 → mm_M → Prop), n ≤ 2 → 5 + n ≤ D → KS I 46 π τ → agr σ τ → (∀ I', Fr (sl 46) I I' → KS I' 46 π τ → P (bI (menF π p n τ)) (mem r I' J)) → CI G D 135 [.ref 1, .int (nI n)] (mem r I J) P := by
  intro n
  induction n with
  | zero =>
    intro D τ I P _ hD hk ha h
    obtain ⟨d, rfl⟩ : ∃ d, D = d + 5 := ⟨D - 5, by omega⟩
    refine e135 ?_
    simp only [mKm, mNm, mIm, mIf, mJm, mJf, mRm, sIm, sJm, rwIm, rwJm, kN, nN, rN, true_and]
    refine d136 hk ha hl ?_
    have h := h I Fr.rfl hk
    unfold menF at h
    cases e : exF (fitF π τ p) (nT π) with
    | false => rw [e] at h; exact ifp rfl (ifn (by decide) h)
    | true => rw [e] at h; exact ifn (by decide) h
  | succ n ihn =>
    intro D τ I P hn2 hD hk ha h
    obtain ⟨d, rfl⟩ : ∃ d, D = d + 5 := ⟨D - 5, by omega⟩
    have hT := hk.w.t
    refine e135 ?_
    simp only [mKm, mNm, mIm, mIf, mJm, mJf, mRm, sIm, sJm, rwIm, rwJm, kN, nN, rN, true_and]
    refine d136 hk ha hl ?_
    unfold menF at h
    cases e : exF (fitF π τ p) (nT π) with
    | true => rw [e] at h; exact ifn (by decide) (h I Fr.rfl hk)
    | false =>
      rw [e, Bool.false_or] at h
      refine ifp rfl (ifp (show nI 0 < nI (n + 1) from nI_lt (by omega) (by omega)) ?_)
      refine lp (n := nT π) (X := fun t => (∀ t', t' < t → exF (fun o => menF π p n (modF τ t' o)) (nT π) = false) → ∀ I', Fr (sl 46) I I' → KS I' 46 π τ → XX G (d + 4) (some .boolean) P135 (QI P) 17 [.ref 1, .int (nI (n + 1)), .int (nI t), jk, jk, jk] [] (mem r I' J)) (fun hno I1 hf1 hk1 => ?_) (fun t htn iht hno I1 hf1 hk1 => ?_) (fun t' ht' => by omega) I Fr.rfl hk
      · refine x135_17 ?_
        simp only [mKm, mNm, mIm, mIf, mJm, mJf, mRm, sIm, sJm, rwIm, rwJm, kN, nN, rN, true_and, hk1.p.n0]
        have h := h I1 hf1 hk1
        rw [exF_f _ hno] at h
        exact ifp (nI_le (Nat.le_refl _) (by omega)) ⟨_, rfl, h⟩
      · have h6 : t < 6 := by omega
        refine x135_17 ?_
        simp only [mKm, mNm, mIm, mIf, mJm, mJf, mRm, sIm, sJm, rwIm, rwJm, kN, nN, rN, true_and, stN hk1.st, hk1.p.n0, ix h6 (by decide), hk1.r1 htn]
        refine ifn (nI_ge htn (by omega)) ?_
        refine lp (n := nT π) (X := fun o => (∀ o', o' < o → menF π p n (modF τ t o') = false) → ∀ I', Fr (sl 46) I I' → KS I' 46 π τ → XX G (d + 4) (some .boolean) P135 (QI P) 41 [.ref 1, .int (nI (n + 1)), .int (nI t), .int (nI (τ 1 t)), .int (nI o), jk] [] (mem r I' J)) (fun hno2 I2 hf2 hk2 => ?_) (fun o hon iho hno2 I2 hf2 hk2 => ?_) (fun t' ht' => by omega) I1 hf1 hk1
        · refine x135_41 ?_
          simp only [mKm, mNm, mIm, mIf, mJm, mJf, mRm, sIm, sJm, rwIm, rwJm, kN, nN, rN, true_and, hk2.p.n0]
          rw [nI_1]
          refine ifp (nI_le (Nat.le_refl _) (by omega)) (iht (fun t' ht' => ?_) I2 hf2 hk2)
          by_cases e : t' = t
          · subst e; exact exF_f _ hno2
          · exact hno t' (by omega)
        · have tail : ∀ I3, Fr (sl 46) I2 I3 → KS I3 46 π (modF τ t o) → CI G (d + 4) 135 [.ref 1, .int (nI (n + 1) - 1)] (mem r I3 J) (fun v3 N4 => mK N4 1 = 11 ∧ mK N4 (mR N4 1 6) = 9 ∧ (mK N4 (mR N4 (mR N4 1 6) 1) = 14 ∧ vp_in (nI t) (mN N4 (mR N4 (mR N4 1 6) 1))) ∧ ifP (v3 = 0) (BB G (d + 4) (some .boolean) P135 (QI P) S135_106_109 109 [.ref 1, .int (nI (n + 1)), .int (nI t), .int (nI (τ 1 t)), .int (nI o + 1), .int v3] [] (sI N4 (mR N4 (mR N4 1 6) 1) (nI t).toNatClampNeg (nI (τ 1 t)))) (QI P (some (.int 1)) (sI N4 (mR N4 (mR N4 1 6) 1) (nI t).toNatClampNeg (nI (τ 1 t))))) := fun I3 hf3 hk3 => by
            rw [nI_pred]
            refine ihn (d + 4) (modF τ t o) I3 _ (by omega) (by omega) hk3 (agr_mod ha) (fun I4 hf4 hk4 => ?_)
            simp only [mKm, mNm, mIm, mIf, mJm, mJf, mRm, sIm, sJm, rwIm, rwJm, kN, nN, rN, true_and, stN hk4.st, ix h6 (by decide)]
            have hk5 : KS (u2 I4 47 t (nI (τ 1 t))) 46 π τ := (hk4.set (k := 1) (i := t) (n := τ 1 t) rfl (hk4.v.up (by omega) (fun _ => (hk2.v.2.1 t htn).1) (by omega) (by omega) (by omega) (by omega) (by omega))).congr (fun k i _ _ => (mod_back τ t o k i).symm)
            have hf5 : Fr (sl 46) I (u2 I4 47 t (nI (τ 1 t))) := ((hf2.trans hf3).trans hf4).u2 (by decide)
            cases em : menF π p n (modF τ t o) with
            | false =>
              refine ifp rfl (b135_106_109 ?_)
              rw [nI_1]
              refine iho (fun o' ho' => ?_) _ hf5 hk5
              by_cases e : o' = o
              · subst e; exact em
              · exact hno2 o' (by omega)
            | true =>
              have h := h _ hf5 hk5
              rw [exF_t (c := fun t => exF (fun o => menF π p n (modF τ t o)) (nT π)) (i := t) (exF_t (c := fun o => menF π p n (modF τ t o)) (i := o) em _ hon) _ htn] at h
              exact ifn (by decide) ⟨_, rfl, h⟩
          refine x135_41 ?_
          simp only [mKm, mNm, mIm, mIf, mJm, mJf, mRm, sIm, sJm, rwIm, rwJm, kN, nN, rN, true_and, hk2.p.n0]
          refine ifn (nI_ge hon (by omega)) (ifb (fun q => ?_) (fun q => ?_))
          · have q' : ¬ t = o := fun z => q (by rw [z])
            refine d80 hk2 htn hon (fun I3 hf3 hk3 => ⟨rfl, ?_⟩)
            exact tail I3 hf3 (by unfold modF; rw [if_neg q']; exact hk3)
          · have q' : t = o := ((nI_eq (by omega) (by omega)).mp (Decidable.not_not.mp q)).symm
            refine d81 hk2 htn (fun I3 hf3 hk3 => ⟨rfl, ?_⟩)
            exact tail I3 hf3 (by unfold modF; rw [if_pos q']; exact hk3)
theorem d132 {p : Nat} (hk : KS I 38 π σ) (hp : p < nP π) (h : ∀ I' J', Fr scT I I' → (∀ a, a ≠ 246 → J' a = J a) → P (meV π p σ) (mem r I' J')) : CI G (d + 9) 132 [.ref 1, .int (nI p)] (mem r I J) P := by
  refine e132 ?_
  simp only [mKm, mNm, mIm, mIf, mJm, mJf, mRm, sIm, sJm, rwIm, rwJm, kN, nN, rN, true_and]
  refine d58 hk.p hk.w hp (ifp (by decide) ?_)
  simp only [mKm, mNm, mIm, mIf, mJm, mJf, mRm, sIm, sJm, rwIm, rwJm, kN, nN, rN, true_and]
  refine d133 hk hp (fun I1 J1 hf1 hj1 hl1 => ?_)
  simp only [mKm, mNm, mIm, mIf, mJm, mJf, mRm, sIm, sJm, rwIm, rwJm, kN, nN, rN, true_and]
  refine d75k (hk.fr hf1) (s := 46) (by decide) (by decide) (fun I2 hf2 hk2 => ?_)
  have h2 : Fr scT I I2 := sl_sc (q_sc Fr.rfl (hf1.mono (by simp))) hf2
  unfold meV at h
  have step : ∀ n, n ≤ 2 → ∀ I3, Fr scT I I3 → KS I3 46 π σ → (∀ I', Fr scT I I' → KS I' 46 π σ → menF π p n σ = true → P (nI n) (mem r I' J1)) → (∀ I', Fr scT I I' → KS I' 46 π σ → menF π p n σ = false → XX G (d + 8) (some .int) P132 (QI P) 31 [.ref 1, .int (nI p), .int (nI (n + 1))] [] (mem r I' J1)) → XX G (d + 8) (some .int) P132 (QI P) 31 [.ref 1, .int (nI p), .int (nI n)] [] (mem r I3 J1) := fun n hn I3 hf3 hk3 hy hno => by
    refine x132_31 (ifn (nI_nlt (a := 2) (b := n) (by omega) (by decide)) ⟨rfl, ?_⟩)
    refine d135 hl1 n (d + 8) σ I3 _ hn (by omega) hk3 ⟨rfl, rfl, rfl⟩ (fun I4 hf4 hk4 => ?_)
    have h4 := sl_sc hf3 hf4
    cases e : menF π p n σ with
    | false => exact ifp rfl (by rw [nI_1]; exact hno I4 h4 hk4 e)
    | true => exact ifn (by decide) ⟨_, rfl, hy I4 h4 hk4 e⟩
  refine step 0 (by decide) I2 h2 hk2 (fun I' hf' _ e => by have h := h I' J1 hf' hj1; rw [if_pos e] at h; exact h) (fun I3 hf3 hk3 e0 => ?_)
  refine step 1 (by decide) I3 hf3 hk3 (fun I' hf' _ e => by have h := h I' J1 hf' hj1; rw [if_neg (by rw [e0]; decide), if_pos e] at h; exact h) (fun I4 hf4 hk4 e1 => ?_)
  refine step 2 (by decide) I4 hf4 hk4 (fun I' hf' _ e => by have h := h I' J1 hf' hj1; rw [if_neg (by rw [e0]; decide), if_neg (by rw [e1]; decide), if_pos e] at h; exact h) (fun I5 hf5 hk5 e2 => ?_)
  refine x132_31 (ifp (by decide) ⟨_, rfl, ?_⟩)
  have h := h I5 J1 hf5 hj1
  rw [if_neg (by rw [e0]; decide), if_neg (by rw [e1]; decide), if_neg (by rw [e2]; decide)] at h
  exact h
theorem d132o {x : Int32} (hk : KS I 38 π σ) (hx : ¬ (0 ≤ x ∧ x < nI (nP π))) (h : P (-1) (mem r I J)) : CI G (d + 9) 132 [.ref 1, .int x] (mem r I J) P := by
  refine e132 ?_
  simp only [mKm, mNm, mIm, mIf, mJm, mJf, mRm, sIm, sJm, rwIm, rwJm, kN, nN, rN, true_and]
  exact d58o hk.p hx (ifn (fun z => z rfl) h)
/-- the pairs by one number -/
def pkC (c : Nat → Nat → Bool) (N k : Nat) : Bool := decide (k / 6 < N) && (decide (k % 6 < N) && c (k / 6) (k % 6))
theorem pk_ex {c : Nat → Nat → Bool} {N : Nat} (hN : N ≤ 6) : exF (fun t => exF (c t) N) N = exF (pkC c N) 36 := by
  cases e : exF (pkC c N) 36 with
  | false =>
    refine exF_f _ (fun t ht => exF_f _ (fun o ho => ?_))
    have h := exF_no e (6 * t + o) (by omega)
    unfold pkC at h
    rw [show (6 * t + o) / 6 = t by omega, show (6 * t + o) % 6 = o by omega, decide_eq_true ht, decide_eq_true ho] at h
    exact h
  | true =>
    cases e2 : exF (fun t => exF (c t) N) N with
    | true => rfl
    | false =>
      exfalso
      rw [exF_f (c := pkC c N) 36 (fun k hk => ?_)] at e
      · exact absurd e (by decide)
      · unfold pkC
        by_cases h1 : k / 6 < N
        · by_cases h2 : k % 6 < N
          · rw [exF_no (exF_no e2 _ h1) _ h2, Bool.and_false, Bool.and_false]
          · rw [decide_eq_false h2]; simp
        · rw [decide_eq_false h1]; rfl
theorem KR.bk (hk : KR I 1260 π τ) {t o : Nat} (ht : t < nT π) {I4 : Nat → Nat → Int32} (hk4 : KR I4 1260 π (modF τ t o)) : KR (u2 I4 263 (1260 + 1 + t) (nI (τ 1 t))) 1260 π τ := by
  have hT := hk.w.t
  exact (hk4.set (k := 1) (i := t) (n := τ 1 t) (by decide) (by omega) (by omega) rfl (hk4.v.up (by omega) (fun _ => (hk.v.2.1 t ht).1) (by omega) (by omega) (by omega) (by omega) (by omega))).congr (fun k i _ _ => (mod_back τ t o k i).symm)
theorem m250 {p : Nat} (hp : p < nP π) : ∀ (n D : Nat) (τ : ST) (I : Nat → Nat → Int32) (P : Int32 → mm_M → Prop), n ≤ 2 → 6 + n ≤ D → KR I 1260 π τ → (∀ I', Fs 1260 I I' → KR I' 1260 π τ → P (bI (menF π p n τ)) (mem r I' J)) → CI G D 250 [.ref 247, .int 1260, .int (nI p), .int (nI n)] (mem r I J) P := by
  intro n
  induction n with
  | zero =>
    intro D τ I P _ hD hk h
    obtain ⟨d, rfl⟩ : ∃ d, D = d + 6 := ⟨D - 6, by omega⟩
    have hT := hk.w.t
    refine e250 ?_
    simp only [mKm, mNm, mIm, mIf, mJm, mJf, mRm, sIm, sJm, rwIm, rwJm, kN, nN, rN, true_and]
    refine m237 (b := 1260) hk hp (fun I1 hf1 => ?_)
    have h := h I1 (Fs.of hf1) (hk.fr hf1)
    unfold menF at h
    have e0 := setF_0 (fitF π τ p) (nT π)
    have hw : setF (fitF π τ p) (nT π) < 2 ^ 6 := setF_le _ hT
    cases e : exF (fitF π τ p) (nT π) with
    | false =>
      rw [e] at h e0
      rw [eq_of_beq e0]
      exact ifp rfl (x250_17 (ifn (by decide) (ifp (by decide) ⟨Or.inl rfl, _, rfl, h⟩)))
    | true =>
      rw [e] at h e0
      exact ifn (nI_ne0 (by have := ne_of_beq_false e0; omega) (by omega)) h
  | succ n ihn =>
    intro D τ I P hn2 hD hk h
    obtain ⟨d, rfl⟩ : ∃ d, D = d + 6 := ⟨D - 6, by omega⟩
    have hT := hk.w.t
    refine e250 ?_
    simp only [mKm, mNm, mIm, mIf, mJm, mJf, mRm, sIm, sJm, rwIm, rwJm, kN, nN, rN, true_and]
    refine m237 (b := 1260) hk hp (fun I1 hf1 => ?_)
    have e0 := setF_0 (fitF π τ p) (nT π)
    have hw : setF (fitF π τ p) (nT π) < 2 ^ 6 := setF_le _ hT
    unfold menF at h
    cases e : exF (fitF π τ p) (nT π) with
    | true =>
      have h := h I1 (Fs.of hf1) (hk.fr hf1)
      rw [e] at h e0
      exact ifn (nI_ne0 (by have := ne_of_beq_false e0; omega) (by omega)) h
    | false =>
      rw [e] at e0
      rw [eq_of_beq e0]
      rw [e, Bool.false_or, pk_ex (c := fun t o => menF π p n (modF τ t o)) hT] at h
      refine ifp rfl ?_
      have fin : ∀ k I2, Fs 1260 I I2 → KR I2 1260 π τ → exF (pkC (fun t o => menF π p n (modF τ t o)) (nT π)) 36 = true → XX G (d + 5) (some .boolean) P250 (QI P) 17 [.ref 247, .int 1260, .int (nI p), .int (nI (n + 1)), .int 1, .int (nI k), jk, jk, jk] [] (mem r I2 J) := fun k I2 hf2 hk2 ht => by
        have h := h I2 hf2 hk2
        rw [ht] at h
        exact x250_17 (ifb (fun _ => ⟨Or.inr rfl, _, rfl, h⟩) (fun _ => ifn (nI_nle (by omega) (by omega)) (ifp (by decide) ⟨Or.inr rfl, _, rfl, h⟩)))
      refine lp (n := 36) (X := fun k => (∀ k', k' < k → pkC (fun t o => menF π p n (modF τ t o)) (nT π) k' = false) → ∀ I', Fs 1260 I I' → KR I' 1260 π τ → XX G (d + 5) (some .boolean) P250 (QI P) 17 [.ref 247, .int 1260, .int (nI p), .int (nI (n + 1)), .int 0, .int (nI k), jk, jk, jk] [] (mem r I' J)) (fun hno I2 hf2 hk2 => ?_) (fun k hkn ih hno I2 hf2 hk2 => ?_) (fun t' ht' => by omega) I1 (Fs.of hf1) (hk.fr hf1)
      · have h := h I2 hf2 hk2
        rw [exF_f _ hno] at h
        exact x250_17 (ifp (by decide) ⟨Or.inl rfl, _, rfl, h⟩)
      · refine x250_17 (ifn (nI_ge (b := 36) hkn (by decide)) (ifn (nI_nle (by omega) (by omega)) (ifn (fun z => z rfl) ?_)))
        rw [show (6 : Int32) = nI 6 from rfl, pk_rem (by omega) (by decide) (by decide), pk_div (by omega) (by decide) (by decide)]
        have skip : pkC (fun t o => menF π p n (modF τ t o)) (nT π) k = false → ∀ I3, Fs 1260 I I3 → KR I3 1260 π τ → XX G (d + 5) (some .boolean) P250 (QI P) 17 [.ref 247, .int 1260, .int (nI p), .int (nI (n + 1)), .int 0, .int (nI k + 1), jk, jk, jk] [] (mem r I3 J) := fun e I3 hf3 hk3 => by
          rw [nI_1]
          refine ih (fun k' hk' => ?_) I3 hf3 hk3
          by_cases e2 : k' = k
          · subst e2; exact e
          · exact hno k' (by omega)
        refine b250_17_47 ⟨rfl, ?_⟩
        by_cases h1 : k / 6 < nT π
        · refine m203 hk2.p hk2.w h1 (ifn (by decide) ⟨rfl, ?_⟩)
          by_cases h2 : k % 6 < nT π
          · refine m203 hk2.p hk2.w h2 (ifn (by decide) ?_)
            have ea : nI 1260 + 1 + nI (k / 6) = nI (1260 + 1 + k / 6) := (eS 1260 (k / 6)).2.1
            have ea' : (1260 : Int32) + 1 + nI (k / 6) = nI (1260 + 1 + k / 6) := ea
            simp only [mKm, mNm, mIm, mIf, mJm, mJf, mRm, sIm, sJm, rwIm, rwJm, kN, nN, rN, true_and, ea', ix (show 1260 + 1 + k / 6 < 1380 by omega) (by decide), hk2.r1 h1]
            have ec : pkC (fun t o => menF π p n (modF τ t o)) (nT π) k = menF π p n (modF τ (k / 6) (k % 6)) := by
              unfold pkC; rw [decide_eq_true h1, decide_eq_true h2]; rfl
            have tail : ∀ (S : List Instr), (S = S250_95_128 ∨ S = S250_104_128) → ∀ I3, Fs 1260 I2 I3 → KR I3 1260 π (modF τ (k / 6) (k % 6)) → CI G (d + 5) 250 [.ref 247, .int 1260, .int (nI p), .int (nI (n + 1) - 1)] (mem r I3 J) (fun v3 N4 => mK N4 247 = 12 ∧ (mK N4 (mR N4 247 24) = 14 ∧ vp_in ((1260 + 1) + nI (k / 6)) (mN N4 (mR N4 247 24))) ∧ BB G (d + 5) (some .boolean) P250 (QI P) S 128 [.ref 247, .int 1260, .int (nI p), .int (nI (n + 1)), .int v3, .int (nI k), .int (nI (k / 6)), .int (nI (k % 6)), .int (nI (τ 1 (k / 6)))] [] (sI N4 (mR N4 247 24) (((1260 : Int32) + 1 + nI (k / 6)).toNatClampNeg) (nI (τ 1 (k / 6))))) := fun S hS I3 hf3 hk3 => by
              rw [nI_pred]
              refine ihn (d + 5) (modF τ (k / 6) (k % 6)) I3 _ (by omega) (by omega) hk3 (fun I4 hf4 hk4 => ?_)
              simp only [mKm, mNm, mIm, mIf, mJm, mJf, mRm, sIm, sJm, rwIm, rwJm, kN, nN, rN, true_and, ea', ix (show 1260 + 1 + k / 6 < 1380 by omega) (by decide)]
              have hk5 := hk2.bk h1 hk4
              have hf5 : Fs 1260 I (u2 I4 263 (1260 + 1 + k / 6) (nI (τ 1 (k / 6)))) := ((hf2.trans hf3).trans hf4).set (by omega)
              have go : XX G (d + 5) (some .boolean) P250 (QI P) 17 [.ref 247, .int 1260, .int (nI p), .int (nI (n + 1)), .int (bI (menF π p n (modF τ (k / 6) (k % 6)))), .int (nI k + 1), jk, jk, jk] [] (mem r (u2 I4 263 (1260 + 1 + k / 6) (nI (τ 1 (k / 6)))) J) := by
                cases em : menF π p n (modF τ (k / 6) (k % 6)) with
                | false => exact skip (by rw [ec, em]) _ hf5 hk5
                | true => rw [nI_1]; exact fin (k + 1) _ hf5 hk5 (exF_t (i := k) (by rw [ec, em]) 36 hkn)
              rcases hS with rfl | rfl
              · exact b250_95_128 go
              · exact b250_104_128 go
            refine b250_17_78 (ifb (fun q => ⟨rfl, ?_⟩) (fun q => ⟨rfl, ?_⟩))
            · have q' : ¬ k / 6 = k % 6 := fun z => q (by rw [z])
              refine m228 (b := 1260) hk2 h1 h2 (fun I3 hf3 hk3 => ⟨rfl, ?_⟩)
              exact tail _ (Or.inl rfl) I3 hf3 (by unfold modF; rw [if_neg q']; exact hk3)
            · have q' : k / 6 = k % 6 := (nI_eq (by omega) (by omega)).mp (Decidable.not_not.mp q)
              refine m230 (b := 1260) hk2 h1 (fun I3 hf3 hk3 => ⟨rfl, ?_⟩)
              exact tail _ (Or.inr rfl) I3 hf3 (by unfold modF; rw [if_pos q']; exact hk3)
          · exact m203o hk2.p (fun z => h2 ((nI_ltI (by omega) (by omega)).mp z.2)) (ifp rfl (skip (by unfold pkC; rw [decide_eq_false h2]; simp) I2 hf2 hk2))
        · exact m203o hk2.p (fun z => h1 ((nI_ltI (by omega) (by omega)).mp z.2)) (ifp rfl (skip (by unfold pkC; rw [decide_eq_false h1]; rfl) I2 hf2 hk2))
theorem m249 {p : Nat} (hk : KR I 0 π σ) (hp : p < nP π) (h : ∀ I', FT 1260 I I' → P (meV π p σ) (mem r I' J)) : CI G (d + 10) 249 [.ref 247, .int (nI p)] (mem r I J) P := by
  refine e249 ?_
  simp only [mKm, mNm, mIm, mIf, mJm, mJf, mRm, sIm, sJm, rwIm, rwJm, kN, nN, rN, true_and]
  refine m220k (b := 0) (t := 1260) hk.t0 (by decide) (by decide) (fun I1 hf1 hk1 => ?_)
  unfold meV at h
  have step : ∀ n, n ≤ 2 → ∀ I3, FT 1260 I I3 → KR I3 1260 π σ → (∀ I', FT 1260 I I' → KR I' 1260 π σ → menF π p n σ = true → P (nI n) (mem r I' J)) → (∀ I', FT 1260 I I' → KR I' 1260 π σ → menF π p n σ = false → XX G (d + 9) (some .int) P249 (QI P) 17 [.ref 247, .int (nI p), .int (nI (n + 1))] [] (mem r I' J)) → XX G (d + 9) (some .int) P249 (QI P) 17 [.ref 247, .int (nI p), .int (nI n)] [] (mem r I3 J) := fun n hn I3 hf3 hk3 hy hno => by
    refine x249_17 (ifn (nI_nlt (a := 2) (b := n) (by omega) (by decide)) ⟨rfl, m212 hk3.p hk3.w hp (ifn (by decide) ⟨rfl, ?_⟩)⟩)
    refine m250 hp n (d + 9) σ I3 _ hn (by omega) hk3 (fun I4 hf4 hk4 => ?_)
    have h4 : FT 1260 I I4 := Fs.trans hf3 hf4
    cases e : menF π p n σ with
    | false => exact ifp rfl (by rw [nI_1]; exact hno I4 h4 hk4 e)
    | true => exact ifn (by decide) ⟨_, rfl, hy I4 h4 hk4 e⟩
  refine step 0 (by decide) I1 hf1 hk1 (fun I' hf' _ e => by have h := h I' hf'; rw [if_pos e] at h; exact h) (fun I3 hf3 hk3 e0 => ?_)
  refine step 1 (by decide) I3 hf3 hk3 (fun I' hf' _ e => by have h := h I' hf'; rw [if_neg (by rw [e0]; decide), if_pos e] at h; exact h) (fun I4 hf4 hk4 e1 => ?_)
  refine step 2 (by decide) I4 hf4 hk4 (fun I' hf' _ e => by have h := h I' hf'; rw [if_neg (by rw [e0]; decide), if_neg (by rw [e1]; decide), if_pos e] at h; exact h) (fun I5 hf5 hk5 e2 => ?_)
  refine x249_17 (ifp (by decide) ⟨_, rfl, ?_⟩)
  have h := h I5 hf5
  rw [if_neg (by rw [e0]; decide), if_neg (by rw [e1]; decide), if_neg (by rw [e2]; decide)] at h
  exact h
theorem m249o {x : Int32} (hk : KR I 0 π σ) (hx : ¬ (0 ≤ x ∧ x < nI (nP π))) (h : ∀ I', FT 1260 I I' → P (-1) (mem r I' J)) : CI G (d + 10) 249 [.ref 247, .int x] (mem r I J) P := by
  refine e249 ?_
  simp only [mKm, mNm, mIm, mIf, mJm, mJf, mRm, sIm, sJm, rwIm, rwJm, kN, nN, rN, true_and]
  refine m220k (b := 0) (t := 1260) hk.t0 (by decide) (by decide) (fun I1 hf1 hk1 => x249_17 (ifn (by decide) ⟨rfl, ?_⟩))
  exact m212o hk1.p hx (ifp rfl ⟨_, rfl, h I1 hf1⟩)
theorem L132 {M : mm_M} (h : PR y M) (x : Int32) : EQ G (d + 40) 132 249 y [.int x] M := by
  obtain ⟨r, I, J, π, σ, us, ms, fe, ln, nm, tp, rfl, hA, hR, hY⟩ := h
  have hP := hA.w.p
  by_cases q : 0 ≤ x ∧ x < nI (nP π)
  · obtain ⟨p, hp, rfl⟩ := inR (by omega) q
    exact d132 hA.k hp (fun I1 J1 hf1 hj1 => ⟨rfl, m249 (hR.k.lo (sc_hi hf1)) hp (fun I2 hf2 => ⟨rfl, PR_g hA hR hY (by omega) (fun a ha => hf1 a (scT_no ha)) (fun a ha => hj1 a (by omega)) hf2.lo (fun _ _ => rfl) (hf2.keep (by decide))⟩)⟩)
  · exact d132o hA.k q ⟨rfl, m249o hR.k q (fun I2 hf2 => ⟨rfl, PR_t hA hR hY (by omega) Fr.rfl (by decide) hf2⟩)⟩
end
