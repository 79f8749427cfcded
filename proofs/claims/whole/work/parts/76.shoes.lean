/-! the most who can be shod, the farthest roads -/
def caF (π : PLN) (σ : ST) (p t : Nat) : Bool := σ 5 p == 0 && (havF π σ t == 0 && fitF π σ p t)
def wtF (π : PLN) (b : Bool) (t : Nat) : Nat := if b then rdn (π.1 5 t) else 1
theorem wt_b (π : PLN) (b : Bool) (t : Nat) : wtF π b t ≤ 3 := by
  unfold wtF rdn
  repeat' split
  all_goals omega
def maB (π : PLN) (σ : ST) (b : Bool) : Nat × List Nat := bes (caF π σ) (wtF π b) (nT π) (nP π) 0 0
def maV (π : PLN) (σ : ST) (b : Bool) (x : Int32) : Int32 := if x = -1 then nI (maB π σ b).1 else nI ((maB π σ b).2.getD x.toNatClampNeg 0) - 1
def scM : List Nat := [15, 245, 234, 235, 236, 237, 238]
theorem scM_no {a : Nat} (h : live a ∨ 247 ≤ a) : a ∉ scM := by unfold live at h; simp [scM]; omega
section
variable {G : GG} {d : Nat} {P : Int32 → mm_M → Prop} {Pv : mm_M → Prop} {Q : Option Value → mm_M → Prop} {r : Nat → Nat} {I : Nat → Nat → Int32} {J : Nat → Nat → Int64} {π : PLN} {σ : Nat → Nat → Nat} {us : List ST} {fe : FE} {ms : Nat → Option (ST × FE)} {ln : LN} {nm : NMT} {tp : List Nat} {y : Nat}
theorem KS.fM {I' : Nat → Nat → Int32} (hk : KS I 38 π σ) (hf : Fr scM I I') : KS I' 38 π σ := hk.lo (fun a ha => hf a (by simp [scM]; omega))
theorem d129 (hk : KS I 38 π σ) (h : ∀ f, f < 2 ^ nT π → (∀ t, t < nT π → f.testBit t = (bearF π (σ 0 0) t && havF π σ t == 0)) → P (nI f) (mem r I J)) : CI G (d + 5) 129 [.ref 1] (mem r I J) P := by
  have hT := hk.w.t
  have hP := hk.w.p
  refine e129 ?_
  simp only [mKm, mNm, mIm, mIf, mJm, mJf, mRm, sIm, sJm, rwIm, rwJm, kN, nN, rN, true_and]
  refine d85 hk ?_
  refine lp (n := nT π) (X := fun k => ∀ f, f < 2 ^ nT π → (∀ t, t < nT π → f.testBit t = (bearF π (σ 0 0) t && (decide (k ≤ t) || havF π σ t == 0))) → XX G (d + 4) (some .int) P129 (QI P) 10 [.ref 1, .int (nI f), .int (nI k)] [] (mem r I J)) (fun f hf hb => ?_) (fun k hkn ih f hf hb => ?_) _ (setF_lt _ _) (fun t ht => by rw [setF_tb _ ht]; simp)
  · refine x129_10 ?_
    simp only [mKm, mNm, mIm, mIf, mJm, mJf, mRm, sIm, sJm, rwIm, rwJm, kN, nN, rN, true_and, hk.p.n0]
    refine ifp (nI_le (Nat.le_refl _) (by omega)) ⟨_, rfl, h f hf (fun t ht => ?_)⟩
    rw [hb t ht, decide_eq_false (by omega), Bool.false_or]
  · refine x129_10 ?_
    simp only [mKm, mNm, mIm, mIf, mJm, mJf, mRm, sIm, sJm, rwIm, rwJm, kN, nN, rN, true_and, hk.p.n0]
    refine ifn (nI_ge hkn (by omega)) (d72 hk (by omega) ?_)
    have hl : havF π σ k < 2 ^ 6 := setF_le _ hP
    rw [nI_1]
    by_cases q : havF π σ k = 0
    · rw [q]
      refine ifp rfl (ih f hf (fun t ht => ?_))
      rw [hb t ht]
      by_cases e : t = k
      · subst e; rw [q, decide_eq_true (Nat.le_refl _), decide_eq_false (by omega)]; rfl
      · congr 2
        by_cases e2 : k ≤ t
        · rw [decide_eq_true e2, decide_eq_true (by omega)]
        · rw [decide_eq_false e2, decide_eq_false (by omega)]
    · refine ifn (nI_ne0 (by omega) (by omega)) (b129_10_43 ?_)
      rw [an_1 f (Nat.lt_of_lt_of_le hf (p2_64 hT)) k (by omega)]
      refine ih _ (Nat.lt_of_le_of_lt Nat.and_le_left hf) (fun t ht => ?_)
      have h2 : 2 ^ k < 64 := Nat.pow_lt_pow_right (a := 2) (n := 6) (by decide) (by omega)
      rw [Nat.testBit_and, hb t ht, tb_63 _ h2 t (by omega), tb_2 k (by omega) t (by omega)]
      by_cases e : t = k
      · subst e
        rw [decide_eq_false (show ¬ t + 1 ≤ t by omega), beq_false_of_ne q]
        simp
      · rw [decide_eq_false e]
        by_cases e2 : k ≤ t
        · rw [decide_eq_true e2, decide_eq_true (by omega)]; simp
        · rw [decide_eq_false e2, decide_eq_false (by omega)]; simp
theorem d128c {b : Bool} {x : Int32} {f : Nat} {I1 : Nat → Nat → Int32} (hk : KS I 38 π σ) (hf1 : Fr scM I I1) (hz : SZ I1 π σ) (hfr : f < 64) (hb : ∀ t, t < nT π → f.testBit t = (bearF π (σ 0 0) t && havF π σ t == 0)) (h4 : I1 234 4 = nI (nP π)) (h5 : I1 234 5 = nI (nT π)) (hx : x = -1 ∨ ∃ p, p < nP π ∧ x = nI p) (h : ∀ I', Fr scM I I' → P (maV π σ b x) (mem r I' J)) : XX G (d + 7) (some .int) P128 (QI P) 56 [.ref 1, .int x, .int (bI b), .int (nI f), .int 0, jk] [] (mem r I1 J) := by
  have hT := hk.w.t
  have hP := hk.w.p
  refine lp (n := nT π) (X := fun t => ∀ I', Fr scM I I' → SZ I' π σ → I' 234 4 = nI (nP π) → I' 234 5 = nI (nT π) → (∀ i, i < t → I' 236 i = nI (wtF π b i)) → XX G (d + 7) (some .int) P128 (QI P) 56 [.ref 1, .int x, .int (bI b), .int (nI f), .int (nI t), jk] [] (mem r I' J)) (fun I2 hf2 hz2 h42 h52 hw2 => ?_) (fun t ht ih I2 hf2 hz2 h42 h52 hw2 => ?_) I1 hf1 hz h4 h5 (fun i hi => by omega)
  · have hk2 := hk.fM hf2
    refine x128_56 ?_
    simp only [mKm, mNm, mIm, mIf, mJm, mJf, mRm, sIm, sJm, rwIm, rwJm, kN, nN, rN, true_and, hk2.p.n0]
    refine ifp (nI_le (Nat.le_refl _) (by omega)) ?_
    refine lp (n := nP π) (X := fun p => ∀ I', Fr scM I I' → SZ I' π σ → I' 234 4 = nI (nP π) → I' 234 5 = nI (nT π) → (∀ i, i < nT π → I' 236 i = nI (wtF π b i)) → (∀ i, i < p → ∃ a, a < 64 ∧ I' 235 i = nI a ∧ ∀ t, t < nT π → a.testBit t = caF π σ i t) → XX G (d + 7) (some .int) P128 (QI P) 104 [.ref 1, .int x, .int (bI b), .int (nI f), .int (nI p), jk] [] (mem r I' J)) (fun I3 hf3 hz3 h43 h53 hw3 hc3 => ?_) (fun p hp ih I3 hf3 hz3 h43 h53 hw3 hc3 => ?_) I2 hf2 hz2 h42 h52 hw2 (fun i hi => by omega)
    · have hk3 := hk.fM hf3
      refine x128_104 ?_
      simp only [mKm, mNm, mIm, mIf, mJm, mJf, mRm, sIm, sJm, rwIm, rwJm, kN, nN, rN, true_and, hk3.p.n1]
      refine ifp (nI_le (Nat.le_refl _) (by omega)) ?_
      have hM : MT I3 (caF π σ) (wtF π b) (nP π) (nT π) := ⟨hP, hT, wt_b π b, h43, h53, hc3, hw3⟩
      refine d19 hM (fun I4 hf4 ht4 hr4 => ?_)
      have h := h I4 (hf3.trans (hf4.mono (by simp [scM])))
      unfold maV at h
      rcases hx with rfl | ⟨p, hp, rfl⟩
      · simp only [mKm, mNm, mIm, mIf, mJm, mJf, mRm, sIm, sJm, rwIm, rwJm, kN, nN, rN, true_and, ht4]
        exact ifn (fun z => z (by first | exact rfl | exact trivial)) ⟨_, rfl, h⟩
      · refine ifp (nI_nm (by omega)) ?_
        simp only [mKm, mNm, mIm, mIf, mJm, mJf, mRm, sIm, sJm, rwIm, rwJm, kN, nN, rN, true_and, ix (show p < 6 by omega) (by decide), hr4 p hp]
        rw [if_neg (nI_nm (by omega)), nI_clamp (by omega)] at h
        exact ⟨_, rfl, h⟩
    · have hk3 := hk.fM hf3
      have hp6 : p < 6 := by omega
      have h5p := (hk.v.2.2 p hp).2.2.1
      have step : ∀ a, a < 64 → (∀ t, t < nT π → a.testBit t = caF π σ p t) → XX G (d + 7) (some .int) P128 (QI P) 104 [.ref 1, .int x, .int (bI b), .int (nI f), .int (nI (p + 1)), jk] [] (mem r (u2 I3 235 p (nI a)) J) := fun a ha hc => by
        refine ih _ (hf3.u2 (by decide)) (fun t ht => by rw [u2n (by decide)]; exact hz3 t ht) (by rw [u2n (by decide)]; exact h43) (by rw [u2n (by decide)]; exact h53) (fun i hi => by rw [u2n (by decide)]; exact hw3 i hi) (fun i hi => ?_)
        by_cases e : i = p
        · subst e; exact ⟨a, ha, u2s, hc⟩
        · obtain ⟨a', g1, g2, g3⟩ := hc3 i (by omega)
          exact ⟨a', g1, by rw [u2i e]; exact g2, g3⟩
      refine x128_104 ?_
      simp only [mKm, mNm, mIm, mIf, mJm, mJf, mRm, sIm, sJm, rwIm, rwJm, kN, nN, rN, true_and, stN hk3.st, hk3.p.n1, ix hp6 (by decide), hk3.r5 hp, sh_m1 (show σ 5 p < 2 ^ 30 by omega)]
      refine ifn (nI_ge hp (by omega)) (ifb (fun q => b128_166_171 ?_) (fun q => ?_))
      · rw [nI_1]
        exact step 0 (by decide) (fun t ht => by rw [Nat.zero_testBit]; unfold caF; rw [beq_false_of_ne q]; rfl)
      · rw [Decidable.not_not] at q
        refine d124 hk3 hz3 hp ?_
        simp only [mKm, mNm, mIm, mIf, mJm, mJf, mRm, sIm, sJm, rwIm, rwJm, kN, nN, rN, true_and, ix hp6 (by decide)]
        refine b128_167_171 ?_
        rw [fa_and, nI_1]
        refine step _ (Nat.lt_of_le_of_lt Nat.and_le_right hfr) (fun t ht => ?_)
        rw [Nat.testBit_and, setF_tb _ ht, hb t ht]
        unfold caF
        rw [q]
        unfold fitF
        cases bearF π (σ 0 0) t <;> cases (havF π σ t == 0) <;> simp
  · have hk2 := hk.fM hf2
    have ht6 : t < 6 := by omega
    have step : ∀ v, v = nI (wtF π b t) → XX G (d + 7) (some .int) P128 (QI P) 56 [.ref 1, .int x, .int (bI b), .int (nI f), .int (nI (t + 1)), jk] [] (mem r (u2 I2 236 t v) J) := fun v hv => by
      refine ih _ (hf2.u2 (by decide)) (fun t ht => by rw [u2n (by decide)]; exact hz2 t ht) (by rw [u2n (by decide)]; exact h42) (by rw [u2n (by decide)]; exact h52) (fun i hi => ?_)
      by_cases e : i = t
      · subst e; rw [u2s]; exact hv
      · rw [u2i e]; exact hw2 i (by omega)
    refine x128_56 ?_
    simp only [mKm, mNm, mIm, mIf, mJm, mJf, mRm, sIm, sJm, rwIm, rwJm, kN, nN, rN, true_and, hk2.p.n0, ix ht6 (by decide), bI_0]
    refine ifn (nI_ge ht (by omega)) (ifb (fun q => ?_) (fun q => ?_))
    · rw [nI_1]
      exact step 1 (by rw [q]; rfl)
    · refine d60 hk2.p hk2.w ht ?_
      simp only [mKm, mNm, mIm, mIf, mJm, mJf, mRm, sIm, sJm, rwIm, rwJm, kN, nN, rN, true_and, ix ht6 (by decide)]
      rw [nI_1]
      rw [Bool.not_eq_false] at q
      exact step _ (by rw [q]; rfl)
theorem d128t {b : Bool} {x : Int32} (hk : KS I 38 π σ) (hx : x = -1 ∨ ∃ p, p < nP π ∧ x = nI p) (h : ∀ I', Fr scM I I' → P (maV π σ b x) (mem r I' J)) : CV G (d + 7) 123 [.ref 1, .ref 38] (mem r I J) (fun N2 => mK N2 1 = 11 ∧ CI G (d + 7) 129 [.ref 1] N2 (fun v3 N4 => mK N4 1 = 11 ∧ mK N4 1 = 11 ∧ mK N4 (mR N4 1 1) = 7 ∧ mK N4 1 = 11 ∧ mK N4 (mR N4 1 1) = 7 ∧ mK N4 (mR N4 1 9) = 3 ∧ CV G (d + 7) 18 [.ref (mR N4 1 9), .int (mI N4 (mR N4 1 1) 1), .int (mI N4 (mR N4 1 1) 0)] N4 (fun N6 => XX G (d + 7) (some .int) P128 (QI P) 56 [.ref 1, .int x, .int (bI b), .int v3, .int 0, jk] [] N6))) := by
  have hT := hk.w.t
  have hP := hk.w.p
  refine d123 hk (fun I1 hf1 hz1 => ⟨rfl, ?_⟩)
  have hk1 := hk.fq hf1
  refine d129 hk1 (fun f hf hb => ?_)
  simp only [mKm, mNm, mIm, mIf, mJm, mJf, mRm, sIm, sJm, rwIm, rwJm, kN, nN, rN, true_and, hk1.p.n0, hk1.p.n1]
  refine e18 (c287 ?_)
  rw [show (6 : Int32) = nI 6 from rfl, m_min (by decide) (by omega), show min 6 (nP π) = nP π by omega]
  simp only [mKm, mNm, mIm, mIf, mJm, mJf, mRm, sIm, sJm, rwIm, rwJm, kN, nN, rN, true_and]
  refine c287 ?_
  rw [m_min (by decide) (by omega), show min 6 (nT π) = nT π by omega]
  simp only [mKm, mNm, mIm, mIf, mJm, mJf, mRm, sIm, sJm, rwIm, rwJm, kN, nN, rN, true_and]
  refine d128c hk (((hf1.mono (by simp [scM])).u2 (by decide)).u2 (by decide)) (fun t ht => by rw [u2n (by decide), u2n (by decide)]; exact hz1 t ht) (Nat.lt_of_lt_of_le hf (p2_64 hT)) hb (by rw [u2i (by decide), u2s]) u2s hx h
theorem d128 {b : Bool} {x : Int32} (hk : KS I 38 π σ) (hx : x = -1 ∨ ∃ p, p < nP π ∧ x = nI p) (h : ∀ I', Fr scM I I' → P (maV π σ b x) (mem r I' J)) : CI G (d + 8) 128 [.ref 1, .int x, .int (bI b)] (mem r I J) P := by
  have hP := hk.w.p
  have t := d128t (G := G) (d := d) (r := r) (J := J) hk hx h
  refine e128 (ifb (fun q => ?_) (fun q => ?_))
  · simp only [mKm, mNm, mIm, mIf, mJm, mJf, mRm, sIm, sJm, rwIm, rwJm, kN, nN, rN, true_and]
    exact t
  · rcases hx with e | ⟨p, hp, rfl⟩
    · exact absurd e q
    · simp only [mKm, mNm, mIm, mIf, mJm, mJf, mRm, sIm, sJm, rwIm, rwJm, kN, nN, rN, true_and]
      refine d58 hk.p hk.w hp (ifp (by decide) ?_)
      simp only [mKm, mNm, mIm, mIf, mJm, mJf, mRm, sIm, sJm, rwIm, rwJm, kN, nN, rN, true_and]
      exact t
theorem d128o {b : Bool} {x : Int32} (hk : KS I 38 π σ) (hx : ¬ x = -1) (hx2 : ¬ (0 ≤ x ∧ x < nI (nP π))) (h : P (-2) (mem r I J)) : CI G (d + 8) 128 [.ref 1, .int x, .int (bI b)] (mem r I J) P := by
  refine e128 (ifn hx ?_)
  simp only [mKm, mNm, mIm, mIf, mJm, mJf, mRm, sIm, sJm, rwIm, rwJm, kN, nN, rN, true_and]
  exact d58o hk.p hx2 (ifn (fun z => z rfl) (by rw [m2]; exact h))
/-! the other side's search -/
def upD (x : Nat × List Nat) (s : Nat) (pre : List Nat) (y : Nat × List Nat) : Nat × List Nat := if x.1 < s + y.1 + 1 then (s + y.1 + 1, pre ++ y.2) else x
def upO (x : Nat × List Nat) (s : Nat) (pre : List Nat) : Option (Nat × List Nat) → Nat × List Nat
  | none => x
  | some y => upD x s pre y
theorem up_up (x : Nat × List Nat) (s : Nat) (pre : List Nat) (y z : Nat × List Nat) : upD (upD x s pre y) s pre z = upD x s pre (pickF y z) := by
  unfold upD pickF
  by_cases h1 : x.1 < s + y.1 + 1
  · rw [if_pos h1]
    by_cases h2 : y.1 < z.1
    · rw [if_pos (show s + y.1 + 1 < s + z.1 + 1 by omega), if_pos h2, if_pos (show x.1 < s + z.1 + 1 by omega)]
    · rw [if_neg (show ¬ s + y.1 + 1 < s + z.1 + 1 by omega), if_neg h2, if_pos h1]
  · rw [if_neg h1]
    by_cases h2 : y.1 < z.1
    · rw [if_pos h2]
    · rw [if_neg h2, if_neg h1, if_neg (by omega)]
theorem up_end (x : Nat × List Nat) (s : Nat) (pre : List Nat) (o : Option (Nat × List Nat)) (z : Nat × List Nat) : upD (upO x s pre o) s pre z = upD x s pre (endF o z) := by
  cases o with
  | none => rfl
  | some y => exact up_up x s pre y z
theorem up_cd (x : Nat × List Nat) (s w a : Nat) (pre : List Nat) (y : Nat × List Nat) : upD x (s + w) (pre ++ [a]) y = upD x s pre (w + y.1, a :: y.2) := by
  unfold upD
  rw [List.append_assoc, Nat.add_assoc s w y.1]; rfl
theorem up_b {x : Nat × List Nat} {s : Nat} {pre : List Nat} {y : Nat × List Nat} (h1 : x.1 ≤ 19) (h2 : s + y.1 ≤ 18) : (upD x s pre y).1 ≤ 19 := by
  unfold upD
  split
  · show s + y.1 + 1 ≤ 19; omega
  · exact h1
def Fde (I I' : Nat → Nat → Int32) : Prop := (∀ a, a ∉ [247, 261, 262, 265, 266] → I' a = I a) ∧ ∀ k, k ≠ 29 → I' 247 k = I 247 k
theorem Fde.rfl' : Fde I I := ⟨fun _ _ => rfl, fun _ _ => rfl⟩
theorem Fde.trans {I' I2 : Nat → Nat → Int32} (h : Fde I I') (h' : Fde I' I2) : Fde I I2 := ⟨fun a ha => (h'.1 a ha).trans (h.1 a ha), fun k hk => (h'.2 k hk).trans (h.2 k hk)⟩
theorem Fde.u {I' : Nat → Nat → Int32} {a k : Nat} {v : Int32} (h : Fde I I') (ha : a = 265 ∨ a = 266) : Fde I (u2 I' a k v) := ⟨fun x hx => by rw [u2n (by simp at hx; omega)]; exact h.1 x hx, fun k hk => by rw [u2n (by omega)]; exact h.2 k hk⟩
theorem Fde.u29 {I' : Nat → Nat → Int32} {v : Int32} (h : Fde I I') : Fde I (u2 I' 247 29 v) := ⟨fun x hx => by rw [u2n (by simp at hx; omega)]; exact h.1 x hx, fun k hk => by rw [u2i hk]; exact h.2 k hk⟩
theorem Fde.fr {I' I2 : Nat → Nat → Int32} (h : Fde I I') (hf : Fr [261, 262] I' I2) : Fde I I2 := ⟨fun a ha => by rw [hf a (by simp at ha ⊢; omega)]; exact h.1 a ha, fun k hk => by rw [hf 247 (by decide)]; exact h.2 k hk⟩
theorem KR.fd {I' : Nat → Nat → Int32} (hk : KR I 0 π σ) (h : Fde I I') : KR I' 0 π σ := hk.keep (fun a ha => h.1 a (by simp at ha ⊢; omega)) (fun k _ _ => by rw [h.1 263 (by decide)])
def DS (I : Nat → Nat → Int32) (N : Nat) (x : Nat × List Nat) : Prop := I 247 29 = nI x.1 - 1 ∧ (x.1 ≠ 0 → ∀ j, j < N → I 266 j = nI (x.2.getD j 0) - 1)
theorem getD_app {l : List Nat} {a j : Nat} (h : j < l.length) : (l ++ [a]).getD j 0 = l.getD j 0 := by
  rw [List.getD_eq_getElem?_getD, List.getD_eq_getElem?_getD, List.getElem?_append_left h]
theorem getD_last (l : List Nat) (a : Nat) : (l ++ [a]).getD l.length 0 = a := by
  rw [List.getD_eq_getElem?_getD, List.getElem?_append_right (Nat.le_refl _), Nat.sub_self]; rfl
theorem e19p (p : Nat) : (19 : Int32) + nI p = nI (0 + 19 + p) := (eU p).2.2.2.1
theorem m242 {b : Bool} : ∀ (k D p m s : Nat) (x : Nat × List Nat) (pre : List Nat) (I : Nat → Nat → Int32) (Pv : mm_M → Prop), p + k = nP π → k + 7 ≤ D → KR I 0 π σ → m < 64 → s + 3 * k ≤ 18 → x.1 ≤ 19 → pre.length = p → (∀ j, j < p → I 265 j = nI (pre.getD j 0) - 1) → DS I (nP π) x → (∀ I', Fde I I' → (∀ j, j < p → I' 265 j = I 265 j) → DS I' (nP π) (upD x s pre (bes (caF π σ) (wtF π b) (nT π) k p m)) → Pv (mem r I' J)) → CV G D 242 [.ref 247, .int (nI p), .int (nI m), .int (nI s), .int (bI b)] (mem r I J) Pv := by
  intro k
  induction k with
  | zero =>
    intro D p m s x pre I Pv hpk hD hk hm hs hx hl hd hS h
    obtain ⟨d, rfl⟩ : ∃ d, D = d + 7 := ⟨D - 7, by omega⟩
    have hP := hk.w.p
    have hp : p = nP π := by omega
    refine e242 ⟨rfl, m168 hk.p ?_⟩
    rw [hp]
    refine ifn (fun z => z rfl) ?_
    simp only [mKm, mNm, mIm, mIf, mJm, mJf, mRm, sIm, sJm, rwIm, rwJm, kN, nN, rN, true_and, hS.1]
    rw [sh_le (by omega) (by omega)]
    have eb : bes (caF π σ) (wtF π b) (nT π) 0 p m = (0, []) := rfl
    rw [eb] at h
    unfold upD at h
    dsimp only at h
    refine ifb (fun q => ?_) (fun q => ?_)
    · have h := h I Fde.rfl' (fun _ _ => rfl)
      rw [if_neg (by show ¬ x.1 < s + 0 + 1; omega)] at h
      exact h hS
    · rw [if_pos (show x.1 < s + 0 + 1 by omega)] at h
      refine lp (n := 6) (X := fun j => ∀ I', Fde I I' → I' 265 = I 265 → I' 247 29 = nI s → (∀ i, i < j → I' 266 i = I 265 i) → XX G (d + 6) none P242 (QV Pv) 24 [.ref 247, .int (nI (nP π)), .int (nI m), .int (nI s), .int (bI b), .int (nI j)] [] (mem r I' J)) (fun I1 hf1 h65 h29 h66 => ?_) (fun j hj ih I1 hf1 h65 h29 h66 => ?_) _ Fde.rfl'.u29 (u2n (by decide)) u2s (fun i hi => by omega)
      · refine x242_24 (ifp (by decide) ⟨rfl, h I1 hf1 (fun j _ => by rw [h65]) ⟨?_, fun _ j hj => ?_⟩⟩)
        · rw [h29]; exact (nI_pred s).symm
        · rw [h66 j (by omega), List.append_nil]; exact hd j (by omega)
      · refine x242_24 (ifn (nI_ge (b := 6) hj (by decide)) ?_)
        simp only [mKm, mNm, mIm, mIf, mJm, mJf, mRm, sIm, sJm, rwIm, rwJm, kN, nN, rN, true_and, ix hj (by decide)]
        refine b242_24_45 ?_
        rw [nI_1]
        refine ih _ (hf1.u (Or.inr rfl)) (by rw [u2n (by decide)]; exact h65) (by rw [u2n (by decide)]; exact h29) (fun i hi => ?_)
        by_cases e : i = j
        · subst e; rw [u2s, h65]
        · rw [u2i e]; exact h66 i (by omega)
  | succ k ihk =>
    intro D p m s x pre I Pv hpk hD hk hm hs hx hl hd hS h
    obtain ⟨d, rfl⟩ : ∃ d, D = d + 7 := ⟨D - 7, by omega⟩
    have hP := hk.w.p
    have hT := hk.w.t
    have hp : p < nP π := by omega
    have hp6 : p < 6 := by omega
    have h5 := (hk.v.2.2 p hp).2.2.1
    have hbb := bes_b (caF π σ) (wtF π b) (nT π) (wt_b π b)
    rw [bes_s, ← up_end] at h
    -- the last: none
    have fin : ∀ I1, Fde I I1 → (∀ j, j < p → I1 265 j = I 265 j) → DS I1 (nP π) (upO x s pre (selF (cnM (caF π σ) p m) (cdF (caF π σ) (wtF π b) (nT π) k p m) (nT π))) → (upO x s pre (selF (cnM (caF π σ) p m) (cdF (caF π σ) (wtF π b) (nT π) k p m) (nT π))).1 ≤ 19 → CV G (d + 6) 242 [.ref 247, .int (nI p + 1), .int (nI m), .int (nI s), .int (bI b)] (mem r (u2 I1 265 p (-1)) J) (fun N4 => QV Pv none N4) := fun I1 hf1 h65 hS1 hx1 => by
      rw [nI_1]
      refine ihk (d + 6) (p + 1) m s _ (pre ++ [0]) _ _ (by omega) (by omega) (hk.fd (hf1.u (Or.inl rfl))) hm (by omega) hx1 (by rw [List.length_append, hl]; rfl) (fun j hj => ?_) ⟨by rw [u2n (by decide)]; exact hS1.1, fun q j hj => by rw [u2n (by decide)]; exact hS1.2 q j hj⟩ (fun I2 hf2 h652 hS2 => ⟨rfl, h I2 ((hf1.u (Or.inl rfl)).trans hf2) (fun j hj => ?_) ?_⟩)
      · by_cases e : j = p
        · subst e; rw [u2s, ← hl, getD_last]; rfl
        · rw [u2i e, getD_app (by omega), h65 j (by omega)]; exact hd j (by omega)
      · rw [h652 j (by omega), u2i (by omega), h65 j hj]
      · have e1 := up_cd (upO x s pre (selF (cnM (caF π σ) p m) (cdF (caF π σ) (wtF π b) (nT π) k p m) (nT π))) s 0 0 pre (bes (caF π σ) (wtF π b) (nT π) k (p + 1) m)
        rw [Nat.add_zero, Nat.zero_add] at e1
        rw [e1] at hS2
        exact hS2
    refine e242 ⟨rfl, m168 hk.p (ifp (fun z => by have := (nI_eq (by omega) (by omega)).mp z; omega) ?_)⟩
    by_cases q5 : σ 5 p = 0
    · refine lp (n := nT π) (X := fun t => ∀ I', Fde I I' → (∀ j, j < p → I' 265 j = I 265 j) → DS I' (nP π) (upO x s pre (selF (cnM (caF π σ) p m) (cdF (caF π σ) (wtF π b) (nT π) k p m) t)) → (upO x s pre (selF (cnM (caF π σ) p m) (cdF (caF π σ) (wtF π b) (nT π) k p m) t)).1 ≤ 19 → XX G (d + 6) none P242 (QV Pv) 55 [.ref 247, .int (nI p), .int (nI m), .int (nI s), .int (bI b), .int (nI t)] [] (mem r I' J)) (fun I1 hf1 h65 hS1 hx1 => ?_) (fun t ht ih I1 hf1 h65 hS1 hx1 => ?_) I Fde.rfl' (fun _ _ => rfl) hS hx
      · have hk1 := hk.fd hf1
        refine x242_55 ⟨rfl, m166 hk1.p (ifp (nI_le (Nat.le_refl _) (by omega)) ?_)⟩
        simp only [mKm, mNm, mIm, mIf, mJm, mJf, mRm, sIm, sJm, rwIm, rwJm, kN, nN, rN, true_and, ix hp6 (by decide)]
        exact fin I1 hf1 h65 hS1 hx1
      · have hk1 := hk.fd hf1
        have ht6 : t < 6 := by omega
        have skip : cnM (caF π σ) p m t = false → ∀ I2, Fde I I2 → (∀ j, j < p → I2 265 j = I 265 j) → DS I2 (nP π) (upO x s pre (selF (cnM (caF π σ) p m) (cdF (caF π σ) (wtF π b) (nT π) k p m) t)) → XX G (d + 6) none P242 (QV Pv) 55 [.ref 247, .int (nI p), .int (nI m), .int (nI s), .int (bI b), .int (nI t + 1)] [] (mem r I2 J) := fun e I2 hf2 h652 hS2 => by
          have es : selF (cnM (caF π σ) p m) (cdF (caF π σ) (wtF π b) (nT π) k p m) (t + 1) = selF (cnM (caF π σ) p m) (cdF (caF π σ) (wtF π b) (nT π) k p m) t := by
            show (if cnM (caF π σ) p m t then _ else _) = _
            rw [e]; rfl
          rw [nI_1]
          exact ih I2 hf2 h652 (by rw [es]; exact hS2) (by rw [es]; exact hx1)
        refine x242_55 ⟨rfl, m166 hk1.p (ifn (nI_ge ht (by omega)) ?_)⟩
        simp only [mKm, mNm, mIm, mIf, mJm, mJf, mRm, sIm, sJm, rwIm, rwJm, kN, nN, rN, true_and, e19p, ix (show 0 + 19 + p < 1380 by omega) (by decide), hk1.r5 hp, bit_at t (show t < 30 by omega) m hm, tb_dm]
        rw [q5]
        refine ifn (by decide) ?_
        cases e1 : m.testBit t with
        | true =>
          exact ifp (by decide) (skip (by unfold cnM; rw [e1]; simp) I1 hf1 h65 hS1)
        | false =>
          refine ifn (fun z => z rfl) ?_
          refine m210 (b := 0) hk1 (by omega) ?_
          have hl2 : havF π σ t < 2 ^ 6 := setF_le _ hP
          by_cases e2 : havF π σ t = 0
          · rw [e2]
            refine ifn (fun z => z rfl) ⟨rfl, ?_⟩
            refine m214 (b := 0) hk1 hp ht (fun I2 hf2 => ?_)
            have hf12 := hf1.fr hf2
            have h652 : ∀ j, j < p → I2 265 j = I 265 j := fun j hj => by rw [hf2 265 (by decide)]; exact h65 j hj
            have hS2 : DS I2 (nP π) (upO x s pre (selF (cnM (caF π σ) p m) (cdF (caF π σ) (wtF π b) (nT π) k p m) t)) := ⟨by rw [hf2 247 (by decide)]; exact hS1.1, fun q j hj => by rw [hf2 266 (by decide)]; exact hS1.2 q j hj⟩
            by_cases e3 : fitF π σ p t = true
            · rw [if_pos e3]
              refine ifn (by decide) ?_
              have ec : cnM (caF π σ) p m t = true := by unfold cnM caF; rw [q5, e2, e3, e1]; rfl
              have es : upO x s pre (selF (cnM (caF π σ) p m) (cdF (caF π σ) (wtF π b) (nT π) k p m) (t + 1)) = upD (upO x s pre (selF (cnM (caF π σ) p m) (cdF (caF π σ) (wtF π b) (nT π) k p m) t)) s pre (cdF (caF π σ) (wtF π b) (nT π) k p m t) := by
                show upO x s pre (if cnM (caF π σ) p m t then _ else _) = _
                rw [if_pos ec]
                cases selF (cnM (caF π σ) p m) (cdF (caF π σ) (wtF π b) (nT π) k p m) t with
                | none => rfl
                | some y => exact (up_up x s pre y _).symm
              have hm2 : m ||| 2 ^ t < 64 := Nat.or_lt_two_pow (n := 6) hm (Nat.pow_lt_pow_right (by decide) ht6)
              have hwb := wt_b π b t
              have go : ∀ s', s' = s + wtF π b t → CV G (d + 6) 242 [.ref 247, .int (nI p + 1), .int (nI (m ||| 2 ^ t)), .int (nI s'), .int (bI b)] (mem r (u2 I2 265 p (nI t)) J) (fun N12 => XX G (d + 6) none P242 (QV Pv) 55 [.ref 247, .int (nI p), .int (nI m), .int (nI s), .int (bI b), .int (nI t + 1)] [] N12) := fun s' hs' => by
                subst hs'
                rw [nI_1]
                refine ihk (d + 6) (p + 1) (m ||| 2 ^ t) (s + wtF π b t) _ (pre ++ [t + 1]) _ _ (by omega) (by omega) (hk.fd (hf12.u (Or.inl rfl))) hm2 (by omega) hx1 (by rw [List.length_append, hl]; rfl) (fun j hj => ?_) ⟨by rw [u2n (by decide)]; exact hS2.1, fun q j hj => by rw [u2n (by decide)]; exact hS2.2 q j hj⟩ (fun I3 hf3 h653 hS3 => ?_)
                · by_cases e : j = p
                  · subst e; rw [u2s, ← hl, getD_last, nI_pred]
                  · rw [u2i e, getD_app (by omega), h652 j (by omega)]; exact hd j (by omega)
                · rw [up_cd] at hS3
                  rw [nI_1]
                  have hbv : s + (cdF (caF π σ) (wtF π b) (nT π) k p m t).1 ≤ 18 := by
                    have := hbb k (p + 1) (m ||| 2 ^ t)
                    show s + (wtF π b t + (bes (caF π σ) (wtF π b) (nT π) k (p + 1) (m ||| 2 ^ t)).1) ≤ 18
                    omega
                  refine ih I3 ((hf12.u (Or.inl rfl)).trans hf3) (fun j hj => ?_) (by rw [es]; exact hS3) (by rw [es]; exact up_b hx1 hbv)
                  rw [h653 j (by omega), u2i (by omega), h652 j hj]
              simp only [mKm, mNm, mIm, mIf, mJm, mJf, mRm, sIm, sJm, rwIm, rwJm, kN, nN, rN, true_and, ix hp6 (by decide), bI_0, or_1 m hm t ht6]
              refine ifb (fun q => ?_) (fun q => ?_)
              · rw [nI_1 s]
                exact go (s + 1) (by rw [q]; rfl)
              · rw [Bool.not_eq_false] at q
                refine m223 (hk.fd (hf12.u (Or.inl rfl))).p hk.w ht ⟨rfl, ?_⟩
                rw [nI_add]
                exact go _ (by rw [q]; rfl)
            · rw [if_neg e3]
              rw [Bool.not_eq_true] at e3
              exact ifp rfl (skip (by unfold cnM caF; rw [e3]; simp) I2 hf12 h652 hS2)
          · refine ifp (nI_ne0 (by omega) (by omega)) (skip (by unfold cnM caF; rw [beq_false_of_ne e2]; simp) I1 hf1 h65 hS1)
    · have en : selF (cnM (caF π σ) p m) (cdF (caF π σ) (wtF π b) (nT π) k p m) (nT π) = none := by
        rcases sel_ok (cnM (caF π σ) p m) (cdF (caF π σ) (wtF π b) (nT π) k p m) (nT π) with ⟨e, -⟩ | ⟨t0, -, hc, -⟩
        · exact e
        · unfold cnM caF at hc
          rw [beq_false_of_ne q5] at hc
          exact absurd hc (by simp)
      rw [en] at fin
      have fin := fin I Fde.rfl' (fun _ _ => rfl) hS hx
      refine x242_55 ⟨rfl, m166 hk.p ?_⟩
      simp only [mKm, mNm, mIm, mIf, mJm, mJf, mRm, sIm, sJm, rwIm, rwJm, kN, nN, rN, true_and, ix hp6 (by decide), e19p, ix (show 0 + 19 + p < 1380 by omega) (by decide), hk.r5 hp]
      refine ifb (fun _ => fin) (fun _ => ifp ?_ fin)
      rw [sh_ix q5]; exact nI_pos' (by omega)
theorem m241t {b : Bool} {x : Int32} (hk : KR I 0 π σ) (hx : x = -1 ∨ ∃ p, p < nP π ∧ x = nI p) (h : ∀ I', Fde I I' → P (maV π σ b x) (mem r I' J)) : CV G (d + 16) 242 [.ref 247, .int 0, .int 0, .int 0, .int (bI b)] (mem r (u2 I 247 29 (-1)) J) (fun N2 => ifP (¬ x = -1) (mK N2 247 = 12 ∧ (mK N2 (mR N2 247 28) = 14 ∧ vp_in x (mN N2 (mR N2 247 28))) ∧ P (mI N2 (mR N2 247 28) x.toNatClampNeg) N2) (mK N2 247 = 12 ∧ P (mI N2 247 29) N2)) := by
  have hP := hk.w.p
  refine m242 (nP π) (d + 16) 0 0 0 (0, []) [] _ _ (by omega) (by omega) (hk.fd Fde.rfl'.u29) (by decide) (by omega) (by decide) rfl (fun j hj => by omega) ⟨u2s, fun z => absurd rfl z⟩ (fun I1 hf1 _ hS1 => ?_)
  have h := h I1 (Fde.rfl'.u29.trans hf1)
  have e : upD (0, []) 0 [] (bes (caF π σ) (wtF π b) (nT π) (nP π) 0 0) = ((maB π σ b).1 + 1, (maB π σ b).2) := by
    unfold upD
    rw [if_pos (by show 0 < _ + 1; omega), Nat.zero_add, List.nil_append]; rfl
  rw [e] at hS1
  obtain ⟨h29, h66⟩ := hS1
  rw [nI_pred] at h29
  unfold maV at h
  rcases hx with rfl | ⟨p, hp, rfl⟩
  · simp only [mKm, mNm, mIm, mIf, mJm, mJf, mRm, sIm, sJm, rwIm, rwJm, kN, nN, rN, true_and, h29]
    exact ifn (fun z => z (by first | exact rfl | exact trivial)) h
  · refine ifp (nI_nm (by omega)) ?_
    simp only [mKm, mNm, mIm, mIf, mJm, mJf, mRm, sIm, sJm, rwIm, rwJm, kN, nN, rN, true_and, ix (show p < 6 by omega) (by decide), h66 (by show _ + 1 ≠ 0; omega) p hp]
    rw [if_neg (nI_nm (by omega)), nI_clamp (by omega)] at h
    exact h
theorem m241 {b : Bool} {x : Int32} (hk : KR I 0 π σ) (hx : x = -1 ∨ ∃ p, p < nP π ∧ x = nI p) (h : ∀ I', Fde I I' → P (maV π σ b x) (mem r I' J)) : CI G (d + 17) 241 [.ref 247, .int x, .int (bI b)] (mem r I J) P := by
  have hP := hk.w.p
  have t := m241t (G := G) (d := d) (r := r) (J := J) hk hx h
  refine e241 (ifb (fun q => ?_) (fun q => ?_))
  · simp only [mKm, mNm, mIm, mIf, mJm, mJf, mRm, sIm, sJm, rwIm, rwJm, kN, nN, rN, true_and]
    exact t
  · rcases hx with e | ⟨p, hp, rfl⟩
    · exact absurd e q
    · refine ⟨rfl, m212 hk.p hk.w hp (ifp (by decide) ?_)⟩
      simp only [mKm, mNm, mIm, mIf, mJm, mJf, mRm, sIm, sJm, rwIm, rwJm, kN, nN, rN, true_and]
      exact t
theorem m241o {b : Bool} {x : Int32} (hk : KR I 0 π σ) (hx : ¬ x = -1) (hx2 : ¬ (0 ≤ x ∧ x < nI (nP π))) (h : P (-2) (mem r I J)) : CI G (d + 17) 241 [.ref 247, .int x, .int (bI b)] (mem r I J) P :=
  e241 (ifn hx ⟨rfl, m212o hk.p hx2 (ifn (fun z => z rfl) (by rw [m2]; exact h))⟩)
theorem PR_m {I1 I2 : Nat → Nat → Int32} (hA : CA r I J π σ us ms fe ln nm tp) (hR : RA I J π σ us ms fe ln nm tp) (hY : YB y σ us ms) (h1 : Fr scM I I1) (h2 : Fde (T0 I1) I2) : PR (y + 1) (mem r I2 J) := by
  refine PR_g hA hR hY (by omega) (fun a ha => h1 a (scM_no ha)) (fun _ _ => rfl) (fun a ha => ?_) (fun _ _ => rfl) ⟨fun a ha => ?_, fun k hk => ?_, fun k hk => ?_, rfl, rfl⟩
  · rw [h2.1 a (by simp; omega)]; exact u2n (by omega)
  · rw [h2.1 a (by simp at ha ⊢; omega)]; exact u2n (by simp at ha; omega)
  · rw [h2.1 263 (by decide)]; unfold T0; rw [u2n (by decide)]
  · rw [h2.2 k (by simp at hk; omega)]; unfold T0; rw [u2i (by simp at hk; omega)]
theorem Lm {b : Bool} {M : mm_M} (h : PR y M) (x : Int32) : CI G (d + 39) 128 [.ref 1, .int x, .int (bI b)] M (fun v N => mK N 247 = 12 ∧ CI G (d + 39) 241 [.ref 247, .int x, .int (bI b)] (sI N 247 0 0) (fun w N' => v = w ∧ PR (y + 1) N')) := by
  obtain ⟨r, I, J, π, σ, us, ms, fe, ln, nm, tp, rfl, hA, hR, hY⟩ := h
  have hP := hA.w.p
  by_cases q : x = -1 ∨ (0 ≤ x ∧ x < nI (nP π))
  · have hx : x = -1 ∨ ∃ p, p < nP π ∧ x = nI p := by
      rcases q with q | q
      · exact Or.inl q
      · exact Or.inr (inR (by omega) q)
    refine d128 hA.k hx (fun I1 hf1 => ⟨rfl, ?_⟩)
    have hk1 := (hR.k.lo (fun a ha => hf1 a (scM_no (Or.inr ha)))).t0
    simp only [mKm, mNm, mIm, mIf, mJm, mJf, mRm, sIm, sJm, rwIm, rwJm, kN, nN, rN, true_and]
    exact m241 hk1 hx (fun I2 hf2 => ⟨rfl, PR_m hA hR hY hf1 hf2⟩)
  · have q1 : ¬ x = -1 := fun z => q (Or.inl z)
    have q2 : ¬ (0 ≤ x ∧ x < nI (nP π)) := fun z => q (Or.inr z)
    refine d128o hA.k q1 q2 ⟨rfl, ?_⟩
    simp only [mKm, mNm, mIm, mIf, mJm, mJf, mRm, sIm, sJm, rwIm, rwJm, kN, nN, rN, true_and]
    exact m241o hR.k.t0 q1 q2 ⟨rfl, PR_m hA hR hY Fr.rfl Fde.rfl'⟩
theorem L127 {M : mm_M} (h : PR y M) (x : Int32) : EQ G (d + 40) 127 240 y [.int x] M := by
  have t := Lm (G := G) (d := d) (b := false) h x
  obtain ⟨r, I, J, π, σ, us, ms, fe, ln, nm, tp, rfl, hA, hR, hY⟩ := h
  refine e127 ⟨rfl, CI_mono t (fun v N z => ⟨z.1, e240 ⟨z.1, ?_, z.2⟩⟩)⟩
  exact z.1
theorem L130 {M : mm_M} (h : PR y M) (x : Int32) : EQ G (d + 40) 130 243 y [.int x] M := by
  have t := Lm (G := G) (d := d) (b := true) h x
  obtain ⟨r, I, J, π, σ, us, ms, fe, ln, nm, tp, rfl, hA, hR, hY⟩ := h
  refine e130 ⟨rfl, CI_mono t (fun v N z => ⟨z.1, e243 ⟨z.1, ?_, z.2⟩⟩)⟩
  exact z.1
end
