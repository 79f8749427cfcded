/-! told mornings judged -/
def linF (π : PLN) (τ : ST) (ln : LN) (i : Nat) : ST := if lK ln i = 0 then (if mayF π τ (lA ln i) (lB ln i) then tryF π τ (lA ln i) (lB ln i) else τ) else if lK ln i = 1 then (if mayShF π τ (lA ln i) (lB ln i) then shareF π τ (lA ln i) (lB ln i) else τ) else if lK ln i = 2 then graftF τ (lA ln i) (lB ln i) else if lK ln i = 3 then pruneF τ (lA ln i) else yearF π τ
def linC (π : PLN) (τ : ST) (ln : LN) (i : Nat) : Bool := if lK ln i = 0 then mayF π τ (lA ln i) (lB ln i) else if lK ln i = 1 then mayShF π τ (lA ln i) (lB ln i) else true
def linP (π : PLN) (τ : ST) (ln : LN) (i : Nat) : Bool := lK ln i == 0 && mayF π τ (lA ln i) (lB ln i) && !fitF π τ (lA ln i) (lB ln i)
def judF (π : PLN) (ln : LN) : Nat → ST × Nat × Nat
  | 0 => (begF π, 0, 0)
  | k + 1 => (linF π (judF π ln k).1 ln k, if linC π (judF π ln k).1 ln k = false ∧ (judF π ln k).2.1 = 0 then k + 1 else (judF π ln k).2.1, if linP π (judF π ln k).1 ln k = true ∧ (judF π ln k).2.2 = 0 then k + 1 else (judF π ln k).2.2)
theorem try_y (π : PLN) (τ : ST) (p t : Nat) : tryF π τ p t 0 0 = τ 0 0 := by
  unfold tryF shodF
  split
  · rw [u2n (by decide), u2n (by decide), u2n (by decide)]
  · rw [u2n (by decide)]
theorem share_y (π : PLN) (τ : ST) (p o : Nat) : shareF π τ p o 0 0 = τ 0 0 := by
  unfold shareF shodF
  rw [u2n (by decide), u2n (by decide), u2n (by decide), u2n (by decide)]
theorem lin_y (π : PLN) (τ : ST) (ln : LN) (i : Nat) : linF π τ ln i 0 0 ≤ τ 0 0 + 1 := by
  unfold linF
  split
  · split
    · rw [try_y]; omega
    · omega
  · split
    · split
      · rw [share_y]; omega
      · omega
    · split
      · unfold graftF; rw [u2n (by decide)]; omega
      · split
        · unfold pruneF; rw [u2n (by decide)]; omega
        · exact Nat.le_refl _
theorem jud_y (π : PLN) (ln : LN) : ∀ k, (judF π ln k).1 0 0 ≤ k ∧ (judF π ln k).2.1 ≤ k ∧ (judF π ln k).2.2 ≤ k := by
  intro k
  induction k with
  | zero => exact ⟨Nat.le_refl _, Nat.le_refl _, Nat.le_refl _⟩
  | succ k ih =>
    have := lin_y π (judF π ln k).1 ln k
    refine ⟨by show linF π (judF π ln k).1 ln k 0 0 ≤ k + 1; omega, ?_, ?_⟩
    · show (if linC π (judF π ln k).1 ln k = false ∧ (judF π ln k).2.1 = 0 then k + 1 else (judF π ln k).2.1) ≤ k + 1
      split <;> omega
    · show (if linP π (judF π ln k).1 ln k = true ∧ (judF π ln k).2.2 = 0 then k + 1 else (judF π ln k).2.2) ≤ k + 1
      split <;> omega
def judV (π : PLN) (x : ST × Nat × Nat) (w : Int32) : Int32 := if w = 0 then nI x.2.1 - 1 else if w = 1 then nI x.2.2 - 1 else nI (roadF π x.1 (nP π))
def linO (π : PLN) (τ : ST) (ln : LN) (i : Nat) : Int32 := if linC π τ ln i then (if linP π τ ln i then 0 else 1) else -1
theorem linP_C {π : PLN} {τ : ST} {ln : LN} {i : Nat} (h : linC π τ ln i = false) : linP π τ ln i = false := by
  unfold linP
  unfold linC at h
  by_cases e : lK ln i = 0
  · rw [if_pos e] at h; rw [h, Bool.and_false, Bool.false_and]
  · rw [beq_false_of_ne e]; rfl
theorem e3k (k : Nat) : (1 : Int32) + 3 * nI k = nI (1 + 3 * k) ∧ (2 : Int32) + 3 * nI k = nI (2 + 3 * k) ∧ (3 : Int32) + 3 * nI k = nI (3 + 3 * k) := by
  refine ⟨?_, ?_, ?_⟩
  · show nI 1 + nI 3 * nI k = _; rw [pk_mul, nI_add]
  · show nI 2 + nI 3 * nI k = _; rw [pk_mul, nI_add]
  · show nI 3 + nI 3 * nI k = _; rw [pk_mul, nI_add]
section
variable {G : GG} {d : Nat} {P : Int32 → mm_M → Prop} {Pv : mm_M → Prop} {Q : Option Value → mm_M → Prop} {r : Nat → Nat} {I : Nat → Nat → Int32} {J : Nat → Nat → Int64} {π : PLN} {σ : Nat → Nat → Nat} {us : List ST} {fe : FE} {ms : Nat → Option (ST × FE)} {ln : LN} {nm : NMT} {tp : List Nat} {y : Nat} {τ : ST}
theorem d16 {i : Nat} (hk : KS I 46 π τ) (hla : LA I ln) (hwl : WL π ln) (hi : i < ln.length) (hy : τ 0 0 + 1 < 2 ^ 30) (h : ∀ I', Fr (sl 46) I I' → KS I' 46 π (linF π τ ln i) → P (linO π τ ln i) (mem r I' J)) : CI G (d + 7) 16 [.ref 16, .int (nI i), .ref 46] (mem r I J) P := by
  have h40 := hwl.1
  have h4 : i < 40 := by omega
  obtain ⟨l0, l1⟩ := hla
  obtain ⟨g1, g2, g3⟩ := l1 i hi
  obtain ⟨w0, w1, w2, w3, w4⟩ := hwl.2 i hi
  refine e16 (ifn (nI_pos (by omega)) ?_)
  simp only [mKm, mNm, mIm, mIf, mJm, mJf, mRm, sIm, sJm, rwIm, rwJm, kN, nN, rN, true_and, l0, ix h4 (by decide)]
  refine ifp (nI_lt hi (by omega)) (b16_14_29 ?_)
  simp only [mKm, mNm, mIm, mIf, mJm, mJf, mRm, sIm, sJm, rwIm, rwJm, kN, nN, rN, true_and, ix h4 (by decide), g1]
  unfold linF linO linC linP at h
  rcases (show lK ln i = 0 ∨ lK ln i = 1 ∨ lK ln i = 2 ∨ lK ln i = 3 ∨ lK ln i = 4 by omega) with e | e | e | e | e
  · rw [g2 (by omega), g3 (by omega), e]
    simp only [e, if_true, beq_self_eq_true, Bool.true_and] at h
    refine ifp rfl (d74 hk (w1 e).1 (w1 e).2 ?_)
    by_cases q : mayF π τ (lA ln i) (lB ln i) = true
    · simp only [q, if_true, Bool.true_and] at h
      rw [if_pos q]
      refine ifp (by decide) ?_
      simp only [mKm, mNm, mIm, mIf, mJm, mJf, mRm, sIm, sJm, rwIm, rwJm, kN, nN, rN, true_and]
      refine d76 hk (w1 e).1 (w1 e).2 q (fun I1 hf1 hk1 => ?_)
      have h := h I1 hf1 hk1
      by_cases q2 : fitF π τ (lA ln i) (lB ln i) = true
      · rw [if_pos q2]
        rw [q2] at h
        exact ifn (by decide) ⟨_, rfl, h⟩
      · rw [if_neg q2]
        rw [Bool.not_eq_true] at q2
        rw [q2] at h
        exact ifp rfl ⟨_, rfl, h⟩
    · rw [if_neg q]
      rw [Bool.not_eq_true] at q
      simp only [q, Bool.false_eq_true, if_false] at h
      exact ifn (fun z => z rfl) ⟨_, rfl, h I Fr.rfl hk⟩
  · rw [g2 (by omega), g3 (by omega), e]
    simp only [e, show ¬ ((1 : Nat) = 0) by decide, if_false, if_true] at h
    refine ifn (by decide) (ifp rfl (d78 hk (w2 e).1 (w2 e).2.1 (w2 e).2.2 (fun I1 hf1 => ?_)))
    have hk1 := hk.fr hf1
    have hf1' : Fr (sl 46) I I1 := hf1.mono (by simp [sl])
    by_cases q : mayShF π τ (lA ln i) (lB ln i) = true
    · simp only [q, if_true] at h
      rw [if_pos q]
      refine ifp (by decide) ?_
      simp only [mKm, mNm, mIm, mIf, mJm, mJf, mRm, sIm, sJm, rwIm, rwJm, kN, nN, rN, true_and]
      exact d79 hk1 (w2 e).1 (w2 e).2.1 q (fun I2 hf2 hk2 => ⟨_, rfl, h I2 (hf1'.trans hf2) hk2⟩)
    · rw [if_neg q]
      rw [Bool.not_eq_true] at q
      simp only [q, Bool.false_eq_true, if_false] at h
      exact ifn (fun z => z rfl) ⟨_, rfl, h I1 hf1' hk1⟩
  · rw [g2 (by omega), g3 (by omega), e]
    simp only [e, show ¬ ((2 : Nat) = 0) by decide, show ¬ ((2 : Nat) = 1) by decide, if_false, if_true] at h
    exact ifn (by decide) (ifn (by decide) (ifp rfl (d80 hk (w3 e).1 (w3 e).2 (fun I1 hf1 hk1 => ⟨_, rfl, h I1 hf1 hk1⟩))))
  · rw [g2 (by omega), e]
    simp only [e, show ¬ ((3 : Nat) = 0) by decide, show ¬ ((3 : Nat) = 1) by decide, show ¬ ((3 : Nat) = 2) by decide, if_false, if_true] at h
    exact ifn (by decide) (ifn (by decide) (ifn (by decide) (ifp rfl (d81 hk (w4 e) (fun I1 hf1 hk1 => ⟨_, rfl, h I1 hf1 hk1⟩)))))
  · rw [e]
    simp only [e, show ¬ ((4 : Nat) = 0) by decide, show ¬ ((4 : Nat) = 1) by decide, show ¬ ((4 : Nat) = 2) by decide, show ¬ ((4 : Nat) = 3) by decide, if_false, if_true] at h
    exact ifn (by decide) (ifn (by decide) (ifn (by decide) (ifn (by decide) (d82 hk hy (fun I1 hf1 hk1 => ⟨_, rfl, h I1 hf1 hk1⟩)))))
theorem d121 {w : Int32} (hk : KS I 38 π σ) (hla : LA I ln) (hwl : WL π ln) (hw : 0 ≤ w ∧ w ≤ 2) (h : ∀ I', Fr scT I I' → P (judV π (judF π ln ln.length) w) (mem r I' J)) : CI G (d + 8) 121 [.ref 1, .int w] (mem r I J) P := by
  have h40 := hwl.1
  refine e121 (ifn (Int32.not_lt.mpr hw.1) (ifp hw.2 ?_))
  simp only [mKm, mNm, mIm, mIf, mJm, mJf, mRm, sIm, sJm, rwIm, rwJm, kN, nN, rN, true_and]
  refine d68 (s := 46) (by decide) hk.p hk.w (fun I1 hf1 hk1 => b121_12_23 ?_)
  refine lp (n := ln.length) (X := fun k => ∀ I', Fr scT I I' → KS I' 46 π (judF π ln k).1 → XX G (d + 7) (some .int) P121 (QI P) 26 [.ref 1, .int w, .int (nI (judF π ln k).2.1 - 1), .int (nI (judF π ln k).2.2 - 1), .int (nI k), jk] [] (mem r I' J)) (fun I2 hf2 hk2 => ?_) (fun k hkn ih I2 hf2 hk2 => ?_) I1 (sl_sc Fr.rfl hf1) hk1
  · have hl2 : LA I2 ln := hla.keep (fun a h1 h2 => hf2 a (by simp [scT]; omega))
    have h := h I2 hf2
    unfold judV at h
    refine x121_26 ?_
    simp only [mKm, mNm, mIm, mIf, mJm, mJf, mRm, sIm, sJm, rwIm, rwJm, kN, nN, rN, true_and, hl2.1]
    refine ifp (nI_le (Nat.le_refl _) (by omega)) (ifb (fun q => ?_) (fun q => ?_))
    · rw [if_neg q] at h
      refine ifb (fun q2 => ?_) (fun q2 => ?_)
      · rw [if_neg q2] at h
        exact d84 hk2 ⟨_, rfl, h⟩
      · rw [if_pos (Decidable.not_not.mp q2)] at h; exact ⟨_, rfl, h⟩
    · rw [if_pos (Decidable.not_not.mp q)] at h; exact ⟨_, rfl, h⟩
  · have hl2 : LA I2 ln := hla.keep (fun a h1 h2 => hf2 a (by simp [scT]; omega))
    have hb := jud_y π ln k
    refine x121_26 ?_
    simp only [mKm, mNm, mIm, mIf, mJm, mJf, mRm, sIm, sJm, rwIm, rwJm, kN, nN, rN, true_and, hl2.1]
    refine ifn (nI_ge hkn (by omega)) (d16 hk2 hl2 hwl hkn (by omega) (fun I3 hf3 hk3 => ?_))
    have ih := ih I3 (sl_sc hf2 hf3) hk3
    have e1 : (judF π ln (k + 1)).2.1 = if linC π (judF π ln k).1 ln k = false ∧ (judF π ln k).2.1 = 0 then k + 1 else (judF π ln k).2.1 := rfl
    have e2 : (judF π ln (k + 1)).2.2 = if linP π (judF π ln k).1 ln k = true ∧ (judF π ln k).2.2 = 0 then k + 1 else (judF π ln k).2.2 := rfl
    rw [e1, e2] at ih
    unfold linO
    rw [nI_1]
    by_cases qc : linC π (judF π ln k).1 ln k = true
    · rw [if_pos qc]
      rw [if_neg (fun z => by rw [qc] at z; exact absurd z.1 (by decide))] at ih
      by_cases qp : linP π (judF π ln k).1 ln k = true
      · rw [if_pos qp]
        refine ifp (by decide) (ifn (fun z => z rfl) ?_)
        rw [sh_m1 (by omega)]
        refine ifb (fun q => b121_80_83 ?_) (fun q => b121_67_80 ?_)
        · rw [if_neg (fun z => q z.2)] at ih; exact ih
        · rw [if_pos ⟨qp, Decidable.not_not.mp q⟩, nI_pred] at ih; rw [nI_1]; exact ih
      · rw [if_neg qp]
        rw [if_neg (fun z => qp z.1)] at ih
        exact ifp (by decide) (ifp (by decide) (b121_80_83 ih))
    · rw [if_neg qc]
      rw [Bool.not_eq_true] at qc
      rw [if_neg (show ¬ (linP π (judF π ln k).1 ln k = true ∧ (judF π ln k).2.2 = 0) from fun z => by rw [linP_C qc] at z; exact absurd z.1 (by decide))] at ih
      refine ifn (fun z => z rfl) ?_
      rw [sh_m1 (by omega)]
      refine ifb (fun q => ifp (by decide) (b121_80_83 ?_)) (fun q => b121_26_67 (ifp (by decide) ?_))
      · rw [if_neg (fun z => q z.2)] at ih; exact ih
      · rw [if_pos ⟨qc, Decidable.not_not.mp q⟩, nI_pred] at ih; rw [nI_1]; exact ih
theorem d121o {w : Int32} {M : mm_M} (hw : ¬ (0 ≤ w ∧ w ≤ 2)) (h : P (-2) M) : CI G (d + 8) 121 [.ref 1, .int w] M P :=
  e121 (ifb (fun _ => by rw [m2]; exact h) (fun q => ifn (fun q2 => hw ⟨Int32.not_lt.mp q, q2⟩) (by rw [m2]; exact h)))
theorem m234 {w : Int32} (hk : KR I 0 π σ) (hla : LB I ln) (hwl : WL π ln) (hw : 0 ≤ w ∧ w ≤ 2) (h : ∀ I', FT 1260 I I' → P (judV π (judF π ln ln.length) w) (mem r I' J)) : CI G (d + 8) 234 [.ref 247, .int w] (mem r I J) P := by
  have h40 := hwl.1
  have hk0 := hk.t0
  refine e234 ?_
  simp only [mKm, mNm, mIm, mIf, mJm, mJf, mRm, sIm, sJm, rwIm, rwJm, kN, nN, rN, true_and]
  refine m201 ?_
  rw [if_pos hw]
  refine ifp (by decide) ?_
  simp only [mKm, mNm, mIm, mIf, mJm, mJf, mRm, sIm, sJm, rwIm, rwJm, kN, nN, rN, true_and]
  refine m165 (b := 1260) hk0.p hk0.w (by decide) (fun I1 hf1 hk1 => b234_17_28 ?_)
  refine lp (n := ln.length) (X := fun k => ∀ I', FT 1260 I I' → KR I' 1260 π (judF π ln k).1 → XX G (d + 7) (some .int) P234 (QI P) 31 [.ref 247, .int w, .int (nI (judF π ln k).2.1 - 1), .int (nI (judF π ln k).2.2 - 1), .int (nI k), jk, jk, jk, jk] [] (mem r I' J)) (fun I2 hf2 hk2 => ?_) (fun k hkn ih I2 hf2 hk2 => ?_) I1 hf1 hk1
  · have hl2 : I2 260 = I 260 := by rw [hf2.1 260 (by decide)]; exact u2n (by decide)
    have h := h I2 hf2
    unfold judV at h
    refine x234_31 ?_
    simp only [mKm, mNm, mIm, mIf, mJm, mJf, mRm, sIm, sJm, rwIm, rwJm, kN, nN, rN, true_and, hl2, hla.1, ix0 (show 0 < 250 by decide)]
    refine ifp (nI_le (Nat.le_refl _) (by omega)) (ifb (fun q => ?_) (fun q => ?_))
    · rw [if_neg q] at h
      refine ifb (fun q2 => ?_) (fun q2 => ?_)
      · rw [if_neg q2] at h
        exact m235 (b := 1260) hk2 ⟨_, rfl, h⟩
      · rw [if_pos (Decidable.not_not.mp q2)] at h; exact ⟨_, rfl, h⟩
    · rw [if_pos (Decidable.not_not.mp q)] at h; exact ⟨_, rfl, h⟩
  · have hl2 : I2 260 = I 260 := by rw [hf2.1 260 (by decide)]; exact u2n (by decide)
    have hb := jud_y π ln k
    obtain ⟨g1, g2, g3⟩ := hla.2 k hkn
    obtain ⟨w0, w1, w2, w3, w4⟩ := hwl.2 k hkn
    refine x234_31 ?_
    simp only [mKm, mNm, mIm, mIf, mJm, mJf, mRm, sIm, sJm, rwIm, rwJm, kN, nN, rN, true_and, hl2, hla.1, ix0 (show 0 < 250 by decide), e3k, ix (show 1 + 3 * k < 250 by omega) (by decide), g1]
    refine ifn (nI_ge hkn (by omega)) (b234_31_55 ?_)
    simp only [mKm, mNm, mIm, mIf, mJm, mJf, mRm, sIm, sJm, rwIm, rwJm, kN, nN, rN, true_and, e3k, ix (show 2 + 3 * k < 250 by omega) (by decide)]
    refine b234_31_68 ?_
    simp only [mKm, mNm, mIm, mIf, mJm, mJf, mRm, sIm, sJm, rwIm, rwJm, kN, nN, rN, true_and, e3k, ix (show 3 + 3 * k < 250 by omega) (by decide), hl2]
    refine b234_31_81 ?_
    have ih : ∀ I', FT 1260 I I' → KR I' 1260 π (linF π (judF π ln k).1 ln k) → XX G (d + 7) (some .int) P234 (QI P) 31 [.ref 247, .int w, .int (nI (if linC π (judF π ln k).1 ln k = false ∧ (judF π ln k).2.1 = 0 then k + 1 else (judF π ln k).2.1) - 1), .int (nI (if linP π (judF π ln k).1 ln k = true ∧ (judF π ln k).2.2 = 0 then k + 1 else (judF π ln k).2.2) - 1), .int (nI (k + 1)), jk, jk, jk, jk] [] (mem r I' J) := ih
    unfold linF linC linP at ih
    generalize (judF π ln k).1 = τ at ih hk2 hb
    generalize (judF π ln k).2.1 = a at ih hb
    generalize (judF π ln k).2.2 = b at ih hb
    rcases (show lK ln k = 0 ∨ lK ln k = 1 ∨ lK ln k = 2 ∨ lK ln k = 3 ∨ lK ln k = 4 by omega) with e | e | e | e | e
    · rw [g2 (by omega), g3 (by omega), e]
      simp only [e, if_true, beq_self_eq_true, Bool.true_and] at ih
      refine ifn (fun z => z rfl) ⟨rfl, m218 (b := 1260) hk2 (w1 e).1 (w1 e).2 ?_⟩
      by_cases q : mayF π τ (lA ln k) (lB ln k) = true
      · simp only [q, if_true, Bool.true_and, Bool.true_eq_false, false_and, if_false] at ih
        rw [if_pos q]
        refine ifp (by decide) (x234_141 (ifn (by decide) (ifn (fun z => z rfl) ?_)))
        simp only [mKm, mNm, mIm, mIf, mJm, mJf, mRm, sIm, sJm, rwIm, rwJm, kN, nN, rN, true_and]
        refine m221 (b := 1260) hk2 (w1 e).1 (w1 e).2 q (fun I3 hf3 hk3 => ?_)
        have ih := ih I3 (Fs.trans hf2 hf3) hk3
        by_cases q2 : fitF π τ (lA ln k) (lB ln k) = true
        · rw [if_pos q2]
          simp only [q2, Bool.not_true, Bool.false_eq_true, false_and, if_false] at ih
          refine ifp (by decide) (b234_176_178 ?_)
          rw [nI_1]; exact ih
        · rw [if_neg q2]
          rw [Bool.not_eq_true] at q2
          simp only [q2, Bool.not_false, true_and] at ih
          refine ifn (fun z => z rfl) (ifb (fun q3 => b234_176_178 ?_) (fun q3 => b234_177_178 ?_))
          · rw [if_neg (fun z => by rw [z] at q3; exact absurd q3 (by decide))] at ih
            rw [nI_1]; exact ih
          · rw [if_pos ((sh_lt (by omega)).mp (Int32.not_le.mp q3)), nI_pred] at ih
            rw [nI_1]; exact ih
      · rw [if_neg q]
        rw [Bool.not_eq_true] at q
        simp only [q, Bool.false_eq_true, if_false, Bool.false_and, false_and, true_and] at ih
        have ih := ih I2 hf2 hk2
        refine ifn (fun z => z rfl) (ifb (fun q3 => x234_141 (ifp rfl (x234_181 (ifp rfl (ifp (by decide) (ifp (by decide) (ifp (by decide) ?_))))))) (fun q3 => b234_142_143 (ifp rfl (x234_181 (ifp rfl (ifp (by decide) (ifp (by decide) (ifp (by decide) ?_))))))))
        · rw [if_neg (fun z => by rw [z] at q3; exact absurd q3 (by decide))] at ih
          rw [nI_1]; exact ih
        · rw [if_pos ((sh_lt (by omega)).mp (Int32.not_le.mp q3)), nI_pred] at ih
          rw [nI_1]; exact ih
    · rw [g2 (by omega), g3 (by omega), e]
      simp only [e, show ¬ ((1 : Nat) = 0) by decide, if_false, if_true, show ((1 : Nat) == 0) = false from rfl, Bool.false_and, Bool.false_eq_true, false_and] at ih
      refine ifp (by decide) (ifn (fun z => z rfl) ⟨rfl, m225 (b := 1260) hk2 (w2 e).1 (w2 e).2.1 (fun I3 hf3 => ?_)⟩)
      have hk3 := hk2.fr hf3
      have hf3' : FT 1260 I I3 := Fs.fr hf2 hf3
      by_cases q : mayShF π τ (lA ln k) (lB ln k) = true
      · simp only [q, if_true, Bool.true_eq_false, false_and, if_false] at ih
        rw [if_pos q]
        refine ifn (by decide) (x234_141 (ifn (by decide) (ifp (by decide) (x234_181 (ifn (by decide) (ifn (fun z => z rfl) ?_))))))
        simp only [mKm, mNm, mIm, mIf, mJm, mJf, mRm, sIm, sJm, rwIm, rwJm, kN, nN, rN, true_and]
        refine m226 (b := 1260) hk3 (w2 e).1 (w2 e).2.1 q (fun I4 hf4 hk4 => ?_)
        rw [nI_1]
        exact ih I4 (Fs.trans hf3' hf4) hk4
      · rw [if_neg q]
        rw [Bool.not_eq_true] at q
        simp only [q, Bool.false_eq_true, if_false, true_and] at ih
        have ih := ih I3 hf3' hk3
        refine ifp rfl (ifb (fun q3 => x234_141 (ifp rfl (x234_181 (ifp rfl (ifp (by decide) (ifp (by decide) (ifp (by decide) ?_))))))) (fun q3 => b234_142_143 (ifp rfl (x234_181 (ifp rfl (ifp (by decide) (ifp (by decide) (ifp (by decide) ?_))))))))
        · rw [if_neg (fun z => by rw [z] at q3; exact absurd q3 (by decide))] at ih
          rw [nI_1]; exact ih
        · rw [if_pos ((sh_lt (by omega)).mp (Int32.not_le.mp q3)), nI_pred] at ih
          rw [nI_1]; exact ih
    · rw [g2 (by omega), g3 (by omega), e]
      simp only [e, show ¬ ((2 : Nat) = 0) by decide, show ¬ ((2 : Nat) = 1) by decide, if_false, if_true, show ((2 : Nat) == 0) = false from rfl, Bool.false_and, Bool.false_eq_true, Bool.true_eq_false, false_and] at ih
      refine ifp (by decide) (ifp (by decide) (x234_141 (ifn (by decide) (ifp (by decide) (x234_181 (ifn (by decide) (ifp (by decide) (ifn (fun z => z rfl) ?_))))))))
      simp only [mKm, mNm, mIm, mIf, mJm, mJf, mRm, sIm, sJm, rwIm, rwJm, kN, nN, rN, true_and]
      refine m228 (b := 1260) hk2 (w3 e).1 (w3 e).2 (fun I4 hf4 hk4 => ?_)
      rw [nI_1]
      exact ih I4 (Fs.trans hf2 hf4) hk4
    · rw [g2 (by omega), e]
      simp only [e, show ¬ ((3 : Nat) = 0) by decide, show ¬ ((3 : Nat) = 1) by decide, show ¬ ((3 : Nat) = 2) by decide, if_false, if_true, show ((3 : Nat) == 0) = false from rfl, Bool.false_and, Bool.false_eq_true, Bool.true_eq_false, false_and] at ih
      refine ifp (by decide) (ifp (by decide) (x234_141 (ifn (by decide) (ifp (by decide) (x234_181 (ifn (by decide) (ifp (by decide) (ifp (by decide) (ifn (fun z => z rfl) ?_)))))))))
      simp only [mKm, mNm, mIm, mIf, mJm, mJf, mRm, sIm, sJm, rwIm, rwJm, kN, nN, rN, true_and]
      refine m230 (b := 1260) hk2 (w4 e) (fun I4 hf4 hk4 => ?_)
      rw [nI_1]
      exact ih I4 (Fs.trans hf2 hf4) hk4
    · rw [e]
      simp only [e, show ¬ ((4 : Nat) = 0) by decide, show ¬ ((4 : Nat) = 1) by decide, show ¬ ((4 : Nat) = 2) by decide, show ¬ ((4 : Nat) = 3) by decide, if_false, if_true, show ((4 : Nat) == 0) = false from rfl, Bool.false_and, Bool.false_eq_true, Bool.true_eq_false, false_and] at ih
      refine ifp (by decide) (ifp (by decide) (x234_141 (ifn (by decide) (ifp (by decide) (x234_181 (ifn (by decide) (ifp (by decide) (ifp (by decide) (ifp (by decide) (ifn (fun z => z rfl) ?_))))))))))
      simp only [mKm, mNm, mIm, mIf, mJm, mJf, mRm, sIm, sJm, rwIm, rwJm, kN, nN, rN, true_and]
      refine m205 (b := 1260) hk2 ?_
      simp only [mKm, mNm, mIm, mIf, mJm, mJf, mRm, sIm, sJm, rwIm, rwJm, kN, nN, rN, true_and]
      refine m232 (b := 1260) hk2 (frF_le hk2.w _) (by omega) (fun I4 hf4 hk4 => ?_)
      rw [nI_1]
      exact ih I4 (Fs.trans hf2 hf4) hk4
theorem m234o {w : Int32} (hw : ¬ (0 ≤ w ∧ w ≤ 2)) (h : P (-2) (mem r (T0 I) J)) : CI G (d + 8) 234 [.ref 247, .int w] (mem r I J) P := by
  refine e234 ?_
  simp only [mKm, mNm, mIm, mIf, mJm, mJf, mRm, sIm, sJm, rwIm, rwJm, kN, nN, rN, true_and]
  refine m201 ?_
  rw [if_neg hw]
  exact ifn (fun z => z rfl) (by rw [m2]; exact h)
theorem L121 {M : mm_M} (h : PR y M) (w : Int32) : EQ G (d + 40) 121 234 y [.int w] M := by
  obtain ⟨r, I, J, π, σ, us, ms, fe, ln, nm, tp, rfl, hA, hR, hY⟩ := h
  by_cases q : 0 ≤ w ∧ w ≤ 2
  · refine d121 hA.k hA.la hA.wl q (fun I1 hf1 => ⟨rfl, m234 (hR.k.lo (sc_hi hf1)) ?_ hA.wl q (fun I2 hf2 => ⟨rfl, PR_t hA hR hY (by omega) hf1 (by decide) hf2⟩)⟩)
    unfold LB; rw [sc_hi hf1 260 (by decide)]; exact hR.lb
  · exact d121o q ⟨rfl, m234o q ⟨rfl, PR_qq hA hR hY (by omega) Fr.rfl Fr.rfl⟩⟩
end
