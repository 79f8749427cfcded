/-! generations by draws -/
theorem u2_u2 {α : Type} (f : Nat → Nat → α) (a k : Nat) (v w : α) : u2 (u2 f a k v) a k w = u2 f a k w := by
  funext x y
  by_cases e : x = a
  · subst e
    by_cases e2 : y = k
    · subst e2; rw [u2s, u2s]
    · rw [u2i e2, u2i e2, u2i e2]
  · rw [u2n e, u2n e, u2n e]
theorem dg_ex : ∃ f : Nat → Nat, ∀ g, f g = (g * 1103515245 + 12345) % 2147483648 := ⟨fun g => (g * 1103515245 + 12345) % 2147483648, fun _ => rfl⟩
noncomputable def dgF : Nat → Nat := Classical.choose dg_ex
theorem dg_def (g : Nat) : dgF g = (g * 1103515245 + 12345) % 2147483648 := Classical.choose_spec dg_ex g
theorem dg_lt (g : Nat) : dgF g < 2147483648 := by rw [dg_def]; exact Nat.mod_lt _ (by decide)
theorem dg_eq {g : Nat} (hg : g < 2147483648) : lN g * (1103515245 : Int64) + (12345 : Int64) - (lN g * (1103515245 : Int64) + (12345 : Int64)) / (2147483648 : Int64) * (2147483648 : Int64) = lN (dgF g) := by
  rw [show (1103515245 : Int64) = lN 1103515245 from rfl, show (12345 : Int64) = lN 12345 from rfl, show (2147483648 : Int64) = lN 2147483648 from rfl, lN_mul, lN_add, pk_lRem (by omega) (by decide) (by decide), dg_def]
theorem dr_eq {g m : Nat} (hg : g < 2147483648) (hm : 0 < m) (hm2 : m < 2 ^ 31) : (lN g / (65536 : Int64) - lN g / (65536 : Int64) / (nI m).toInt64 * (nI m).toInt64).toInt32 = nI (g / 65536 % m) := by
  have : g / 65536 ≤ g := Nat.div_le_self _ _
  rw [show (65536 : Int64) = lN 65536 from rfl, nI_l hm2, pk_lDiv (by omega) (by decide) (by decide), pk_lRem (by omega) hm (by omega), lN_i]
def drF (g m : Nat) : Nat := g / 65536 % m
noncomputable def agsT (π : PLN) (τ : ST) (g w : Nat) : ST × Nat := if w = 0 then (yearF π τ, g) else if w = 1 then (if drF (dgF g) (nT π) = drF (dgF (dgF g)) (nT π) then τ else graftF τ (drF (dgF g) (nT π)) (drF (dgF (dgF g)) (nT π)), dgF (dgF g)) else (τ, g)
noncomputable def agsM (π : PLN) (τ : ST) (g : Nat) : Bool := mayF π τ (drF (dgF g) (nP π)) (drF (dgF (dgF g)) (nT π))
noncomputable def agsB (π : PLN) (τ : ST) (g : Nat) : Bool := agsM π τ g && fitF π τ (drF (dgF g) (nP π)) (drF (dgF (dgF g)) (nT π))
noncomputable def agsS (π : PLN) (τ : ST) (g : Nat) : ST := if agsM π τ g then tryF π τ (drF (dgF g) (nP π)) (drF (dgF (dgF g)) (nT π)) else τ
noncomputable def agsF (π : PLN) (τ : ST) (g : Nat) : ST × Nat := agsT π (agsS π τ g) (dgF (dgF (dgF g))) (drF (dgF (dgF (dgF g))) 6)
noncomputable def itA (π : PLN) (σ : ST) (g : Nat) : Nat → ST × Nat × Nat
  | 0 => (σ, g, 0)
  | n + 1 => ((agsF π (itA π σ g n).1 (itA π σ g n).2.1).1, (agsF π (itA π σ g n).1 (itA π σ g n).2.1).2, (itA π σ g n).2.2 + if agsB π (itA π σ g n).1 (itA π σ g n).2.1 then 1 else 0)
theorem agsS_y (π : PLN) (τ : ST) (g : Nat) : agsS π τ g 0 0 = τ 0 0 := by
  unfold agsS
  split
  · exact try_y ..
  · rfl
theorem agsF_y (π : PLN) (τ : ST) (g : Nat) : (agsF π τ g).1 0 0 ≤ τ 0 0 + 1 ∧ (agsF π τ g).2 < 2147483648 := by
  have h := agsS_y π τ g
  unfold agsF agsT
  split
  · exact ⟨by show agsS π τ g 0 0 + 1 ≤ _; omega, dg_lt _⟩
  · split
    · refine ⟨?_, dg_lt _⟩
      dsimp only
      split
      · omega
      · unfold graftF; rw [u2n (by decide)]; omega
    · exact ⟨by dsimp only; omega, dg_lt _⟩
theorem itA_y (π : PLN) (σ : ST) (g : Nat) (hg : g < 2147483648) : ∀ n, (itA π σ g n).1 0 0 ≤ σ 0 0 + n ∧ (itA π σ g n).2.1 < 2147483648 ∧ (itA π σ g n).2.2 ≤ n := by
  intro n
  induction n with
  | zero => exact ⟨Nat.le_refl _, hg, Nat.le_refl _⟩
  | succ n ih =>
    have := agsF_y π (itA π σ g n).1 (itA π σ g n).2.1
    refine ⟨by show (agsF π (itA π σ g n).1 (itA π σ g n).2.1).1 0 0 ≤ _; omega, this.2, ?_⟩
    show (itA π σ g n).2.2 + (if agsB π (itA π σ g n).1 (itA π σ g n).2.1 then 1 else 0) ≤ n + 1
    split <;> omega
def ageN (π : PLN) (n : Nat) : Nat := if nT π = 0 ∨ nP π = 0 then 0 else n
def ageV (π : PLN) (σ : ST) (x : ST × Nat × Nat) (w : Int32) : Int32 := if w = 0 then nI x.2.2 else if w = 1 then nI (x.1 0 0) else nI (roadF π x.1 (nP π)) - nI (roadF π σ (nP π))
theorem dr_lt {g m : Nat} (h : 0 < m) : drF g m < m := Nat.mod_lt _ h
theorem b01 (b : Bool) : bI b = 0 ∨ bI b = 1 := by cases b <;> simp [bI]
section
variable {G : GG} {d : Nat} {P : Int32 → mm_M → Prop} {Pv : mm_M → Prop} {Q : Option Value → mm_M → Prop} {r : Nat → Nat} {I : Nat → Nat → Int32} {J : Nat → Nat → Int64} {π : PLN} {σ : Nat → Nat → Nat} {us : List ST} {fe : FE} {ms : Nat → Option (ST × FE)} {ln : LN} {nm : NMT} {tp : List Nat} {y : Nat} {τ : ST} {g : Nat}
theorem d153 {m : Nat} (hg : g < 2147483648) (hm : 0 < m) (hm2 : m < 2 ^ 31) (h : P (nI (drF (dgF g) m)) (mem r I (u2 J 1 13 (lN (dgF g))))) : CI G (d + 1) 153 [.ref 1, .int (nI m)] (mem r I (u2 J 1 13 (lN g))) P := by
  refine e153 ?_
  simp only [mKm, mNm, mIm, mIf, mJm, mJf, mRm, sIm, sJm, rwIm, rwJm, kN, nN, rN, true_and, u2s]
  rw [dg_eq hg, u2_u2]
  refine b153_0_20 (ifp (nI_le (a := 1) (by omega) hm2) ?_)
  have e0 : ¬ (nI m).toInt64 = 0 := fun z => by
    rw [nI_l hm2] at z
    have := (pk_lEQ (b := 0) (by omega) (by decide)).mp z
    omega
  simp only [mKm, mNm, mIm, mIf, mJm, mJf, mRm, sIm, sJm, rwIm, rwJm, kN, nN, rN, true_and, u2s]
  refine ⟨e0, _, rfl, ?_⟩
  rw [dr_eq (dg_lt g) hm hm2]
  exact h
theorem m269 {m : Nat} (hg : g < 2147483648) (hm : 0 < m) (hm2 : m < 2 ^ 31) (h : P (nI (drF (dgF g) m)) (mem r I (u2 J 247 34 (lN (dgF g))))) : CI G (d + 1) 269 [.ref 247, .int (nI m)] (mem r I (u2 J 247 34 (lN g))) P := by
  refine e269 ?_
  simp only [mKm, mNm, mIm, mIf, mJm, mJf, mRm, sIm, sJm, rwIm, rwJm, kN, nN, rN, true_and, u2s]
  rw [dg_eq hg, u2_u2]
  refine b269_0_20 ?_
  have e0 : ¬ (nI m).toInt64 = 0 := fun z => by
    rw [nI_l hm2] at z
    have := (pk_lEQ (b := 0) (by omega) (by decide)).mp z
    omega
  simp only [mKm, mNm, mIm, mIf, mJm, mJf, mRm, sIm, sJm, rwIm, rwJm, kN, nN, rN, true_and, u2s]
  refine ⟨e0, _, rfl, ?_⟩
  rw [dr_eq (dg_lt g) hm hm2]
  exact h
theorem d152T {b : Bool} {w : Nat} {x1 x2 : Int32} {S : List Instr} (hS : S = S152_52_62 ∨ S = S152_53_62) (hk : KS I 46 π τ) (hg : g < 2147483648) (hT : 0 < nT π) (hw : w < 6) (hy : τ 0 0 + 1 < 2 ^ 30) (h : ∀ I', Fr (sl 46) I I' → KS I' 46 π (agsT π τ g w).1 → P (bI b) (mem r I' (u2 J 1 13 (lN (agsT π τ g w).2)))) : BB G (d + 6) (some .boolean) P152 (QI P) S 62 [.ref 1, .int x1, .int x2, .int (bI b), .int (nI w), jk, jk] [] (mem r I (u2 J 1 13 (lN g))) := by
  have hT6 := hk.w.t
  have key : ifP (¬ nI w = 0) (ifP (¬ nI w = 1) ((bI b = 0 ∨ bI b = 1) ∧ QI P (some (.int (bI b))) (mem r I (u2 J 1 13 (lN g)))) (CI G (d + 6) 153 [.ref 1, .int (nI (nT π))] (mem r I (u2 J 1 13 (lN g))) (fun v1 N2 => mK N2 1 = 11 ∧ mK N2 (mR N2 1 1) = 7 ∧ mK N2 1 = 11 ∧ CI G (d + 6) 153 [.ref 1, .int (mI N2 (mR N2 1 1) 0)] N2 (fun v3 N4 => BB G (d + 6) (some .boolean) P152 (QI P) S152_77_109 109 [.ref 1, .int x1, .int x2, .int (bI b), .int (nI w), .int v1, .int v3] [] N4)))) (CV G (d + 6) 82 [.ref 46] (mem r I (u2 J 1 13 (lN g))) (fun N6 => (bI b = 0 ∨ bI b = 1) ∧ QI P (some (.int (bI b))) N6)) := by
    unfold agsT at h
    refine ifb (fun q => ?_) (fun q => ?_)
    · have q0 : ¬ w = 0 := fun z => q (by rw [z]; rfl)
      rw [if_neg q0] at h
      refine ifb (fun q1 => ?_) (fun q1 => ?_)
      · have q2 : ¬ w = 1 := fun z => q1 (by rw [z]; rfl)
        rw [if_neg q2] at h
        exact ⟨b01 b, _, rfl, h I Fr.rfl hk⟩
      · have q2 : w = 1 := (nI_eq (b := 1) (by omega) (by decide)).mp (Decidable.not_not.mp q1)
        rw [if_pos q2] at h
        refine d153 hg hT (by omega) ?_
        simp only [mKm, mNm, mIm, mIf, mJm, mJf, mRm, sIm, sJm, rwIm, rwJm, kN, nN, rN, true_and, hk.p.n0]
        refine d153 (dg_lt _) hT (by omega) (b152_77_109 ?_)
        have l1 := dr_lt (g := dgF g) hT
        have l2 := dr_lt (g := dgF (dgF g)) hT
        rw [nI_eq (by omega) (by omega)]
        refine ifb (fun q3 => ?_) (fun q3 => ?_)
        · dsimp only at h
          rw [if_pos q3] at h
          exact ⟨b01 b, _, rfl, h I Fr.rfl hk⟩
        · dsimp only at h
          rw [if_neg q3] at h
          simp only [mKm, mNm, mIm, mIf, mJm, mJf, mRm, sIm, sJm, rwIm, rwJm, kN, nN, rN, true_and]
          exact d80 hk l1 l2 (fun I1 hf1 hk1 => ⟨b01 b, _, rfl, h I1 hf1 hk1⟩)
    · have q0 : w = 0 := (nI_eq (b := 0) (by omega) (by decide)).mp (Decidable.not_not.mp q)
      rw [if_pos q0] at h
      exact d82 hk hy (fun I1 hf1 hk1 => ⟨b01 b, _, rfl, h I1 hf1 hk1⟩)
  rcases hS with rfl | rfl
  · refine b152_52_62 ?_
    simp only [mKm, mNm, mIm, mIf, mJm, mJf, mRm, sIm, sJm, rwIm, rwJm, kN, nN, rN, true_and, hk.p.n0]
    exact key
  · refine b152_53_62 ?_
    simp only [mKm, mNm, mIm, mIf, mJm, mJf, mRm, sIm, sJm, rwIm, rwJm, kN, nN, rN, true_and, hk.p.n0]
    exact key
theorem d152 (hk : KS I 46 π τ) (hg : g < 2147483648) (hT : 0 < nT π) (hP : 0 < nP π) (hy : τ 0 0 + 1 < 2 ^ 30) (h : ∀ I', Fr (sl 46) I I' → KS I' 46 π (agsF π τ g).1 → P (bI (agsB π τ g)) (mem r I' (u2 J 1 13 (lN (agsF π τ g).2)))) : CI G (d + 7) 152 [.ref 1] (mem r I (u2 J 1 13 (lN g))) P := by
  have hT6 := hk.w.t
  have hP6 := hk.w.p
  have l1 := dr_lt (g := dgF g) hP
  have l2 := dr_lt (g := dgF (dgF g)) hT
  have l3 := dr_lt (g := dgF (dgF (dgF g))) (m := 6) (by decide)
  refine e152 ?_
  simp only [mKm, mNm, mIm, mIf, mJm, mJf, mRm, sIm, sJm, rwIm, rwJm, kN, nN, rN, true_and, hk.p.n1]
  refine d153 hg hP (by omega) ?_
  simp only [mKm, mNm, mIm, mIf, mJm, mJf, mRm, sIm, sJm, rwIm, rwJm, kN, nN, rN, true_and, hk.p.n0]
  refine d153 (dg_lt _) hT (by omega) (b152_0_24 ?_)
  simp only [mKm, mNm, mIm, mIf, mJm, mJf, mRm, sIm, sJm, rwIm, rwJm, kN, nN, rN, true_and]
  refine d74 hk l1 l2 ?_
  by_cases q : mayF π τ (drF (dgF g) (nP π)) (drF (dgF (dgF g)) (nT π)) = true
  · have qm : agsM π τ g = true := q
    rw [if_pos q]
    refine ifn (by decide) ?_
    simp only [mKm, mNm, mIm, mIf, mJm, mJf, mRm, sIm, sJm, rwIm, rwJm, kN, nN, rN, true_and]
    refine d76 hk l1 l2 q (fun I1 hf1 hk1 => ?_)
    have es : agsS π τ g = tryF π τ (drF (dgF g) (nP π)) (drF (dgF (dgF g)) (nT π)) := by unfold agsS; rw [if_pos qm]
    have eb : agsB π τ g = fitF π τ (drF (dgF g) (nP π)) (drF (dgF (dgF g)) (nT π)) := by unfold agsB; rw [qm, Bool.true_and]
    have hy1 : tryF π τ (drF (dgF g) (nP π)) (drF (dgF (dgF g)) (nT π)) 0 0 + 1 < 2 ^ 30 := by rw [try_y]; exact hy
    rw [← es] at hk1 hy1
    rw [← eb]
    cases eb2 : agsB π τ g with
    | true =>
      rw [if_pos rfl]
      refine ifn (by decide) ?_
      simp only [mKm, mNm, mIm, mIf, mJm, mJf, mRm, sIm, sJm, rwIm, rwJm, kN, nN, rN, true_and]
      exact d153 (m := 6) (dg_lt _) (by decide) (by decide) (d152T (b := true) (Or.inr rfl) hk1 (dg_lt _) hT l3 hy1 (fun I2 hf2 hk2 => by rw [eb2] at h; exact h I2 (hf1.trans hf2) hk2))
    | false =>
      rw [if_neg (by decide)]
      refine ifp rfl ?_
      simp only [mKm, mNm, mIm, mIf, mJm, mJf, mRm, sIm, sJm, rwIm, rwJm, kN, nN, rN, true_and]
      exact d153 (m := 6) (dg_lt _) (by decide) (by decide) (d152T (b := false) (Or.inl rfl) hk1 (dg_lt _) hT l3 hy1 (fun I2 hf2 hk2 => by rw [eb2] at h; exact h I2 (hf1.trans hf2) hk2))
  · rw [if_neg q]
    rw [Bool.not_eq_true] at q
    have qm : agsM π τ g = false := q
    have es : agsS π τ g = τ := by unfold agsS; rw [qm]; rfl
    have eb : agsB π τ g = false := by unfold agsB; rw [qm, Bool.false_and]
    have hk' : KS I 46 π (agsS π τ g) := by rw [es]; exact hk
    refine ifp rfl ?_
    simp only [mKm, mNm, mIm, mIf, mJm, mJf, mRm, sIm, sJm, rwIm, rwJm, kN, nN, rN, true_and]
    exact d153 (m := 6) (dg_lt _) (by decide) (by decide) (d152T (b := false) (Or.inl rfl) hk' (dg_lt _) hT l3 (by rw [es]; exact hy) (fun I2 hf2 hk2 => by rw [eb] at h; exact h I2 hf2 hk2))
theorem m268T {b : Bool} {w : Nat} {x1 x2 : Int32} {S : List Instr} (hS : S = S268_46_56 ∨ S = S268_47_56) (hk : KR I 1320 π τ) (hg : g < 2147483648) (hT : 0 < nT π) (hw : w < 6) (hy : τ 0 0 + 1 < 2 ^ 30) (h : ∀ I', Fs 1320 I I' → KR I' 1320 π (agsT π τ g w).1 → P (bI b) (mem r I' (u2 J 247 34 (lN (agsT π τ g w).2)))) : BB G (d + 6) (some .boolean) P268 (QI P) S 56 [.ref 247, .int x1, .int x2, .int (bI b), .int (nI w), jk, jk] [] (mem r I (u2 J 247 34 (lN g))) := by
  have hT6 := hk.w.t
  have key : ifP (¬ nI w = 0) (ifP (¬ nI w = 1) ((bI b = 0 ∨ bI b = 1) ∧ QI P (some (.int (bI b))) (mem r I (u2 J 247 34 (lN g)))) (CI G (d + 6) 166 [.ref 247] (mem r I (u2 J 247 34 (lN g))) (fun v1 N2 => mK N2 247 = 12 ∧ CI G (d + 6) 269 [.ref 247, .int v1] N2 (fun v3 N4 => mK N4 247 = 12 ∧ CI G (d + 6) 166 [.ref 247] N4 (fun v5 N6 => mK N6 247 = 12 ∧ CI G (d + 6) 269 [.ref 247, .int v5] N6 (fun v7 N8 => BB G (d + 6) (some .boolean) P268 (QI P) S268_78_104 104 [.ref 247, .int x1, .int x2, .int (bI b), .int (nI w), .int v3, .int v7] [] N8)))))) (CI G (d + 6) 205 [.ref 247, .int 1320] (mem r I (u2 J 247 34 (lN g))) (fun v9 N10 => mK N10 247 = 12 ∧ CV G (d + 6) 232 [.ref 247, .int 1320, .int v9] N10 (fun N12 => (bI b = 0 ∨ bI b = 1) ∧ QI P (some (.int (bI b))) N12))) := by
    unfold agsT at h
    refine ifb (fun q => ?_) (fun q => ?_)
    · have q0 : ¬ w = 0 := fun z => q (by rw [z]; rfl)
      rw [if_neg q0] at h
      refine ifb (fun q1 => ?_) (fun q1 => ?_)
      · have q2 : ¬ w = 1 := fun z => q1 (by rw [z]; rfl)
        rw [if_neg q2] at h
        exact ⟨b01 b, _, rfl, h I Fs.rfl hk⟩
      · have q2 : w = 1 := (nI_eq (b := 1) (by omega) (by decide)).mp (Decidable.not_not.mp q1)
        rw [if_pos q2] at h
        refine m166 hk.p ⟨rfl, m269 hg hT (by omega) ⟨rfl, m166 hk.p ⟨rfl, m269 (dg_lt _) hT (by omega) (b268_78_104 ?_)⟩⟩⟩
        have l1 := dr_lt (g := dgF g) hT
        have l2 := dr_lt (g := dgF (dgF g)) hT
        rw [nI_eq (by omega) (by omega)]
        refine ifb (fun q3 => ?_) (fun q3 => ?_)
        · dsimp only at h
          rw [if_pos q3] at h
          exact ⟨b01 b, _, rfl, h I Fs.rfl hk⟩
        · dsimp only at h
          rw [if_neg q3] at h
          simp only [mKm, mNm, mIm, mIf, mJm, mJf, mRm, sIm, sJm, rwIm, rwJm, kN, nN, rN, true_and]
          exact m228 (b := 1320) hk l1 l2 (fun I1 hf1 hk1 => ⟨b01 b, _, rfl, h I1 hf1 hk1⟩)
    · have q0 : w = 0 := (nI_eq (b := 0) (by omega) (by decide)).mp (Decidable.not_not.mp q)
      rw [if_pos q0] at h
      exact m205 (b := 1320) hk ⟨rfl, m232 (b := 1320) hk (frF_le hk.w _) hy (fun I1 hf1 hk1 => ⟨b01 b, _, rfl, h I1 hf1 hk1⟩)⟩
  rcases hS with rfl | rfl
  · refine b268_46_56 ?_
    simp only [mKm, mNm, mIm, mIf, mJm, mJf, mRm, sIm, sJm, rwIm, rwJm, kN, nN, rN, true_and]
    exact key
  · refine b268_47_56 ?_
    simp only [mKm, mNm, mIm, mIf, mJm, mJf, mRm, sIm, sJm, rwIm, rwJm, kN, nN, rN, true_and]
    exact key
theorem m268 (hk : KR I 1320 π τ) (hg : g < 2147483648) (hT : 0 < nT π) (hP : 0 < nP π) (hy : τ 0 0 + 1 < 2 ^ 30) (h : ∀ I', Fs 1320 I I' → KR I' 1320 π (agsF π τ g).1 → P (bI (agsB π τ g)) (mem r I' (u2 J 247 34 (lN (agsF π τ g).2)))) : CI G (d + 7) 268 [.ref 247] (mem r I (u2 J 247 34 (lN g))) P := by
  have hT6 := hk.w.t
  have hP6 := hk.w.p
  have l1 := dr_lt (g := dgF g) hP
  have l2 := dr_lt (g := dgF (dgF g)) hT
  have l3 := dr_lt (g := dgF (dgF (dgF g))) (m := 6) (by decide)
  refine e268 ⟨rfl, m168 hk.p ⟨rfl, m269 hg hP (by omega) ⟨rfl, m166 hk.p ⟨rfl, m269 (dg_lt _) hT (by omega) (b268_0_18 ⟨rfl, ?_⟩)⟩⟩⟩⟩
  refine m218 (b := 1320) hk l1 l2 ?_
  by_cases q : mayF π τ (drF (dgF g) (nP π)) (drF (dgF (dgF g)) (nT π)) = true
  · have qm : agsM π τ g = true := q
    rw [if_pos q]
    refine ifn (by decide) ⟨rfl, ?_⟩
    refine m221 (b := 1320) hk l1 l2 q (fun I1 hf1 hk1 => ?_)
    have es : agsS π τ g = tryF π τ (drF (dgF g) (nP π)) (drF (dgF (dgF g)) (nT π)) := by unfold agsS; rw [if_pos qm]
    have eb : agsB π τ g = fitF π τ (drF (dgF g) (nP π)) (drF (dgF (dgF g)) (nT π)) := by unfold agsB; rw [qm, Bool.true_and]
    have hy1 : tryF π τ (drF (dgF g) (nP π)) (drF (dgF (dgF g)) (nT π)) 0 0 + 1 < 2 ^ 30 := by rw [try_y]; exact hy
    rw [← es] at hk1 hy1
    rw [← eb]
    cases eb2 : agsB π τ g with
    | true =>
      rw [if_pos rfl]
      exact ifn (by decide) ⟨rfl, m269 (m := 6) (dg_lt _) (by decide) (by decide) (m268T (b := true) (Or.inr rfl) hk1 (dg_lt _) hT l3 hy1 (fun I2 hf2 hk2 => by rw [eb2] at h; exact h I2 (hf1.trans hf2) hk2))⟩
    | false =>
      rw [if_neg (by decide)]
      exact ifp rfl ⟨rfl, m269 (m := 6) (dg_lt _) (by decide) (by decide) (m268T (b := false) (Or.inl rfl) hk1 (dg_lt _) hT l3 hy1 (fun I2 hf2 hk2 => by rw [eb2] at h; exact h I2 (hf1.trans hf2) hk2))⟩
  · rw [if_neg q]
    rw [Bool.not_eq_true] at q
    have qm : agsM π τ g = false := q
    have es : agsS π τ g = τ := by unfold agsS; rw [qm]; rfl
    have eb : agsB π τ g = false := by unfold agsB; rw [qm, Bool.false_and]
    have hk' : KR I 1320 π (agsS π τ g) := by rw [es]; exact hk
    exact ifp rfl ⟨rfl, m269 (m := 6) (dg_lt _) (by decide) (by decide) (m268T (b := false) (Or.inl rfl) hk' (dg_lt _) hT l3 (by rw [es]; exact hy) (fun I2 hf2 hk2 => by rw [eb] at h; exact h I2 hf2 hk2))⟩
theorem age_end {w : Int32} {l : List Value} {I0 : Nat → Nat → Int32} (hk : KS I 46 π τ) (hk0 : KS I 38 π σ) {x : Nat × Nat} (h : P (ageV π σ (τ, x) w) (mem r I J)) : ifP (¬ w = 0) (ifP (¬ w = 1) (CI G (d + 7) 84 [.ref 46] (mem r I J) (fun v1 N2 => mK N2 1 = 11 ∧ mK N2 (mR N2 1 5) = 9 ∧ CI G (d + 7) 84 [.ref (mR N2 1 5)] N2 (fun v3 N4 => QI P (some (.int (v1 - v3))) N4))) (QI P (some (.int (nI (τ 0 0)))) (mem r I J))) (QI P (some (.int (nI x.2))) (mem r I J)) := by
  unfold ageV at h
  refine ifb (fun q => ?_) (fun q => ?_)
  · rw [if_neg q] at h
    refine ifb (fun q1 => ?_) (fun q1 => ?_)
    · rw [if_neg q1] at h
      refine d84 hk ?_
      simp only [mKm, mNm, mIm, mIf, mJm, mJf, mRm, sIm, sJm, rwIm, rwJm, kN, nN, rN, true_and]
      exact d84 hk0 ⟨_, rfl, h⟩
    · rw [if_pos (Decidable.not_not.mp q1)] at h; exact ⟨_, rfl, h⟩
  · rw [if_pos (Decidable.not_not.mp q)] at h; exact ⟨_, rfl, h⟩
theorem d151 {s n : Nat} {w : Int32} (hk : KS I 38 π σ) (hs : s ≤ 9999) (hn : 1 ≤ n ∧ n ≤ 99) (hw : 0 ≤ w ∧ w ≤ 2) (hy : σ 0 0 ≤ 10000) (h : ∀ I' J', Fr scT I I' → (∀ a, a ≠ 1 → J' a = J a) → P (ageV π σ (itA π σ s (ageN π n)) w) (mem r I' J')) : CI G (d + 8) 151 [.ref 1, .int (nI s), .int (nI n), .int w] (mem r I J) P := by
  have hT := hk.w.t
  have hP := hk.w.p
  refine e151 (ifn (nI_pos (by omega)) (ifn (show ¬ nI 9999 < nI s from nI_nlt (by omega) (by decide)) (ifn (show ¬ nI n < nI 1 from nI_nlt (by omega) (by omega)) (ifn (show ¬ nI 99 < nI n from nI_nlt (by omega) (by decide)) (ifn (Int32.not_lt.mpr hw.1) (ifp hw.2 ?_))))))
  simp only [mKm, mNm, mIm, mIf, mJm, mJf, mRm, sIm, sJm, rwIm, rwJm, kN, nN, rN, true_and]
  rw [nI_l (by omega)]
  refine d75k (J := u2 J 1 13 (lN s)) hk (s := 46) (by decide) (by decide) (fun I1 hf1 hk1 => b151_45_65 ?_)
  have hk01 : KS I1 38 π σ := hk.lo (fun a ha => hf1 a (by simp [sl]; omega))
  have hf1' := sl_sc Fr.rfl hf1
  have fin : ∀ g I', Fr scT I I' → P (ageV π σ (itA π σ s (ageN π n)) w) (mem r I' (u2 J 1 13 (lN g))) := fun g I' hf => h I' _ hf (fun a ha => u2n ha)
  simp only [mKm, mNm, mIm, mIf, mJm, mJf, mRm, sIm, sJm, rwIm, rwJm, kN, nN, rN, true_and, hk1.p.n0, hk1.p.n1, hk1.r0]
  by_cases qT : nT π = 0
  · rw [qT]
    have e : ageN π n = 0 := by unfold ageN; rw [if_pos (Or.inl qT)]
    rw [e] at fin
    exact ifp (by decide) (age_end (I0 := I) (l := []) (x := (s, 0)) hk1 hk01 (fin s I1 hf1'))
  · refine ifn (nI_nle (by omega) (by omega)) ?_
    by_cases qP : nP π = 0
    · rw [qP]
      have e : ageN π n = 0 := by unfold ageN; rw [if_pos (Or.inr qP)]
      rw [e] at fin
      exact ifp (by decide) (age_end (I0 := I) (l := []) (x := (s, 0)) hk1 hk01 (fin s I1 hf1'))
    · refine ifn (nI_nle (by omega) (by omega)) ?_
      have e : ageN π n = n := by unfold ageN; rw [if_neg (by omega)]
      rw [e] at fin
      refine lp (n := n) (X := fun k => ∀ I', Fr scT I I' → KS I' 46 π (itA π σ s k).1 → XX G (d + 7) (some .int) P151 (QI P) 88 [.ref 1, .int (nI s), .int (nI n), .int w, .int 1, .int (nI (itA π σ s k).2.2), .int (nI k)] [] (mem r I' (u2 J 1 13 (lN (itA π σ s k).2.1)))) (fun I2 hf2 hk2 => ?_) (fun k hkn ih I2 hf2 hk2 => ?_) I1 hf1' hk1
      · have hk02 : KS I2 38 π σ := hk.lo (fun a ha => hf2 a (by simp [scT]; omega))
        refine x151_88 (ifp (nI_le (Nat.le_refl _) (by omega)) ?_)
        simp only [mKm, mNm, mIm, mIf, mJm, mJf, mRm, sIm, sJm, rwIm, rwJm, kN, nN, rN, true_and, hk2.r0]
        exact age_end (I0 := I) (l := []) (x := (itA π σ s n).2) hk2 hk02 (fin _ I2 hf2)
      · have hb := itA_y π σ s (by omega) k
        refine x151_88 (ifn (nI_ge hkn (by omega)) ?_)
        simp only [mKm, mNm, mIm, mIf, mJm, mJf, mRm, sIm, sJm, rwIm, rwJm, kN, nN, rN, true_and]
        refine d152 hk2 hb.2.1 (by omega) (by omega) (by omega) (fun I3 hf3 hk3 => ?_)
        have ih := ih I3 (sl_sc hf2 hf3) hk3
        have e3 : (itA π σ s (k + 1)).2.2 = (itA π σ s k).2.2 + if agsB π (itA π σ s k).1 (itA π σ s k).2.1 then 1 else 0 := rfl
        rw [e3] at ih
        cases e4 : agsB π (itA π σ s k).1 (itA π σ s k).2.1 with
        | false => rw [e4] at ih; exact ifp rfl (b151_107_114 (by rw [Int32.add_zero, nI_1]; exact ih))
        | true => rw [e4] at ih; exact ifn (by decide) (b151_108_114 (by rw [nI_1, nI_1]; exact ih))
theorem d151o {s n w : Int32} {M : mm_M} (hx : ¬ ((0 ≤ s ∧ s ≤ 9999) ∧ (1 ≤ n ∧ n ≤ 99) ∧ (0 ≤ w ∧ w ≤ 2))) (h : P (-1) M) : CI G (d + 8) 151 [.ref 1, .int s, .int n, .int w] M P :=
  e151 (ifb (fun _ => h) (fun q1 => ifb (fun _ => h) (fun q2 => ifb (fun _ => h) (fun q3 => ifb (fun _ => h) (fun q4 => ifb (fun _ => h) (fun q5 => ifn (fun q6 => hx ⟨⟨Int32.not_lt.mp q1, Int32.not_lt.mp q2⟩, ⟨Int32.not_lt.mp q3, Int32.not_lt.mp q4⟩, Int32.not_lt.mp q5, q6⟩) h))))))
theorem m267e {w : Int32} {s n k : Nat} {x : Nat × Nat} (hk : KR I 1320 π τ) (hk0 : KR I 0 π σ) (h : P (ageV π σ (τ, x) w) (mem r I J)) : XX G (d + 7) (some .int) P267 (QI P) 102 [.ref 247, .int (nI s), .int (nI n), .int w, .int (nI x.2), .int (nI k)] [] (mem r I J) := by
  unfold ageV at h
  refine x267_102 (ifb (fun q => ?_) (fun q => ?_))
  · rw [if_neg q] at h
    refine ifb (fun q1 => ?_) (fun q1 => ?_)
    · rw [if_neg q1] at h
      exact ⟨rfl, m235 (b := 1320) hk ⟨rfl, m235 (b := 0) hk0 ⟨_, rfl, h⟩⟩⟩
    · rw [if_pos (Decidable.not_not.mp q1)] at h
      simp only [mKm, mNm, mIm, mIf, mJm, mJf, mRm, sIm, sJm, rwIm, rwJm, kN, nN, rN, true_and, ixl (n := 1320) (N := 1380) (x := 1320) rfl (by decide) (by decide), show I 263 1320 = _ from hk.r0]
      exact ⟨_, rfl, h⟩
  · rw [if_pos (Decidable.not_not.mp q)] at h; exact ⟨_, rfl, h⟩
theorem m267 {s n : Nat} {w : Int32} (hk : KR I 0 π σ) (hs : s ≤ 9999) (hn : 1 ≤ n ∧ n ≤ 99) (hw : 0 ≤ w ∧ w ≤ 2) (hy : σ 0 0 ≤ 10000) (h : ∀ I' J', FT 1320 I I' → (∀ a, a ≠ 247 → J' a = J a) → P (ageV π σ (itA π σ s (ageN π n)) w) (mem r I' J')) : CI G (d + 8) 267 [.ref 247, .int (nI s), .int (nI n), .int w] (mem r I J) P := by
  have hT := hk.w.t
  have hP := hk.w.p
  have hk0 := hk.t0
  refine e267 ?_
  simp only [mKm, mNm, mIm, mIf, mJm, mJf, mRm, sIm, sJm, rwIm, rwJm, kN, nN, rN, true_and]
  refine m201 ?_
  rw [if_pos ⟨nI_pos' (by omega), show nI s ≤ nI 9999 from nI_le (by omega) (by decide)⟩]
  refine ifn (by decide) (m201 ?_)
  rw [if_pos ⟨show nI 1 ≤ nI n from nI_le (by omega) (by omega), show nI n ≤ nI 99 from nI_le (by omega) (by decide)⟩]
  refine ifn (by decide) (m201 ?_)
  rw [if_pos hw]
  refine ifp (by decide) (x267_37 ⟨rfl, ?_⟩)
  refine m220k (b := 0) (t := 1320) hk0 (by decide) (by decide) (fun I1 hf1 hk1 => ?_)
  simp only [mKm, mNm, mIm, mIf, mJm, mJf, mRm, sIm, sJm, rwIm, rwJm, kN, nN, rN, true_and]
  rw [nI_l (by omega)]
  have fin : ∀ g I', FT 1320 I I' → P (ageV π σ (itA π σ s (ageN π n)) w) (mem r I' (u2 J 247 34 (lN g))) := fun g I' hf => h I' _ hf (fun a ha => u2n ha)
  have hk0' : ∀ I', FT 1320 I I' → KR I' 0 π σ := fun I' hf => hk0.keep (fun a ha => hf.1 a (by simp at ha ⊢; omega)) (fun k _ hk => hf.2 k (by omega))
  by_cases q0 : nT π = 0 ∨ nP π = 0
  · have e : ageN π n = 0 := by unfold ageN; rw [if_pos q0]
    rw [e] at fin
    refine x267_59 (ifn (show ¬ nI n ≤ nI 0 from nI_ge (by omega) (by omega)) ⟨rfl, m166 hk1.p ?_⟩)
    have en := m267e (G := G) (d := d) (P := P) (s := s) (n := n) (k := 0) (x := (s, 0)) hk1 (hk0' I1 hf1) (fin s I1 hf1)
    rcases q0 with q | q
    · rw [q]
      exact ifp (by decide) en
    · by_cases qT : nT π = 0
      · rw [qT]
        exact ifp (by decide) en
      · refine ifn (nI_nle (by omega) (by omega)) ⟨rfl, m168 hk1.p ?_⟩
        rw [q]
        exact ifp (by decide) en
  · have e : ageN π n = n := by unfold ageN; rw [if_neg q0]
    rw [e] at fin
    refine lp (n := n) (X := fun k => ∀ I', FT 1320 I I' → KR I' 1320 π (itA π σ s k).1 → XX G (d + 7) (some .int) P267 (QI P) 59 [.ref 247, .int (nI s), .int (nI n), .int w, .int (nI (itA π σ s k).2.2), .int (nI k)] [] (mem r I' (u2 J 247 34 (lN (itA π σ s k).2.1)))) (fun I2 hf2 hk2 => ?_) (fun k hkn ih I2 hf2 hk2 => ?_) I1 hf1 hk1
    · exact x267_59 (ifp (nI_le (Nat.le_refl _) (by omega)) (m267e (x := (itA π σ s n).2) hk2 (hk0' I2 hf2) (fin _ I2 hf2)))
    · have hb := itA_y π σ s (by omega) k
      refine x267_59 (ifn (nI_ge hkn (by omega)) ⟨rfl, m166 hk2.p (ifn (nI_nle (by omega) (by omega)) ⟨rfl, m168 hk2.p (ifn (nI_nle (by omega) (by omega)) ⟨rfl, ?_⟩)⟩)⟩)
      refine m268 hk2 hb.2.1 (by omega) (by omega) (by omega) (fun I3 hf3 hk3 => ?_)
      have ih := ih I3 (Fs.trans hf2 hf3) hk3
      have e3 : (itA π σ s (k + 1)).2.2 = (itA π σ s k).2.2 + if agsB π (itA π σ s k).1 (itA π σ s k).2.1 then 1 else 0 := rfl
      rw [e3] at ih
      cases e4 : agsB π (itA π σ s k).1 (itA π σ s k).2.1 with
      | false => rw [e4] at ih; exact ifp rfl (b267_92_99 (by rw [Int32.add_zero, nI_1]; exact ih))
      | true => rw [e4] at ih; exact ifn (by decide) (b267_93_99 (by rw [nI_1, nI_1]; exact ih))
theorem m267o {s n w : Int32} (hx : ¬ ((0 ≤ s ∧ s ≤ 9999) ∧ (1 ≤ n ∧ n ≤ 99) ∧ (0 ≤ w ∧ w ≤ 2))) (h : P (-1) (mem r (T0 I) J)) : CI G (d + 8) 267 [.ref 247, .int s, .int n, .int w] (mem r I J) P := by
  refine e267 ?_
  simp only [mKm, mNm, mIm, mIf, mJm, mJf, mRm, sIm, sJm, rwIm, rwJm, kN, nN, rN, true_and]
  refine m201 ?_
  by_cases q1 : 0 ≤ s ∧ s ≤ 9999
  · rw [if_pos q1]
    refine ifn (by decide) (m201 ?_)
    by_cases q2 : 1 ≤ n ∧ n ≤ 99
    · rw [if_pos q2]
      refine ifn (by decide) (m201 ?_)
      rw [if_neg (fun z => hx ⟨q1, q2, z⟩)]
      exact ifn (fun z => z rfl) h
    · rw [if_neg q2]
      exact ifp rfl h
  · rw [if_neg q1]
    exact ifp rfl h
theorem FT.keepJ {b : Nat} {I' : Nat → Nat → Int32} {J' : Nat → Nat → Int64} (hb : 1260 ≤ b) (h : FT b I I') (hj : ∀ a, a ≠ 247 → J' a = J a) : rkeep I I' J J' := by
  have := h.keep (J := J) hb
  exact ⟨this.1, this.2.1, this.2.2.1, hj 252 (by decide), hj 256 (by decide)⟩
theorem L151 {M : mm_M} (h : PR y M) (hy : y ≤ 5000) (s n w : Int32) : EQ G (d + 40) 151 267 y [.int s, .int n, .int w] M := by
  obtain ⟨r, I, J, π, σ, us, ms, fe, ln, nm, tp, rfl, hA, hR, hY⟩ := h
  have h0 := hY.1
  by_cases q : (0 ≤ s ∧ s ≤ 9999) ∧ (1 ≤ n ∧ n ≤ 99) ∧ (0 ≤ w ∧ w ≤ 2)
  · obtain ⟨s, hs, rfl⟩ := nI_of2 (M := 9999) (n := 9999) rfl (Int32.not_lt.mpr q.1.1) q.1.2
    obtain ⟨n, hn, rfl⟩ := nI_of2 (M := 99) (n := 99) rfl (Int32.not_lt.mpr (Int32.le_trans (by decide) q.2.1.1)) q.2.1.2
    have hn1 : 1 ≤ n := (nI_leI (a := 1) (by decide) (by omega)).mp q.2.1.1
    exact d151 hA.k hs ⟨hn1, hn⟩ q.2.2 (by omega) (fun I1 J1 hf1 hj1 => ⟨rfl, m267 (hR.k.lo (sc_hi hf1)) hs ⟨hn1, hn⟩ q.2.2 (by omega) (fun I2 J2 hf2 hj2 => ⟨rfl, PR_g hA hR hY (by omega) (fun a ha => hf1 a (scT_no ha)) (fun a ha => hj1 a (by omega)) hf2.lo (fun a ha => hj2 a (by omega)) (hf2.keepJ (by decide) hj2)⟩)⟩)
  · exact d151o q ⟨rfl, m267o q ⟨rfl, PR_qq hA hR hY (by omega) Fr.rfl Fr.rfl⟩⟩
end
