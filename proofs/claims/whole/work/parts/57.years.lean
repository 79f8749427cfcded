/-! a state: the year, the begin, copies -/
section
variable {G : GG} {d : Nat} {P : Int32 → mm_M → Prop} {Pv : mm_M → Prop} {Q : Option Value → mm_M → Prop} {r : Nat → Nat} {I : Nat → Nat → Int32} {J : Nat → Nat → Int64} {π : PLN} {σ : Nat → Nat → Nat} {s : Nat}
theorem d69 (hs : s ∈ stL) (h : ∀ I', Fr [s + 4, s + 5, s + 6] I I' → (∀ i, i < 6 → I' (s + 4) i = 0 ∧ I' (s + 5) i = -1 ∧ I' (s + 6) i = -1) → Pv (mem r I' J)) : CV G (d + 2) 69 [.ref s] (mem r I J) Pv := by
  refine e69 ?_
  simp only [mKm, mNm, mIm, mIf, mJm, mJf, mRm, sIm, sJm, rwIm, rwJm, kN, nN, rN, true_and, stN hs]
  refine c284 (N := 6) (stK hs (by decide) (by decide)).1 (stK hs (by decide) (by decide)).2 (by decide) ?_
  simp only [mKm, mNm, mIm, mIf, mJm, mJf, mRm, sIm, sJm, rwIm, rwJm, kN, nN, rN, true_and, stN hs]
  refine c284 (N := 6) (stK hs (by decide) (by decide)).1 (stK hs (by decide) (by decide)).2 (by decide) ?_
  simp only [mKm, mNm, mIm, mIf, mJm, mJf, mRm, sIm, sJm, rwIm, rwJm, kN, nN, rN, true_and, stN hs]
  refine c284 (N := 6) (stK hs (by decide) (by decide)).1 (stK hs (by decide) (by decide)).2 (by decide) ?_
  simp only [mKm, mNm, mIm, mIf, mJm, mJf, mRm, sIm, sJm, rwIm, rwJm, kN, nN, rN, true_and]
  refine h _ (((Fr.rfl.u1 (by simp)).u1 (by simp)).u1 (by simp)) (fun i hi => ⟨?_, ?_, ?_⟩)
  · rw [u1n (by omega), u1n (by omega), u1s, if_pos hi]
  · rw [u1n (by omega), u1s, if_pos hi]
  · rw [u1s, if_pos hi]
def morF (σ : Nat → Nat → Nat) : Nat → Nat → Nat := fun a i => if a = 4 ∨ a = 5 ∨ a = 6 then 0 else σ a i
theorem lm6 (hw : WP π) (k : Nat) : lm π k ≤ 6 := by
  have h1 := hw.t
  have h2 := hw.p
  unfold lm; split
  · omega
  · split <;> omega
theorem KS.mor (hk : KS I s π σ) {I' : Nat → Nat → Int32} (hf : Fr [s + 4, s + 5, s + 6] I I') (hz : ∀ i, i < 6 → I' (s + 4) i = 0 ∧ I' (s + 5) i = -1 ∧ I' (s + 6) i = -1) : KS I' s π (morF σ) := by
  refine ⟨hk.st, hk.p.fr_of hf (fun a ha => by have := hk.s38; simp at ha ⊢; omega), hk.w, fun k i h8 hi => ?_, hk.v.1, fun i hi => hk.v.2.1 i hi, fun i hi => ⟨(hk.v.2.2 i hi).1, Nat.zero_le _, Nat.zero_le _, Nat.zero_le _⟩⟩
  have h6 : i < 6 := Nat.lt_of_lt_of_le hi (lm6 hk.w k)
  unfold morF
  by_cases q : k = 4 ∨ k = 5 ∨ k = 6
  · rw [if_pos q]
    rcases q with rfl | rfl | rfl
    · exact (hz i h6).1
    · exact (hz i h6).2.1
    · exact (hz i h6).2.2
  · rw [if_neg q, hf (s + k) (by simp; omega)]
    exact hk.c k i h8 hi
theorem d83T {f : Nat} (hk : KS I s π σ) (hf : f ≤ 3) (h : ∀ I', Fr (sl s) I I' → KS I' s π (passT π σ f (nT π)) → XX G (d + 3) none P83 Q 57 [.ref s, .int (nI f), .int 0] [] (mem r I' J)) : XX G (d + 3) none P83 Q 2 [.ref s, .int (nI f), .int 0] [] (mem r I J) := by
  have hT := hk.w.t
  have key := lp (n := nT π) (X := fun k => ∀ I', Fr (sl s) I I' → KS I' s π (passT π σ f k) → XX G (d + 3) none P83 Q 2 [.ref s, .int (nI f), .int (nI k)] [] (mem r I' J)) ?_ ?_
  · refine key I Fr.rfl (hk.congr (fun a i _ _ => ?_))
    unfold passT
    rw [if_neg (by omega), if_neg (by omega)]
  · intro I' hf' hk'
    refine x83_2 ?_
    simp only [mKm, mNm, mIm, mIf, mJm, mJf, mRm, sIm, sJm, rwIm, rwJm, kN, nN, rN, true_and, stN hk.st, hk'.p.n0]
    exact ifp (nI_le (Nat.le_refl _) (by omega)) (h I' hf' hk')
  · intro k hkn ih I' hf' hk'
    have h6 : k < 6 := by omega
    have hv := hk.v.2.1 k hkn
    have ea : passT π σ f k 2 k = σ 2 k := by unfold passT; rw [if_neg (by omega), if_neg (by omega)]
    have el : passT π σ f k 1 k = σ 1 k := by unfold passT; rw [if_neg (by omega), if_neg (by omega)]
    refine x83_2 ?_
    simp only [mKm, mNm, mIm, mIf, mJm, mJf, mRm, sIm, sJm, rwIm, rwJm, kN, nN, rN, true_and, stN hk.st, hk'.p.n0]
    refine ifn (nI_ge hkn (by omega)) (d56 hk'.p hk'.w hkn hf ?_)
    by_cases q : f ≤ stn (π.1 5 k)
    · rw [if_pos q]
      refine ifp (by decide) ?_
      simp only [mKm, mNm, mIm, mIf, mJm, mJf, mRm, sIm, sJm, rwIm, rwJm, kN, nN, rN, true_and, stN hk.st, ix h6 (by decide), hk'.r2 hkn, nI_1, ea]
      refine c287 ?_
      rw [show (99 : Int32) = nI 99 from rfl, m_min (by decide) (by omega)]
      simp only [mKm, mNm, mIm, mIf, mJm, mJf, mRm, sIm, sJm, rwIm, rwJm, kN, nN, rN, true_and, stN hk.st, ix h6 (by decide)]
      refine ih _ (hf'.u2 (by simp [sl])) ((hk'.set (k := 2) (i := k) (n := min 99 (σ 2 k + 1)) rfl (hk'.v.up (by omega) (by omega) (by omega) (by omega) (by omega) (by omega) (by omega))).congr (fun a i _ _ => ?_))
      unfold passT
      by_cases e : i = k
      · subst e
        by_cases e2 : a = 2
        · subst e2; rw [u2s, if_neg (by omega), if_pos (by omega)]
        · by_cases e1 : a = 1
          · subst e1; rw [u2n (by decide), if_pos (by omega), if_pos q, if_neg (by omega), if_neg (by omega)]
          · rw [u2n e2, if_neg (by omega), if_neg (by omega), if_neg (by omega), if_neg (by omega)]
      · rw [u2m (fun _ => e)]
        simp only [show i < k + 1 ↔ i < k by omega]
    · rw [if_neg q]
      refine ifn (fun z => z rfl) ?_
      simp only [mKm, mNm, mIm, mIf, mJm, mJf, mRm, sIm, sJm, rwIm, rwJm, kN, nN, rN, true_and, stN hk.st]
      refine d81 hk' hkn (fun I1 hf1 hk1 => ?_)
      have ea1 : pruneF (passT π σ f k) k 2 k = σ 2 k := by unfold pruneF; rw [u2n (by decide), ea]
      simp only [mKm, mNm, mIm, mIf, mJm, mJf, mRm, sIm, sJm, rwIm, rwJm, kN, nN, rN, true_and, stN hk.st, ix h6 (by decide), hk1.r2 hkn, nI_1, ea1]
      refine c287 ?_
      rw [show (99 : Int32) = nI 99 from rfl, m_min (by decide) (by omega)]
      simp only [mKm, mNm, mIm, mIf, mJm, mJf, mRm, sIm, sJm, rwIm, rwJm, kN, nN, rN, true_and, stN hk.st, ix h6 (by decide)]
      refine ih _ ((hf'.trans hf1).u2 (by simp [sl])) ((hk1.set (k := 2) (i := k) (n := min 99 (σ 2 k + 1)) rfl (hk1.v.up (by omega) (by omega) (by omega) (by omega) (by omega) (by omega) (by omega))).congr (fun a i _ _ => ?_))
      unfold pruneF
      rw [el]
      unfold passT
      by_cases e : i = k
      · subst e
        by_cases e2 : a = 2
        · subst e2; rw [u2s, if_neg (by omega), if_pos (by omega)]
        · by_cases e1 : a = 1
          · subst e1; rw [u2n (by decide), u2s, if_pos (by omega), if_neg q]
          · rw [u2n e2, u2n e1, if_neg (by omega), if_neg (by omega), if_neg (by omega), if_neg (by omega)]
      · rw [u2m (fun _ => e), u2m (fun _ => e)]
        simp only [show i < k + 1 ↔ i < k by omega]
theorem d83 {f : Nat} (hk : KS I s π σ) (hf : f ≤ 3) (hy : σ 0 0 + 1 < 2 ^ 30) (h : ∀ I', Fr (sl s) I I' → KS I' s π (passF π σ f) → Pv (mem r I' J)) : CV G (d + 4) 83 [.ref s, .int (nI f)] (mem r I J) Pv := by
  have hP := hk.w.p
  refine e83 (d83T hk hf (fun I1 hf1 hk1 => ?_))
  have key := lp (n := nP π) (X := fun k => ∀ I', Fr (sl s) I I' → KS I' s π (passP π (passT π σ f (nT π)) k) → XX G (d + 3) none P83 (QV Pv) 57 [.ref s, .int (nI f), .int (nI k)] [] (mem r I' J)) ?_ ?_
  · refine key I1 hf1 (hk1.congr (fun a i _ _ => ?_))
    unfold passP
    rw [if_neg (by omega)]
  · intro I' hf' hk'
    refine x83_57 ?_
    simp only [mKm, mNm, mIm, mIf, mJm, mJf, mRm, sIm, sJm, rwIm, rwJm, kN, nN, rN, true_and, stN hk.st, hk'.p.n1]
    refine ifp (nI_le (Nat.le_refl _) (by omega)) (d69 hk.st (fun I2 hf2 hz => ?_))
    have hk2 := hk'.mor hf2 hz
    simp only [mKm, mNm, mIm, mIf, mJm, mJf, mRm, sIm, sJm, rwIm, rwJm, kN, nN, rN, true_and, stN hk.st, hk2.r0, nI_1]
    have hf3 : Fr (sl s) I I2 := hf'.trans (hf2.mono (by simp [sl]))
    have e0 : morF (passP π (passT π σ f (nT π)) (nP π)) 0 0 = σ 0 0 := by
      unfold morF passP passT
      rw [if_neg (by omega), if_neg (by omega), if_neg (by omega), if_neg (by omega)]
    rw [e0]
    refine ⟨rfl, h _ (hf3.u2 (by simp [sl])) ((hk2.set (k := 0) (i := 0) (n := σ 0 0 + 1) rfl (hk2.v.up (by omega) (by omega) (by omega) (by omega) (by omega) (by omega) (by omega))).congr (fun a i ha hi => ?_))⟩
    unfold passF
    rcases (show a = 0 ∨ a = 1 ∨ a = 2 ∨ a = 3 ∨ a = 4 ∨ a = 5 ∨ a = 6 ∨ a = 7 by omega) with rfl | rfl | rfl | rfl | rfl | rfl | rfl | rfl
    · have : i = 0 := by have : i < 1 := hi; omega
      subst this; rw [u2s]; rfl
    · have hi : i < nT π := hi
      rw [u2n (by decide)]; simp [morF, passP, passT, hi]
    · have hi : i < nT π := hi
      rw [u2n (by decide)]; simp [morF, passP, passT, hi]
    · have hi : i < nP π := hi
      rw [u2n (by decide)]; simp [morF, passP, passT, hi]
    · rw [u2n (by decide)]; simp [morF]
    · rw [u2n (by decide)]; simp [morF]
    · rw [u2n (by decide)]; simp [morF]
    · rw [u2n (by decide)]; simp [morF, passP, passT]
  · intro k hkn ih I' hf' hk'
    have h6 : k < 6 := by omega
    have h9 := (hk.w.pe hkn).1
    refine x83_57 ?_
    simp only [mKm, mNm, mIm, mIf, mJm, mJf, mRm, sIm, sJm, rwIm, rwJm, kN, nN, rN, true_and, stN hk.st, hk'.p.n1, ix h6 (by decide), hk'.p.pe hkn]
    refine ifn (nI_ge hkn (by omega)) (ifb (fun q => ?_) (fun q => ?_))
    · have q1 : π.1 9 k ≠ 1 := fun z => q (by rw [z]; rfl)
      rw [nI_1]
      refine ih I' hf' (hk'.congr (fun a i _ _ => ?_))
      unfold passP
      by_cases e : i = k
      · subst e; rw [if_neg (by omega), if_neg (by omega)]
      · simp only [show i < k + 1 ↔ i < k by omega]
    · have q1 : π.1 9 k = 1 := (nI_eq (by omega) (by decide)).mp (Decidable.not_not.mp q)
      have e3 : passP π (passT π σ f (nT π)) k 3 k = σ 3 k := by
        unfold passP passT
        rw [if_neg (by omega), if_neg (by omega), if_neg (by omega)]
      have hv := (hk.v.2.2 k hkn).1
      rw [hk'.r3 hkn, e3, show (2 : Int32) = nI 2 from rfl, nI_add]
      refine c287 ?_
      rw [show (40 : Int32) = nI 40 from rfl, m_min (by decide) (by omega)]
      simp only [mKm, mNm, mIm, mIf, mJm, mJf, mRm, sIm, sJm, rwIm, rwJm, kN, nN, rN, true_and, stN hk.st, ix h6 (by decide), nI_1]
      refine ih _ (hf'.u2 (by simp [sl])) ((hk'.set (k := 3) (i := k) (n := min 40 (σ 3 k + 2)) rfl (hk'.v.up (by omega) (by omega) (by omega) (by omega) (by omega) (by omega) (by omega))).congr (fun a i _ _ => ?_))
      unfold passP
      by_cases e : i = k
      · subst e
        by_cases e2 : a = 3
        · subst e2
          rw [u2s, if_pos (by omega)]
          unfold passT
          rw [if_neg (by omega), if_neg (by omega)]
        · rw [u2n e2, if_neg (by omega), if_neg (by omega)]
      · rw [u2m (fun _ => e)]
        simp only [show i < k + 1 ↔ i < k by omega]
theorem d82 (hk : KS I s π σ) (hy : σ 0 0 + 1 < 2 ^ 30) (h : ∀ I', Fr (sl s) I I' → KS I' s π (yearF π σ) → Pv (mem r I' J)) : CV G (d + 5) 82 [.ref s] (mem r I J) Pv := by
  refine e82 ?_
  simp only [mKm, mNm, mIm, mIf, mJm, mJf, mRm, sIm, sJm, rwIm, rwJm, kN, nN, rN, true_and, stN hk.st, hk.r0]
  refine d55 hk.p hk.w (by omega) ?_
  simp only [mKm, mNm, mIm, mIf, mJm, mJf, mRm, sIm, sJm, rwIm, rwJm, kN, nN, rN, true_and, stN hk.st]
  exact d83 hk (frF_le hk.w _) hy h
def roadF (π : PLN) (σ : Nat → Nat → Nat) : Nat → Nat
  | 0 => 0
  | n + 1 => roadF π σ n + σ 7 n
theorem d84 (hk : KS I s π σ) (h : P (nI (roadF π σ (nP π))) (mem r I J)) : CI G (d + 1) 84 [.ref s] (mem r I J) P := by
  have hP := hk.w.p
  refine e84 (lp (n := nP π) (X := fun k => XX G d (some .int) P84 (QI P) 4 [.ref s, .int (nI (roadF π σ k)), .int (nI k)] [] (mem r I J)) ?_ (fun k hkn ih => ?_))
  · refine x84_4 ?_
    simp only [mKm, mNm, mIm, mIf, mJm, mJf, mRm, sIm, sJm, rwIm, rwJm, kN, nN, rN, true_and, stN hk.st, hk.p.n1]
    exact ifp (nI_le (Nat.le_refl _) (by omega)) ⟨_, rfl, h⟩
  · have h6 : k < 6 := by omega
    refine x84_4 ?_
    simp only [mKm, mNm, mIm, mIf, mJm, mJf, mRm, sIm, sJm, rwIm, rwJm, kN, nN, rN, true_and, stN hk.st, hk.p.n1, ix h6 (by decide), hk.r7 hkn, nI_add, nI_1]
    exact ifn (nI_ge hkn (by omega)) (b84_4_27 ih)
theorem d85 (hk : KS I s π σ) (h : P (nI (setF (bearF π (σ 0 0)) (nT π))) (mem r I J)) : CI G (d + 4) 85 [.ref s] (mem r I J) P := by
  have hT := hk.w.t
  refine e85 (lp (n := nT π) (X := fun k => XX G (d + 3) (some .int) P85 (QI P) 4 [.ref s, .int (nI (setF (bearF π (σ 0 0)) k)), .int (nI k)] [] (mem r I J)) ?_ (fun k hkn ih => ?_))
  · refine x85_4 ?_
    simp only [mKm, mNm, mIm, mIf, mJm, mJf, mRm, sIm, sJm, rwIm, rwJm, kN, nN, rN, true_and, stN hk.st, hk.p.n0]
    exact ifp (nI_le (Nat.le_refl _) (by omega)) ⟨_, rfl, h⟩
  · have h6 : k < 6 := by omega
    refine x85_4 ?_
    simp only [mKm, mNm, mIm, mIf, mJm, mJf, mRm, sIm, sJm, rwIm, rwJm, kN, nN, rN, true_and, stN hk.st, hk.p.n0]
    refine ifn (nI_ge hkn (by omega)) (d71 hk hkn ?_)
    by_cases q : bearF π (σ 0 0) k = true
    · rw [if_pos q]
      refine ifn (by decide) (b85_31_36 ?_)
      rw [set_up h6 q, nI_1]
      exact ih
    · rw [if_neg q]
      refine ifp rfl (b85_30_36 ?_)
      rw [or0, set_no (by simpa using q), nI_1]
      exact ih
def shodS (π : PLN) (σ : Nat → Nat → Nat) : Nat := setF (fun p => σ 5 p != 0) (nP π)
theorem d86 (hk : KS I s π σ) (h : P (nI (shodS π σ)) (mem r I J)) : CI G (d + 1) 86 [.ref s] (mem r I J) P := by
  have hP := hk.w.p
  have hT := hk.w.t
  refine e86 (lp (n := nP π) (X := fun k => XX G d (some .int) P86 (QI P) 4 [.ref s, .int (nI (setF (fun p => σ 5 p != 0) k)), .int (nI k)] [] (mem r I J)) ?_ (fun k hkn ih => ?_))
  · refine x86_4 ?_
    simp only [mKm, mNm, mIm, mIf, mJm, mJf, mRm, sIm, sJm, rwIm, rwJm, kN, nN, rN, true_and, stN hk.st, hk.p.n1]
    exact ifp (nI_le (Nat.le_refl _) (by omega)) ⟨_, rfl, h⟩
  · have h6 : k < 6 := by omega
    have hv := (hk.v.2.2 k hkn).2.2.1
    refine x86_4 ?_
    simp only [mKm, mNm, mIm, mIf, mJm, mJf, mRm, sIm, sJm, rwIm, rwJm, kN, nN, rN, true_and, stN hk.st, hk.p.n1, ix h6 (by decide), hk.r5 hkn, sh_m1 (show σ 5 k < 2 ^ 30 by omega)]
    refine ifn (nI_ge hkn (by omega)) (ifb (fun q => b86_32_38 ?_) (fun q => b86_33_38 ?_))
    · rw [or0, set_no (c := fun p => σ 5 p != 0) (by simp [q]), nI_1]
      exact ih
    · rw [set_up (c := fun p => σ 5 p != 0) h6 (by simp [q]), nI_1]
      exact ih
/-! the begin -/
theorem d68 (hs : s ∈ stL) (hp : CP I π) (hw : WP π) (h : ∀ I', Fr (sl s) I I' → KS I' s π (begF π) → Pv (mem r I' J)) : CV G (d + 3) 68 [.ref s] (mem r I J) Pv := by
  have h38 := st_ge hs
  have n5 : ∀ k, k < 8 → s + k ≠ 5 ∧ s + k ≠ 6 ∧ s + k ≠ 7 ∧ s + k ≠ 10 := fun k _ => by omega
  refine e68 ?_
  simp only [mKm, mNm, mIm, mIf, mJm, mJf, mRm, sIm, sJm, rwIm, rwJm, kN, nN, rN, true_and, stN hs, Nat.zero_add, Nat.le_refl]
  refine b68_0_23 ?_
  simp only [mKm, mNm, mIm, mIf, mJm, mJf, mRm, sIm, sJm, rwIm, rwJm, kN, nN, rN, true_and, stN hs, Nat.zero_add, Nat.le_refl]
  refine b68_0_41 ?_
  simp only [mKm, mNm, mIm, mIf, mJm, mJf, mRm, sIm, sJm, rwIm, rwJm, kN, nN, rN, true_and, stN hs, Nat.zero_add, Nat.le_refl]
  refine b68_0_59 ?_
  simp only [mKm, mNm, mIm, mIf, mJm, mJf, mRm, sIm, sJm, rwIm, rwJm, kN, nN, rN, true_and, stN hs]
  refine c284 (N := 6) (stK hs (by decide) (by decide)).1 (stK hs (by decide) (by decide)).2 (by decide) ?_
  simp only [mKm, mNm, mIm, mIf, mJm, mJf, mRm, sIm, sJm, rwIm, rwJm, kN, nN, rN, true_and, stN hs]
  refine d69 hs (fun I2 hf2 hz => ⟨rfl, ?_⟩)
  have hr : ∀ k, k < 8 → k ≠ 4 → k ≠ 5 → k ≠ 6 → I2 (s + k) = _ := fun k _ _ _ _ => hf2 (s + k) (by simp; omega)
  have e6 : ∀ i, u2 I s 0 0 6 i = I 6 i := fun i => by rw [u2n (by omega)]
  have hfr : Fr (sl s) I I2 := by
    refine Fr.trans ?_ (hf2.mono (by simp [sl]))
    exact ((((Fr.rfl.u2 (by simp [sl])).u1 (by simp [sl])).u1 (by simp [sl])).u1 (by simp [sl])).u1 (by simp [sl])
  refine h I2 hfr ⟨hs, hp.fr_of hfr (fun a ha => by simp [sl] at ha ⊢; omega), hw, fun k i h8 hi => ?_, (show (0 : Nat) < 2 ^ 30 by decide), fun i hi => ?_, fun i hi => ?_⟩
  · have h6 : i < 6 := Nat.lt_of_lt_of_le hi (lm6 hw k)
    rcases (show k = 0 ∨ k = 1 ∨ k = 2 ∨ k = 3 ∨ k = 4 ∨ k = 5 ∨ k = 6 ∨ k = 7 by omega) with rfl | rfl | rfl | rfl | rfl | rfl | rfl | rfl
    · have : i = 0 := by have : i < 1 := hi; omega
      subst this
      rw [hr 0 (by decide) (by decide) (by decide) (by decide), u1n (by omega), u1n (by omega), u1n (by omega), u1n (by omega), show s + 0 = s from rfl, u2s]; rfl
    · rw [hr 1 (by decide) (by decide) (by decide) (by decide), u1n (by omega), u1n (by omega), u1n (by omega), u1s, pk_cpy_in (by omega) (by omega), u2n (by omega), Nat.sub_zero, Nat.zero_add, (hp.tr hi).2.1]; rfl
    · rw [hr 2 (by decide) (by decide) (by decide) (by decide), u1n (by omega), u1n (by omega), u1s, pk_cpy_in (by omega) (by omega), u1n (by omega), u2n (by omega), Nat.sub_zero, Nat.zero_add, (hp.tr hi).2.2]; rfl
    · rw [hr 3 (by decide) (by decide) (by decide) (by decide), u1n (by omega), u1s, pk_cpy_in (by omega) (by omega), u1n (by omega), u1n (by omega), u2n (by omega), Nat.sub_zero, Nat.zero_add, (hp.pe hi).2]; rfl
    · exact (hz i h6).1
    · exact (hz i h6).2.1
    · exact (hz i h6).2.2
    · rw [hr 7 (by decide) (by decide) (by decide) (by decide), u1s, if_pos h6]; rfl
  · have := hw.tr hi
    exact ⟨this.2.1, Nat.le_trans this.2.2 (by decide)⟩
  · have := hw.pe hi
    exact ⟨Nat.le_trans this.2 (by decide), Nat.zero_le _, Nat.zero_le _, Nat.zero_le _⟩
/-! a copy -/
def cpI (I : Nat → Nat → Int32) (s o m : Nat) (I' : Nat → Nat → Int32) : Prop := Fr (sl s) I I' ∧ I' s 0 = I o 0 ∧ ∀ k i, 1 ≤ k → k ≤ m → i < 6 → I' (s + k) i = I (o + k) i
theorem cpI_up {o m : Nat} {I' : Nat → Nat → Int32} (hs : s ∈ stL) (ho : o ∈ stL) (hn : s ≠ o) (hm : m < 7) (h : cpI I s o m I') : cpI I s o (m + 1) (u1 I' (s + (m + 1)) (va_cpy (I' (o + (m + 1))) (I' (s + (m + 1))) 0 0 6)) := by
  have hd := st_dis s hs o ho hn
  have h38 := st_ge ho
  refine ⟨h.1.u1 (by simp [sl]; omega), by rw [u1n (by omega)]; exact h.2.1, fun k i h1 h2 h6 => ?_⟩
  by_cases e : k = m + 1
  · subst e
    rw [u1s, pk_cpy_in (by omega) (by omega), Nat.sub_zero, Nat.zero_add, h.1 (o + (m + 1)) (by simp [sl]; omega)]
  · rw [u1n (by omega)]
    exact h.2.2 k i h1 (by omega) h6
theorem d75 {o : Nat} (hs : s ∈ stL) (ho : o ∈ stL) (hn : s ≠ o) (h : ∀ I', cpI I s o 7 I' → Pv (mem r I' J)) : CV G (d + 1) 75 [.ref s, .ref o] (mem r I J) Pv := by
  have hd := st_dis s hs o ho hn
  have w7 : ∀ I', cpI I s o 6 I' → BB G d none P75 (QV Pv) S75_0_98 98 [.ref s, .ref o] [] (mem r I' J) := fun I' hc => by
    refine b75_0_98 ?_
    simp only [mKm, mNm, mIm, mIf, mJm, mJf, mRm, sIm, sJm, rwIm, rwJm, kN, nN, rN, true_and, stN hs, stN ho, Nat.zero_add, Nat.le_refl]
    exact b75_0_113 ⟨rfl, h _ (cpI_up hs ho hn (by decide) hc)⟩
  have w6 : ∀ I', cpI I s o 5 I' → BB G d none P75 (QV Pv) S75_0_83 83 [.ref s, .ref o] [] (mem r I' J) := fun I' hc => by
    refine b75_0_83 ?_
    simp only [mKm, mNm, mIm, mIf, mJm, mJf, mRm, sIm, sJm, rwIm, rwJm, kN, nN, rN, true_and, stN hs, stN ho, Nat.zero_add, Nat.le_refl]
    exact w7 _ (cpI_up hs ho hn (by decide) hc)
  have w5 : ∀ I', cpI I s o 4 I' → BB G d none P75 (QV Pv) S75_0_68 68 [.ref s, .ref o] [] (mem r I' J) := fun I' hc => by
    refine b75_0_68 ?_
    simp only [mKm, mNm, mIm, mIf, mJm, mJf, mRm, sIm, sJm, rwIm, rwJm, kN, nN, rN, true_and, stN hs, stN ho, Nat.zero_add, Nat.le_refl]
    exact w6 _ (cpI_up hs ho hn (by decide) hc)
  have w4 : ∀ I', cpI I s o 3 I' → BB G d none P75 (QV Pv) S75_0_53 53 [.ref s, .ref o] [] (mem r I' J) := fun I' hc => by
    refine b75_0_53 ?_
    simp only [mKm, mNm, mIm, mIf, mJm, mJf, mRm, sIm, sJm, rwIm, rwJm, kN, nN, rN, true_and, stN hs, stN ho, Nat.zero_add, Nat.le_refl]
    exact w5 _ (cpI_up hs ho hn (by decide) hc)
  have w3 : ∀ I', cpI I s o 2 I' → BB G d none P75 (QV Pv) S75_0_38 38 [.ref s, .ref o] [] (mem r I' J) := fun I' hc => by
    refine b75_0_38 ?_
    simp only [mKm, mNm, mIm, mIf, mJm, mJf, mRm, sIm, sJm, rwIm, rwJm, kN, nN, rN, true_and, stN hs, stN ho, Nat.zero_add, Nat.le_refl]
    exact w4 _ (cpI_up hs ho hn (by decide) hc)
  have w2 : ∀ I', cpI I s o 1 I' → BB G d none P75 (QV Pv) S75_0_23 23 [.ref s, .ref o] [] (mem r I' J) := fun I' hc => by
    refine b75_0_23 ?_
    simp only [mKm, mNm, mIm, mIf, mJm, mJf, mRm, sIm, sJm, rwIm, rwJm, kN, nN, rN, true_and, stN hs, stN ho, Nat.zero_add, Nat.le_refl]
    exact w3 _ (cpI_up hs ho hn (by decide) hc)
  refine e75 ?_
  simp only [mKm, mNm, mIm, mIf, mJm, mJf, mRm, sIm, sJm, rwIm, rwJm, kN, nN, rN, true_and, stN hs, stN ho, Nat.zero_add, Nat.le_refl]
  refine w2 _ (cpI_up hs ho hn (by decide) ⟨Fr.rfl.u2 (by simp [sl]), u2s, fun k i h1 h2 => by omega⟩)
theorem KS.cpy {o : Nat} {I' : Nat → Nat → Int32} (hk : KS I o π σ) (hs : s ∈ stL) (h : cpI I s o 7 I') : KS I' s π σ := by
  have h38 := st_ge hs
  refine ⟨hs, hk.p.fr_of h.1 (fun a ha => by simp [sl] at ha ⊢; omega), hk.w, fun k i h8 hi => ?_, hk.v⟩
  have h6 : i < 6 := Nat.lt_of_lt_of_le hi (lm6 hk.w k)
  by_cases e : k = 0
  · subst e
    have : i = 0 := by have : i < 1 := hi; omega
    subst this
    show I' s 0 = _
    rw [h.2.1]
    exact hk.c 0 0 h8 hi
  · rw [h.2.2 k i (by omega) (by omega) h6]
    exact hk.c k i h8 hi
theorem d75k {o : Nat} (hk : KS I o π σ) (hs : s ∈ stL) (hn : s ≠ o) (h : ∀ I', Fr (sl s) I I' → KS I' s π σ → Pv (mem r I' J)) : CV G (d + 1) 75 [.ref s, .ref o] (mem r I J) Pv := d75 hs hk.st hn (fun I' hc => h I' hc.1 (hk.cpy hs hc))
end
