/-! the other side: what is asked -/
def T0 (I : Nat → Nat → Int32) : Nat → Nat → Int32 := u2 I 247 0 0
theorem eU (t : Nat) : (1 : Int32) + nI t = nI (0 + 1 + t) ∧ (7 : Int32) + nI t = nI (0 + 7 + t) ∧ (13 : Int32) + nI t = nI (0 + 13 + t) ∧ (19 : Int32) + nI t = nI (0 + 19 + t) ∧ (25 : Int32) + nI t = nI (0 + 25 + t) ∧ (31 : Int32) + nI t = nI (0 + 31 + t) ∧ (37 : Int32) + nI t = nI (0 + 37 + t) := by
  have h : ∀ c : Nat, nI c + nI t = nI (0 + c + t) := fun c => by rw [nI_add, Nat.zero_add]
  exact ⟨h 1, h 7, h 13, h 19, h 25, h 31, h 37⟩
section
variable {G : GG} {d : Nat} {P : Int32 → mm_M → Prop} {Pv : mm_M → Prop} {Q : Option Value → mm_M → Prop} {r : Nat → Nat} {I : Nat → Nat → Int32} {J : Nat → Nat → Int64} {π : PLN} {σ : Nat → Nat → Nat} {b : Nat}
theorem KR.t0 (hk : KR I b π σ) : KR (T0 I) b π σ := hk.keep (fun a ha => u2n (fun z => by subst z; exact absurd ha (by decide))) (fun k _ _ => by unfold T0; rw [u2n (by decide)])
theorem RP.t0 (hp : RP I π) : RP (T0 I) π := hp.fr_of (u2n (by decide)) (u2n (by decide)) (u2n (by decide))
def vTree (π : PLN) (σ : Nat → Nat → Nat) (t : Nat) (w : Int32) : Int32 := if w = 0 then nI (π.1 5 t) else if w = 1 then nI (σ 1 t) else if w = 2 then nI (σ 2 t) else if w = 3 then (if bearF π (σ 0 0) t then nI (szF π (σ 1 t) (σ 2 t) (σ 0 0)) else -1) else if w = 4 then nI (havF π σ t) else -2
def vPers (π : PLN) (σ : Nat → Nat → Nat) (p : Nat) (w : Int32) : Int32 := if w = 0 then nI (π.1 9 p) else if w = 1 then nI (σ 3 p) else if w = 2 then nI (σ 5 p) - 1 else if w = 3 then nI (σ 4 p) else if w = 4 then nI (σ 7 p) else if w = 5 then nI (σ 6 p) - 1 else -2
theorem d112 {t : Nat} {w : Int32} (hk : KS I 38 π σ) (ht : t < nT π) (h : ∀ I', Fr [15, 245] I I' → P (vTree π σ t w) (mem r I' J)) : CI G (d + 5) 112 [.ref 1, .int (nI t), .int w] (mem r I J) P := by
  have hT := hk.w.t
  have h6 : t < 6 := by omega
  unfold vTree at h
  refine e112 ?_
  simp only [mKm, mNm, mIm, mIf, mJm, mJf, mRm, sIm, sJm, rwIm, rwJm, kN, nN, rN, true_and]
  refine d54 hk.p hk.w ht (ifp (by decide) ?_)
  simp only [mKm, mNm, mIm, mIf, mJm, mJf, mRm, sIm, sJm, rwIm, rwJm, kN, nN, rN, true_and, stN hk.st, ix h6 (by decide), hk.p.tr ht, hk.r1 ht, hk.r2 ht, m2]
  refine ifb (fun q => ?_) (fun q => ?_)
  · simp only [if_pos q] at h; exact h I Fr.rfl
  simp only [if_neg q] at h
  refine ifb (fun q => ?_) (fun q => ?_)
  · simp only [if_pos q] at h; exact h I Fr.rfl
  simp only [if_neg q] at h
  refine ifb (fun q => ?_) (fun q => ?_)
  · simp only [if_pos q] at h; exact h I Fr.rfl
  simp only [if_neg q] at h
  refine ifb (fun q => ?_) (fun q => ?_)
  · simp only [if_pos q] at h
    exact d70 hk ht (fun I1 hf => h I1 (hf.mono (by simp)))
  simp only [if_neg q] at h
  refine ifb (fun q => ?_) (fun q => ?_)
  · simp only [if_pos q] at h
    exact d72 hk (by omega) (h I Fr.rfl)
  simp only [if_neg q] at h
  exact h I Fr.rfl
theorem d112o {x w : Int32} (hk : KS I 38 π σ) (hx : ¬ (0 ≤ x ∧ x < nI (nT π))) (h : P (-2) (mem r I J)) : CI G (d + 5) 112 [.ref 1, .int x, .int w] (mem r I J) P := by
  refine e112 ?_
  simp only [mKm, mNm, mIm, mIf, mJm, mJf, mRm, sIm, sJm, rwIm, rwJm, kN, nN, rN, true_and, m2]
  exact d54o hk.p hx (ifn (fun z => z rfl) h)
theorem d113 {p : Nat} {w : Int32} (hk : KS I 38 π σ) (hp : p < nP π) (h : P (vPers π σ p w) (mem r I J)) : CI G (d + 5) 113 [.ref 1, .int (nI p), .int w] (mem r I J) P := by
  have hP := hk.w.p
  have h6 : p < 6 := by omega
  unfold vPers at h
  refine e113 ?_
  simp only [mKm, mNm, mIm, mIf, mJm, mJf, mRm, sIm, sJm, rwIm, rwJm, kN, nN, rN, true_and]
  refine d58 hk.p hk.w hp (ifp (by decide) ?_)
  simp only [mKm, mNm, mIm, mIf, mJm, mJf, mRm, sIm, sJm, rwIm, rwJm, kN, nN, rN, true_and, stN hk.st, ix h6 (by decide), hk.p.pe hp, hk.r3 hp, hk.r4 hp, hk.r5 hp, hk.r6 hp, hk.r7 hp, m2]
  refine ifb (fun q => by rw [if_pos q] at h; exact h) (fun q => ?_); rw [if_neg q] at h
  refine ifb (fun q => by rw [if_pos q] at h; exact h) (fun q => ?_); rw [if_neg q] at h
  refine ifb (fun q => by rw [if_pos q] at h; exact h) (fun q => ?_); rw [if_neg q] at h
  refine ifb (fun q => by rw [if_pos q] at h; exact h) (fun q => ?_); rw [if_neg q] at h
  refine ifb (fun q => by rw [if_pos q] at h; exact h) (fun q => ?_); rw [if_neg q] at h
  refine ifb (fun q => by rw [if_pos q] at h; exact h) (fun q => ?_); rw [if_neg q] at h
  exact h
theorem d113o {x w : Int32} (hk : KS I 38 π σ) (hx : ¬ (0 ≤ x ∧ x < nI (nP π))) (h : P (-2) (mem r I J)) : CI G (d + 5) 113 [.ref 1, .int x, .int w] (mem r I J) P := by
  refine e113 ?_
  simp only [mKm, mNm, mIm, mIf, mJm, mJf, mRm, sIm, sJm, rwIm, rwJm, kN, nN, rN, true_and, m2]
  exact d58o hk.p hx (ifn (fun z => z rfl) h)
theorem d114 {p t : Nat} (hk : KS I 38 π σ) (hp : p < nP π) (ht : t < nT π) (h : ∀ I', Fr [15, 245] I I' → P (if fitF π σ p t then 1 else 0) (mem r I' J)) : CI G (d + 5) 114 [.ref 1, .int (nI p), .int (nI t)] (mem r I J) P := by
  refine e114 ?_
  simp only [mKm, mNm, mIm, mIf, mJm, mJf, mRm, sIm, sJm, rwIm, rwJm, kN, nN, rN, true_and, stN hk.st]
  exact d73 hk hp ht (fun I1 hf => ⟨by split <;> decide, h I1 (hf.mono (by simp))⟩)
theorem d114o {p t : Int32} (hk : KS I 38 π σ) (hpt : ¬ ((0 ≤ p ∧ p < nI (nP π)) ∧ (0 ≤ t ∧ t < nI (nT π)))) (h : P 0 (mem r I J)) : CI G (d + 5) 114 [.ref 1, .int p, .int t] (mem r I J) P := by
  refine e114 ?_
  simp only [mKm, mNm, mIm, mIf, mJm, mJf, mRm, sIm, sJm, rwIm, rwJm, kN, nN, rN, true_and, stN hk.st]
  exact d73o hk hpt ⟨Or.inl rfl, h⟩
theorem m202 {t : Nat} {w : Int32} (hk : KR I 0 π σ) (ht : t < nT π) (h : ∀ I', Fr [261, 262] (T0 I) I' → P (vTree π σ t w) (mem r I' J)) : CI G (d + 5) 202 [.ref 247, .int (nI t), .int w] (mem r I J) P := by
  have hT := hk.w.t
  have hk1 := hk.t0
  unfold vTree at h
  refine e202 ?_
  simp only [mKm, mNm, mIm, mIf, mJm, mJf, mRm, sIm, sJm, rwIm, rwJm, kN, nN, rN, true_and]
  refine m203 hk1.p hk1.w ht (ifn (by decide) (m201 ?_))
  by_cases qw : 0 ≤ w ∧ w ≤ 4
  · rw [if_pos qw]
    refine ifp (by decide) ?_
    simp only [mKm, mNm, mIm, mIf, mJm, mJf, mRm, sIm, sJm, rwIm, rwJm, kN, nN, rN, true_and, eU, ix (show 0 + 1 + t < 1380 by omega) (by decide), ix (show 0 + 7 + t < 1380 by omega) (by decide)]
    rw [show u2 I 247 0 0 263 (0 + 1 + t) = nI (σ 1 t) from hk1.r1 ht, show u2 I 247 0 0 263 (0 + 7 + t) = nI (σ 2 t) from hk1.r2 ht]
    refine ifb (fun q => ?_) (fun q => ?_)
    · simp only [if_pos q] at h; exact m167 hk1.p hk1.w ht (h _ Fr.rfl)
    simp only [if_neg q] at h
    refine ifb (fun q => ?_) (fun q => ?_)
    · simp only [if_pos q] at h; exact h _ Fr.rfl
    simp only [if_neg q] at h
    refine ifb (fun q => ?_) (fun q => ?_)
    · simp only [if_pos q] at h; exact h _ Fr.rfl
    simp only [if_neg q] at h
    refine ifb (fun q => ?_) (fun q => ?_)
    · simp only [if_pos q] at h
      refine m204 (b := 0) hk1 ht ?_
      by_cases q2 : bearF π (σ 0 0) t = true
      · simp only [if_pos q2] at h ⊢
        refine ifn (by decide) ?_
        simp only [mKm, mNm, mIm, mIf, mJm, mJf, mRm, sIm, sJm, rwIm, rwJm, kN, nN, rN, true_and]
        exact m207 (b := 0) hk1 ht h
      · simp only [if_neg q2] at h ⊢
        exact ifp trivial (h _ Fr.rfl)
    simp only [if_neg q] at h
    have q4 : w = 4 := by
      obtain ⟨n, hn, rfl⟩ := nI_of2 (M := 4) (n := 4) rfl (Int32.not_lt.mpr qw.1) qw.2
      rename_i q0 q1 q2
      have : n ≠ 0 ∧ n ≠ 1 ∧ n ≠ 2 ∧ n ≠ 3 := ⟨fun z => q0 (by rw [z]; rfl), fun z => q1 (by rw [z]; rfl), fun z => q2 (by rw [z]; rfl), fun z => q (by rw [z]; rfl)⟩
      rw [show n = 4 by omega]; rfl
    simp only [if_pos q4] at h
    exact m210 (b := 0) hk1 (by omega) (h _ Fr.rfl)
  · rw [if_neg qw, m2]
    have : ∀ n : Nat, n ≤ 4 → w ≠ nI n := fun n hn z => qw (by rw [z]; exact ⟨nI_pos' (by omega), nI_le (b := 4) hn (by decide)⟩)
    simp only [if_neg (show ¬ w = 0 from this 0 (by decide)), if_neg (show ¬ w = 1 from this 1 (by decide)), if_neg (show ¬ w = 2 from this 2 (by decide)), if_neg (show ¬ w = 3 from this 3 (by decide)), if_neg (show ¬ w = 4 from this 4 (by decide))] at h
    exact ifn (fun z => z rfl) (h _ Fr.rfl)
theorem m202o {x w : Int32} (hk : KR I 0 π σ) (hx : ¬ (0 ≤ x ∧ x < nI (nT π))) (h : P (-2) (mem r (T0 I) J)) : CI G (d + 5) 202 [.ref 247, .int x, .int w] (mem r I J) P := by
  refine e202 ?_
  simp only [mKm, mNm, mIm, mIf, mJm, mJf, mRm, sIm, sJm, rwIm, rwJm, kN, nN, rN, true_and, m2]
  exact m203o hk.t0.p hx (ifp rfl h)
theorem m211 {p : Nat} {w : Int32} (hk : KR I 0 π σ) (hp : p < nP π) (h : P (vPers π σ p w) (mem r (T0 I) J)) : CI G (d + 5) 211 [.ref 247, .int (nI p), .int w] (mem r I J) P := by
  have hP := hk.w.p
  have hk1 := hk.t0
  unfold vPers at h
  refine e211 ?_
  simp only [mKm, mNm, mIm, mIf, mJm, mJf, mRm, sIm, sJm, rwIm, rwJm, kN, nN, rN, true_and]
  refine m212 hk1.p hk1.w hp (ifn (by decide) (m201 ?_))
  by_cases qw : 0 ≤ w ∧ w ≤ 5
  · rw [if_pos qw]
    refine ifp (by decide) ?_
    simp only [mKm, mNm, mIm, mIf, mJm, mJf, mRm, sIm, sJm, rwIm, rwJm, kN, nN, rN, true_and, eU, ix (show 0 + 13 + p < 1380 by omega) (by decide), ix (show 0 + 19 + p < 1380 by omega) (by decide), ix (show 0 + 25 + p < 1380 by omega) (by decide), ix (show 0 + 31 + p < 1380 by omega) (by decide), ix (show 0 + 37 + p < 1380 by omega) (by decide)]
    rw [show u2 I 247 0 0 263 (0 + 13 + p) = nI (σ 3 p) from hk1.r3 hp, show u2 I 247 0 0 263 (0 + 19 + p) = nI (σ 5 p) - 1 from hk1.r5 hp, show u2 I 247 0 0 263 (0 + 25 + p) = nI (σ 4 p) from hk1.r4 hp, show u2 I 247 0 0 263 (0 + 31 + p) = nI (σ 7 p) from hk1.r7 hp, show u2 I 247 0 0 263 (0 + 37 + p) = nI (σ 6 p) - 1 from hk1.r6 hp]
    refine ifb (fun q => by rw [if_pos q] at h; exact m169 hk1.p hk1.w hp h) (fun q0 => ?_); rw [if_neg q0] at h
    refine ifb (fun q => by rw [if_pos q] at h; exact h) (fun q1 => ?_); rw [if_neg q1] at h
    refine ifb (fun q => by rw [if_pos q] at h; exact h) (fun q2 => ?_); rw [if_neg q2] at h
    refine ifb (fun q => by rw [if_pos q] at h; exact h) (fun q3 => ?_); rw [if_neg q3] at h
    refine ifb (fun q => by rw [if_pos q] at h; exact h) (fun q4 => ?_); rw [if_neg q4] at h
    have q5 : w = 5 := by
      obtain ⟨n, hn, rfl⟩ := nI_of2 (M := 5) (n := 5) rfl (Int32.not_lt.mpr qw.1) qw.2
      have : n ≠ 0 ∧ n ≠ 1 ∧ n ≠ 2 ∧ n ≠ 3 ∧ n ≠ 4 := ⟨fun z => q0 (by rw [z]; rfl), fun z => q1 (by rw [z]; rfl), fun z => q2 (by rw [z]; rfl), fun z => q3 (by rw [z]; rfl), fun z => q4 (by rw [z]; rfl)⟩
      rw [show n = 5 by omega]; rfl
    rw [if_pos q5] at h
    exact h
  · rw [if_neg qw, m2]
    have : ∀ n : Nat, n ≤ 5 → w ≠ nI n := fun n hn z => qw (by rw [z]; exact ⟨nI_pos' (by omega), nI_le (b := 5) hn (by decide)⟩)
    simp only [if_neg (show ¬ w = 0 from this 0 (by decide)), if_neg (show ¬ w = 1 from this 1 (by decide)), if_neg (show ¬ w = 2 from this 2 (by decide)), if_neg (show ¬ w = 3 from this 3 (by decide)), if_neg (show ¬ w = 4 from this 4 (by decide)), if_neg (show ¬ w = 5 from this 5 (by decide))] at h
    exact ifn (fun z => z rfl) h
theorem m211o {x w : Int32} (hk : KR I 0 π σ) (hx : ¬ (0 ≤ x ∧ x < nI (nP π))) (h : P (-2) (mem r (T0 I) J)) : CI G (d + 5) 211 [.ref 247, .int x, .int w] (mem r I J) P := by
  refine e211 ?_
  simp only [mKm, mNm, mIm, mIf, mJm, mJf, mRm, sIm, sJm, rwIm, rwJm, kN, nN, rN, true_and, m2]
  exact m212o hk.t0.p hx (ifp rfl h)
theorem m213 {p t : Nat} (hk : KR I 0 π σ) (hp : p < nP π) (ht : t < nT π) (h : ∀ I', Fr [261, 262] (T0 I) I' → P (if fitF π σ p t then 1 else 0) (mem r I' J)) : CI G (d + 5) 213 [.ref 247, .int (nI p), .int (nI t)] (mem r I J) P := by
  have hk1 := hk.t0
  refine e213 ?_
  simp only [mKm, mNm, mIm, mIf, mJm, mJf, mRm, sIm, sJm, rwIm, rwJm, kN, nN, rN, true_and]
  refine m212 hk1.p hk1.w hp (ifn (by decide) ?_)
  simp only [mKm, mNm, mIm, mIf, mJm, mJf, mRm, sIm, sJm, rwIm, rwJm, kN, nN, rN, true_and]
  refine m203 hk1.p hk1.w ht (ifn (by decide) ?_)
  simp only [mKm, mNm, mIm, mIf, mJm, mJf, mRm, sIm, sJm, rwIm, rwJm, kN, nN, rN, true_and]
  refine m214 (b := 0) hk1 hp ht (fun I1 hf1 => ?_)
  have h := h I1 hf1
  by_cases q : fitF π σ p t = true
  · rw [if_pos q] at h ⊢; exact ifn (by decide) h
  · rw [if_neg q] at h ⊢; exact ifp rfl h
theorem m213o {p t : Int32} (hk : KR I 0 π σ) (hpt : ¬ ((0 ≤ p ∧ p < nI (nP π)) ∧ (0 ≤ t ∧ t < nI (nT π)))) (h : P 0 (mem r (T0 I) J)) : CI G (d + 5) 213 [.ref 247, .int p, .int t] (mem r I J) P := by
  have hk1 := hk.t0
  have hP := hk.w.p
  refine e213 ?_
  simp only [mKm, mNm, mIm, mIf, mJm, mJf, mRm, sIm, sJm, rwIm, rwJm, kN, nN, rN, true_and]
  by_cases q : 0 ≤ p ∧ p < nI (nP π)
  · obtain ⟨n, hn, rfl⟩ := inR (by omega) q
    refine m212 hk1.p hk1.w hn (ifn (by decide) ?_)
    simp only [mKm, mNm, mIm, mIf, mJm, mJf, mRm, sIm, sJm, rwIm, rwJm, kN, nN, rN, true_and]
    exact m203o hk1.p (fun z => hpt ⟨q, z⟩) (ifp rfl h)
  · exact m212o hk1.p q (ifp rfl h)
theorem m236 {p : Nat} (hk : KR I 0 π σ) (hp : p < nP π) (h : ∀ I', Fr [261, 262] (T0 I) I' → P (nI (setF (fitF π σ p) (nT π))) (mem r I' J)) : CI G (d + 6) 236 [.ref 247, .int (nI p)] (mem r I J) P := by
  have hk1 := hk.t0
  refine e236 ?_
  simp only [mKm, mNm, mIm, mIf, mJm, mJf, mRm, sIm, sJm, rwIm, rwJm, kN, nN, rN, true_and]
  refine m212 hk1.p hk1.w hp (ifn (by decide) ?_)
  simp only [mKm, mNm, mIm, mIf, mJm, mJf, mRm, sIm, sJm, rwIm, rwJm, kN, nN, rN, true_and]
  exact m237 (b := 0) hk1 hp h
theorem m236o {x : Int32} (hk : KR I 0 π σ) (hx : ¬ (0 ≤ x ∧ x < nI (nP π))) (h : P (-1) (mem r (T0 I) J)) : CI G (d + 6) 236 [.ref 247, .int x] (mem r I J) P := by
  refine e236 ?_
  simp only [mKm, mNm, mIm, mIf, mJm, mJf, mRm, sIm, sJm, rwIm, rwJm, kN, nN, rN, true_and]
  exact m212o hk.t0.p hx (ifp rfl h)
theorem m238 {t : Nat} (hk : KR I 0 π σ) (ht : t < nT π) (h : ∀ I', Fr [261, 262] (T0 I) I' → P (if bearF π (σ 0 0) t then nI (weaF π σ t) else -1) (mem r I' J)) : CI G (d + 6) 238 [.ref 247, .int (nI t)] (mem r I J) P := by
  have hk1 := hk.t0
  refine e238 ?_
  simp only [mKm, mNm, mIm, mIf, mJm, mJf, mRm, sIm, sJm, rwIm, rwJm, kN, nN, rN, true_and]
  refine m203 hk1.p hk1.w ht (ifn (by decide) ?_)
  simp only [mKm, mNm, mIm, mIf, mJm, mJf, mRm, sIm, sJm, rwIm, rwJm, kN, nN, rN, true_and]
  refine m204 (b := 0) hk1 ht ?_
  by_cases q : bearF π (σ 0 0) t = true
  · simp only [if_pos q] at h ⊢
    refine ifn (by decide) ?_
    simp only [mKm, mNm, mIm, mIf, mJm, mJf, mRm, sIm, sJm, rwIm, rwJm, kN, nN, rN, true_and]
    exact m239 hk1 ht h
  · simp only [if_neg q] at h ⊢
    exact ifp trivial (h _ Fr.rfl)
theorem m238o {x : Int32} (hk : KR I 0 π σ) (hx : ¬ (0 ≤ x ∧ x < nI (nT π))) (h : P (-1) (mem r (T0 I) J)) : CI G (d + 6) 238 [.ref 247, .int x] (mem r I J) P := by
  refine e238 ?_
  simp only [mKm, mNm, mIm, mIf, mJm, mJf, mRm, sIm, sJm, rwIm, rwJm, kN, nN, rN, true_and]
  exact m203o hk.t0.p hx (ifp rfl h)
theorem m253 {p : Nat} (hk : KR I 0 π σ) (hp : p < nP π) (h : ∀ I', Fr [261, 262] (T0 I) I' → P (nI (lakF π σ p (nT π)) - 1) (mem r I' J)) : CI G (d + 6) 253 [.ref 247, .int (nI p)] (mem r I J) P := by
  have hT := hk.w.t
  have hk0 := hk.t0
  have hv := (hk.v.2.2 p hp).1
  refine e253 ?_
  simp only [mKm, mNm, mIm, mIf, mJm, mJf, mRm, sIm, sJm, rwIm, rwJm, kN, nN, rN, true_and]
  refine lp (n := nT π) (X := fun t => ∀ I', Fr [261, 262] (T0 I) I' → XX G (d + 5) (some .int) P253 (QI P) 9 [.ref 247, .int (nI p), .int (nI (lakF π σ p t) - 1), .int (nI t), jk] [] (mem r I' J)) (fun I1 hf1 => ?_) (fun t htn ih I1 hf1 => ?_) (T0 I) Fr.rfl
  · have hk1 := hk0.fr hf1
    refine x253_9 ?_
    simp only [mKm, mNm, mIm, mIf, mJm, mJf, mRm, sIm, sJm, rwIm, rwJm, kN, nN, rN, true_and]
    exact m166 hk1.p (ifp (nI_le (Nat.le_refl _) (by omega)) ⟨_, rfl, h I1 hf1⟩)
  · have hk1 := hk0.fr hf1
    have hb := lak_le (π := π) hv t
    have e : lakF π σ p (t + 1) = if bearF π (σ 0 0) t then (if lakF π σ p t = 0 then pinF π p (σ 3 p) (szF π (σ 1 t) (σ 2 t) (σ 0 0)) + 1 else min (lakF π σ p t) (pinF π p (σ 3 p) (szF π (σ 1 t) (σ 2 t) (σ 0 0)) + 1)) else lakF π σ p t := rfl
    have hs := sz_le (π := π) (l := σ 1 t) (g := σ 2 t) (y := σ 0 0)
    have hl := pin_le (π := π) (p := p) hv hs
    refine x253_9 ?_
    simp only [mKm, mNm, mIm, mIf, mJm, mJf, mRm, sIm, sJm, rwIm, rwJm, kN, nN, rN, true_and]
    refine m166 hk1.p (ifn (nI_ge htn (by omega)) ?_)
    simp only [mKm, mNm, mIm, mIf, mJm, mJf, mRm, sIm, sJm, rwIm, rwJm, kN, nN, rN, true_and]
    refine m212 hk1.p hk1.w hp (ifn (by decide) ?_)
    simp only [mKm, mNm, mIm, mIf, mJm, mJf, mRm, sIm, sJm, rwIm, rwJm, kN, nN, rN, true_and]
    refine m207 (b := 0) hk1 htn (fun I2 hf2 => ?_)
    have hk2 := hk1.fr hf2
    simp only [mKm, mNm, mIm, mIf, mJm, mJf, mRm, sIm, sJm, rwIm, rwJm, kN, nN, rN, true_and]
    refine m215 (b := 0) hk2 hp hs ?_
    simp only [mKm, mNm, mIm, mIf, mJm, mJf, mRm, sIm, sJm, rwIm, rwJm, kN, nN, rN, true_and]
    refine m204 (b := 0) hk2 htn ?_
    have ih := ih I2 (hf1.trans hf2)
    by_cases q : bearF π (σ 0 0) t = true
    · rw [if_pos q]
      rw [e, if_pos q] at ih
      refine ifn (by decide) ?_
      rw [sh_lt (by omega)]
      refine ifb (fun q2 => b253_64_65 ?_) (fun q2 => ?_)
      · rw [if_pos q2, nI_pred] at ih
        rw [nI_1]
        exact ih
      · rw [if_neg q2] at ih
        rw [sh_ix q2, nI_leI (by omega) (by omega)]
        rw [sh_ix (by omega)] at ih
        refine ifb (fun q3 => b253_63_65 ?_) (fun q3 => b253_64_65 ?_)
        · rw [nI_1]
          rw [show min (lakF π σ p t) (pinF π p (σ 3 p) (szF π (σ 1 t) (σ 2 t) (σ 0 0)) + 1) - 1 = lakF π σ p t - 1 by omega] at ih
          exact ih
        · rw [nI_1]
          rw [show min (lakF π σ p t) (pinF π p (σ 3 p) (szF π (σ 1 t) (σ 2 t) (σ 0 0)) + 1) - 1 = pinF π p (σ 3 p) (szF π (σ 1 t) (σ 2 t) (σ 0 0)) by omega] at ih
          exact ih
    · rw [if_neg q]
      rw [e, if_neg q] at ih
      refine ifp rfl (b253_63_65 ?_)
      rw [nI_1]
      exact ih
theorem m253o {x : Int32} (hk : KR I 0 π σ) (hx : ¬ (0 ≤ x ∧ x < nI (nP π))) (h : P (-1) (mem r (T0 I) J)) : CI G (d + 6) 253 [.ref 247, .int x] (mem r I J) P := by
  have hk1 := hk.t0
  refine e253 ?_
  simp only [mKm, mNm, mIm, mIf, mJm, mJf, mRm, sIm, sJm, rwIm, rwJm, kN, nN, rN, true_and]
  refine x253_9 ?_
  simp only [mKm, mNm, mIm, mIf, mJm, mJf, mRm, sIm, sJm, rwIm, rwJm, kN, nN, rN, true_and]
  refine m166 hk1.p (ifb (fun _ => ⟨_, rfl, h⟩) (fun _ => ?_))
  simp only [mKm, mNm, mIm, mIf, mJm, mJf, mRm, sIm, sJm, rwIm, rwJm, kN, nN, rN, true_and]
  exact m212o hk1.p hx (ifp rfl ⟨_, rfl, h⟩)
theorem m259 (hk : KR I 0 π σ) (h : ∀ I', Fr [261, 262] (T0 I) I' → P (nI (prC (paiC π σ) (nP π) (nP π))) (mem r I' J)) : CI G (d + 6) 259 [.ref 247] (mem r I J) P := by
  have hP := hk.w.p
  have hk0 := hk.t0
  refine e259 ?_
  simp only [mKm, mNm, mIm, mIf, mJm, mJf, mRm, sIm, sJm, rwIm, rwJm, kN, nN, rN, true_and]
  refine lp (n := nP π) (X := fun p => ∀ I', Fr [261, 262] (T0 I) I' → XX G (d + 5) (some .int) P259 (QI P) 9 [.ref 247, .int (nI (prC (paiC π σ) (nP π) p)), .int (nI p), jk] [] (mem r I' J)) (fun I1 hf1 => ?_) (fun p hpn ih I1 hf1 => ?_) (T0 I) Fr.rfl
  · refine x259_9 ?_
    simp only [mKm, mNm, mIm, mIf, mJm, mJf, mRm, sIm, sJm, rwIm, rwJm, kN, nN, rN, true_and]
    exact m168 (hk0.fr hf1).p (ifp (nI_le (Nat.le_refl _) (by omega)) ⟨_, rfl, h I1 hf1⟩)
  · refine x259_9 ?_
    simp only [mKm, mNm, mIm, mIf, mJm, mJf, mRm, sIm, sJm, rwIm, rwJm, kN, nN, rN, true_and]
    refine m168 (hk0.fr hf1).p (ifn (nI_ge hpn (by omega)) ?_)
    rw [nI_1]
    have key := lpA (a := p + 1) (n := nP π) (X := fun k => ∀ I', Fr [261, 262] (T0 I) I' → XX G (d + 5) (some .int) P259 (QI P) 21 [.ref 247, .int (nI (prC (paiC π σ) (nP π) p + inC (paiC π σ) p k)), .int (nI p), .int (nI k)] [] (mem r I' J)) (by omega) (fun I2 hf2 => ?_) (fun k hk0' hkn ih2 I2 hf2 => ?_) I1 hf1
    · rw [inC_0 _ _ _ (Nat.le_refl _)] at key
      exact key
    · refine x259_21 ?_
      simp only [mKm, mNm, mIm, mIf, mJm, mJf, mRm, sIm, sJm, rwIm, rwJm, kN, nN, rN, true_and]
      refine m168 (hk0.fr hf2).p (ifp (nI_le (Nat.le_refl _) (by omega)) ?_)
      rw [nI_1]
      exact ih I2 hf2
    · refine x259_21 ?_
      simp only [mKm, mNm, mIm, mIf, mJm, mJf, mRm, sIm, sJm, rwIm, rwJm, kN, nN, rN, true_and]
      refine m168 (hk0.fr hf2).p (ifn (nI_ge hkn (by omega)) ?_)
      simp only [mKm, mNm, mIm, mIf, mJm, mJf, mRm, sIm, sJm, rwIm, rwJm, kN, nN, rN, true_and]
      refine m237 (b := 0) (hk0.fr hf2) hpn (fun I3 hf3 => ?_)
      simp only [mKm, mNm, mIm, mIf, mJm, mJf, mRm, sIm, sJm, rwIm, rwJm, kN, nN, rN, true_and]
      refine m237 (b := 0) (hk0.fr (hf2.trans hf3)) hkn (fun I4 hf4 => ?_)
      have ih2 := ih2 I4 ((hf2.trans hf3).trans hf4)
      have e : inC (paiC π σ) p (k + 1) = inC (paiC π σ) p k + if p < k ∧ paiC π σ p k = true then 1 else 0 := rfl
      refine ifb (fun q => b259_50_56 ?_) (fun q => b259_51_56 ?_)
      · rw [Int32.add_zero, nI_1]
        rw [e, if_neg (fun z => by have := z.2; unfold paiC at this; rw [decide_eq_true q] at this; exact absurd this (by decide))] at ih2
        exact ih2
      · rw [nI_1, nI_1]
        rw [e, if_pos ⟨by omega, by unfold paiC; rw [decide_eq_false q]; rfl⟩] at ih2
        exact ih2
theorem m260 (hk : KR I 0 π σ) (h : ∀ I', Fr [261, 262] (T0 I) I' → P (nI (setF (idlF π σ) (nT π))) (mem r I' J)) : CI G (d + 6) 260 [.ref 247] (mem r I J) P := by
  have hT := hk.w.t
  have hP := hk.w.p
  have hk0 := hk.t0
  refine e260 ?_
  simp only [mKm, mNm, mIm, mIf, mJm, mJf, mRm, sIm, sJm, rwIm, rwJm, kN, nN, rN, true_and]
  refine lp (n := nT π) (X := fun t => ∀ I', Fr [261, 262] (T0 I) I' → XX G (d + 5) (some .int) P260 (QI P) 9 [.ref 247, .int (nI (setF (idlF π σ) t)), .int (nI t)] [] (mem r I' J)) (fun I1 hf1 => ?_) (fun t htn ih I1 hf1 => ?_) (T0 I) Fr.rfl
  · refine x260_9 ?_
    simp only [mKm, mNm, mIm, mIf, mJm, mJf, mRm, sIm, sJm, rwIm, rwJm, kN, nN, rN, true_and]
    exact m166 (hk0.fr hf1).p (ifp (nI_le (Nat.le_refl _) (by omega)) ⟨_, rfl, h I1 hf1⟩)
  · have hk1 := hk0.fr hf1
    refine x260_9 ?_
    simp only [mKm, mNm, mIm, mIf, mJm, mJf, mRm, sIm, sJm, rwIm, rwJm, kN, nN, rN, true_and]
    refine m166 hk1.p (ifn (nI_ge htn (by omega)) ?_)
    simp only [mKm, mNm, mIm, mIf, mJm, mJf, mRm, sIm, sJm, rwIm, rwJm, kN, nN, rN, true_and]
    refine m204 (b := 0) hk1 htn ?_
    by_cases q : bearF π (σ 0 0) t = true
    · rw [if_pos q]
      refine ifn (by decide) ?_
      simp only [mKm, mNm, mIm, mIf, mJm, mJf, mRm, sIm, sJm, rwIm, rwJm, kN, nN, rN, true_and]
      refine m239 hk1 htn (fun I2 hf2 => ?_)
      have ih := ih I2 (hf1.trans hf2)
      have hw : weaF π σ t < 2 ^ 6 := setF_le _ hP
      by_cases q2 : weaF π σ t = 0
      · unfold weaF at q2
        rw [q2]
        refine ifn (fun z => z rfl) (b260_42_47 ?_)
        rw [set_up (by omega) (by unfold idlF weaF; rw [q, q2]; rfl), nI_1]
        exact ih
      · refine ifp (nI_ne0 (show 0 < weaF π σ t by omega) (show weaF π σ t < 2 ^ 31 by omega)) (b260_41_47 ?_)
        rw [or0, set_no (by unfold idlF; rw [q, beq_false_of_ne q2]; rfl), nI_1]
        exact ih
    · rw [if_neg q]
      rw [Bool.not_eq_true] at q
      refine ifp rfl (b260_41_47 ?_)
      rw [or0, set_no (by unfold idlF; rw [q]; rfl), nI_1]
      exact ih I1 hf1
theorem m261 (hk : KR I 0 π σ) (h : ∀ I', Fr [261, 262] (T0 I) I' → P (nI (setF (solF π σ) (nP π))) (mem r I' J)) : CI G (d + 6) 261 [.ref 247] (mem r I J) P := by
  have hT := hk.w.t
  have hP := hk.w.p
  have hk0 := hk.t0
  refine e261 ?_
  simp only [mKm, mNm, mIm, mIf, mJm, mJf, mRm, sIm, sJm, rwIm, rwJm, kN, nN, rN, true_and]
  refine lp (n := nP π) (X := fun p => ∀ I', Fr [261, 262] (T0 I) I' → XX G (d + 5) (some .int) P261 (QI P) 9 [.ref 247, .int (nI (setF (solF π σ) p)), .int (nI p)] [] (mem r I' J)) (fun I1 hf1 => ?_) (fun p hpn ih I1 hf1 => ?_) (T0 I) Fr.rfl
  · refine x261_9 ?_
    simp only [mKm, mNm, mIm, mIf, mJm, mJf, mRm, sIm, sJm, rwIm, rwJm, kN, nN, rN, true_and]
    exact m168 (hk0.fr hf1).p (ifp (nI_le (Nat.le_refl _) (by omega)) ⟨_, rfl, h I1 hf1⟩)
  · have hk1 := hk0.fr hf1
    refine x261_9 ?_
    simp only [mKm, mNm, mIm, mIf, mJm, mJf, mRm, sIm, sJm, rwIm, rwJm, kN, nN, rN, true_and]
    refine m168 hk1.p (ifn (nI_ge hpn (by omega)) ?_)
    simp only [mKm, mNm, mIm, mIf, mJm, mJf, mRm, sIm, sJm, rwIm, rwJm, kN, nN, rN, true_and]
    refine m237 (b := 0) hk1 hpn (fun I2 hf2 => ?_)
    have ih := ih I2 (hf1.trans hf2)
    have hw : setF (fitF π σ p) (nT π) < 2 ^ 6 := setF_le _ hT
    have hc := pc_le _ hw
    refine m246 hw ?_
    by_cases q2 : pcF (setF (fitF π σ p) (nT π)) 30 = 1
    · rw [q2]
      refine ifn (fun z => z rfl) (b261_38_43 ?_)
      rw [set_up (by omega) (by unfold solF; rw [q2]; rfl), nI_1]
      exact ih
    · refine ifp (fun z => q2 ((nI_eq (by omega) (by decide)).mp z)) (b261_37_43 ?_)
      rw [or0, set_no (by unfold solF; rw [beq_false_of_ne q2]), nI_1]
      exact ih
theorem m262 (hk : KR I 0 π σ) (h : ∀ I', Fr [261, 262] (T0 I) I' → P (nI (prC (twiC π σ) (nT π) (nT π))) (mem r I' J)) : CI G (d + 6) 262 [.ref 247] (mem r I J) P := by
  have hT := hk.w.t
  have hk0 := hk.t0
  refine e262 ?_
  simp only [mKm, mNm, mIm, mIf, mJm, mJf, mRm, sIm, sJm, rwIm, rwJm, kN, nN, rN, true_and]
  refine lp (n := nT π) (X := fun p => ∀ I', Fr [261, 262] (T0 I) I' → XX G (d + 5) (some .int) P262 (QI P) 9 [.ref 247, .int (nI (prC (twiC π σ) (nT π) p)), .int (nI p), jk] [] (mem r I' J)) (fun I1 hf1 => ?_) (fun p hpn ih I1 hf1 => ?_) (T0 I) Fr.rfl
  · refine x262_9 ?_
    simp only [mKm, mNm, mIm, mIf, mJm, mJf, mRm, sIm, sJm, rwIm, rwJm, kN, nN, rN, true_and]
    exact m166 (hk0.fr hf1).p (ifp (nI_le (Nat.le_refl _) (by omega)) ⟨_, rfl, h I1 hf1⟩)
  · refine x262_9 ?_
    simp only [mKm, mNm, mIm, mIf, mJm, mJf, mRm, sIm, sJm, rwIm, rwJm, kN, nN, rN, true_and]
    refine m166 (hk0.fr hf1).p (ifn (nI_ge hpn (by omega)) ?_)
    rw [nI_1]
    have key := lpA (a := p + 1) (n := nT π) (X := fun k => ∀ I', Fr [261, 262] (T0 I) I' → XX G (d + 5) (some .int) P262 (QI P) 21 [.ref 247, .int (nI (prC (twiC π σ) (nT π) p + inC (twiC π σ) p k)), .int (nI p), .int (nI k)] [] (mem r I' J)) (by omega) (fun I2 hf2 => ?_) (fun k hk0' hkn ih2 I2 hf2 => ?_) I1 hf1
    · rw [inC_0 _ _ _ (Nat.le_refl _)] at key
      exact key
    · refine x262_21 ?_
      simp only [mKm, mNm, mIm, mIf, mJm, mJf, mRm, sIm, sJm, rwIm, rwJm, kN, nN, rN, true_and]
      refine m166 (hk0.fr hf2).p (ifp (nI_le (Nat.le_refl _) (by omega)) ?_)
      rw [nI_1]
      exact ih I2 hf2
    · have hk2 := hk0.fr hf2
      have e : inC (twiC π σ) p (k + 1) = inC (twiC π σ) p k + if p < k ∧ twiC π σ p k = true then 1 else 0 := rfl
      have hs := sz_le (π := π) (l := σ 1 p) (g := σ 2 p) (y := σ 0 0)
      have hs2 := sz_le (π := π) (l := σ 1 k) (g := σ 2 k) (y := σ 0 0)
      have no : ∀ I', Fr [261, 262] (T0 I) I' → twiC π σ p k = false → BB G (d + 5) (some .int) P262 (QI P) S262_67_73 73 [.ref 247, .int (nI (prC (twiC π σ) (nT π) p + inC (twiC π σ) p k) + 0), .int (nI p), .int (nI k + 1)] [] (mem r I' J) := fun I' hf z => by
        refine b262_67_73 ?_
        rw [Int32.add_zero, nI_1]
        have ih2 := ih2 I' hf
        rw [e, if_neg (fun w => by rw [z] at w; exact absurd w.2 (by decide))] at ih2
        exact ih2
      refine x262_21 ?_
      simp only [mKm, mNm, mIm, mIf, mJm, mJf, mRm, sIm, sJm, rwIm, rwJm, kN, nN, rN, true_and]
      refine m166 hk2.p (ifn (nI_ge hkn (by omega)) ?_)
      simp only [mKm, mNm, mIm, mIf, mJm, mJf, mRm, sIm, sJm, rwIm, rwJm, kN, nN, rN, true_and]
      refine m204 (b := 0) hk2 hpn ?_
      by_cases q : bearF π (σ 0 0) p = true
      · rw [if_pos q]
        refine ifn (by decide) ?_
        simp only [mKm, mNm, mIm, mIf, mJm, mJf, mRm, sIm, sJm, rwIm, rwJm, kN, nN, rN, true_and]
        refine m204 (b := 0) hk2 hkn ?_
        by_cases q2 : bearF π (σ 0 0) k = true
        · rw [if_pos q2]
          refine ifn (by decide) ?_
          simp only [mKm, mNm, mIm, mIf, mJm, mJf, mRm, sIm, sJm, rwIm, rwJm, kN, nN, rN, true_and]
          refine m207 (b := 0) hk2 hpn (fun I3 hf3 => ?_)
          simp only [mKm, mNm, mIm, mIf, mJm, mJf, mRm, sIm, sJm, rwIm, rwJm, kN, nN, rN, true_and]
          refine m207 (b := 0) (hk2.fr hf3) hkn (fun I4 hf4 => ?_)
          have hf5 := (hf2.trans hf3).trans hf4
          by_cases q3 : szF π (σ 1 p) (σ 2 p) (σ 0 0) = szF π (σ 1 k) (σ 2 k) (σ 0 0)
          · refine ifn (fun z => z (by rw [q3])) (b262_68_73 ?_)
            rw [nI_1, nI_1]
            have ih2 := ih2 I4 hf5
            rw [e, if_pos ⟨by omega, by unfold twiC; rw [q, q2, q3, beq_self_eq_true]; rfl⟩] at ih2
            exact ih2
          · exact ifp (fun z => q3 ((nI_eq (by omega) (by omega)).mp z)) (no I4 hf5 (by unfold twiC; rw [beq_false_of_ne q3, Bool.and_false]))
        · rw [if_neg q2]
          rw [Bool.not_eq_true] at q2
          exact ifp rfl (no I2 hf2 (by unfold twiC; rw [q2, Bool.and_false, Bool.false_and]))
      · rw [if_neg q]
        rw [Bool.not_eq_true] at q
        exact ifp rfl (no I2 hf2 (by unfold twiC; rw [q, Bool.false_and, Bool.false_and]))
theorem m263 (hk : KR I 0 π σ) (h : ∀ I', Fr [261, 262] (T0 I) I' → P (nI (besF π σ (nT π)).1 - 1) (mem r I' J)) : CI G (d + 6) 263 [.ref 247] (mem r I J) P := by
  have hT := hk.w.t
  have hP := hk.w.p
  have hk0 := hk.t0
  refine e263 ?_
  simp only [mKm, mNm, mIm, mIf, mJm, mJf, mRm, sIm, sJm, rwIm, rwJm, kN, nN, rN, true_and]
  refine b263_0_9 ?_
  refine lp (n := nT π) (X := fun t => ∀ I', Fr [261, 262] (T0 I) I' → XX G (d + 5) (some .int) P263 (QI P) 11 [.ref 247, .int (nI (besF π σ t).1 - 1), .int (nI (besF π σ t).2 - 1), .int (nI t), jk] [] (mem r I' J)) (fun I1 hf1 => ?_) (fun t htn ih I1 hf1 => ?_) (T0 I) Fr.rfl
  · refine x263_11 ?_
    simp only [mKm, mNm, mIm, mIf, mJm, mJf, mRm, sIm, sJm, rwIm, rwJm, kN, nN, rN, true_and]
    exact m166 (hk0.fr hf1).p (ifp (nI_le (Nat.le_refl _) (by omega)) ⟨_, rfl, h I1 hf1⟩)
  · have hk1 := hk0.fr hf1
    obtain ⟨hb1, hb2⟩ := bes_le π σ hP t
    have e : besF π σ (t + 1) = if (besF π σ t).2 < (if bearF π (σ 0 0) t then pcF (weaF π σ t) 30 + 1 else 0) then (t + 1, if bearF π (σ 0 0) t then pcF (weaF π σ t) 30 + 1 else 0) else besF π σ t := rfl
    refine x263_11 ?_
    simp only [mKm, mNm, mIm, mIf, mJm, mJf, mRm, sIm, sJm, rwIm, rwJm, kN, nN, rN, true_and]
    refine m166 hk1.p (ifn (nI_ge htn (by omega)) ?_)
    simp only [mKm, mNm, mIm, mIf, mJm, mJf, mRm, sIm, sJm, rwIm, rwJm, kN, nN, rN, true_and]
    refine m204 (b := 0) hk1 htn ?_
    by_cases q : bearF π (σ 0 0) t = true
    · rw [if_pos q]
      rw [e, if_pos q] at ih
      refine ifn (by decide) ?_
      simp only [mKm, mNm, mIm, mIf, mJm, mJf, mRm, sIm, sJm, rwIm, rwJm, kN, nN, rN, true_and]
      refine m239 hk1 htn (fun I2 hf2 => ?_)
      have ih := ih I2 (hf1.trans hf2)
      have hw : weaF π σ t < 2 ^ 6 := setF_le _ hP
      have hc := pc_le _ hw
      refine m246 hw ?_
      change ifP (nI (pcF (weaF π σ t) 30) ≤ nI (besF π σ t).2 - 1) _ _
      have hle := sh_le (v := pcF (weaF π σ t) 30) (m := (besF π σ t).2) (by omega) (by omega)
      refine ifb (fun q2 => b263_52_54 ?_) (fun q2 => b263_53_54 ?_)
      · refine ifp q2 (b263_65_70 ?_)
        rw [hle] at q2
        rw [if_neg (by omega)] at ih
        rw [nI_1]
        exact ih
      · refine ifn q2 (b263_66_70 ?_)
        rw [hle] at q2
        rw [if_pos (by omega)] at ih
        rw [nI_1]
        have e1 : nI (t + 1, pcF (weaF π σ t) 30 + 1).1 - 1 = nI t := nI_pred t
        have e2 : nI (t + 1, pcF (weaF π σ t) 30 + 1).2 - 1 = nI (pcF (weaF π σ t) 30) := nI_pred _
        rw [e1, e2] at ih
        exact ih
    · rw [if_neg q]
      rw [e, if_neg q, if_neg (by omega)] at ih
      have hm : (-1 : Int32) ≤ nI (besF π σ t).2 - 1 := by
        by_cases z : (besF π σ t).2 = 0
        · rw [z]; decide
        · rw [sh_ix z]; exact Int32.le_trans (by decide) (nI_pos' (by omega))
      refine ifp rfl (ifp hm (b263_52_54 (ifp hm (b263_65_70 ?_))))
      rw [nI_1]
      exact ih I1 hf1
end
