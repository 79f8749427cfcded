/-! a state of the class: what is asked -/
def setF (c : Nat → Bool) : Nat → Nat
  | 0 => 0
  | n + 1 => setF c n + if c n then 2 ^ n else 0
theorem setF_lt (c : Nat → Bool) : ∀ n, setF c n < 2 ^ n := by
  intro n
  induction n with
  | zero => exact Nat.one_pos
  | succ n ih =>
    unfold setF
    rw [Nat.pow_succ]
    split <;> omega
theorem setF_le (c : Nat → Bool) {n m : Nat} (h : n ≤ m) : setF c n < 2 ^ m := Nat.lt_of_lt_of_le (setF_lt c n) (Nat.pow_le_pow_right (by decide) h)
theorem setF_ext {c c' : Nat → Bool} : ∀ n, (∀ i, i < n → c i = c' i) → setF c n = setF c' n := by
  intro n
  induction n with
  | zero => intro _; rfl
  | succ n ih =>
    intro h
    unfold setF
    rw [ih (fun i hi => h i (by omega)), h n (by omega)]
theorem bit_or : ∀ i, i < 6 → ∀ m, m < 64 → m < 2 ^ i → nI m ||| ((1 : Int32) <<< (nI i &&& 31)) = nI (m + 2 ^ i) := by decide +kernel
theorem set_up {c : Nat → Bool} {i : Nat} (hi : i < 6) (h : c i = true) : nI (setF c i) ||| ((1 : Int32) <<< (nI i &&& 31)) = nI (setF c (i + 1)) := by
  rw [bit_or i hi _ (setF_le c (m := 6) (by omega)) (setF_lt c i), setF, if_pos h]
theorem set_no {c : Nat → Bool} {i : Nat} (h : c i = false) : nI (setF c i) = nI (setF c (i + 1)) := by
  rw [setF, h]; rfl
theorem or0 (x : Int32) : x ||| (0 : Int32) = x := Int32.or_zero
theorem sh_m1 {n : Nat} (hn : n < 2 ^ 30) : nI n - 1 = -1 ↔ n = 0 := by
  constructor
  · intro h
    by_cases q : n = 0
    · exact q
    · exfalso
      rw [show n = n - 1 + 1 by omega, nI_pred] at h
      exact absurd (h ▸ nI_pos' (n := n - 1) (by omega) : (0 : Int32) ≤ -1) (by decide)
  · rintro rfl; decide
theorem sh_lt {n : Nat} (hn : n < 2 ^ 30) : nI n - 1 < 0 ↔ n = 0 := by
  constructor
  · intro h
    by_cases q : n = 0
    · exact q
    · exfalso
      rw [show n = n - 1 + 1 by omega, nI_pred] at h
      exact nI_pos (by omega) h
  · rintro rfl; decide
theorem sh_eq {n t : Nat} (hn : n < 2 ^ 30) (ht : t < 2 ^ 30) : nI n - 1 = nI t ↔ n = t + 1 := by
  constructor
  · intro h
    by_cases q : n = 0
    · exfalso
      rw [q] at h
      exact nI_pos (n := t) (by omega) (by rw [← h]; decide)
    · rw [show n = n - 1 + 1 by omega, nI_pred] at h
      have := (nI_eq (by omega) (by omega)).mp h
      omega
  · rintro rfl; exact nI_pred t
theorem sh_ix {n : Nat} (h : n ≠ 0) : nI n - 1 = nI (n - 1) := by
  have := nI_pred (n - 1)
  rw [show n - 1 + 1 = n by omega] at this
  exact this
def KS (I : Nat → Nat → Int32) (s : Nat) (π : PLN) (σ : Nat → Nat → Nat) : Prop := s ∈ stL ∧ CP I π ∧ WP π ∧ CS π I s σ ∧ WSt π σ
def sl (s : Nat) : List Nat := [s, s + 1, s + 2, s + 3, s + 4, s + 5, s + 6, s + 7, 15]
section
variable {G : GG} {d : Nat} {P : Int32 → mm_M → Prop} {r : Nat → Nat} {I : Nat → Nat → Int32} {J : Nat → Nat → Int64} {π : PLN} {s : Nat} {σ : Nat → Nat → Nat}
theorem KS.st (h : KS I s π σ) : s ∈ stL := h.1
theorem KS.p (h : KS I s π σ) : CP I π := h.2.1
theorem KS.w (h : KS I s π σ) : WP π := h.2.2.1
theorem KS.c (h : KS I s π σ) : CS π I s σ := h.2.2.2.1
theorem KS.v (h : KS I s π σ) : WSt π σ := h.2.2.2.2
theorem KS.s38 (h : KS I s π σ) : 38 ≤ s := (st_k s h.st).2.1
theorem KS.r0 (h : KS I s π σ) : I s 0 = nI (σ 0 0) := h.c 0 0 (by decide) Nat.one_pos
theorem KS.r1 (h : KS I s π σ) {i : Nat} (hi : i < nT π) : I (s + 1) i = nI (σ 1 i) := h.c 1 i (by decide) hi
theorem KS.r2 (h : KS I s π σ) {i : Nat} (hi : i < nT π) : I (s + 2) i = nI (σ 2 i) := h.c 2 i (by decide) hi
theorem KS.r3 (h : KS I s π σ) {i : Nat} (hi : i < nP π) : I (s + 3) i = nI (σ 3 i) := h.c 3 i (by decide) hi
theorem KS.r4 (h : KS I s π σ) {i : Nat} (hi : i < nP π) : I (s + 4) i = nI (σ 4 i) := h.c 4 i (by decide) hi
theorem KS.r5 (h : KS I s π σ) {i : Nat} (hi : i < nP π) : I (s + 5) i = nI (σ 5 i) - 1 := h.c 5 i (by decide) hi
theorem KS.r6 (h : KS I s π σ) {i : Nat} (hi : i < nP π) : I (s + 6) i = nI (σ 6 i) - 1 := h.c 6 i (by decide) hi
theorem KS.r7 (h : KS I s π σ) {i : Nat} (hi : i < nP π) : I (s + 7) i = nI (σ 7 i) := h.c 7 i (by decide) hi
theorem CS.fr_of {I' : Nat → Nat → Int32} {l : List Nat} (h : CS π I s σ) (hf : Fr l I I') (hl : ∀ k, k < 8 → s + k ∉ l) : CS π I' s σ := by
  intro k i hk hi
  rw [hf _ (hl k hk)]
  exact h k i hk hi
theorem KS.fr (h : KS I s π σ) {I' : Nat → Nat → Int32} (hf : Fr [15] I I') : KS I' s π σ :=
  ⟨h.st, h.p.fr_of hf (by decide), h.w, h.c.fr_of hf (fun k hk => by have := h.s38; simp; omega), h.v⟩
theorem CS.u2 (h : CS π I s σ) {k i n : Nat} {v : Int32} (hv : v = enc k n) : CS π (u2 I (s + k) i v) s (u2 σ k i n) := by
  intro k' i' hk' hi'
  by_cases e : k' = k
  · subst e
    by_cases e2 : i' = i
    · subst e2; rw [u2s, u2s]; exact hv
    · rw [u2i e2, u2i e2]; exact h k' i' hk' hi'
  · rw [u2n (by omega), u2n e]; exact h k' i' hk' hi'
theorem d71 {t : Nat} (hk : KS I s π σ) (ht : t < nT π) (h : P (if bearF π (σ 0 0) t then 1 else 0) (mem r I J)) : CI G (d + 3) 71 [.ref s, .int (nI t)] (mem r I J) P := by
  have hy := hk.v.1
  refine e71 ?_
  simp only [mKm, mNm, mIm, mIf, mJm, mJf, mRm, sIm, sJm, rwIm, rwJm, kN, nN, rN, true_and, stN hk.st, hk.r0]
  refine d55 hk.p hk.w (by omega) ?_
  simp only [mKm, mNm, mIm, mIf, mJm, mJf, mRm, sIm, sJm, rwIm, rwJm, kN, nN, rN, true_and]
  refine d56 hk.p hk.w ht (frF_le hk.w _) ⟨?_, ?_⟩
  · split <;> decide
  · unfold bearF at h
    simp only [decide_eq_true_eq] at h
    exact h
theorem d71o {t : Int32} (hk : KS I s π σ) (ht : ¬ (0 ≤ t ∧ t < nI (nT π))) (h : P 0 (mem r I J)) : CI G (d + 3) 71 [.ref s, .int t] (mem r I J) P := by
  have hy := hk.v.1
  refine e71 ?_
  simp only [mKm, mNm, mIm, mIf, mJm, mJf, mRm, sIm, sJm, rwIm, rwJm, kN, nN, rN, true_and, stN hk.st, hk.r0]
  refine d55 hk.p hk.w (by omega) ?_
  simp only [mKm, mNm, mIm, mIf, mJm, mJf, mRm, sIm, sJm, rwIm, rwJm, kN, nN, rN, true_and]
  exact d56o hk.p ht ⟨Or.inl rfl, h⟩
theorem d70 {t : Nat} (hk : KS I s π σ) (ht : t < nT π) (h : ∀ I', Fr [15] I I' → P (if bearF π (σ 0 0) t then nI (szF π (σ 1 t) (σ 2 t) (σ 0 0)) else -1) (mem r I' J)) : CI G (d + 4) 70 [.ref s, .int (nI t)] (mem r I J) P := by
  have hy := hk.v.1
  have h6 : t < 6 := by have := hk.w.t; omega
  refine e70 ?_
  simp only [mKm, mNm, mIm, mIf, mJm, mJf, mRm, sIm, sJm, rwIm, rwJm, kN, nN, rN, true_and, stN hk.st]
  refine d71 hk ht ?_
  by_cases q : bearF π (σ 0 0) t = true
  · rw [if_pos q] at h ⊢
    refine ifn (by decide) ?_
    simp only [mKm, mNm, mIm, mIf, mJm, mJf, mRm, sIm, sJm, rwIm, rwJm, kN, nN, rN, true_and, stN hk.st, ix h6 (by decide), hk.r0, hk.r1 ht, hk.r2 ht]
    exact d57 hk.p hk.w (by omega) h
  · rw [if_neg q] at h ⊢
    exact ifp rfl (h I Fr.rfl)
theorem d73 {p t : Nat} (hk : KS I s π σ) (hp : p < nP π) (ht : t < nT π) (h : ∀ I', Fr [15] I I' → P (if fitF π σ p t then 1 else 0) (mem r I' J)) : CI G (d + 4) 73 [.ref s, .int (nI p), .int (nI t)] (mem r I J) P := by
  have hy := hk.v.1
  have h6 : t < 6 := by have := hk.w.t; omega
  have h7 : p < 6 := by have := hk.w.p; omega
  refine e73 ?_
  simp only [mKm, mNm, mIm, mIf, mJm, mJf, mRm, sIm, sJm, rwIm, rwJm, kN, nN, rN, true_and, stN hk.st]
  refine d58 hk.p hk.w hp (ifn (by decide) ?_)
  simp only [mKm, mNm, mIm, mIf, mJm, mJf, mRm, sIm, sJm, rwIm, rwJm, kN, nN, rN, true_and, stN hk.st]
  refine d71 hk ht ?_
  unfold fitF at h
  by_cases q : bearF π (σ 0 0) t = true
  · rw [if_pos q]
    refine ifp (by decide) ?_
    simp only [mKm, mNm, mIm, mIf, mJm, mJf, mRm, sIm, sJm, rwIm, rwJm, kN, nN, rN, true_and, stN hk.st, ix h6 (by decide), hk.r0, hk.r1 ht, hk.r2 ht]
    refine d57 hk.p hk.w (by omega) (fun I' hf => ?_)
    have hk' := hk.fr hf
    simp only [mKm, mNm, mIm, mIf, mJm, mJf, mRm, sIm, sJm, rwIm, rwJm, kN, nN, rN, true_and, stN hk.st, ix h7 (by decide), hk'.r3 hp]
    refine d59 hk'.p hk'.w hp (hk.v.2.2 p hp).1 sz_le ?_
    have h1 := pin_le (π := π) (p := p) (hk.v.2.2 p hp).1 (sz_le (π := π) (l := σ 1 t) (g := σ 2 t) (y := σ 0 0))
    have h := h I' hf
    simp only [q, Bool.true_and, beq_iff_eq] at h
    by_cases q2 : pinF π p (σ 3 p) (szF π (σ 1 t) (σ 2 t) (σ 0 0)) = 0
    · rw [if_pos q2] at h
      rw [q2]
      exact ifn (fun z => z rfl) h
    · rw [if_neg q2] at h
      exact ifp (nI_ne0 (by omega) (by omega)) h
  · rw [if_neg q]
    simp only [Bool.not_eq_true] at q
    simp only [q, Bool.false_and] at h
    exact ifn (fun z => z rfl) (h I Fr.rfl)
theorem d73o {p t : Int32} (hk : KS I s π σ) (hpt : ¬ ((0 ≤ p ∧ p < nI (nP π)) ∧ (0 ≤ t ∧ t < nI (nT π)))) (h : P 0 (mem r I J)) : CI G (d + 4) 73 [.ref s, .int p, .int t] (mem r I J) P := by
  refine e73 ?_
  simp only [mKm, mNm, mIm, mIf, mJm, mJf, mRm, sIm, sJm, rwIm, rwJm, kN, nN, rN, true_and, stN hk.st]
  by_cases q : 0 ≤ p ∧ p < nI (nP π)
  · obtain ⟨n, hn, rfl⟩ := nI_of (Int32.not_lt.mpr q.1)
    have hp : n < nP π := (nI_ltI hn (by have := hk.w.p; omega)).mp q.2
    refine d58 hk.p hk.w hp (ifn (by decide) ?_)
    simp only [mKm, mNm, mIm, mIf, mJm, mJf, mRm, sIm, sJm, rwIm, rwJm, kN, nN, rN, true_and, stN hk.st]
    exact d71o hk (fun z => hpt ⟨q, z⟩) (ifn (fun z => z rfl) h)
  · exact d58o hk.p q (ifp rfl h)
def havF (π : PLN) (σ : Nat → Nat → Nat) (t : Nat) : Nat := setF (fun p => σ 5 p == t + 1) (nP π)
theorem hold_loop {Q : Option Value → mm_M → Prop} {t : Nat} (hk : KS I s π σ) (ht : t < 2 ^ 30) (h : Q (some (.int (nI (havF π σ t)))) (mem r I J)) : ∀ n k, k + n = nP π → XX G d (some .int) P72 Q 4 [.ref s, .int (nI t), .int (nI (setF (fun p => σ 5 p == t + 1) k)), .int (nI k)] [] (mem r I J) := by
  have hP := hk.w.p
  intro n
  induction n with
  | zero =>
    intro k e
    refine x72_4 ?_
    simp only [mKm, mNm, mIm, mIf, mJm, mJf, mRm, sIm, sJm, rwIm, rwJm, kN, nN, rN, true_and, stN hk.st, hk.p.n1]
    rw [show k = nP π by omega]
    exact ifp (nI_le (Nat.le_refl _) (by omega)) h
  | succ n ih =>
    intro k e
    have hk1 : k < nP π := by omega
    have h6 : k < 6 := by omega
    have h5 := (hk.v.2.2 k hk1).2.2.1
    have h7 := hk.w.t
    refine x72_4 ?_
    simp only [mKm, mNm, mIm, mIf, mJm, mJf, mRm, sIm, sJm, rwIm, rwJm, kN, nN, rN, true_and, stN hk.st, hk.p.n1, ix h6 (by decide), hk.r5 hk1]
    refine ifn (nI_ge hk1 (by omega)) (ifb (fun q => b72_32_38 ?_) (fun q => b72_33_38 ?_))
    · rw [sh_eq (by omega) ht] at q
      rw [or0, nI_1, set_no (by simp [q])]
      exact ih (k + 1) (by omega)
    · rw [sh_eq (by omega) ht, Decidable.not_not] at q
      rw [nI_1, set_up h6 (by simp [q])]
      exact ih (k + 1) (by omega)
theorem d72 {t : Nat} (hk : KS I s π σ) (ht : t < 2 ^ 30) (h : P (nI (havF π σ t)) (mem r I J)) : CI G (d + 1) 72 [.ref s, .int (nI t)] (mem r I J) P := e72 (hold_loop hk ht ⟨_, rfl, h⟩ (nP π) 0 (by omega))
def mayF (π : PLN) (σ : Nat → Nat → Nat) (p t : Nat) : Bool := σ 5 p == 0 && decide (σ 4 p < π.1 3 0) && bearF π (σ 0 0) t && havF π σ t == 0
theorem d74 {p t : Nat} (hk : KS I s π σ) (hp : p < nP π) (ht : t < nT π) (h : P (if mayF π σ p t then 1 else 0) (mem r I J)) : CI G (d + 4) 74 [.ref s, .int (nI p), .int (nI t)] (mem r I J) P := by
  have hP := hk.w.p
  have hT := hk.w.t
  have h7 : p < 6 := by omega
  have hv := hk.v.2.2 p hp
  have hn := hk.w.noon
  refine e74 ?_
  simp only [mKm, mNm, mIm, mIf, mJm, mJf, mRm, sIm, sJm, rwIm, rwJm, kN, nN, rN, true_and, stN hk.st]
  refine d58 hk.p hk.w hp (ifn (by decide) ?_)
  simp only [mKm, mNm, mIm, mIf, mJm, mJf, mRm, sIm, sJm, rwIm, rwJm, kN, nN, rN, true_and, stN hk.st]
  refine d71 hk ht ?_
  unfold mayF at h
  by_cases q : bearF π (σ 0 0) t = true
  · rw [if_pos q]
    refine ifp (by decide) ?_
    simp only [mKm, mNm, mIm, mIf, mJm, mJf, mRm, sIm, sJm, rwIm, rwJm, kN, nN, rN, true_and, stN hk.st, ix h7 (by decide), hk.r4 hp, hk.r5 hp, hk.p.n3]
    simp only [q, Bool.and_true, Bool.and_eq_true, beq_iff_eq, decide_eq_true_eq] at h
    refine ifb (fun q1 => ?_) (fun q1 => ?_)
    · rw [sh_m1 (by omega)] at q1
      rw [if_neg (fun z => q1 z.1.1)] at h; exact h
    · rw [sh_m1 (by omega), Decidable.not_not] at q1
      refine ifb (fun q2 => ?_) (fun q2 => ?_)
      · rw [nI_leI (by omega) (by omega)] at q2
        rw [if_neg (fun z => by have := z.1.2; omega)] at h; exact h
      · rw [nI_leI (by omega) (by omega)] at q2
        refine d72 hk (by omega) ?_
        have hl := setF_le (fun p => σ 5 p == t + 1) hP
        by_cases q3 : havF π σ t = 0
        · rw [if_pos ⟨⟨q1, by omega⟩, q3⟩] at h
          rw [q3]
          exact ifn (fun z => z rfl) h
        · rw [if_neg (fun z => q3 z.2)] at h
          refine ifp (nI_ne0 (by omega) ?_) h
          unfold havF; omega
  · simp only [Bool.not_eq_true] at q
    simp only [q, Bool.and_false, Bool.false_and] at h ⊢
    exact ifn (fun z => z rfl) h
theorem d74o {p t : Int32} (hk : KS I s π σ) (hpt : ¬ ((0 ≤ p ∧ p < nI (nP π)) ∧ (0 ≤ t ∧ t < nI (nT π)))) (h : P 0 (mem r I J)) : CI G (d + 4) 74 [.ref s, .int p, .int t] (mem r I J) P := by
  refine e74 ?_
  simp only [mKm, mNm, mIm, mIf, mJm, mJf, mRm, sIm, sJm, rwIm, rwJm, kN, nN, rN, true_and, stN hk.st]
  by_cases q : 0 ≤ p ∧ p < nI (nP π)
  · obtain ⟨n, hn, rfl⟩ := nI_of (Int32.not_lt.mpr q.1)
    have hp : n < nP π := (nI_ltI hn (by have := hk.w.p; omega)).mp q.2
    refine d58 hk.p hk.w hp (ifn (by decide) ?_)
    simp only [mKm, mNm, mIm, mIf, mJm, mJf, mRm, sIm, sJm, rwIm, rwJm, kN, nN, rN, true_and, stN hk.st]
    exact d71o hk (fun z => hpt ⟨q, z⟩) (ifn (fun z => z rfl) h)
  · exact d58o hk.p q (ifp rfl h)
end
