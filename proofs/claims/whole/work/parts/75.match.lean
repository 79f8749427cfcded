/-! matching -/
theorem fa_and (a b : Nat) : nI a &&& nI b = nI (a &&& b) := by
  apply Int32.toBitVec_inj.1
  show BitVec.ofNat 32 a &&& BitVec.ofNat 32 b = BitVec.ofNat 32 (a &&& b)
  apply BitVec.eq_of_getLsbD_eq
  intro i hi
  simp [hi]
theorem or_1 : ∀ m, m < 64 → ∀ t, t < 6 → nI m ||| ((1 : Int32) <<< (nI t &&& 31)) = nI (m ||| 2 ^ t) := by decide +kernel
theorem an_eq : ∀ a, a < 64 → ∀ m, m < 64 → nI a &&& (nI m ^^^ (-1)) = nI (a &&& (63 - m)) := by decide +kernel
theorem an_1 : ∀ a, a < 64 → ∀ t, t < 6 → nI a &&& (((1 : Int32) <<< (nI t &&& 31)) ^^^ (-1)) = nI (a &&& (63 - 2 ^ t)) := by decide +kernel
theorem tb_63 : ∀ m, m < 64 → ∀ t, t < 6 → (63 - m).testBit t = !m.testBit t := by decide +kernel
theorem tb_2 : ∀ t, t < 6 → ∀ i, i < 6 → (2 ^ t).testBit i = decide (i = t) := by decide +kernel
theorem tb_dm (m t : Nat) : m / 2 ^ t % 2 = if m.testBit t then 1 else 0 := by
  rw [Nat.testBit_eq_decide_div_mod_eq]
  have := Nat.mod_lt (m / 2 ^ t) (show 0 < 2 by decide)
  by_cases q : m / 2 ^ t % 2 = 1
  · rw [decide_eq_true q, q]; rfl
  · rw [decide_eq_false q, if_neg (by decide)]; omega
theorem an_bit {a m t : Nat} (ha : a < 64) (hm : m < 64) (ht : t < 6) : ((nI a &&& (nI m ^^^ (-1))) >>> (nI t &&& 31)) &&& 1 = bI (a.testBit t && !m.testBit t) := by
  have hl : a &&& (63 - m) < 64 := Nat.lt_of_le_of_lt Nat.and_le_left ha
  rw [an_eq a ha m hm, bit_at t (by omega) _ hl, tb_dm, Nat.testBit_and, tb_63 m hm t ht]
  cases (a.testBit t && !m.testBit t) <;> rfl
theorem bI_0 (b : Bool) : bI b = 0 ↔ b = false := by cases b <;> simp [bI]
theorem setF_tb (c : Nat → Bool) {n i : Nat} (h : i < n) : (setF c n).testBit i = c i := by
  rw [Nat.testBit_eq_decide_div_mod_eq, setF_bit c n i h]
  cases c i <;> rfl
/-- the best row and what it is worth; of equal ones the first -/
def pickF (x y : Nat × List Nat) : Nat × List Nat := if x.1 < y.1 then y else x
def selF (ca : Nat → Bool) (cd : Nat → Nat × List Nat) : Nat → Option (Nat × List Nat)
  | 0 => none
  | t + 1 => if ca t then (match selF ca cd t with | none => some (cd t) | some x => some (pickF x (cd t))) else selF ca cd t
def cnM (ca : Nat → Nat → Bool) (p m t : Nat) : Bool := ca p t && !m.testBit t
def endF (s : Option (Nat × List Nat)) (y : Nat × List Nat) : Nat × List Nat := match s with
  | none => y
  | some x => pickF x y
def bes (ca : Nat → Nat → Bool) (w : Nat → Nat) (T : Nat) : Nat → Nat → Nat → Nat × List Nat
  | 0, _, _ => (0, [])
  | k + 1, p, m => endF (selF (cnM ca p m) (fun t => (w t + (bes ca w T k (p + 1) (m ||| 2 ^ t)).1, (t + 1) :: (bes ca w T k (p + 1) (m ||| 2 ^ t)).2)) T) ((bes ca w T k (p + 1) m).1, 0 :: (bes ca w T k (p + 1) m).2)
def cdF (ca : Nat → Nat → Bool) (w : Nat → Nat) (T k p m t : Nat) : Nat × List Nat := (w t + (bes ca w T k (p + 1) (m ||| 2 ^ t)).1, (t + 1) :: (bes ca w T k (p + 1) (m ||| 2 ^ t)).2)
def ndF (ca : Nat → Nat → Bool) (w : Nat → Nat) (T k p m : Nat) : Nat × List Nat := ((bes ca w T k (p + 1) m).1, 0 :: (bes ca w T k (p + 1) m).2)
theorem bes_s (ca : Nat → Nat → Bool) (w : Nat → Nat) (T k p m : Nat) : bes ca w T (k + 1) p m = endF (selF (cnM ca p m) (cdF ca w T k p m) T) (ndF ca w T k p m) := rfl
theorem sel_ok (ca : Nat → Bool) (cd : Nat → Nat × List Nat) : ∀ t, (selF ca cd t = none ∧ ∀ i, i < t → ca i = false) ∨ ∃ t0, t0 < t ∧ ca t0 = true ∧ selF ca cd t = some (cd t0) ∧ (∀ i, i < t0 → ca i = true → (cd i).1 < (cd t0).1) ∧ ∀ i, i < t → ca i = true → (cd i).1 ≤ (cd t0).1 := by
  intro t
  induction t with
  | zero => exact Or.inl ⟨rfl, fun i hi => by omega⟩
  | succ t ih =>
    unfold selF
    by_cases q : ca t = true
    · rw [if_pos q]
      right
      rcases ih with ⟨e, hn⟩ | ⟨t0, h0, hc, e, h1, h2⟩
      · rw [e]
        refine ⟨t, by omega, q, rfl, fun i hi hi2 => ?_, fun i hi hi2 => ?_⟩
        · rw [hn i hi] at hi2; exact absurd hi2 (by decide)
        · by_cases e2 : i = t
          · subst e2; exact Nat.le_refl _
          · rw [hn i (by omega)] at hi2; exact absurd hi2 (by decide)
      · rw [e]
        unfold pickF
        by_cases q2 : (cd t0).1 < (cd t).1
        · refine ⟨t, by omega, q, by dsimp only; rw [if_pos q2], fun i hi hi2 => ?_, fun i hi hi2 => ?_⟩
          · exact Nat.lt_of_le_of_lt (h2 i hi hi2) q2
          · by_cases e2 : i = t
            · subst e2; exact Nat.le_refl _
            · exact Nat.le_of_lt (Nat.lt_of_le_of_lt (h2 i (by omega) hi2) q2)
        · refine ⟨t0, by omega, hc, by dsimp only; rw [if_neg q2], h1, fun i hi hi2 => ?_⟩
          by_cases e2 : i = t
          · subst e2; omega
          · exact h2 i (by omega) hi2
    · rw [if_neg q]
      rw [Bool.not_eq_true] at q
      rcases ih with ⟨e, hn⟩ | ⟨t0, h0, hc, e, h1, h2⟩
      · left
        refine ⟨e, fun i hi => ?_⟩
        by_cases e2 : i = t
        · subst e2; exact q
        · exact hn i (by omega)
      · right
        refine ⟨t0, by omega, hc, e, h1, fun i hi hi2 => ?_⟩
        by_cases e2 : i = t
        · subst e2; rw [q] at hi2; exact absurd hi2 (by decide)
        · exact h2 i (by omega) hi2
theorem bes_len (ca : Nat → Nat → Bool) (w : Nat → Nat) (T : Nat) : ∀ k p m, (bes ca w T k p m).2.length = k := by
  intro k
  induction k with
  | zero => intro p m; rfl
  | succ k ih =>
    intro p m
    rw [bes_s]
    have hn : (ndF ca w T k p m).2.length = k + 1 := by show (_ :: _).length = _; rw [List.length_cons, ih]
    have hc : ∀ t, (cdF ca w T k p m t).2.length = k + 1 := fun t => by show (_ :: _).length = _; rw [List.length_cons, ih]
    rcases sel_ok (cnM ca p m) (cdF ca w T k p m) T with ⟨e, -⟩ | ⟨t0, -, -, e, -⟩
    · rw [e]; exact hn
    · rw [e]
      show (pickF _ _).2.length = _
      unfold pickF
      split
      · exact hn
      · exact hc t0
theorem bes_b (ca : Nat → Nat → Bool) (w : Nat → Nat) (T : Nat) (hw : ∀ t, w t ≤ 3) : ∀ k p m, (bes ca w T k p m).1 ≤ 3 * k := by
  intro k
  induction k with
  | zero => intro p m; exact Nat.le_refl _
  | succ k ih =>
    intro p m
    rw [bes_s]
    have hn : (ndF ca w T k p m).1 ≤ 3 * (k + 1) := by have := ih (p + 1) m; show (bes ca w T k (p + 1) m).1 ≤ _; omega
    have hc : ∀ t, (cdF ca w T k p m t).1 ≤ 3 * (k + 1) := fun t => by have := ih (p + 1) (m ||| 2 ^ t); have := hw t; show w t + (bes ca w T k (p + 1) (m ||| 2 ^ t)).1 ≤ _; omega
    rcases sel_ok (cnM ca p m) (cdF ca w T k p m) T with ⟨e, -⟩ | ⟨t0, -, -, e, -⟩
    · rw [e]; exact hn
    · rw [e]
      show (pickF _ _).1 ≤ _
      unfold pickF
      split
      · exact hn
      · exact hc t0
/-- the value as the class finds it -/
def fmx (ca : Nat → Bool) (cd : Nat → Nat × List Nat) (y : Nat) : Nat → Nat
  | 0 => y
  | t + 1 => if ca t then max (fmx ca cd y t) (cd t).1 else fmx ca cd y t
theorem fmx_ok (ca : Nat → Bool) (cd : Nat → Nat × List Nat) (y : Nat × List Nat) : ∀ t, fmx ca cd y.1 t = (endF (selF ca cd t) y).1 := by
  intro t
  induction t with
  | zero => rfl
  | succ t ih =>
    unfold fmx selF
    by_cases q : ca t = true
    · rw [if_pos q, if_pos q, ih]
      cases e : selF ca cd t with
      | none =>
        show max y.1 (cd t).1 = (pickF (cd t) y).1
        unfold pickF; split <;> omega
      | some x =>
        show max (pickF x y).1 (cd t).1 = (pickF (pickF x (cd t)) y).1
        unfold pickF; split <;> split <;> (try split) <;> omega
    · rw [if_neg q, if_neg q, ih]
/-- the head of the best row is the first tree by which it is the most -/
theorem bes_hd (ca : Nat → Nat → Bool) (w : Nat → Nat) (T k p m : Nat) : (∃ t, t < T ∧ cnM ca p m t = true ∧ (cdF ca w T k p m t).1 = (bes ca w T (k + 1) p m).1 ∧ (∀ i, i < t → ¬ (cnM ca p m i = true ∧ (cdF ca w T k p m i).1 = (bes ca w T (k + 1) p m).1)) ∧ bes ca w T (k + 1) p m = cdF ca w T k p m t) ∨ ((∀ t, t < T → ¬ (cnM ca p m t = true ∧ (cdF ca w T k p m t).1 = (bes ca w T (k + 1) p m).1)) ∧ bes ca w T (k + 1) p m = ndF ca w T k p m) := by
  rw [bes_s]
  rcases sel_ok (cnM ca p m) (cdF ca w T k p m) T with ⟨e, hn⟩ | ⟨t0, h0, hc, e, h1, h2⟩
  · right
    rw [e]
    refine ⟨fun t ht z => ?_, rfl⟩
    rw [hn t ht] at z; exact absurd z.1 (by decide)
  · rw [e]
    show (∃ t, t < T ∧ cnM ca p m t = true ∧ (cdF ca w T k p m t).1 = (pickF (cdF ca w T k p m t0) (ndF ca w T k p m)).1 ∧ _ ∧ _) ∨ _
    by_cases q : (cdF ca w T k p m t0).1 < (ndF ca w T k p m).1
    · right
      have ep : pickF (cdF ca w T k p m t0) (ndF ca w T k p m) = ndF ca w T k p m := if_pos q
      refine ⟨fun t ht z => ?_, ep⟩
      have := h2 t ht z.1
      have z2 : (cdF ca w T k p m t).1 = (pickF (cdF ca w T k p m t0) (ndF ca w T k p m)).1 := z.2
      rw [ep] at z2
      omega
    · left
      have ep : pickF (cdF ca w T k p m t0) (ndF ca w T k p m) = cdF ca w T k p m t0 := if_neg q
      refine ⟨t0, h0, hc, by rw [ep], fun i hi z => ?_, ep⟩
      have := h1 i hi z.1
      have z2 : (cdF ca w T k p m i).1 = (pickF (cdF ca w T k p m t0) (ndF ca w T k p m)).1 := z.2
      rw [ep] at z2
      omega
/-- what is taken ahead of the p-th -/
def wkF (ca : Nat → Nat → Bool) (w : Nat → Nat) (T N : Nat) : Nat → Nat
  | 0 => 0
  | p + 1 => if (bes ca w T (N - p) p (wkF ca w T N p)).2.headD 0 = 0 then wkF ca w T N p else wkF ca w T N p ||| 2 ^ ((bes ca w T (N - p) p (wkF ca w T N p)).2.headD 0 - 1)
theorem wk_s (ca : Nat → Nat → Bool) (w : Nat → Nat) (T N p : Nat) : wkF ca w T N (p + 1) = if (bes ca w T (N - p) p (wkF ca w T N p)).2.headD 0 = 0 then wkF ca w T N p else wkF ca w T N p ||| 2 ^ ((bes ca w T (N - p) p (wkF ca w T N p)).2.headD 0 - 1) := rfl
theorem wk_ok (ca : Nat → Nat → Bool) (w : Nat → Nat) (T N : Nat) : ∀ p, p ≤ N → (bes ca w T N 0 0).2.drop p = (bes ca w T (N - p) p (wkF ca w T N p)).2 ∧ wkF ca w T N p < 2 ^ T := by
  intro p
  induction p with
  | zero => intro _; exact ⟨rfl, Nat.two_pow_pos T⟩
  | succ p ih =>
    intro hp
    obtain ⟨e, hl⟩ := ih (by omega)
    obtain ⟨k, hk⟩ : ∃ k, N - p = k + 1 := ⟨N - p - 1, by omega⟩
    have hk2 : N - (p + 1) = k := by omega
    rw [← List.drop_drop, e, wk_s, hk, hk2]
    rcases bes_hd ca w T k p (wkF ca w T N p) with ⟨t, ht, hc, h1, h2, h3⟩ | ⟨h1, h3⟩
    · rw [h3]
      show (_ :: (bes ca w T k (p + 1) (wkF ca w T N p ||| 2 ^ t)).2).drop 1 = _ ∧ _
      rw [show (cdF ca w T k p (wkF ca w T N p) t).2.headD 0 = t + 1 from rfl, if_neg (by omega), Nat.add_sub_cancel]
      exact ⟨rfl, Nat.or_lt_two_pow hl (Nat.pow_lt_pow_right (by decide) ht)⟩
    · rw [h3]
      rw [show (ndF ca w T k p (wkF ca w T N p)).2.headD 0 = 0 from rfl, if_pos rfl]
      exact ⟨rfl, hl⟩
theorem wk_at (ca : Nat → Nat → Bool) (w : Nat → Nat) (T N p : Nat) (hp : p < N) : (bes ca w T N 0 0).2.getD p 0 = (bes ca w T (N - p) p (wkF ca w T N p)).2.headD 0 := by
  rw [← (wk_ok ca w T N p (by omega)).1]
  cases h : (bes ca w T N 0 0).2.drop p with
  | nil =>
    have := congrArg List.length h
    rw [List.length_drop, bes_len] at this
    simp at this
    omega
  | cons a l =>
    have : (bes ca w T N 0 0).2[p]? = some a := by
      have h2 := List.getElem?_drop (xs := (bes ca w T N 0 0).2) (i := p) (j := 0)
      rw [h] at h2
      exact h2.symm
    rw [List.getD_eq_getElem?_getD, this]; rfl
theorem eM1 (p m : Nat) : (nI p + 1) * 64 + nI m = nI ((p + 1) * 64 + m) := by
  rw [nI_1, show (64 : Int32) = nI 64 from rfl, pk_mul, nI_add]
theorem eM0 (p m : Nat) : nI p * 64 + nI m = nI (p * 64 + m) := by
  rw [show (64 : Int32) = nI 64 from rfl, pk_mul, nI_add]
def MT (I : Nat → Nat → Int32) (ca : Nat → Nat → Bool) (w : Nat → Nat) (N T : Nat) : Prop := N ≤ 6 ∧ T ≤ 6 ∧ (∀ t, w t ≤ 3) ∧ I 234 4 = nI N ∧ I 234 5 = nI T ∧ (∀ p, p < N → ∃ a, a < 64 ∧ I 235 p = nI a ∧ ∀ t, t < T → a.testBit t = ca p t) ∧ ∀ t, t < T → I 236 t = nI (w t)
def TBL (I : Nat → Nat → Int32) (ca : Nat → Nat → Bool) (w : Nat → Nat) (N T p : Nat) : Prop := ∀ m, m < 2 ^ T → I 238 (p * 64 + m) = nI (bes ca w T (N - p) p m).1
section
variable {G : GG} {d : Nat} {P : Int32 → mm_M → Prop} {Pv : mm_M → Prop} {Q : Option Value → mm_M → Prop} {r : Nat → Nat} {I : Nat → Nat → Int32} {J : Nat → Nat → Int64} {π : PLN} {σ : Nat → Nat → Nat} {ca : Nat → Nat → Bool} {w : Nat → Nat} {N T : Nat}
theorem MT.fr {I' : Nat → Nat → Int32} (h : MT I ca w N T) (h4 : I' 234 4 = I 234 4) (h5 : I' 234 5 = I 234 5) (h35 : I' 235 = I 235) (h36 : I' 236 = I 236) : MT I' ca w N T := by
  unfold MT; rw [h4, h5, h35, h36]; exact h
theorem p2_64 (hT : T ≤ 6) : 2 ^ T ≤ 64 := Nat.pow_le_pow_right (n := 2) (by decide) hT
theorem d21 {p m t : Nat} (hM : MT I ca w N T) (hp : p < N) (ht : t < T) (hm : m < 64) (h : P (if cnM ca p m t then nI (w t) + I 238 ((p + 1) * 64 + (m ||| 2 ^ t)) else -1) (mem r I J)) : CI G (d + 1) 21 [.ref 234, .int (nI p), .int (nI m), .int (nI t)] (mem r I J) P := by
  obtain ⟨hN, hT, hw, h4, h5, h35, h36⟩ := hM
  obtain ⟨a, ha, e35, hb⟩ := h35 p hp
  have hp6 : p < 6 := by omega
  have ht6 : t < 6 := by omega
  have ho : m ||| 2 ^ t < 64 := Nat.or_lt_two_pow (n := 6) hm (Nat.pow_lt_pow_right (by decide) ht6)
  have ec : cnM ca p m t = (a.testBit t && !m.testBit t) := by unfold cnM; rw [hb t ht]
  refine e21 ?_
  simp only [mKm, mNm, mIm, mIf, mJm, mJf, mRm, sIm, sJm, rwIm, rwJm, kN, nN, rN, true_and, ix hp6 (by decide), e35, an_bit ha hm ht6, bI_0, or_1 m hm t ht6, eM1, ix ht6 (by decide), h36 t ht, ix (show (p + 1) * 64 + (m ||| 2 ^ t) < 448 by omega) (by decide)]
  rw [ec] at h
  refine ifb (fun q => ?_) (fun q => ?_)
  · rw [q] at h; exact h
  · rw [Bool.not_eq_false] at q
    rw [q, if_pos rfl] at h; exact h
theorem d21v {p m t : Nat} (hM : MT I ca w N T) (hp : p < N) (ht : t < T) (hm : m < 2 ^ T) (hB : TBL I ca w N T (p + 1)) (h : P (if cnM ca p m t then nI (cdF ca w T (N - (p + 1)) p m t).1 else -1) (mem r I J)) : CI G (d + 1) 21 [.ref 234, .int (nI p), .int (nI m), .int (nI t)] (mem r I J) P := by
  have h64 := p2_64 hM.2.1
  refine d21 hM hp ht (by omega) ?_
  rw [hB (m ||| 2 ^ t) (Nat.or_lt_two_pow hm (Nat.pow_lt_pow_right (by decide) ht)), nI_add]
  exact h
theorem d20 {p m : Nat} (hM : MT I ca w N T) (hp : p < N) (hm : m < 2 ^ T) (hB : TBL I ca w N T (p + 1)) (h : P (nI (bes ca w T (N - p) p m).1) (mem r I J)) : CI G (d + 2) 20 [.ref 234, .int (nI p), .int (nI m)] (mem r I J) P := by
  have h64 := p2_64 hM.2.1
  have hN := hM.1
  have hT := hM.2.1
  have hbb := bes_b ca w T hM.2.2.1
  refine e20 ?_
  simp only [mKm, mNm, mIm, mIf, mJm, mJf, mRm, sIm, sJm, rwIm, rwJm, kN, nN, rN, true_and, eM1, ix (show (p + 1) * 64 + m < 448 by omega) (by decide), hB m hm]
  rw [show N - p = N - (p + 1) + 1 by omega, bes_s, ← fmx_ok] at h
  have hfb : ∀ t, fmx (cnM ca p m) (cdF ca w T (N - (p + 1)) p m) (ndF ca w T (N - (p + 1)) p m).1 t ≤ 100 := by
    intro t
    induction t with
    | zero => have := hbb (N - (p + 1)) (p + 1) m; show (bes ca w T (N - (p + 1)) (p + 1) m).1 ≤ 100; omega
    | succ t ih =>
      have h1 := hbb (N - (p + 1)) (p + 1) (m ||| 2 ^ t)
      have h2 := hM.2.2.1 t
      have h3 : (cdF ca w T (N - (p + 1)) p m t).1 ≤ 100 := by show w t + _ ≤ 100; omega
      unfold fmx
      split <;> omega
  refine lp (n := T) (X := fun t => XX G (d + 1) (some .int) P20 (QI P) 17 [.ref 234, .int (nI p), .int (nI m), .int (nI (fmx (cnM ca p m) (cdF ca w T (N - (p + 1)) p m) (ndF ca w T (N - (p + 1)) p m).1 t)), .int (nI t)] [] (mem r I J)) ?_ (fun t ht ih => ?_)
  · refine x20_17 ?_
    simp only [mKm, mNm, mIm, mIf, mJm, mJf, mRm, sIm, sJm, rwIm, rwJm, kN, nN, rN, true_and, hM.2.2.2.2.1]
    exact ifp (nI_le (Nat.le_refl _) (by omega)) ⟨_, rfl, h⟩
  · refine x20_17 ?_
    simp only [mKm, mNm, mIm, mIf, mJm, mJf, mRm, sIm, sJm, rwIm, rwJm, kN, nN, rN, true_and, hM.2.2.2.2.1]
    refine ifn (nI_ge ht (by omega)) (d21v hM hp ht hm hB (c286 (b20_17_42 ?_)))
    rw [nI_1]
    have hf := hfb t
    unfold fmx at ih
    by_cases q : cnM ca p m t = true
    · have hf1 := hfb (t + 1)
      unfold fmx at hf1
      rw [if_pos q] at ih hf1 ⊢
      rw [m_max (by omega) (by omega)]
      exact ih
    · rw [if_neg q] at ih ⊢
      rw [if_neg (fun z => nI_pos (n := fmx (cnM ca p m) (cdF ca w T (N - (p + 1)) p m) (ndF ca w T (N - (p + 1)) p m).1 t) (by omega) (Int32.lt_trans z (by decide)))]
      exact ih
theorem d22 {p m : Nat} (hM : MT I ca w N T) (hp : p < N) (hm : m < 2 ^ T) (hB : TBL I ca w N T (p + 1)) (hB0 : TBL I ca w N T p) (h : P (nI ((bes ca w T (N - p) p m).2.headD 0) - 1) (mem r I J)) : CI G (d + 2) 22 [.ref 234, .int (nI p), .int (nI m)] (mem r I J) P := by
  have h64 := p2_64 hM.2.1
  have hN := hM.1
  have hT := hM.2.1
  have hbb := bes_b ca w T hM.2.2.1
  have e0 := hB0 m hm
  have hv := hbb (N - p) p m
  rw [show N - p = N - (p + 1) + 1 by omega] at h e0 hv
  have hcb : ∀ t, (cdF ca w T (N - (p + 1)) p m t).1 ≤ 100 := fun t => by
    have h1 := hbb (N - (p + 1)) (p + 1) (m ||| 2 ^ t)
    have h2 := hM.2.2.1 t
    show w t + _ ≤ 100; omega
  have hd := bes_hd ca w T (N - (p + 1)) p m
  refine e22 (lp (n := T) (X := fun t => (∀ i, i < t → ¬ (cnM ca p m i = true ∧ (cdF ca w T (N - (p + 1)) p m i).1 = (bes ca w T (N - (p + 1) + 1) p m).1)) → XX G (d + 1) (some .int) P22 (QI P) 2 [.ref 234, .int (nI p), .int (nI m), .int (nI t)] [] (mem r I J)) (fun hno => ?_) (fun t ht ih hno => ?_) (fun i hi => by omega))
  · refine x22_2 ?_
    simp only [mKm, mNm, mIm, mIf, mJm, mJf, mRm, sIm, sJm, rwIm, rwJm, kN, nN, rN, true_and, hM.2.2.2.2.1]
    refine ifp (nI_le (Nat.le_refl _) (by omega)) ⟨_, rfl, ?_⟩
    rcases hd with ⟨t, ht, hc, h1, h2, h3⟩ | ⟨h1, h3⟩
    · exact absurd ⟨hc, h1⟩ (hno t ht)
    · rw [h3] at h; exact h
  · refine x22_2 ?_
    simp only [mKm, mNm, mIm, mIf, mJm, mJf, mRm, sIm, sJm, rwIm, rwJm, kN, nN, rN, true_and, hM.2.2.2.2.1]
    refine ifn (nI_ge ht (by omega)) (d21v hM hp ht hm hB ?_)
    simp only [mKm, mNm, mIm, mIf, mJm, mJf, mRm, sIm, sJm, rwIm, rwJm, kN, nN, rN, true_and, eM0, ix (show p * 64 + m < 448 by omega) (by decide), e0, nI_1]
    by_cases q : cnM ca p m t = true
    · rw [if_pos q]
      have hc := hcb t
      rw [nI_eq (by omega) (by omega)]
      refine ifb (fun q2 => ih (fun i hi => ?_)) (fun q2 => ⟨_, rfl, ?_⟩)
      · by_cases e : i = t
        · subst e; exact fun z => q2 z.2
        · exact hno i (by omega)
      · rw [Decidable.not_not] at q2
        rcases hd with ⟨t0, ht0, hc0, h1, h2, h3⟩ | ⟨h1, h3⟩
        · have : t0 = t := by
            rcases Nat.lt_trichotomy t0 t with z | z | z
            · exact absurd ⟨hc0, h1⟩ (hno t0 z)
            · exact z
            · exact absurd ⟨q, q2⟩ (h2 t z)
          subst this
          rw [h3] at h
          have e1 : nI ((cdF ca w T (N - (p + 1)) p m t0).2.headD 0) - 1 = nI t0 := nI_pred t0
          rw [e1] at h
          exact h
        · exact absurd ⟨q, q2⟩ (h1 t ht)
    · rw [if_neg q]
      refine ifp (fun z => nI_pos (n := (bes ca w T (N - (p + 1) + 1) p m).1) (by omega) (by rw [← z]; decide)) (ih (fun i hi => ?_))
      by_cases e : i = t
      · subst e; exact fun z => q z.1
      · exact hno i (by omega)
theorem nI_dn (n : Nat) : nI n + (-1) = nI n - 1 := (Int32.sub_eq_add_neg ..).symm
theorem d19 (hM : MT I ca w N T) (h : ∀ I', Fr [234, 237, 238] I I' → I' 234 0 = nI (bes ca w T N 0 0).1 → (∀ p, p < N → I' 237 p = nI ((bes ca w T N 0 0).2.getD p 0) - 1) → Pv (mem r I' J)) : CV G (d + 3) 19 [.ref 234] (mem r I J) Pv := by
  have hN := hM.1
  have hT := hM.2.1
  have h64 := p2_64 hT
  obtain ⟨h2T, -⟩ := sh_2n T (by omega)
  refine e19 ?_
  simp only [mKm, mNm, mIm, mIf, mJm, mJf, mRm, sIm, sJm, rwIm, rwJm, kN, nN, rN, true_and]
  refine c284 (N := 448) rfl rfl (by decide) ?_
  simp only [mKm, mNm, mIm, mIf, mJm, mJf, mRm, sIm, sJm, rwIm, rwJm, kN, nN, rN, true_and]
  have hfr : ∀ {I'}, Fr [234, 237, 238] I I' → I' 234 4 = I 234 4 → I' 234 5 = I 234 5 → MT I' ca w N T := fun hf h4 h5 => hM.fr h4 h5 (hf 235 (by decide)) (hf 236 (by decide))
  rw [show u1 I 238 (fun y => if y < 448 then (0 : Int32) else I 238 y) 234 4 = nI N by rw [u1n (by decide)]; exact hM.2.2.2.1]
  -- the rows, from the last person
  have rows : ∀ I', Fr [234, 237, 238] I I' → I' 234 0 = nI (bes ca w T N 0 0).1 → I' 234 4 = I 234 4 → I' 234 5 = I 234 5 → (∀ p, p ≤ N → TBL I' ca w N T p) → XX G (d + 2) none P19 (QV Pv) 74 [.ref 234, .int 0, .int 0] [] (mem r I' J) := fun I1 hf1 ht1 h41 h51 hB1 => by
    refine lp (n := N) (X := fun p => ∀ I', Fr [234, 237, 238] I I' → I' 234 0 = nI (bes ca w T N 0 0).1 → I' 234 4 = I 234 4 → I' 234 5 = I 234 5 → (∀ q, q ≤ N → TBL I' ca w N T q) → (∀ q, q < p → I' 237 q = nI ((bes ca w T N 0 0).2.getD q 0) - 1) → XX G (d + 2) none P19 (QV Pv) 74 [.ref 234, .int (nI (wkF ca w T N p)), .int (nI p)] [] (mem r I' J)) (fun I2 hf2 ht2 h42 h52 hB2 hr2 => ?_) (fun p hp ih I2 hf2 ht2 h42 h52 hB2 hr2 => ?_) I1 hf1 ht1 h41 h51 hB1 (fun q hq => by omega)
    · refine x19_74 ?_
      simp only [mKm, mNm, mIm, mIf, mJm, mJf, mRm, sIm, sJm, rwIm, rwJm, kN, nN, rN, true_and, h42, hM.2.2.2.1]
      exact ifp (nI_le (Nat.le_refl _) (by omega)) ⟨rfl, h I2 hf2 ht2 hr2⟩
    · have hM2 := hfr hf2 h42 h52
      obtain ⟨-, hwk⟩ := wk_ok ca w T N p (by omega)
      have hp6 : p < 6 := by omega
      have hat := wk_at ca w T N p hp
      refine x19_74 ?_
      simp only [mKm, mNm, mIm, mIf, mJm, mJf, mRm, sIm, sJm, rwIm, rwJm, kN, nN, rN, true_and, h42, hM.2.2.2.1]
      refine ifn (nI_ge hp (by omega)) (d22 hM2 hp hwk (hB2 (p + 1) (by omega)) (hB2 p (by omega)) ?_)
      rw [← hat]
      have hhd : (bes ca w T N 0 0).2.getD p 0 ≤ T := by
        rw [hat, show N - p = N - (p + 1) + 1 by omega]
        rcases bes_hd ca w T (N - (p + 1)) p (wkF ca w T N p) with ⟨t, ht, hc, h1, h2, h3⟩ | ⟨h1, h3⟩
        · rw [h3]; show t + 1 ≤ T; omega
        · rw [h3]; exact Nat.zero_le _
      simp only [mKm, mNm, mIm, mIf, mJm, mJf, mRm, sIm, sJm, rwIm, rwJm, kN, nN, rN, true_and, ix hp6 (by decide), u2s, sh_m1 (show (bes ca w T N 0 0).2.getD p 0 < 2 ^ 30 by omega)]
      have go : ∀ m', m' = wkF ca w T N (p + 1) → XX G (d + 2) none P19 (QV Pv) 74 [.ref 234, .int (nI m'), .int (nI p + 1)] [] (mem r (u2 I2 237 p (nI ((bes ca w T N 0 0).2.getD p 0) - 1)) J) := fun m' hm' => by
        subst hm'
        rw [nI_1]
        refine ih _ (hf2.u2 (by decide)) (by rw [u2n (by decide)]; exact ht2) (by rw [u2n (by decide)]; exact h42) (by rw [u2n (by decide)]; exact h52) (fun q hq m hm => by rw [u2n (by decide)]; exact hB2 q hq m hm) (fun q hq => ?_)
        by_cases e : q = p
        · subst e; rw [u2s]
        · rw [u2i e]; exact hr2 q (by omega)
      have ewk : wkF ca w T N (p + 1) = if (bes ca w T N 0 0).2.getD p 0 = 0 then wkF ca w T N p else wkF ca w T N p ||| 2 ^ ((bes ca w T N 0 0).2.getD p 0 - 1) := by rw [hat]; rfl
      refine ifb (fun q => b19_109_122 ?_) (fun q => b19_117_122 ?_)
      · rw [sh_ix q, or_1 _ (by omega) _ (by omega)]
        rw [← sh_ix q]
        exact go _ (by rw [ewk, if_neg q])
      · rw [Decidable.not_not] at q
        rw [or0]
        exact go _ (by rw [ewk, if_pos q])
  have main : ∀ n, n ≤ N → ∀ I', Fr [234, 237, 238] I I' → I' 234 4 = I 234 4 → I' 234 5 = I 234 5 → (∀ q, n ≤ q → q ≤ N → TBL I' ca w N T q) → XX G (d + 2) none P19 (QV Pv) 15 [.ref 234, .int (nI n - 1), jk] [] (mem r I' J) := by
    intro n
    induction n with
    | zero =>
      intro _ I1 hf1 h41 h51 hB1
      refine x19_15 (ifp (by decide) ?_)
      have e0 := hB1 0 (Nat.le_refl _) (Nat.zero_le _) 0 (Nat.two_pow_pos T)
      rw [show N - 0 = N from rfl, show 0 * 64 + 0 = 0 from rfl] at e0
      simp only [mKm, mNm, mIm, mIf, mJm, mJf, mRm, sIm, sJm, rwIm, rwJm, kN, nN, rN, true_and, ix0 (show 0 < 448 by decide), e0]
      exact rows _ (hf1.u2 (by decide)) u2s (by rw [u2i (by decide)]; exact h41) (by rw [u2i (by decide)]; exact h51) (fun p hp m hm => by rw [u2n (by decide)]; exact hB1 p (Nat.zero_le _) hp m hm)
    | succ n ihn =>
      intro hn I1 hf1 h41 h51 hB1
      rw [nI_pred]
      refine x19_15 (ifn (nI_pos (by omega)) ?_)
      refine lp (n := 2 ^ T) (X := fun m => ∀ I', Fr [234, 237, 238] I I' → I' 234 4 = I 234 4 → I' 234 5 = I 234 5 → (∀ q, n + 1 ≤ q → q ≤ N → TBL I' ca w N T q) → (∀ m', m' < m → I' 238 (n * 64 + m') = nI (bes ca w T (N - n) n m').1) → XX G (d + 2) none P19 (QV Pv) 21 [.ref 234, .int (nI n), .int (nI m)] [] (mem r I' J)) (fun I2 hf2 h42 h52 hB2 hr2 => ?_) (fun m hm ih I2 hf2 h42 h52 hB2 hr2 => ?_) I1 hf1 h41 h51 hB1 (fun m' hm' => by omega)
      · refine x19_21 ?_
        simp only [mKm, mNm, mIm, mIf, mJm, mJf, mRm, sIm, sJm, rwIm, rwJm, kN, nN, rN, true_and, h52, hM.2.2.2.2.1, h2T]
        refine ifp (nI_le (Nat.le_refl _) (by omega)) ?_
        rw [nI_dn]
        refine ihn (by omega) I2 hf2 h42 h52 (fun q hq hqN => ?_)
        by_cases e : q = n
        · subst e; exact hr2
        · exact hB2 q (by omega) hqN
      · have hM2 := hfr hf2 h42 h52
        refine x19_21 ?_
        simp only [mKm, mNm, mIm, mIf, mJm, mJf, mRm, sIm, sJm, rwIm, rwJm, kN, nN, rN, true_and, h52, hM.2.2.2.2.1, h2T]
        refine ifn (nI_ge hm (by omega)) (d20 hM2 (by omega) hm (hB2 (n + 1) (Nat.le_refl _) (by omega)) ?_)
        simp only [mKm, mNm, mIm, mIf, mJm, mJf, mRm, sIm, sJm, rwIm, rwJm, kN, nN, rN, true_and, eM0, ix (show n * 64 + m < 448 by omega) (by decide)]
        refine b19_21_48 ?_
        rw [nI_1]
        refine ih _ (hf2.u2 (by decide)) (by rw [u2n (by decide)]; exact h42) (by rw [u2n (by decide)]; exact h52) (fun q hq hqN m' hm' => ?_) (fun m' hm' => ?_)
        · rw [u2i (by omega)]; exact hB2 q hq hqN m' hm'
        · by_cases e : m' = m
          · subst e; rw [u2s]
          · rw [u2i (by omega)]; exact hr2 m' (by omega)
  refine main N (Nat.le_refl _) _ (Fr.rfl.u1 (by decide)) (by rw [u1n (by decide)]) (by rw [u1n (by decide)]) (fun q hq hqN m hm => ?_)
  have : q = N := by omega
  subst this
  rw [u1s, if_pos (by omega), Nat.sub_self]
  rfl
end
