/-! E, read from tokens -/
def bnd (x : Option (Nat × Nat × List Int32)) (k : Nat → List Int32 → Option (Nat × Nat × List Int32)) : Option (Nat × Nat × List Int32) := match x with
  | none => none
  | some (f, j, ψ) => if f = 0 then k j ψ else some (f, j, ψ)
theorem bnd_inv {x : Option (Nat × Nat × List Int32)} {k : Nat → List Int32 → Option (Nat × Nat × List Int32)} {f j : Nat} {ψ : List Int32} (h : bnd x k = some (f, j, ψ)) : (∃ j1 ψ1, x = some (0, j1, ψ1) ∧ k j1 ψ1 = some (f, j, ψ)) ∨ (f ≠ 0 ∧ x = some (f, j, ψ)) := by
  unfold bnd at h
  cases x with
  | none => exact absurd h (by simp)
  | some y =>
    obtain ⟨f1, j1, ψ1⟩ := y
    dsimp only at h
    by_cases q : f1 = 0
    · rw [if_pos q] at h
      subst q
      exact Or.inl ⟨j1, ψ1, rfl, h⟩
    · rw [if_neg q] at h
      cases h
      exact Or.inr ⟨q, rfl⟩
def opW (tp : List Nat) (i : Nat) : Int32 := if wiF tp i = 24 then -2 else -3
def opS (tp : List Nat) (i : Nat) : Int32 := if sgB tp 43 i then -6 else -7
def opT (tp : List Nat) (i : Nat) : Int32 := if sgB tp 60 i then -4 else -5
def isF (tp : List Nat) (i : Nat) : Bool := inW tp 25 4 i
def eP (tp : List Nat) : Nat → Nat → Nat → Nat → List Int32 → Option (Nat × Nat × List Int32)
  | 0, _, _, _, _ => none
  | n + 1, m, dp, i, φ =>
    if m = 0 then bnd (eP tp n 1 dp i φ) (fun j ψ => eP tp n 5 dp j ψ)
    else if m = 5 then (if wiF tp i = 24 ∨ wiF tp i = 25 then bnd (eP tp n 1 dp (i + 1) φ) (fun j ψ => eP tp n 5 dp j (ψ ++ [opW tp i])) else some (0, i, φ))
    else if m = 1 then bnd (eP tp n 2 dp i φ) (fun j ψ => if sgB tp 60 j = true ∨ sgB tp 61 j = true then bnd (eP tp n 2 dp (j + 1) ψ) (fun k χ => some (0, k, χ ++ [opT tp j])) else some (0, j, ψ))
    else if m = 2 then bnd (eP tp n 3 dp i φ) (fun j ψ => eP tp n 6 dp j ψ)
    else if m = 6 then (if sgB tp 43 i = true ∨ sgB tp 45 i = true then bnd (eP tp n 3 dp (i + 1) φ) (fun j ψ => eP tp n 6 dp j (ψ ++ [opS tp i])) else some (0, i, φ))
    else if m = 3 then bnd (eP tp n 4 dp i φ) (fun j ψ => eP tp n 7 dp j ψ)
    else if m = 7 then (if sgB tp 42 i = true then bnd (eP tp n 4 dp (i + 1) φ) (fun j ψ => eP tp n 7 dp j (ψ ++ [-8])) else some (0, i, φ))
    else if soF tp i ≠ 2 ∧ wiF tp i ≠ 23 ∧ sgB tp 40 i = false ∧ isF tp i = false then some (flt tp 1 i, i, φ)
    else if 5 ≤ dp then some (flt tp 5 i, i, φ)
    else if soF tp i = 2 then some (0, i + 1, φ ++ [nI (nuF tp i)])
    else if sgB tp 40 i = true then bnd (eP tp n 0 (dp + 1) (i + 1) φ) (fun j ψ => if sgB tp 41 j = true then some (0, j + 1, ψ) else some (flt tp 1 j, j, ψ))
    else if wiF tp i = 23 then bnd (eP tp n 4 (dp + 1) (i + 1) φ) (fun j ψ => some (0, j, ψ ++ [-1]))
    else some (0, i + 1, φ ++ [-9 - nI (wiF tp i - 26)])
def LV (tp : List Nat) (i : Nat) : Prop := ∀ k, k < i → soF tp k ≠ 0
theorem LV.s {tp : List Nat} {i : Nat} (h : LV tp i) (hs : soF tp i ≠ 0) : LV tp (i + 1) := fun k hk => by
  by_cases e : k = i
  · subst e; exact hs
  · exact h k (by omega)
theorem LV.b {tp : List Nat} : ∀ i, LV tp i → i ≤ poF tp i := by
  intro i
  induction i with
  | zero => intro _; exact Nat.zero_le _
  | succ i ih =>
    intro h
    have h1 := ih (fun k hk => h k (by omega))
    have hb := tok_b tp i
    have := hb.2.2.2.1 (h i (by omega))
    show i + 1 ≤ enF tp i
    omega
theorem LV.le {tp : List Nat} {i : Nat} (h : LV tp i) (hl : tp.length ≤ 1000) : i ≤ 1000 := by
  have := h.b; have := po_b tp i; omega
theorem LV.lt {tp : List Nat} {i : Nat} (h : LV tp i) (hl : tp.length ≤ 1000) (hs : soF tp i ≠ 0) : i + 1 ≤ 1000 := (h.s hs).le hl
/-- how many places an E needs -/
def bP (m dp : Nat) : Nat := 4 * (4 - dp) + 1 + (if m = 4 then 0 else if m = 3 ∨ m = 7 then 1 else if m = 2 ∨ m = 6 then 2 else if m = 1 then 3 else 4)
def loopM (m : Nat) : Bool := m == 5 || (m == 6 || m == 7)
theorem ok_op {x : Int32} {rest : List Int32} {s : Nat} (hx : -9 < x ∧ x < -1) (h : okS rest (s + 1)) : okS (x :: rest) (s + 1 + 1) := by
  unfold okS
  rw [if_neg (fun z => by rw [z] at hx; exact absurd hx.2 (by decide)), if_pos hx]
  exact ⟨by omega, h⟩
theorem ok_psh {x : Int32} {rest : List Int32} {s : Nat} (h1 : x ≠ -1) (h2 : ¬ (-9 < x ∧ x < -1)) (h3 : -12 ≤ x) (hs : s < 24) (h : okS rest (s + 1)) : okS (x :: rest) s := by
  unfold okS
  rw [if_neg h1, if_neg h2]
  exact ⟨h3, hs, h⟩
theorem ok_nI {k : Nat} (hk : k ≤ 9999) : nI k ≠ -1 ∧ ¬ (-9 < nI k ∧ nI k < -1) ∧ (-12 : Int32) ≤ nI k := by
  have h0 : (0 : Int32) ≤ nI k := nI_pos' (by omega)
  refine ⟨nI_nm (by omega), fun z => ?_, Int32.le_trans (by decide) h0⟩
  exact nI_pos (n := k) (by omega) (Int32.lt_trans z.2 (by decide))
theorem ok_fact : ∀ k, k < 4 → (-9 : Int32) - nI k ≠ -1 ∧ ¬ (-9 < (-9 : Int32) - nI k ∧ (-9 : Int32) - nI k < -1) ∧ (-12 : Int32) ≤ -9 - nI k := by decide +kernel
theorem opW_r (tp : List Nat) (i : Nat) : -9 < opW tp i ∧ opW tp i < -1 := by unfold opW; split <;> decide
theorem opS_r (tp : List Nat) (i : Nat) : -9 < opS tp i ∧ opS tp i < -1 := by unfold opS; split <;> decide
theorem opT_r (tp : List Nat) (i : Nat) : -9 < opT tp i ∧ opT tp i < -1 := by unfold opT; split <;> decide
theorem isF_b {tp : List Nat} {i : Nat} (h : isF tp i = true) : 26 ≤ wiF tp i ∧ wiF tp i ≤ 29 := by
  unfold isF inW at h
  simp only [Bool.and_eq_true, decide_eq_true_eq] at h
  omega
def EOK (tp : List Nat) (m dp i : Nat) (φ : List Int32) (j : Nat) (ψ : List Int32) : Prop := ∃ χ, ψ = φ ++ χ ∧ χ.length + i ≤ j ∧ (loopM m = false → i < j) ∧ (LV tp i → LV tp j) ∧ (loopM m = false → ∀ s rest, s + bP m dp ≤ 24 → okS rest (s + 1) → okS (χ ++ rest) s) ∧ (loopM m = true → ∀ s rest, s + bP m dp ≤ 24 → okS rest (s + 1) → okS (χ ++ rest) (s + 1))
theorem eP_ok {tp : List Nat} : ∀ n m dp i φ j ψ, m ≤ 7 → dp ≤ 5 → eP tp n m dp i φ = some (0, j, ψ) → EOK tp m dp i φ j ψ := by
  intro n
  induction n with
  | zero => intro m dp i φ j ψ _ _ h; exact absurd h (by simp [eP])
  | succ n ih =>
    intro m dp i φ j ψ hm hd h
    unfold eP at h
    -- two in a row: an operand, then its loop
    have two : ∀ (m0 m1 m2 : Nat), loopM m0 = false → loopM m1 = false → loopM m2 = true → m1 ≤ 7 → m2 ≤ 7 → bP m1 dp ≤ bP m0 dp → bP m2 dp ≤ bP m0 dp → bnd (eP tp n m1 dp i φ) (fun j ψ => eP tp n m2 dp j ψ) = some (0, j, ψ) → EOK tp m0 dp i φ j ψ := fun m0 m1 m2 l0 l1 l2 h1 h2 b1 b2 hh => by
      rcases bnd_inv hh with ⟨j1, ψ1, e1, e2⟩ | ⟨q, -⟩
      · obtain ⟨χ1, a1, a2, a3, a4, a5, -⟩ := ih m1 dp i φ j1 ψ1 h1 hd e1
        obtain ⟨χ2, c1, c2, -, c4, -, c6⟩ := ih m2 dp j1 ψ1 j ψ h2 hd e2
        have a3 := a3 l1
        refine ⟨χ1 ++ χ2, by rw [c1, a1, List.append_assoc], by rw [List.length_append]; omega, fun _ => by omega, fun z => c4 (a4 z), fun _ s rest hs ho => ?_, fun z => by rw [l0] at z; exact absurd z (by decide)⟩
        rw [List.append_assoc]
        exact a5 l1 s _ (by omega) (c6 l2 s rest (by omega) ho)
      · exact absurd rfl q
    -- a loop's turn
    have turn : ∀ (m0 m1 : Nat) (x : Int32), loopM m0 = true → loopM m1 = false → m1 ≤ 7 → m0 ≤ 7 → bP m1 dp + 1 ≤ bP m0 dp → (-9 < x ∧ x < -1) → soF tp i ≠ 0 → bnd (eP tp n m1 dp (i + 1) φ) (fun j ψ => eP tp n m0 dp j (ψ ++ [x])) = some (0, j, ψ) → EOK tp m0 dp i φ j ψ := fun m0 m1 x l0 l1 h1 h0 b1 hx hs0 hh => by
      rcases bnd_inv hh with ⟨j1, ψ1, e1, e2⟩ | ⟨q, -⟩
      · obtain ⟨χ1, a1, a2, a3, a4, a5, -⟩ := ih m1 dp (i + 1) φ j1 ψ1 h1 hd e1
        obtain ⟨χ2, c1, c2, -, c4, -, c6⟩ := ih m0 dp j1 (ψ1 ++ [x]) j ψ h0 hd e2
        have a3 := a3 l1
        refine ⟨χ1 ++ ([x] ++ χ2), by rw [c1, a1, List.append_assoc, List.append_assoc], by rw [List.length_append, List.length_append]; show χ1.length + (1 + χ2.length) + i ≤ j; omega, fun _ => by omega, fun z => c4 (a4 (z.s hs0)), fun z => by rw [l0] at z; exact absurd z (by decide), fun _ s rest hs ho => ?_⟩
        rw [List.append_assoc, List.append_assoc]
        exact a5 l1 (s + 1) _ (by omega) (ok_op hx (c6 l0 s rest hs ho))
      · exact absurd rfl q
    have stop : ∀ (m0 : Nat), loopM m0 = true → (some (0, i, φ) : Option (Nat × Nat × List Int32)) = some (0, j, ψ) → EOK tp m0 dp i φ j ψ := fun m0 l0 hh => by
      cases hh
      exact ⟨[], (List.append_nil _).symm, by simp, fun z => by rw [l0] at z; exact absurd z (by decide), fun z => z, fun z => by rw [l0] at z; exact absurd z (by decide), fun _ s rest _ ho => ho⟩
    by_cases m0 : m = 0
    · subst m0
      rw [if_pos rfl] at h
      exact two 0 1 5 rfl rfl rfl (by decide) (by decide) (by simp [bP]) (by simp [bP]) h
    rw [if_neg m0] at h
    by_cases m5 : m = 5
    · subst m5
      rw [if_pos rfl] at h
      by_cases q : wiF tp i = 24 ∨ wiF tp i = 25
      · rw [if_pos q] at h
        exact turn 5 1 (opW tp i) rfl rfl (by decide) (by decide) (by simp [bP]) (opW_r tp i) (wi_0 (by omega)) h
      · rw [if_neg q] at h
        exact stop 5 rfl h
    rw [if_neg m5] at h
    by_cases m1 : m = 1
    · subst m1
      rw [if_pos rfl] at h
      rcases bnd_inv h with ⟨j1, ψ1, e1, e2⟩ | ⟨q, -⟩
      · obtain ⟨χ1, a1, a2, a3, a4, a5, -⟩ := ih 2 dp i φ j1 ψ1 (by decide) hd e1
        have a3 := a3 rfl
        have b21 : bP 2 dp + 1 = bP 1 dp := by simp [bP]
        by_cases q : sgB tp 60 j1 = true ∨ sgB tp 61 j1 = true
        · rw [if_pos q] at e2
          have hs0 : soF tp j1 ≠ 0 := by rcases q with q | q <;> exact sgB_0 q
          rcases bnd_inv e2 with ⟨j2, ψ2, e3, e4⟩ | ⟨q, -⟩
          · obtain ⟨χ2, c1, c2, c3, c4, c5, -⟩ := ih 2 dp (j1 + 1) ψ1 j2 ψ2 (by decide) hd e3
            have c3 := c3 rfl
            cases e4
            refine ⟨χ1 ++ (χ2 ++ [opT tp j1]), by rw [c1, a1, List.append_assoc, List.append_assoc], by rw [List.length_append, List.length_append]; show χ1.length + (χ2.length + 1) + i ≤ j; omega, fun _ => by omega, fun z => c4 ((a4 z).s hs0), fun _ s rest hs ho => ?_, fun z => absurd z (by decide)⟩
            rw [List.append_assoc, List.append_assoc]
            exact a5 rfl s _ (by omega) (c5 rfl (s + 1) _ (by omega) (ok_op (opT_r tp j1) ho))
          · exact absurd rfl q
        · rw [if_neg q] at e2
          cases e2
          exact ⟨χ1, a1, a2, fun _ => a3, a4, fun _ s rest hs ho => a5 rfl s rest (by omega) ho, fun z => absurd z (by decide)⟩
      · exact absurd rfl q
    rw [if_neg m1] at h
    by_cases m2 : m = 2
    · subst m2
      rw [if_pos rfl] at h
      exact two 2 3 6 rfl rfl rfl (by decide) (by decide) (by simp [bP]) (by simp [bP]) h
    rw [if_neg m2] at h
    by_cases m6 : m = 6
    · subst m6
      rw [if_pos rfl] at h
      by_cases q : sgB tp 43 i = true ∨ sgB tp 45 i = true
      · rw [if_pos q] at h
        exact turn 6 3 (opS tp i) rfl rfl (by decide) (by decide) (by simp [bP]) (opS_r tp i) (by rcases q with q | q <;> exact sgB_0 q) h
      · rw [if_neg q] at h
        exact stop 6 rfl h
    rw [if_neg m6] at h
    by_cases m3 : m = 3
    · subst m3
      rw [if_pos rfl] at h
      exact two 3 4 7 rfl rfl rfl (by decide) (by decide) (by simp [bP]) (by simp [bP]) h
    rw [if_neg m3] at h
    by_cases m7 : m = 7
    · subst m7
      rw [if_pos rfl] at h
      by_cases q : sgB tp 42 i = true
      · rw [if_pos q] at h
        exact turn 7 4 (-8) rfl rfl (by decide) (by decide) (by simp [bP]) (by decide) (sgB_0 q) h
      · rw [if_neg q] at h
        exact stop 7 rfl h
    rw [if_neg m7] at h
    have m4 : m = 4 := by omega
    subst m4
    by_cases q1 : soF tp i ≠ 2 ∧ wiF tp i ≠ 23 ∧ sgB tp 40 i = false ∧ isF tp i = false
    · rw [if_pos q1] at h
      have : flt tp 1 i = 0 := (Prod.mk.inj (Option.some.inj h)).1
      unfold flt at this; omega
    rw [if_neg q1] at h
    by_cases q2 : 5 ≤ dp
    · rw [if_pos q2] at h
      have : flt tp 5 i = 0 := (Prod.mk.inj (Option.some.inj h)).1
      unfold flt at this; omega
    rw [if_neg q2] at h
    have leaf : ∀ x : Int32, (x ≠ -1 ∧ ¬ (-9 < x ∧ x < -1) ∧ -12 ≤ x) → soF tp i ≠ 0 → (some (0, i + 1, φ ++ [x]) : Option (Nat × Nat × List Int32)) = some (0, j, ψ) → EOK tp 4 dp i φ j ψ := fun x hx hs0 hh => by
      cases hh
      refine ⟨[x], rfl, by simp; omega, fun _ => by omega, fun z => z.s hs0, fun _ s rest hs ho => ?_, fun z => absurd z (by decide)⟩
      have : 1 ≤ bP 4 dp := by simp [bP]
      exact ok_psh hx.1 hx.2.1 hx.2.2 (by omega) ho
    by_cases q3 : soF tp i = 2
    · rw [if_pos q3] at h
      exact leaf _ (ok_nI (tok_n q3)) (by omega) h
    rw [if_neg q3] at h
    by_cases q4 : sgB tp 40 i = true
    · rw [if_pos q4] at h
      rcases bnd_inv h with ⟨j1, ψ1, e1, e2⟩ | ⟨q, -⟩
      · obtain ⟨χ1, a1, a2, a3, a4, a5, -⟩ := ih 0 (dp + 1) (i + 1) φ j1 ψ1 (by decide) (by omega) e1
        have a3 := a3 rfl
        by_cases q5 : sgB tp 41 j1 = true
        · rw [if_pos q5] at e2
          cases e2
          refine ⟨χ1, a1, by omega, fun _ => by omega, fun z => (a4 (z.s (sgB_0 q4))).s (sgB_0 q5), fun _ s rest hs ho => a5 rfl s rest ?_ ho, fun z => absurd z (by decide)⟩
          have : bP 0 (dp + 1) ≤ bP 4 dp ∨ dp = 4 := by
            by_cases e4 : dp = 4
            · exact Or.inr e4
            · left; simp [bP]; omega
          rcases this with hb | hb
          · omega
          · subst hb
            -- nothing lies so deep
            exfalso
            have deep : ∀ n m i φ j ψ, m ≤ 7 → loopM m = false → eP tp n m 5 i φ ≠ some (0, j, ψ) := by
              intro n
              induction n with
              | zero => intro m i φ j ψ _ _ z; exact absurd z (by simp [eP])
              | succ n ihd =>
                intro m i φ j ψ hm hl z
                unfold eP at z
                have two' : ∀ m1 (k : Nat → List Int32 → Option (Nat × Nat × List Int32)), m1 ≤ 7 → loopM m1 = false → bnd (eP tp n m1 5 i φ) k ≠ some (0, j, ψ) := fun m1 k h1 h2 z => by
                  rcases bnd_inv z with ⟨j1, ψ1, e1, -⟩ | ⟨q, -⟩
                  · exact ihd m1 i φ j1 ψ1 h1 h2 e1
                  · exact absurd rfl q
                by_cases m0 : m = 0
                · rw [if_pos m0] at z; exact two' 1 _ (by decide) rfl z
                rw [if_neg m0] at z
                by_cases m5 : m = 5
                · subst m5; exact absurd hl (by decide)
                rw [if_neg m5] at z
                by_cases m1 : m = 1
                · rw [if_pos m1] at z; exact two' 2 _ (by decide) rfl z
                rw [if_neg m1] at z
                by_cases m2 : m = 2
                · rw [if_pos m2] at z; exact two' 3 _ (by decide) rfl z
                rw [if_neg m2] at z
                by_cases m6 : m = 6
                · subst m6; exact absurd hl (by decide)
                rw [if_neg m6] at z
                by_cases m3 : m = 3
                · rw [if_pos m3] at z; exact two' 4 _ (by decide) rfl z
                rw [if_neg m3] at z
                by_cases m7 : m = 7
                · subst m7; exact absurd hl (by decide)
                rw [if_neg m7] at z
                by_cases q1 : soF tp i ≠ 2 ∧ wiF tp i ≠ 23 ∧ sgB tp 40 i = false ∧ isF tp i = false
                · rw [if_pos q1] at z
                  have : flt tp 1 i = 0 := (Prod.mk.inj (Option.some.inj z)).1
                  unfold flt at this; omega
                rw [if_neg q1, if_pos (by decide)] at z
                have : flt tp 5 i = 0 := (Prod.mk.inj (Option.some.inj z)).1
                unfold flt at this; omega
            exact deep n 0 (i + 1) φ j1 ψ (by decide) rfl e1
        · rw [if_neg q5] at e2
          have : flt tp 1 j1 = 0 := (Prod.mk.inj (Option.some.inj e2)).1
          unfold flt at this; omega
      · exact absurd rfl q
    rw [if_neg q4] at h
    by_cases q5 : wiF tp i = 23
    · rw [if_pos q5] at h
      rcases bnd_inv h with ⟨j1, ψ1, e1, e2⟩ | ⟨q, -⟩
      · obtain ⟨χ1, a1, a2, a3, a4, a5, -⟩ := ih 4 (dp + 1) (i + 1) φ j1 ψ1 (by decide) (by omega) e1
        have a3 := a3 rfl
        cases e2
        refine ⟨χ1 ++ [-1], by rw [a1, List.append_assoc], by rw [List.length_append]; show χ1.length + 1 + i ≤ j; omega, fun _ => by omega, fun z => a4 (z.s (wi_0 (by omega))), fun _ s rest hs ho => ?_, fun z => absurd z (by decide)⟩
        rw [List.append_assoc]
        have : bP 4 (dp + 1) ≤ bP 4 dp := by simp [bP]; omega
        refine a5 rfl s _ (by omega) ?_
        show okS (-1 :: rest) (s + 1)
        unfold okS
        rw [if_pos rfl]
        exact ⟨by omega, ho⟩
      · exact absurd rfl q
    rw [if_neg q5] at h
    have hF : isF tp i = true := by
      cases e : isF tp i with
      | true => rfl
      | false => exact absurd ⟨q3, q5, by simpa using q4, e⟩ q1
    have hb := isF_b hF
    exact leaf _ (ok_fact (wiF tp i - 26) (by omega)) (wi_0 (by omega)) h
