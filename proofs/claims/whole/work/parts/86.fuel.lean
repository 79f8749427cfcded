/-! E: the reader comes to an end -/
def rkE (m : Nat) : Nat := if m ≤ 4 then 4 - m else 0
theorem bnd_some {x : Option (Nat × Nat × List Int32)} {k : Nat → List Int32 → Option (Nat × Nat × List Int32)} (h : ∃ f j ψ, x = some (f, j, ψ)) (hk : ∀ j ψ, x = some (0, j, ψ) → ∃ f j' ψ', k j ψ = some (f, j', ψ')) : ∃ f j ψ, bnd x k = some (f, j, ψ) := by
  obtain ⟨f, j, ψ, e⟩ := h
  unfold bnd
  rw [e]
  dsimp only
  by_cases q : f = 0
  · rw [if_pos q]; subst q; exact hk j ψ e
  · rw [if_neg q]; exact ⟨_, _, _, rfl⟩
theorem eP_some {tp : List Nat} (hl : tp.length ≤ 1000) : ∀ n m dp i φ, m ≤ 7 → dp ≤ 5 → LV tp i → 5 * (1000 - i) + rkE m < n → ∃ f j ψ, eP tp n m dp i φ = some (f, j, ψ) := by
  intro n
  induction n with
  | zero => intro m dp i φ _ _ _ h; omega
  | succ n ih =>
    intro m dp i φ hm hd hL hn
    have hi := hL.le hl
    -- behind one token
    have nx : ∀ m0 dp' φ', m0 ≤ 7 → dp' ≤ 5 → soF tp i ≠ 0 → ∃ f j ψ, eP tp n m0 dp' (i + 1) φ' = some (f, j, ψ) := fun m0 dp' φ' h0 h1 hs => by
      have h2 := hL.lt hl hs
      refine ih m0 dp' (i + 1) φ' h0 h1 (hL.s hs) ?_
      have : rkE m0 ≤ 4 := by unfold rkE; split <;> omega
      omega
    have lp : ∀ m0 m1 dp' i' φ' j ψ ψ', i ≤ i' → loopM m1 = false → m0 ≤ 7 → m1 ≤ 7 → dp' ≤ 5 → LV tp i' → eP tp n m1 dp' i' φ' = some (0, j, ψ) → ∃ f j' ψ'', eP tp n m0 dp j ψ' = some (f, j', ψ'') := fun m0 m1 dp' i' φ' j ψ ψ' hii l1 h0 h1 h2 hL' e => by
      obtain ⟨χ, a1, a2, a3, a4, -⟩ := eP_ok n m1 dp' i' φ' j ψ h1 h2 e
      have a3 := a3 l1
      have a4 := a4 hL'
      have := a4.le hl
      refine ih m0 dp j ψ' h0 hd a4 ?_
      have : rkE m0 ≤ 4 := by unfold rkE; split <;> omega
      omega
    unfold eP
    by_cases m0 : m = 0
    · subst m0
      rw [if_pos rfl]
      exact bnd_some (ih 1 dp i φ (by decide) hd hL (by have : rkE 0 = 4 := rfl; have : rkE 1 = 3 := rfl; omega)) (fun j ψ e => lp 5 1 dp i φ j ψ ψ (Nat.le_refl _) rfl (by decide) (by decide) hd hL e)
    rw [if_neg m0]
    by_cases m5 : m = 5
    · subst m5
      rw [if_pos rfl]
      by_cases q : wiF tp i = 24 ∨ wiF tp i = 25
      · have hs := wi_0 (show wiF tp i ≠ 0 by omega)
        rw [if_pos q]
        exact bnd_some (nx 1 dp φ (by decide) hd hs) (fun j ψ e => lp 5 1 dp (i + 1) φ j ψ _ (by omega) rfl (by decide) (by decide) hd (hL.s hs) e)
      · rw [if_neg q]; exact ⟨_, _, _, rfl⟩
    rw [if_neg m5]
    by_cases m1 : m = 1
    · subst m1
      rw [if_pos rfl]
      refine bnd_some (ih 2 dp i φ (by decide) hd hL (by have : rkE 2 = 2 := rfl; have : rkE 1 = 3 := rfl; omega)) (fun j ψ e => ?_)
      by_cases q : sgB tp 60 j = true ∨ sgB tp 61 j = true
      · rw [if_pos q]
        have hs : soF tp j ≠ 0 := by rcases q with q | q <;> exact sgB_0 q
        obtain ⟨χ, a1, a2, a3, a4, -⟩ := eP_ok n 2 dp i φ j ψ (by decide) hd e
        have a3 := a3 rfl
        have a4 := a4 hL
        have := a4.lt hl hs
        exact bnd_some (ih 2 dp (j + 1) ψ (by decide) hd (a4.s hs) (by have : rkE 2 = 2 := rfl; have : rkE 1 = 3 := rfl; omega)) (fun k χ _ => ⟨_, _, _, rfl⟩)
      · rw [if_neg q]; exact ⟨_, _, _, rfl⟩
    rw [if_neg m1]
    by_cases m2' : m = 2
    · subst m2'
      rw [if_pos rfl]
      exact bnd_some (ih 3 dp i φ (by decide) hd hL (by have : rkE 2 = 2 := rfl; have : rkE 3 = 1 := rfl; omega)) (fun j ψ e => lp 6 3 dp i φ j ψ ψ (Nat.le_refl _) rfl (by decide) (by decide) hd hL e)
    rw [if_neg m2']
    by_cases m6 : m = 6
    · subst m6
      rw [if_pos rfl]
      by_cases q : sgB tp 43 i = true ∨ sgB tp 45 i = true
      · have hs : soF tp i ≠ 0 := by rcases q with q | q <;> exact sgB_0 q
        rw [if_pos q]
        exact bnd_some (nx 3 dp φ (by decide) hd hs) (fun j ψ e => lp 6 3 dp (i + 1) φ j ψ _ (by omega) rfl (by decide) (by decide) hd (hL.s hs) e)
      · rw [if_neg q]; exact ⟨_, _, _, rfl⟩
    rw [if_neg m6]
    by_cases m3 : m = 3
    · subst m3
      rw [if_pos rfl]
      exact bnd_some (ih 4 dp i φ (by decide) hd hL (by have : rkE 4 = 0 := rfl; have : rkE 3 = 1 := rfl; omega)) (fun j ψ e => lp 7 4 dp i φ j ψ ψ (Nat.le_refl _) rfl (by decide) (by decide) hd hL e)
    rw [if_neg m3]
    by_cases m7 : m = 7
    · subst m7
      rw [if_pos rfl]
      by_cases q : sgB tp 42 i = true
      · have hs := sgB_0 q
        rw [if_pos q]
        exact bnd_some (nx 4 dp φ (by decide) hd hs) (fun j ψ e => lp 7 4 dp (i + 1) φ j ψ _ (by omega) rfl (by decide) (by decide) hd (hL.s hs) e)
      · rw [if_neg q]; exact ⟨_, _, _, rfl⟩
    rw [if_neg m7]
    by_cases q1 : soF tp i ≠ 2 ∧ wiF tp i ≠ 23 ∧ sgB tp 40 i = false ∧ isF tp i = false
    · rw [if_pos q1]; exact ⟨_, _, _, rfl⟩
    rw [if_neg q1]
    by_cases q2 : 5 ≤ dp
    · rw [if_pos q2]; exact ⟨_, _, _, rfl⟩
    rw [if_neg q2]
    by_cases q3 : soF tp i = 2
    · rw [if_pos q3]; exact ⟨_, _, _, rfl⟩
    rw [if_neg q3]
    by_cases q4 : sgB tp 40 i = true
    · rw [if_pos q4]
      refine bnd_some (nx 0 (dp + 1) φ (by decide) (by omega) (sgB_0 q4)) (fun j ψ _ => ?_)
      by_cases q5 : sgB tp 41 j = true
      · rw [if_pos q5]; exact ⟨_, _, _, rfl⟩
      · rw [if_neg q5]; exact ⟨_, _, _, rfl⟩
    rw [if_neg q4]
    by_cases q5 : wiF tp i = 23
    · rw [if_pos q5]
      exact bnd_some (nx 4 (dp + 1) φ (by decide) (by omega) (wi_0 (show wiF tp i ≠ 0 by omega))) (fun j ψ _ => ⟨_, _, _, rfl⟩)
    rw [if_neg q5]
    exact ⟨_, _, _, rfl⟩
