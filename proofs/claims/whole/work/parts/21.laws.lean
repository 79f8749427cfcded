section
variable {L : Nat} {xs : Nat → Int32} {ac kd : Nat → Nat} {E : Nat → List Value → mm_M → Option Value → mm_M → Prop} {rt : Option FieldType} {Q : Option Value → mm_M → Prop}
theorem bl_ex {P : Nat → Nat → List Value → List Value → mm_M → Prop} : ∀ (t : List Instr) (pc : Nat) (ls st : List Value) (M : mm_M), bl L xs ac kd E rt (fun a b c d => ∃ n, P n a b c d) Q t pc ls st M → ∃ n, bl L xs ac kd E rt (P n) Q t pc ls st M := by
  intro t
  induction t with
  | nil => intro pc ls st M h; exact h
  | cons i t ih =>
    intro pc ls st M h
    unfold bl at h ⊢
    split at h
    · exact h
    · split at h
      · rename_i c off st' x st
        by_cases hc : c0 c x
        · obtain ⟨n, h1⟩ := h.1 hc
          exact ⟨n, fun _ => h1, fun z => absurd hc z⟩
        · obtain ⟨n, h1⟩ := ih _ _ _ _ (h.2 hc)
          exact ⟨n, fun z => absurd z hc, fun _ => h1⟩
      · exact h.elim
    · split at h
      · rename_i c off st' y x st
        by_cases hc : c2 c x y
        · obtain ⟨n, h1⟩ := h.1 hc
          exact ⟨n, fun _ => h1, fun z => absurd hc z⟩
        · obtain ⟨n, h1⟩ := ih _ _ _ _ (h.2 hc)
          exact ⟨n, fun z => absurd z hc, fun _ => h1⟩
      · exact h.elim
    · split at h
      · rename_i d lo hi offs st' x st
        by_cases hc : x.toInt < lo ∨ hi < x.toInt
        · obtain ⟨n, h1⟩ := h.1 hc
          exact ⟨n, fun _ => h1, fun z => absurd hc z⟩
        · obtain ⟨off, ho, n, h1⟩ := h.2 hc
          exact ⟨n, fun z => absurd z hc, fun _ => ⟨off, ho, h1⟩⟩
      · exact h.elim
    · split at h
      · exact ⟨0, h⟩
      · exact h.elim
    · split at h
      · exact ⟨0, h⟩
      · exact h.elim
    · split at h
      · exact ⟨0, h⟩
      · exact h.elim
    · split at h
      · split at h
        · obtain ⟨n, h1⟩ := ih _ _ _ _ h.2
          exact ⟨n, h.1, h1⟩
        · exact h.elim
      · split at h
        · obtain ⟨n, h1⟩ := ih _ _ _ _ h.2
          exact ⟨n, h.1, h1⟩
        · exact h.elim
      · obtain ⟨h0, r, M1, hE, h2⟩ := h
        obtain ⟨n, h1⟩ := ih _ _ _ _ h2
        exact ⟨n, h0, r, M1, hE, h1⟩
    · split at h
      · split at h
        · obtain ⟨n, h1⟩ := ih _ _ _ _ h.2
          exact ⟨n, h.1, h1⟩
        · exact h.elim
      · obtain ⟨g0, h0, r, M1, hE, h2⟩ := h
        obtain ⟨n, h1⟩ := ih _ _ _ _ h2
        exact ⟨n, g0, h0, r, M1, hE, h1⟩
    · obtain ⟨g0, h0, r, M1, hE, h2⟩ := h
      obtain ⟨n, h1⟩ := ih _ _ _ _ h2
      exact ⟨n, g0, h0, r, M1, hE, h1⟩
    · split at h
      · exact ih _ _ _ _ h
      · split at h
        · obtain ⟨n, h1⟩ := ih _ _ _ _ h.2
          exact ⟨n, h.1, h1⟩
        · exact h.elim
theorem hx_size {i : Instr} {st st' : List Value} {M M' : mm_M} {g : Prop} (h : hx L xs i st M = some (g, st', M')) : mS M ≤ mS M' ∧ mW M ≤ mW M' := by
  unfold hx at h
  repeat' split at h
  all_goals first | (cases h; exact ⟨Nat.le_refl _, Nat.le_refl _⟩) | (cases h; exact ⟨Nat.le_succ _, Nat.le_add_right _ _⟩) | cases h
/-- the cells and the places that a run has made don't grow less -/
theorem bl_size {K : Nat → List Value → List Value → mm_M → Prop} {z w : Nat} (hE : ∀ j a M r M1, E j a M r M1 → mS M ≤ mS M1 ∧ mW M ≤ mW M1) (hK : ∀ a b c M, K a b c M → mS M ≤ z ∧ mW M ≤ w) (hQ : ∀ v M, Q v M → mS M ≤ z ∧ mW M ≤ w) : ∀ (t : List Instr) (pc : Nat) (ls st : List Value) (M : mm_M), bl L xs ac kd E rt K Q t pc ls st M → mS M ≤ z ∧ mW M ≤ w := by
  have tr : ∀ {M M1 : mm_M}, mS M ≤ mS M1 ∧ mW M ≤ mW M1 → mS M1 ≤ z ∧ mW M1 ≤ w → mS M ≤ z ∧ mW M ≤ w := fun a b => ⟨Nat.le_trans a.1 b.1, Nat.le_trans a.2 b.2⟩
  intro t
  induction t with
  | nil => intro pc ls st M h; exact hK _ _ _ _ h
  | cons i t ih =>
    intro pc ls st M h
    unfold bl at h
    split at h
    · exact hK _ _ _ _ h
    · split at h
      · rename_i c off st' x st
        by_cases hc : c0 c x
        · exact hK _ _ _ _ (h.1 hc)
        · exact ih _ _ _ _ (h.2 hc)
      · exact h.elim
    · split at h
      · rename_i c off st' y x st
        by_cases hc : c2 c x y
        · exact hK _ _ _ _ (h.1 hc)
        · exact ih _ _ _ _ (h.2 hc)
      · exact h.elim
    · split at h
      · rename_i d lo hi offs st' x st
        by_cases hc : x.toInt < lo ∨ hi < x.toInt
        · exact hK _ _ _ _ (h.1 hc)
        · obtain ⟨off, ho, h1⟩ := h.2 hc
          exact hK _ _ _ _ h1
      · exact h.elim
    · split at h
      · exact hQ _ _ h.2
      · exact h.elim
    · split at h
      · exact hQ _ _ h
      · exact h.elim
    · split at h
      · exact hQ _ _ h
      · exact h.elim
    · split at h
      · split at h
        · have q := ih _ _ _ _ h.2
          exact q
        · exact h.elim
      · split at h
        · have q := ih _ _ _ _ h.2
          exact q
        · exact h.elim
      · obtain ⟨h0, r, M1, hE1, h2⟩ := h
        exact tr (hE _ _ _ _ _ hE1) (ih _ _ _ _ h2)
    · split at h
      · split at h
        · exact ih _ _ _ _ h.2
        · exact h.elim
      · obtain ⟨g0, h0, r, M1, hE1, h2⟩ := h
        exact tr (hE _ _ _ _ _ hE1) (ih _ _ _ _ h2)
    · obtain ⟨g0, h0, r, M1, hE1, h2⟩ := h
      exact tr (hE _ _ _ _ _ hE1) (ih _ _ _ _ h2)
    · split at h
      · exact ih _ _ _ _ h
      · split at h
        · rename_i hh
          exact tr (hx_size hh) (ih _ _ _ _ h.2)
        · exact h.elim
/-- so many rows of instructions -/
def XN (L : Nat) (xs : Nat → Int32) (ac kd : Nat → Nat) (E : Nat → List Value → mm_M → Option Value → mm_M → Prop) (rt : Option FieldType) (bs : List (Nat × List Instr)) (Q : Option Value → mm_M → Prop) : Nat → Nat → List Value → List Value → mm_M → Prop
  | 0, _, _, _, _ => False
  | n + 1, pc, ls, st, M => match bs.lookup pc with
    | some b => bl L xs ac kd E rt (XN L xs ac kd E rt bs Q n) Q b pc ls st M
    | none => False
def X (L : Nat) (xs : Nat → Int32) (ac kd : Nat → Nat) (E : Nat → List Value → mm_M → Option Value → mm_M → Prop) (rt : Option FieldType) (bs : List (Nat × List Instr)) (Q : Option Value → mm_M → Prop) (pc : Nat) (ls st : List Value) (M : mm_M) : Prop := ∃ n, XN L xs ac kd E rt bs Q n pc ls st M
theorem X_at {bs : List (Nat × List Instr)} {pc : Nat} {ls st : List Value} {M : mm_M} (b : List Instr) (hb : bs.lookup pc = some b) (h : bl L xs ac kd E rt (X L xs ac kd E rt bs Q) Q b pc ls st M) : X L xs ac kd E rt bs Q pc ls st M := by
  obtain ⟨n, hn⟩ := bl_ex b pc ls st M h
  refine ⟨n + 1, ?_⟩
  unfold XN
  rw [hb]
  exact hn
theorem XN_size {bs : List (Nat × List Instr)} {z w : Nat} (hE : ∀ j a M r M1, E j a M r M1 → mS M ≤ mS M1 ∧ mW M ≤ mW M1) (hQ : ∀ v M, Q v M → mS M ≤ z ∧ mW M ≤ w) : ∀ (n pc : Nat) (ls st : List Value) (M : mm_M), XN L xs ac kd E rt bs Q n pc ls st M → mS M ≤ z ∧ mW M ≤ w := by
  intro n
  induction n with
  | zero => intro pc ls st M h; exact h.elim
  | succ n ih =>
    intro pc ls st M h
    unfold XN at h
    split at h
    · exact bl_size hE ih hQ _ _ _ _ _ h
    · exact h.elim
/-- the arguments as locals -/
def lay : List Value → List Value
  | [] => []
  | .long x :: t => .long x :: jk :: lay t
  | .double x :: t => .double x :: jk :: lay t
  | v :: t => v :: lay t
def lay0 (a : List Value) (n : Nat) : List Value := lay a ++ List.replicate (n - (lay a).length) jk
/-- a call of depth d: P the methods (locals, answer, rows), EX what is told beside -/
def Ev (L : Nat) (xs : Nat → Int32) (ac kd : Nat → Nat) (P : Nat → Option (Nat × Option FieldType × List (Nat × List Instr))) (EX : Nat → Nat → List Value → mm_M → Option Value → mm_M → Prop) : Nat → Nat → List Value → mm_M → Option Value → mm_M → Prop
  | 0, _, _, _, _, _ => False
  | d + 1, j, a, M, r, M' => match P j with
    | some (nL, rt, bs) => (lay a).length ≤ nL ∧ X L xs ac kd (Ev L xs ac kd P EX d) rt bs (fun v M1 => v = r ∧ M1 = M') 0 (lay0 a nL) [] M
    | none => EX d j a M r M'
theorem Ev_size {P : Nat → Option (Nat × Option FieldType × List (Nat × List Instr))} {EX : Nat → Nat → List Value → mm_M → Option Value → mm_M → Prop} (hX : ∀ d j a M r M1, EX d j a M r M1 → mS M ≤ mS M1 ∧ mW M ≤ mW M1) : ∀ d j a M r M1, Ev L xs ac kd P EX d j a M r M1 → mS M ≤ mS M1 ∧ mW M ≤ mW M1 := by
  intro d
  induction d with
  | zero => intro j a M r M1 h; exact h.elim
  | succ d ih =>
    intro j a M r M1 h
    unfold Ev at h
    split at h
    · obtain ⟨-, n, h⟩ := h
      exact XN_size ih (fun v M2 hv => by rw [hv.2]; exact ⟨Nat.le_refl _, Nat.le_refl _⟩) n _ _ _ _ h
    · exact hX _ _ _ _ _ _ h
end
