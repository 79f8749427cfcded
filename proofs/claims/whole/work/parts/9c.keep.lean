/-! the methods make nothing, but for the constructors -/
def nnI (i : Instr) : Bool := match i with
  | .new _ => false
  | .newarray _ => false
  | .anewarray _ => false
  | .invokestatic j => j == 900 || j == 901 || (!inj j && decide (j < 290))
  | .invokespecial j => j == 900 || (!inj j && decide (j < 290))
  | .invokevirtual j => !inj j && decide (j < 290)
  | _ => true
theorem nn_all : ∀ j, j < 290 → inj j = false → (PL j).all (fun q => q.2.all nnI) = true := by decide +kernel
section
variable {L : Nat} {xs : Nat → Int32} {ac kd : Nat → Nat} {E : Nat → List Value → mm_M → Option Value → mm_M → Prop} {rt : Option FieldType} {Q : Option Value → mm_M → Prop}
theorem hx_keep {i : Instr} {st st' : List Value} {M M' : mm_M} {g : Prop} (hn : nnI i = true) (h : hx L xs i st M = some (g, st', M')) : mS M' = mS M ∧ mW M' = mW M := by
  unfold hx at h
  repeat' split at h
  all_goals first | (cases h; exact ⟨rfl, rfl⟩) | (cases hn; done) | cases h
theorem bl_keep {K : Nat → List Value → List Value → mm_M → Prop} {z w : Nat} (hE : ∀ j a M r M1, j < 290 → inj j = false → E j a M r M1 → mS M1 = mS M ∧ mW M1 = mW M) (hK : ∀ a b c M, K a b c M → mS M = z ∧ mW M = w) (hQ : ∀ v M, Q v M → mS M = z ∧ mW M = w) : ∀ (t : List Instr) (pc : Nat) (ls st : List Value) (M : mm_M), t.all nnI = true → bl L xs ac kd E rt K Q t pc ls st M → mS M = z ∧ mW M = w := by
  have tr : ∀ {M M1 : mm_M}, mS M1 = mS M ∧ mW M1 = mW M → mS M1 = z ∧ mW M1 = w → mS M = z ∧ mW M = w := fun a b => ⟨a.1.symm.trans b.1, a.2.symm.trans b.2⟩
  intro t
  induction t with
  | nil => intro pc ls st M _ h; exact hK _ _ _ _ h
  | cons i t ih =>
    intro pc ls st M hall h
    rw [List.all_cons, Bool.and_eq_true] at hall
    obtain ⟨hi, ht⟩ := hall
    unfold bl at h
    split at h
    · exact hK _ _ _ _ h
    · split at h
      · rename_i c off st' x st
        by_cases hc : c0 c x
        · exact hK _ _ _ _ (h.1 hc)
        · exact ih _ _ _ _ ht (h.2 hc)
      · exact h.elim
    · split at h
      · rename_i c off st' y x st
        by_cases hc : c2 c x y
        · exact hK _ _ _ _ (h.1 hc)
        · exact ih _ _ _ _ ht (h.2 hc)
      · exact h.elim
    · split at h
      · rename_i d lo hi9 offs st' x st
        by_cases hc : x.toInt < lo ∨ hi9 < x.toInt
        · exact hK _ _ _ _ (h.1 hc)
        · obtain ⟨off, ho, h1⟩ := h.2 hc
          exact hK _ _ _ _ h1
      · exact h.elim
    · split at h
      · exact hQ _ _ h.2
      · exact h.elim
    · split at h
      · exact hQ _ _ h
      · exact h.elim
    · split at h
      · exact hQ _ _ h
      · exact h.elim
    · rename_i j
      split at h
      · split at h
        · have q := ih _ _ _ _ ht h.2
          exact q
        · exact h.elim
      · split at h
        · have q := ih _ _ _ _ ht h.2
          exact q
        · exact h.elim
      · rename_i n1 n2
        obtain ⟨h0, r, M1, hE1, h2⟩ := h
        have hj : inj j = false ∧ j < 290 := by
          have e1 : (j == 900) = false := by rw [beq_eq_false_iff_ne]; exact n1
          have e2 : (j == 901) = false := by rw [beq_eq_false_iff_ne]; exact n2
          have hi : (j == 900 || j == 901 || (!inj j && decide (j < 290))) = true := hi
          rw [e1, e2] at hi
          simpa using hi
        exact tr (hE _ _ _ _ _ hj.2 hj.1 hE1) (ih _ _ _ _ ht h2)
    · rename_i j
      split at h
      · split at h
        · exact ih _ _ _ _ ht h.2
        · exact h.elim
      · rename_i n1
        obtain ⟨g0, h0, r, M1, hE1, h2⟩ := h
        have hj : inj j = false ∧ j < 290 := by
          have e1 : (j == 900) = false := by rw [beq_eq_false_iff_ne]; exact n1
          have hi : (j == 900 || (!inj j && decide (j < 290))) = true := hi
          rw [e1] at hi
          simpa using hi
        exact tr (hE _ _ _ _ _ hj.2 hj.1 hE1) (ih _ _ _ _ ht h2)
    · rename_i j
      obtain ⟨g0, h0, r, M1, hE1, h2⟩ := h
      have hj : inj j = false ∧ j < 290 := by
        have hi : (!inj j && decide (j < 290)) = true := hi
        simpa using hi
      exact tr (hE _ _ _ _ _ hj.2 hj.1 hE1) (ih _ _ _ _ ht h2)
    · split at h
      · exact ih _ _ _ _ ht h
      · split at h
        · rename_i hh
          exact tr (hx_keep hi hh) (ih _ _ _ _ ht h.2)
        · exact h.elim
theorem XN_keep {bs : List (Nat × List Instr)} {z w : Nat} (hE : ∀ j a M r M1, j < 290 → inj j = false → E j a M r M1 → mS M1 = mS M ∧ mW M1 = mW M) (hQ : ∀ v M, Q v M → mS M = z ∧ mW M = w) (hbs : bs.all (fun q => q.2.all nnI) = true) : ∀ (n pc : Nat) (ls st : List Value) (M : mm_M), XN L xs ac kd E rt bs Q n pc ls st M → mS M = z ∧ mW M = w := by
  intro n
  induction n with
  | zero => intro pc ls st M h; exact h.elim
  | succ n ih =>
    intro pc ls st M h
    unfold XN at h
    split at h
    · rename_i b hb
      exact bl_keep hE ih hQ _ _ _ _ _ (List.all_eq_true.mp hbs _ (lookup_mem hb)) h
    · exact h.elim
end
theorem Ev_keep {L : Nat} {xs : Nat → Int32} {EX : Nat → Nat → List Value → mm_M → Option Value → mm_M → Prop} : ∀ d j a M r M1, j < 290 → inj j = false → Ev L xs ac kd PP EX d j a M r M1 → mS M1 = mS M ∧ mW M1 = mW M := by
  intro d
  induction d with
  | zero => intro j a M r M1 _ _ h; exact h.elim
  | succ d ih =>
    intro j a M r M1 hj hi h
    have hP : PP j = some (ml j, rr j, PL j) := if_pos hj
    unfold Ev at h
    rw [hP] at h
    obtain ⟨-, n, h⟩ := h
    have := XN_keep ih (fun v M2 hv => by rw [hv.2]; exact ⟨rfl, rfl⟩) (nn_all j hj hi) n _ _ _ _ h
    exact ⟨this.1.symm, this.2.symm⟩
section
variable {G : GG} {d j : Nat} {a : List Value} {M : mm_M}
theorem CI_keep {P : Int32 → mm_M → Prop} (hj : j < 290) (hi : inj j = false) (h : CI G d j a M P) : CI G d j a M (fun v N => P v N ∧ mS N = mS M ∧ mW N = mW M) := by
  obtain ⟨v, N, hc, hp⟩ := h
  exact ⟨v, N, hc, hp, Ev_keep d j a M _ N hj hi hc⟩
end
