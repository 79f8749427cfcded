theorem cv_cat (b : Nat) (xa : Nat → Option Nat) (v : Value) : (cv b xa v).category = v.category := by
  have h : ∀ r : Option Nat, (va_rf r).category = 1 := fun r => by cases r <;> rfl
  cases v <;> first | rfl | exact h _
theorem pl_mem {b : Nat} {xa : Nat → Option Nat} {ls : List Value} {i : Nat} {w : Value} : (i, w) ∈ pl b xa ls ↔ ∃ v, ls[i]? = some v ∧ v ≠ jk ∧ w = cv b xa v := by
  unfold pl
  rw [List.mem_filterMap]
  constructor
  · rintro ⟨k, -, hk⟩
    split at hk
    · rename_i v hv
      split at hk
      · cases hk
      · rename_i hj
        cases hk
        exact ⟨v, hv, hj, rfl⟩
    · cases hk
  · rintro ⟨v, hv, hj, rfl⟩
    refine ⟨i, List.mem_range.mpr (List.getElem?_eq_some_iff.mp hv).1, ?_⟩
    rw [hv]
    show (if v = jk then none else some (i, cv b xa v)) = _
    rw [if_neg hj]
theorem pre_len (ls : List Value) (i : Nat) : (pre ls i).length = ls.length := by
  unfold pre
  split
  · rfl
  · split <;> simp
theorem pre_get {ls : List Value} {i k : Nat} {w : Value} (h : (pre ls i)[k]? = some w) (hw : w ≠ jk) : ls[k]? = some w ∧ ¬ (k + 1 = i ∧ w.category = 2) := by
  unfold pre at h
  split at h
  · exact ⟨h, fun z => by omega⟩
  · rename_i n
    split at h
    · rename_i x hx
      by_cases hk : n = k
      · subst hk
        rw [List.getElem?_set_self (List.getElem?_eq_some_iff.mp hx).1] at h
        exact absurd (Option.some.inj h).symm hw
      · rw [List.getElem?_set_ne hk] at h
        exact ⟨h, fun z => hk (by omega)⟩
    · rename_i x hx
      by_cases hk : n = k
      · subst hk
        rw [List.getElem?_set_self (List.getElem?_eq_some_iff.mp hx).1] at h
        exact absurd (Option.some.inj h).symm hw
      · rw [List.getElem?_set_ne hk] at h
        exact ⟨h, fun z => hk (by omega)⟩
    · rename_i h1 h2
      refine ⟨h, fun z => ?_⟩
      have hk : k = n := by omega
      subst hk
      cases w <;> first | (exact absurd h (h1 _)) | (exact absurd h (h2 _)) | (exact absurd z.2 (by simp [Value.category]))
theorem st1_len (ls : List Value) (i : Nat) (v : Value) : (st1 ls i v).length = ls.length := by
  unfold st1; rw [List.length_set, pre_len]
theorem st2_len (ls : List Value) (i : Nat) (v : Value) : (st2 ls i v).length = ls.length := by
  unfold st2; rw [List.length_set, List.length_set, pre_len]
theorem st1_has {b : Nat} {xa : Nat → Option Nat} {ls : List Value} {i : Nat} {v : Value} {rl : Array Slot} (h : lv_has rl ls.length ((i, cv b xa v) :: (pl b xa ls).filter (fun q => !(q.1 == i) && !(q.1 + 1 == i && q.2.category == 2)))) : lv_has rl (st1 ls i v).length (pl b xa (st1 ls i v)) := by
  refine ⟨by rw [st1_len]; exact h.1, h.2.1, fun q hq => ?_⟩
  obtain ⟨k, w'⟩ := q
  obtain ⟨w, hw, hj, rfl⟩ := pl_mem.mp hq
  apply h.2.2
  unfold st1 at hw
  by_cases hk : i = k
  · subst hk
    by_cases hl : i < (pre ls i).length
    · rw [List.getElem?_set_self hl] at hw
      rw [← Option.some.inj hw]
      exact List.mem_cons_self
    · rw [List.getElem?_eq_none (by rw [List.length_set]; omega)] at hw
      cases hw
  · rw [List.getElem?_set_ne hk] at hw
    obtain ⟨h1, h2⟩ := pre_get hw hj
    refine List.mem_cons_of_mem _ (List.mem_filter.mpr ⟨pl_mem.mpr ⟨w, h1, hj, rfl⟩, ?_⟩)
    have e1 : (k == i) = false := by simp; omega
    have e2 : (k + 1 == i && (cv b xa w).category == 2) = false := by
      rw [cv_cat]
      by_cases z : k + 1 = i
      · have : ¬ w.category = 2 := fun y => h2 ⟨z, y⟩
        simp [this]
      · simp [z]
    simp only [e1, e2]
    rfl
theorem st2_has {b : Nat} {xa : Nat → Option Nat} {ls : List Value} {i : Nat} {v : Value} {rl : Array Slot} (h : lv_has rl ls.length ((i, cv b xa v) :: (pl b xa ls).filter (fun q => !(q.1 == i) && (!(q.1 == i + 1) && !(q.1 + 1 == i && q.2.category == 2))))) : lv_has rl (st2 ls i v).length (pl b xa (st2 ls i v)) := by
  refine ⟨by rw [st2_len]; exact h.1, h.2.1, fun q hq => ?_⟩
  obtain ⟨k, w'⟩ := q
  obtain ⟨w, hw, hj, rfl⟩ := pl_mem.mp hq
  apply h.2.2
  unfold st2 at hw
  by_cases hk2 : i + 1 = k
  · subst hk2
    by_cases hl : i + 1 < ((pre ls i).set i v).length
    · rw [List.getElem?_set_self hl] at hw
      exact absurd (Option.some.inj hw).symm hj
    · rw [List.getElem?_eq_none (by rw [List.length_set]; omega)] at hw
      cases hw
  · rw [List.getElem?_set_ne hk2] at hw
    by_cases hk : i = k
    · subst hk
      by_cases hl : i < (pre ls i).length
      · rw [List.getElem?_set_self hl] at hw
        rw [← Option.some.inj hw]
        exact List.mem_cons_self
      · rw [List.getElem?_eq_none (by rw [List.length_set]; omega)] at hw
        cases hw
    · rw [List.getElem?_set_ne hk] at hw
      obtain ⟨h1, h2⟩ := pre_get hw hj
      refine List.mem_cons_of_mem _ (List.mem_filter.mpr ⟨pl_mem.mpr ⟨w, h1, hj, rfl⟩, ?_⟩)
      have e1 : (k == i) = false := by simp; omega
      have e3 : (k == i + 1) = false := by simp; omega
      have e2 : (k + 1 == i && (cv b xa w).category == 2) = false := by
        rw [cv_cat]
        by_cases z : k + 1 = i
        · have : ¬ w.category = 2 := fun y => h2 ⟨z, y⟩
          simp [this]
        · simp [z]
      simp only [e1, e2, e3]
      rfl
theorem pl_at {b : Nat} {xa : Nat → Option Nat} {ls : List Value} {rl : Array Slot} {n i : Nat} {v : Value} (h : lv_has rl n (pl b xa ls)) (hv : ls[i]? = some v) (hj : v ≠ jk) : rl[i]? = some (.val (cv b xa v)) := h.2.2 (i, cv b xa v) (pl_mem.mpr ⟨v, hv, hj, rfl⟩)
