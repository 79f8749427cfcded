/-! morning: the class reads -/
noncomputable def maP (tp : List Nat) (nm : NMT) : Nat → Nat → LN → Nat × LN
  | 0, _, ln => (0, ln)
  | n + 1, j, ln => if soF tp j = 0 then (0, ln) else if (mlP tp nm j ln).1 ≠ 0 then ((mlP tp nm j ln).1, ln) else if sgB tp 59 (mlP tp nm j ln).2.1 = true then maP tp nm n ((mlP tp nm j ln).2.1 + 1) (mlP tp nm j ln).2.2 else (flt tp 1 (mlP tp nm j ln).2.1, ln)
section
variable {G : GG} {d : Nat} {P : Int32 → mm_M → Prop} {Pv : mm_M → Prop} {Q : Option Value → mm_M → Prop} {r : Nat → Nat} {I : Nat → Nat → Int32} {J : Nat → Nat → Int64} {π : PLN} {σ : Nat → Nat → Nat} {tp : List Nat} {y i j j' n f N : Nat} {nm : NMT} {ln ln' : LN} {I' I2 : Nat → Nat → Int32} {J' J2 : Nat → Nat → Int64}
theorem naP_b {b : Bool} {no : Nat} (hl : tp.length ≤ 1000) : naP tp nm b no i < 2 ^ 20 := by
  unfold naP
  repeat' split
  all_goals first | exact (flt_b hl (by decide) (by decide)).2 | decide
theorem naP_0 {b : Bool} {no : Nat} (hl : tp.length ≤ 1000) (z : naP tp nm b no i = 0) : soF tp i = 1 ∧ idF b nm (rkF tp i) ≠ 0 ∧ idF b nm (rkF tp i) ≠ no := by
  have h1 := (flt_b hl (j := i) (k := 1) (by decide) (by decide)).1
  have h2 := (flt_b hl (j := i) (k := 2) (by decide) (by decide)).1
  have h3 := (flt_b hl (j := i) (k := 3) (by decide) (by decide)).1
  unfold naP at z
  by_cases q : nmB tp i = false
  · rw [if_pos q] at z; omega
  rw [if_neg q] at z
  by_cases q2 : idF b nm (rkF tp i) = 0
  · rw [if_pos q2] at z; omega
  rw [if_neg q2] at z
  by_cases q3 : idF b nm (rkF tp i) = no
  · rw [if_pos q3] at z; omega
  exact ⟨nmB_1 (by simpa using q), q2, q3⟩
theorem mlP_b (hl : tp.length ≤ 1000) : (mlP tp nm j ln).1 < 2 ^ 20 := by
  unfold mlP
  repeat' split
  all_goals first | exact (flt_b hl (by decide) (by decide)).2 | exact naP_b hl | (show (0 : Nat) < 2 ^ 20; decide)
theorem WL.add {x : Nat × Nat × Nat} (h : WL π ln) (hl : ln.length < 40) (hx : x.1 ≤ 4 ∧ (x.1 = 0 → x.2.1 < nP π ∧ x.2.2 < nT π) ∧ (x.1 = 1 → x.2.1 < nP π ∧ x.2.2 < nP π ∧ x.2.1 ≠ x.2.2) ∧ (x.1 = 2 → x.2.1 < nT π ∧ x.2.2 < nT π) ∧ (x.1 = 3 → x.2.1 < nT π)) : WL π (ln ++ [x]) := by
  refine ⟨by rw [List.length_append]; show ln.length + 1 ≤ 40; omega, fun i hi => ?_⟩
  rcases ap_ln hi with ⟨hk, e1, e2, e3⟩ | ⟨hk, e1, e2, e3⟩
  · rw [e1, e2, e3]; exact h.2 i hk
  · rw [e1, e2, e3]; exact hx
theorem mlP_ok (hl : tp.length ≤ 1000) (hL : LV tp j) (hw : WN π nm) (hT : nT π ≤ 6) (hP : nP π ≤ 6) (hW : WL π ln) (h : mlP tp nm j ln = (0, j', ln')) : WL π ln' ∧ LV tp j' ∧ j ≤ j' := by
  have hb : ∀ {k i : Nat}, 1 ≤ k → k ≤ 5 → 0 < flt tp k i := fun h1 h2 => (flt_b hl h1 h2).1
  have iT : ∀ {w}, idF false nm w ≤ nT π := fun {w} => id_b (b := false) hw hT hP
  have iP : ∀ {w}, idF true nm w ≤ nP π := fun {w} => id_b (b := true) hw hT hP
  unfold mlP at h
  by_cases q1 : ¬ (10 ≤ wiF tp j ∧ wiF tp j ≤ 14)
  · rw [if_pos q1] at h; have := (Prod.mk.inj h).1; have := hb (k := 1) (i := j) (by decide) (by decide); omega
  rw [if_neg q1] at h
  have q1 := Decidable.not_not.mp q1
  have hL1 := hL.s (wi_0 (show wiF tp j ≠ 0 by omega))
  by_cases q2 : 40 ≤ ln.length
  · rw [if_pos q2] at h; have := (Prod.mk.inj h).1; have := hb (k := 5) (i := j) (by decide) (by decide); omega
  rw [if_neg q2] at h
  by_cases q14 : wiF tp j = 14
  · rw [if_pos q14] at h
    cases h
    exact ⟨hW.add (by omega) (by refine ⟨by decide, ?_, ?_, ?_, ?_⟩ <;> intro z <;> exact absurd z (by decide)), hL1, by omega⟩
  rw [if_neg q14] at h
  by_cases z1 : naP tp nm (decide (wiF tp j ≤ 11)) 0 (j + 1) ≠ 0
  · rw [if_pos z1] at h; exact absurd (Prod.mk.inj h).1 z1
  rw [if_neg z1] at h
  have a1 := naP_0 hl (Decidable.not_not.mp z1)
  have hL2 := hL1.s (show soF tp (j + 1) ≠ 0 by omega)
  by_cases q13 : wiF tp j = 13
  · rw [if_pos q13] at h
    cases h
    have e : decide (wiF tp j ≤ 11) = false := decide_eq_false (by omega)
    rw [e] at a1
    have := iT (w := rkF tp (j + 1))
    exact ⟨hW.add (by omega) ⟨by show 3 ≤ 4; decide, fun z => absurd (show (3 : Nat) = 0 from z) (by decide), fun z => absurd (show (3 : Nat) = 1 from z) (by decide), fun z => absurd (show (3 : Nat) = 2 from z) (by decide), fun _ => by show idF false nm _ - 1 < nT π; omega⟩, hL2, by omega⟩
  rw [if_neg q13] at h
  by_cases z2 : naP tp nm (decide (wiF tp j = 11)) (if wiF tp j = 10 then 0 else idF (decide (wiF tp j ≤ 11)) nm (rkF tp (j + 1))) (j + 2) ≠ 0
  · rw [if_pos z2] at h; exact absurd (Prod.mk.inj h).1 z2
  rw [if_neg z2] at h
  have a2 := naP_0 hl (Decidable.not_not.mp z2)
  have hL3 := hL2.s (show soF tp (j + 2) ≠ 0 by omega)
  cases h
  refine ⟨hW.add (by omega) ⟨by show wiF tp j - 10 ≤ 4; omega, fun z => ?_, fun z => ?_, fun z => ?_, fun z => ?_⟩, hL3, by omega⟩
  · have z : wiF tp j = 10 := by have z : wiF tp j - 10 = 0 := z; omega
    rw [z] at a1 a2 ⊢
    have := iP (w := rkF tp (j + 1)); have := iT (w := rkF tp (j + 2))
    have b1 : idF true nm (rkF tp (j + 1)) ≠ 0 := a1.2.1
    have b2 : idF false nm (rkF tp (j + 2)) ≠ 0 := a2.2.1
    show idF true nm _ - 1 < nP π ∧ idF false nm _ - 1 < nT π
    omega
  · have z : wiF tp j = 11 := by have z : wiF tp j - 10 = 1 := z; omega
    rw [z] at a1 a2 ⊢
    have := iP (w := rkF tp (j + 1)); have := iP (w := rkF tp (j + 2))
    have b1 : idF true nm (rkF tp (j + 1)) ≠ 0 := a1.2.1
    have b2 : idF true nm (rkF tp (j + 2)) ≠ 0 ∧ idF true nm (rkF tp (j + 2)) ≠ idF true nm (rkF tp (j + 1)) := a2.2
    show idF true nm _ - 1 < nP π ∧ idF true nm _ - 1 < nP π ∧ idF true nm _ - 1 ≠ idF true nm _ - 1
    omega
  · have z : wiF tp j = 12 := by have z : wiF tp j - 10 = 2 := z; omega
    rw [z] at a1 a2 ⊢
    have := iT (w := rkF tp (j + 1)); have := iT (w := rkF tp (j + 2))
    have b1 : idF false nm (rkF tp (j + 1)) ≠ 0 := a1.2.1
    have b2 : idF false nm (rkF tp (j + 2)) ≠ 0 := a2.2.1
    show idF false nm _ - 1 < nT π ∧ idF false nm _ - 1 < nT π
    omega
  · exact absurd (show wiF tp j = 13 by have z : wiF tp j - 10 = 3 := z; omega) q13
end
