/-! lines of an orchard: what stays true -/
section
variable {tp : List Nat} {j j' y n : Nat} {s s' : OS} {π : PLN} {nm : NMT}
theorem WN.tree {w : List Nat} {k l a : Nat} (h : WN π nm) (hT : nT π < 6) (hP : nP π ≤ 6) (hlen : nm.length = nT π + nP π) (hw : wok w) (hn : ¬ NMD nm w) : WN (setT π k l a) (nm ++ [(w, nT π)]) := by
  obtain ⟨h1, h2, h3, h4, h5, h6⟩ := h
  refine ⟨by rw [List.length_append]; show nm.length + 1 ≤ 12; omega, fun i hi => ?_, fun t ht => ?_, fun p hp => ?_, fun i i' hi hi' e => ?_, fun i i' hi hi' e => ?_⟩
  · show wok _ ∧ (_ < nT π + 1 ∨ (20 ≤ _ ∧ _ < 20 + nP π))
    rcases ap_cs hi with ⟨hk, e1, e2⟩ | ⟨hk, e1, e2⟩
    · rw [e1, e2]
      have := h2 i hk
      exact ⟨this.1, by omega⟩
    · rw [e1, e2]
      exact ⟨hw, Or.inl (by omega)⟩
  · have ht : t < nT π + 1 := ht
    by_cases e : t = nT π
    · exact ⟨nm.length, by rw [List.length_append]; show nm.length < nm.length + 1; omega, by rw [ap_nN.2, e]⟩
    · obtain ⟨i, hi, ei⟩ := h3 t (by omega)
      exact ⟨i, by rw [List.length_append]; omega, by rw [(ap_nW hi).2, ei]⟩
  · obtain ⟨i, hi, ei⟩ := h4 p hp
    exact ⟨i, by rw [List.length_append]; omega, by rw [(ap_nW hi).2, ei]⟩
  · rcases ap_cs hi with ⟨hk, e1, e2⟩ | ⟨hk, e1, e2⟩ <;> rcases ap_cs hi' with ⟨hk', e1', e2'⟩ | ⟨hk', e1', e2'⟩
    · rw [e1, e1'] at e; exact h5 i i' hk hk' e
    · rw [e1, e1'] at e; exact absurd ⟨i, hk, e⟩ hn
    · rw [e1, e1'] at e; exact absurd ⟨i', hk', e.symm⟩ hn
    · omega
  · rcases ap_cs hi with ⟨hk, e1, e2⟩ | ⟨hk, e1, e2⟩ <;> rcases ap_cs hi' with ⟨hk', e1', e2'⟩ | ⟨hk', e1', e2'⟩
    · rw [e2, e2'] at e; exact h6 i i' hk hk' e
    · rw [e2, e2'] at e; have := (h2 i hk).2; omega
    · rw [e2, e2'] at e; have := (h2 i' hk').2; omega
    · omega
theorem WN.pers {w : List Nat} {k l : Nat} (h : WN π nm) (hT : nT π ≤ 6) (hP : nP π < 6) (hlen : nm.length = nT π + nP π) (hw : wok w) (hn : ¬ NMD nm w) : WN (setP π k l) (nm ++ [(w, 20 + nP π)]) := by
  obtain ⟨h1, h2, h3, h4, h5, h6⟩ := h
  refine ⟨by rw [List.length_append]; show nm.length + 1 ≤ 12; omega, fun i hi => ?_, fun t ht => ?_, fun p hp => ?_, fun i i' hi hi' e => ?_, fun i i' hi hi' e => ?_⟩
  · show wok _ ∧ (_ < nT π ∨ (20 ≤ _ ∧ _ < 20 + (nP π + 1)))
    rcases ap_cs hi with ⟨hk, e1, e2⟩ | ⟨hk, e1, e2⟩
    · rw [e1, e2]
      have := h2 i hk
      exact ⟨this.1, by omega⟩
    · rw [e1, e2]
      exact ⟨hw, Or.inr (by omega)⟩
  · obtain ⟨i, hi, ei⟩ := h3 t ht
    exact ⟨i, by rw [List.length_append]; omega, by rw [(ap_nW hi).2, ei]⟩
  · have hp : p < nP π + 1 := hp
    by_cases e : p = nP π
    · exact ⟨nm.length, by rw [List.length_append]; show nm.length < nm.length + 1; omega, by rw [ap_nN.2, e]⟩
    · obtain ⟨i, hi, ei⟩ := h4 p (by omega)
      exact ⟨i, by rw [List.length_append]; omega, by rw [(ap_nW hi).2, ei]⟩
  · rcases ap_cs hi with ⟨hk, e1, e2⟩ | ⟨hk, e1, e2⟩ <;> rcases ap_cs hi' with ⟨hk', e1', e2'⟩ | ⟨hk', e1', e2'⟩
    · rw [e1, e1'] at e; exact h5 i i' hk hk' e
    · rw [e1, e1'] at e; exact absurd ⟨i, hk, e⟩ hn
    · rw [e1, e1'] at e; exact absurd ⟨i', hk', e.symm⟩ hn
    · omega
  · rcases ap_cs hi with ⟨hk, e1, e2⟩ | ⟨hk, e1, e2⟩ <;> rcases ap_cs hi' with ⟨hk', e1', e2'⟩ | ⟨hk', e1', e2'⟩
    · rw [e2, e2'] at e; exact h6 i i' hk hk' e
    · rw [e2, e2'] at e; have := (h2 i hk).2; omega
    · rw [e2, e2'] at e; have := (h2 i' hk').2; omega
    · omega
theorem WP.tree {k l a : Nat} (h : WP π) (hT : nT π < 6) (hk : k < 4) (hl : l ≤ 30) (ha : a ≤ 20) : WP (setT π k l a) := by
  obtain ⟨h1, h2, h3, h4, h5, h6, h7, h8, h9, h10, h11⟩ := h
  refine ⟨by show nT π + 1 ≤ 6; omega, h2, h3, h4, h5, h6, fun i hi => ?_, h8, h9, h10, h11⟩
  have hi : i < nT π + 1 := hi
  rw [setT_5, setT_6, setT_7]
  by_cases e : i = nT π
  · rw [if_pos e, if_pos e, if_pos e]; exact ⟨hk, hl, ha⟩
  · rw [if_neg e, if_neg e, if_neg e]; exact h7 i (by omega)
theorem WP.pers {k l : Nat} (h : WP π) (hP : nP π < 6) (hk : k < 4) (hl : l ≤ 30) : WP (setP π k l) := by
  obtain ⟨h1, h2, h3, h4, h5, h6, h7, h8, h9, h10, h11⟩ := h
  refine ⟨h1, by show nP π + 1 ≤ 6; omega, h3, h4, h5, h6, h7, fun i hi => ?_, h9, h10, h11⟩
  have hi : i < nP π + 1 := hi
  rw [setP_9, setP_10]
  by_cases e : i = nP π
  · rw [if_pos e, if_pos e]; exact ⟨hk, hl⟩
  · rw [if_neg e, if_neg e]; exact h8 i (by omega)
theorem WP.yr {v : Nat} (h : WP π) (hy : y < 12) (hF : y ≤ nFr π) (hv : v ≤ 3) : WP (setY π y v) := by
  obtain ⟨h1, h2, h3, h4, h5, h6, h7, h8, h9, h10, h11⟩ := h
  refine ⟨h1, h2, h3, h4, h5, by show y + 1 ≤ 12; omega, h7, h8, fun i hi => ?_, h10, h11⟩
  have hi : i < y + 1 := hi
  have e12 : (setY π y v).1 12 i = if i = y then v else π.1 12 i := by simp [setY]
  rw [e12]
  by_cases e : i = y
  · rw [if_pos e]; exact hv
  · rw [if_neg e]; exact h9 i (by omega)
theorem WN.cg {π' : PLN} (h : WN π nm) (hT : nT π' = nT π) (hP : nP π' = nP π) : WN π' nm := by
  unfold WN; rw [hT, hP]; exact h
/-- what a line keeps -/
def LOK (tp : List Nat) (j j' : Nat) (s' : OS) : Prop := WO s' ∧ LV tp j' ∧ j ≤ j'
theorem trP_ok (hl : tp.length ≤ 1000) (hL : LV tp (j + 1)) (hW : WO s) (h : trP tp j s = (0, j', s')) : LOK tp j j' s' := by
  have hb : ∀ {k i : Nat}, 1 ≤ k → k ≤ 5 → 0 < flt tp k i := fun h1 h2 => (flt_b hl h1 h2).1
  have no : ∀ {f : Nat}, 0 < f → (f, j, s) = (0, j', s') → LOK tp j j' s' := fun hf e => by
    have := (Prod.mk.inj e).1; omega
  unfold trP at h
  by_cases q0 : 6 ≤ nT s.1
  · rw [if_pos q0] at h; exact no (hb (by decide) (by decide)) h
  rw [if_neg q0] at h
  by_cases q1 : nmB tp (j + 1) = false
  · rw [if_pos q1] at h; exact no (hb (by decide) (by decide)) h
  rw [if_neg q1] at h
  by_cases q2 : hasN s.2.1 (rkF tp (j + 1)) = true
  · rw [if_pos q2] at h; exact no (hb (by decide) (by decide)) h
  rw [if_neg q2] at h
  by_cases q3 : inW tp 14 4 (j + 2) = false
  · rw [if_pos q3] at h; exact no (hb (by decide) (by decide)) h
  rw [if_neg q3] at h
  by_cases q4 : wiF tp (j + 3) ≠ 2
  · rw [if_pos q4] at h; exact no (hb (by decide) (by decide)) h
  rw [if_neg q4] at h
  by_cases q5 : numP tp 0 30 (j + 4) ≠ 0
  · rw [if_pos q5] at h; exact no (by omega) h
  rw [if_neg q5] at h
  by_cases q6 : wiF tp (j + 5) ≠ 3
  · rw [if_pos q6] at h; exact no (hb (by decide) (by decide)) h
  rw [if_neg q6] at h
  by_cases q7 : numP tp 0 20 (j + 6) ≠ 0
  · rw [if_pos q7] at h; exact no (by omega) h
  rw [if_neg q7] at h
  cases h
  have hs1 : soF tp (j + 1) = 1 := nmB_1 (by simpa using q1)
  have i3 := inW_b (tp := tp) (i := j + 2) (fr := 14) (many := 4) (by simpa using q3)
  have n5 := num_s hl (Decidable.not_not.mp q5)
  have n7 := num_s hl (Decidable.not_not.mp q7)
  have hT := hW.t
  have hP := hW.p
  refine ⟨⟨hW.w.tree (by omega) (by omega) n5.2.2 n7.2.2, hW.nn.tree (by omega) hP hW.2.2.2.2 (rk_wok hs1) (fun z => q2 (hasN_t.mpr z)), hW.2.2.1, hW.2.2.2.1, ?_⟩, ?_, by omega⟩
  · rw [List.length_append, hW.2.2.2.2]
    show nT s.1 + nP s.1 + 1 = nT s.1 + 1 + nP s.1
    omega
  · exact ((((((hL.s (show soF tp (j + 1) ≠ 0 by omega)).s (wi_0 (show wiF tp (j + 2) ≠ 0 by omega))).s (wi_0 (by show wiF tp (j + 3) ≠ 0; omega))).s (by show soF tp (j + 4) ≠ 0; omega)).s (wi_0 (by show wiF tp (j + 5) ≠ 0; omega))).s (by show soF tp (j + 6) ≠ 0; omega))
theorem peP_ok (hl : tp.length ≤ 1000) (hL : LV tp (j + 1)) (hW : WO s) (h : peP tp j s = (0, j', s')) : LOK tp j j' s' := by
  have hb : ∀ {k i : Nat}, 1 ≤ k → k ≤ 5 → 0 < flt tp k i := fun h1 h2 => (flt_b hl h1 h2).1
  have no : ∀ {f : Nat}, 0 < f → (f, j, s) = (0, j', s') → LOK tp j j' s' := fun hf e => by
    have := (Prod.mk.inj e).1; omega
  unfold peP at h
  by_cases q0 : 6 ≤ nP s.1
  · rw [if_pos q0] at h; exact no (hb (by decide) (by decide)) h
  rw [if_neg q0] at h
  by_cases q1 : nmB tp (j + 1) = false
  · rw [if_pos q1] at h; exact no (hb (by decide) (by decide)) h
  rw [if_neg q1] at h
  by_cases q2 : hasN s.2.1 (rkF tp (j + 1)) = true
  · rw [if_pos q2] at h; exact no (hb (by decide) (by decide)) h
  rw [if_neg q2] at h
  by_cases q3 : inW tp 18 4 (j + 2) = false
  · rw [if_pos q3] at h; exact no (hb (by decide) (by decide)) h
  rw [if_neg q3] at h
  by_cases q4 : wiF tp (j + 3) ≠ 5
  · rw [if_pos q4] at h; exact no (hb (by decide) (by decide)) h
  rw [if_neg q4] at h
  by_cases q5 : numP tp 0 30 (j + 4) ≠ 0
  · rw [if_pos q5] at h; exact no (by omega) h
  rw [if_neg q5] at h
  cases h
  have hs1 : soF tp (j + 1) = 1 := nmB_1 (by simpa using q1)
  have i3 := inW_b (tp := tp) (i := j + 2) (fr := 18) (many := 4) (by simpa using q3)
  have n5 := num_s hl (Decidable.not_not.mp q5)
  have hT := hW.t
  have hP := hW.p
  refine ⟨⟨hW.w.pers (by omega) (by omega) n5.2.2, hW.nn.pers hT (by omega) hW.2.2.2.2 (rk_wok hs1) (fun z => q2 (hasN_t.mpr z)), hW.2.2.1, hW.2.2.2.1, ?_⟩, ?_, by omega⟩
  · rw [List.length_append, hW.2.2.2.2]
    show nT s.1 + nP s.1 + 1 = nT s.1 + (nP s.1 + 1)
    omega
  · exact ((((hL.s (show soF tp (j + 1) ≠ 0 by omega)).s (wi_0 (show wiF tp (j + 2) ≠ 0 by omega))).s (wi_0 (by show wiF tp (j + 3) ≠ 0; omega))).s (by show soF tp (j + 4) ≠ 0; omega))
theorem frP_ok (hl : tp.length ≤ 1000) : ∀ n y j π j' π', n + y = 12 → y ≤ nFr π → LV tp j → WP π → frP tp n y j π = (0, j', π') → WP π' ∧ LV tp j' ∧ j ≤ j' ∧ nT π' = nT π ∧ nP π' = nP π ∧ π'.2 = π.2 := by
  intro n
  induction n with
  | zero =>
    intro y j π j' π' _ _ _ _ h
    have hb4 := (flt_b hl (j := j) (k := 4) (by decide) (by decide)).1
    have hb5 := (flt_b hl (j := j) (k := 5) (by decide) (by decide)).1
    unfold frP at h
    have := (Prod.mk.inj h).1
    split at this <;> omega
  | succ n ih =>
    intro y j π j' π' hn hF hL hW h
    unfold frP at h
    by_cases q : numP tp 0 3 j ≠ 0
    · rw [if_pos q] at h; exact absurd (Prod.mk.inj h).1 q
    rw [if_neg q] at h
    have hs := num_s hl (Decidable.not_not.mp q)
    have hL1 := hL.s (show soF tp j ≠ 0 by omega)
    have hW1 := hW.yr (y := y) (v := nuF tp j) (by omega) hF hs.2.2
    by_cases q2 : soF tp (j + 1) = 2
    · rw [if_pos q2] at h
      obtain ⟨a1, a2, a3, a4, a5, a6⟩ := ih (y + 1) (j + 1) _ j' π' (by omega) (Nat.le_refl _) hL1 hW1 h
      exact ⟨a1, a2, by omega, a4, a5, a6⟩
    · rw [if_neg q2] at h
      cases h
      exact ⟨hW1, hL1, by omega, rfl, rfl, rfl⟩
theorem okS_0 : ¬ okS [] 0 := by unfold okS; decide
theorem okS_1 : okS [] 1 := by unfold okS; decide
theorem lnP_ok (hl : tp.length ≤ 1000) (hL : LV tp j) (hW : WO s) (h : lnP tp j s = (0, j', s')) : LOK tp j j' s' := by
  have hb : ∀ {k i : Nat}, 1 ≤ k → k ≤ 5 → 0 < flt tp k i := fun h1 h2 => (flt_b hl h1 h2).1
  have no : ∀ {f : Nat}, 0 < f → (f, j, s) = (0, j', s') → LOK tp j j' s' := fun hf e => by
    have := (Prod.mk.inj e).1; omega
  unfold lnP at h
  by_cases q0 : wiF tp j = 1
  · rw [if_pos q0] at h; exact trP_ok hl (hL.s (wi_0 (by omega))) hW h
  rw [if_neg q0] at h
  by_cases q1 : wiF tp j = 4
  · rw [if_pos q1] at h; exact peP_ok hl (hL.s (wi_0 (by omega))) hW h
  rw [if_neg q1] at h
  by_cases q2 : ¬ (6 ≤ wiF tp j ∧ wiF tp j ≤ 9)
  · rw [if_pos q2] at h; exact no (hb (by decide) (by decide)) h
  rw [if_neg q2] at h
  have q2 := Decidable.not_not.mp q2
  have hL1 := hL.s (wi_0 (show wiF tp j ≠ 0 by omega))
  obtain ⟨hw, hn, h16, h8, hlen⟩ := hW
  obtain ⟨-, o2⟩ := on_A h16 (show wiF tp j - 6 < 4 by omega)
  by_cases q3 : s.2.2 / 2 ^ (wiF tp j - 6) % 2 = 1
  · rw [if_pos q3] at h; exact no (hb (by decide) (by decide)) h
  rw [if_neg q3] at h
  obtain ⟨-, o16, o3, o4⟩ := o2 q3
  by_cases q6 : wiF tp j = 6
  · rw [if_pos q6] at h
    rw [q6] at o16 o4
    by_cases q : numP tp 0 5 (j + 1) ≠ 0
    · rw [if_pos q] at h; exact no (by omega) h
    rw [if_neg q] at h
    have hs := num_s hl (Decidable.not_not.mp q)
    cases h
    obtain ⟨h1, h2, h3, h4, h5, h6, h7, h8', h9, h10, h11⟩ := hw
    exact ⟨⟨⟨h1, h2, hs.2.2, h4, h5, h6, h7, h8', h9, h10, h11⟩, hn, o16, fun z => h8 (o4 (by decide) z), hlen⟩, hL1.s (by omega), by omega⟩
  rw [if_neg q6] at h
  by_cases q7 : wiF tp j = 7
  · rw [if_pos q7] at h
    rw [q7] at o16 o4
    by_cases q : numP tp 1 6 (j + 1) ≠ 0
    · rw [if_pos q] at h; exact no (by omega) h
    rw [if_neg q] at h
    have hs := num_s hl (Decidable.not_not.mp q)
    cases h
    obtain ⟨h1, h2, h3, h4, h5, h6, h7, h8', h9, h10, h11⟩ := hw
    exact ⟨⟨⟨h1, h2, h3, hs.2.1, hs.2.2, h6, h7, h8', h9, h10, h11⟩, hn, o16, fun z => h8 (o4 (by decide) z), hlen⟩, hL1.s (by omega), by omega⟩
  rw [if_neg q7] at h
  by_cases q8 : wiF tp j = 8
  · rw [if_pos q8] at h
    rw [q8] at o16 o4
    cases e : frP tp 12 0 (j + 1) s.1 with
    | mk a b =>
      obtain ⟨b, c⟩ := b
      rw [e] at h
      cases h
      obtain ⟨a1, a2, a3, a4, a5, a6⟩ := frP_ok hl 12 0 (j + 1) s.1 b c rfl (Nat.zero_le _) hL1 hw e
      exact ⟨⟨a1, hn.cg a4 a5, o16, fun z => a6.trans (h8 (o4 (by decide) z)), by show s.2.1.length = nT c + nP c; rw [a4, a5]; exact hlen⟩, a2, by show j ≤ b; omega⟩
  rw [if_neg q8] at h
  have q9 : wiF tp j = 9 := by omega
  rw [q9] at o16 o3
  obtain ⟨f, k, ψ, e⟩ := eP_some hl 5006 0 0 (j + 1) s.1.2 (by decide) (by decide) hL1 (by have : rkE 0 = 4 := rfl; omega)
  unfold eR at h
  rw [e] at h
  have hφ := h8 (o3 rfl)
  cases h
  obtain ⟨χ, a1, a2, a3, a4, a5, -⟩ := eP_ok 5006 0 0 (j + 1) s.1.2 j' ψ (by decide) (by decide) e
  have hLj := a4 hL1
  have hj := hLj.le hl
  have eψ : ψ = χ := by rw [a1, hφ]; rfl
  have ok := a5 rfl 0 [] (by decide) okS_1
  rw [List.append_nil] at ok
  obtain ⟨h1, h2, h3, h4, h5, h6, h7, h8', h9, h10, h11⟩ := hw
  exact ⟨⟨⟨h1, h2, h3, h4, h5, h6, h7, h8', h9, Or.inr (by rw [eψ]; exact ok), by show ψ.length ≤ 1000; rw [eψ]; omega⟩, hn, o16, fun z => absurd z (by show ¬ s.2.2 + 8 < 8; omega), hlen⟩, hLj, by omega⟩
end
