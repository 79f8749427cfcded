/-! lines of an orchard -/
def setT (π : PLN) (k l a : Nat) : PLN := (fun x i => if x = 0 then nT π + 1 else if x = 5 ∧ i = nT π then k else if x = 6 ∧ i = nT π then l else if x = 7 ∧ i = nT π then a else π.1 x i, π.2)
def setP (π : PLN) (k l : Nat) : PLN := (fun x i => if x = 1 then nP π + 1 else if x = 9 ∧ i = nP π then k else if x = 10 ∧ i = nP π then l else π.1 x i, π.2)
theorem setT_5 {π : PLN} {k l a i : Nat} : (setT π k l a).1 5 i = if i = nT π then k else π.1 5 i := by simp [setT]
theorem setT_6 {π : PLN} {k l a i : Nat} : (setT π k l a).1 6 i = if i = nT π then l else π.1 6 i := by simp [setT]
theorem setT_7 {π : PLN} {k l a i : Nat} : (setT π k l a).1 7 i = if i = nT π then a else π.1 7 i := by simp [setT]
theorem setP_9 {π : PLN} {k l i : Nat} : (setP π k l).1 9 i = if i = nP π then k else π.1 9 i := by simp [setP]
theorem setP_10 {π : PLN} {k l i : Nat} : (setP π k l).1 10 i = if i = nP π then l else π.1 10 i := by simp [setP]
def set1 (π : PLN) (x0 v : Nat) : PLN := (fun x i => if x = x0 then v else π.1 x i, π.2)
def setY (π : PLN) (y v : Nat) : PLN := (fun x i => if x = 4 then y + 1 else if x = 12 ∧ i = y then v else π.1 x i, π.2)
noncomputable def hasN (nm : NMT) (w : List Nat) : Bool := @decide (NMD nm w) (Classical.propDecidable _)
theorem hasN_t {nm : NMT} {w : List Nat} : hasN nm w = true ↔ NMD nm w := @decide_eq_true_iff _ (Classical.propDecidable _)
noncomputable def trP (tp : List Nat) (j : Nat) (s : OS) : Nat × Nat × OS :=
  if 6 ≤ nT s.1 then (flt tp 5 j, j, s)
  else if nmB tp (j + 1) = false then (flt tp 1 (j + 1), j, s)
  else if hasN s.2.1 (rkF tp (j + 1)) = true then (flt tp 3 (j + 1), j, s)
  else if inW tp 14 4 (j + 2) = false then (flt tp 1 (j + 2), j, s)
  else if wiF tp (j + 3) ≠ 2 then (flt tp 1 (j + 3), j, s)
  else if numP tp 0 30 (j + 4) ≠ 0 then (numP tp 0 30 (j + 4), j, s)
  else if wiF tp (j + 5) ≠ 3 then (flt tp 1 (j + 5), j, s)
  else if numP tp 0 20 (j + 6) ≠ 0 then (numP tp 0 20 (j + 6), j, s)
  else (0, j + 7, setT s.1 (wiF tp (j + 2) - 15) (nuF tp (j + 4)) (nuF tp (j + 6)), s.2.1 ++ [(rkF tp (j + 1), nT s.1)], s.2.2)
noncomputable def peP (tp : List Nat) (j : Nat) (s : OS) : Nat × Nat × OS :=
  if 6 ≤ nP s.1 then (flt tp 5 j, j, s)
  else if nmB tp (j + 1) = false then (flt tp 1 (j + 1), j, s)
  else if hasN s.2.1 (rkF tp (j + 1)) = true then (flt tp 3 (j + 1), j, s)
  else if inW tp 18 4 (j + 2) = false then (flt tp 1 (j + 2), j, s)
  else if wiF tp (j + 3) ≠ 5 then (flt tp 1 (j + 3), j, s)
  else if numP tp 0 30 (j + 4) ≠ 0 then (numP tp 0 30 (j + 4), j, s)
  else (0, j + 5, setP s.1 (wiF tp (j + 2) - 19) (nuF tp (j + 4)), s.2.1 ++ [(rkF tp (j + 1), 20 + nP s.1)], s.2.2)
def frP (tp : List Nat) : Nat → Nat → Nat → PLN → Nat × Nat × PLN
  | 0, _, j, π => (if 3 < nuF tp j then flt tp 4 j else flt tp 5 j, j, π)
  | n + 1, y, j, π => if numP tp 0 3 j ≠ 0 then (numP tp 0 3 j, j, π) else if soF tp (j + 1) = 2 then frP tp n (y + 1) (j + 1) (setY π y (nuF tp j)) else (0, j + 1, setY π y (nuF tp j))
def CPO (I : Nat → Nat → Int32) (J : Nat → Nat → Int64) (s : OS) : Prop := CP (fun a => I (a + 17)) s.1 ∧ NA (fun a => J (a + 17)) s.2.1 ∧ I 20 1 = nI (4 * s.2.2)
def WO (s : OS) : Prop := WP s.1 ∧ WN s.1 s.2.1 ∧ s.2.2 < 16 ∧ (s.2.2 < 8 → s.1.2 = []) ∧ s.2.1.length = nT s.1 + nP s.1
def HO (P : Int32 → mm_M → Prop) (r : Nat → Nat) (I : Nat → Nat → Int32) (J : Nat → Nat → Int64) (tp : List Nat) (x : Nat × Nat × OS) : Prop := (x.1 = 0 → ∀ I' J', Fcr I I' J J' → CRD I' J' tp x.2.1 → CPO I' J' x.2.2 → P 1 (mem r I' J')) ∧ (x.1 ≠ 0 → ∀ I' J', Fcr I I' J J' → I' 2 4 = nI x.1 → P 0 (mem r I' J'))
section
variable {G : GG} {d : Nat} {P : Int32 → mm_M → Prop} {Pv : mm_M → Prop} {Q : Option Value → mm_M → Prop} {r : Nat → Nat} {I : Nat → Nat → Int32} {J : Nat → Nat → Int64} {π : PLN} {σ : Nat → Nat → Nat} {tp : List Nat} {y i j n f : Nat} {nm : NMT} {s : OS} {I' I2 : Nat → Nat → Int32} {J' J2 : Nat → Nat → Int64}
theorem CPO.fr (h : CPO I J s) (hi : ∀ a, 20 ≤ a → a ≤ 31 → I' a = I a) (h25 : J' 25 = J 25) (h28 : J' 28 = J 28) : CPO I' J' s := by
  obtain ⟨⟨c1, c2, c3, c4, c5, c6⟩, hn, ho⟩ := h
  have e : ∀ a, 3 ≤ a → a ≤ 14 → I' (a + 17) = I (a + 17) := fun a h1 h2 => hi _ (by omega) (by omega)
  refine ⟨⟨fun k hk => ?_, fun i hi' => ?_, fun i hi' => ?_, fun i hi' => ?_, ?_, fun i hi' => ?_⟩, fun i hi' => ?_, ?_⟩
  · show I' (4 + 17) k = _; rw [e 4 (by decide) (by decide)]; exact c1 k hk
  · show I' (5 + 17) i = _ ∧ I' (6 + 17) i = _ ∧ I' (7 + 17) i = _; rw [e 5 (by decide) (by decide), e 6 (by decide) (by decide), e 7 (by decide) (by decide)]; exact c2 i hi'
  · show I' (9 + 17) i = _ ∧ I' (10 + 17) i = _; rw [e 9 (by decide) (by decide), e 10 (by decide) (by decide)]; exact c3 i hi'
  · show I' (12 + 17) i = _; rw [e 12 (by decide) (by decide)]; exact c4 i hi'
  · show I' (13 + 17) 2 = _; rw [e 13 (by decide) (by decide)]; exact c5
  · show I' (14 + 17) i = _; rw [e 14 (by decide) (by decide)]; exact c6 i hi'
  · have := hn i hi'
    show (_ → J' 25 _ = _) ∧ (_ → J' 28 _ = _)
    rw [h25, h28]; exact this
  · rw [hi 20 (by decide) (by decide)]; exact ho
theorem CPO.cl (h : CPO I J s) (hf : Fcl I I' J J') : CPO I' J' s := h.fr (fun a h1 _ => hf.1 a (by omega)) (hf.2.2.2 25 (by decide)) (hf.2.2.2 28 (by decide))
theorem CPO.t (h : CPO I J s) : I 21 0 = nI (nT s.1) := h.1.1 0 (by decide)
theorem CPO.p (h : CPO I J s) : I 21 1 = nI (nP s.1) := h.1.1 1 (by decide)
theorem WO.w (h : WO s) : WP s.1 := h.1
theorem WO.nn (h : WO s) : WN s.1 s.2.1 := h.2.1
theorem WO.t (h : WO s) : nT s.1 ≤ 6 := h.1.1
theorem WO.p (h : WO s) : nP s.1 ≤ 6 := h.1.2.1
theorem HO.fl {x : Nat × Nat × OS} {k : Nat} (h : HO P r I J tp x) (e : x.1 = k) (h0 : 0 < k) (hf : Fcr I I' J J') (h4 : I' 2 4 = nI k) : P 0 (mem r I' J') := h.2 (by omega) I' J' hf (by rw [e]; exact h4)
theorem nmB_1 (h : nmB tp i = true) : soF tp i = 1 := by
  unfold nmB at h
  simp only [Bool.and_eq_true, beq_iff_eq] at h
  exact h.1
theorem n31 (hc : CRD I J tp i) (hp : CPO I J s) (hW : WO s) (hy : nmB tp i = true → ¬ NMD s.2.1 (rkF tp i) → P 1 (mem r I J)) (hn : nmB tp i = false → ∀ I', Fcr I I' J J → I' 2 4 = nI (flt tp 1 i) → P 0 (mem r I' J)) (h3 : nmB tp i = true → NMD s.2.1 (rkF tp i) → ∀ I', Fcr I I' J J → I' 2 4 = nI (flt tp 3 i) → P 0 (mem r I' J)) : CI G (d + 8) 31 [.ref 20, .ref 2] (mem r I J) P := by
  refine e31 ⟨rfl, n99 hc ?_⟩
  cases q : nmB tp i with
  | false => exact ifn (fun z => z rfl) ⟨rfl, n98 (k := 1) hc ⟨Or.inl rfl, hn q _ Fcr.flt u2s⟩⟩
  | true =>
    have hs := nmB_1 q
    have hwo := rk_wok hs
    refine ifp (by decide) ?_
    simp only [mKm, mNm, mIm, mIf, mJm, mJf, mRm, sIm, sJm, rwIm, rwJm, kN, nN, rN, true_and, hc.w hs]
    have hna : NA (fun x => J (x + (21 - 4))) s.2.1 := hp.2.1
    refine n51 (Or.inr rfl) hp.t hna hW.nn hW.t hwo (fun k hk e hc20 => ?_) (fun hno => ?_)
    · exact ifp (nI_nm (by omega)) ⟨rfl, n98 (k := 3) hc ⟨Or.inl rfl, h3 q ⟨k, hk, e⟩ _ Fcr.flt u2s⟩⟩
    · refine ifn (fun z => z rfl) ?_
      simp only [mKm, mNm, mIm, mIf, mJm, mJf, mRm, sIm, sJm, rwIm, rwJm, kN, nN, rN, true_and, hc.w hs]
      refine n52 (Or.inr rfl) hp.p hna hW.nn hW.t hW.p hwo (fun k hk e hc20 => ?_) (fun hno2 => ?_)
      · have hb := (hW.nn.2.1 k hk).2
        have := hW.t
        have := hW.p
        exact ifn (nI_nm (by omega)) ⟨rfl, n98 (k := 3) hc ⟨Or.inl rfl, h3 q ⟨k, hk, e⟩ _ Fcr.flt u2s⟩⟩
      · refine ifp rfl (hy q (fun ⟨k, hk, e⟩ => ?_))
        have := hno k hk e
        have := hno2 k hk e
        omega
theorem ap_nW {w : List Nat} {c k : Nat} (hk : k < nm.length) : nW (nm ++ [(w, c)]) k = nW nm k ∧ nC (nm ++ [(w, c)]) k = nC nm k := by
  unfold nW nC
  rw [List.getD_eq_getElem?_getD, List.getD_eq_getElem?_getD, List.getElem?_append_left hk]
  exact ⟨rfl, rfl⟩
theorem ap_nN {w : List Nat} {c : Nat} : nW (nm ++ [(w, c)]) nm.length = w ∧ nC (nm ++ [(w, c)]) nm.length = c := by
  unfold nW nC
  rw [List.getD_eq_getElem?_getD, List.getElem?_append_right (Nat.le_refl _), Nat.sub_self]
  exact ⟨rfl, rfl⟩
theorem ap_cs {w : List Nat} {c k : Nat} (hk : k < (nm ++ [(w, c)]).length) : (k < nm.length ∧ nW (nm ++ [(w, c)]) k = nW nm k ∧ nC (nm ++ [(w, c)]) k = nC nm k) ∨ (k = nm.length ∧ nW (nm ++ [(w, c)]) k = w ∧ nC (nm ++ [(w, c)]) k = c) := by
  rw [List.length_append] at hk
  have hk : k < nm.length + 1 := hk
  by_cases e : k = nm.length
  · subst e; exact Or.inr ⟨rfl, ap_nN⟩
  · exact Or.inl ⟨by omega, ap_nW (by omega)⟩
theorem CPO.tree {k l a : Nat} {w : List Nat} (h : CPO I J s) (hW : WO s) (h21 : I' 21 0 = nI (nT s.1 + 1)) (h21' : ∀ x, 1 ≤ x → I' 21 x = I 21 x) (h22 : I' 22 = u2 I 22 (nT s.1) (nI k) 22) (h23 : I' 23 = u2 I 23 (nT s.1) (nI l) 23) (h24 : I' 24 = u2 I 24 (nT s.1) (nI a) 24) (ho : ∀ x, (x = 20 ∨ 25 ≤ x) → x ≤ 31 → I' x = I x) (h25 : J' 25 = u2 J 25 (nT s.1) (lN (eB 32 w)) 25) (h28 : J' 28 = J 28) : CPO I' J' (setT s.1 k l a, s.2.1 ++ [(w, nT s.1)], s.2.2) := by
  have hT := hW.t
  obtain ⟨⟨c1, c2, c3, c4, c5, c6⟩, hn, hoo⟩ := h
  refine ⟨⟨fun x hx => ?_, fun i hi => ?_, fun i hi => ?_, fun i hi => ?_, ?_, fun i hi => ?_⟩, fun i hi => ?_, ?_⟩
  · show I' 21 x = nI (if x = 0 then nT s.1 + 1 else if x = 5 ∧ _ then k else if x = 6 ∧ _ then l else if x = 7 ∧ _ then a else s.1.1 x 0)
    by_cases e : x = 0
    · rw [if_pos e, e]; exact h21
    · rw [if_neg e, if_neg (by omega), if_neg (by omega), if_neg (by omega), h21' x (by omega)]; exact c1 x hx
  · have hi : i < nT s.1 + 1 := hi
    show I' 22 i = nI ((setT s.1 k l a).1 5 i) ∧ I' 23 i = nI ((setT s.1 k l a).1 6 i) ∧ I' 24 i = nI ((setT s.1 k l a).1 7 i)
    rw [setT_5, setT_6, setT_7]
    rw [h22, h23, h24]
    by_cases e : i = nT s.1
    · subst e
      rw [u2s, u2s, u2s, if_pos rfl, if_pos rfl, if_pos rfl]
      exact ⟨rfl, rfl, rfl⟩
    · rw [u2i e, u2i e, u2i e]
      rw [if_neg e, if_neg e, if_neg e]
      exact c2 i (by omega)
  · show I' 26 i = _ ∧ I' 27 i = _
    rw [ho 26 (by omega) (by omega), ho 27 (by omega) (by omega)]
    exact c3 i hi
  · show I' 29 i = _
    rw [ho 29 (by omega) (by omega)]
    exact c4 i hi
  · show I' 30 2 = _
    rw [ho 30 (by omega) (by omega)]
    exact c5
  · show I' 31 i = _
    rw [ho 31 (by omega) (by omega)]
    exact c6 i hi
  · show (nC (s.2.1 ++ [(w, nT s.1)]) i < 20 → J' 25 (nC (s.2.1 ++ [(w, nT s.1)]) i) = lN (eB 32 (nW (s.2.1 ++ [(w, nT s.1)]) i))) ∧ (20 ≤ nC (s.2.1 ++ [(w, nT s.1)]) i → J' 28 (nC (s.2.1 ++ [(w, nT s.1)]) i - 20) = lN (eB 32 (nW (s.2.1 ++ [(w, nT s.1)]) i)))
    rw [h25, h28]
    rcases ap_cs hi with ⟨hk, e1, e2⟩ | ⟨hk, e1, e2⟩
    · rw [e1, e2]
      have := hn i hk
      have hb := (hW.nn.2.1 i hk).2
      refine ⟨fun z => ?_, this.2⟩
      rw [u2i (by omega)]
      exact this.1 z
    · rw [e1, e2]
      exact ⟨fun _ => u2s, fun z => by omega⟩
  · show I' 20 1 = _
    rw [ho 20 (by omega) (by omega)]
    exact hoo
theorem CPO.pers {k l : Nat} {w : List Nat} (h : CPO I J s) (hW : WO s) (h21 : I' 21 1 = nI (nP s.1 + 1)) (h21' : ∀ x, x ≠ 1 → I' 21 x = I 21 x) (h26 : I' 26 = u2 I 26 (nP s.1) (nI k) 26) (h27 : I' 27 = u2 I 27 (nP s.1) (nI l) 27) (ho : ∀ x, (20 ≤ x ∧ x ≤ 25 ∧ x ≠ 21) ∨ 28 ≤ x → x ≤ 31 → I' x = I x) (h28 : J' 28 = u2 J 28 (nP s.1) (lN (eB 32 w)) 28) (h25 : J' 25 = J 25) : CPO I' J' (setP s.1 k l, s.2.1 ++ [(w, 20 + nP s.1)], s.2.2) := by
  have hT := hW.t
  have hP := hW.p
  obtain ⟨⟨c1, c2, c3, c4, c5, c6⟩, hn, hoo⟩ := h
  refine ⟨⟨fun x hx => ?_, fun i hi => ?_, fun i hi => ?_, fun i hi => ?_, ?_, fun i hi => ?_⟩, fun i hi => ?_, ?_⟩
  · show I' 21 x = nI (if x = 1 then nP s.1 + 1 else if x = 9 ∧ _ then k else if x = 10 ∧ _ then l else s.1.1 x 0)
    by_cases e : x = 1
    · rw [if_pos e, e]; exact h21
    · rw [if_neg e, if_neg (by omega), if_neg (by omega), h21' x e]; exact c1 x hx
  · show I' 22 i = _ ∧ I' 23 i = _ ∧ I' 24 i = _
    rw [ho 22 (by omega) (by omega), ho 23 (by omega) (by omega), ho 24 (by omega) (by omega)]
    exact c2 i hi
  · have hi : i < nP s.1 + 1 := hi
    show I' 26 i = nI ((setP s.1 k l).1 9 i) ∧ I' 27 i = nI ((setP s.1 k l).1 10 i)
    rw [setP_9, setP_10]
    rw [h26, h27]
    by_cases e : i = nP s.1
    · subst e
      rw [u2s, u2s, if_pos rfl, if_pos rfl]
      exact ⟨rfl, rfl⟩
    · rw [u2i e, u2i e]
      rw [if_neg e, if_neg e]
      exact c3 i (by omega)
  · show I' 29 i = _
    rw [ho 29 (by omega) (by omega)]
    exact c4 i hi
  · show I' 30 2 = _
    rw [ho 30 (by omega) (by omega)]
    exact c5
  · show I' 31 i = _
    rw [ho 31 (by omega) (by omega)]
    exact c6 i hi
  · show (nC (s.2.1 ++ [(w, 20 + nP s.1)]) i < 20 → J' 25 (nC (s.2.1 ++ [(w, 20 + nP s.1)]) i) = lN (eB 32 (nW (s.2.1 ++ [(w, 20 + nP s.1)]) i))) ∧ (20 ≤ nC (s.2.1 ++ [(w, 20 + nP s.1)]) i → J' 28 (nC (s.2.1 ++ [(w, 20 + nP s.1)]) i - 20) = lN (eB 32 (nW (s.2.1 ++ [(w, 20 + nP s.1)]) i)))
    rw [h25, h28]
    rcases ap_cs hi with ⟨hk, e1, e2⟩ | ⟨hk, e1, e2⟩
    · rw [e1, e2]
      have := hn i hk
      have hb := (hW.nn.2.1 i hk).2
      refine ⟨this.1, fun z => ?_⟩
      rw [u2i (by omega)]
      exact this.2 z
    · rw [e1, e2]
      refine ⟨fun z => by omega, fun _ => ?_⟩
      rw [show 20 + nP s.1 - 20 = nP s.1 by omega]
      exact u2s
  · show I' 20 1 = _
    rw [ho 20 (by omega) (by omega)]
    exact hoo
end
