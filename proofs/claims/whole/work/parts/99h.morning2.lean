/-! morning: a line -/
noncomputable def mlP (tp : List Nat) (nm : NMT) (j : Nat) (ln : LN) : Nat × Nat × LN :=
  if ¬ (10 ≤ wiF tp j ∧ wiF tp j ≤ 14) then (flt tp 1 j, j, ln)
  else if 40 ≤ ln.length then (flt tp 5 j, j, ln)
  else if wiF tp j = 14 then (0, j + 1, ln ++ [(4, 0, 0)])
  else if naP tp nm (decide (wiF tp j ≤ 11)) 0 (j + 1) ≠ 0 then (naP tp nm (decide (wiF tp j ≤ 11)) 0 (j + 1), j, ln)
  else if wiF tp j = 13 then (0, j + 2, ln ++ [(3, idF false nm (rkF tp (j + 1)) - 1, 0)])
  else if naP tp nm (decide (wiF tp j = 11)) (if wiF tp j = 10 then 0 else idF (decide (wiF tp j ≤ 11)) nm (rkF tp (j + 1))) (j + 2) ≠ 0 then (naP tp nm (decide (wiF tp j = 11)) (if wiF tp j = 10 then 0 else idF (decide (wiF tp j ≤ 11)) nm (rkF tp (j + 1))) (j + 2), j, ln)
  else (0, j + 3, ln ++ [(wiF tp j - 10, idF (decide (wiF tp j ≤ 11)) nm (rkF tp (j + 1)) - 1, idF (decide (wiF tp j = 11)) nm (rkF tp (j + 2)) - 1)])
def LAs (I : Nat → Nat → Int32) (ln : LN) : Prop := LA (fun a => I (a + 18)) ln
def Fcm (I I' : Nat → Nat → Int32) (J J' : Nat → Nat → Int64) : Prop := (∀ a, a ≠ 2 → (a < 34 ∨ 37 < a) → (a < 20 ∨ 31 < a) → I' a = I a) ∧ I' 2 0 = I 2 0 ∧ ∀ a, a ≠ 2 → a ≠ 25 → a ≠ 28 → J' a = J a
section
variable {G : GG} {d : Nat} {P : Int32 → mm_M → Prop} {Pv : mm_M → Prop} {Q : Option Value → mm_M → Prop} {r : Nat → Nat} {I : Nat → Nat → Int32} {J : Nat → Nat → Int64} {π : PLN} {σ : Nat → Nat → Nat} {tp : List Nat} {y i j n f N : Nat} {nm : NMT} {ln : LN} {I' I2 : Nat → Nat → Int32} {J' J2 : Nat → Nat → Int64}
theorem ap_ln {x : Nat × Nat × Nat} {k : Nat} (hk : k < (ln ++ [x]).length) : (k < ln.length ∧ lK (ln ++ [x]) k = lK ln k ∧ lA (ln ++ [x]) k = lA ln k ∧ lB (ln ++ [x]) k = lB ln k) ∨ (k = ln.length ∧ lK (ln ++ [x]) k = x.1 ∧ lA (ln ++ [x]) k = x.2.1 ∧ lB (ln ++ [x]) k = x.2.2) := by
  rw [List.length_append] at hk
  have hk : k < ln.length + 1 := hk
  unfold lK lA lB
  by_cases e : k = ln.length
  · subst e
    rw [List.getD_eq_getElem?_getD, List.getElem?_append_right (Nat.le_refl _), Nat.sub_self]
    exact Or.inr ⟨rfl, rfl, rfl, rfl⟩
  · rw [List.getD_eq_getElem?_getD, List.getD_eq_getElem?_getD, List.getElem?_append_left (by omega)]
    exact Or.inl ⟨by omega, rfl, rfl, rfl⟩
/-- a line is added to the class's lines at 34 -/
theorem n14 {k a b : Int32} (h : LAs I ln) (hl : ln.length < 40) (hh : ∀ I', (∀ x, (x < 34 ∨ 37 < x) → I' x = I x) → I' 34 0 = nI (ln.length + 1) → (∀ i, i ≠ ln.length → I' 35 i = I 35 i ∧ I' 36 i = I 36 i ∧ I' 37 i = I 37 i) → I' 35 ln.length = k → I' 36 ln.length = a → I' 37 ln.length = b → Pv (mem r I' J)) : CV G (d + 1) 14 [.ref 34, .int k, .int a, .int b] (mem r I J) Pv := by
  have h0 : I 34 0 = nI ln.length := h.1
  have e1 : u2 I 35 ln.length k 34 0 = nI ln.length := by rw [u2n (by decide)]; exact h0
  have e2 : u2 (u2 I 35 ln.length k) 36 ln.length a 34 0 = nI ln.length := by rw [u2n (by decide)]; exact e1
  have e3 : u2 (u2 (u2 I 35 ln.length k) 36 ln.length a) 37 ln.length b 34 0 = nI ln.length := by rw [u2n (by decide)]; exact e2
  refine e14 ?_
  simp only [mKm, mNm, mIm, mIf, mJm, mJf, mRm, sIm, sJm, rwIm, rwJm, kN, nN, rN, true_and, h0, ix hl (by decide), e1]
  refine ifn (fun z => absurd ((nI_leI (a := 40) (by decide) (by omega)).mp z) (by omega)) (b14_0_29 ?_)
  simp only [mKm, mNm, mIm, mIf, mJm, mJf, mRm, sIm, sJm, rwIm, rwJm, kN, nN, rN, true_and, e2, ix hl (by decide), e3, nI_1]
  refine b14_0_49 ⟨rfl, hh _ (fun x hx => by rw [u2n (by omega), u2n (by omega), u2n (by omega), u2n (by omega)]) u2s (fun i hi => ⟨?_, ?_, ?_⟩) ?_ ?_ ?_⟩
  · rw [u2n (by decide), u2n (by decide), u2n (by decide), u2i hi]
  · rw [u2n (by decide), u2n (by decide), u2i hi, u2n (by decide)]
  · rw [u2n (by decide), u2i hi, u2n (by decide), u2n (by decide)]
  · rw [u2n (by decide), u2n (by decide), u2n (by decide), u2s]
  · rw [u2n (by decide), u2n (by decide), u2s]
  · rw [u2n (by decide), u2s]
theorem LAs.add {k a b : Nat} (h : LAs I ln) (z0 : I' 34 0 = nI (ln.length + 1)) (zo : ∀ i, i ≠ ln.length → I' 35 i = I 35 i ∧ I' 36 i = I 36 i ∧ I' 37 i = I 37 i) (z1 : I' 35 ln.length = nI k) (z2 : k ≠ 4 → I' 36 ln.length = nI a) (z3 : k < 3 → I' 37 ln.length = nI b) : LAs I' (ln ++ [(k, a, b)]) := by
  refine ⟨?_, fun i hi => ?_⟩
  · show I' 34 0 = _; rw [z0, List.length_append]; rfl
  · show I' 35 i = _ ∧ (_ → I' 36 i = _) ∧ (_ → I' 37 i = _)
    rcases ap_ln hi with ⟨hk, e1, e2, e3⟩ | ⟨hk, e1, e2, e3⟩
    · obtain ⟨y1, y2, y3⟩ := zo i (by omega)
      rw [e1, e2, e3, y1, y2, y3]; exact h.2 i hk
    · rw [e1, e2, e3, hk]; exact ⟨z1, z2, z3⟩
end
