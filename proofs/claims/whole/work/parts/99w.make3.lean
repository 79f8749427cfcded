/-! the past, made -/
def stR (R : Nat → Nat → Nat) (s : Nat) : Nat → Nat → Nat := u2 (u2 (u2 (u2 (u2 (u2 (u2 (u2 R s 1 (s + 1)) s 2 (s + 1 + 1)) s 3 (s + 1 + 1 + 1)) s 4 (s + 1 + 1 + 1 + 1)) s 5 (s + 1 + 1 + 1 + 1 + 1)) s 6 (s + 1 + 1 + 1 + 1 + 1 + 1)) s 7 (s + 1 + 1 + 1 + 1 + 1 + 1 + 1)) s 8 4
def ftR (R : Nat → Nat → Nat) (f : Nat) : Nat → Nat → Nat := u2 (u2 R f 1 (f + 1)) f 2 (f + 1 + 1)
def RK (R : Nat → Nat → Nat) : Nat → Nat → Nat → Nat
  | 0 => R
  | i + 1 => u2 (stR (RK R i) (59 + 8 * i)) 55 i (59 + 8 * i)
def RM (R : Nat → Nat → Nat) : Nat → Nat → Nat → Nat
  | 0 => R
  | i + 1 => u2 (ftR (u2 (stR (RM R i) (187 + 11 * i)) 56 i (187 + 11 * i)) (195 + 11 * i)) 57 i (195 + 11 * i)
def stOk (s : Nat) : Prop := kF s = 9 ∧ nF s = 0 ∧ kF (s + 1) = 14 ∧ nF (s + 1) = 6 ∧ kF (s + 1 + 1) = 14 ∧ nF (s + 1 + 1) = 6 ∧ kF (s + 1 + 1 + 1) = 14 ∧ nF (s + 1 + 1 + 1) = 6 ∧ kF (s + 1 + 1 + 1 + 1) = 14 ∧ nF (s + 1 + 1 + 1 + 1) = 6 ∧ kF (s + 1 + 1 + 1 + 1 + 1) = 14 ∧ nF (s + 1 + 1 + 1 + 1 + 1) = 6 ∧ kF (s + 1 + 1 + 1 + 1 + 1 + 1) = 14 ∧ nF (s + 1 + 1 + 1 + 1 + 1 + 1) = 6 ∧ kF (s + 1 + 1 + 1 + 1 + 1 + 1 + 1) = 14 ∧ nF (s + 1 + 1 + 1 + 1 + 1 + 1 + 1) = 6
def ftOk (f : Nat) : Prop := kF f = 0 ∧ nF f = 0 ∧ kF (f + 1) = 14 ∧ nF (f + 1) = 8 ∧ kF (f + 1 + 1) = 16 ∧ nF (f + 1 + 1) = 8
theorem stOk_k : ∀ i, i < 16 → stOk (59 + 8 * i) := by unfold stOk; decide +kernel
theorem stOk_m : ∀ i, i < 4 → stOk (187 + 11 * i) := by unfold stOk; decide +kernel
theorem ftOk_m : ∀ i, i < 4 → ftOk (195 + 11 * i) := by unfold ftOk; decide +kernel
section
variable {G : GG} {d : Nat} {P : mm_M → Prop} {Q : Option Value → mm_M → Prop} {I : Nat → Nat → Int32} {J : Nat → Nat → Int64} {R : Nat → Nat → Nat} {n a w s x : Nat}
theorem stR_n (h : x ≠ s) : stR R s x = R x := by unfold stR; rw [u2n h, u2n h, u2n h, u2n h, u2n h, u2n h, u2n h, u2n h]
theorem ftR_n (h : x ≠ s) : ftR R s x = R x := by unfold ftR; rw [u2n h, u2n h]
theorem RK_lo (h : x < 59) (h5 : x ≠ 55) : ∀ i, RK R i x = R x
  | 0 => rfl
  | i + 1 => by rw [RK, u2n h5, stR_n (by omega)]; exact RK_lo h h5 i
theorem RK_hi : ∀ i, 59 + 8 * i ≤ x → RK R i x = R x
  | 0, _ => rfl
  | i + 1, h => by rw [RK, u2n (by omega), stR_n (by omega)]; exact RK_hi i (by omega)
theorem RM_lo (h : x < 187) (h6 : x ≠ 56) (h7 : x ≠ 57) : ∀ i, RM R i x = R x
  | 0 => rfl
  | i + 1 => by rw [RM, u2n h7, ftR_n (by omega), u2n h6, stR_n (by omega)]; exact RM_lo h h6 h7 i
theorem RM_hi : ∀ i, 187 + 11 * i ≤ x → RM R i x = R x
  | 0, _ => rfl
  | i + 1, h => by rw [RM, u2n (by omega), ftR_n (by omega), u2n (by omega), stR_n (by omega)]; exact RM_hi i (by omega)
theorem Zr.k (h : Zr 59 I J R) (i : Nat) : Zr (59 + 8 * i) I J (RK R i) := fun x hx => ⟨(h x (by omega)).1, (h x (by omega)).2.1, by rw [RK_hi i hx]; exact (h x (by omega)).2.2⟩
theorem Zr.m (h : Zr 187 I J R) (i : Nat) : Zr (187 + 11 * i) I J (RM R i) := fun x hx => ⟨(h x (by omega)).1, (h x (by omega)).2.1, by rw [RM_hi i hx]; exact (h x (by omega)).2.2⟩
/-- a state, made at s -/
theorem kst (hs : stOk s) (hs0 : s ≠ 0) (hz : Zr s I J R) (h : P (memQ (s + 8) I J (stR R s) (w + 51))) : CV G (d + 1) 67 [.ref s, .ref 4] (nw (memQ s I J R w) 9 0 9) P := by
  rw [nwQ hs.1 hs.2.1 hz]
  refine k67 hs0 (by omega) hs.1 (by decide) hs.2.2 hz.s ?_
  have e : w + 9 + 6 + 6 + 6 + 6 + 6 + 6 + 6 = w + 51 := by omega
  rw [e]
  exact h
theorem kft (hs : ftOk s) (hs0 : s ≠ 0) (hz : Zr s I J R) (h : P (memQ (s + 3) I J (ftR R s) (w + 19))) : CV G (d + 1) 0 [.ref s] (nw (memQ s I J R w) 0 0 3) P := by
  rw [nwQ hs.1 hs.2.1 hz]
  refine k0 hs0 (by omega) hs.1 hs.2.2 hz.s ?_
  have e : w + 3 + 8 + 8 = w + 19 := by omega
  rw [e]
  exact h
theorem k42k (hz : Zr 59 I J R) (h1 : R 54 1 = 55) (h : XX G (d + 1) none P42 Q 66 [.ref 54, .ref 4, .int 0] [] (memQ 187 I J (RK R 16) (w + 51 * 16))) : ∀ m i, i + m = 16 → XX G (d + 1) none P42 Q 38 [.ref 54, .ref 4, .int (nI i)] [] (memQ (59 + 8 * i) I J (RK R i) (w + 51 * i)) := by
  intro m
  induction m with
  | zero =>
    intro i hi
    have e : i = 16 := by omega
    subst e
    exact x42_38 (ifp (by decide) h)
  | succ m ih =>
    intro i hi
    have hn := ih (i + 1) (by omega)
    have e1 : RK R i 54 1 = 55 := by rw [RK_lo (by decide) (by decide)]; exact h1
    have hs := stOk_k i (by omega)
    refine x42_38 (ifn (fun z => absurd ((nI_leI (a := 16) (by decide) (by omega)).mp z) (by omega)) ⟨qK (by omega), by show 59 + 8 * i ≠ 0; omega, ?_⟩)
    simp only [qM, qS, e1]
    refine kst hs (by omega) (hz.k i) ⟨⟨(qK (by omega)).trans rfl, (qK (by omega)).trans hs.1, ?_⟩, ?_⟩
    · rw [qN (by omega)]; exact vp_in_nI (show i < 16 by omega) (by decide)
    · rw [qR, nI_clamp (by omega), nI_1]
      exact hn
theorem k42m (hz : Zr 187 I J R) (h2 : R 54 2 = 56) (h3 : R 54 3 = 57) (h : Q none (memQ 231 I J (RM R 4) (w + 70 * 4))) : ∀ m i, i + m = 4 → XX G (d + 1) none P42 Q 66 [.ref 54, .ref 4, .int (nI i)] [] (memQ (187 + 11 * i) I J (RM R i) (w + 70 * i)) := by
  intro m
  induction m with
  | zero =>
    intro i hi
    have e : i = 4 := by omega
    subst e
    exact x42_66 (ifp (by decide) h)
  | succ m ih =>
    intro i hi
    have hn := ih (i + 1) (by omega)
    have e2 : RM R i 54 2 = 56 := by rw [RM_lo (by decide) (by decide) (by decide)]; exact h2
    have e3 : RM R i 54 3 = 57 := by rw [RM_lo (by decide) (by decide) (by decide)]; exact h3
    have hs := stOk_m i (by omega)
    have hf := ftOk_m i (by omega)
    have e4 : u2 (stR (RM R i) (187 + 11 * i)) 56 i (187 + 11 * i) 54 3 = 57 := by rw [u2n (by decide), stR_n (by omega)]; exact e3
    have z1 := hz.m i
    have z2 : Zr (187 + 11 * i + 8) I J (u2 (stR (RM R i) (187 + 11 * i)) 56 i (187 + 11 * i)) := fun x hx => ⟨(z1 x (by omega)).1, (z1 x (by omega)).2.1, by rw [u2n (by omega), stR_n (by omega)]; exact (z1 x (by omega)).2.2⟩
    have ea : 187 + 11 * i + 8 = 195 + 11 * i := by omega
    rw [ea] at z2
    refine x42_66 (ifn (fun z => absurd ((nI_leI (a := 4) (by decide) (by omega)).mp z) (by omega)) ⟨qK (by omega), by show 187 + 11 * i ≠ 0; omega, ?_⟩)
    simp only [qM, qS, e2]
    refine kst hs (by omega) z1 ⟨⟨(qK (by omega)).trans rfl, (qK (by omega)).trans hs.1, ?_⟩, ?_⟩
    · rw [qN (by omega)]; exact vp_in_nI (show i < 4 by omega) (by decide)
    · rw [ea]
      simp only [qR, qM, qS, nI_clamp (show i < 2 ^ 31 by omega), e4]
      refine ⟨qK (by omega), by omega, kft hf (by omega) z2 ⟨⟨(qK (by omega)).trans rfl, (qK (by omega)).trans hf.1, ?_⟩, b42_66_98 ?_⟩⟩
      · rw [qN (by omega)]; exact vp_in_nI (show i < 4 by omega) (by decide)
      · rw [qR, nI_1]
        have ew : w + 70 * (i + 1) = w + 70 * i + 51 + 19 := by omega
        have en : 187 + 11 * (i + 1) = 195 + 11 * i + 3 := by omega
        rw [ew, en] at hn
        exact hn
theorem k42 (hz : Zr 55 I J R) (h : P (memQ 231 I J (RM (RK (u2 (u2 (u2 (u2 R 54 1 55) 54 2 56) 54 3 57) 54 4 58) 16) 4) (w + 16 + 4 + 4 + 4 + 51 * 16 + 70 * 4))) : CV G (d + 2) 42 [.ref 54, .ref 4] (memQ 55 I J R w) P := by
  have e1 := nwQ (w := w) (w' := 16) (kd := 18) (len := 16) rfl rfl hz
  have e2 := nwQ (w := w + 16) (w' := 4) (kd := 18) (len := 4) rfl rfl (hz.s.r (a := 54) (k := 1) (v := 55) (by decide))
  have e3 := nwQ (w := w + 16 + 4) (w' := 4) (kd := 17) (len := 4) rfl rfl ((hz.s.r (a := 54) (k := 1) (v := 55) (by decide)).s.r (a := 54) (k := 2) (v := 56) (by decide))
  have z3 := (((hz.s.r (a := 54) (k := 1) (v := 55) (by decide)).s.r (a := 54) (k := 2) (v := 56) (by decide)).s.r (a := 54) (k := 3) (v := 57) (by decide))
  have e4 := nwQ (w := w + 16 + 4 + 4) (w' := 4) (kd := 16) (len := 4) rfl rfl z3
  have z4 : Zr 59 I J (u2 (u2 (u2 (u2 R 54 1 55) 54 2 56) 54 3 57) 54 4 58) := z3.s.r (by decide)
  refine e42 ?_
  rw [e1]
  simp only [qS, qR]
  rw [e2]
  refine ⟨by decide, ⟨rfl, by decide⟩, ⟨rfl, by decide⟩, ?_⟩
  simp only [qS, qR]
  refine b42_0_21 ?_
  rw [e3]
  simp only [qS, qR]
  rw [e4]
  refine ⟨⟨rfl, by decide⟩, ⟨rfl, by decide⟩, b42_0_36 ?_⟩
  simp only [qS, qR]
  refine k42k z4 rfl ?_ 16 0 (by decide)
  have z5 : Zr 187 I J (RK (u2 (u2 (u2 (u2 R 54 1 55) 54 2 56) 54 3 57) 54 4 58) 16) := z4.k 16
  exact k42m z5 (by rw [RK_lo (by decide) (by decide)]; rfl) (by rw [RK_lo (by decide) (by decide)]; rfl) ⟨rfl, h⟩ 4 0 (by decide)
end
