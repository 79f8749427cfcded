/-! the class, made -/
def Iz : Nat → Nat → Int32 := fun _ _ => 0
def Jz : Nat → Nat → Int64 := fun _ _ => 0
def Rz : Nat → Nat → Nat := fun _ _ => 0
def plR (R : Nat → Nat → Nat) (a n : Nat) : Nat → Nat → Nat := u2 (u2 (u2 (u2 (u2 (u2 (u2 (u2 (u2 (u2 (u2 R a 5 n) a 6 (n + 1)) a 7 (n + 2)) a 8 (n + 3)) a 9 (n + 4)) a 10 (n + 5)) a 11 (n + 6)) a 12 (n + 7)) (n + 8) 0 (n + 9)) (n + 8) 1 (n + 10)) a 13 (n + 8)
def lnR (R : Nat → Nat → Nat) (a n : Nat) : Nat → Nat → Nat := u2 (u2 (u2 R a 1 n) a 2 (n + 1)) a 3 (n + 2)
def R1 : Nat → Nat → Nat := u2 (u2 Rz 2 5 3) 1 0 2
def R2 : Nat → Nat → Nat := u2 (plR R1 4 5) 1 1 4
def R3 : Nat → Nat → Nat := u2 (lnR R2 16 17) 1 2 16
def R4 : Nat → Nat → Nat := u2 (u2 (plR R3 21 22) 20 0 21) 1 3 20
def R5 : Nat → Nat → Nat := u2 (u2 (lnR R4 34 35) 33 0 34) 1 4 33
def R6 : Nat → Nat → Nat := u2 (stR R5 38) 1 5 38
def R7 : Nat → Nat → Nat := u2 (stR R6 46) 1 6 46
def R8 : Nat → Nat → Nat := u2 (RM (RK (u2 (u2 (u2 (u2 R7 54 1 55) 54 2 56) 54 3 57) 54 4 58) 16) 4) 1 7 54
def R9 : Nat → Nat → Nat := u2 (ftR R8 231) 1 8 231
def Ra : Nat → Nat → Nat := u2 (u2 (u2 (u2 (u2 R9 234 1 235) 234 2 236) 234 3 237) 234 6 238) 1 9 234
def Rb : Nat → Nat → Nat := u2 (u2 (u2 (u2 (u2 (u2 Ra 239 2 240) 239 5 241) 239 6 242) 239 7 243) 239 8 244) 1 10 239
def Rc : Nat → Nat → Nat := u2 (u2 Rb 1 11 245) 1 12 246
section
variable {G : GG} {d : Nat} {P : mm_M → Prop} {Q : Option Value → mm_M → Prop} {I : Nat → Nat → Int32} {J : Nat → Nat → Int64} {R : Nat → Nat → Nat} {n a w k x : Nat}
theorem qI {v : Int32} : sI (memQ n I J R w) a k v = memQ n (u2 I a k v) J R w := rfl
theorem qJ {v : Int64} : sJ (memQ n I J R w) a k v = memQ n I (u2 J a k v) R w := rfl
theorem qW {g : Nat → Int32} : rwI (memQ n I J R w) a g = memQ n (u1 I a g) J R w := rfl
theorem qi : mI (memQ n I J R w) a k = I a k := rfl
theorem qif : mI (memQ n I J R w) a = I a := rfl
theorem plR_n (h1 : x ≠ a) (h2 : x ≠ n + 8) : plR R a n x = R x := by unfold plR; rw [u2n h1, u2n h2, u2n h2, u2n h1, u2n h1, u2n h1, u2n h1, u2n h1, u2n h1, u2n h1, u2n h1]
theorem lnR_n (h1 : x ≠ a) : lnR R a n x = R x := by unfold lnR; rw [u2n h1, u2n h1, u2n h1]
theorem R1_z : ∀ x, 4 ≤ x → R1 x = fun _ => 0 := fun x hx => by unfold R1; rw [u2n (by omega), u2n (by omega)]; rfl
theorem R2_z : ∀ x, 16 ≤ x → R2 x = fun _ => 0 := fun x hx => by unfold R2; rw [u2n (by omega), plR_n (by omega) (by omega)]; exact R1_z x (by omega)
theorem R3_z : ∀ x, 20 ≤ x → R3 x = fun _ => 0 := fun x hx => by unfold R3; rw [u2n (by omega), lnR_n (by omega)]; exact R2_z x (by omega)
theorem R4_z : ∀ x, 33 ≤ x → R4 x = fun _ => 0 := fun x hx => by unfold R4; rw [u2n (by omega), u2n (by omega), plR_n (by omega) (by omega)]; exact R3_z x (by omega)
theorem R5_z : ∀ x, 38 ≤ x → R5 x = fun _ => 0 := fun x hx => by unfold R5; rw [u2n (by omega), u2n (by omega), lnR_n (by omega)]; exact R4_z x (by omega)
theorem R6_z : ∀ x, 46 ≤ x → R6 x = fun _ => 0 := fun x hx => by unfold R6; rw [u2n (by omega), stR_n (by omega)]; exact R5_z x (by omega)
theorem R7_z : ∀ x, 54 ≤ x → R7 x = fun _ => 0 := fun x hx => by unfold R7; rw [u2n (by omega), stR_n (by omega)]; exact R6_z x (by omega)
theorem R8_z : ∀ x, 231 ≤ x → R8 x = fun _ => 0 := fun x hx => by unfold R8; rw [u2n (by omega), RM_hi 4 (by omega), RK_hi 16 (by omega), u2n (by omega), u2n (by omega), u2n (by omega), u2n (by omega)]; exact R7_z x (by omega)
theorem R9_z : ∀ x, 234 ≤ x → R9 x = fun _ => 0 := fun x hx => by unfold R9; rw [u2n (by omega), ftR_n (by omega)]; exact R8_z x (by omega)
theorem Ra_z : ∀ x, 239 ≤ x → Ra x = fun _ => 0 := fun x hx => by unfold Ra; rw [u2n (by omega), u2n (by omega), u2n (by omega), u2n (by omega), u2n (by omega)]; exact R9_z x (by omega)
theorem Rb_z : ∀ x, 245 ≤ x → Rb x = fun _ => 0 := fun x hx => by unfold Rb; rw [u2n (by omega), u2n (by omega), u2n (by omega), u2n (by omega), u2n (by omega), u2n (by omega)]; exact Ra_z x (by omega)
theorem Rc_z : ∀ x, 247 ≤ x → Rc x = fun _ => 0 := fun x hx => by unfold Rc; rw [u2n (by omega), u2n (by omega)]; exact Rb_z x (by omega)
theorem zz {n m : Nat} {R : Nat → Nat → Nat} (h : ∀ x, n ≤ x → R x = fun _ => 0) (hm : n ≤ m) : Zr m Iz Jz R := fun x hx => ⟨rfl, rfl, h x (by omega)⟩
/-- the plan, as always; the state at 38 begins -/
theorem Rz_z : ∀ x, 0 ≤ x → Rz x = fun _ => 0 := fun _ _ => rfl
theorem k50 (h : P (memQ n (u2 (u2 (u2 (u2 (u2 (u2 I 4 0 0) 4 1 0) 4 2 1) 4 3 3) 4 4 0) 13 2 0) J R w)) (hn : 46 ≤ n) (hr : R 4 13 = 13) : CV G (d + 2) 50 [.ref 4] (memQ n I J R w) P := by
  have t4 : ∀ I' : Nat → Nat → Int32, mK (memQ n I' J R w) 4 = 7 := fun _ => (qK (by omega)).trans rfl
  refine e50 ?_
  simp only [qI]
  refine ⟨t4 _, t4 _, t4 _, b50_0_15 ?_⟩
  simp only [qI, qM, hr]
  refine ⟨t4 _, t4 _, t4 _, (qK (by omega)).trans rfl, e6 ⟨(qK (by omega)).trans rfl, rfl, h⟩⟩
theorem k68 (hn : 46 ≤ n) (h1 : R 38 1 = 39 ∧ R 38 2 = 40 ∧ R 38 3 = 41 ∧ R 38 4 = 42 ∧ R 38 5 = 43 ∧ R 38 6 = 44 ∧ R 38 7 = 45 ∧ R 38 8 = 4) (h2 : R 4 6 = 6 ∧ R 4 7 = 7 ∧ R 4 10 = 10) (h : ∀ I', (∀ a, (a < 38 ∨ 45 < a) → I' a = I a) → I' 38 0 = 0 → P (memQ n I' J R w)) : CV G (d + 3) 68 [.ref 38] (memQ n I J R w) P := by
  obtain ⟨a1, a2, a3, a4, a5, a6, a7, a8⟩ := h1
  obtain ⟨b1, b2, b3⟩ := h2
  have tk : ∀ (I' : Nat → Nat → Int32) (a : Nat), a < 46 → mK (memQ n I' J R w) a = kF a := fun _ _ q => qK (by omega)
  have tn : ∀ (I' : Nat → Nat → Int32) (a : Nat), a < 46 → mN (memQ n I' J R w) a = nF a := fun _ _ q => qN (by omega)
  refine e68 ?_
  simp only [qI, qM, qW, qif, a1, a8, b1]
  refine ⟨(tk _ 38 (by decide)).trans rfl, (tk _ 38 (by decide)).trans rfl, (tk _ 4 (by decide)).trans rfl, (tk _ 38 (by decide)).trans rfl, ⟨(tk _ 6 (by decide)).trans rfl, (tk _ 39 (by decide)).trans rfl, by rw [tn _ 6 (by decide)]; decide, by rw [tn _ 39 (by decide)]; decide⟩, b68_0_23 ?_⟩
  simp only [qI, qM, qW, qif, a2, a8, b2]
  refine ⟨(tk _ 38 (by decide)).trans rfl, (tk _ 4 (by decide)).trans rfl, (tk _ 38 (by decide)).trans rfl, ⟨(tk _ 7 (by decide)).trans rfl, (tk _ 40 (by decide)).trans rfl, by rw [tn _ 7 (by decide)]; decide, by rw [tn _ 40 (by decide)]; decide⟩, b68_0_41 ?_⟩
  simp only [qI, qM, qW, qif, a3, a8, b3]
  refine ⟨(tk _ 38 (by decide)).trans rfl, (tk _ 4 (by decide)).trans rfl, (tk _ 38 (by decide)).trans rfl, ⟨(tk _ 10 (by decide)).trans rfl, (tk _ 41 (by decide)).trans rfl, by rw [tn _ 10 (by decide)]; decide, by rw [tn _ 41 (by decide)]; decide⟩, b68_0_59 ?_⟩
  simp only [qM, a7]
  refine ⟨(tk _ 38 (by decide)).trans rfl, c284 (N := 6) ((tk _ 45 (by decide)).trans rfl) ((tn _ 45 (by decide)).trans rfl) (by decide) ?_⟩
  simp only [qW, qi, qif]
  refine ⟨(tk _ 38 (by decide)).trans rfl, e69 ?_⟩
  simp only [qM, a4]
  refine ⟨(tk _ 38 (by decide)).trans rfl, c284 (N := 6) ((tk _ 42 (by decide)).trans rfl) ((tn _ 42 (by decide)).trans rfl) (by decide) ?_⟩
  simp only [qW, qi, qif, qM, a5]
  refine ⟨(tk _ 38 (by decide)).trans rfl, c284 (N := 6) ((tk _ 43 (by decide)).trans rfl) ((tn _ 43 (by decide)).trans rfl) (by decide) ?_⟩
  simp only [qW, qi, qif, qM, a6]
  refine ⟨(tk _ 38 (by decide)).trans rfl, ?_⟩
  refine c284 (N := 6) ((tk _ 44 (by decide)).trans rfl) ((tn _ 44 (by decide)).trans rfl) (by decide) ?_
  simp only [qW, qi, qif]
  refine ⟨rfl, h _ (fun a ha => ?_) ?_⟩
  · rw [u1n (by omega), u1n (by omega), u1n (by omega), u1n (by omega), u1n (by omega), u1n (by omega), u1n (by omega), u2n (by omega)]
  · rw [u1n (by decide), u1n (by decide), u1n (by decide), u1n (by decide), u1n (by decide), u1n (by decide), u1n (by decide), u2s]
theorem k107 (h : ∀ I', (∀ a, a ≠ 4 → a ≠ 13 → (a < 38 ∨ 45 < a) → I' a = fun _ => 0) → I' 4 0 = 0 → I' 4 1 = 0 → I' 4 2 = 1 → I' 4 3 = 3 → I' 4 4 = 0 → I' 13 2 = 0 → I' 38 0 = 0 → P (memQ 247 I' Jz Rc 5238)) : CV G (d + 5) 107 [.ref 1] (memQ 2 Iz Jz Rz 14) P := by
  have t1 : ∀ (n : Nat) (I : Nat → Nat → Int32) (R : Nat → Nat → Nat) (w : Nat), 2 ≤ n → mK (memQ n I Jz R w) 1 = 11 := fun n I R w hn => (qK (by omega)).trans rfl
  refine e107 ⟨by decide, by decide, ?_⟩
  simp only [qS]
  rw [nwQ (kd := 10) (len := 0) (w' := 9) rfl rfl (zz Rz_z (by decide))]
  refine k87 (by decide) (by decide) rfl ⟨rfl, rfl⟩ (zz Rz_z (by decide)) ⟨⟨t1 _ _ _ _ (by decide), by decide⟩, by decide, ?_⟩
  show CV G (d + 4) 49 [.ref 4] (nw (memQ 4 Iz Jz R1 1023) 7 0 14) _
  rw [nwQ (kd := 7) (len := 0) (w' := 14) rfl rfl (zz R1_z (by decide))]
  refine k49 (by decide) (by decide) rfl ⟨rfl, rfl, rfl, rfl, rfl, rfl, rfl, rfl, rfl, rfl, rfl, rfl, rfl, rfl, rfl, rfl, rfl, rfl, rfl, rfl, rfl, rfl⟩ (zz R1_z (by decide)) ⟨⟨t1 _ _ _ _ (by decide), by decide⟩, by decide, ?_⟩
  show CV G (d + 4) 12 [.ref 16] (nw (memQ 16 Iz Jz R2 2118) 2 0 4) _
  rw [nwQ (kd := 2) (len := 0) (w' := 4) rfl rfl (zz R2_z (by decide))]
  refine k12 (by decide) (by decide) rfl ⟨rfl, rfl, rfl, rfl, rfl, rfl⟩ (zz R2_z (by decide)) ⟨⟨t1 _ _ _ _ (by decide), by decide⟩, ?_⟩
  show BB G (d + 4) none P107 (QV P) S107_0_41 41 [.ref 1] [.ref 20, .ref 1] (nw (memQ 20 Iz Jz R3 2242) 5 0 2)
  rw [nwQ (kd := 5) (len := 0) (w' := 2) rfl rfl (zz R3_z (by decide))]
  refine b107_0_41 ⟨by decide, k27 (by decide) (by decide) rfl ⟨rfl, rfl⟩ ⟨rfl, rfl, rfl, rfl, rfl, rfl, rfl, rfl, rfl, rfl, rfl, rfl, rfl, rfl, rfl, rfl, rfl, rfl, rfl, rfl, rfl, rfl⟩ (zz R3_z (by decide)) ⟨⟨t1 _ _ _ _ (by decide), by decide⟩, by decide, ?_⟩⟩
  show CV G (d + 4) 23 [.ref 33] (nw (memQ 33 Iz Jz R4 3339) 4 0 1) _
  rw [nwQ (kd := 4) (len := 0) (w' := 1) rfl rfl (zz R4_z (by decide))]
  refine k23 (by decide) (by decide) rfl ⟨rfl, rfl, rfl, rfl, rfl, rfl, rfl, rfl⟩ (zz R4_z (by decide)) ⟨⟨t1 _ _ _ _ (by decide), by decide⟩, ?_⟩
  show mK (nw (memQ 38 Iz Jz R5 3464) 9 0 9) 1 = 11 ∧ (38 : Nat) ≠ 0 ∧ CV G (d + 4) 67 [.ref 38, .ref (mR (nw (memQ 38 Iz Jz R5 3464) 9 0 9) 1 1)] (nw (memQ 38 Iz Jz R5 3464) 9 0 9) _
  have e38 : mR (nw (memQ 38 Iz Jz R5 3464) 9 0 9) 1 1 = 4 := by rw [nwQ (kd := 9) (len := 0) (w' := 9) rfl rfl (zz R5_z (by decide))]; rfl
  rw [e38]
  refine ⟨by rw [nwQ (kd := 9) (len := 0) (w' := 9) rfl rfl (zz R5_z (by decide))]; exact t1 _ _ _ _ (by decide), by decide, kst (by unfold stOk; decide +kernel) (by decide) (zz R5_z (by decide)) ⟨⟨t1 _ _ _ _ (by decide), by decide⟩, ?_⟩⟩
  show mK (nw (memQ 46 Iz Jz R6 3515) 9 0 9) 1 = 11 ∧ (46 : Nat) ≠ 0 ∧ CV G (d + 4) 67 [.ref 46, .ref (mR (nw (memQ 46 Iz Jz R6 3515) 9 0 9) 1 1)] (nw (memQ 46 Iz Jz R6 3515) 9 0 9) _
  have e46 : mR (nw (memQ 46 Iz Jz R6 3515) 9 0 9) 1 1 = 4 := by rw [nwQ (kd := 9) (len := 0) (w' := 9) rfl rfl (zz R6_z (by decide))]; rfl
  rw [e46]
  refine ⟨by rw [nwQ (kd := 9) (len := 0) (w' := 9) rfl rfl (zz R6_z (by decide))]; exact t1 _ _ _ _ (by decide), by decide, kst (by unfold stOk; decide +kernel) (by decide) (zz R6_z (by decide)) ⟨⟨t1 _ _ _ _ (by decide), by decide⟩, b107_0_89 ?_⟩⟩
  show mK (nw (memQ 54 Iz Jz R7 3566) 6 0 5) 1 = 11 ∧ (54 : Nat) ≠ 0 ∧ CV G (d + 4) 42 [.ref 54, .ref (mR (nw (memQ 54 Iz Jz R7 3566) 6 0 5) 1 1)] (nw (memQ 54 Iz Jz R7 3566) 6 0 5) _
  rw [nwQ (kd := 6) (len := 0) (w' := 5) rfl rfl (zz R7_z (by decide))]
  refine ⟨t1 _ _ _ _ (by decide), by decide, k42 (zz R7_z (by decide)) ⟨⟨t1 _ _ _ _ (by decide), by decide⟩, by decide, ?_⟩⟩
  show CV G (d + 4) 0 [.ref 231] (nw (memQ 231 Iz Jz R8 4695) 0 0 3) _
  refine kft (by unfold ftOk; decide +kernel) (by decide) (zz R8_z (by decide)) ⟨⟨t1 _ _ _ _ (by decide), by decide⟩, by decide, ?_⟩
  show CV G (d + 4) 17 [.ref 234] (nw (memQ 234 Iz Jz R9 4714) 3 0 7) _
  rw [nwQ (kd := 3) (len := 0) (w' := 7) rfl rfl (zz R9_z (by decide))]
  refine k17 (by decide) (by decide) rfl ⟨rfl, rfl, rfl, rfl, rfl, rfl, rfl, rfl⟩ (zz R9_z (by decide)) ⟨⟨t1 _ _ _ _ (by decide), by decide⟩, ?_⟩
  show BB G (d + 4) none P107 (QV P) S107_0_130 130 [.ref 1] [.ref 239, .ref 1] (nw (memQ 239 Iz Jz Ra 5187) 8 0 9)
  rw [nwQ (kd := 8) (len := 0) (w' := 9) rfl rfl (zz Ra_z (by decide))]
  refine b107_0_130 ⟨by decide, k61 (by decide) (by decide) rfl ⟨rfl, rfl, rfl, rfl, rfl, rfl, rfl, rfl, rfl, rfl⟩ (zz Ra_z (by decide)) ⟨⟨t1 _ _ _ _ (by decide), by decide⟩, ?_⟩⟩
  show (mK (nw (memQ 245 Iz Jz Rb 5226) 14 6 6) 1 = 11 ∧ (245 : Nat) ≠ 0) ∧ BB G (d + 4) none P107 (QV P) S107_0_150 150 [.ref 1] [.ref (mS (sR (nw (memQ 245 Iz Jz Rb 5226) 14 6 6) 1 11 245)), .ref 1] (nw (sR (nw (memQ 245 Iz Jz Rb 5226) 14 6 6) 1 11 245) 15 6 6)
  rw [nwQ (kd := 14) (len := 6) (w' := 6) rfl rfl (zz Rb_z (by decide))]
  simp only [qR, qS]
  have zb : Zr 246 Iz Jz (u2 Rb 1 11 245) := fun x hx => ⟨rfl, rfl, by rw [u2n (by omega)]; exact Rb_z x (by omega)⟩
  rw [nwQ (kd := 15) (len := 6) (w' := 6) rfl rfl zb]
  refine ⟨⟨t1 _ _ _ _ (by decide), by decide⟩, b107_0_150 ⟨⟨t1 _ _ _ _ (by decide), by decide⟩, ?_⟩⟩
  show mK (memQ 247 Iz Jz Rc 5238) 1 = 11 ∧ mK (memQ 247 Iz Jz Rc 5238) (mR (memQ 247 Iz Jz Rc 5238) 1 1) = 7 ∧ CV G (d + 4) 50 [.ref (mR (memQ 247 Iz Jz Rc 5238) 1 1)] (memQ 247 Iz Jz Rc 5238) _
  have r1 : Rc 1 1 = 4 := by decide +kernel
  have r5 : Rc 1 5 = 38 := by decide +kernel
  simp only [qM, r1]
  refine ⟨t1 _ _ _ _ (by decide), (qK (by decide)).trans rfl, k50 ?_ (by decide) (by decide +kernel)⟩
  simp only [qM, r5]
  refine ⟨t1 _ _ _ _ (by decide), (qK (by decide)).trans rfl, k68 (by decide) (by decide +kernel) (by decide +kernel) (fun I' hf h0 => ⟨rfl, h I' (fun a a1 a2 a3 => ?_) ?_ ?_ ?_ ?_ ?_ ?_ h0⟩)⟩
  · rw [hf a a3, u2n a2, u2n a1, u2n a1, u2n a1, u2n a1, u2n a1]; rfl
  · rw [hf 4 (by decide), u2n (by decide), u2i (by decide), u2i (by decide), u2i (by decide), u2i (by decide), u2s]
  · rw [hf 4 (by decide), u2n (by decide), u2i (by decide), u2i (by decide), u2i (by decide), u2s]
  · rw [hf 4 (by decide), u2n (by decide), u2i (by decide), u2i (by decide), u2s]
  · rw [hf 4 (by decide), u2n (by decide), u2i (by decide), u2s]
  · rw [hf 4 (by decide), u2n (by decide), u2s]
  · rw [hf 13 (by decide), u2s]
end
