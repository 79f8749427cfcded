/-! the constructors -/
def memQ (n : Nat) (I : Nat → Nat → Int32) (J : Nat → Nat → Int64) (R : Nat → Nat → Nat) (w : Nat) : mm_M := (fun a => if a < n then kF a else 99, fun a => if a < n then nF a else 0, I, J, R, n, w)
def Zr (n : Nat) (I : Nat → Nat → Int32) (J : Nat → Nat → Int64) (R : Nat → Nat → Nat) : Prop := ∀ x, n ≤ x → I x = (fun _ => 0) ∧ J x = (fun _ => 0) ∧ R x = (fun _ => 0)
theorem u1_id {α : Type} {f : Nat → α} {a : Nat} {v : α} (h : f a = v) : u1 f a v = f := by
  funext x
  unfold u1
  by_cases e : x = a
  · rw [if_pos e, e, h]
  · rw [if_neg e]
section
variable {G : GG} {d : Nat} {P : mm_M → Prop} {Q : Option Value → mm_M → Prop} {I : Nat → Nat → Int32} {J : Nat → Nat → Int64} {R : Nat → Nat → Nat} {n a w w' kd len k v : Nat}
theorem Zr.s (h : Zr n I J R) : Zr (n + 1) I J R := fun x hx => h x (by omega)
theorem Zr.r (h : Zr n I J R) (ha : a < n) : Zr n I J (u2 R a k v) := fun x hx => ⟨(h x hx).1, (h x hx).2.1, by rw [u2n (by omega)]; exact (h x hx).2.2⟩
theorem nwQ (hk : kF n = kd) (hl : nF n = len) (hz : Zr n I J R) : nw (memQ n I J R w) kd len w' = memQ (n + 1) I J R (w + w') := by
  obtain ⟨z1, z2, z3⟩ := hz n (Nat.le_refl _)
  have e1 : u1 (fun a => if a < n then kF a else 99) n kd = (fun a => if a < n + 1 then kF a else 99) := by
    funext x
    show (if x = n then kd else if x < n then kF x else 99) = if x < n + 1 then kF x else 99
    by_cases e : x = n
    · rw [if_pos e, if_pos (by omega), e, hk]
    · rw [if_neg e]
      by_cases e2 : x < n
      · rw [if_pos e2, if_pos (by omega)]
      · rw [if_neg e2, if_neg (by omega)]
  have e2 : u1 (fun a => if a < n then nF a else 0) n len = (fun a => if a < n + 1 then nF a else 0) := by
    funext x
    show (if x = n then len else if x < n then nF x else 0) = if x < n + 1 then nF x else 0
    by_cases e : x = n
    · rw [if_pos e, if_pos (by omega), e, hl]
    · rw [if_neg e]
      by_cases e2 : x < n
      · rw [if_pos e2, if_pos (by omega)]
      · rw [if_neg e2, if_neg (by omega)]
  show (u1 (fun a => if a < n then kF a else 99) n kd, u1 (fun a => if a < n then nF a else 0) n len, u1 I n (fun _ => 0), u1 J n (fun _ => 0), u1 R n (fun _ => 0), n + 1, w + w') = _
  rw [e1, e2, u1_id z1, u1_id z2, u1_id z3]
  rfl
theorem qS : mS (memQ n I J R w) = n := rfl
theorem qR : sR (memQ n I J R w) a k v = memQ n I J (u2 R a k v) w := rfl
theorem qK (h : a < n) : mK (memQ n I J R w) a = kF a := if_pos h
theorem qN (h : a < n) : mN (memQ n I J R w) a = nF a := if_pos h
theorem qM : mR (memQ n I J R w) a k = R a k := rfl
theorem k0 (ha : a ≠ 0) (han : a < n) (h0 : kF a = 0) (hk : kF (n) = 14 ∧ nF (n) = 8 ∧ kF (n + 1) = 16 ∧ nF (n + 1) = 8) (hz : Zr n I J R) (h : P (memQ (n + 1 + 1) I J (u2 (u2 R a 1 (n)) a 2 (n + 1)) (w + 8 + 8))) : CV G (d + 1) 0 [.ref a] (memQ n I J R w) P := by
  have e1 := nwQ (w := w) (w' := 8) hk.1 hk.2.1 hz
  have e2 := nwQ (w := w + 8) (w' := 8) hk.2.2.1 hk.2.2.2 (hz.s.r (a := a) (k := 1) (v := n) (by omega))
  refine e0 ?_
  simp only [qS, qR, e1, e2]
  refine ⟨ha, ⟨(qK (by omega)).trans h0, by omega⟩, ⟨(qK (by omega)).trans h0, by omega⟩, ?_⟩
  refine b0_0_20 ?_
  exact ⟨rfl, h⟩
theorem k5 (ha : a ≠ 0) (han : a < n) (h0 : kF a = 1) (hk : kF (n) = 14 ∧ nF (n) = 1000 ∧ kF (n + 1) = 14 ∧ nF (n + 1) = 24) (hz : Zr n I J R) (h : P (memQ (n + 1 + 1) I J (u2 (u2 R a 0 (n)) a 1 (n + 1)) (w + 1000 + 24))) : CV G (d + 1) 5 [.ref a] (memQ n I J R w) P := by
  have e1 := nwQ (w := w) (w' := 1000) hk.1 hk.2.1 hz
  have e2 := nwQ (w := w + 1000) (w' := 24) hk.2.2.1 hk.2.2.2 (hz.s.r (a := a) (k := 0) (v := n) (by omega))
  refine e5 ?_
  simp only [qS, qR, e1, e2]
  refine ⟨ha, ⟨(qK (by omega)).trans h0, by omega⟩, ⟨(qK (by omega)).trans h0, by omega⟩, ?_⟩
  refine b5_0_21 ?_
  exact ⟨rfl, h⟩
theorem k12 (ha : a ≠ 0) (han : a < n) (h0 : kF a = 2) (hk : kF (n) = 14 ∧ nF (n) = 40 ∧ kF (n + 1) = 14 ∧ nF (n + 1) = 40 ∧ kF (n + 1 + 1) = 14 ∧ nF (n + 1 + 1) = 40) (hz : Zr n I J R) (h : P (memQ (n + 1 + 1 + 1) I J (u2 (u2 (u2 R a 1 (n)) a 2 (n + 1)) a 3 (n + 1 + 1)) (w + 40 + 40 + 40))) : CV G (d + 1) 12 [.ref a] (memQ n I J R w) P := by
  have e1 := nwQ (w := w) (w' := 40) hk.1 hk.2.1 hz
  have e2 := nwQ (w := w + 40) (w' := 40) hk.2.2.1 hk.2.2.2.1 (hz.s.r (a := a) (k := 1) (v := n) (by omega))
  have e3 := nwQ (w := w + 40 + 40) (w' := 40) hk.2.2.2.2.1 hk.2.2.2.2.2 ((hz.s.r (a := a) (k := 1) (v := n) (by omega)).s.r (a := a) (k := 2) (v := n + 1) (by omega))
  refine e12 ?_
  simp only [qS, qR, e1, e2, e3]
  refine ⟨ha, ⟨(qK (by omega)).trans h0, by omega⟩, ⟨(qK (by omega)).trans h0, by omega⟩, ?_⟩
  refine b12_0_20 ?_
  simp only [qS, qR, e1, e2, e3]
  exact ⟨⟨(qK (by omega)).trans h0, by omega⟩, rfl, h⟩
theorem k17 (ha : a ≠ 0) (han : a < n) (h0 : kF a = 3) (hk : kF (n) = 14 ∧ nF (n) = 6 ∧ kF (n + 1) = 14 ∧ nF (n + 1) = 6 ∧ kF (n + 1 + 1) = 14 ∧ nF (n + 1 + 1) = 6 ∧ kF (n + 1 + 1 + 1) = 14 ∧ nF (n + 1 + 1 + 1) = 448) (hz : Zr n I J R) (h : P (memQ (n + 1 + 1 + 1 + 1) I J (u2 (u2 (u2 (u2 R a 1 (n)) a 2 (n + 1)) a 3 (n + 1 + 1)) a 6 (n + 1 + 1 + 1)) (w + 6 + 6 + 6 + 448))) : CV G (d + 1) 17 [.ref a] (memQ n I J R w) P := by
  have e1 := nwQ (w := w) (w' := 6) hk.1 hk.2.1 hz
  have e2 := nwQ (w := w + 6) (w' := 6) hk.2.2.1 hk.2.2.2.1 (hz.s.r (a := a) (k := 1) (v := n) (by omega))
  have e3 := nwQ (w := w + 6 + 6) (w' := 6) hk.2.2.2.2.1 hk.2.2.2.2.2.1 ((hz.s.r (a := a) (k := 1) (v := n) (by omega)).s.r (a := a) (k := 2) (v := n + 1) (by omega))
  have e4 := nwQ (w := w + 6 + 6 + 6) (w' := 448) hk.2.2.2.2.2.2.1 hk.2.2.2.2.2.2.2 (((hz.s.r (a := a) (k := 1) (v := n) (by omega)).s.r (a := a) (k := 2) (v := n + 1) (by omega)).s.r (a := a) (k := 3) (v := n + 1 + 1) (by omega))
  refine e17 ?_
  simp only [qS, qR, e1, e2, e3, e4]
  refine ⟨ha, ⟨(qK (by omega)).trans h0, by omega⟩, ⟨(qK (by omega)).trans h0, by omega⟩, ?_⟩
  refine b17_0_20 ?_
  simp only [qS, qR, e1, e2, e3, e4]
  refine ⟨⟨(qK (by omega)).trans h0, by omega⟩, ⟨(qK (by omega)).trans h0, by omega⟩, ?_⟩
  refine b17_0_37 ?_
  exact ⟨rfl, h⟩
theorem k61 (ha : a ≠ 0) (han : a < n) (h0 : kF a = 8) (hk : kF (n) = 14 ∧ nF (n) = 6 ∧ kF (n + 1) = 14 ∧ nF (n + 1) = 6 ∧ kF (n + 1 + 1) = 14 ∧ nF (n + 1 + 1) = 6 ∧ kF (n + 1 + 1 + 1) = 14 ∧ nF (n + 1 + 1 + 1) = 6 ∧ kF (n + 1 + 1 + 1 + 1) = 14 ∧ nF (n + 1 + 1 + 1 + 1) = 6) (hz : Zr n I J R) (h : P (memQ (n + 1 + 1 + 1 + 1 + 1) I J (u2 (u2 (u2 (u2 (u2 R a 2 (n)) a 5 (n + 1)) a 6 (n + 1 + 1)) a 7 (n + 1 + 1 + 1)) a 8 (n + 1 + 1 + 1 + 1)) (w + 6 + 6 + 6 + 6 + 6))) : CV G (d + 1) 61 [.ref a] (memQ n I J R w) P := by
  have e1 := nwQ (w := w) (w' := 6) hk.1 hk.2.1 hz
  have e2 := nwQ (w := w + 6) (w' := 6) hk.2.2.1 hk.2.2.2.1 (hz.s.r (a := a) (k := 2) (v := n) (by omega))
  have e3 := nwQ (w := w + 6 + 6) (w' := 6) hk.2.2.2.2.1 hk.2.2.2.2.2.1 ((hz.s.r (a := a) (k := 2) (v := n) (by omega)).s.r (a := a) (k := 5) (v := n + 1) (by omega))
  have e4 := nwQ (w := w + 6 + 6 + 6) (w' := 6) hk.2.2.2.2.2.2.1 hk.2.2.2.2.2.2.2.1 (((hz.s.r (a := a) (k := 2) (v := n) (by omega)).s.r (a := a) (k := 5) (v := n + 1) (by omega)).s.r (a := a) (k := 6) (v := n + 1 + 1) (by omega))
  have e5 := nwQ (w := w + 6 + 6 + 6 + 6) (w' := 6) hk.2.2.2.2.2.2.2.2.1 hk.2.2.2.2.2.2.2.2.2 ((((hz.s.r (a := a) (k := 2) (v := n) (by omega)).s.r (a := a) (k := 5) (v := n + 1) (by omega)).s.r (a := a) (k := 6) (v := n + 1 + 1) (by omega)).s.r (a := a) (k := 7) (v := n + 1 + 1 + 1) (by omega))
  refine e61 ?_
  simp only [qS, qR, e1, e2, e3, e4, e5]
  refine ⟨ha, ⟨(qK (by omega)).trans h0, by omega⟩, ⟨(qK (by omega)).trans h0, by omega⟩, ?_⟩
  refine b61_0_20 ?_
  simp only [qS, qR, e1, e2, e3, e4, e5]
  refine ⟨⟨(qK (by omega)).trans h0, by omega⟩, ⟨(qK (by omega)).trans h0, by omega⟩, ?_⟩
  refine b61_0_36 ?_
  simp only [qS, qR, e1, e2, e3, e4, e5]
  exact ⟨⟨(qK (by omega)).trans h0, by omega⟩, rfl, h⟩
theorem k67 (ha : a ≠ 0) (han : a < n) (h0 : kF a = 9) (hv : v ≠ 0) (hk : kF (n) = 14 ∧ nF (n) = 6 ∧ kF (n + 1) = 14 ∧ nF (n + 1) = 6 ∧ kF (n + 1 + 1) = 14 ∧ nF (n + 1 + 1) = 6 ∧ kF (n + 1 + 1 + 1) = 14 ∧ nF (n + 1 + 1 + 1) = 6 ∧ kF (n + 1 + 1 + 1 + 1) = 14 ∧ nF (n + 1 + 1 + 1 + 1) = 6 ∧ kF (n + 1 + 1 + 1 + 1 + 1) = 14 ∧ nF (n + 1 + 1 + 1 + 1 + 1) = 6 ∧ kF (n + 1 + 1 + 1 + 1 + 1 + 1) = 14 ∧ nF (n + 1 + 1 + 1 + 1 + 1 + 1) = 6) (hz : Zr n I J R) (h : P (memQ (n + 1 + 1 + 1 + 1 + 1 + 1 + 1) I J (u2 (u2 (u2 (u2 (u2 (u2 (u2 (u2 R a 1 (n)) a 2 (n + 1)) a 3 (n + 1 + 1)) a 4 (n + 1 + 1 + 1)) a 5 (n + 1 + 1 + 1 + 1)) a 6 (n + 1 + 1 + 1 + 1 + 1)) a 7 (n + 1 + 1 + 1 + 1 + 1 + 1)) a 8 v) (w + 6 + 6 + 6 + 6 + 6 + 6 + 6))) : CV G (d + 1) 67 [.ref a, .ref v] (memQ n I J R w) P := by
  have e1 := nwQ (w := w) (w' := 6) hk.1 hk.2.1 hz
  have e2 := nwQ (w := w + 6) (w' := 6) hk.2.2.1 hk.2.2.2.1 (hz.s.r (a := a) (k := 1) (v := n) (by omega))
  have e3 := nwQ (w := w + 6 + 6) (w' := 6) hk.2.2.2.2.1 hk.2.2.2.2.2.1 ((hz.s.r (a := a) (k := 1) (v := n) (by omega)).s.r (a := a) (k := 2) (v := n + 1) (by omega))
  have e4 := nwQ (w := w + 6 + 6 + 6) (w' := 6) hk.2.2.2.2.2.2.1 hk.2.2.2.2.2.2.2.1 (((hz.s.r (a := a) (k := 1) (v := n) (by omega)).s.r (a := a) (k := 2) (v := n + 1) (by omega)).s.r (a := a) (k := 3) (v := n + 1 + 1) (by omega))
  have e5 := nwQ (w := w + 6 + 6 + 6 + 6) (w' := 6) hk.2.2.2.2.2.2.2.2.1 hk.2.2.2.2.2.2.2.2.2.1 ((((hz.s.r (a := a) (k := 1) (v := n) (by omega)).s.r (a := a) (k := 2) (v := n + 1) (by omega)).s.r (a := a) (k := 3) (v := n + 1 + 1) (by omega)).s.r (a := a) (k := 4) (v := n + 1 + 1 + 1) (by omega))
  have e6 := nwQ (w := w + 6 + 6 + 6 + 6 + 6) (w' := 6) hk.2.2.2.2.2.2.2.2.2.2.1 hk.2.2.2.2.2.2.2.2.2.2.2.1 (((((hz.s.r (a := a) (k := 1) (v := n) (by omega)).s.r (a := a) (k := 2) (v := n + 1) (by omega)).s.r (a := a) (k := 3) (v := n + 1 + 1) (by omega)).s.r (a := a) (k := 4) (v := n + 1 + 1 + 1) (by omega)).s.r (a := a) (k := 5) (v := n + 1 + 1 + 1 + 1) (by omega))
  have e7 := nwQ (w := w + 6 + 6 + 6 + 6 + 6 + 6) (w' := 6) hk.2.2.2.2.2.2.2.2.2.2.2.2.1 hk.2.2.2.2.2.2.2.2.2.2.2.2.2 ((((((hz.s.r (a := a) (k := 1) (v := n) (by omega)).s.r (a := a) (k := 2) (v := n + 1) (by omega)).s.r (a := a) (k := 3) (v := n + 1 + 1) (by omega)).s.r (a := a) (k := 4) (v := n + 1 + 1 + 1) (by omega)).s.r (a := a) (k := 5) (v := n + 1 + 1 + 1 + 1) (by omega)).s.r (a := a) (k := 6) (v := n + 1 + 1 + 1 + 1 + 1) (by omega))
  refine e67 ?_
  simp only [qS, qR, e1, e2, e3, e4, e5, e6, e7]
  refine ⟨ha, ⟨(qK (by omega)).trans h0, by omega⟩, ⟨(qK (by omega)).trans h0, by omega⟩, ?_⟩
  refine b67_0_20 ?_
  simp only [qS, qR, e1, e2, e3, e4, e5, e6, e7]
  refine ⟨⟨(qK (by omega)).trans h0, by omega⟩, ⟨(qK (by omega)).trans h0, by omega⟩, ?_⟩
  refine b67_0_36 ?_
  simp only [qS, qR, e1, e2, e3, e4, e5, e6, e7]
  refine ⟨⟨(qK (by omega)).trans h0, by omega⟩, ⟨(qK (by omega)).trans h0, by omega⟩, ?_⟩
  refine b67_0_52 ?_
  simp only [qS, qR, e1, e2, e3, e4, e5, e6, e7]
  exact ⟨⟨(qK (by omega)).trans h0, by omega⟩, ⟨(qK (by omega)).trans h0, hv⟩, rfl, h⟩
theorem k87 (ha : a ≠ 0) (han : a < n) (h0 : kF a = 10) (hk : kF (n) = 13 ∧ nF (n) = 1000) (hz : Zr n I J R) (h : P (memQ (n + 1) I J (u2 R a 5 (n)) (w + 1000))) : CV G (d + 1) 87 [.ref a] (memQ n I J R w) P := by
  have e1 := nwQ (w := w) (w' := 1000) hk.1 hk.2 hz
  refine e87 ?_
  simp only [qS, qR, e1]
  exact ⟨ha, ⟨(qK (by omega)).trans h0, by omega⟩, h⟩
end
