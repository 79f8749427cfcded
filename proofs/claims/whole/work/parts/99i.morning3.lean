/-! morning: the class reads a line -/
def HMo (P : Int32 → mm_M → Prop) (r : Nat → Nat) (I : Nat → Nat → Int32) (J : Nat → Nat → Int64) (tp : List Nat) (x : Nat × Nat × LN) : Prop := (x.1 = 0 → ∀ I' J', Fcm I I' J J' → CRD I' J' tp x.2.1 → LAs I' x.2.2 → P 1 (mem r I' J')) ∧ (x.1 ≠ 0 → ∀ I' J', Fcm I I' J J' → I' 2 4 = nI x.1 → P 0 (mem r I' J'))
section
variable {G : GG} {d : Nat} {P : Int32 → mm_M → Prop} {Pv : mm_M → Prop} {Q : Option Value → mm_M → Prop} {r : Nat → Nat} {I : Nat → Nat → Int32} {J : Nat → Nat → Int64} {π : PLN} {σ : Nat → Nat → Nat} {tp : List Nat} {y i j n f N : Nat} {nm : NMT} {ln : LN} {I' I2 : Nat → Nat → Int32} {J' J2 : Nat → Nat → Int64}
theorem Fcm.trans (h : Fcm I I' J J') (h' : Fcm I' I2 J' J2) : Fcm I I2 J J2 := ⟨fun a a1 a2 a3 => (h'.1 a a1 a2 a3).trans (h.1 a a1 a2 a3), h'.2.1.trans h.2.1, fun a a1 a2 a3 => (h'.2.2 a a1 a2 a3).trans (h.2.2 a a1 a2 a3)⟩
theorem Fcr.cm (h : Fcr I I' J J') : Fcm I I' J J' := ⟨fun a a1 _ a3 => h.1 a a1 a3, h.2.1, h.2.2⟩
theorem LAs.fr (h : LAs I ln) (hf : ∀ a, 34 ≤ a → a ≤ 37 → I' a = I a) : LAs I' ln := by
  refine ⟨?_, fun i hi => ?_⟩
  · show I' 34 0 = _; rw [hf 34 (by decide) (by decide)]; exact h.1
  · show I' 35 i = _ ∧ (_ → I' 36 i = _) ∧ (_ → I' 37 i = _)
    rw [hf 35 (by decide) (by decide), hf 36 (by decide) (by decide), hf 37 (by decide) (by decide)]; exact h.2 i hi
theorem n25 (hc : CRD I J tp j) (hla : LAs I ln) (h4 : I 4 0 = nI (nT π) ∧ I 4 1 = nI (nP π)) (hn : NA J nm) (hw : WN π nm) (hT : nT π ≤ 6) (hP : nP π ≤ 6) (hl40 : ln.length ≤ 40) (hE : HMo P r I J tp (mlP tp nm j ln)) : CI G (d + 9) 25 [.ref 33, .ref 2, .ref 4] (mem r I J) P := by
  have hl := hc.l
  have hb : ∀ {k i : Nat}, 1 ≤ k → k ≤ 5 → 0 < flt tp k i ∧ flt tp k i < 2 ^ 20 := fun h1 h2 => flt_b hl h1 h2
  have e9 : wm 12 (wiF tp j) = if 10 ≤ wiF tp j ∧ wiF tp j ≤ 14 then wiF tp j - 9 else 0 := rfl
  have hib : ∀ {b w}, idF b nm w ≤ 6 := fun {b w} => by have := id_b (w := w) (b := b) hw hT hP; split at this <;> omega
  unfold mlP at hE
  refine e25 ⟨rfl, n96 hc (by decide) ?_⟩
  by_cases q1 : ¬ (10 ≤ wiF tp j ∧ wiF tp j ≤ 14)
  · rw [if_pos q1] at hE
    rw [e9, if_neg q1]
    exact ifn (fun z => z (by decide)) ⟨rfl, n98e (k := 1) hc (fun I1 f1 h1 => ⟨Or.inl rfl, hE.2 (by have := hb (k := 1) (i := j) (by decide) (by decide); show flt tp 1 j ≠ 0; omega) I1 J f1.cr.cm h1⟩)⟩
  rw [if_neg q1] at hE
  have q1 := Decidable.not_not.mp q1
  have ew : nI (wm 12 (wiF tp j)) - 1 = nI (wiF tp j - 10) := by rw [e9, if_pos q1, show wiF tp j - 9 = wiF tp j - 10 + 1 by omega, nI_pred]
  rw [ew]
  have h34 : I 34 0 = nI ln.length := hla.1
  refine ifp (nI_nm (by omega)) ?_
  simp only [mKm, mNm, mIm, mIf, mJm, mJf, mRm, sIm, sJm, rwIm, rwJm, kN, nN, rN, true_and, h34]
  by_cases q2 : 40 ≤ ln.length
  · rw [if_pos q2] at hE
    exact ifn (nI_nlt (b := 40) q2 (by omega)) (n98e (k := 5) hc (fun I1 f1 h1 => ⟨Or.inl rfl, hE.2 (by have := hb (k := 5) (i := j) (by decide) (by decide); show flt tp 5 j ≠ 0; omega) I1 J f1.cr.cm h1⟩))
  rw [if_neg q2] at hE
  refine ifp (nI_lt (b := 40) (by omega) (by decide)) (n90 hc (fun I1 J1 f1 c1 => b25_36_43 ?_))
  have p1 : LAs I1 ln := hla.fr (fun a _ _ => f1.1 a (by omega))
  have cm34 : ∀ {I2 I3 : Nat → Nat → Int32} {J2 : Nat → Nat → Int64}, (∀ x, (x < 34 ∨ 37 < x) → I3 x = I2 x) → Fcm I2 I3 J2 J2 := fun g => ⟨fun a _ a2 _ => g a a2, by rw [g 2 (by omega)], fun _ _ _ _ => rfl⟩
  have add0 : ∀ (I2 : Nat → Nat → Int32) (J2 : Nat → Nat → Int64) (k a b : Int32) (f : Nat), 0 < f → f < 2 ^ 20 → LAs I2 ln → I2 2 4 = nI f → Fcm I I2 J J2 → (∀ I' J', Fcm I I' J J' → I' 2 4 = nI f → P 0 (mem r I' J')) → CV G (d + 8) 14 [.ref 34, .int k, .int a, .int b] (mem r I2 J2) (fun N2 => mK N2 2 = 10 ∧ ifP (¬ mI N2 2 4 = 0) (QI P (some (.int 0)) N2) (QI P (some (.int 1)) N2)) := fun I2 J2 k a b f h0 hf hla2 h24 hF hx =>
    n14 hla2 (by omega) (fun I3 g3 _ _ _ _ _ => by
      have e : I3 2 4 = nI f := by rw [g3 2 (by omega)]; exact h24
      exact ⟨rfl, ifp (show ¬ I3 2 4 = 0 by rw [e]; exact nI_ne0 h0 (by omega)) ⟨_, rfl, hx I3 J2 (hF.trans (cm34 g3)) e⟩⟩)
  have add1 : ∀ (I2 : Nat → Nat → Int32) (J2 : Nat → Nat → Int64) (k a b j' : Nat) (va vb : Int32), LAs I2 ln → CRD I2 J2 tp j' → Fcm I I2 J J2 → (k ≠ 4 → va = nI a) → (k < 3 → vb = nI b) → (∀ I' J', Fcm I I' J J' → CRD I' J' tp j' → LAs I' (ln ++ [(k, a, b)]) → P 1 (mem r I' J')) → CV G (d + 8) 14 [.ref 34, .int (nI k), .int va, .int vb] (mem r I2 J2) (fun N2 => mK N2 2 = 10 ∧ ifP (¬ mI N2 2 4 = 0) (QI P (some (.int 0)) N2) (QI P (some (.int 1)) N2)) := fun I2 J2 k a b j' va vb hla2 hc2 hF ha hb hx =>
    n14 hla2 (by omega) (fun I3 g3 z0 zo z1 z2 z3 => by
      have e : I3 2 4 = 0 := by rw [g3 2 (by omega)]; exact hc2.2.2.2
      exact ⟨rfl, ifn (show ¬ ¬ I3 2 4 = 0 from fun z => z e) ⟨_, rfl, hx I3 J2 (hF.trans (cm34 g3)) (hc2.fr (g3 2 (by omega)) (g3 3 (by omega)) rfl) (hla2.add z0 zo z1 (fun q => by rw [z2, ha q]) (fun q => by rw [z3, hb q]))⟩⟩)
  have hF1 : Fcm I I1 J J1 := f1.cr.cm
  have e24 : mI (mem r I1 J1) 2 4 = 0 := c1.2.2.2
  by_cases q14 : wiF tp j = 14
  · rw [if_pos q14] at hE
    rw [q14]
    refine ifp (by decide) ⟨rfl, ifn (fun z => z e24) (ifp (by decide) (x25_119 ⟨rfl, rfl, add1 I1 J1 4 0 0 (j + 1) _ _ p1 c1 hF1 (fun q => absurd rfl q) (fun q => absurd q (by decide)) (hE.1 rfl)⟩))⟩
  rw [if_neg q14] at hE
  have h41 : I1 4 0 = nI (nT π) ∧ I1 4 1 = nI (nP π) := by rw [f1.1 4 (by decide)]; exact h4
  have hn1 : NA J1 nm := by unfold NA; rw [f1.2.2.2 8 (by decide), f1.2.2.2 11 (by decide)]; exact hn
  have nb : ∀ {b no i}, naP tp nm b no i ≠ 0 → 0 < naP tp nm b no i ∧ naP tp nm b no i < 2 ^ 20 := fun {b no i} z => by
    refine ⟨by omega, ?_⟩
    unfold naP
    repeat' split
    all_goals first | exact (flt_b hl (by decide) (by decide)).2 | decide
  have n0 : ∀ {b no i}, naP tp nm b no i = 0 → idF b nm (rkF tp i) ≠ 0 := fun {b no i} z w => by
    unfold naP at z
    have h1 := hb (k := 1) (i := i) (by decide) (by decide)
    have h2 := hb (k := 2) (i := i) (by decide) (by decide)
    split at z
    · omega
    · first | omega | (rw [if_pos w] at z; omega)
  have pr : ∀ {x : Nat}, x ≠ 0 → nI (x - 1) = nI x - 1 := fun {x} z => by
    obtain ⟨t, rfl⟩ : ∃ t, x = t + 1 := ⟨x - 1, by omega⟩
    rw [nI_pred]; rfl
  by_cases q10 : wiF tp j = 10
  · rw [q10] at hE ⊢
    have hE : HMo P r I J tp (if naP tp nm true 0 (j + 1) ≠ 0 then (naP tp nm true 0 (j + 1), j, ln) else if naP tp nm false 0 (j + 2) ≠ 0 then (naP tp nm false 0 (j + 2), j, ln) else (0, j + 3, ln ++ [(0, idF true nm (rkF tp (j + 1)) - 1, idF false nm (rkF tp (j + 2)) - 1)])) := hE
    refine ifn (by decide) (ifp (by decide) (x25_68 ⟨rfl, n26 (b := true) (no := 0) c1 h41 hn1 hw hT hP (by decide) (fun z1 I2 J2 f2 c2 => ⟨rfl, ?_⟩) (fun z1 I2 f2 h2 => ⟨rfl, ifp (show ¬ I2 2 4 = 0 by rw [h2]; exact nI_ne0 (nb z1).1 (by have := (nb z1).2; omega)) (x25_119 ⟨rfl, rfl, ?_⟩)⟩)⟩))
    rotate_left
    · rw [if_pos z1] at hE
      exact add0 I2 J1 _ _ _ _ (nb z1).1 (nb z1).2 (p1.fr (fun a h1 h3 => f2.1 a (by omega) (by omega))) h2 (hF1.trans f2.cm) (hE.2 z1)
    rw [if_neg (fun w => w z1)] at hE
    have p2 : LAs I2 ln := p1.fr (fun a h1 h3 => f2.1 a (by omega))
    have hF2 := hF1.trans f2.cr.cm
    have e24' : I2 2 4 = 0 := c2.2.2.2
    have h42 : I2 4 0 = nI (nT π) ∧ I2 4 1 = nI (nP π) := by rw [f2.1 4 (by decide)]; exact h41
    have hn2 : NA J2 nm := by unfold NA; rw [f2.2.2.2 8 (by decide), f2.2.2.2 11 (by decide)]; exact hn1
    refine ifn (fun w => w e24') (ifn (by decide) (ifn (by decide) (ifp (by decide) (ifn (by decide) ⟨rfl, n26 (b := false) (no := 0) c2 h42 hn2 hw hT hP (by first | decide | exact Nat.le_trans hib (by decide)) (fun z2 I3 J3 f3 c3 => b25_114_119 ⟨rfl, rfl, ?_⟩) (fun z2 I3 f3 h3 => b25_114_119 ⟨rfl, rfl, ?_⟩)⟩))))
    · rw [if_neg (fun w => w z2)] at hE
      exact add1 I3 J3 0 _ _ (j + 3) _ _ (p2.fr (fun a h1 h3 => f3.1 a (by omega))) c3 (hF2.trans f3.cr.cm) (fun _ => rfl) (fun _ => rfl) (hE.1 rfl)
    · rw [if_pos z2] at hE
      exact add0 I3 J2 _ _ _ _ (nb z2).1 (nb z2).2 (p2.fr (fun a h1 h3 => f3.1 a (by omega) (by omega))) h3 (hF2.trans f3.cm) (hE.2 z2)
  by_cases q11 : wiF tp j = 11
  · rw [q11] at hE ⊢
    have hE : HMo P r I J tp (if naP tp nm true 0 (j + 1) ≠ 0 then (naP tp nm true 0 (j + 1), j, ln) else if naP tp nm true (idF true nm (rkF tp (j + 1))) (j + 2) ≠ 0 then (naP tp nm true (idF true nm (rkF tp (j + 1))) (j + 2), j, ln) else (0, j + 3, ln ++ [(1, idF true nm (rkF tp (j + 1)) - 1, idF true nm (rkF tp (j + 2)) - 1)])) := hE
    refine ifn (by decide) (ifn (by decide) (ifn (by decide) (x25_68 ⟨rfl, n26 (b := true) (no := 0) c1 h41 hn1 hw hT hP (by decide) (fun z1 I2 J2 f2 c2 => ⟨rfl, ?_⟩) (fun z1 I2 f2 h2 => ⟨rfl, ifp (show ¬ I2 2 4 = 0 by rw [h2]; exact nI_ne0 (nb z1).1 (by have := (nb z1).2; omega)) (x25_119 ⟨rfl, rfl, ?_⟩)⟩)⟩)))
    rotate_left
    · rw [if_pos z1] at hE
      exact add0 I2 J1 _ _ _ _ (nb z1).1 (nb z1).2 (p1.fr (fun a h1 h3 => f2.1 a (by omega) (by omega))) h2 (hF1.trans f2.cm) (hE.2 z1)
    rw [if_neg (fun w => w z1)] at hE
    have p2 : LAs I2 ln := p1.fr (fun a h1 h3 => f2.1 a (by omega))
    have hF2 := hF1.trans f2.cr.cm
    have e24' : I2 2 4 = 0 := c2.2.2.2
    have h42 : I2 4 0 = nI (nT π) ∧ I2 4 1 = nI (nP π) := by rw [f2.1 4 (by decide)]; exact h41
    have hn2 : NA J2 nm := by unfold NA; rw [f2.2.2.2 8 (by decide), f2.2.2.2 11 (by decide)]; exact hn1
    rw [pr (n0 z1)]
    refine ifn (fun w => w e24') (ifn (by decide) (ifn (by decide) (ifn (by decide) (ifp (by decide) ⟨rfl, n26 (b := true) (no := (idF true nm (rkF tp (j + 1)))) c2 h42 hn2 hw hT hP (by first | decide | exact Nat.le_trans hib (by decide)) (fun z2 I3 J3 f3 c3 => b25_112_119 ⟨rfl, rfl, ?_⟩) (fun z2 I3 f3 h3 => b25_112_119 ⟨rfl, rfl, ?_⟩)⟩))))
    · rw [if_neg (fun w => w z2)] at hE
      exact add1 I3 J3 1 _ _ (j + 3) _ _ (p2.fr (fun a h1 h3 => f3.1 a (by omega))) c3 (hF2.trans f3.cr.cm) (fun _ => (pr (n0 z1)).symm) (fun _ => rfl) (hE.1 rfl)
    · rw [if_pos z2] at hE
      exact add0 I3 J2 _ _ _ _ (nb z2).1 (nb z2).2 (p2.fr (fun a h1 h3 => f3.1 a (by omega) (by omega))) h3 (hF2.trans f3.cm) (hE.2 z2)
  by_cases q12 : wiF tp j = 12
  · rw [q12] at hE ⊢
    have hE : HMo P r I J tp (if naP tp nm false 0 (j + 1) ≠ 0 then (naP tp nm false 0 (j + 1), j, ln) else if naP tp nm false (idF false nm (rkF tp (j + 1))) (j + 2) ≠ 0 then (naP tp nm false (idF false nm (rkF tp (j + 1))) (j + 2), j, ln) else (0, j + 3, ln ++ [(2, idF false nm (rkF tp (j + 1)) - 1, idF false nm (rkF tp (j + 2)) - 1)])) := hE
    refine ifn (by decide) (ifn (by decide) (ifp (by decide) (x25_67 ⟨rfl, n26 (b := false) (no := 0) c1 h41 hn1 hw hT hP (by decide) (fun z1 I2 J2 f2 c2 => ⟨rfl, ?_⟩) (fun z1 I2 f2 h2 => ⟨rfl, ifp (show ¬ I2 2 4 = 0 by rw [h2]; exact nI_ne0 (nb z1).1 (by have := (nb z1).2; omega)) (x25_119 ⟨rfl, rfl, ?_⟩)⟩)⟩)))
    rotate_left
    · rw [if_pos z1] at hE
      exact add0 I2 J1 _ _ _ _ (nb z1).1 (nb z1).2 (p1.fr (fun a h1 h3 => f2.1 a (by omega) (by omega))) h2 (hF1.trans f2.cm) (hE.2 z1)
    rw [if_neg (fun w => w z1)] at hE
    have p2 : LAs I2 ln := p1.fr (fun a h1 h3 => f2.1 a (by omega))
    have hF2 := hF1.trans f2.cr.cm
    have e24' : I2 2 4 = 0 := c2.2.2.2
    have h42 : I2 4 0 = nI (nT π) ∧ I2 4 1 = nI (nP π) := by rw [f2.1 4 (by decide)]; exact h41
    have hn2 : NA J2 nm := by unfold NA; rw [f2.2.2.2 8 (by decide), f2.2.2.2 11 (by decide)]; exact hn1
    rw [pr (n0 z1)]
    refine ifn (fun w => w e24') (ifn (by decide) (ifn (by decide) (ifp (by decide) (ifp (by decide) ⟨rfl, n26 (b := false) (no := (idF false nm (rkF tp (j + 1)))) c2 h42 hn2 hw hT hP (by first | decide | exact Nat.le_trans hib (by decide)) (fun z2 I3 J3 f3 c3 => b25_112_119 ⟨rfl, rfl, ?_⟩) (fun z2 I3 f3 h3 => b25_112_119 ⟨rfl, rfl, ?_⟩)⟩))))
    · rw [if_neg (fun w => w z2)] at hE
      exact add1 I3 J3 2 _ _ (j + 3) _ _ (p2.fr (fun a h1 h3 => f3.1 a (by omega))) c3 (hF2.trans f3.cr.cm) (fun _ => (pr (n0 z1)).symm) (fun _ => rfl) (hE.1 rfl)
    · rw [if_pos z2] at hE
      exact add0 I3 J2 _ _ _ _ (nb z2).1 (nb z2).2 (p2.fr (fun a h1 h3 => f3.1 a (by omega) (by omega))) h3 (hF2.trans f3.cm) (hE.2 z2)
  have q13 : wiF tp j = 13 := by omega
  rw [q13] at hE ⊢
  have hE : HMo P r I J tp (if naP tp nm false 0 (j + 1) ≠ 0 then (naP tp nm false 0 (j + 1), j, ln) else (0, j + 2, ln ++ [(3, idF false nm (rkF tp (j + 1)) - 1, 0)])) := hE
  refine ifn (by decide) (ifn (by decide) (ifp (by decide) (x25_67 ⟨rfl, n26 (b := false) (no := 0) c1 h41 hn1 hw hT hP (by decide) (fun z1 I2 J2 f2 c2 => ⟨rfl, ?_⟩) (fun z1 I2 f2 h2 => ⟨rfl, ifp (show ¬ I2 2 4 = 0 by rw [h2]; exact nI_ne0 (nb z1).1 (by have := (nb z1).2; omega)) (x25_119 ⟨rfl, rfl, ?_⟩)⟩)⟩)))
  rotate_left
  · rw [if_pos z1] at hE
    exact add0 I2 J1 _ _ _ _ (nb z1).1 (nb z1).2 (p1.fr (fun a h1 h3 => f2.1 a (by omega) (by omega))) h2 (hF1.trans f2.cm) (hE.2 z1)
  rw [if_neg (fun w => w z1)] at hE
  have p2 : LAs I2 ln := p1.fr (fun a h1 h3 => f2.1 a (by omega))
  have hF2 := hF1.trans f2.cr.cm
  have e24' : I2 2 4 = 0 := c2.2.2.2
  exact ifn (fun w => w e24') (ifn (by decide) (ifp (by decide) (x25_119 ⟨rfl, rfl, add1 I2 J2 3 _ 0 (j + 2) _ _ p2 c2 hF2 (fun _ => rfl) (fun q => absurd q (by decide)) (hE.1 rfl)⟩)))
end
