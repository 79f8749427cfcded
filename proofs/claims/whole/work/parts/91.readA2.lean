/-! the class reads the other lines -/
def eR (tp : List Nat) (j : Nat) (s : OS) : Nat × Nat × OS := match eP tp 5006 0 0 j s.1.2 with
  | some (f, j', ψ) => (f, j', (s.1.1, ψ), s.2.1, s.2.2 + 8)
  | none => (1, j, s)
noncomputable def lnP (tp : List Nat) (j : Nat) (s : OS) : Nat × Nat × OS :=
  if wiF tp j = 1 then trP tp j s
  else if wiF tp j = 4 then peP tp j s
  else if ¬ (6 ≤ wiF tp j ∧ wiF tp j ≤ 9) then (flt tp 1 j, j, s)
  else if s.2.2 / 2 ^ (wiF tp j - 6) % 2 = 1 then (flt tp 3 j, j, s)
  else if wiF tp j = 6 then (if numP tp 0 5 (j + 1) ≠ 0 then (numP tp 0 5 (j + 1), j, s) else (0, j + 2, set1 s.1 2 (nuF tp (j + 1)), s.2.1, s.2.2 + 1))
  else if wiF tp j = 7 then (if numP tp 1 6 (j + 1) ≠ 0 then (numP tp 1 6 (j + 1), j, s) else (0, j + 2, set1 s.1 3 (nuF tp (j + 1)), s.2.1, s.2.2 + 2))
  else if wiF tp j = 8 then ((frP tp 12 0 (j + 1) s.1).1, (frP tp 12 0 (j + 1) s.1).2.1, (frP tp 12 0 (j + 1) s.1).2.2, s.2.1, s.2.2 + 4)
  else eR tp (j + 1) s
theorem on_A1 : ∀ m, m < 16 → ∀ b, b < 4 → (decide (((nI (4 * m) >>> (nI (b + 2) &&& 31)) &&& 1) = 0)) = !(m / 2 ^ b % 2 == 1) := by decide +kernel
theorem on_A2 : ∀ m, m < 16 → ∀ b, b < 4 → (m / 2 ^ b % 2 == 1) = true ∨ (nI (4 * m) ||| ((1 : Int32) <<< (nI (b + 2) &&& 31)) = nI (4 * (m + 2 ^ b)) ∧ m + 2 ^ b < 16 ∧ (b ≠ 3 ∨ m < 8) ∧ (b = 3 ∨ 8 ≤ m + 2 ^ b ∨ m < 8)) := by decide +kernel
theorem on_A {m b : Nat} (hm : m < 16) (hb : b < 4) : ((((nI (4 * m) >>> (nI (b + 2) &&& 31)) &&& 1) = 0) ↔ ¬ m / 2 ^ b % 2 = 1) ∧ (¬ m / 2 ^ b % 2 = 1 → nI (4 * m) ||| ((1 : Int32) <<< (nI (b + 2) &&& 31)) = nI (4 * (m + 2 ^ b)) ∧ m + 2 ^ b < 16 ∧ (b = 3 → m < 8) ∧ (b ≠ 3 → m + 2 ^ b < 8 → m < 8)) := by
  have h1 := on_A1 m hm b hb
  have h2 := on_A2 m hm b hb
  refine ⟨?_, fun q => ?_⟩
  · rw [← decide_eq_true_iff (p := ((nI (4 * m) >>> (nI (b + 2) &&& 31)) &&& 1) = 0), h1]
    simp
  · rcases h2 with h2 | ⟨a1, a2, a3, a4⟩
    · exact absurd (by simpa using h2) q
    · exact ⟨a1, a2, fun z => by omega, fun z z2 => by omega⟩
section
variable {G : GG} {d : Nat} {P : Int32 → mm_M → Prop} {Pv : mm_M → Prop} {Q : Option Value → mm_M → Prop} {r : Nat → Nat} {I : Nat → Nat → Int32} {J : Nat → Nat → Int64} {π : PLN} {σ : Nat → Nat → Nat} {tp : List Nat} {y i j n f : Nat} {nm : NMT} {s : OS} {I' I2 : Nat → Nat → Int32} {J' J2 : Nat → Nat → Int64}
theorem set1_2 {v x : Nat} : (set1 π x v).2 = π.2 := rfl
theorem CPO.one {x0 v : Nat} (h : CPO I J s) (hx : x0 = 2 ∨ x0 = 3) (h1 : I' 21 x0 = nI v) (h2 : ∀ x, x ≠ x0 → I' 21 x = I 21 x) (ho : ∀ x, x ≠ 21 → 20 ≤ x → x ≤ 31 → I' x = I x) (h25 : J' 25 = J 25) (h28 : J' 28 = J 28) : CPO I' J' (set1 s.1 x0 v, s.2.1, s.2.2) := by
  obtain ⟨⟨c1, c2, c3, c4, c5, c6⟩, hn, hoo⟩ := h
  have st : ∀ x i, x ≠ x0 → (set1 s.1 x0 v).1 x i = s.1.1 x i := fun x i hx => if_neg hx
  refine ⟨⟨fun x hx' => ?_, fun i hi => ?_, fun i hi => ?_, fun i hi => ?_, ?_, fun i hi => ?_⟩, fun i hi => ?_, ?_⟩
  · show I' 21 x = nI ((set1 s.1 x0 v).1 x 0)
    by_cases e : x = x0
    · rw [e, h1, show (set1 s.1 x0 v).1 x0 0 = v from if_pos rfl]
    · rw [st x 0 e, h2 x e]; exact c1 x hx'
  · have hi : i < nT s.1 := by rw [show nT s.1 = nT (set1 s.1 x0 v) from (st 0 0 (by omega)).symm]; exact hi
    show I' 22 i = nI ((set1 s.1 x0 v).1 5 i) ∧ I' 23 i = nI ((set1 s.1 x0 v).1 6 i) ∧ I' 24 i = nI ((set1 s.1 x0 v).1 7 i)
    rw [st 5 i (by omega), st 6 i (by omega), st 7 i (by omega), ho 22 (by decide) (by decide) (by decide), ho 23 (by decide) (by decide) (by decide), ho 24 (by decide) (by decide) (by decide)]
    exact c2 i hi
  · have hi : i < nP s.1 := by rw [show nP s.1 = nP (set1 s.1 x0 v) from (st 1 0 (by omega)).symm]; exact hi
    show I' 26 i = nI ((set1 s.1 x0 v).1 9 i) ∧ I' 27 i = nI ((set1 s.1 x0 v).1 10 i)
    rw [st 9 i (by omega), st 10 i (by omega), ho 26 (by decide) (by decide) (by decide), ho 27 (by decide) (by decide) (by decide)]
    exact c3 i hi
  · have hi : i < nFr s.1 := by rw [show nFr s.1 = nFr (set1 s.1 x0 v) from (st 4 0 (by omega)).symm]; exact hi
    show I' 29 i = nI ((set1 s.1 x0 v).1 12 i)
    rw [st 12 i (by omega), ho 29 (by decide) (by decide) (by decide)]
    exact c4 i hi
  · show I' 30 2 = _
    rw [ho 30 (by decide) (by decide) (by decide)]; exact c5
  · show I' 31 i = _
    rw [ho 31 (by decide) (by decide) (by decide)]; exact c6 i hi
  · show (_ → J' 25 _ = _) ∧ (_ → J' 28 _ = _)
    rw [h25, h28]; exact hn i hi
  · rw [ho 20 (by decide) (by decide) (by decide)]; exact hoo
theorem CPO.yr {y v : Nat} (h : CPO I J s) (hy : y ≤ nFr s.1) (h1 : I' 21 4 = nI (y + 1)) (h2 : ∀ x, x ≠ 4 → I' 21 x = I 21 x) (h29 : I' 29 = u2 I 29 y (nI v) 29) (ho : ∀ x, x ≠ 21 → x ≠ 29 → 20 ≤ x → x ≤ 31 → I' x = I x) (h25 : J' 25 = J 25) (h28 : J' 28 = J 28) : CPO I' J' (setY s.1 y v, s.2.1, s.2.2) := by
  obtain ⟨⟨c1, c2, c3, c4, c5, c6⟩, hn, hoo⟩ := h
  have st : ∀ x i, x ≠ 4 → x ≠ 12 → (setY s.1 y v).1 x i = s.1.1 x i := fun x i hx hx2 => by simp [setY, hx, hx2]
  refine ⟨⟨fun x hx' => ?_, fun i hi => ?_, fun i hi => ?_, fun i hi => ?_, ?_, fun i hi => ?_⟩, fun i hi => ?_, ?_⟩
  · show I' 21 x = nI ((setY s.1 y v).1 x 0)
    by_cases e : x = 4
    · rw [e, h1]; rfl
    · rw [st x 0 e (by omega), h2 x e]; exact c1 x hx'
  · have hi : i < nT s.1 := hi
    show I' 22 i = nI ((setY s.1 y v).1 5 i) ∧ I' 23 i = nI ((setY s.1 y v).1 6 i) ∧ I' 24 i = nI ((setY s.1 y v).1 7 i)
    rw [st 5 i (by omega) (by omega), st 6 i (by omega) (by omega), st 7 i (by omega) (by omega), ho 22 (by decide) (by decide) (by decide) (by decide), ho 23 (by decide) (by decide) (by decide) (by decide), ho 24 (by decide) (by decide) (by decide) (by decide)]
    exact c2 i hi
  · have hi : i < nP s.1 := hi
    show I' 26 i = nI ((setY s.1 y v).1 9 i) ∧ I' 27 i = nI ((setY s.1 y v).1 10 i)
    rw [st 9 i (by omega) (by omega), st 10 i (by omega) (by omega), ho 26 (by decide) (by decide) (by decide) (by decide), ho 27 (by decide) (by decide) (by decide) (by decide)]
    exact c3 i hi
  · have hi : i < y + 1 := hi
    show I' 29 i = nI ((setY s.1 y v).1 12 i)
    have e12 : (setY s.1 y v).1 12 i = if i = y then v else s.1.1 12 i := by simp [setY]
    rw [e12, h29]
    by_cases e : i = y
    · rw [e, u2s, if_pos rfl]
    · rw [u2i e, if_neg e]; exact c4 i (by omega)
  · show I' 30 2 = _
    rw [ho 30 (by decide) (by decide) (by decide) (by decide)]; exact c5
  · show I' 31 i = _
    rw [ho 31 (by decide) (by decide) (by decide) (by decide)]; exact c6 i hi
  · show (_ → J' 25 _ = _) ∧ (_ → J' 28 _ = _)
    rw [h25, h28]; exact hn i hi
  · rw [ho 20 (by decide) (by decide) (by decide) (by decide)]; exact hoo
theorem n33 {b : Nat} (hc : CRD I J tp j) (hp : CPO I J s) (hm : s.2.2 < 16) (hb4 : b < 4) (hy : ¬ s.2.2 / 2 ^ b % 2 = 1 → ∀ I' J', Fcr I I' J J' → CRD I' J' tp (j + 1) → CPO I' J' (s.1, s.2.1, s.2.2 + 2 ^ b) → P 1 (mem r I' J')) (hn : s.2.2 / 2 ^ b % 2 = 1 → ∀ I', Fcr I I' J J → I' 2 4 = nI (flt tp 3 j) → P 0 (mem r I' J)) : CI G (d + 6) 33 [.ref 20, .ref 2, .int (nI (b + 2))] (mem r I J) P := by
  obtain ⟨t1, t2⟩ := on_A hm hb4
  have ho := hp.2.2
  refine e33 ?_
  simp only [mKm, mNm, mIm, mIf, mJm, mJf, mRm, sIm, sJm, rwIm, rwJm, kN, nN, rN, true_and, ho]
  by_cases q : s.2.2 / 2 ^ b % 2 = 1
  · exact ifn (fun z => t1.mp z q) (n98e (k := 3) hc (fun I1 f1 h1 => ⟨Or.inl rfl, hn q I1 f1.cr h1⟩))
  · refine ifp (t1.mpr q) ?_
    rw [(t2 q).1]
    have c1 : CRD (u2 I 20 1 (nI (4 * (s.2.2 + 2 ^ b)))) J tp j := hc.fr (by rw [u2n (by decide)]) (by rw [u2n (by decide)]) rfl
    have p1 : CPO (u2 I 20 1 (nI (4 * (s.2.2 + 2 ^ b)))) J (s.1, s.2.1, s.2.2 + 2 ^ b) := by
      obtain ⟨h1, h2, -⟩ := hp
      refine ⟨?_, h2, u2s⟩
      have e : ∀ a, a ≠ 3 → u2 I 20 1 (nI (4 * (s.2.2 + 2 ^ b))) (a + 17) = I (a + 17) := fun a ha => u2n (by omega)
      obtain ⟨c1, c2, c3, c4, c5, c6⟩ := h1
      exact ⟨fun k hk => by show u2 I 20 1 _ (4 + 17) k = _; rw [e 4 (by decide)]; exact c1 k hk, fun i hi => by show u2 I 20 1 _ (5 + 17) i = _ ∧ u2 I 20 1 _ (6 + 17) i = _ ∧ u2 I 20 1 _ (7 + 17) i = _; rw [e 5 (by decide), e 6 (by decide), e 7 (by decide)]; exact c2 i hi, fun i hi => by show u2 I 20 1 _ (9 + 17) i = _ ∧ u2 I 20 1 _ (10 + 17) i = _; rw [e 9 (by decide), e 10 (by decide)]; exact c3 i hi, fun i hi => by show u2 I 20 1 _ (12 + 17) i = _; rw [e 12 (by decide)]; exact c4 i hi, by show u2 I 20 1 _ (13 + 17) 2 = _; rw [e 13 (by decide)]; exact c5, fun i hi => by show u2 I 20 1 _ (14 + 17) i = _; rw [e 14 (by decide)]; exact c6 i hi⟩
    exact n90 c1 (fun I1 J1 f1 c2 => hy q I1 J1 ((Fcr.set (by decide)).trans f1.cr) c2 (p1.cl f1))
theorem n34 (hc : CRD I J tp j) (hp : CPO I J s) (hE : HO P r I J tp (if numP tp 0 5 j ≠ 0 then (numP tp 0 5 j, j, s) else (0, j + 1, set1 s.1 2 (nuF tp j), s.2.1, s.2.2))) : CI G (d + 8) 34 [.ref 20, .ref 2] (mem r I J) P := by
  refine e34 ⟨rfl, rfl, n103 (lo := 0) (hi := 5) hc (by decide) (by decide) (fun q I1 J1 f1 c1 => ?_) (fun q I1 f1 h1 => ?_)⟩
  · rw [if_neg (fun z => z q)] at hE
    have e1 : u2 I1 21 2 (nI (nuF tp j)) 2 4 = 0 := by rw [u2n (by decide)]; exact c1.2.2.2
    simp only [mKm, mNm, mIm, mIf, mJm, mJf, mRm, sIm, sJm, rwIm, rwJm, kN, nN, rN, true_and, e1]
    exact ifn (fun z => z (by first | exact rfl | exact trivial)) (hE.1 rfl _ _ (f1.cr.trans (Fcr.set (by decide))) (c1.fr (by rw [u2n (by decide)]) (by rw [u2n (by decide)]) rfl) (hp.one (Or.inl rfl) u2s (fun x hx => by rw [u2i hx, f1.1 21 (by decide)]) (fun x h1 h2 h3 => by rw [u2n h1, f1.1 x (by omega)]) (f1.2.2.2 25 (by decide)) (f1.2.2.2 28 (by decide))))
  · rw [if_pos q] at hE
    have hb := num_b hc.l q
    have e1 : u2 I1 21 2 (-1) 2 4 = nI (numP tp 0 5 j) := by rw [u2n (by decide)]; exact h1
    simp only [mKm, mNm, mIm, mIf, mJm, mJf, mRm, sIm, sJm, rwIm, rwJm, kN, nN, rN, true_and, e1]
    exact ifp (nI_ne0 hb.1 (by omega)) (hE.fl rfl hb.1 (f1.trans (Fcr.set (by decide))) e1)
theorem n35 (hc : CRD I J tp j) (hp : CPO I J s) (hE : HO P r I J tp (if numP tp 1 6 j ≠ 0 then (numP tp 1 6 j, j, s) else (0, j + 1, set1 s.1 3 (nuF tp j), s.2.1, s.2.2))) : CI G (d + 8) 35 [.ref 20, .ref 2] (mem r I J) P := by
  refine e35 ⟨rfl, rfl, n103 (lo := 1) (hi := 6) hc (by decide) (by decide) (fun q I1 J1 f1 c1 => ?_) (fun q I1 f1 h1 => ?_)⟩
  · rw [if_neg (fun z => z q)] at hE
    have e1 : u2 I1 21 3 (nI (nuF tp j)) 2 4 = 0 := by rw [u2n (by decide)]; exact c1.2.2.2
    simp only [mKm, mNm, mIm, mIf, mJm, mJf, mRm, sIm, sJm, rwIm, rwJm, kN, nN, rN, true_and, e1]
    exact ifn (fun z => z (by first | exact rfl | exact trivial)) (hE.1 rfl _ _ (f1.cr.trans (Fcr.set (by decide))) (c1.fr (by rw [u2n (by decide)]) (by rw [u2n (by decide)]) rfl) (hp.one (Or.inr rfl) u2s (fun x hx => by rw [u2i hx, f1.1 21 (by decide)]) (fun x h1 h2 h3 => by rw [u2n h1, f1.1 x (by omega)]) (f1.2.2.2 25 (by decide)) (f1.2.2.2 28 (by decide))))
  · rw [if_pos q] at hE
    have hb := num_b hc.l q
    have e1 : u2 I1 21 3 (-1) 2 4 = nI (numP tp 1 6 j) := by rw [u2n (by decide)]; exact h1
    simp only [mKm, mNm, mIm, mIf, mJm, mJf, mRm, sIm, sJm, rwIm, rwJm, kN, nN, rN, true_and, e1]
    exact ifp (nI_ne0 hb.1 (by omega)) (hE.fl rfl hb.1 (f1.trans (Fcr.set (by decide))) e1)
theorem HO.tr {x : Nat × Nat × OS} (h : HO P r I J tp x) (hf : Fcr I I' J J') : HO P r I' J' tp x := ⟨fun z I2 J2 h2 => h.1 z I2 J2 (hf.trans h2), fun z I2 J2 h2 => h.2 z I2 J2 (hf.trans h2)⟩
theorem n36l : ∀ n y j (I : Nat → Nat → Int32) (J : Nat → Nat → Int64) (s : OS), n + y = 12 → (y ≠ 0 → soF tp j = 2) → y ≤ nFr s.1 → CRD I J tp j → CPO I J s → HO P r I J tp ((frP tp n y j s.1).1, (frP tp n y j s.1).2.1, (frP tp n y j s.1).2.2, s.2.1, s.2.2) → XX G (d + 7) (some .boolean) P36 (QI P) 2 [.ref 20, .ref 2, .int (nI y), jk] [] (mem r I J) := by
  intro n
  induction n with
  | zero =>
    intro y j I J s hn hs hF hc hp hE
    have e12 : y = 12 := by omega
    subst e12
    have hs := hs (by decide)
    have hnu := tok_n hs
    have hl := hc.l
    have hb4 := flt_b hl (j := j) (k := 4) (by decide) (by decide)
    have hb5 := flt_b hl (j := j) (k := 5) (by decide) (by decide)
    refine x36_2 (ifp (by decide) ?_)
    simp only [mKm, mNm, mIm, mIf, mJm, mJf, mRm, sIm, sJm, rwIm, rwJm, kN, nN, rN, true_and, hc.n hs]
    unfold frP at hE
    refine ifb (fun q => n98e (k := 5) hc (fun I1 f1 h1 => ⟨Or.inl rfl, _, rfl, ?_⟩)) (fun q => n98e (k := 4) hc (fun I1 f1 h1 => ⟨Or.inl rfl, _, rfl, ?_⟩))
    · have q := (nI_leI (b := 3) (by omega) (by decide)).mp q
      exact hE.fl (if_neg (by omega)) hb5.1 f1.cr h1
    · have q : ¬ nuF tp j ≤ 3 := fun z => q ((nI_leI (b := 3) (by omega) (by decide)).mpr z)
      exact hE.fl (if_pos (by omega)) hb4.1 f1.cr h1
  | succ n ih =>
    intro y j I J s hn hs hF hc hp hE
    have hl := hc.l
    refine x36_2 (ifn (fun z => absurd ((nI_leI (a := 12) (by decide) (by omega)).mp z) (by omega)) ⟨rfl, n103 (lo := 0) (hi := 3) hc (by decide) (by decide) (fun q I1 J1 f1 c1 => ?_) (fun q I1 f1 h1 => ?_)⟩)
    · have hnu := num_s hl q
      unfold frP at hE
      rw [if_neg (fun z => z q)] at hE
      refine ifp (nI_nm (by omega)) ?_
      simp only [mKm, mNm, mIm, mIf, mJm, mJf, mRm, sIm, sJm, rwIm, rwJm, kN, nN, rN, true_and, ix (show y < 12 by omega) (by decide), nI_1]
      refine b36_22_42 ?_
      have e1 : u2 (u2 I1 29 y (nI (nuF tp j))) 21 4 (nI (y + 1)) 2 1 = nI (soF tp (j + 1)) := by rw [u2n (by decide), u2n (by decide)]; exact c1.s
      have g : Fcr I (u2 (u2 I1 29 y (nI (nuF tp j))) 21 4 (nI (y + 1))) J J1 := (f1.cr.trans (Fcr.set (by decide))).trans (Fcr.set (by decide))
      have c2 : CRD (u2 (u2 I1 29 y (nI (nuF tp j))) 21 4 (nI (y + 1))) J1 tp (j + 1) := c1.fr (by rw [u2n (by decide), u2n (by decide)]) (by rw [u2n (by decide), u2n (by decide)]) rfl
      have p2 : CPO (u2 (u2 I1 29 y (nI (nuF tp j))) 21 4 (nI (y + 1))) J1 (setY s.1 y (nuF tp j), s.2.1, s.2.2) := by
        refine hp.yr hF u2s (fun x hx => by rw [u2i hx, u2n (by decide), f1.1 21 (by decide)]) ?_ (fun x h1 h2 h3 h4 => by rw [u2n h1, u2n h2, f1.1 x (by omega)]) (f1.2.2.2 25 (by decide)) (f1.2.2.2 28 (by decide))
        rw [u2n (by decide)]
        funext x
        by_cases e : x = y
        · rw [e, u2s, u2s]
        · rw [u2i e, u2i e, f1.1 29 (by decide)]
      have h4 := (tok_b tp (j + 1)).2.2.2.2
      simp only [mKm, mNm, mIm, mIf, mJm, mJf, mRm, sIm, sJm, rwIm, rwJm, kN, nN, rN, true_and, e1]
      by_cases q2 : soF tp (j + 1) = 2
      · rw [if_pos q2] at hE
        refine ifp (by rw [q2]; rfl) ?_
        rw [nI_1]
        exact ih (y + 1) (j + 1) _ _ (setY s.1 y (nuF tp j), s.2.1, s.2.2) (by omega) (fun _ => q2) (Nat.le_refl _) c2 p2 (hE.tr g)
      · rw [if_neg q2] at hE
        exact ifn (fun z => q2 ((nI_eq (b := 2) (by omega) (by decide)).mp z)) ⟨_, rfl, hE.1 rfl _ _ g c2 p2⟩
    · have hb := num_b hl q
      unfold frP at hE
      rw [if_pos q] at hE
      exact ifn (fun z => z rfl) ⟨_, rfl, hE.fl rfl hb.1 f1 h1⟩
theorem n37 (hc : CRD I J tp j) (hL : LV tp j) (hp : CPO I J s) (hφ : s.1.2 = []) (hE : HO P r I J tp ((eR tp j s).1, (eR tp j s).2.1, (eR tp j s).2.2.1, (eR tp j s).2.2.2.1, s.2.2)) : CI G (d + 37) 37 [.ref 20, .ref 2, .int 0] (mem r I J) P := by
  have hl := hc.l
  obtain ⟨f, j', ψ, e⟩ := eP_some hl 5006 0 0 j s.1.2 (by decide) (by decide) hL (by have : rkE 0 = 4 := rfl; omega)
  have er : eR tp j s = (f, j', (s.1.1, ψ), s.2.1, s.2.2 + 8) := by unfold eR; rw [e]
  rw [er] at hE
  obtain ⟨⟨c1, c2, c3, c4, c5, c6⟩, hn, ho⟩ := hp
  refine (se_all 5006 0 0 j s.1.2 f j' ψ (by decide) (by decide) e hL (by rw [hφ]; exact Nat.zero_le _) (d + 37) I J P (by show 8 + 5 * (5 - 0) + 4 ≤ d + 37; omega) hc ⟨c5, c6⟩ ⟨fun z I1 J1 f1 d1 p1 => ?_, fun z I1 J1 f1 h1 => hE.2 z I1 J1 f1.cr h1⟩).1 (by decide)
  have e : ∀ a, a ≠ 2 → a ≠ 30 → a ≠ 31 → I1 a = I a := f1.1
  refine hE.1 z I1 J1 f1.cr d1 ⟨⟨fun k hk => ?_, fun i hi => ?_, fun i hi => ?_, fun i hi => ?_, p1.1, p1.2⟩, fun i hi => ?_, ?_⟩
  · show I1 21 k = _; rw [e 21 (by decide) (by decide) (by decide)]; exact c1 k hk
  · show I1 22 i = _ ∧ I1 23 i = _ ∧ I1 24 i = _; rw [e 22 (by decide) (by decide) (by decide), e 23 (by decide) (by decide) (by decide), e 24 (by decide) (by decide) (by decide)]; exact c2 i hi
  · show I1 26 i = _ ∧ I1 27 i = _; rw [e 26 (by decide) (by decide) (by decide), e 27 (by decide) (by decide) (by decide)]; exact c3 i hi
  · show I1 29 i = _; rw [e 29 (by decide) (by decide) (by decide)]; exact c4 i hi
  · show (_ → J1 25 _ = _) ∧ (_ → J1 28 _ = _)
    rw [f1.2.2 25 (by decide), f1.2.2 28 (by decide)]; exact hn i hi
  · rw [e 20 (by decide) (by decide) (by decide)]; exact ho
end
