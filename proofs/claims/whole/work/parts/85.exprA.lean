/-! E: the class's readers -/
def CPH (I : Nat → Nat → Int32) (φ : List Int32) : Prop := I 30 2 = nI φ.length ∧ ∀ k, k < φ.length → I 31 k = φ.getD k 0
def Fce (I I' : Nat → Nat → Int32) (J J' : Nat → Nat → Int64) : Prop := (∀ a, a ≠ 2 → a ≠ 30 → a ≠ 31 → I' a = I a) ∧ I' 2 0 = I 2 0 ∧ ∀ a, a ≠ 2 → J' a = J a
def HE (P : Int32 → mm_M → Prop) (r : Nat → Nat) (I : Nat → Nat → Int32) (J : Nat → Nat → Int64) (tp : List Nat) (f j : Nat) (ψ : List Int32) : Prop := (f = 0 → ∀ I' J', Fce I I' J J' → CRD I' J' tp j → CPH I' ψ → P 1 (mem r I' J')) ∧ (f ≠ 0 → ∀ I' J', Fce I I' J J' → I' 2 4 = nI f → P 0 (mem r I' J'))
def rkM (m : Nat) : Nat := if m ≤ 4 then 4 - m else if m = 5 then 3 else if m = 6 then 1 else 0
theorem i8c : (Int8.ofInt (-3)).toInt32 = -3 ∧ (Int8.ofInt (-4)).toInt32 = -4 ∧ (Int8.ofInt (-5)).toInt32 = -5 ∧ (Int8.ofInt (-6)).toInt32 = -6 ∧ (Int8.ofInt (-7)).toInt32 = -7 ∧ (Int8.ofInt (-8)).toInt32 = -8 ∧ (Int8.ofInt (-9)).toInt32 = -9 := by decide
section
variable {G : GG} {d : Nat} {P : Int32 → mm_M → Prop} {Pv : mm_M → Prop} {Q : Option Value → mm_M → Prop} {r : Nat → Nat} {I : Nat → Nat → Int32} {J : Nat → Nat → Int64} {π : PLN} {σ : Nat → Nat → Nat} {tp : List Nat} {y i n f : Nat} {φ : List Int32} {I' I2 : Nat → Nat → Int32} {J' J2 : Nat → Nat → Int64}
theorem Fce.rfl' : Fce I I J J := ⟨fun _ _ _ _ => rfl, rfl, fun _ _ => rfl⟩
theorem Fce.trans (h : Fce I I' J J') (h' : Fce I' I2 J' J2) : Fce I I2 J J2 := ⟨fun a a1 a2 a3 => (h'.1 a a1 a2 a3).trans (h.1 a a1 a2 a3), h'.2.1.trans h.2.1, fun a ha => (h'.2.2 a ha).trans (h.2.2 a ha)⟩
theorem Fcl.ce (h : Fcl I I' J J') : Fce I I' J J' := ⟨fun a a1 _ _ => h.1 a a1, h.2.1, h.2.2.2⟩
theorem Fce.flt {v : Int32} : Fce I (u2 I 2 4 v) J J := ⟨fun a a1 _ _ => u2n a1, u2i (by decide), fun _ _ => rfl⟩
theorem HE.tr {j : Nat} {ψ : List Int32} (h : HE P r I J tp f j ψ) (hf : Fce I I' J J') : HE P r I' J' tp f j ψ := ⟨fun z I2 J2 h2 => h.1 z I2 J2 (hf.trans h2), fun z I2 J2 h2 => h.2 z I2 J2 (hf.trans h2)⟩
theorem CPH.fr (h : CPH I φ) (h1 : I' 30 = I 30) (h2 : I' 31 = I 31) : CPH I' φ := by unfold CPH; rw [h1, h2]; exact h
theorem CPH.cl (h : CPH I φ) (hf : Fcl I I' J J') : CPH I' φ := h.fr (hf.1 30 (by decide)) (hf.1 31 (by decide))
theorem ap_newI (l : List Int32) (v : Int32) : (l ++ [v]).getD l.length 0 = v := by
  rw [List.getD_eq_getElem?_getD, List.getElem?_append_right (Nat.le_refl _), Nat.sub_self]; rfl
theorem ap_oldI {l : List Int32} {v : Int32} {k : Nat} (h : k < l.length) : (l ++ [v]).getD k 0 = l.getD k 0 := by
  rw [List.getD_eq_getElem?_getD, List.getD_eq_getElem?_getD, List.getElem?_append_left h]
theorem n7 {v : Int32} (hp : CPH I φ) (hl : φ.length < 1000) (h : ∀ I', Fce I I' J J → I' 2 = I 2 → CPH I' (φ ++ [v]) → Pv (mem r I' J)) : CV G (d + 1) 7 [.ref 30, .int v] (mem r I J) Pv := by
  refine e7 ?_
  have e1 : u2 I 31 φ.length v 30 2 = nI φ.length := by rw [u2n (by decide)]; exact hp.1
  simp only [mKm, mNm, mIm, mIf, mJm, mJf, mRm, sIm, sJm, rwIm, rwJm, kN, nN, rN, true_and, hp.1, ix hl (by decide), e1, nI_1]
  refine ifn (nI_ge (b := 1000) hl (by decide)) (b7_0_30 ⟨rfl, h _ ⟨fun a _ a2 a3 => by rw [u2n a2, u2n a3], by rw [u2n (by decide), u2n (by decide)], fun _ _ => rfl⟩ (by rw [u2n (by decide), u2n (by decide)]) ⟨by rw [u2s, List.length_append]; rfl, fun k hk => ?_⟩⟩)
  rw [List.length_append] at hk
  have hk : k < φ.length + 1 := hk
  rw [u2n (by decide)]
  by_cases e : k = φ.length
  · subst e; rw [u2s, ap_newI]
  · rw [u2i e, ap_oldI (by omega)]; exact hp.2 k (by omega)
/-- a step is added behind what was read -/
theorem n7c {v : Int32} (hc : CRD I J tp i) (hp : CPH I φ) (hl : φ.length < 1000) (h : ∀ I', Fce I I' J J → CRD I' J tp i → CPH I' (φ ++ [v]) → Pv (mem r I' J)) : CV G (d + 1) 7 [.ref 30, .int v] (mem r I J) Pv :=
  n7 hp hl (fun I' hf h2 hp' => h I' hf (hc.fr h2 (hf.1 3 (by decide) (by decide) (by decide)) rfl) hp')
theorem n98e {k : Nat} (hc : CRD I J tp i) (h : ∀ I', Fce I I' J J → I' 2 4 = nI (flt tp k i) → P 0 (mem r I' J)) : CI G (d + 1) 98 [.ref 2, .int (nI k)] (mem r I J) P := n98 hc (h _ Fce.flt u2s)
theorem n105 {c : Nat} (hc : CRD I J tp i) (hcc : c < 2 ^ 31) (hy : sgB tp c i = true → ∀ I' J', Fcl I I' J J' → CRD I' J' tp (i + 1) → P 1 (mem r I' J')) (hn : sgB tp c i = false → ∀ I', Fce I I' J J → I' 2 4 = nI (flt tp 1 i) → P 0 (mem r I' J)) : CI G (d + 6) 105 [.ref 2, .int (nI c)] (mem r I J) P := by
  refine e105 ⟨rfl, n104 hc hcc ?_⟩
  cases e : sgB tp c i with
  | true => exact ifp (by decide) ⟨rfl, n90 hc (fun I1 J1 f1 c1 => hy e I1 J1 f1 c1)⟩
  | false => exact ifn (fun z => z rfl) ⟨rfl, n98e (k := 1) hc (fun I1 f1 h1 => ⟨Or.inl rfl, hn e I1 f1 h1⟩)⟩
def SEc (G : GG) (r : Nat → Nat) (tp : List Nat) (n : Nat) : Prop := ∀ m dp i φ f j ψ, m ≤ 7 → dp ≤ 5 → eP tp n m dp i φ = some (f, j, ψ) → LV tp i → φ.length ≤ i → ∀ (D : Nat) (I : Nat → Nat → Int32) (J : Nat → Nat → Int64) (P : Int32 → mm_M → Prop), 8 + 5 * (5 - dp) + rkM m ≤ D → CRD I J tp i → CPH I φ → HE P r I J tp f j ψ → (m ≤ 4 → CI G D (37 + m) [.ref 20, .ref 2, .int (nI dp)] (mem r I J) P) ∧ (m = 5 → ∀ c, c ≤ i → XX G D (some .boolean) P37 (QI P) 13 [.ref 20, .ref 2, .int (nI dp), .int (nI c), jk] [] (mem r I J)) ∧ (m = 6 → ∀ c, c ≤ i → XX G D (some .boolean) P39 (QI P) 13 [.ref 20, .ref 2, .int (nI dp), .int (nI c), jk] [] (mem r I J)) ∧ (m = 7 → ∀ c, c ≤ i → XX G D (some .boolean) P40 (QI P) 13 [.ref 20, .ref 2, .int (nI dp), .int (nI c)] [] (mem r I J))
theorem se_all : ∀ n, SEc G r tp n := by
  intro n
  induction n with
  | zero => intro m dp i φ f j ψ _ _ h; exact absurd h (by simp [eP])
  | succ n ih =>
    intro m dp i φ f j ψ hm hd h hL hφ D I J P hD hc hp hE
    have hl := hc.l
    have hi := hL.le hl
    unfold eP at h
    by_cases m0 : m = 0
    · subst m0
      rw [if_pos rfl] at h
      refine ⟨fun _ => ?_, fun z => absurd z (by decide), fun z => absurd z (by decide), fun z => absurd z (by decide)⟩
      have hD : 8 + 5 * (5 - dp) + 4 ≤ D := hD
      obtain ⟨x, rfl⟩ : ∃ x, D = x + 1 := ⟨D - 1, by omega⟩
      refine e37 ⟨rfl, ?_⟩
      rcases bnd_inv h with ⟨j1, ψ1, e1, e2⟩ | ⟨qf, e1⟩
      · obtain ⟨χ, a1, a2, a3, a4, -⟩ := eP_ok n 1 dp i φ j1 ψ1 (by decide) hd e1
        refine (ih 1 dp i φ 0 j1 ψ1 (by decide) hd e1 hL hφ x I J _ (by show 8 + 5 * (5 - dp) + 3 ≤ x; omega) hc hp ⟨fun _ I1 J1 f1 c1 p1 => ifp (by decide) ?_, fun z => absurd rfl z⟩).1 (by decide)
        exact (ih 5 dp j1 ψ1 f j ψ (by decide) hd e2 (a4 hL) (by rw [a1, List.length_append]; omega) x I1 J1 P (by show 8 + 5 * (5 - dp) + 3 ≤ x; omega) c1 p1 (hE.tr f1)).2.1 rfl 0 (Nat.zero_le _)
      · exact (ih 1 dp i φ f j ψ (by decide) hd e1 hL hφ x I J _ (by show 8 + 5 * (5 - dp) + 3 ≤ x; omega) hc hp ⟨fun z => absurd z qf, fun _ I1 J1 f1 h4 => ifn (fun z => z rfl) (hE.2 qf I1 J1 f1 h4)⟩).1 (by decide)
    rw [if_neg m0] at h
    by_cases m5 : m = 5
    · subst m5
      rw [if_pos rfl] at h
      refine ⟨fun z => absurd z (by decide), fun _ c hci => ?_, fun z => absurd z (by decide), fun z => absurd z (by decide)⟩
      have hD : 8 + 5 * (5 - dp) + 3 ≤ D := hD
      obtain ⟨x, rfl⟩ : ∃ x, D = x + 8 := ⟨D - 8, by omega⟩
      have goon : (wiF tp i = 24 ∨ wiF tp i = 25) → ∀ v : Int32, v = bI (wiF tp i == 24) → XX G (x + 8) (some .boolean) P37 (QI P) 44 [.ref 20, .ref 2, .int (nI dp), .int (nI c), .int v] [] (mem r I J) := fun q v hv => by
        rw [if_pos q] at h
        have hs0 : soF tp i ≠ 0 := wi_0 (by omega)
        have hL1 := hL.s hs0
        have hi1 := hL.lt hl hs0
        refine x37_44 ⟨rfl, n90 hc (fun I1 J1 f1 c1 => ⟨rfl, ?_⟩)⟩
        have p1 := hp.cl f1
        rcases bnd_inv h with ⟨j1, ψ1, e1, e2⟩ | ⟨qf, e1⟩
        · obtain ⟨χ, a1, a2, a3, a4, -⟩ := eP_ok n 1 dp (i + 1) φ j1 ψ1 (by decide) hd e1
          have a3 := a3 rfl
          have hLj := a4 hL1
          have hj := hLj.le hl
          have hψ : ψ1.length + 1 ≤ j1 := by rw [a1, List.length_append]; omega
          refine (ih 1 dp (i + 1) φ 0 j1 ψ1 (by decide) hd e1 hL1 (by omega) (x + 8) I1 J1 _ (by show 8 + 5 * (5 - dp) + 3 ≤ x + 8; omega) c1 p1 ⟨fun _ I2 J2 f2 c2 p2 => ifp (by decide) ?_, fun z => absurd rfl z⟩).1 (by decide)
          have go : ∀ o, o = opW tp i → CV G (x + 8) 7 [.ref 30, .int o] (mem r I2 J2) (fun N6 => XX G (x + 8) (some .boolean) P37 (QI P) 13 [.ref 20, .ref 2, .int (nI dp), .int (nI c + 1), jk] [] N6) := fun o ho => by
            subst ho
            refine n7c c2 p2 (by omega) (fun I3 f3 c3 p3 => ?_)
            rw [nI_1]
            exact (ih 5 dp j1 _ f j ψ (by decide) hd e2 hLj (by rw [List.length_append]; show ψ1.length + 1 ≤ j1; omega) (x + 8) I3 J2 P (by show 8 + 5 * (5 - dp) + 3 ≤ x + 8; omega) c3 p3 (hE.tr ((f1.ce.trans f2).trans f3))).2.1 rfl (c + 1) (by omega)
          simp only [mKm, mNm, mIm, mIf, mJm, mJf, mRm, sIm, sJm, rwIm, rwJm, kN, nN, rN, true_and, i8c, m2]
          subst hv
          by_cases q24 : wiF tp i = 24
          · rw [q24]
            exact ifn (by decide) (go _ (by unfold opW; rw [if_pos q24]))
          · rw [beq_false_of_ne q24]
            exact ifp rfl (go _ (by unfold opW; rw [if_neg q24]))
        · exact (ih 1 dp (i + 1) φ f j ψ (by decide) hd e1 hL1 (by omega) (x + 8) I1 J1 _ (by show 8 + 5 * (5 - dp) + 3 ≤ x + 8; omega) c1 p1 ⟨fun z => absurd z qf, fun _ I2 J2 f2 h4 => ifn (fun z => z rfl) ⟨_, rfl, hE.2 qf I2 J2 (f1.ce.trans f2) h4⟩⟩).1 (by decide)
      have stop : ¬ (wiF tp i = 24 ∨ wiF tp i = 25) → QI P (some (.int 1)) (mem r I J) := fun q => by
        rw [if_neg q] at h
        cases h
        exact ⟨_, rfl, hE.1 rfl I J Fce.rfl' hc hp⟩
      refine x37_13 (ifb (fun qc => stop (fun q => ?_)) (fun qc => ⟨rfl, n102 hc (by decide) ?_⟩))
      · have := hL.lt hl (wi_0 (show wiF tp i ≠ 0 by omega))
        have := (nI_leI (a := 1000) (by decide) (by omega)).mp qc
        omega
      · show ifP (¬ bI (wiF tp i == 24) = 0) _ _
        rw [bI_0]
        refine ifb (fun q => ?_) (fun q => ⟨rfl, n102 hc (by decide) ?_⟩)
        · have q : wiF tp i = 24 := by simpa using q
          exact goon (Or.inl q) _ rfl
        · have q : wiF tp i ≠ 24 := by simpa using q
          show ifP (¬ bI (wiF tp i == 25) = 0) _ _
          rw [bI_0]
          refine ifb (fun q2 => ?_) (fun q2 => stop ?_)
          · have q2 : wiF tp i = 25 := by simpa using q2
            exact goon (Or.inr q2) _ rfl
          · have q2 : wiF tp i ≠ 25 := by simpa using q2
            omega
    rw [if_neg m5] at h
    by_cases m1 : m = 1
    · subst m1
      rw [if_pos rfl] at h
      refine ⟨fun _ => ?_, fun z => absurd z (by decide), fun z => absurd z (by decide), fun z => absurd z (by decide)⟩
      have hD : 8 + 5 * (5 - dp) + 3 ≤ D := hD
      obtain ⟨x, rfl⟩ : ∃ x, D = x + 9 := ⟨D - 9, by omega⟩
      refine e38 ⟨rfl, ?_⟩
      rcases bnd_inv h with ⟨j1, ψ1, e1, e2⟩ | ⟨qf, e1⟩
      · obtain ⟨χ, a1, a2, a3, a4, -⟩ := eP_ok n 2 dp i φ j1 ψ1 (by decide) hd e1
        have hLj := a4 hL
        have hψ1 : ψ1.length ≤ j1 := by rw [a1, List.length_append]; omega
        refine (ih 2 dp i φ 0 j1 ψ1 (by decide) hd e1 hL hφ (x + 8) I J _ (by show 8 + 5 * (5 - dp) + 2 ≤ x + 8; omega) hc hp ⟨fun _ I1 J1 f1 c1 p1 => ifp (by decide) ⟨rfl, n104 c1 (by decide) ?_⟩, fun z => absurd rfl z⟩).1 (by decide)
        -- behind the sign
        have goon : (sgB tp 60 j1 = true ∨ sgB tp 61 j1 = true) → ∀ v : Int32, v = bI (sgB tp 60 j1) → CV G (x + 8) 90 [.ref 2] (mem r I1 J1) (fun N6 => mK N6 20 = 5 ∧ CI G (x + 8) 39 [.ref 20, .ref 2, .int (nI dp)] N6 (fun v7 N8 => ifP (¬ v7 = 0) (mK N8 20 = 5 ∧ mK N8 (mR N8 20 0) = 7 ∧ ifP (v = 0) (mK N8 (mR N8 (mR N8 20 0) 13) = 1 ∧ CV G (x + 8) 7 [.ref (mR N8 (mR N8 20 0) 13), .int ((Int8.ofInt (-5)).toInt32)] N8 (fun N10 => P 1 N10)) (mK N8 (mR N8 (mR N8 20 0) 13) = 1 ∧ CV G (x + 8) 7 [.ref (mR N8 (mR N8 20 0) 13), .int ((Int8.ofInt (-4)).toInt32)] N8 (fun N12 => P 1 N12))) (P 0 N8))) := fun q v hv => by
          rw [if_pos q] at e2
          have hs0 : soF tp j1 ≠ 0 := by rcases q with q | q <;> exact sgB_0 q
          have hL1 := hLj.s hs0
          refine n90 c1 (fun I2 J2 f2 c2 => ⟨rfl, ?_⟩)
          have p2 := p1.cl f2
          have f12 := f1.trans f2.ce
          rcases bnd_inv e2 with ⟨j2, ψ2, e3, e4⟩ | ⟨qf, e3⟩
          · obtain ⟨χ2, b1, b2, b3, b4, -⟩ := eP_ok n 2 dp (j1 + 1) ψ1 j2 ψ2 (by decide) hd e3
            have hj2 := (b4 hL1).le hl
            have hψ2 : ψ2.length + 1 ≤ j2 := by rw [b1, List.length_append]; omega
            refine (ih 2 dp (j1 + 1) ψ1 0 j2 ψ2 (by decide) hd e3 hL1 (by omega) (x + 8) I2 J2 _ (by show 8 + 5 * (5 - dp) + 2 ≤ x + 8; omega) c2 p2 ⟨fun _ I3 J3 f3 c3 p3 => ifp (by decide) ?_, fun z => absurd rfl z⟩).1 (by decide)
            cases e4
            have go : ∀ o, o = opT tp j1 → CV G (x + 8) 7 [.ref 30, .int o] (mem r I3 J3) (fun N10 => P 1 N10) := fun o ho => by
              subst ho
              exact n7c c3 p3 (by omega) (fun I4 f4 c4 p4 => hE.1 rfl I4 J3 ((f12.trans f3).trans f4) c4 p4)
            simp only [mKm, mNm, mIm, mIf, mJm, mJf, mRm, sIm, sJm, rwIm, rwJm, kN, nN, rN, true_and, i8c]
            subst hv
            cases e5 : sgB tp 60 j1 with
            | true => exact ifn (by decide) (go _ (by unfold opT; rw [e5]; rfl))
            | false => exact ifp rfl (go _ (by unfold opT; rw [e5]; rfl))
          · exact (ih 2 dp (j1 + 1) ψ1 f j ψ (by decide) hd e3 hL1 (by omega) (x + 8) I2 J2 _ (by show 8 + 5 * (5 - dp) + 2 ≤ x + 8; omega) c2 p2 ⟨fun z => absurd z qf, fun _ I3 J3 f3 h4 => ifn (fun z => z rfl) (hE.2 qf I3 J3 (f12.trans f3) h4)⟩).1 (by decide)
        refine ifb (fun q => ⟨rfl, goon (Or.inl (by rw [bI_0] at q; simpa using q)) _ rfl⟩) (fun q => ⟨rfl, n104 (c := 61) c1 (by decide) ?_⟩)
        refine ifb (fun q2 => ⟨rfl, goon (Or.inr (by rw [bI_0] at q2; simpa using q2)) _ rfl⟩) (fun q2 => ?_)
        rw [if_neg (by rw [bI_0] at q q2; simp at q q2; rw [q, q2]; simp)] at e2
        cases e2
        exact hE.1 rfl I1 J1 f1 c1 p1
      · exact (ih 2 dp i φ f j ψ (by decide) hd e1 hL hφ (x + 8) I J _ (by show 8 + 5 * (5 - dp) + 2 ≤ x + 8; omega) hc hp ⟨fun z => absurd z qf, fun _ I1 J1 f1 h4 => ifn (fun z => z rfl) (hE.2 qf I1 J1 f1 h4)⟩).1 (by decide)
    rw [if_neg m1] at h
    by_cases m2' : m = 2
    · subst m2'
      rw [if_pos rfl] at h
      refine ⟨fun _ => ?_, fun z => absurd z (by decide), fun z => absurd z (by decide), fun z => absurd z (by decide)⟩
      have hD : 8 + 5 * (5 - dp) + 2 ≤ D := hD
      obtain ⟨x, rfl⟩ : ∃ x, D = x + 1 := ⟨D - 1, by omega⟩
      refine e39 ⟨rfl, ?_⟩
      rcases bnd_inv h with ⟨j1, ψ1, e1, e2⟩ | ⟨qf, e1⟩
      · obtain ⟨χ, a1, a2, a3, a4, -⟩ := eP_ok n 3 dp i φ j1 ψ1 (by decide) hd e1
        refine (ih 3 dp i φ 0 j1 ψ1 (by decide) hd e1 hL hφ x I J _ (by show 8 + 5 * (5 - dp) + 1 ≤ x; omega) hc hp ⟨fun _ I1 J1 f1 c1 p1 => ifp (by decide) ?_, fun z => absurd rfl z⟩).1 (by decide)
        exact (ih 6 dp j1 ψ1 f j ψ (by decide) hd e2 (a4 hL) (by rw [a1, List.length_append]; omega) x I1 J1 P (by show 8 + 5 * (5 - dp) + 1 ≤ x; omega) c1 p1 (hE.tr f1)).2.2.1 rfl 0 (Nat.zero_le _)
      · exact (ih 3 dp i φ f j ψ (by decide) hd e1 hL hφ x I J _ (by show 8 + 5 * (5 - dp) + 1 ≤ x; omega) hc hp ⟨fun z => absurd z qf, fun _ I1 J1 f1 h4 => ifn (fun z => z rfl) (hE.2 qf I1 J1 f1 h4)⟩).1 (by decide)
    rw [if_neg m2'] at h
    by_cases m6 : m = 6
    · subst m6
      rw [if_pos rfl] at h
      refine ⟨fun z => absurd z (by decide), fun z => absurd z (by decide), fun _ c hci => ?_, fun z => absurd z (by decide)⟩
      have hD : 8 + 5 * (5 - dp) + 1 ≤ D := hD
      obtain ⟨x, rfl⟩ : ∃ x, D = x + 8 := ⟨D - 8, by omega⟩
      have goon : (sgB tp 43 i = true ∨ sgB tp 45 i = true) → ∀ v : Int32, v = bI (sgB tp 43 i) → CV G (x + 8) 90 [.ref 2] (mem r I J) (fun N4 => mK N4 20 = 5 ∧ CI G (x + 8) 40 [.ref 20, .ref 2, .int (nI dp)] N4 (fun v5 N6 => ifP (¬ v5 = 0) (mK N6 20 = 5 ∧ mK N6 (mR N6 20 0) = 7 ∧ ifP (v = 0) (mK N6 (mR N6 (mR N6 20 0) 13) = 1 ∧ CV G (x + 8) 7 [.ref (mR N6 (mR N6 20 0) 13), .int ((Int8.ofInt (-7)).toInt32)] N6 (fun N8 => BB G (x + 8) (some .boolean) P39 (QI P) S39_76_84 84 [.ref 20, .ref 2, .int (nI dp), .int (nI c + 1), .int v] [] N8)) (mK N6 (mR N6 (mR N6 20 0) 13) = 1 ∧ CV G (x + 8) 7 [.ref (mR N6 (mR N6 20 0) 13), .int ((Int8.ofInt (-6)).toInt32)] N6 (fun N10 => BB G (x + 8) (some .boolean) P39 (QI P) S39_78_84 84 [.ref 20, .ref 2, .int (nI dp), .int (nI c + 1), .int v] [] N10))) (QI P (some (.int 0)) N6))) := fun q v hv => by
        rw [if_pos q] at h
        have hs0 : soF tp i ≠ 0 := by rcases q with q | q <;> exact sgB_0 q
        have hL1 := hL.s hs0
        refine n90 hc (fun I1 J1 f1 c1 => ⟨rfl, ?_⟩)
        have p1 := hp.cl f1
        rcases bnd_inv h with ⟨j1, ψ1, e1, e2⟩ | ⟨qf, e1⟩
        · obtain ⟨χ, a1, a2, a3, a4, -⟩ := eP_ok n 3 dp (i + 1) φ j1 ψ1 (by decide) hd e1
          have a3 := a3 rfl
          have hLj := a4 hL1
          have hj := hLj.le hl
          have hψ : ψ1.length + 1 ≤ j1 := by rw [a1, List.length_append]; omega
          refine (ih 3 dp (i + 1) φ 0 j1 ψ1 (by decide) hd e1 hL1 (by omega) (x + 8) I1 J1 _ (by show 8 + 5 * (5 - dp) + 1 ≤ x + 8; omega) c1 p1 ⟨fun _ I2 J2 f2 c2 p2 => ifp (by decide) ?_, fun z => absurd rfl z⟩).1 (by decide)
          have go : ∀ I3, Fce I2 I3 J2 J2 → CRD I3 J2 tp j1 → CPH I3 (ψ1 ++ [opS tp i]) → XX G (x + 8) (some .boolean) P39 (QI P) 13 [.ref 20, .ref 2, .int (nI dp), .int (nI c + 1), jk] [] (mem r I3 J2) := fun I3 f3 c3 p3 => by
            rw [nI_1]
            exact (ih 6 dp j1 _ f j ψ (by decide) hd e2 hLj (by rw [List.length_append]; show ψ1.length + 1 ≤ j1; omega) (x + 8) I3 J2 P (by show 8 + 5 * (5 - dp) + 1 ≤ x + 8; omega) c3 p3 (hE.tr ((f1.ce.trans f2).trans f3))).2.2.1 rfl (c + 1) (by omega)
          simp only [mKm, mNm, mIm, mIf, mJm, mJf, mRm, sIm, sJm, rwIm, rwJm, kN, nN, rN, true_and, i8c]
          subst hv
          cases e5 : sgB tp 43 i with
          | true =>
            refine ifn (by decide) (n7c c2 p2 (by omega) (fun I3 f3 c3 p3 => b39_78_84 (go I3 f3 c3 ?_)))
            unfold opS; rw [e5]; exact p3
          | false =>
            refine ifp rfl (n7c c2 p2 (by omega) (fun I3 f3 c3 p3 => b39_76_84 (go I3 f3 c3 ?_)))
            unfold opS; rw [e5]; exact p3
        · exact (ih 3 dp (i + 1) φ f j ψ (by decide) hd e1 hL1 (by omega) (x + 8) I1 J1 _ (by show 8 + 5 * (5 - dp) + 1 ≤ x + 8; omega) c1 p1 ⟨fun z => absurd z qf, fun _ I2 J2 f2 h4 => ifn (fun z => z rfl) ⟨_, rfl, hE.2 qf I2 J2 (f1.ce.trans f2) h4⟩⟩).1 (by decide)
      have stop : ¬ (sgB tp 43 i = true ∨ sgB tp 45 i = true) → QI P (some (.int 1)) (mem r I J) := fun q => by
        rw [if_neg q] at h
        cases h
        exact ⟨_, rfl, hE.1 rfl I J Fce.rfl' hc hp⟩
      refine x39_13 (ifb (fun qc => stop (fun q => ?_)) (fun qc => ⟨rfl, n104 (c := 43) hc (by decide) ?_⟩))
      · have := hL.lt hl (by rcases q with q | q <;> exact sgB_0 q)
        have := (nI_leI (a := 1000) (by decide) (by omega)).mp qc
        omega
      · refine ifb (fun q => ⟨rfl, goon (Or.inl (by rw [bI_0] at q; simpa using q)) _ rfl⟩) (fun q => ⟨rfl, n104 (c := 45) hc (by decide) ?_⟩)
        refine ifb (fun q2 => ⟨rfl, goon (Or.inr (by rw [bI_0] at q2; simpa using q2)) _ rfl⟩) (fun q2 => stop ?_)
        rw [bI_0] at q q2; simp at q q2; rw [q, q2]; simp
    rw [if_neg m6] at h
    by_cases m3 : m = 3
    · subst m3
      rw [if_pos rfl] at h
      refine ⟨fun _ => ?_, fun z => absurd z (by decide), fun z => absurd z (by decide), fun z => absurd z (by decide)⟩
      have hD : 8 + 5 * (5 - dp) + 1 ≤ D := hD
      obtain ⟨x, rfl⟩ : ∃ x, D = x + 1 := ⟨D - 1, by omega⟩
      refine e40 ⟨rfl, ?_⟩
      rcases bnd_inv h with ⟨j1, ψ1, e1, e2⟩ | ⟨qf, e1⟩
      · obtain ⟨χ, a1, a2, a3, a4, -⟩ := eP_ok n 4 dp i φ j1 ψ1 (by decide) hd e1
        refine (ih 4 dp i φ 0 j1 ψ1 (by decide) hd e1 hL hφ x I J _ (by show 8 + 5 * (5 - dp) + 0 ≤ x; omega) hc hp ⟨fun _ I1 J1 f1 c1 p1 => ifp (by decide) ?_, fun z => absurd rfl z⟩).1 (by decide)
        exact (ih 7 dp j1 ψ1 f j ψ (by decide) hd e2 (a4 hL) (by rw [a1, List.length_append]; omega) x I1 J1 P (by show 8 + 5 * (5 - dp) + 0 ≤ x; omega) c1 p1 (hE.tr f1)).2.2.2 rfl 0 (Nat.zero_le _)
      · exact (ih 4 dp i φ f j ψ (by decide) hd e1 hL hφ x I J _ (by show 8 + 5 * (5 - dp) + 0 ≤ x; omega) hc hp ⟨fun z => absurd z qf, fun _ I1 J1 f1 h4 => ifn (fun z => z rfl) (hE.2 qf I1 J1 f1 h4)⟩).1 (by decide)
    rw [if_neg m3] at h
    by_cases m7 : m = 7
    · subst m7
      rw [if_pos rfl] at h
      refine ⟨fun z => absurd z (by decide), fun z => absurd z (by decide), fun z => absurd z (by decide), fun _ c hci => ?_⟩
      have hD : 8 + 5 * (5 - dp) + 0 ≤ D := hD
      obtain ⟨x, rfl⟩ : ∃ x, D = x + 8 := ⟨D - 8, by omega⟩
      have stop : sgB tp 42 i = false → QI P (some (.int 1)) (mem r I J) := fun q => by
        rw [if_neg (by rw [q]; decide)] at h
        cases h
        exact ⟨_, rfl, hE.1 rfl I J Fce.rfl' hc hp⟩
      refine x40_13 (ifb (fun qc => stop ?_) (fun qc => ⟨rfl, n104 (c := 42) hc (by decide) ?_⟩))
      · cases e : sgB tp 42 i with
        | false => rfl
        | true =>
          have := hL.lt hl (sgB_0 e)
          have := (nI_leI (a := 1000) (by decide) (by omega)).mp qc
          omega
      · cases e : sgB tp 42 i with
        | false => exact ifn (fun z => z rfl) (stop e)
        | true =>
          rw [if_pos e] at h
          have hs0 := sgB_0 e
          have hL1 := hL.s hs0
          refine ifp (by decide) ⟨rfl, n90 hc (fun I1 J1 f1 c1 => ⟨rfl, ?_⟩)⟩
          have p1 := hp.cl f1
          rcases bnd_inv h with ⟨j1, ψ1, e1, e2⟩ | ⟨qf, e1⟩
          · obtain ⟨χ, a1, a2, a3, a4, -⟩ := eP_ok n 4 dp (i + 1) φ j1 ψ1 (by decide) hd e1
            have a3 := a3 rfl
            have hLj := a4 hL1
            have hj := hLj.le hl
            have hψ : ψ1.length + 1 ≤ j1 := by rw [a1, List.length_append]; omega
            refine (ih 4 dp (i + 1) φ 0 j1 ψ1 (by decide) hd e1 hL1 (by omega) (x + 8) I1 J1 _ (by show 8 + 5 * (5 - dp) + 0 ≤ x + 8; omega) c1 p1 ⟨fun _ I2 J2 f2 c2 p2 => ifp (by decide) ?_, fun z => absurd rfl z⟩).1 (by decide)
            simp only [mKm, mNm, mIm, mIf, mJm, mJf, mRm, sIm, sJm, rwIm, rwJm, kN, nN, rN, true_and, i8c]
            refine n7c c2 p2 (by omega) (fun I3 f3 c3 p3 => ?_)
            rw [nI_1]
            exact (ih 7 dp j1 _ f j ψ (by decide) hd e2 hLj (by rw [List.length_append]; show ψ1.length + 1 ≤ j1; omega) (x + 8) I3 J2 P (by show 8 + 5 * (5 - dp) + 0 ≤ x + 8; omega) c3 p3 (hE.tr ((f1.ce.trans f2).trans f3))).2.2.2 rfl (c + 1) (by omega)
          · exact (ih 4 dp (i + 1) φ f j ψ (by decide) hd e1 hL1 (by omega) (x + 8) I1 J1 _ (by show 8 + 5 * (5 - dp) + 0 ≤ x + 8; omega) c1 p1 ⟨fun z => absurd z qf, fun _ I2 J2 f2 h4 => ifn (fun z => z rfl) ⟨_, rfl, hE.2 qf I2 J2 (f1.ce.trans f2) h4⟩⟩).1 (by decide)
    rw [if_neg m7] at h
    have m4 : m = 4 := by omega
    subst m4
    refine ⟨fun _ => ?_, fun z => absurd z (by decide), fun z => absurd z (by decide), fun z => absurd z (by decide)⟩
    have hD : 8 + 5 * (5 - dp) + 0 ≤ D := hD
    obtain ⟨x, rfl⟩ : ∃ x, D = x + 8 := ⟨D - 8, by omega⟩
    have h4 := (tok_b tp i).2.2.2.2
    -- what follows, by what the token is
    have body : ∀ a : Bool, a = (soF tp i == 2) → ¬ (soF tp i ≠ 2 ∧ wiF tp i ≠ 23 ∧ sgB tp 40 i = false ∧ isF tp i = false) → XX G (x + 7) (some .boolean) P41 (QI P) 64 [.ref 20, .ref 2, .int (nI dp), .int (bI a), .int (bI (wiF tp i == 23)), .int (bI (sgB tp 40 i)), .int (nI (wm 9 (wiF tp i)) - 1), jk] [] (mem r I J) := fun a ha q1 => by
      rw [if_neg q1] at h
      refine x41_64 ?_
      by_cases q2 : 5 ≤ dp
      · rw [if_pos q2] at h
        have e : f = flt tp 5 i := ((Prod.mk.inj (Option.some.inj h)).1).symm
        have hf5 := (flt_b hl (j := i) (k := 5) (by decide) (by decide)).1
        refine ifn (show ¬ nI dp < nI 5 from nI_nlt q2 (by omega)) ⟨rfl, n98e (k := 5) hc (fun I1 f1 h1 => ⟨Or.inl rfl, _, rfl, hE.2 (by omega) I1 J f1 (by rw [e]; exact h1)⟩)⟩
      · rw [if_neg q2] at h
        refine ifp (show nI dp < nI 5 from nI_lt (by omega) (by decide)) ?_
        by_cases q3 : soF tp i = 2
        · -- a number
          rw [if_pos q3] at h
          have hs0 : soF tp i ≠ 0 := by omega
          have hi1 := hL.lt hl hs0
          have ew : wiF tp i = 0 := by unfold wiF; rw [if_neg (by omega)]
          have eg : sgB tp 40 i = false := by unfold sgB; rw [q3]; rfl
          have ea : a = true := by rw [ha, q3]; rfl
          rw [ea, ew, eg]
          refine ifn (by decide) ?_
          simp only [mKm, mNm, mIm, mIf, mJm, mJf, mRm, sIm, sJm, rwIm, rwJm, kN, nN, rN, true_and, hc.n q3]
          refine n90 hc (fun I1 J1 f1 c1 => ifp (by first | exact rfl | exact trivial) (ifp (by first | exact rfl | exact trivial) ?_))
          cases h
          simp only [mKm, mNm, mIm, mIf, mJm, mJf, mRm, sIm, sJm, rwIm, rwJm, kN, nN, rN, true_and]
          exact n7c c1 (hp.cl f1) (by omega) (fun I2 f2 c2 p2 => ⟨_, rfl, hE.1 rfl I2 J1 (f1.ce.trans f2) c2 p2⟩)
        · rw [if_neg q3] at h
          have ea : a = false := by rw [ha, beq_false_of_ne q3]
          rw [ea]
          refine ifp rfl (b41_86_93 ⟨rfl, n90 hc (fun I1 J1 f1 c1 => ?_)⟩)
          have p1 := hp.cl f1
          cases q4 : sgB tp 40 i with
          | true =>
            have hs0 := sgB_0 q4
            have hL1 := hL.s hs0
            rw [if_pos q4] at h
            refine ifn (by decide) ⟨rfl, ?_⟩
            rw [nI_1]
            rcases bnd_inv h with ⟨j1, ψ1, e1, e2⟩ | ⟨qf, e1⟩
            · refine (ih 0 (dp + 1) (i + 1) φ 0 j1 ψ1 (by decide) (by omega) e1 hL1 (by omega) (x + 7) I1 J1 _ (by show 8 + 5 * (5 - (dp + 1)) + 4 ≤ x + 7; omega) c1 p1 ⟨fun _ I2 J2 f2 c2 p2 => ifn (by decide) ⟨rfl, ?_⟩, fun z => absurd rfl z⟩).1 (by decide)
              refine n105 (c := 41) c2 (by decide) (fun q5 I3 J3 f3 c3 => ?_) (fun q5 I3 f3 h3 => ?_)
              · rw [if_pos q5] at e2
                cases e2
                exact ifn (by decide) ⟨_, rfl, hE.1 rfl I3 J3 ((f1.ce.trans f2).trans f3.ce) c3 (p2.cl f3)⟩
              · rw [if_neg (by rw [q5]; decide)] at e2
                have ef : f = flt tp 1 j1 := ((Prod.mk.inj (Option.some.inj e2)).1).symm
                have hf1 := (flt_b hl (j := j1) (k := 1) (by decide) (by decide)).1
                exact ifp rfl ⟨_, rfl, hE.2 (by omega) I3 J2 ((f1.ce.trans f2).trans f3) (by rw [ef]; exact h3)⟩
            · exact (ih 0 (dp + 1) (i + 1) φ f j ψ (by decide) (by omega) e1 hL1 (by omega) (x + 7) I1 J1 _ (by show 8 + 5 * (5 - (dp + 1)) + 4 ≤ x + 7; omega) c1 p1 ⟨fun z => absurd z qf, fun _ I2 J2 f2 h4 => ifp rfl ⟨_, rfl, hE.2 qf I2 J2 (f1.ce.trans f2) h4⟩⟩).1 (by decide)
          | false =>
            rw [if_neg (by rw [q4]; decide)] at h
            refine ifp rfl ?_
            by_cases q5 : wiF tp i = 23
            · have hs0 := wi_0 (show wiF tp i ≠ 0 by omega)
              have hL1 := hL.s hs0
              rw [if_pos q5] at h
              rw [q5]
              refine ifn (by decide) ⟨rfl, ?_⟩
              rw [nI_1]
              rcases bnd_inv h with ⟨j1, ψ1, e1, e2⟩ | ⟨qf, e1⟩
              · obtain ⟨χ, a1, a2, a3, a4, -⟩ := eP_ok n 4 (dp + 1) (i + 1) φ j1 ψ1 (by decide) (by omega) e1
                have hj := (a4 hL1).le hl
                have hψ : ψ1.length + 1 ≤ j1 := by rw [a1, List.length_append]; omega
                refine (ih 4 (dp + 1) (i + 1) φ 0 j1 ψ1 (by decide) (by omega) e1 hL1 (by omega) (x + 7) I1 J1 _ (by show 8 + 5 * (5 - (dp + 1)) + 0 ≤ x + 7; omega) c1 p1 ⟨fun _ I2 J2 f2 c2 p2 => ifp (by decide) ?_, fun z => absurd rfl z⟩).1 (by decide)
                cases e2
                simp only [mKm, mNm, mIm, mIf, mJm, mJf, mRm, sIm, sJm, rwIm, rwJm, kN, nN, rN, true_and]
                exact n7c c2 p2 (by omega) (fun I3 f3 c3 p3 => ⟨_, rfl, hE.1 rfl I3 J2 ((f1.ce.trans f2).trans f3) c3 p3⟩)
              · exact (ih 4 (dp + 1) (i + 1) φ f j ψ (by decide) (by omega) e1 hL1 (by omega) (x + 7) I1 J1 _ (by show 8 + 5 * (5 - (dp + 1)) + 0 ≤ x + 7; omega) c1 p1 ⟨fun z => absurd z qf, fun _ I2 J2 f2 h4 => ifn (fun z => z rfl) ⟨_, rfl, hE.2 qf I2 J2 (f1.ce.trans f2) h4⟩⟩).1 (by decide)
            · rw [if_neg q5] at h
              have hF : isF tp i = true := by
                cases e : isF tp i with
                | true => rfl
                | false => exact absurd ⟨q3, q5, q4, e⟩ q1
              have hb := isF_b hF
              have hs0 := wi_0 (show wiF tp i ≠ 0 by omega)
              have hi1 := hL.lt hl hs0
              have e9 : nI (wm 9 (wiF tp i)) - 1 = nI (wiF tp i - 26) := by
                have : wm 9 (wiF tp i) = wiF tp i - 26 + 1 := by
                  show (if 26 ≤ wiF tp i ∧ wiF tp i ≤ 29 then wiF tp i - 25 else 0) = _
                  rw [if_pos hb]; omega
                rw [this, nI_pred]
              rw [beq_false_of_ne q5, e9]
              refine ifp rfl ?_
              cases h
              simp only [mKm, mNm, mIm, mIf, mJm, mJf, mRm, sIm, sJm, rwIm, rwJm, kN, nN, rN, true_and, i8c]
              exact n7c c1 p1 (by omega) (fun I2 f2 c2 p2 => ⟨_, rfl, hE.1 rfl I2 J1 (f1.ce.trans f2) c2 p2⟩)
    -- what is asked of the token
    have ask : ∀ a : Bool, a = (soF tp i == 2) → ifP (¬ bI a = 0) (XX G (x + 7) (some .boolean) P41 (QI P) 64 [.ref 20, .ref 2, .int (nI dp), .int (bI a), .int (bI (wiF tp i == 23)), .int (bI (sgB tp 40 i)), .int (nI (wm 9 (wiF tp i)) - 1), jk] [] (mem r I J)) (ifP (¬ bI (wiF tp i == 23) = 0) (XX G (x + 7) (some .boolean) P41 (QI P) 64 [.ref 20, .ref 2, .int (nI dp), .int (bI a), .int (bI (wiF tp i == 23)), .int (bI (sgB tp 40 i)), .int (nI (wm 9 (wiF tp i)) - 1), jk] [] (mem r I J)) (ifP (¬ bI (sgB tp 40 i) = 0) (XX G (x + 7) (some .boolean) P41 (QI P) 64 [.ref 20, .ref 2, .int (nI dp), .int (bI a), .int (bI (wiF tp i == 23)), .int (bI (sgB tp 40 i)), .int (nI (wm 9 (wiF tp i)) - 1), jk] [] (mem r I J)) (ifP (¬ nI (wm 9 (wiF tp i)) - 1 = -1) (XX G (x + 7) (some .boolean) P41 (QI P) 64 [.ref 20, .ref 2, .int (nI dp), .int (bI a), .int (bI (wiF tp i == 23)), .int (bI (sgB tp 40 i)), .int (nI (wm 9 (wiF tp i)) - 1), jk] [] (mem r I J)) (mK (mem r I J) 2 = 10 ∧ CI G (x + 7) 98 [.ref 2, .int 1] (mem r I J) (fun v1 N2 => (v1 = 0 ∨ v1 = 1) ∧ QI P (some (.int v1)) N2))))) := fun a ha => by
      have hwb := wiF_b tp i
      have e9 : wm 9 (wiF tp i) = if 26 ≤ wiF tp i ∧ wiF tp i ≤ 29 then wiF tp i - 25 else 0 := rfl
      have hle : wm 9 (wiF tp i) ≤ 29 := by rw [e9]; split <;> omega
      rw [bI_0, bI_0, bI_0, sh_m1 (by omega)]
      refine ifb (fun q => body a ha (fun z => q (by rw [ha, beq_false_of_ne z.1]))) (fun q => ifb (fun q2 => body a ha (fun z => q2 (beq_false_of_ne z.2.1))) (fun q2 => ifb (fun q3 => body a ha (fun z => q3 z.2.2.1)) (fun q3 => ifb (fun q4 => body a ha (fun z => ?_)) (fun q4 => ?_))))
      · refine q4 ?_
        have z4 := z.2.2.2
        unfold isF inW at z4
        rw [e9]
        by_cases q5 : 26 ≤ wiF tp i ∧ wiF tp i ≤ 29
        · rw [decide_eq_true (show 25 < wiF tp i by omega), decide_eq_true (show wiF tp i ≤ 25 + 4 by omega)] at z4
          exact absurd z4 (by decide)
        · rw [if_neg q5]
      · have c1 : soF tp i ≠ 2 := fun z => by rw [ha, z] at q; exact q (by decide)
        have c2 : wiF tp i ≠ 23 := fun z => by rw [z] at q2; exact q2 (by decide)
        have c3 : sgB tp 40 i = false := by simpa using q3
        have c4 : isF tp i = false := by
          rw [e9, Decidable.not_not] at q4
          unfold isF inW
          by_cases q5 : 26 ≤ wiF tp i ∧ wiF tp i ≤ 29
          · rw [if_pos q5] at q4; omega
          · by_cases q6 : 25 < wiF tp i
            · rw [decide_eq_false (show ¬ wiF tp i ≤ 25 + 4 by omega), Bool.and_false]
            · rw [decide_eq_false q6, Bool.false_and]
        rw [if_pos ⟨c1, c2, c3, c4⟩] at h
        have e : f = flt tp 1 i := ((Prod.mk.inj (Option.some.inj h)).1).symm
        have hf1 := (flt_b hl (j := i) (k := 1) (by decide) (by decide)).1
        exact ⟨rfl, n98e (k := 1) hc (fun I1 f1 h1 => ⟨Or.inl rfl, _, rfl, hE.2 (by omega) I1 J f1 (by rw [e]; exact h1)⟩)⟩
    refine e41 ?_
    simp only [mKm, mNm, mIm, mIf, mJm, mJf, mRm, sIm, sJm, rwIm, rwJm, kN, nN, rN, true_and, hc.s]
    refine ifb (fun q => n102 hc (by decide) (b41_12_22 ⟨rfl, n104 (c := 40) hc (by decide) ⟨rfl, n96 hc (by decide) (b41_12_38 ?_)⟩⟩)) (fun q => n102 hc (by decide) (b41_13_22 ⟨rfl, n104 (c := 40) hc (by decide) ⟨rfl, n96 hc (by decide) (b41_13_38 ?_)⟩⟩))
    · have q3 : soF tp i ≠ 2 := fun z => q (by rw [z]; rfl)
      exact ask false (by rw [beq_false_of_ne q3])
    · have q3 : soF tp i = 2 := (nI_eq (b := 2) (by omega) (by decide)).mp (Decidable.not_not.mp q)
      exact ask true (by rw [q3]; rfl)
end
