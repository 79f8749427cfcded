/-! E: the other side's readers -/
def OPH (I : Nat → Nat → Int32) (φ : List Int32) : Prop := I 247 13 = nI φ.length ∧ ∀ k, k < φ.length → I 254 (1100 + k) = opF (φ.getD k 0) ∧ I 255 (1100 + k) = agF (φ.getD k 0)
def Fox (I I' : Nat → Nat → Int32) : Prop := (∀ a, a ≠ 247 → a ≠ 254 → a ≠ 255 → I' a = I a) ∧ (∀ k, k ≠ 7 → k ≠ 8 → k ≠ 13 → I' 247 k = I 247 k) ∧ ∀ k, k < 1100 → I' 254 k = I 254 k ∧ I' 255 k = I 255 k
def HD (P : mm_M → Prop) (r : Nat → Nat) (I : Nat → Nat → Int32) (J : Nat → Nat → Int64) (tp : List Nat) (N B f j : Nat) (ψ : List Int32) : Prop := (f = 0 → ∀ I', Fox I I' → RT I' J tp N j → OPH I' ψ → P (mem r I' J)) ∧ (f ≠ 0 → ∀ I' c, Fox I I' → FA I' f → I' 247 13 = nI c → c ≤ B → P (mem r I' J))
def bM (m dp : Nat) : Nat := 1000 + 4 * (5 - dp) + (if m = 4 then 0 else if m = 3 ∨ m = 7 then 1 else if m = 2 ∨ m = 6 then 2 else if m = 1 then 3 else 4)
section
variable {G : GG} {d : Nat} {P : Int32 → mm_M → Prop} {Pv : mm_M → Prop} {Q : Option Value → mm_M → Prop} {r : Nat → Nat} {I : Nat → Nat → Int32} {J : Nat → Nat → Int64} {π : PLN} {σ : Nat → Nat → Nat} {tp : List Nat} {y i n f N c : Nat} {φ : List Int32} {I' I2 : Nat → Nat → Int32}
theorem Fox.rfl' : Fox I I := ⟨fun _ _ _ _ => rfl, fun _ _ _ _ => rfl, fun _ _ => ⟨rfl, rfl⟩⟩
theorem Fox.trans (h : Fox I I') (h' : Fox I' I2) : Fox I I2 := ⟨fun a a1 a2 a3 => (h'.1 a a1 a2 a3).trans (h.1 a a1 a2 a3), fun a a1 a2 a3 => (h'.2.1 a a1 a2 a3).trans (h.2.1 a a1 a2 a3), fun k hk => ⟨((h'.2.2 k hk).1).trans (h.2.2 k hk).1, ((h'.2.2 k hk).2).trans (h.2.2 k hk).2⟩⟩
theorem Fox.s7 {v : Int32} : Fox I (u2 I 247 7 v) := ⟨fun a a1 _ _ => u2n a1, fun k k1 _ _ => u2i k1, fun k _ => ⟨by rw [u2n (by decide)], by rw [u2n (by decide)]⟩⟩
theorem Fox.s8 {v : Int32} : Fox I (u2 I 247 8 v) := ⟨fun a a1 _ _ => u2n a1, fun k _ k1 _ => u2i k1, fun k _ => ⟨by rw [u2n (by decide)], by rw [u2n (by decide)]⟩⟩
theorem HD.tr {j B B' : Nat} {ψ : List Int32} (h : HD Pv r I J tp N B f j ψ) (hf : Fox I I') (hB : B' ≤ B) : HD Pv r I' J tp N B' f j ψ := ⟨fun z I2 h2 => h.1 z I2 (hf.trans h2), fun z I2 c h2 h3 h4 h5 => h.2 z I2 c (hf.trans h2) h3 h4 (Nat.le_trans h5 hB)⟩
theorem OPH.s7 {v : Int32} (h : OPH I φ) : OPH (u2 I 247 7 v) φ := by
  unfold OPH; rw [u2i (by decide), u2n (by decide), u2n (by decide)]; exact h
theorem OPH.s8 {v : Int32} (h : OPH I φ) : OPH (u2 I 247 8 v) φ := by
  unfold OPH; rw [u2i (by decide), u2n (by decide), u2n (by decide)]; exact h
theorem emitI {o a : Int32} : Fox I (u2 (u2 (u2 I 254 (1100 + c) o) 255 (1100 + c) a) 247 13 (nI (c + 1))) := ⟨fun x x1 x2 x3 => by rw [u2n x1, u2n x3, u2n x2], fun k k1 k2 k3 => by rw [u2i k3, u2n (by decide), u2n (by decide)], fun k hk => ⟨by rw [u2n (by decide), u2n (by decide), u2i (by omega)], by rw [u2n (by decide), u2i (by omega), u2n (by decide)]⟩⟩
theorem m196r {o a : Int32} (hc : I 247 13 = nI c) (hl : c ≤ 1024) (h : Pv (mem r (u2 (u2 (u2 I 254 (1100 + c) o) 255 (1100 + c) a) 247 13 (nI (c + 1))) J)) : CV G (d + 1) 196 [.ref 247, .int o, .int a] (mem r I J) Pv := by
  have e0 : (1100 : Int32) + nI c = nI (1100 + c) := nI_add 1100 c
  have e1 : u2 I 254 (1100 + c) o 247 13 = nI c := by rw [u2n (by decide)]; exact hc
  have e2 : u2 (u2 I 254 (1100 + c) o) 255 (1100 + c) a 247 13 = nI c := by rw [u2n (by decide)]; exact e1
  refine e196 ?_
  simp only [mKm, mNm, mIm, mIf, mJm, mJf, mRm, sIm, sJm, rwIm, rwJm, kN, nN, rN, true_and, hc, e0, ix (show 1100 + c < 2200 by omega) (by decide)]
  refine b196_0_14 ?_
  simp only [mKm, mNm, mIm, mIf, mJm, mJf, mRm, sIm, sJm, rwIm, rwJm, kN, nN, rN, true_and, e1, e0, ix (show 1100 + c < 2200 by omega) (by decide)]
  refine b196_0_28 ?_
  simp only [mKm, mNm, mIm, mIf, mJm, mJf, mRm, sIm, sJm, rwIm, rwJm, kN, nN, rN, true_and, e2, nI_1]
  first | exact ⟨rfl, h⟩ | exact h
/-- a step is added behind what was read -/
theorem m196 {v o a : Int32} (hr : RT I J tp N i) (hp : OPH I φ) (hl : φ.length ≤ 1000) (ho : o = opF v) (ha : a = agF v) (h : ∀ I', Fox I I' → RT I' J tp N i → OPH I' (φ ++ [v]) → Pv (mem r I' J)) : CV G (d + 1) 196 [.ref 247, .int o, .int a] (mem r I J) Pv := by
  refine m196r hp.1 (by omega) (h _ emitI (hr.fr (by rw [u2n (by decide), u2n (by decide), u2n (by decide)]) (by rw [u2n (by decide), u2n (by decide), u2n (by decide)]) (by rw [u2i (by decide), u2n (by decide), u2n (by decide)]) (by rw [u2i (by decide), u2n (by decide), u2n (by decide)]) rfl rfl) ⟨by rw [u2s, List.length_append]; rfl, fun k hk => ?_⟩)
  rw [List.length_append] at hk
  have hk : k < φ.length + 1 := hk
  have r1 : ∀ k, u2 (u2 (u2 I 254 (1100 + φ.length) o) 255 (1100 + φ.length) a) 247 13 (nI (φ.length + 1)) 254 k = u2 I 254 (1100 + φ.length) o 254 k := fun k => by rw [u2n (by decide), u2n (by decide)]
  have r2 : ∀ k, u2 (u2 (u2 I 254 (1100 + φ.length) o) 255 (1100 + φ.length) a) 247 13 (nI (φ.length + 1)) 255 k = u2 (u2 I 254 (1100 + φ.length) o) 255 (1100 + φ.length) a 255 k := fun k => by rw [u2n (by decide)]
  rw [r1, r2]
  by_cases e : k = φ.length
  · subst e; rw [u2s, u2s, ap_newI]; exact ⟨ho, ha⟩
  · rw [u2i (by omega), u2i (by omega), ap_oldI (by omega), u2n (by decide)]; exact hp.2 k (by omega)
theorem m196f {o a : Int32} (hf : FA I f) (hc : I 247 13 = nI c) (hl : c ≤ 1024) (h : ∀ I', Fox I I' → FA I' f → I' 247 13 = nI (c + 1) → Pv (mem r I' J)) : CV G (d + 1) 196 [.ref 247, .int o, .int a] (mem r I J) Pv :=
  m196r hc hl (h _ emitI (hf.fr (by rw [u2i (by decide), u2n (by decide), u2n (by decide)])) u2s)
theorem fl5 {dp : Int32} (hf : FA I f) (h : Pv (mem r I J)) : XX G (d + 1) none P190 (QV Pv) 5 [.ref 247, .int dp, jk] [] (mem r I J) := x190_5 ⟨rfl, m177f hf (ifn (fun z => z rfl) ⟨rfl, m177f hf (ifp rfl ⟨rfl, h⟩)⟩)⟩
theorem fl6 {dp : Int32} (hf : FA I f) (h : Pv (mem r I J)) : XX G (d + 1) none P192 (QV Pv) 5 [.ref 247, .int dp, jk] [] (mem r I J) := x192_5 ⟨rfl, m195f hf (ifn (fun z => z rfl) ⟨rfl, m195f hf (ifp rfl ⟨rfl, h⟩)⟩)⟩
theorem fl7 {dp : Int32} (hf : FA I f) (h : Pv (mem r I J)) : XX G (d + 2) none P193 (QV Pv) 5 [.ref 247, .int dp] [] (mem r I J) := x193_5 ⟨rfl, m197f hf (ifp rfl ⟨rfl, h⟩)⟩
def SMc (G : GG) (r : Nat → Nat) (tp : List Nat) (N n : Nat) : Prop := ∀ m dp i φ f j ψ, m ≤ 7 → dp ≤ 5 → eP tp n m dp i φ = some (f, j, ψ) → LV tp i → φ.length ≤ i → ∀ (D : Nat) (I : Nat → Nat → Int32) (J : Nat → Nat → Int64) (P : mm_M → Prop), 4 + 5 * (5 - dp) + rkM m ≤ D → RT I J tp N i → OPH I φ → HD P r I J tp N (bM m dp) f j ψ → (m ≤ 4 → CV G D (190 + m) [.ref 247, .int (nI dp)] (mem r I J) P) ∧ (m = 5 → XX G D none P190 (QV P) 5 [.ref 247, .int (nI dp), jk] [] (mem r I J)) ∧ (m = 6 → XX G D none P192 (QV P) 5 [.ref 247, .int (nI dp), jk] [] (mem r I J)) ∧ (m = 7 → XX G D none P193 (QV P) 5 [.ref 247, .int (nI dp)] [] (mem r I J))
theorem sm_all : ∀ n, SMc G r tp N n := by
  intro n
  induction n with
  | zero => intro m dp i φ f j ψ _ _ h; exact absurd h (by simp [eP])
  | succ n ih =>
    intro m dp i φ f j ψ hm hd h hL hφ D I J P hD hc hp hE
    have hl := hc.l
    have hi := hL.le hl
    unfold eP at h
    by_cases m0 : m = 0
    · subst m0
      rw [if_pos rfl] at h
      refine ⟨fun _ => ?_, fun z => absurd z (by decide), fun z => absurd z (by decide), fun z => absurd z (by decide)⟩
      have hD : 4 + 5 * (5 - dp) + 4 ≤ D := hD
      obtain ⟨x, rfl⟩ : ∃ x, D = x + 2 := ⟨D - 2, by omega⟩
      refine e190 ⟨rfl, ?_⟩
      rcases bnd_inv h with ⟨j1, ψ1, e1, e2⟩ | ⟨qf, e1⟩
      · obtain ⟨χ, a1, a2, a3, a4, -⟩ := eP_ok n 1 dp i φ j1 ψ1 (by decide) hd e1
        refine (ih 1 dp i φ 0 j1 ψ1 (by decide) hd e1 hL hφ (x + 1) I J _ (by show 4 + 5 * (5 - dp) + 3 ≤ x + 1; omega) hc hp ⟨fun _ I1 f1 c1 p1 => ?_, fun z => absurd rfl z⟩).1 (by decide)
        exact (ih 5 dp j1 ψ1 f j ψ (by decide) hd e2 (a4 hL) (by rw [a1, List.length_append]; omega) (x + 1) I1 J P (by show 4 + 5 * (5 - dp) + 3 ≤ x + 1; omega) c1 p1 (hE.tr f1 (by simp [bM]))).2.1 rfl
      · exact (ih 1 dp i φ f j ψ (by decide) hd e1 hL hφ (x + 1) I J _ (by show 4 + 5 * (5 - dp) + 3 ≤ x + 1; omega) hc hp ⟨fun z => absurd z qf, fun _ I1 c f1 g1 h13 hB => fl5 g1 (hE.2 qf I1 c f1 g1 h13 (by simp [bM] at hB ⊢; omega))⟩).1 (by decide)
    rw [if_neg m0] at h
    by_cases m5 : m = 5
    · subst m5
      rw [if_pos rfl] at h
      refine ⟨fun z => absurd z (by decide), fun _ => ?_, fun z => absurd z (by decide), fun z => absurd z (by decide)⟩
      have hD : 4 + 5 * (5 - dp) + 3 ≤ D := hD
      obtain ⟨x, rfl⟩ : ∃ x, D = x + 2 := ⟨D - 2, by omega⟩
      have goon : (wiF tp i = 24 ∨ wiF tp i = 25) → ∀ v : Int32, v = bI (wiF tp i == 24) → CV G (x + 2) 191 [.ref 247, .int (nI dp)] (mem r (u2 I 247 7 (nI (i + 1))) J) (fun N6 => ifP (v = 0) (mK N6 247 = 12 ∧ CV G (x + 2) 196 [.ref 247, .int 10, .int 0] N6 (fun N8 => XX G (x + 2) none P190 (QV P) 5 [.ref 247, .int (nI dp), jk] [] N8)) (mK N6 247 = 12 ∧ CV G (x + 2) 196 [.ref 247, .int 9, .int 0] N6 (fun N10 => XX G (x + 2) none P190 (QV P) 5 [.ref 247, .int (nI dp), jk] [] N10))) := fun q v hv => by
        rw [if_pos q] at h
        have hs0 : soF tp i ≠ 0 := wi_0 (by omega)
        have hL1 := hL.s hs0
        have hi1 := hL.lt hl hs0
        have c1 := hc.adv hs0
        have f1 : Fox I (u2 I 247 7 (nI (i + 1))) := Fox.s7
        have p1 : OPH (u2 I 247 7 (nI (i + 1))) φ := hp.s7
        rcases bnd_inv h with ⟨j1, ψ1, e1, e2⟩ | ⟨qf, e1⟩
        · obtain ⟨χ, a1, a2, a3, a4, -⟩ := eP_ok n 1 dp (i + 1) φ j1 ψ1 (by decide) hd e1
          have a3 := a3 rfl
          have hLj := a4 hL1
          have hj := hLj.le hl
          have hψ : ψ1.length + 1 ≤ j1 := by rw [a1, List.length_append]; omega
          refine (ih 1 dp (i + 1) φ 0 j1 ψ1 (by decide) hd e1 hL1 (by omega) (x + 2) _ J _ (by show 4 + 5 * (5 - dp) + 3 ≤ x + 2; omega) c1 p1 ⟨fun _ I2 f2 c2 p2 => ?_, fun z => absurd rfl z⟩).1 (by decide)
          have go : ∀ o, o = opF (opW tp i) → CV G (x + 2) 196 [.ref 247, .int o, .int 0] (mem r I2 J) (fun N10 => XX G (x + 2) none P190 (QV P) 5 [.ref 247, .int (nI dp), jk] [] N10) := fun o ho => by
            refine m196 c2 p2 (by omega) ho (by unfold opW; split <;> rfl) (fun I3 f3 c3 p3 => ?_)
            exact (ih 5 dp j1 _ f j ψ (by decide) hd e2 hLj (by rw [List.length_append]; show ψ1.length + 1 ≤ j1; omega) (x + 2) I3 J P (by show 4 + 5 * (5 - dp) + 3 ≤ x + 2; omega) c3 p3 (hE.tr ((f1.trans f2).trans f3) (Nat.le_refl _))).2.1 rfl
          subst hv
          by_cases q24 : wiF tp i = 24
          · rw [q24]
            exact ifn (by decide) ⟨rfl, go _ (by unfold opW; rw [if_pos q24]; decide)⟩
          · rw [beq_false_of_ne q24]
            exact ifp rfl ⟨rfl, go _ (by unfold opW; rw [if_neg q24]; decide)⟩
        · refine (ih 1 dp (i + 1) φ f j ψ (by decide) hd e1 hL1 (by omega) (x + 2) _ J _ (by show 4 + 5 * (5 - dp) + 3 ≤ x + 2; omega) c1 p1 ⟨fun z => absurd z qf, fun _ I2 c f2 g2 h13 hB => ?_⟩).1 (by decide)
          have go : ∀ o, CV G (x + 2) 196 [.ref 247, .int o, .int 0] (mem r I2 J) (fun N10 => XX G (x + 2) none P190 (QV P) 5 [.ref 247, .int (nI dp), jk] [] N10) := fun o => m196f g2 h13 (by simp [bM] at hB; omega) (fun I3 f3 g3 h3 => fl5 g3 (hE.2 qf I3 (c + 1) ((f1.trans f2).trans f3) g3 h3 (by simp [bM] at hB ⊢; omega)))
          exact ifb (fun _ => ⟨rfl, go _⟩) (fun _ => ⟨rfl, go _⟩)
      have stop : ¬ (wiF tp i = 24 ∨ wiF tp i = 25) → P (mem r I J) := fun q => by
        rw [if_neg q] at h
        cases h
        exact hE.1 rfl I Fox.rfl' hc hp
      refine x190_5 ⟨rfl, m177 (k := 23) hc (by decide) (ifb (fun q => ⟨rfl, m177 (k := 23) hc (by decide) ?_⟩) (fun q => ⟨rfl, m177 (k := 24) hc (by decide) (ifb (fun q2 => ⟨rfl, stop ?_⟩) (fun q2 => ⟨rfl, m177 (k := 23) hc (by decide) ?_⟩))⟩))⟩
      · rw [bI_0] at q
        have q : wiF tp i = 24 := by simpa using q
        have g := goon (Or.inl q) _ rfl
        simp only [mKm, mNm, mIm, mIf, mJm, mJf, mRm, sIm, sJm, rwIm, rwJm, kN, nN, rN, true_and, hc.at, nI_1]
        exact g
      · rw [bI_0] at q
        have q : wiF tp i ≠ 24 := by simpa using q
        have q2 : ¬ ¬ bI (wiF tp i == 25) = 0 := fun z => z q2
        rw [bI_0] at q2
        have q2 : wiF tp i ≠ 25 := by simpa using q2
        omega
      · have q2 : ¬ bI (wiF tp i == 25) = 0 := q2
        rw [bI_0] at q2
        have q2 : wiF tp i = 25 := by simpa using q2
        have g := goon (Or.inr q2) _ rfl
        simp only [mKm, mNm, mIm, mIf, mJm, mJf, mRm, sIm, sJm, rwIm, rwJm, kN, nN, rN, true_and, hc.at, nI_1]
        exact g
    rw [if_neg m5] at h
    by_cases m1 : m = 1
    · subst m1
      rw [if_pos rfl] at h
      refine ⟨fun _ => ?_, fun z => absurd z (by decide), fun z => absurd z (by decide), fun z => absurd z (by decide)⟩
      have hD : 4 + 5 * (5 - dp) + 3 ≤ D := hD
      obtain ⟨x, rfl⟩ : ∃ x, D = x + 3 := ⟨D - 3, by omega⟩
      refine e191 ⟨rfl, ?_⟩
      rcases bnd_inv h with ⟨j1, ψ1, e1, e2⟩ | ⟨qf, e1⟩
      · obtain ⟨χ, a1, a2, a3, a4, -⟩ := eP_ok n 2 dp i φ j1 ψ1 (by decide) hd e1
        have hLj := a4 hL
        have hψ1 : ψ1.length ≤ j1 := by rw [a1, List.length_append]; omega
        refine (ih 2 dp i φ 0 j1 ψ1 (by decide) hd e1 hL hφ (x + 2) I J _ (by show 4 + 5 * (5 - dp) + 2 ≤ x + 2; omega) hc hp ⟨fun _ I1 f1 c1 p1 => ⟨rfl, m195 (c := 60) c1 (by decide) ⟨rfl, ?_⟩⟩, fun z => absurd rfl z⟩).1 (by decide)
        have goon : (sgB tp 60 j1 = true ∨ sgB tp 61 j1 = true) → ∀ v : Int32, v = bI (sgB tp 60 j1) → CV G (x + 2) 192 [.ref 247, .int (nI dp)] (mem r (u2 I1 247 7 (nI (j1 + 1))) J) (fun N8 => ifP (v = 0) (mK N8 247 = 12 ∧ CV G (x + 2) 196 [.ref 247, .int 8, .int 0] N8 (fun N10 => P N10)) (mK N8 247 = 12 ∧ CV G (x + 2) 196 [.ref 247, .int 7, .int 0] N8 (fun N12 => P N12))) := fun q v hv => by
          rw [if_pos q] at e2
          have hs0 : soF tp j1 ≠ 0 := by rcases q with q | q <;> exact sgB_0 q
          have hL1 := hLj.s hs0
          have c2 := c1.adv hs0
          have f2 : Fox I1 (u2 I1 247 7 (nI (j1 + 1))) := Fox.s7
          have p2 : OPH (u2 I1 247 7 (nI (j1 + 1))) ψ1 := p1.s7
          have f12 := f1.trans f2
          rcases bnd_inv e2 with ⟨j2, ψ2, e3, e4⟩ | ⟨qf, e3⟩
          · obtain ⟨χ2, b1, b2, b3, b4, -⟩ := eP_ok n 2 dp (j1 + 1) ψ1 j2 ψ2 (by decide) hd e3
            have hj2 := (b4 hL1).le hl
            have hψ2 : ψ2.length + 1 ≤ j2 := by rw [b1, List.length_append]; omega
            refine (ih 2 dp (j1 + 1) ψ1 0 j2 ψ2 (by decide) hd e3 hL1 (by omega) (x + 2) _ J _ (by show 4 + 5 * (5 - dp) + 2 ≤ x + 2; omega) c2 p2 ⟨fun _ I3 f3 c3 p3 => ?_, fun z => absurd rfl z⟩).1 (by decide)
            cases e4
            have go : ∀ o, o = opF (opT tp j1) → CV G (x + 2) 196 [.ref 247, .int o, .int 0] (mem r I3 J) (fun N10 => P N10) := fun o ho =>
              m196 c3 p3 (by omega) ho (by unfold opT; split <;> rfl) (fun I4 f4 c4 p4 => hE.1 rfl I4 ((f12.trans f3).trans f4) c4 p4)
            subst hv
            cases e5 : sgB tp 60 j1 with
            | true => exact ifn (by decide) ⟨rfl, go _ (by unfold opT; rw [e5]; decide)⟩
            | false => exact ifp rfl ⟨rfl, go _ (by unfold opT; rw [e5]; decide)⟩
          · refine (ih 2 dp (j1 + 1) ψ1 f j ψ (by decide) hd e3 hL1 (by omega) (x + 2) _ J _ (by show 4 + 5 * (5 - dp) + 2 ≤ x + 2; omega) c2 p2 ⟨fun z => absurd z qf, fun _ I3 c f3 g3 h13 hB => ?_⟩).1 (by decide)
            have go : ∀ o, CV G (x + 2) 196 [.ref 247, .int o, .int 0] (mem r I3 J) (fun N10 => P N10) := fun o => m196f g3 h13 (by simp [bM] at hB; omega) (fun I4 f4 g4 h4 => hE.2 qf I4 (c + 1) ((f12.trans f3).trans f4) g4 h4 (by simp [bM] at hB ⊢; omega))
            exact ifb (fun _ => ⟨rfl, go _⟩) (fun _ => ⟨rfl, go _⟩)
        refine m197 (c := 60) c1 (by decide) (fun q => ifp (by decide) ⟨rfl, goon (Or.inl q) _ rfl⟩) (fun q => ifn (fun z => z rfl) ⟨rfl, m197 (c := 61) c1 (by decide) (fun q2 => ifn (by decide) ⟨rfl, goon (Or.inr q2) _ rfl⟩) (fun q2 => ifp rfl ?_)⟩)
        rw [if_neg (by rw [q, q2]; simp)] at e2
        cases e2
        exact hE.1 rfl I1 f1 c1 p1
      · exact (ih 2 dp i φ f j ψ (by decide) hd e1 hL hφ (x + 2) I J _ (by show 4 + 5 * (5 - dp) + 2 ≤ x + 2; omega) hc hp ⟨fun z => absurd z qf, fun _ I1 c f1 g1 h13 hB => ⟨rfl, m195f g1 ⟨rfl, m197f g1 (ifn (fun z => z rfl) ⟨rfl, m197f g1 (ifp rfl (hE.2 qf I1 c f1 g1 h13 (by simp [bM] at hB ⊢; omega)))⟩)⟩⟩⟩).1 (by decide)
    rw [if_neg m1] at h
    by_cases m2' : m = 2
    · subst m2'
      rw [if_pos rfl] at h
      refine ⟨fun _ => ?_, fun z => absurd z (by decide), fun z => absurd z (by decide), fun z => absurd z (by decide)⟩
      have hD : 4 + 5 * (5 - dp) + 2 ≤ D := hD
      obtain ⟨x, rfl⟩ : ∃ x, D = x + 2 := ⟨D - 2, by omega⟩
      refine e192 ⟨rfl, ?_⟩
      rcases bnd_inv h with ⟨j1, ψ1, e1, e2⟩ | ⟨qf, e1⟩
      · obtain ⟨χ, a1, a2, a3, a4, -⟩ := eP_ok n 3 dp i φ j1 ψ1 (by decide) hd e1
        refine (ih 3 dp i φ 0 j1 ψ1 (by decide) hd e1 hL hφ (x + 1) I J _ (by show 4 + 5 * (5 - dp) + 1 ≤ x + 1; omega) hc hp ⟨fun _ I1 f1 c1 p1 => ?_, fun z => absurd rfl z⟩).1 (by decide)
        exact (ih 6 dp j1 ψ1 f j ψ (by decide) hd e2 (a4 hL) (by rw [a1, List.length_append]; omega) (x + 1) I1 J P (by show 4 + 5 * (5 - dp) + 1 ≤ x + 1; omega) c1 p1 (hE.tr f1 (by simp [bM]))).2.2.1 rfl
      · exact (ih 3 dp i φ f j ψ (by decide) hd e1 hL hφ (x + 1) I J _ (by show 4 + 5 * (5 - dp) + 1 ≤ x + 1; omega) hc hp ⟨fun z => absurd z qf, fun _ I1 c f1 g1 h13 hB => fl6 g1 (hE.2 qf I1 c f1 g1 h13 (by simp [bM] at hB ⊢; omega))⟩).1 (by decide)
    rw [if_neg m2'] at h
    by_cases m6 : m = 6
    · subst m6
      rw [if_pos rfl] at h
      refine ⟨fun z => absurd z (by decide), fun z => absurd z (by decide), fun _ => ?_, fun z => absurd z (by decide)⟩
      have hD : 4 + 5 * (5 - dp) + 1 ≤ D := hD
      obtain ⟨x, rfl⟩ : ∃ x, D = x + 2 := ⟨D - 2, by omega⟩
      have goon : (sgB tp 43 i = true ∨ sgB tp 45 i = true) → ∀ v : Int32, v = bI (sgB tp 43 i) → CV G (x + 2) 193 [.ref 247, .int (nI dp)] (mem r (u2 I 247 7 (nI (i + 1))) J) (fun N6 => ifP (v = 0) (mK N6 247 = 12 ∧ CV G (x + 2) 196 [.ref 247, .int 5, .int 0] N6 (fun N8 => XX G (x + 2) none P192 (QV P) 5 [.ref 247, .int (nI dp), jk] [] N8)) (mK N6 247 = 12 ∧ CV G (x + 2) 196 [.ref 247, .int 4, .int 0] N6 (fun N10 => XX G (x + 2) none P192 (QV P) 5 [.ref 247, .int (nI dp), jk] [] N10))) := fun q v hv => by
        rw [if_pos q] at h
        have hs0 : soF tp i ≠ 0 := by rcases q with q | q <;> exact sgB_0 q
        have hL1 := hL.s hs0
        have hi1 := hL.lt hl hs0
        have c1 := hc.adv hs0
        have f1 : Fox I (u2 I 247 7 (nI (i + 1))) := Fox.s7
        have p1 : OPH (u2 I 247 7 (nI (i + 1))) φ := hp.s7
        rcases bnd_inv h with ⟨j1, ψ1, e1, e2⟩ | ⟨qf, e1⟩
        · obtain ⟨χ, a1, a2, a3, a4, -⟩ := eP_ok n 3 dp (i + 1) φ j1 ψ1 (by decide) hd e1
          have a3 := a3 rfl
          have hLj := a4 hL1
          have hj := hLj.le hl
          have hψ : ψ1.length + 1 ≤ j1 := by rw [a1, List.length_append]; omega
          refine (ih 3 dp (i + 1) φ 0 j1 ψ1 (by decide) hd e1 hL1 (by omega) (x + 2) _ J _ (by show 4 + 5 * (5 - dp) + 1 ≤ x + 2; omega) c1 p1 ⟨fun _ I2 f2 c2 p2 => ?_, fun z => absurd rfl z⟩).1 (by decide)
          have go : ∀ o, o = opF (opS tp i) → CV G (x + 2) 196 [.ref 247, .int o, .int 0] (mem r I2 J) (fun N10 => XX G (x + 2) none P192 (QV P) 5 [.ref 247, .int (nI dp), jk] [] N10) := fun o ho => by
            refine m196 c2 p2 (by omega) ho (by unfold opS; split <;> rfl) (fun I3 f3 c3 p3 => ?_)
            exact (ih 6 dp j1 _ f j ψ (by decide) hd e2 hLj (by rw [List.length_append]; show ψ1.length + 1 ≤ j1; omega) (x + 2) I3 J P (by show 4 + 5 * (5 - dp) + 1 ≤ x + 2; omega) c3 p3 (hE.tr ((f1.trans f2).trans f3) (Nat.le_refl _))).2.2.1 rfl
          subst hv
          cases e5 : sgB tp 43 i with
          | true => exact ifn (by decide) ⟨rfl, go _ (by unfold opS; rw [e5]; decide)⟩
          | false => exact ifp rfl ⟨rfl, go _ (by unfold opS; rw [e5]; decide)⟩
        · refine (ih 3 dp (i + 1) φ f j ψ (by decide) hd e1 hL1 (by omega) (x + 2) _ J _ (by show 4 + 5 * (5 - dp) + 1 ≤ x + 2; omega) c1 p1 ⟨fun z => absurd z qf, fun _ I2 c f2 g2 h13 hB => ?_⟩).1 (by decide)
          have go : ∀ o, CV G (x + 2) 196 [.ref 247, .int o, .int 0] (mem r I2 J) (fun N10 => XX G (x + 2) none P192 (QV P) 5 [.ref 247, .int (nI dp), jk] [] N10) := fun o => m196f g2 h13 (by simp [bM] at hB; omega) (fun I3 f3 g3 h3 => fl6 g3 (hE.2 qf I3 (c + 1) ((f1.trans f2).trans f3) g3 h3 (by simp [bM] at hB ⊢; omega)))
          exact ifb (fun _ => ⟨rfl, go _⟩) (fun _ => ⟨rfl, go _⟩)
      have stop : ¬ (sgB tp 43 i = true ∨ sgB tp 45 i = true) → P (mem r I J) := fun q => by
        rw [if_neg q] at h
        cases h
        exact hE.1 rfl I Fox.rfl' hc hp
      refine x192_5 ⟨rfl, m195 (c := 43) hc (by decide) (ifb (fun q => ⟨rfl, m195 (c := 43) hc (by decide) ?_⟩) (fun q => ⟨rfl, m195 (c := 45) hc (by decide) (ifb (fun q2 => ⟨rfl, stop ?_⟩) (fun q2 => ⟨rfl, m195 (c := 43) hc (by decide) ?_⟩))⟩))⟩
      · rw [bI_0] at q
        have q : sgB tp 43 i = true := by simpa using q
        have g := goon (Or.inl q) _ rfl
        simp only [mKm, mNm, mIm, mIf, mJm, mJf, mRm, sIm, sJm, rwIm, rwJm, kN, nN, rN, true_and, hc.at, nI_1]
        exact g
      · rw [bI_0] at q
        have q : sgB tp 43 i = false := by simpa using q
        have q2 : ¬ ¬ bI (sgB tp 45 i) = 0 := fun z => z q2
        rw [bI_0] at q2
        have q2 : sgB tp 45 i = false := by simpa using q2
        rw [q, q2]; simp
      · rw [bI_0] at q2
        have q2 : sgB tp 45 i = true := by simpa using q2
        have g := goon (Or.inr q2) _ rfl
        simp only [mKm, mNm, mIm, mIf, mJm, mJf, mRm, sIm, sJm, rwIm, rwJm, kN, nN, rN, true_and, hc.at, nI_1]
        exact g
    rw [if_neg m6] at h
    by_cases m3 : m = 3
    · subst m3
      rw [if_pos rfl] at h
      refine ⟨fun _ => ?_, fun z => absurd z (by decide), fun z => absurd z (by decide), fun z => absurd z (by decide)⟩
      have hD : 4 + 5 * (5 - dp) + 1 ≤ D := hD
      obtain ⟨x, rfl⟩ : ∃ x, D = x + 3 := ⟨D - 3, by omega⟩
      refine e193 ⟨rfl, ?_⟩
      rcases bnd_inv h with ⟨j1, ψ1, e1, e2⟩ | ⟨qf, e1⟩
      · obtain ⟨χ, a1, a2, a3, a4, -⟩ := eP_ok n 4 dp i φ j1 ψ1 (by decide) hd e1
        refine (ih 4 dp i φ 0 j1 ψ1 (by decide) hd e1 hL hφ (x + 2) I J _ (by show 4 + 5 * (5 - dp) + 0 ≤ x + 2; omega) hc hp ⟨fun _ I1 f1 c1 p1 => ?_, fun z => absurd rfl z⟩).1 (by decide)
        exact (ih 7 dp j1 ψ1 f j ψ (by decide) hd e2 (a4 hL) (by rw [a1, List.length_append]; omega) (x + 2) I1 J P (by show 4 + 5 * (5 - dp) + 0 ≤ x + 2; omega) c1 p1 (hE.tr f1 (by simp [bM]))).2.2.2 rfl
      · exact (ih 4 dp i φ f j ψ (by decide) hd e1 hL hφ (x + 2) I J _ (by show 4 + 5 * (5 - dp) + 0 ≤ x + 2; omega) hc hp ⟨fun z => absurd z qf, fun _ I1 c f1 g1 h13 hB => fl7 g1 (hE.2 qf I1 c f1 g1 h13 (by simp [bM] at hB ⊢; omega))⟩).1 (by decide)
    rw [if_neg m3] at h
    by_cases m7 : m = 7
    · subst m7
      rw [if_pos rfl] at h
      refine ⟨fun z => absurd z (by decide), fun z => absurd z (by decide), fun z => absurd z (by decide), fun _ => ?_⟩
      have hD : 4 + 5 * (5 - dp) + 0 ≤ D := hD
      obtain ⟨x, rfl⟩ : ∃ x, D = x + 3 := ⟨D - 3, by omega⟩
      refine x193_5 ⟨rfl, m197 (c := 42) hc (by decide) (fun e => ifn (by decide) ⟨rfl, ?_⟩) (fun e => ifp rfl ⟨rfl, ?_⟩)⟩
      · rw [if_pos e] at h
        have hs0 := sgB_0 e
        have hL1 := hL.s hs0
        have c1 := hc.adv hs0
        have f1 : Fox I (u2 I 247 7 (nI (i + 1))) := Fox.s7
        have p1 : OPH (u2 I 247 7 (nI (i + 1))) φ := hp.s7
        rcases bnd_inv h with ⟨j1, ψ1, e1, e2⟩ | ⟨qf, e1⟩
        · obtain ⟨χ, a1, a2, a3, a4, -⟩ := eP_ok n 4 dp (i + 1) φ j1 ψ1 (by decide) hd e1
          have a3 := a3 rfl
          have hLj := a4 hL1
          have hj := hLj.le hl
          have hψ : ψ1.length + 1 ≤ j1 := by rw [a1, List.length_append]; omega
          refine (ih 4 dp (i + 1) φ 0 j1 ψ1 (by decide) hd e1 hL1 (by omega) (x + 3) _ J _ (by show 4 + 5 * (5 - dp) + 0 ≤ x + 3; omega) c1 p1 ⟨fun _ I2 f2 c2 p2 => ⟨rfl, ?_⟩, fun z => absurd rfl z⟩).1 (by decide)
          refine m196 (v := -8) c2 p2 (by omega) (by decide) (by decide) (fun I3 f3 c3 p3 => ?_)
          exact (ih 7 dp j1 _ f j ψ (by decide) hd e2 hLj (by rw [List.length_append]; show ψ1.length + 1 ≤ j1; omega) (x + 3) I3 J P (by show 4 + 5 * (5 - dp) + 0 ≤ x + 3; omega) c3 p3 (hE.tr ((f1.trans f2).trans f3) (Nat.le_refl _))).2.2.2 rfl
        · exact (ih 4 dp (i + 1) φ f j ψ (by decide) hd e1 hL1 (by omega) (x + 3) _ J _ (by show 4 + 5 * (5 - dp) + 0 ≤ x + 3; omega) c1 p1 ⟨fun z => absurd z qf, fun _ I2 c f2 g2 h13 hB => ⟨rfl, m196f g2 h13 (by simp [bM] at hB; omega) (fun I3 f3 g3 h3 => fl7 g3 (hE.2 qf I3 (c + 1) ((f1.trans f2).trans f3) g3 h3 (by simp [bM] at hB ⊢; omega)))⟩⟩).1 (by decide)
      · rw [if_neg (by rw [e]; decide)] at h
        cases h
        exact hE.1 rfl I Fox.rfl' hc hp
    rw [if_neg m7] at h
    have m4 : m = 4 := by omega
    subst m4
    refine ⟨fun _ => ?_, fun z => absurd z (by decide), fun z => absurd z (by decide), fun z => absurd z (by decide)⟩
    have hD : 4 + 5 * (5 - dp) + 0 ≤ D := hD
    obtain ⟨x, rfl⟩ : ∃ x, D = x + 4 := ⟨D - 4, by omega⟩
    have h4 := (tok_b tp i).2.2.2.2
    have hib := hc.ib
    have hB4 : bM 4 dp = 1000 + 4 * (5 - dp) := by simp [bM]
    -- a fault at this token
    have flt' : ∀ k, 1 ≤ k → k ≤ 5 → f = flt tp k i → P (mem r (u2 I 247 8 (nI f)) J) := fun k k1 k5 e => by
      have hb := flt_b hl (j := i) (k := k) k1 k5
      rw [← e] at hb
      exact hE.2 (by omega) _ φ.length Fox.s8 (FA.set hb) (by rw [u2i (by decide)]; exact hp.1) (by rw [hB4]; omega)
    -- what follows, by what the token is
    have body : ∀ a : Bool, a = (soF tp i == 2) → ∀ v : Int32, v = nI (if inW tp 25 4 i then wiF tp i - 25 else 0) - 1 → ¬ (soF tp i ≠ 2 ∧ wiF tp i ≠ 23 ∧ sgB tp 40 i = false ∧ isF tp i = false) → XX G (x + 3) none P194 (QV P) 69 [.ref 247, .int (nI dp), .int (bI a), .int v] [] (mem r I J) := fun a ha v hv q1 => by
      rw [if_neg q1] at h
      refine x194_69 ?_
      by_cases q2 : 5 ≤ dp
      · rw [if_pos q2] at h
        have e : f = flt tp 5 i := ((Prod.mk.inj (Option.some.inj h)).1).symm
        have hb := flt_b hl (j := i) (k := 5) (by decide) (by decide)
        have e5 : dp = 5 := by omega
        refine ifn (fun z => z (by rw [e5]; rfl)) ⟨rfl, m179 (k := 5) hc ⟨rfl, ?_⟩⟩
        have g := flt' 5 (by decide) (by decide) e
        rw [e] at g
        simp only [mKm, mNm, mIm, mIf, mJm, mJf, mRm, sIm, sJm, rwIm, rwJm, kN, nN, rN, true_and]
        exact ifn (FA.set hb).gt ⟨rfl, g⟩
      · rw [if_neg q2] at h
        refine ifp (fun z => q2 (Nat.le_of_eq ((nI_eq (b := 5) (by omega) (by decide)).mp z).symm)) ⟨rfl, ?_⟩
        simp only [mKm, mNm, mIm, mIf, mJm, mJf, mRm, sIm, sJm, rwIm, rwJm, kN, nN, rN, true_and, hc.ok]
        refine ifp (by first | exact trivial | decide) (x194_87 ⟨rfl, m186 (k := 22) hc (by decide) (fun q5 => ifn (by decide) ⟨rfl, ?_⟩) (fun q5 => ifp rfl (x194_112 ⟨rfl, m197 (c := 40) hc (by decide) (fun q4 => ifn (by decide) ⟨rfl, ?_⟩) (fun q4 => ifp rfl ?_)⟩))⟩)
        · -- not
          have hs0 := wi_0 (show wiF tp i ≠ 0 by omega)
          have hs1 : soF tp i = 1 := by
            by_cases e : soF tp i = 1
            · exact e
            · have : wiF tp i = 0 := by unfold wiF; rw [if_neg e]
              omega
          have eg : sgB tp 40 i = false := by unfold sgB; rw [hs1]; rfl
          have hL1 := hL.s hs0
          rw [if_neg (by omega), if_neg (by rw [eg]; decide), if_pos q5] at h
          have c1 := hc.adv hs0
          have f1 : Fox I (u2 I 247 7 (nI (i + 1))) := Fox.s7
          have p1 : OPH (u2 I 247 7 (nI (i + 1))) φ := hp.s7
          rw [nI_1]
          rcases bnd_inv h with ⟨j1, ψ1, e1, e2⟩ | ⟨qf, e1⟩
          · obtain ⟨χ, a1, a2, a3, a4, -⟩ := eP_ok n 4 (dp + 1) (i + 1) φ j1 ψ1 (by decide) (by omega) e1
            have hj := (a4 hL1).le hl
            have hψ : ψ1.length + 1 ≤ j1 := by rw [a1, List.length_append]; omega
            refine (ih 4 (dp + 1) (i + 1) φ 0 j1 ψ1 (by decide) (by omega) e1 hL1 (by omega) (x + 3) _ J _ (by show 4 + 5 * (5 - (dp + 1)) + 0 ≤ x + 3; omega) c1 p1 ⟨fun _ I2 f2 c2 p2 => ⟨rfl, ?_⟩, fun z => absurd rfl z⟩).1 (by decide)
            cases e2
            exact m196 (v := -1) c2 p2 (by omega) (by decide) (by decide) (fun I3 f3 c3 p3 => ⟨rfl, hE.1 rfl I3 ((f1.trans f2).trans f3) c3 p3⟩)
          · exact (ih 4 (dp + 1) (i + 1) φ f j ψ (by decide) (by omega) e1 hL1 (by omega) (x + 3) _ J _ (by show 4 + 5 * (5 - (dp + 1)) + 0 ≤ x + 3; omega) c1 p1 ⟨fun z => absurd z qf, fun _ I2 c f2 g2 h13 hB => ⟨rfl, m196f g2 h13 (by simp [bM] at hB; omega) (fun I3 f3 g3 h3 => ⟨rfl, hE.2 qf I3 (c + 1) ((f1.trans f2).trans f3) g3 h3 (by simp [bM] at hB ⊢; omega)⟩)⟩⟩).1 (by decide)
        · -- (
          have hs0 := sgB_0 q4
          have hs3 : soF tp i = 3 := by
            unfold sgB at q4
            simp only [Bool.and_eq_true, beq_iff_eq] at q4
            exact q4.1
          have hL1 := hL.s hs0
          rw [if_neg (by omega), if_pos q4] at h
          have c1 := hc.adv hs0
          have f1 : Fox I (u2 I 247 7 (nI (i + 1))) := Fox.s7
          have p1 : OPH (u2 I 247 7 (nI (i + 1))) φ := hp.s7
          rw [nI_1]
          rcases bnd_inv h with ⟨j1, ψ1, e1, e2⟩ | ⟨qf, e1⟩
          · obtain ⟨χ, a1, a2, a3, a4, -⟩ := eP_ok n 0 (dp + 1) (i + 1) φ j1 ψ1 (by decide) (by omega) e1
            have hj := (a4 hL1).le hl
            have hψ : ψ1.length + 1 ≤ j1 := by rw [a1, List.length_append]; omega
            refine (ih 0 (dp + 1) (i + 1) φ 0 j1 ψ1 (by decide) (by omega) e1 hL1 (by omega) (x + 3) _ J _ (by show 4 + 5 * (5 - (dp + 1)) + 4 ≤ x + 3; omega) c1 p1 ⟨fun _ I2 f2 c2 p2 => ⟨rfl, ?_⟩, fun z => absurd rfl z⟩).1 (by decide)
            refine m198 (c := 41) c2 (by decide) (fun q6 => ⟨rfl, ?_⟩) (fun q6 => ⟨rfl, ?_⟩)
            · rw [if_pos q6] at e2
              cases e2
              exact hE.1 rfl _ ((f1.trans f2).trans Fox.s7) (c2.adv (sgB_0 q6)) p2.s7
            · rw [if_neg (by rw [q6]; decide)] at e2
              have ef : f = flt tp 1 j1 := ((Prod.mk.inj (Option.some.inj e2)).1).symm
              have hf1 := flt_b hl (j := j1) (k := 1) (by decide) (by decide)
              rw [← ef] at hf1 ⊢
              exact hE.2 (by omega) _ ψ1.length ((f1.trans f2).trans Fox.s8) (FA.set hf1) (by rw [u2i (by decide)]; exact p2.1) (by rw [hB4]; omega)
          · exact (ih 0 (dp + 1) (i + 1) φ f j ψ (by decide) (by omega) e1 hL1 (by omega) (x + 3) _ J _ (by show 4 + 5 * (5 - (dp + 1)) + 4 ≤ x + 3; omega) c1 p1 ⟨fun z => absurd z qf, fun _ I2 c f2 g2 h13 hB => ⟨rfl, m198f g2 ⟨rfl, hE.2 qf I2 c (f1.trans f2) g2 h13 (by simp [bM] at hB ⊢; omega)⟩⟩⟩).1 (by decide)
        · -- a number, a fact
          have fin : ∀ (v o a : Int32) (hs0 : soF tp i ≠ 0), (some (0, i + 1, φ ++ [v]) : Option (Nat × Nat × List Int32)) = some (f, j, ψ) → o = opF v → a = agF v → CV G (x + 3) 196 [.ref 247, .int o, .int a] (mem r I J) (fun N4 => mK N4 247 = 12 ∧ mK N4 247 = 12 ∧ QV P none (sI N4 247 7 ((mI N4 247 7) + 1))) := fun v o a hs0 hh ho ha => by
            cases hh
            refine m196 hc hp (by omega) ho ha (fun I3 f3 c3 p3 => ⟨rfl, rfl, rfl, ?_⟩)
            simp only [mKm, mNm, mIm, mIf, mJm, mJf, mRm, sIm, sJm, rwIm, rwJm, kN, nN, rN, true_and, c3.at, nI_1]
            exact hE.1 rfl _ (f3.trans Fox.s7) (c3.adv hs0) p3.s7
          by_cases q3 : soF tp i = 2
          · have hs0 : soF tp i ≠ 0 := by omega
            have ea : a = true := by rw [ha, q3]; rfl
            have hv2 := (hc.v hs0).2.1 q3
            have hnu := tok_n q3
            rw [if_pos q3] at h
            rw [ea]
            have g := fin _ 1 (nI (nuF tp i)) hs0 h (by unfold opF; rw [if_pos (nI_pos' (by omega))]) (by unfold agF; rw [if_pos (nI_pos' (by omega))])
            refine ifn (by decide) (ifn (by decide) ?_)
            simp only [mKm, mNm, mIm, mIf, mJm, mJf, mRm, sIm, sJm, rwIm, rwJm, kN, nN, rN, true_and, hc.at, ix hib (by decide), hv2, lN_i]
            exact g
          · have ea : a = false := by rw [ha, beq_false_of_ne q3]
            have hF : isF tp i = true := by
              cases e : isF tp i with
              | true => rfl
              | false => exact absurd ⟨q3, q5, q4, e⟩ q1
            have hb := isF_b hF
            have hs0 := wi_0 (show wiF tp i ≠ 0 by omega)
            rw [if_neg q3, if_neg (by rw [q4]; decide), if_neg q5] at h
            have ev : v = nI (wiF tp i - 26) := by
              rw [hv, show inW tp 25 4 i = true from hF, if_pos rfl, show wiF tp i - 25 = wiF tp i - 26 + 1 by omega, nI_pred]
            rw [ea]
            have of : ∀ k, k < 4 → 2 = opF (-9 - nI k) ∧ nI k = agF (-9 - nI k) := by decide +kernel
            have of := of (wiF tp i - 26) (by omega)
            refine ifp rfl (x194_146 (ifp rfl ⟨rfl, ?_⟩))
            rw [ev]
            exact fin _ _ _ hs0 h of.1 of.2
    -- what is asked of the token
    have ask : ∀ a : Bool, a = (soF tp i == 2) → ∀ v : Int32, v = nI (if inW tp 25 4 i then wiF tp i - 25 else 0) - 1 → ifP (0 ≤ v) (XX G (x + 3) none P194 (QV P) 69 [.ref 247, .int (nI dp), .int (bI a), .int v] [] (mem r I J)) (ifP (¬ bI a = 0) (XX G (x + 3) none P194 (QV P) 69 [.ref 247, .int (nI dp), .int (bI a), .int v] [] (mem r I J)) (mK (mem r I J) 247 = 12 ∧ CI G (x + 3) 195 [.ref 247, .int 40] (mem r I J) (fun v1 N2 => ifP (¬ v1 = 0) (XX G (x + 3) none P194 (QV P) 69 [.ref 247, .int (nI dp), .int (bI a), .int v] [] N2) (mK N2 247 = 12 ∧ CI G (x + 3) 177 [.ref 247, .int 22] N2 (fun v3 N4 => ifP (¬ v3 = 0) (XX G (x + 3) none P194 (QV P) 69 [.ref 247, .int (nI dp), .int (bI a), .int v] [] N4) (mK N4 247 = 12 ∧ CV G (x + 3) 179 [.ref 247, .int 1] N4 (fun N6 => mK N6 247 = 12 ∧ ifP ((mI N6 247 8) ≤ 0) (XX G (x + 3) none P194 (QV P) 87 [.ref 247, .int (nI dp), .int (bI a), .int v] [] N6) (QV P none N6)))))))) := fun a ha v hv => by
      refine ifb (fun q => body a ha v hv (fun z => ?_)) (fun q => ifb (fun q2 => body a ha v hv (fun z => ?_)) (fun q2 => ⟨rfl, m195 (c := 40) hc (by decide) (ifb (fun q3 => body a ha v hv (fun z => ?_)) (fun q3 => ⟨rfl, m177 (k := 22) hc (by decide) (ifb (fun q4 => body a ha v hv (fun z => ?_)) (fun q4 => ⟨rfl, m179 (k := 1) hc ⟨rfl, ?_⟩⟩))⟩))⟩))
      · rw [hv, show inW tp 25 4 i = false from z.2.2.2, if_neg (by decide)] at q
        exact absurd q (by decide)
      · exact q2 (by rw [ha, beq_false_of_ne z.1]; rfl)
      · exact q3 (by rw [z.2.2.1]; rfl)
      · exact q4 (by rw [beq_false_of_ne z.2.1]; rfl)
      · have c1 : soF tp i ≠ 2 := fun z => q2 (by rw [ha, z]; decide)
        have c2 : wiF tp i ≠ 23 := fun z => q4 (by rw [z]; decide)
        have c3 : sgB tp 40 i = false := by
          cases e : sgB tp 40 i with
          | false => rfl
          | true => exact absurd (show ¬ bI (sgB tp 40 i) = 0 by rw [e]; decide) q3
        have c4 : isF tp i = false := by
          cases e : isF tp i with
          | false => rfl
          | true =>
            have hb := isF_b e
            refine absurd ?_ q
            rw [hv, show inW tp 25 4 i = true from e, if_pos rfl, show wiF tp i - 25 = wiF tp i - 26 + 1 by omega, nI_pred]
            exact nI_pos' (by omega)
        rw [if_pos ⟨c1, c2, c3, c4⟩] at h
        have e : f = flt tp 1 i := ((Prod.mk.inj (Option.some.inj h)).1).symm
        have hb := flt_b hl (j := i) (k := 1) (by decide) (by decide)
        have g := flt' 1 (by decide) (by decide) e
        rw [e] at g
        simp only [mKm, mNm, mIm, mIf, mJm, mJf, mRm, sIm, sJm, rwIm, rwJm, kN, nN, rN, true_and]
        exact ifn (FA.set hb).gt ⟨rfl, g⟩
    refine e194 ?_
    simp only [mKm, mNm, mIm, mIf, mJm, mJf, mRm, sIm, sJm, rwIm, rwJm, kN, nN, rN, true_and, hc.ok, hc.at, ix hib (by decide), hc.s]
    refine ifp (by first | exact trivial | decide) (ifb (fun q => x194_25 ⟨rfl, m181 (fr := 25) (many := 4) hc (by decide) (b194_25_35 ?_)⟩) (fun q => x194_26 ⟨rfl, m181 (fr := 25) (many := 4) hc (by decide) (b194_26_35 ?_)⟩))
    · have q3 : soF tp i ≠ 2 := fun z => q (by rw [z]; rfl)
      exact ask false (by rw [beq_false_of_ne q3]) _ rfl
    · have q3 : soF tp i = 2 := (nI_eq (b := 2) (by omega) (by decide)).mp (Decidable.not_not.mp q)
      exact ask true (by rw [q3]; rfl) _ rfl
end
