/-! morning: a name of the kind, on the other side -/
def kb (b : Bool) : Nat := if b then 20 else 0
theorem d26 : ∀ c, c < 26 → ∀ b : Bool, (decide ((0 : Int32) ≤ nI c - nI (kb b) ∧ nI c - nI (kb b) ≤ 5)) = (decide (kb b ≤ c) && decide (c ≤ kb b + 5)) ∧ ((decide (kb b ≤ c)) = true → nI c - nI (kb b) = nI (c - kb b)) := by decide +kernel
theorem d26n : ∀ b : Bool, ¬ ((0 : Int32) ≤ -1 - nI (kb b) ∧ -1 - nI (kb b) ≤ 5) := by decide +kernel
section
variable {G : GG} {d : Nat} {P : Int32 → mm_M → Prop} {Pv : mm_M → Prop} {Q : Option Value → mm_M → Prop} {r : Nat → Nat} {I : Nat → Nat → Int32} {J : Nat → Nat → Int64} {π : PLN} {σ : Nat → Nat → Nat} {tp : List Nat} {y i j n f N : Nat} {nm : NMT} {ln : LN} {I' I2 : Nat → Nat → Int32} {J' J2 : Nat → Nat → Int64}
theorem m200 {b : Bool} {no : Nat} {l : Int32} (h : RT I J tp N j) (hn : NB I J nm) (hw : WN π nm) (hT : nT π ≤ 6) (hP : nP π ≤ 6) (hl : l = if no = 0 then -2 else nI (no - 1)) (hno : no ≤ 7) (hy : naP tp nm b no j = 0 → P (nI (idF b nm (rkF tp j) - 1)) (mem r (u2 I 247 7 (nI (j + 1))) J)) (hf : naP tp nm b no j ≠ 0 → P 0 (mem r (u2 I 247 8 (nI (naP tp nm b no j))) J)) : CI G (d + 4) 200 [.ref 247, .int (nI (kb b)), .int l] (mem r I J) P := by
  have hL := h.l
  have hb : ∀ {k : Nat}, 1 ≤ k → k ≤ 5 → 0 < flt tp k j ∧ flt tp k j < 2 ^ 20 := fun h1 h2 => flt_b hL h1 h2
  unfold naP at hy hf
  refine e200 ⟨rfl, ifn (fun z => z h.ok) ⟨rfl, m180 h ?_⟩⟩
  cases q : nmB tp j with
  | false =>
    rw [if_pos q] at hf
    have hb1 := hb (k := 1) (by decide) (by decide)
    have hF := FA.set (I := I) hb1
    exact ifn (fun z => z rfl) ⟨rfl, m179 (k := 1) h ⟨rfl, ifn hF.gt ⟨rfl, ifp hF.ne (x62f hF (hf (by omega)))⟩⟩⟩
  | true =>
    have hs := nmB_1 q
    rw [if_neg (by rw [q]; decide)] at hy hf
    have e8 : mI (mem r I J) 247 8 ≤ 0 := by show I 247 8 ≤ 0; rw [h.ok]; decide
    have e80 : ¬ ¬ mI (mem r I J) 247 8 = 0 := fun z => z h.ok
    -- none so named of the kind
    have mis : idF b nm (rkF tp j) = 0 → ∀ v : Int32, ¬ ((0 : Int32) ≤ v ∧ v ≤ 5) → CI G (d + 3) 201 [.int v, .int 0, .int 5] (mem r I J) (fun v3 N4 => ifP (¬ v3 = 0) (XX G (d + 3) (some .int) P200 (QI P) 62 [.ref 247, .int (nI (kb b)), .int l, .int v] [] N4) (mK N4 247 = 12 ∧ CV G (d + 3) 179 [.ref 247, .int 2] N4 (fun N6 => XX G (d + 3) (some .int) P200 (QI P) 79 [.ref 247, .int (nI (kb b)), .int l, .int v] [] N6))) := fun e v hv => by
      rw [if_pos e] at hf
      have hb2 := hb (k := 2) (by decide) (by decide)
      have hF := FA.set (I := I) hb2
      refine m201 ?_
      rw [if_neg hv]
      exact ifn (fun z => z rfl) ⟨rfl, m179 (k := 2) h (x79f hF (hf (by omega)))⟩
    have fnd : ∀ m, m ≤ 5 → idF b nm (rkF tp j) = m + 1 → ∀ v : Int32, v = nI m → CI G (d + 3) 201 [.int v, .int 0, .int 5] (mem r I J) (fun v3 N4 => ifP (¬ v3 = 0) (XX G (d + 3) (some .int) P200 (QI P) 62 [.ref 247, .int (nI (kb b)), .int l, .int v] [] N4) (mK N4 247 = 12 ∧ CV G (d + 3) 179 [.ref 247, .int 2] N4 (fun N6 => XX G (d + 3) (some .int) P200 (QI P) 79 [.ref 247, .int (nI (kb b)), .int l, .int v] [] N6))) := fun m hm e v hv => by
      subst hv
      rw [e, if_neg (by omega)] at hy hf
      refine m201 ?_
      rw [if_pos ⟨nI_pos' (by omega), (nI_leI (b := 5) (by omega) (by decide)).mpr hm⟩]
      refine ifp (by decide) (x200_62 ⟨rfl, ifn e80 ?_⟩)
      by_cases q2 : m + 1 = no
      · rw [if_pos q2] at hf
        have hb3 := hb (k := 3) (by decide) (by decide)
        have hF := FA.set (I := I) hb3
        refine ifn (fun z => z ?_) ⟨rfl, m179 (k := 3) h ?_⟩
        · rw [hl, if_neg (by omega), ← q2]; rfl
        · simp only [mKm, mNm, mIm, mIf, mJm, mJf, mRm, sIm, sJm, rwIm, rwJm, kN, nN, rN, true_and, add0]
          exact ifn hF.gt (ifn hF.gt ⟨_, rfl, hf (by omega)⟩)
      · rw [if_neg q2] at hy
        refine ifp (fun z => q2 ?_) (x200_79 ?_)
        · rw [hl] at z
          by_cases z0 : no = 0
          · rw [if_pos z0] at z
            exact absurd (show (0 : Int32) ≤ -2 by rw [← z]; exact nI_pos' (by omega)) (by decide)
          · rw [if_neg z0] at z
            have := (nI_eq (by omega) (by omega)).mp z
            omega
        · have e8' : u2 I 247 7 (nI (j + 1)) 247 8 = 0 := by rw [u2i (by decide)]; exact h.ok
          have fin := hy rfl
          simp only [mKm, mNm, mIm, mIf, mJm, mJf, mRm, sIm, sJm, rwIm, rwJm, kN, nN, rN, true_and, h.ok, h.at, nI_1, e8']
          exact ifp (by first | exact trivial | decide) (ifp (by first | exact trivial | decide) ⟨_, rfl, fin⟩)
    refine ifp (by decide) ⟨rfl, ifp e8 (x200_30 ⟨rfl, m182b h hs hn hw.1 (fun i hi => (hw.2.1 i hi).1) (fun k hk e => ⟨rfl, ifn e80 ?_⟩) (fun hno => ⟨rfl, ifn e80 ?_⟩)⟩)⟩
    · have hcb := (hw.2.1 k hk).2
      obtain ⟨t1, t2⟩ := d26 (nC nm k) (by omega) b
      have ec := cd_in hw hk e
      by_cases q3 : kb b ≤ nC nm k ∧ nC nm k ≤ kb b + 5
      · refine fnd (nC nm k - kb b) (by omega) ?_ _ (t2 (decide_eq_true q3.1))
        unfold idF
        rw [ec, if_neg (by omega)]
        cases b with
        | true => have q3 : 20 ≤ nC nm k ∧ nC nm k ≤ 25 := q3; rw [if_pos rfl]; show nC nm k + 1 - 20 = nC nm k - 20 + 1; omega
        | false => have q3 : 0 ≤ nC nm k ∧ nC nm k ≤ 5 := q3; rw [if_neg (by decide), if_pos (by omega)]; show nC nm k + 1 = nC nm k - 0 + 1; omega
      · refine mis ?_ _ (fun z => ?_)
        · unfold idF
          rw [ec, if_neg (by omega)]
          cases b with
          | true => have q3 : ¬ (20 ≤ nC nm k ∧ nC nm k ≤ 25) := q3; rw [if_pos rfl]; omega
          | false => have q3 : ¬ (0 ≤ nC nm k ∧ nC nm k ≤ 5) := q3; rw [if_neg (by decide), if_neg (by omega)]
        · rw [decide_eq_true z] at t1
          have t1 := t1.symm
          simp only [Bool.and_eq_true, decide_eq_true_eq] at t1
          exact q3 t1
    · refine mis ?_ _ (d26n b)
      unfold idF
      rw [cd_no hno, if_pos rfl]
end
