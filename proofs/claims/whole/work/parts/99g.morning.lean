/-! morning: the named, on the class's side -/
noncomputable def codF (nm : NMT) (w : List Nat) : Nat := if hasN nm w = true then nC nm (Classical.epsilon (fun i => i < nm.length ∧ nW nm i = w)) + 1 else 0
/-- 0: none so named of the kind, else its number and 1 -/
noncomputable def idF (b : Bool) (nm : NMT) (w : List Nat) : Nat := if codF nm w = 0 then 0 else if b then codF nm w - 20 else if codF nm w ≤ 20 then codF nm w else 0
/-- the fault of a name that must be of the kind, and another one than no -/
noncomputable def naP (tp : List Nat) (nm : NMT) (b : Bool) (no j : Nat) : Nat := if nmB tp j = false then flt tp 1 j else if idF b nm (rkF tp j) = 0 then flt tp 2 j else if idF b nm (rkF tp j) = no then flt tp 3 j else 0
section
variable {G : GG} {d : Nat} {P : Int32 → mm_M → Prop} {Pv : mm_M → Prop} {Q : Option Value → mm_M → Prop} {r : Nat → Nat} {I : Nat → Nat → Int32} {J : Nat → Nat → Int64} {π : PLN} {σ : Nat → Nat → Nat} {tp : List Nat} {y i j n f N : Nat} {nm : NMT} {I' I2 : Nat → Nat → Int32} {J' J2 : Nat → Nat → Int64}
theorem cd_in {w : List Nat} {k : Nat} (hw : WN π nm) (hk : k < nm.length) (e : nW nm k = w) : codF nm w = nC nm k + 1 := by
  have h : NMD nm w := ⟨k, hk, e⟩
  unfold codF
  rw [if_pos (hasN_t.mpr h)]
  have c := Classical.epsilon_spec (p := fun i => i < nm.length ∧ nW nm i = w) h
  rw [hw.2.2.2.2.1 _ k c.1 hk (c.2.trans e.symm)]
theorem cd_no {w : List Nat} (h : ¬ NMD nm w) : codF nm w = 0 := by unfold codF; rw [if_neg (fun z => h (hasN_t.mp z))]
theorem id_b {w : List Nat} {b : Bool} (hw : WN π nm) (hT : nT π ≤ 6) (hP : nP π ≤ 6) : idF b nm w ≤ if b then nP π else nT π := by
  unfold idF
  by_cases h : NMD nm w
  · obtain ⟨k, hk, e⟩ := h
    have ec := cd_in hw hk e
    have hb := (hw.2.1 k hk).2
    rw [ec, if_neg (by omega)]
    cases b with
    | true => simp only [if_true]; omega
    | false =>
      simp only [Bool.false_eq_true, if_false]
      split <;> omega
  · rw [cd_no h, if_pos rfl]; exact Nat.zero_le _
theorem n26 {b : Bool} {no : Nat} (hc : CRD I J tp j) (h4 : I 4 0 = nI (nT π) ∧ I 4 1 = nI (nP π)) (hn : NA J nm) (hw : WN π nm) (hT : nT π ≤ 6) (hP : nP π ≤ 6) (hno : no ≤ 7) (hy : naP tp nm b no j = 0 → ∀ I' J', Fcl I I' J J' → CRD I' J' tp (j + 1) → P (nI (idF b nm (rkF tp j) - 1)) (mem r I' J')) (hf : naP tp nm b no j ≠ 0 → ∀ I', Fcr I I' J J → I' 2 4 = nI (naP tp nm b no j) → P (-1) (mem r I' J)) : CI G (d + 8) 26 [.ref 33, .ref 2, .ref 4, .int (bI b), .int (nI no - 1)] (mem r I J) P := by
  have hl := hc.l
  have hb : ∀ {k : Nat}, 1 ≤ k → k ≤ 5 → flt tp k j ≠ 0 := fun h1 h2 => by have := (flt_b hl (j := j) h1 h2).1; omega
  unfold naP at hy hf
  refine e26 ⟨rfl, n99 hc ?_⟩
  cases q : nmB tp j with
  | false =>
    rw [if_pos q] at hf
    exact ifn (fun z => z rfl) ⟨rfl, n98 (k := 1) hc (hf (hb (by decide) (by decide)) _ Fcr.flt u2s)⟩
  | true =>
    have hs := nmB_1 q
    have hwo := rk_wok hs
    rw [if_neg (by rw [q]; decide)] at hy hf
    refine ifp (by decide) ?_
    have hn' : NA (fun x => J (x + (4 - 4))) nm := hn
    -- found, with its number
    have fnd : ∀ m, m ≤ 5 → idF b nm (rkF tp j) = m + 1 → ifP (¬ nI m = -1) (ifP (¬ nI m = nI no - 1) (mK (mem r I J) 2 = 10 ∧ CV G (d + 7) 90 [.ref 2] (mem r I J) (fun N6 => P (nI m) N6)) (mK (mem r I J) 2 = 10 ∧ CI G (d + 7) 98 [.ref 2, .int 3] (mem r I J) (fun v7 N8 => P (-1) N8))) (mK (mem r I J) 2 = 10 ∧ CI G (d + 7) 98 [.ref 2, .int 2] (mem r I J) (fun v9 N10 => P (-1) N10)) := fun m hm e => by
      rw [e, if_neg (by omega)] at hy hf
      refine ifp (nI_nm (by omega)) ?_
      by_cases q2 : m + 1 = no
      · rw [if_pos q2] at hf
        refine ifn (fun z => z ?_) ⟨rfl, n98 (k := 3) hc (hf (hb (by decide) (by decide)) _ Fcr.flt u2s)⟩
        rw [← q2, nI_pred]
      · rw [if_neg q2] at hy
        refine ifp (fun z => q2 ?_) ⟨rfl, n90 hc (hy rfl)⟩
        by_cases z0 : no = 0
        · subst z0
          exact absurd z (nI_nm (by omega))
        · obtain ⟨t, rfl⟩ : ∃ t, no = t + 1 := ⟨no - 1, by omega⟩
          rw [nI_pred] at z
          rw [(nI_eq (by omega) (by omega)).mp z]
    have mis : idF b nm (rkF tp j) = 0 → ifP (¬ (-1 : Int32) = -1) (ifP (¬ (-1 : Int32) = nI no - 1) (mK (mem r I J) 2 = 10 ∧ CV G (d + 7) 90 [.ref 2] (mem r I J) (fun N6 => P (-1) N6)) (mK (mem r I J) 2 = 10 ∧ CI G (d + 7) 98 [.ref 2, .int 3] (mem r I J) (fun v7 N8 => P (-1) N8))) (mK (mem r I J) 2 = 10 ∧ CI G (d + 7) 98 [.ref 2, .int 2] (mem r I J) (fun v9 N10 => P (-1) N10)) := fun e => by
      rw [if_pos e] at hf
      exact ifn (fun z => z rfl) ⟨rfl, n98 (k := 2) hc (hf (hb (by decide) (by decide)) _ Fcr.flt u2s)⟩
    cases b with
    | false =>
      refine ifp rfl ⟨rfl, rfl, ?_⟩
      rw [show mJ (mem r I J) 2 3 = lN (eB 32 (rkF tp j)) from hc.w hs]
      refine n51 (Or.inl rfl) h4.1 hn' hw hT hwo (fun k hk e hc20 => fnd _ (by have := (hw.2.1 k hk).2; omega) ?_) (fun hno => mis ?_)
      · unfold idF
        rw [cd_in hw hk e, if_neg (by omega), if_neg (by decide), if_pos (by omega)]
      · unfold idF
        by_cases h : NMD nm (rkF tp j)
        · obtain ⟨k, hk, e⟩ := h
          have := hno k hk e
          rw [cd_in hw hk e, if_neg (by omega), if_neg (by decide), if_neg (by omega)]
        · rw [cd_no h, if_pos rfl]
    | true =>
      refine ifn (by decide) ⟨rfl, rfl, ?_⟩
      rw [show mJ (mem r I J) 2 3 = lN (eB 32 (rkF tp j)) from hc.w hs]
      refine n52 (Or.inl rfl) h4.2 hn' hw hT hP hwo (fun k hk e hc20 => fnd _ (by have := (hw.2.1 k hk).2; omega) ?_) (fun hno => mis ?_)
      · unfold idF
        rw [cd_in hw hk e, if_neg (by omega), if_pos rfl]; omega
      · unfold idF
        by_cases h : NMD nm (rkF tp j)
        · obtain ⟨k, hk, e⟩ := h
          have := hno k hk e
          rw [cd_in hw hk e, if_neg (by omega), if_pos rfl]; omega
        · rw [cd_no h, if_pos rfl]
end
