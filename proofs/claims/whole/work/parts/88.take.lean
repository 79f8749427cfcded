/-! lines of an orchard: what the class takes -/
abbrev OS : Type := PLN × NMT × Nat
def NMD (nm : NMT) (w : List Nat) : Prop := ∃ i, i < nm.length ∧ nW nm i = w
def Fcr (I I' : Nat → Nat → Int32) (J J' : Nat → Nat → Int64) : Prop := (∀ a, a ≠ 2 → (a < 20 ∨ 31 < a) → I' a = I a) ∧ I' 2 0 = I 2 0 ∧ ∀ a, a ≠ 2 → a ≠ 25 → a ≠ 28 → J' a = J a
section
variable {G : GG} {d : Nat} {P : Int32 → mm_M → Prop} {Pv : mm_M → Prop} {Q : Option Value → mm_M → Prop} {r : Nat → Nat} {I : Nat → Nat → Int32} {J : Nat → Nat → Int64} {π : PLN} {σ : Nat → Nat → Nat} {tp : List Nat} {y i n f : Nat} {nm : NMT} {I' I2 : Nat → Nat → Int32} {J' J2 : Nat → Nat → Int64}
theorem Fcr.rfl' : Fcr I I J J := ⟨fun _ _ _ => rfl, rfl, fun _ _ _ _ => rfl⟩
theorem Fcr.trans (h : Fcr I I' J J') (h' : Fcr I' I2 J' J2) : Fcr I I2 J J2 := ⟨fun a a1 a2 => (h'.1 a a1 a2).trans (h.1 a a1 a2), h'.2.1.trans h.2.1, fun a a1 a2 a3 => (h'.2.2 a a1 a2 a3).trans (h.2.2 a a1 a2 a3)⟩
theorem Fcl.cr (h : Fcl I I' J J') : Fcr I I' J J' := ⟨fun a a1 _ => h.1 a a1, h.2.1, fun a a1 _ _ => h.2.2.2 a a1⟩
theorem Fce.cr (h : Fce I I' J J') : Fcr I I' J J' := ⟨fun a a1 a2 => h.1 a a1 (by omega) (by omega), h.2.1, fun a a1 _ _ => h.2.2 a a1⟩
theorem Fcr.flt {v : Int32} : Fcr I (u2 I 2 4 v) J J := Fce.flt.cr
theorem Fcr.set {a k : Nat} {v : Int32} (h : 20 ≤ a ∧ a ≤ 31) : Fcr I (u2 I a k v) J J := ⟨fun x _ x2 => u2n (by omega), by rw [u2n (by omega)], fun _ _ _ _ => rfl⟩
theorem Fcr.setJ {a k : Nat} {v : Int64} (h : a = 25 ∨ a = 28) : Fcr I I J (u2 J a k v) := ⟨fun _ _ _ => rfl, rfl, fun x _ x2 x3 => u2n (by omega)⟩
theorem n100 {s : Nat} (hc : CRD I J tp i) (hs : s ∈ [1, 2, 3, 6, 9, 12]) (hy : wm s (wiF tp i) ≠ 0 → ∀ I' J', Fcl I I' J J' → CRD I' J' tp (i + 1) → P (nI (wm s (wiF tp i) - 1)) (mem r I' J')) (hn : wm s (wiF tp i) = 0 → ∀ I', Fcr I I' J J → I' 2 4 = nI (flt tp 1 i) → P (-1) (mem r I' J)) : CI G (d + 7) 100 [.ref 2, .retAddr s] (mem r I J) P := by
  have hb : wm s (wiF tp i) ≤ 29 := by have := wiF_b tp i; unfold wm; repeat' split
                                       all_goals omega
  refine e100 ⟨rfl, n96 hc hs ?_⟩
  by_cases e : wm s (wiF tp i) = 0
  · rw [e]
    exact ifn (fun z => z (by decide)) ⟨rfl, n98 (k := 1) hc (hn e _ Fcr.flt u2s)⟩
  · obtain ⟨k, hk⟩ : ∃ k, wm s (wiF tp i) = k + 1 := ⟨wm s (wiF tp i) - 1, by omega⟩
    have hy := hy e
    rw [hk] at hy ⊢
    rw [nI_pred]
    exact ifp (nI_nm (by omega)) ⟨rfl, n90 hc hy⟩
theorem n101 {s : Nat} (hc : CRD I J tp i) (hs : s ∈ [4, 5, 7, 8, 10, 11]) (hy : wiF tp i = wm1 s → ∀ I' J', Fcl I I' J J' → CRD I' J' tp (i + 1) → P 1 (mem r I' J')) (hn : wiF tp i ≠ wm1 s → ∀ I', Fcr I I' J J → I' 2 4 = nI (flt tp 1 i) → P 0 (mem r I' J)) : CI G (d + 7) 101 [.ref 2, .retAddr s] (mem r I J) P := by
  refine e101 ⟨rfl, n102 hc hs ?_⟩
  by_cases e : wiF tp i = wm1 s
  · rw [e, beq_self_eq_true]
    exact ifp (by decide) ⟨rfl, n90 hc (hy e)⟩
  · rw [beq_false_of_ne e]
    exact ifn (fun z => z rfl) ⟨rfl, n98 (k := 1) hc ⟨Or.inl rfl, hn e _ Fcr.flt u2s⟩⟩
theorem n103 {lo hi : Nat} (hc : CRD I J tp i) (hlo : lo < 100) (hhi : hi < 100) (hy : numP tp lo hi i = 0 → ∀ I' J', Fcl I I' J J' → CRD I' J' tp (i + 1) → P (nI (nuF tp i)) (mem r I' J')) (hn : numP tp lo hi i ≠ 0 → ∀ I', Fcr I I' J J → I' 2 4 = nI (numP tp lo hi i) → P (-1) (mem r I' J)) : CI G (d + 7) 103 [.ref 2, .int (nI lo), .int (nI hi)] (mem r I J) P := by
  have h4 := (tok_b tp i).2.2.2.2
  have hf4 := (flt_b hc.l (j := i) (k := 4) (by decide) (by decide)).1
  have hf1 := (flt_b hc.l (j := i) (k := 1) (by decide) (by decide)).1
  unfold numP at hy hn
  refine e103 ?_
  simp only [mKm, mNm, mIm, mIf, mJm, mJf, mRm, sIm, sJm, rwIm, rwJm, kN, nN, rN, true_and, hc.s]
  by_cases q : soF tp i = 2
  · have hnu := tok_n q
    rw [if_pos q] at hy hn
    rw [q]
    refine ifp rfl ?_
    simp only [mKm, mNm, mIm, mIf, mJm, mJf, mRm, sIm, sJm, rwIm, rwJm, kN, nN, rN, true_and, hc.n q]
    refine ifb (fun q2 => ?_) (fun q2 => ifb (fun q3 => ?_) (fun q3 => ?_))
    · have q2 : nuF tp i < lo := (nI_ltI (by omega) (by omega)).mp q2
      rw [if_pos (Or.inl q2)] at hn
      exact n98 (k := 4) hc (hn (by omega) _ Fcr.flt u2s)
    · have q2 : ¬ nuF tp i < lo := fun z => q2 ((nI_ltI (by omega) (by omega)).mpr z)
      have q3 : nuF tp i ≤ hi := (nI_leI (by omega) (by omega)).mp q3
      rw [if_neg (by omega)] at hy
      exact n90 hc (hy rfl)
    · have q3 : ¬ nuF tp i ≤ hi := fun z => q3 ((nI_leI (by omega) (by omega)).mpr z)
      rw [if_pos (Or.inr (by omega))] at hn
      exact n98 (k := 4) hc (hn (by omega) _ Fcr.flt u2s)
  · rw [if_neg q] at hn
    refine ifn (fun z => q ((nI_eq (b := 2) (by omega) (by decide)).mp z)) (n98 (k := 1) hc (hn (by omega) _ Fcr.flt u2s))
theorem nm_eq {w w' : List Nat} {m : Nat} (hm : m ≤ 37) (hm2 : 27 ≤ m) (h : wok w) (h' : wok w') : lg_cmp (lN (eB m w)) (lN (eB m w')) = 0 ↔ w = w' := by
  have h1 := wok_lt hm hm2 h
  have h2 := wok_lt hm hm2 h'
  rw [(lg_cm (by omega) (by omega)).1]
  exact ⟨wok_inj hm2 h h', fun z => by rw [z]⟩
/-- whose tree a name is; the plan at a -/
theorem n51 {a : Nat} {w : List Nat} (ha : a = 4 ∨ a = 21) (h0 : I a 0 = nI (nT π)) (hn : NA (fun x => J (x + (a - 4))) nm) (hw : WN π nm) (hT : nT π ≤ 6) (hwo : wok w) (hy : ∀ i, i < nm.length → nW nm i = w → nC nm i < 20 → P (nI (nC nm i)) (mem r I J)) (hno : (∀ i, i < nm.length → nW nm i = w → 20 ≤ nC nm i) → P (-1) (mem r I J)) : CI G (d + 1) 51 [.ref a, .long (lN (eB 32 w))] (mem r I J) P := by
  refine e51 ?_
  have loop : ∀ k t, t + k = nT π → (∀ i, i < nm.length → nC nm i < t → nW nm i ≠ w) → XX G d (some .int) P51 (QI P) 2 [.ref a, .long (lN (eB 32 w)), jk, .int (nI t)] [] (mem r I J) := by
    intro k
    induction k with
    | zero =>
      intro t ht hh
      refine x51_2 ?_
      have e : P (-1) (mem r I J) := hno (fun i hi e => by
        by_cases q : 20 ≤ nC nm i
        · exact q
        · rcases (hw.2.1 i hi).2 with z | z
          · exact absurd e (hh i hi (by omega))
          · exact z.1)
      rcases ha with rfl | rfl
      · simp only [mKm, mNm, mIm, mIf, mJm, mJf, mRm, sIm, sJm, rwIm, rwJm, kN, nN, rN, true_and, h0]
        exact ifp (nI_le (by omega) (by omega)) ⟨_, rfl, e⟩
      · simp only [mKm, mNm, mIm, mIf, mJm, mJf, mRm, sIm, sJm, rwIm, rwJm, kN, nN, rN, true_and, h0]
        exact ifp (nI_le (by omega) (by omega)) ⟨_, rfl, e⟩
    | succ k ih =>
      intro t ht hh
      obtain ⟨i, hi, ei⟩ := hw.2.2.1 t (by omega)
      have hJ := (hn i hi).1 (by omega)
      rw [ei] at hJ
      have hwi := (hw.2.1 i hi).1
      have go : ifP (¬ lg_cmp (lN (eB 32 (nW nm i))) (lN (eB 32 w)) = 0) (XX G d (some .int) P51 (QI P) 2 [.ref a, .long (lN (eB 32 w)), jk, .int (nI (t + 1))] [] (mem r I J)) (QI P (some (.int (nI t))) (mem r I J)) := by
        rw [nm_eq (by decide) (by decide) hwi hwo]
        refine ifb (fun q => ih (t + 1) (by omega) (fun i' hi' hc' => ?_)) (fun q => ⟨_, rfl, ?_⟩)
        · by_cases e : nC nm i' = t
          · rw [hw.2.2.2.2.2 i' i hi' hi (by omega)]; exact q
          · exact hh i' hi' (by omega)
        · have := hy i hi (Decidable.not_not.mp q) (by omega)
          rw [ei] at this
          exact this
      refine x51_2 ?_
      rcases ha with rfl | rfl
      · have hJ : J 8 t = lN (eB 32 (nW nm i)) := hJ
        simp only [mKm, mNm, mIm, mIf, mJm, mJf, mRm, sIm, sJm, rwIm, rwJm, kN, nN, rN, true_and, h0, ix (show t < 6 by omega) (by decide), hJ, nI_1]
        exact ifn (fun z => absurd ((nI_leI (by omega) (by omega)).mp z) (by omega)) go
      · have hJ : J 25 t = lN (eB 32 (nW nm i)) := hJ
        simp only [mKm, mNm, mIm, mIf, mJm, mJf, mRm, sIm, sJm, rwIm, rwJm, kN, nN, rN, true_and, h0, ix (show t < 6 by omega) (by decide), hJ, nI_1]
        exact ifn (fun z => absurd ((nI_leI (by omega) (by omega)).mp z) (by omega)) go
  exact loop (nT π) 0 (by omega) (fun i _ h => by omega)
theorem n52 {a : Nat} {w : List Nat} (ha : a = 4 ∨ a = 21) (h0 : I a 1 = nI (nP π)) (hn : NA (fun x => J (x + (a - 4))) nm) (hw : WN π nm) (hT : nT π ≤ 6) (hP : nP π ≤ 6) (hwo : wok w) (hy : ∀ i, i < nm.length → nW nm i = w → 20 ≤ nC nm i → P (nI (nC nm i - 20)) (mem r I J)) (hno : (∀ i, i < nm.length → nW nm i = w → nC nm i < 20) → P (-1) (mem r I J)) : CI G (d + 1) 52 [.ref a, .long (lN (eB 32 w))] (mem r I J) P := by
  refine e52 ?_
  have loop : ∀ k t, t + k = nP π → (∀ i, i < nm.length → 20 ≤ nC nm i → nC nm i < 20 + t → nW nm i ≠ w) → XX G d (some .int) P52 (QI P) 2 [.ref a, .long (lN (eB 32 w)), jk, .int (nI t)] [] (mem r I J) := by
    intro k
    induction k with
    | zero =>
      intro t ht hh
      refine x52_2 ?_
      have e : P (-1) (mem r I J) := hno (fun i hi e => by
        rcases (hw.2.1 i hi).2 with z | z
        · omega
        · exact absurd e (hh i hi z.1 (by omega)))
      rcases ha with rfl | rfl
      · simp only [mKm, mNm, mIm, mIf, mJm, mJf, mRm, sIm, sJm, rwIm, rwJm, kN, nN, rN, true_and, h0]
        exact ifp (nI_le (by omega) (by omega)) ⟨_, rfl, e⟩
      · simp only [mKm, mNm, mIm, mIf, mJm, mJf, mRm, sIm, sJm, rwIm, rwJm, kN, nN, rN, true_and, h0]
        exact ifp (nI_le (by omega) (by omega)) ⟨_, rfl, e⟩
    | succ k ih =>
      intro t ht hh
      obtain ⟨i, hi, ei⟩ := hw.2.2.2.1 t (by omega)
      have hJ := (hn i hi).2 (by omega)
      rw [ei, show 20 + t - 20 = t by omega] at hJ
      have hwi := (hw.2.1 i hi).1
      have go : ifP (¬ lg_cmp (lN (eB 32 (nW nm i))) (lN (eB 32 w)) = 0) (XX G d (some .int) P52 (QI P) 2 [.ref a, .long (lN (eB 32 w)), jk, .int (nI (t + 1))] [] (mem r I J)) (QI P (some (.int (nI t))) (mem r I J)) := by
        rw [nm_eq (by decide) (by decide) hwi hwo]
        refine ifb (fun q => ih (t + 1) (by omega) (fun i' hi' h20 hc' => ?_)) (fun q => ⟨_, rfl, ?_⟩)
        · by_cases e : nC nm i' = 20 + t
          · rw [hw.2.2.2.2.2 i' i hi' hi (by omega)]; exact q
          · exact hh i' hi' h20 (by omega)
        · have := hy i hi (Decidable.not_not.mp q) (by omega)
          rw [ei, show 20 + t - 20 = t by omega] at this
          exact this
      refine x52_2 ?_
      rcases ha with rfl | rfl
      · have hJ : J 11 t = lN (eB 32 (nW nm i)) := hJ
        simp only [mKm, mNm, mIm, mIf, mJm, mJf, mRm, sIm, sJm, rwIm, rwJm, kN, nN, rN, true_and, h0, ix (show t < 6 by omega) (by decide), hJ, nI_1]
        exact ifn (fun z => absurd ((nI_leI (by omega) (by omega)).mp z) (by omega)) go
      · have hJ : J 28 t = lN (eB 32 (nW nm i)) := hJ
        simp only [mKm, mNm, mIm, mIf, mJm, mJf, mRm, sIm, sJm, rwIm, rwJm, kN, nN, rN, true_and, h0, ix (show t < 6 by omega) (by decide), hJ, nI_1]
        exact ifn (fun z => absurd ((nI_leI (by omega) (by omega)).mp z) (by omega)) go
  exact loop (nP π) 0 (by omega) (fun i _ h h' => by omega)
end
