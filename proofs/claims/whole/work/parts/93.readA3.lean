/-! the class reads an orchard -/
noncomputable def raP (tp : List Nat) : Nat → Nat → OS → Nat × OS
  | 0, _, s => (0, s)
  | n + 1, j, s => if soF tp j = 0 then (0, s) else if (lnP tp j s).1 ≠ 0 then ((lnP tp j s).1, s) else if sgB tp 59 (lnP tp j s).2.1 = true then raP tp n ((lnP tp j s).2.1 + 1) (lnP tp j s).2.2 else (flt tp 1 (lnP tp j s).2.1, s)
def πz : PLN := (fun a _ => if a = 2 then 1 else if a = 3 then 3 else 0, [])
def sz : OS := (πz, [], 0)
theorem eP_b {tp : List Nat} (hl : tp.length ≤ 1000) : ∀ n m dp i φ f j ψ, eP tp n m dp i φ = some (f, j, ψ) → f < 2 ^ 20 := by
  intro n
  induction n with
  | zero => intro m dp i φ f j ψ h; exact absurd h (by simp [eP])
  | succ n ih =>
    intro m dp i φ f j ψ h
    have fl : ∀ {k i : Nat}, 1 ≤ k → k ≤ 5 → flt tp k i < 2 ^ 20 := fun h1 h2 => (flt_b hl h1 h2).2
    have bb : ∀ {x : Option (Nat × Nat × List Int32)} {k : Nat → List Int32 → Option (Nat × Nat × List Int32)}, (∀ {f j ψ}, x = some (f, j, ψ) → f < 2 ^ 20) → (∀ {j1 ψ1}, k j1 ψ1 = some (f, j, ψ) → f < 2 ^ 20) → bnd x k = some (f, j, ψ) → f < 2 ^ 20 := fun h1 h2 h => by
      rcases bnd_inv h with ⟨j1, ψ1, e1, e2⟩ | ⟨q, e1⟩
      · exact h2 e2
      · exact h1 e1
    have ok : ∀ {a b}, (some (a, b) : Option (Nat × Nat × List Int32)) = some (f, j, ψ) → a < 2 ^ 20 → f < 2 ^ 20 := fun e h => by
      rw [← (Prod.mk.inj (Option.some.inj e)).1]; exact h
    unfold eP at h
    by_cases m0 : m = 0
    · rw [if_pos m0] at h
      exact bb (ih _ _ _ _ _ _ _) (ih _ _ _ _ _ _ _) h
    rw [if_neg m0] at h
    by_cases m5 : m = 5
    · rw [if_pos m5] at h
      by_cases q : wiF tp i = 24 ∨ wiF tp i = 25
      · rw [if_pos q] at h; exact bb (ih _ _ _ _ _ _ _) (ih _ _ _ _ _ _ _) h
      · rw [if_neg q] at h; exact ok h (by decide)
    rw [if_neg m5] at h
    by_cases m1 : m = 1
    · rw [if_pos m1] at h
      refine bb (ih _ _ _ _ _ _ _) (fun {j1 ψ1} h => ?_) h
      by_cases q : sgB tp 60 j1 = true ∨ sgB tp 61 j1 = true
      · rw [if_pos q] at h; exact bb (ih _ _ _ _ _ _ _) (fun h => ok h (by decide)) h
      · rw [if_neg q] at h; exact ok h (by decide)
    rw [if_neg m1] at h
    by_cases m2' : m = 2
    · rw [if_pos m2'] at h
      exact bb (ih _ _ _ _ _ _ _) (ih _ _ _ _ _ _ _) h
    rw [if_neg m2'] at h
    by_cases m6 : m = 6
    · rw [if_pos m6] at h
      by_cases q : sgB tp 43 i = true ∨ sgB tp 45 i = true
      · rw [if_pos q] at h; exact bb (ih _ _ _ _ _ _ _) (ih _ _ _ _ _ _ _) h
      · rw [if_neg q] at h; exact ok h (by decide)
    rw [if_neg m6] at h
    by_cases m3 : m = 3
    · rw [if_pos m3] at h
      exact bb (ih _ _ _ _ _ _ _) (ih _ _ _ _ _ _ _) h
    rw [if_neg m3] at h
    by_cases m7 : m = 7
    · rw [if_pos m7] at h
      by_cases q : sgB tp 42 i = true
      · rw [if_pos q] at h; exact bb (ih _ _ _ _ _ _ _) (ih _ _ _ _ _ _ _) h
      · rw [if_neg q] at h; exact ok h (by decide)
    rw [if_neg m7] at h
    by_cases q1 : soF tp i ≠ 2 ∧ wiF tp i ≠ 23 ∧ sgB tp 40 i = false ∧ isF tp i = false
    · rw [if_pos q1] at h
      exact ok h (fl (by decide) (by decide))
    rw [if_neg q1] at h
    by_cases q2 : 5 ≤ dp
    · rw [if_pos q2] at h
      exact ok h (fl (by decide) (by decide))
    rw [if_neg q2] at h
    by_cases q3 : soF tp i = 2
    · rw [if_pos q3] at h
      exact ok h (by decide)
    rw [if_neg q3] at h
    by_cases q4 : sgB tp 40 i = true
    · rw [if_pos q4] at h
      refine bb (ih _ _ _ _ _ _ _) (fun {j1 ψ1} h => ?_) h
      by_cases q : sgB tp 41 j1 = true
      · rw [if_pos q] at h; exact ok h (by decide)
      · rw [if_neg q] at h; exact ok h (fl (by decide) (by decide))
    rw [if_neg q4] at h
    by_cases q5 : wiF tp i = 23
    · rw [if_pos q5] at h
      exact bb (ih _ _ _ _ _ _ _) (fun h => ok h (by decide)) h
    rw [if_neg q5] at h
    exact ok h (by decide)
theorem frP_b {tp : List Nat} (hl : tp.length ≤ 1000) : ∀ n y j π, (frP tp n y j π).1 < 2 ^ 20 := by
  intro n
  induction n with
  | zero =>
    intro y j π
    unfold frP
    dsimp only
    split <;> exact (flt_b hl (by decide) (by decide)).2
  | succ n ih =>
    intro y j π
    unfold frP
    split
    · rename_i q; exact (num_b hl q).2
    split
    · exact ih _ _ _
    · show (0 : Nat) < 2 ^ 20; decide
theorem lnP_b {tp : List Nat} {j : Nat} {s : OS} (hl : tp.length ≤ 1000) : (lnP tp j s).1 < 2 ^ 20 := by
  have fl : ∀ {k i : Nat}, 1 ≤ k → k ≤ 5 → flt tp k i < 2 ^ 20 := fun h1 h2 => (flt_b hl h1 h2).2
  have nb : ∀ {lo hi i : Nat}, numP tp lo hi i ≠ 0 → numP tp lo hi i < 2 ^ 20 := fun h => (num_b hl h).2
  have z : (0 : Nat) < 2 ^ 20 := by decide
  unfold lnP
  split
  · unfold trP
    repeat' split
    all_goals first | exact fl (by decide) (by decide) | exact z | (apply nb; assumption)
  split
  · unfold peP
    repeat' split
    all_goals first | exact fl (by decide) (by decide) | exact z | (apply nb; assumption)
  split
  · exact fl (by decide) (by decide)
  split
  · exact fl (by decide) (by decide)
  split
  · split
    · apply nb; assumption
    · exact z
  split
  · split
    · apply nb; assumption
    · exact z
  split
  · exact frP_b hl _ _ _ _
  · unfold eR
    cases e : eP tp 5006 0 0 (j + 1) s.1.2 with
    | none => show (1 : Nat) < 2 ^ 20; decide
    | some x => obtain ⟨f, k, ψ⟩ := x; exact eP_b hl _ _ _ _ _ _ _ _ e
section
variable {G : GG} {d : Nat} {P : Int32 → mm_M → Prop} {Pv : mm_M → Prop} {Q : Option Value → mm_M → Prop} {r : Nat → Nat} {I : Nat → Nat → Int32} {J : Nat → Nat → Int64} {π : PLN} {σ : Nat → Nat → Nat} {tp : List Nat} {y i j n f : Nat} {nm : NMT} {s : OS} {I' I2 : Nat → Nat → Int32} {J' J2 : Nat → Nat → Int64}
theorem HO.cg {x x' : Nat × Nat × OS} (h : HO P r I J tp x) (e1 : x'.1 = x.1) (e2 : x.1 = 0 → x' = x) : HO P r I J tp x' := by
  refine ⟨fun z => ?_, fun z I' J' hf h4 => h.2 (by omega) I' J' hf (by rw [← e1]; exact h4)⟩
  have z' : x.1 = 0 := by omega
  rw [e2 z']; exact h.1 z'
theorem HO.mp {P' : Int32 → mm_M → Prop} {x : Nat × Nat × OS} (h : HO P r I J tp x) (h1 : ∀ N, P 1 N → P' 1 N) (h0 : ∀ N, P 0 N → P' 0 N) : HO P' r I J tp x := ⟨fun z I' J' a b c => h1 _ (h.1 z I' J' a b c), fun z I' J' a b => h0 _ (h.2 z I' J' a b)⟩
theorem n29 (hc : CRD I J tp j) (hL : LV tp j) (hp : CPO I J s) (hW : WO s) (hE : HO P r I J tp (lnP tp j s)) : CI G (d + 38) 29 [.ref 20, .ref 2] (mem r I J) P := by
  have hl := hc.l
  have hb : ∀ {k i : Nat}, 1 ≤ k → k ≤ 5 → 0 < flt tp k i := fun h1 h2 => (flt_b hl h1 h2).1
  have hwb := wiF_b tp j
  have e1 : wm 1 (wiF tp j) = if wiF tp j = 1 then 1 else if wiF tp j = 4 then 2 else if 6 ≤ wiF tp j ∧ wiF tp j ≤ 9 then wiF tp j - 3 else 0 := rfl
  unfold lnP at hE
  refine e29 ⟨rfl, n96 hc (by decide) ?_⟩
  by_cases q0 : wiF tp j = 1
  · rw [if_pos q0] at hE
    rw [e1, if_pos q0]
    exact ifp (by decide) ⟨rfl, n30 hc hp hW (hE.mp (fun N z => ⟨Or.inr rfl, z⟩) (fun N z => ⟨Or.inl rfl, z⟩))⟩
  rw [if_neg q0] at hE
  by_cases q1 : wiF tp j = 4
  · rw [if_pos q1] at hE
    rw [e1, if_neg q0, if_pos q1]
    exact ifn (by decide) (ifp (by decide) ⟨rfl, n32 hc hp hW (hE.mp (fun N z => ⟨Or.inr rfl, z⟩) (fun N z => ⟨Or.inl rfl, z⟩))⟩)
  rw [if_neg q1] at hE
  by_cases q2 : ¬ (6 ≤ wiF tp j ∧ wiF tp j ≤ 9)
  · rw [if_pos q2] at hE
    rw [e1, if_neg q0, if_neg q1, if_neg q2]
    exact ifn (by decide) (ifn (by decide) (ifn (by decide) (ifn (by decide) (ifn (by decide) (ifn (by decide) ⟨rfl, n98e (k := 1) hc (fun I1 f1 h1 => ⟨Or.inl rfl, hE.fl rfl (hb (by decide) (by decide)) f1.cr h1⟩)⟩)))))
  rw [if_neg q2] at hE
  have q2 := Decidable.not_not.mp q2
  have hL1 := hL.s (wi_0 (show wiF tp j ≠ 0 by omega))
  have h16 := hW.2.2.1
  have ew : nI (wm 1 (wiF tp j)) - 1 = nI (wiF tp j - 6 + 2) := by
    rw [e1, if_neg q0, if_neg q1, if_pos q2, show wiF tp j - 3 = wiF tp j - 6 + 2 + 1 by omega, nI_pred]
  rw [ew]
  have o8 := fun q => ((on_A h16 (show wiF tp j - 6 < 4 by omega)).2 q).2.2.1
  have nos : s.2.2 / 2 ^ (wiF tp j - 6) % 2 = 1 → ∀ I', Fcr I I' J J → I' 2 4 = nI (flt tp 3 j) → P 0 (mem r I' J) := fun q I' hf h4 => by
    rw [if_pos q] at hE
    exact hE.fl rfl (hb (by decide) (by decide)) hf h4
  by_cases q6 : wiF tp j = 6
  · rw [q6] at nos hE ⊢
    refine ifn (by decide) (ifn (by decide) (ifp (by decide) (x29_60 ⟨rfl, n33 (b := 0) hc hp h16 (by decide) (fun q I1 J1 f1 c1 p1 => ifn (by decide) ⟨rfl, ?_⟩) (fun q I1 f1 h1 => ifp rfl ⟨_, rfl, nos q I1 f1 h1⟩)⟩)))
    rw [if_neg q, if_pos rfl] at hE
    refine n34 c1 p1 (((hE.tr f1).mp (P' := fun v3 N4 => ifP (v3 = 0) (QI P (some (.int 0)) N4) (QI P (some (.int 1)) N4)) (fun N z => ifn (by decide) ⟨_, rfl, z⟩) (fun N z => ifp rfl ⟨_, rfl, z⟩)).cg ?_ ?_)
    · split <;> rfl
    · intro z
      by_cases q' : numP tp 0 5 (j + 1) ≠ 0
      · rw [if_pos q'] at z; exact absurd z q'
      · rw [if_neg q', if_neg q']
  rw [if_neg q6] at hE
  by_cases q7 : wiF tp j = 7
  · rw [q7] at nos hE ⊢
    refine ifn (by decide) (ifn (by decide) (ifn (by decide) (ifp (by decide) ⟨rfl, n33 (b := 1) hc hp h16 (by decide) (fun q I1 J1 f1 c1 p1 => ifn (by decide) ⟨rfl, ?_⟩) (fun q I1 f1 h1 => ifp rfl (nos q I1 f1 h1))⟩)))
    rw [if_neg q, if_pos rfl] at hE
    refine n35 c1 p1 (((hE.tr f1).mp (P' := fun v3 N4 => ifP (v3 = 0) (P 0 N4) (P 1 N4)) (fun N z => ifn (by decide) z) (fun N z => ifp rfl z)).cg ?_ ?_)
    · split <;> rfl
    · intro z
      by_cases q' : numP tp 1 6 (j + 1) ≠ 0
      · rw [if_pos q'] at z; exact absurd z q'
      · rw [if_neg q', if_neg q']
  rw [if_neg q7] at hE
  by_cases q8 : wiF tp j = 8
  · rw [q8] at nos hE ⊢
    refine ifn (by decide) (ifn (by decide) (ifn (by decide) (ifn (by decide) (ifp (by decide) ⟨rfl, n33 (b := 2) hc hp h16 (by decide) (fun q I1 J1 f1 c1 p1 => ifn (by decide) ⟨rfl, e36 ?_⟩) (fun q I1 f1 h1 => ifp rfl (nos q I1 f1 h1))⟩))))
    rw [if_neg q, if_pos rfl] at hE
    exact n36l 12 0 (j + 1) I1 J1 (s.1, s.2.1, s.2.2 + 2 ^ 2) rfl (fun z => absurd rfl z) (Nat.zero_le _) c1 p1 ((hE.tr f1).mp (P' := fun v3 N4 => ifP (v3 = 0) (P 0 N4) (P 1 N4)) (fun N z => ifn (by decide) z) (fun N z => ifp rfl z))
  rw [if_neg q8] at hE
  have q9 : wiF tp j = 9 := by omega
  rw [q9] at nos hE o8 ⊢
  refine ifn (by decide) (ifn (by decide) (ifn (by decide) (ifn (by decide) (ifn (by decide) (ifp (by decide) (x29_129 ⟨rfl, n33 (b := 3) hc hp h16 (by decide) (fun q I1 J1 f1 c1 p1 => ifn (by decide) ⟨rfl, ?_⟩) (fun q I1 f1 h1 => ifp rfl ⟨_, rfl, nos q I1 f1 h1⟩)⟩))))))
  rw [if_neg q] at hE
  refine n37 c1 hL1 p1 (hW.2.2.2.1 (o8 q rfl)) (((hE.tr f1).mp (P' := fun v3 N4 => ifP (v3 = 0) (QI P (some (.int 0)) N4) (QI P (some (.int 1)) N4)) (fun N z => ifn (by decide) ⟨_, rfl, z⟩) (fun N z => ifp rfl ⟨_, rfl, z⟩)).cg ?_ ?_)
  · unfold eR
    show (match eP tp 5006 0 0 (j + 1) s.1.2 with | some (f, j', ψ) => _ | none => _ : Nat × Nat × OS).1 = _
    cases eP tp 5006 0 0 (j + 1) s.1.2 with
    | none => rfl
    | some x => obtain ⟨f, k, ψ⟩ := x; rfl
  · intro z
    unfold eR at z ⊢
    show ((match eP tp 5006 0 0 (j + 1) s.1.2 with | some (f, j', ψ) => _ | none => _ : Nat × Nat × OS).1, _) = _
    cases e : eP tp 5006 0 0 (j + 1) s.1.2 with
    | none => rw [e] at z; exact absurd (show (1 : Nat) = 0 from z) (by decide)
    | some x => obtain ⟨f, k, ψ⟩ := x; rfl
/-- the class's loop over lines -/
theorem n28l : ∀ n l j (I : Nat → Nat → Int32) (J : Nat → Nat → Int64) (s : OS), 1001 ≤ n + j → l ≤ j → LV tp j → WO s → CRD I J tp j → CPO I J s → ((raP tp n j s).1 = 0 → ∀ I' J', Fcr I I' J J' → WO (raP tp n j s).2 → CPO I' J' (raP tp n j s).2 → P 0 (mem r I' J')) → ((raP tp n j s).1 ≠ 0 → (raP tp n j s).1 < 2 ^ 20 → ∀ I' J', Fcr I I' J J' → P (nI (raP tp n j s).1) (mem r I' J')) → XX G (d + 38) (some .int) P28 (QI P) 18 [.ref 20, .ref 2, .int (nI l)] [] (mem r I J) := by
  intro n
  induction n with
  | zero =>
    intro l j I J s hn _ hL _ hc
    have := hL.le hc.l
    omega
  | succ n ih =>
    intro l j I J s hn hlj hL hW hc hp h0 h1
    have hl := hc.l
    have hj := hL.le hl
    have hs4 := (tok_b tp j).2.2.2.2
    by_cases qs : soF tp j = 0
    · have er : raP tp (n + 1) j s = (0, s) := by unfold raP; rw [if_pos qs]
      rw [er] at h0
      have fin := h0 rfl I J Fcr.rfl' hW hp
      refine x28_18 (ifb (fun _ => ⟨_, rfl, fin⟩) (fun _ => ?_))
      simp only [mKm, mNm, mIm, mIf, mJm, mJf, mRm, sIm, sJm, rwIm, rwJm, kN, nN, rN, true_and, hc.s]
      rw [qs]
      first | exact ifp rfl ⟨_, rfl, fin⟩ | exact ⟨_, rfl, fin⟩
    · have hj1 := hL.lt hl qs
      refine x28_18 (ifn (fun z => absurd ((nI_leI (a := 1000) (by decide) (by omega)).mp z) (by omega)) ?_)
      simp only [mKm, mNm, mIm, mIf, mJm, mJf, mRm, sIm, sJm, rwIm, rwJm, kN, nN, rN, true_and, hc.s]
      refine ifn (fun z => qs ((nI_eq (b := 0) (by omega) (by decide)).mp z)) ?_
      refine n29 hc hL hp hW ⟨fun z I1 J1 f1 c1 p1 => ?_, fun z I1 J1 f1 h4 => ifp rfl ?_⟩
      · have er : raP tp (n + 1) j s = if sgB tp 59 (lnP tp j s).2.1 = true then raP tp n ((lnP tp j s).2.1 + 1) (lnP tp j s).2.2 else (flt tp 1 (lnP tp j s).2.1, s) := by
          show (if soF tp j = 0 then _ else if (lnP tp j s).1 ≠ 0 then _ else _) = _
          rw [if_neg qs, if_neg (fun w => w z)]
        obtain ⟨W1, L1, g1⟩ := lnP_ok (s' := (lnP tp j s).2.2) (j' := (lnP tp j s).2.1) hl hL hW (by rw [← z])
        refine ifn (by decide) ⟨rfl, n105 (c := 59) c1 (by decide) (fun q I2 J2 f2 c2 => ifp (by decide) ?_) (fun q I2 f2 h2 => ifn (fun w => w rfl) ?_)⟩
        · rw [er, if_pos q] at h0 h1
          rw [nI_1]
          exact ih (l + 1) ((lnP tp j s).2.1 + 1) I2 J2 (lnP tp j s).2.2 (by omega) (by omega) (L1.s (sgB_0 q)) W1 c2 (p1.cl f2) (fun z I3 J3 f3 => h0 z I3 J3 ((f1.trans f2.cr).trans f3)) (fun z z2 I3 J3 f3 => h1 z z2 I3 J3 ((f1.trans f2.cr).trans f3))
        · rw [er, if_neg (by rw [q]; decide)] at h1
          have hb := flt_b hl (j := (lnP tp j s).2.1) (k := 1) (by decide) (by decide)
          have fin := h1 (by show flt tp 1 _ ≠ 0; omega) hb.2 I2 J1 (f1.trans f2.cr)
          simp only [mKm, mNm, mIm, mIf, mJm, mJf, mRm, sIm, sJm, rwIm, rwJm, kN, nN, rN, true_and, h2]
          first | exact ⟨rfl, _, rfl, fin⟩ | exact ⟨_, rfl, fin⟩
      · have er : raP tp (n + 1) j s = ((lnP tp j s).1, s) := by
          show (if soF tp j = 0 then _ else if (lnP tp j s).1 ≠ 0 then _ else _) = _
          rw [if_neg qs, if_pos z]
        rw [er] at h1
        have fin := h1 z (lnP_b hl) I1 J1 f1
        simp only [mKm, mNm, mIm, mIf, mJm, mJf, mRm, sIm, sJm, rwIm, rwJm, kN, nN, rN, true_and, h4]
        first | exact ⟨rfl, _, rfl, fin⟩ | exact ⟨_, rfl, fin⟩
end
