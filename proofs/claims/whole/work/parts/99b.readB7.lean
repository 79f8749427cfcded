/-! the other side reads an orchard -/
section
variable {G : GG} {d : Nat} {P : Int32 → mm_M → Prop} {Pv : mm_M → Prop} {Q : Option Value → mm_M → Prop} {r : Nat → Nat} {I : Nat → Nat → Int32} {J : Nat → Nat → Int64} {π : PLN} {σ : Nat → Nat → Nat} {tp : List Nat} {y i j n f N : Nat} {nm : NMT} {s : OS} {I' I2 : Nat → Nat → Int32} {J' J2 : Nat → Nat → Int64}
theorem RPO.s7 {v : Int32} (h : RPO I J s) : RPO (u2 I 247 7 v) J s := by
  have e : ∀ a, a ≠ 247 → u2 I 247 7 v a = I a := fun a ha => u2n ha
  have e7 : ∀ k, k ≠ 7 → u2 I 247 7 v 247 k = I 247 k := fun k h1 => u2i h1
  unfold RPO
  rw [e 253 (by decide), e 254 (by decide), e 255 (by decide), e 259 (by decide), e7 13 (by decide), e7 19 (by decide), e7 20 (by decide)]
  exact h
theorem m176 (h : RT I J tp N j) (hL : LV tp j) (hp : RPO I J s) (hW : WO s) (hE : HM Pv r I J tp N (lnP tp j s)) : CV G (d + 37) 176 [.ref 247] (mem r I J) Pv := by
  by_cases q1 : wiF tp j = 1
  · have hE' := hE
    unfold lnP at hE'
    rw [if_pos q1] at hE'
    exact m176t h q1 hp hW hE'
  by_cases q4 : wiF tp j = 4
  · have hE' := hE
    unfold lnP at hE'
    rw [if_neg q1, if_pos q4] at hE'
    exact m176p h q4 hp hW hE'
  refine e176 ⟨rfl, m177 (k := 0) h (by decide) ?_⟩
  rw [beq_false_of_ne q1]
  refine ifp rfl ⟨rfl, m177 (k := 3) h (by decide) ?_⟩
  rw [beq_false_of_ne q4]
  exact ifp rfl ⟨rfl, m188 h hL q1 q4 hp hW hE⟩
theorem m170l : ∀ n j (I : Nat → Nat → Int32) (J : Nat → Nat → Int64) (s : OS), 1001 ≤ n + j → LV tp j → WO s → RT I J tp N j → RPO I J s → ((raP tp n j s).1 = 0 → ∀ I' J', Fmr I I' J J' → I' 247 8 = 0 → WO (raP tp n j s).2 → RPO I' J' (raP tp n j s).2 → XX G (d + 37) (some .int) P170 (QI P) 76 [.ref 247, .int 0] [] (mem r I' J')) → ((raP tp n j s).1 ≠ 0 → ∀ I' J', Fmr I I' J J' → P (nI (raP tp n j s).1) (mem r I' J')) → XX G (d + 37) (some .int) P170 (QI P) 30 [.ref 247, jk] [] (mem r I J) := by
  intro n
  induction n with
  | zero =>
    intro j I J s hn hL _ h
    have := hL.le h.l
    omega
  | succ n ih =>
    intro j I J s hn hL hW h hp h0 h1
    have hl := h.l
    have hib := h.ib
    have hs4 := (tok_b tp j).2.2.2.2
    have flt_x : ∀ (I' : Nat → Nat → Int32) (J' : Nat → Nat → Int64) (f : Nat), FA I' f → P (nI f) (mem r I' J') → XX G (d + 37) (some .int) P170 (QI P) 30 [.ref 247, jk] [] (mem r I' J') := fun I' J' f hF hh => by
      refine x170_30 ⟨rfl, ifp hF.ne ⟨rfl, ifn hF.gt ⟨rfl, _, rfl, ?_⟩⟩⟩
      show P (I' 247 8) _
      rw [hF.1]; exact hh
    by_cases qs : soF tp j = 0
    · have er : raP tp (n + 1) j s = (0, s) := by unfold raP; rw [if_pos qs]
      rw [er] at h0
      have fin := h0 rfl I J Fmr.rfl' h.ok hW hp
      refine x170_30 ?_
      simp only [mKm, mNm, mIm, mIf, mJm, mJf, mRm, sIm, sJm, rwIm, rwJm, kN, nN, rN, true_and, h.ok, h.at, ix hib (by decide), h.s]
      rw [qs]
      refine ifn (fun z => z (by first | exact rfl | exact trivial)) ?_
      first | exact ifp rfl (ifp (by first | exact trivial | decide) fin) | exact ifp (by first | exact trivial | decide) fin
    · refine x170_30 ?_
      simp only [mKm, mNm, mIm, mIf, mJm, mJf, mRm, sIm, sJm, rwIm, rwJm, kN, nN, rN, true_and, h.ok, h.at, ix hib (by decide), h.s]
      refine ifn (fun z => z (by first | exact rfl | exact trivial)) (ifn (fun z => qs ((nI_eq (b := 0) (by omega) (by decide)).mp z)) ?_)
      refine m176 h hL hp hW ⟨fun z I1 J1 f1 c1 p1 => ⟨rfl, ?_⟩, fun z I1 J1 f1 F1 => ⟨rfl, m198f F1 ?_⟩⟩
      · have er : raP tp (n + 1) j s = if sgB tp 59 (lnP tp j s).2.1 = true then raP tp n ((lnP tp j s).2.1 + 1) (lnP tp j s).2.2 else (flt tp 1 (lnP tp j s).2.1, s) := by
          show (if soF tp j = 0 then _ else if (lnP tp j s).1 ≠ 0 then _ else _) = _
          rw [if_neg qs, if_neg (fun w => w z)]
        obtain ⟨W1, L1, g1⟩ := lnP_ok (s' := (lnP tp j s).2.2) (j' := (lnP tp j s).2.1) hl hL hW (by rw [← z])
        refine m198 (c := 59) c1 (by decide) (fun q => ?_) (fun q => ?_)
        · rw [er, if_pos q] at h0 h1
          have f2 : Fmr I1 (u2 I1 247 7 (nI ((lnP tp j s).2.1 + 1))) J1 J1 := Fmr.s47 (by decide)
          have p2 : RPO (u2 I1 247 7 (nI ((lnP tp j s).2.1 + 1))) J1 (lnP tp j s).2.2 := p1.s7
          exact ih ((lnP tp j s).2.1 + 1) _ J1 (lnP tp j s).2.2 (by omega) (L1.s (sgB_0 q)) W1 (c1.adv (sgB_0 q)) p2 (fun z I3 J3 f3 => h0 z I3 J3 ((f1.trans f2).trans f3)) (fun z I3 J3 f3 => h1 z I3 J3 ((f1.trans f2).trans f3))
        · rw [er, if_neg (by rw [q]; decide)] at h1
          have hb := flt_b hl (j := (lnP tp j s).2.1) (k := 1) (by decide) (by decide)
          exact flt_x _ _ _ (FA.set hb) (h1 (by show flt tp 1 _ ≠ 0; omega) _ _ (f1.trans (Fmr.s47 (by decide))))
      · have er : raP tp (n + 1) j s = ((lnP tp j s).1, s) := by
          show (if soF tp j = 0 then _ else if (lnP tp j s).1 ≠ 0 then _ else _) = _
          rw [if_neg qs, if_pos z]
        rw [er] at h1
        exact flt_x _ _ _ F1 (h1 z _ _ f1)
/-- as always -/
theorem m163 (h : ∀ I', (∀ a, a ≠ 253 → I' a = I a) → (∀ k, k < 50 → I' 253 k = I 253 k) → (I' 253 50 = 0 ∧ I' 253 51 = 0 ∧ I' 253 52 = 1 ∧ I' 253 53 = 3 ∧ I' 253 54 = 1 ∧ I' 253 55 = -1 ∧ I' 253 86 = 0) → Pv (mem r I' J)) : CV G (d + 1) 163 [.ref 247, .int 50] (mem r I J) Pv := by
  refine e163 ?_
  have loop : ∀ m t (I2 : Nat → Nat → Int32), t + m = 50 → (∀ a, a ≠ 253 → I2 a = I a) → (∀ k, k < 50 → I2 253 k = I 253 k) → (∀ k, k < t → I2 253 (50 + k) = 0) → XX G d none P163 (QV Pv) 2 [.ref 247, .int 50, .int (nI t)] [] (mem r I2 J) := by
    intro m
    induction m with
    | zero =>
      intro t I2 ht h1 h2 h3
      have e50 : t = 50 := by omega
      subst e50
      refine x163_2 (ifp (by decide) ?_)
      have a2 : (50 : Int32) + 2 = nI 52 := rfl
      have a3 : (50 : Int32) + 3 = nI 53 := rfl
      have a4 : (50 : Int32) + 4 = nI 54 := rfl
      have a5 : (50 : Int32) + 5 = nI 55 := rfl
      simp only [mKm, mNm, mIm, mIf, mJm, mJf, mRm, sIm, sJm, rwIm, rwJm, kN, nN, rN, true_and, a2, ix (show 52 < 100 by decide) (by decide)]
      refine b163_23_32 ?_
      simp only [mKm, mNm, mIm, mIf, mJm, mJf, mRm, sIm, sJm, rwIm, rwJm, kN, nN, rN, true_and, a3, ix (show 53 < 100 by decide) (by decide)]
      refine b163_23_41 ?_
      simp only [mKm, mNm, mIm, mIf, mJm, mJf, mRm, sIm, sJm, rwIm, rwJm, kN, nN, rN, true_and, a4, ix (show 54 < 100 by decide) (by decide)]
      refine b163_23_50 ?_
      simp only [mKm, mNm, mIm, mIf, mJm, mJf, mRm, sIm, sJm, rwIm, rwJm, kN, nN, rN, true_and, a5, ix (show 55 < 100 by decide) (by decide)]
      refine b163_23_59 ⟨rfl, h _ (fun a ha => by rw [u2n ha, u2n ha, u2n ha, u2n ha]; exact h1 a ha) (fun k hk => by rw [u2i (by omega), u2i (by omega), u2i (by omega), u2i (by omega)]; exact h2 k hk) ⟨?_, ?_, ?_, ?_, ?_, u2s, ?_⟩⟩
      · rw [u2i (by decide), u2i (by decide), u2i (by decide), u2i (by decide)]; exact h3 0 (by decide)
      · rw [u2i (by decide), u2i (by decide), u2i (by decide), u2i (by decide)]; exact h3 1 (by decide)
      · rw [u2i (by decide), u2i (by decide), u2i (by decide), u2s]
      · rw [u2i (by decide), u2i (by decide), u2s]
      · rw [u2i (by decide), u2s]
      · rw [u2i (by decide), u2i (by decide), u2i (by decide), u2i (by decide)]; exact h3 36 (by decide)
    | succ m ih =>
      intro t I2 ht h1 h2 h3
      have e0 : (50 : Int32) + nI t = nI (50 + t) := nI_add 50 t
      refine x163_2 (ifn (fun z => absurd ((nI_leI (a := 50) (by decide) (by omega)).mp z) (by omega)) ?_)
      simp only [mKm, mNm, mIm, mIf, mJm, mJf, mRm, sIm, sJm, rwIm, rwJm, kN, nN, rN, true_and, e0, ix (show 50 + t < 100 by omega) (by decide), nI_1]
      refine ih (t + 1) _ (by omega) (fun a ha => by rw [u2n ha]; exact h1 a ha) (fun k hk => by rw [u2i (by omega)]; exact h2 k hk) (fun k hk => ?_)
      by_cases e : k = t
      · rw [e, u2s]
      · rw [u2i (by omega)]; exact h3 k (by omega)
  exact loop 50 0 I (by decide) (fun _ _ => rfl) (fun _ _ => rfl) (fun k hk => absurd hk (Nat.not_lt_zero _))
end
