/-! morning: the class's loop -/
section
variable {G : GG} {d : Nat} {P : Int32 → mm_M → Prop} {Pv : mm_M → Prop} {Q : Option Value → mm_M → Prop} {r : Nat → Nat} {I : Nat → Nat → Int32} {J : Nat → Nat → Int64} {π : PLN} {σ : Nat → Nat → Nat} {tp : List Nat} {y i j n f N : Nat} {nm : NMT} {I' I2 : Nat → Nat → Int32} {J' J2 : Nat → Nat → Int64}
theorem n24l (hw : WN π nm) (hT : nT π ≤ 6) (hP : nP π ≤ 6) : ∀ n l j (I : Nat → Nat → Int32) (J : Nat → Nat → Int64) (ln : LN), 1001 ≤ n + j → l ≤ j → LV tp j → WL π ln → CRD I J tp j → LAs I ln → (I 4 0 = nI (nT π) ∧ I 4 1 = nI (nP π)) → NA J nm → ((maP tp nm n j ln).1 = 0 → ∀ I' J', Fcm I I' J J' → WL π (maP tp nm n j ln).2 → LAs I' (maP tp nm n j ln).2 → P 0 (mem r I' J')) → ((maP tp nm n j ln).1 ≠ 0 → (maP tp nm n j ln).1 < 2 ^ 20 → ∀ I' J', Fcm I I' J J' → P (nI (maP tp nm n j ln).1) (mem r I' J')) → XX G (d + 9) (some .int) P24 (QI P) 13 [.ref 33, .ref 2, .ref 4, .int (nI l)] [] (mem r I J) := by
  intro n
  induction n with
  | zero =>
    intro l j I J ln hn _ hL _ hc
    have := hL.le hc.l
    omega
  | succ n ih =>
    intro l j I J ln hn hlj hL hW hc hp h4 hna h0 h1
    have hl := hc.l
    have hj := hL.le hl
    have hs4 := (tok_b tp j).2.2.2.2
    by_cases qs : soF tp j = 0
    · have er : maP tp nm (n + 1) j ln = (0, ln) := by unfold maP; rw [if_pos qs]
      rw [er] at h0
      have fin := h0 rfl I J Fcr.rfl'.cm hW hp
      refine x24_13 (ifb (fun _ => ⟨_, rfl, fin⟩) (fun _ => ?_))
      simp only [mKm, mNm, mIm, mIf, mJm, mJf, mRm, sIm, sJm, rwIm, rwJm, kN, nN, rN, true_and, hc.s]
      rw [qs]
      first | exact ifp rfl ⟨_, rfl, fin⟩ | exact ⟨_, rfl, fin⟩
    · have hj1 := hL.lt hl qs
      refine x24_13 (ifn (fun z => absurd ((nI_leI (a := 1000) (by decide) (by omega)).mp z) (by omega)) ?_)
      simp only [mKm, mNm, mIm, mIf, mJm, mJf, mRm, sIm, sJm, rwIm, rwJm, kN, nN, rN, true_and, hc.s]
      refine ifn (fun z => qs ((nI_eq (b := 0) (by omega) (by decide)).mp z)) ?_
      refine n25 hc hp h4 hna hw hT hP hW.1 ⟨fun z I1 J1 f1 c1 p1 => ?_, fun z I1 J1 f1 h4 => ifp rfl ?_⟩
      · have er : maP tp nm (n + 1) j ln = if sgB tp 59 (mlP tp nm j ln).2.1 = true then maP tp nm n ((mlP tp nm j ln).2.1 + 1) (mlP tp nm j ln).2.2 else (flt tp 1 (mlP tp nm j ln).2.1, ln) := by
          show (if soF tp j = 0 then _ else if (mlP tp nm j ln).1 ≠ 0 then _ else _) = _
          rw [if_neg qs, if_neg (fun w => w z)]
        obtain ⟨W1, L1, g1⟩ := mlP_ok (ln' := (mlP tp nm j ln).2.2) (j' := (mlP tp nm j ln).2.1) hl hL hw hT hP hW (by rw [← z])
        refine ifn (by decide) ⟨rfl, n105 (c := 59) c1 (by decide) (fun q I2 J2 f2 c2 => ifp (by decide) ?_) (fun q I2 f2 h2 => ifn (fun w => w rfl) ?_)⟩
        · rw [er, if_pos q] at h0 h1
          rw [nI_1]
          have e4 : I2 4 = I 4 := by rw [f2.1 4 (by decide), f1.1 4 (by decide) (by omega) (by omega)]
          have e8 : J2 8 = J 8 := by rw [f2.2.2.2 8 (by decide), f1.2.2 8 (by decide) (by decide) (by decide)]
          have e11 : J2 11 = J 11 := by rw [f2.2.2.2 11 (by decide), f1.2.2 11 (by decide) (by decide) (by decide)]
          exact ih (l + 1) ((mlP tp nm j ln).2.1 + 1) I2 J2 (mlP tp nm j ln).2.2 (by omega) (by omega) (L1.s (sgB_0 q)) W1 c2 (p1.fr (fun a _ _ => f2.1 a (by omega))) (by rw [e4]; exact h4) (by unfold NA; rw [e8, e11]; exact hna) (fun z I3 J3 f3 => h0 z I3 J3 ((f1.trans f2.cr.cm).trans f3)) (fun z z2 I3 J3 f3 => h1 z z2 I3 J3 ((f1.trans f2.cr.cm).trans f3))
        · rw [er, if_neg (by rw [q]; decide)] at h1
          have hb := flt_b hl (j := (mlP tp nm j ln).2.1) (k := 1) (by decide) (by decide)
          have fin := h1 (by show flt tp 1 _ ≠ 0; omega) hb.2 I2 J1 (f1.trans f2.cr.cm)
          simp only [mKm, mNm, mIm, mIf, mJm, mJf, mRm, sIm, sJm, rwIm, rwJm, kN, nN, rN, true_and, h2]
          first | exact ⟨rfl, _, rfl, fin⟩ | exact ⟨_, rfl, fin⟩
      · have er : maP tp nm (n + 1) j ln = ((mlP tp nm j ln).1, ln) := by
          show (if soF tp j = 0 then _ else if (mlP tp nm j ln).1 ≠ 0 then _ else _) = _
          rw [if_neg qs, if_pos z]
        rw [er] at h1
        have fin := h1 z (mlP_b hl) I1 J1 f1
        simp only [mKm, mNm, mIm, mIf, mJm, mJf, mRm, sIm, sJm, rwIm, rwJm, kN, nN, rN, true_and, h4]
        first | exact ⟨rfl, _, rfl, fin⟩ | exact ⟨_, rfl, fin⟩
end
