/-! morning: the other side's loop -/
section
variable {G : GG} {d : Nat} {P : Int32 → mm_M → Prop} {Pv : mm_M → Prop} {Q : Option Value → mm_M → Prop} {r : Nat → Nat} {I : Nat → Nat → Int32} {J : Nat → Nat → Int64} {π : PLN} {σ : Nat → Nat → Nat} {tp : List Nat} {y i j n f N : Nat} {nm : NMT} {ln : LN} {I' I2 : Nat → Nat → Int32} {J' J2 : Nat → Nat → Int64}
theorem mlP_len (q1 : 10 ≤ wiF tp j ∧ wiF tp j ≤ 14) (hl : ln.length < 40) (z : (mlP tp nm j ln).1 = 0) : (mlP tp nm j ln).2.2.length = ln.length + 1 := by
  unfold mlP at z ⊢
  rw [if_neg (fun w => w q1), if_neg (by omega)] at z ⊢
  by_cases q14 : wiF tp j = 14
  · rw [if_pos q14]; show (ln ++ [_]).length = _; rw [List.length_append]; rfl
  rw [if_neg q14] at z ⊢
  by_cases z1 : naP tp nm (decide (wiF tp j ≤ 11)) 0 (j + 1) ≠ 0
  · rw [if_pos z1] at z; exact absurd z z1
  rw [if_neg z1] at z ⊢
  by_cases q13 : wiF tp j = 13
  · rw [if_pos q13]; show (ln ++ [_]).length = _; rw [List.length_append]; rfl
  rw [if_neg q13] at z ⊢
  by_cases z2 : naP tp nm (decide (wiF tp j = 11)) (if wiF tp j = 10 then 0 else idF (decide (wiF tp j ≤ 11)) nm (rkF tp (j + 1))) (j + 2) ≠ 0
  · rw [if_pos z2] at z; exact absurd z z2
  rw [if_neg z2]; show (ln ++ [_]).length = _; rw [List.length_append]; rfl
theorem m199l (hw : WN π nm) (hT : nT π ≤ 6) (hP : nP π ≤ 6) : ∀ n j (I : Nat → Nat → Int32) (ln : LN), 1001 ≤ n + j → LV tp j → WL π ln → RT I J tp N j → LBs I ln → NB I J nm → ((maP tp nm n j ln).1 = 0 → WL π (maP tp nm n j ln).2 → ∀ I', Fmn I I' → LBs I' (maP tp nm n j ln).2 → XX G (d + 5) (some .int) P199 (QI P) 221 [.ref 247, .int (nI (maP tp nm n j ln).2.length), .int 0, jk] [] (mem r (u2 I' 260 0 (nI (maP tp nm n j ln).2.length)) J)) → ((maP tp nm n j ln).1 ≠ 0 → ∀ I', Fmn I I' → P (nI (maP tp nm n j ln).1) (mem r I' J)) → XX G (d + 5) (some .int) P199 (QI P) 11 [.ref 247, .int (nI ln.length), jk, jk] [] (mem r I J) := by
  intro n
  induction n with
  | zero =>
    intro j I ln hn hL _ h
    have := hL.le h.l
    omega
  | succ n ih =>
    intro j I ln hn hL hW h hla hnb h0 h1
    have hl := h.l
    have hib := h.ib
    have hs4 := (tok_b tp j).2.2.2.2
    by_cases qs : soF tp j = 0
    · have er : maP tp nm (n + 1) j ln = (0, ln) := by unfold maP; rw [if_pos qs]
      rw [er] at h0
      have fin := h0 rfl hW I Fmn.rfl' hla
      have i00 : vp_in (0 : Int32) 250 := vp_in_nI (n := 0) (N := 250) (by decide) (by decide)
      refine x199_11 ?_
      simp only [mKm, mNm, mIm, mIf, mJm, mJf, mRm, sIm, sJm, rwIm, rwJm, kN, nN, rN, true_and, h.ok, h.at, ix hib (by decide), h.s, i00]
      rw [qs]
      refine ifn (fun z => z (by first | exact rfl | exact trivial)) ?_
      first | exact ifp rfl (ifp (by first | exact trivial | decide) fin) | exact ifp (by first | exact trivial | decide) fin
    · have er : maP tp nm (n + 1) j ln = if (mlP tp nm j ln).1 ≠ 0 then ((mlP tp nm j ln).1, ln) else if sgB tp 59 (mlP tp nm j ln).2.1 = true then maP tp nm n ((mlP tp nm j ln).2.1 + 1) (mlP tp nm j ln).2.2 else (flt tp 1 (mlP tp nm j ln).2.1, ln) := by
        show (if soF tp j = 0 then _ else if (mlP tp nm j ln).1 ≠ 0 then _ else _) = _
        rw [if_neg qs]
      refine x199_11 ?_
      simp only [mKm, mNm, mIm, mIf, mJm, mJf, mRm, sIm, sJm, rwIm, rwJm, kN, nN, rN, true_and, h.ok, h.at, ix hib (by decide), h.s]
      refine ifn (fun z => z (by first | exact rfl | exact trivial)) (ifn (fun z => qs ((nI_eq (b := 0) (by omega) (by decide)).mp z)) ?_)
      refine m181 (fr := 9) (many := 5) h (by decide) ?_
      by_cases q1 : 10 ≤ wiF tp j ∧ wiF tp j ≤ 14
      · have ew : inW tp 9 5 j = true := by unfold inW; simp only [Bool.and_eq_true, decide_eq_true_eq]; omega
        rw [ew, if_pos rfl, show wiF tp j - 9 = wiF tp j - 10 + 1 by omega, nI_pred]
        refine ifp (nI_pos' (by omega)) ?_
        by_cases q2 : ln.length = 40
        · have em : mlP tp nm j ln = (flt tp 5 j, j, ln) := by unfold mlP; rw [if_neg (fun z => z q1), if_pos (by omega)]
          have hb := flt_b hl (j := j) (k := 5) (by decide) (by decide)
          rw [er, em, if_pos (by show flt tp 5 j ≠ 0; omega)] at h1
          have hF := FA.set (I := I) hb
          refine ifn (fun z => z (by rw [q2]; rfl)) ?_
          refine ⟨rfl, m179 (k := 5) h ?_⟩
          first | exact ⟨rfl, m198f hF (fx11 hF (h1 (by show flt tp 5 j ≠ 0; omega) _ Fmn.s8))⟩ | exact m198f hF (fx11 hF (h1 (by show flt tp 5 j ≠ 0; omega) _ Fmn.s8))
        · have := hW.1
          refine ifp (fun z => q2 ((nI_eq (b := 40) (by omega) (by decide)).mp z)) ?_
          refine m64 h q1 (by omega) hla hnb hw hT hP ⟨fun z I1 f1 c1 p1 => ?_, fun z I1 f1 F1 => ?_⟩
          · rw [if_neg (fun w => w z)] at er
            obtain ⟨W1, L1, g1⟩ := mlP_ok (ln' := (mlP tp nm j ln).2.2) (j' := (mlP tp nm j ln).2.1) hl hL hw hT hP hW (by rw [← z])
            have el := mlP_len q1 (by omega) z
            refine m198 (c := 59) c1 (by decide) (fun q => ?_) (fun q => ?_)
            · rw [er, if_pos q] at h0 h1
              rw [← el]
              exact ih ((mlP tp nm j ln).2.1 + 1) _ (mlP tp nm j ln).2.2 (by omega) (L1.s (sgB_0 q)) W1 (c1.adv (sgB_0 q)) (p1.fr (fun i _ => by rw [u2n (by decide)])) (hnb.mn (f1.trans Fmn.s7)) (fun z w I3 f3 => h0 z w I3 ((f1.trans Fmn.s7).trans f3)) (fun z I3 f3 => h1 z I3 ((f1.trans Fmn.s7).trans f3))
            · rw [er, if_neg (by rw [q]; decide)] at h1
              have hb := flt_b hl (j := (mlP tp nm j ln).2.1) (k := 1) (by decide) (by decide)
              have hF := FA.set (I := I1) hb
              exact fx11 hF (h1 (by show flt tp 1 _ ≠ 0; omega) _ (f1.trans Fmn.s8))
          · rw [er, if_pos z] at h1
            exact h1 z I1 f1
      · have ew : inW tp 9 5 j = false := by
          unfold inW
          simp only [Bool.and_eq_false_iff, decide_eq_false_iff_not]
          omega
        rw [ew, if_neg (by decide)]
        have em : mlP tp nm j ln = (flt tp 1 j, j, ln) := by unfold mlP; rw [if_pos q1]
        have hb := flt_b hl (j := j) (k := 1) (by decide) (by decide)
        rw [er, em, if_pos (by show flt tp 1 j ≠ 0; omega)] at h1
        have hF := FA.set (I := I) hb
        refine ifn (by decide) ?_
        refine ⟨rfl, m179 (k := 1) h ?_⟩
        first | exact ⟨rfl, m198f hF (fx11 hF (h1 (by show flt tp 1 j ≠ 0; omega) _ Fmn.s8))⟩ | exact m198f hF (fx11 hF (h1 (by show flt tp 1 j ≠ 0; omega) _ Fmn.s8))
/-- the lines read are taken over -/
theorem m199c {len : Nat} (hlen : len ≤ 40) (hh : ∀ I', (∀ a, a ≠ 260 → I' a = I a) → I' 260 0 = I 260 0 → (∀ k, k < 3 * len → I' 260 (1 + k) = I 260 (125 + k)) → P 0 (mem r I' J)) : XX G d (some .int) P199 (QI P) 221 [.ref 247, .int (nI len), .int 0, jk] [] (mem r I J) := by
  have e3 : (3 : Int32) * nI len = nI (3 * len) := pk_mul 3 len
  have loop : ∀ m t (I2 : Nat → Nat → Int32), t + m = 3 * len → (∀ a, a ≠ 260 → I2 a = I a) → I2 260 0 = I 260 0 → (∀ k, k < t → I2 260 (1 + k) = I 260 (125 + k)) → (∀ k, 125 ≤ k → I2 260 k = I 260 k) → XX G d (some .int) P199 (QI P) 221 [.ref 247, .int (nI len), .int (nI t), jk] [] (mem r I2 J) := by
    intro m
    induction m with
    | zero =>
      intro t I2 ht h1 h2 h3 h4
      refine x199_221 (ifp ?_ ⟨_, rfl, hh I2 h1 h2 (fun k hk => h3 k (by omega))⟩)
      rw [e3]
      exact nI_le (by omega) (by omega)
    | succ m ih =>
      intro t I2 ht h1 h2 h3 h4
      refine x199_221 (ifn (fun z => ?_) ?_)
      · rw [e3] at z
        have := (nI_leI (by omega) (by omega)).mp z
        omega
      · have a1 : (125 : Int32) + nI t = nI (125 + t) := nI_add 125 t
        have a2 : (1 : Int32) + nI t = nI (1 + t) := nI_add 1 t
        simp only [mKm, mNm, mIm, mIf, mJm, mJf, mRm, sIm, sJm, rwIm, rwJm, kN, nN, rN, true_and, a1, a2, ix (show 125 + t < 250 by omega) (by decide), ix (show 1 + t < 250 by omega) (by decide)]
        refine b199_221_245 ?_
        rw [nI_1]
        refine ih (t + 1) _ (by omega) (fun a ha => by rw [u2n ha]; exact h1 a ha) (by rw [u2i (by omega)]; exact h2) (fun k hk => ?_) (fun k hk => by rw [u2i (by omega)]; exact h4 k hk)
        by_cases e : k = t
        · rw [e, u2s]; exact h4 _ (by omega)
        · rw [u2i (by omega)]; exact h3 k (by omega)
  exact loop (3 * len) 0 I (by omega) (fun _ _ => rfl) rfl (fun k hk => absurd hk (Nat.not_lt_zero _)) (fun _ _ => rfl)
def Fmo (I I' : Nat → Nat → Int32) (J J' : Nat → Nat → Int64) : Prop := (∀ a, a ≠ 247 → a ≠ 249 → a ≠ 250 → a ≠ 260 → I' a = I a) ∧ (∀ k, k ∈ [18, 25] → I' 247 k = I 247 k) ∧ (∀ a, a ≠ 251 → J' a = J a) ∧ I' 247 2 = 0
theorem m199 (ht : TB I tp) (hwt : WT tp) (hwc : WC J) (hn : NB I J nm) (hw : WN π nm) (hT : nT π ≤ 6) (hP : nP π ≤ 6) (h0 : (maP tp nm 1001 0 []).1 = 0 → WL π (maP tp nm 1001 0 []).2 → ∀ I' J', Fmo I I' J J' → LB I' (maP tp nm 1001 0 []).2 → P 0 (mem r I' J')) (h1 : (maP tp nm 1001 0 []).1 ≠ 0 → ∀ I' J', Fmo I I' J J' → (∀ k, k < 125 → I' 260 k = I 260 k) → P (nI (maP tp nm 1001 0 []).1) (mem r I' J')) : CI G (d + 6) 199 [.ref 247] (mem r I J) P := by
  refine e199 ⟨rfl, rfl, ?_⟩
  simp only [mKm, mNm, mIm, mIf, mJm, mJf, mRm, sIm, sJm, rwIm, rwJm, kN, nN, rN, true_and]
  have tb : TB (u2 I 247 0 0) tp := by unfold TB; rw [u2i (by decide), u2n (by decide)]; exact ht
  refine m171 tb hwt (fun I1 J1 n f1 t1 z2 z7 z8 => ?_)
  have hr : RT I1 J1 tp n 0 := ⟨t1, by unfold WC; rw [f1.2.2 252 (by decide)]; exact hwc, hwt, Nat.zero_le _, z7, z8⟩
  have ea : ∀ a, a ≠ 247 → a ≠ 249 → a ≠ 250 → I1 a = I a := fun a q1 q2 q3 => by rw [f1.1 a q1 q2 q3, u2n q1]
  have e7 : ∀ k, k ≠ 0 → k ≠ 2 → k ≠ 3 → k ≠ 7 → k ≠ 8 → I1 247 k = I 247 k := fun k q0 q1 q2 q3 q4 => by rw [f1.2.1 k q1 q2 q3 q4, u2i q0]
  have hn1 : NB I1 J1 nm := by unfold NB; rw [e7 18 (by decide) (by decide) (by decide) (by decide) (by decide), ea 258 (by decide) (by decide) (by decide), f1.2.2 256 (by decide)]; exact hn
  have fo : ∀ I3, Fmn I1 I3 → ∀ I4 : Nat → Nat → Int32, (∀ a, a ≠ 260 → I4 a = I3 a) → Fmo I I4 J J1 := fun I3 f3 I4 f4 => by
    refine ⟨fun a q1 q2 q3 q4 => by rw [f4 a q4, f3.1 a q1 q4, ea a q1 q2 q3], fun k hk => ?_, f1.2.2, ?_⟩
    · have hk : k = 18 ∨ k = 25 := by simpa using hk
      rw [f4 247 (by decide), f3.2.1 k (by omega) (by omega), e7 k (by omega) (by omega) (by omega) (by omega) (by omega)]
    · rw [f4 247 (by decide), f3.2.1 2 (by decide) (by decide)]; exact z2
  refine m199l hw hT hP 1001 0 I1 [] (by decide) (fun k hk => absurd hk (Nat.not_lt_zero _)) ⟨by decide, fun i hi => absurd hi (Nat.not_lt_zero _)⟩ hr (fun i hi => absurd hi (Nat.not_lt_zero _)) hn1 (fun z W I3 f3 b3 => ?_) (fun z I3 f3 => h1 z I3 J1 (fo I3 f3 I3 (fun _ _ => rfl)) (fun k hk => by rw [f3.2.2 k hk, ea 260 (by decide) (by decide) (by decide)]))
  refine m199c W.1 (fun I4 f4 g4 b4 => h0 z W I4 J1 (fo I3 f3 I4 (fun a ha => by rw [f4 a ha, u2n ha])) ⟨by rw [g4, u2s], fun i hi => ?_⟩)
  have k1 := b4 (3 * i) (by omega)
  have k2 := b4 (3 * i + 1) (by omega)
  have k3 := b4 (3 * i + 2) (by omega)
  rw [u2i (by omega)] at k1 k2 k3
  rw [k1, show 2 + 3 * i = 1 + (3 * i + 1) by omega, k2, show 3 + 3 * i = 1 + (3 * i + 2) by omega, k3]
  exact b3 i hi
end
