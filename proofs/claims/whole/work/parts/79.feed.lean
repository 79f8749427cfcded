/-! the tape is fed -/
def byF (x : Int64) (k : Nat) : Nat := x.toBitVec.toNat / 2 ^ k % 256
theorem by_c (x : Int64) {k : Nat} (hk : k < 64) : (((x.toUInt64 >>> ((nI k).toInt64.toUInt64 &&& Int64.toUInt64 63)).toInt64) &&& (255 : Int64)).toInt32 = nI (byF x k) := by
  obtain ⟨n, hn, rfl⟩ := wb_of x
  have h1 : n / 2 ^ k < 2 ^ 64 := Nat.lt_of_le_of_lt (Nat.div_le_self _ _) hn
  rw [wb_shr hn hk, show (255 : Int64) = lN (2 ^ 8 - 1) from rfl, wb_mask h1 (by decide), lN_i]
  unfold byF
  rw [wb_tn hn]
theorem by_lt (x : Int64) (k : Nat) : byF x k < 256 := Nat.mod_lt _ (by decide)
theorem by_m (x : Int64) {k : Nat} (hk : k ≤ 56) : ((x >>> ((nI k).toInt64 &&& 63)).toInt32 &&& (255 : Int32)) = nI (byF x k) := by
  rw [pk_and _ (m := 255) 8 rfl]
  congr 1
  rw [wb_c k (by omega)]
  unfold byF
  have e1 : ((x >>> lN k).toInt32.toBitVec.toNat) % 2 ^ 8 = (x >>> lN k).toBitVec.toNat % 2 ^ 8 := by
    show ((x >>> lN k).toBitVec.signExtend 32).toNat % 2 ^ 8 = _
    rw [BitVec.toNat_signExtend]
    simp
  rw [e1, Int64.toBitVec_shiftRight, wb_tb, wb_sm k (by omega)]
  have e2 : ∀ i, i < 8 → (x.toBitVec.sshiftRight' (BitVec.ofNat 64 k)).getLsbD i = x.toBitVec.getLsbD (k + i) := fun i hi => by
    rw [BitVec.getLsbD_sshiftRight']
    have : (BitVec.ofNat 64 k).toNat = k := by rw [BitVec.toNat_ofNat]; omega
    rw [this]
    rw [decide_eq_false (by omega), if_pos (by omega)]
    simp
  refine Nat.eq_of_testBit_eq (fun i => ?_)
  rw [Nat.testBit_mod_two_pow, show (256 : Nat) = 2 ^ 8 from rfl, Nat.testBit_mod_two_pow, Nat.testBit_div_two_pow]
  by_cases q : i < 8
  · rw [decide_eq_true q, Bool.true_and, Bool.true_and]
    rw [Nat.add_comm i k]
    exact e2 i q
  · rw [decide_eq_false q, Bool.false_and, Bool.false_and]
def okC (c : Nat) : Prop := c = 10 ∨ (32 ≤ c ∧ c ≤ 126)
def adF (tp : List Nat) (c : Nat) : List Nat := if (c = 10 ∨ (32 ≤ c ∧ c ≤ 126)) ∧ tp.length < 1000 then tp ++ [c] else tp
theorem tp_new (tp : List Nat) (c : Nat) : (tp ++ [c]).getD tp.length 0 = c := getD_last tp c
theorem tp_old {tp : List Nat} {c i : Nat} (h : i < tp.length) : (tp ++ [c]).getD i 0 = tp.getD i 0 := getD_app h
theorem WT.ad {tp : List Nat} {c : Nat} (h : WT tp) : WT (adF tp c) := by
  unfold adF
  split
  · rename_i q
    refine ⟨by rw [List.length_append]; show _ + 1 ≤ 1000; omega, fun i hi => ?_⟩
    rw [List.length_append] at hi
    have hi : i < tp.length + 1 := hi
    by_cases e : i = tp.length
    · subst e; rw [tp_new]; exact q.1
    · rw [tp_old (by omega)]; exact h.2 i (by omega)
  · exact h
def feW (tp : List Nat) (x : Int64) : List Nat := adF (adF (adF (adF (adF (adF (adF (adF tp (byF x 56)) (byF x 48)) (byF x 40)) (byF x 32)) (byF x 24)) (byF x 16)) (byF x 8)) (byF x 0)
def Fta (I I' : Nat → Nat → Int32) : Prop := (∀ a, a ≠ 2 → a ≠ 3 → I' a = I a)
def Ftb (I I' : Nat → Nat → Int32) : Prop := (∀ a, a ≠ 247 → a ≠ 248 → I' a = I a) ∧ ∀ k, k ≠ 2 → I' 247 k = I 247 k
section
variable {G : GG} {d : Nat} {P : Int32 → mm_M → Prop} {Pv : mm_M → Prop} {Q : Option Value → mm_M → Prop} {r : Nat → Nat} {I : Nat → Nat → Int32} {J : Nat → Nat → Int64} {π : PLN} {σ : Nat → Nat → Nat} {us : List ST} {fe : FE} {ms : Nat → Option (ST × FE)} {ln : LN} {nm : NMT} {tp : List Nat} {y : Nat} {τ : ST}
theorem nar_c {c : Nat} (hc : c < 256) : vp_nar .char (((nI c).toUInt32 % 65536).toInt32) = nI c := by
  rw [pk_vc, pk_char, pk_tn (by omega), Nat.mod_eq_of_lt (by omega)]
theorem d88 {c : Nat} (hc : c < 256) (ht : TA I tp) (hl : tp.length ≤ 1000) (h : ∀ I', Fta I I' → TA I' (adF tp c) → Pv (mem r I' J)) : CV G (d + 1) 88 [.ref 2, .int (nI c)] (mem r I J) Pv := by
  have put : okC c → ifP (1000 ≤ nI tp.length) (Pv (mem r I J)) ((vp_in (nI tp.length) 1000) ∧ BB G d none P88 (QV Pv) S88_23_49 49 [.ref 2, .int (nI c), .int 1] [] (mem r (u2 I 3 tp.length (nI c)) J)) := fun hok => by
    unfold adF at h
    by_cases q : tp.length < 1000
    · rw [if_pos ⟨hok, q⟩] at h
      refine ifn (nI_ge (b := 1000) q (by decide)) ⟨(ix q (by decide)).1, b88_23_49 ?_⟩
      have e0 : u2 I 3 tp.length (nI c) 2 0 = nI tp.length := by rw [u2n (by decide)]; exact ht.1
      simp only [mKm, mNm, mIm, mIf, mJm, mJf, mRm, sIm, sJm, rwIm, rwJm, kN, nN, rN, true_and, e0, nI_1]
      refine ⟨rfl, h _ (fun a a1 a2 => by rw [u2n a1, u2n a2]) ⟨by rw [u2s, List.length_append]; rfl, fun i hi => ?_⟩⟩
      rw [List.length_append] at hi
      have hi : i < tp.length + 1 := hi
      rw [u2n (by decide)]
      by_cases e : i = tp.length
      · subst e; rw [u2s, tp_new]
      · rw [u2i e, tp_old (by omega)]; exact ht.2 i (by omega)
    · rw [if_neg (fun z => q z.2)] at h
      exact ifp (nI_le (a := 1000) (by omega) (by omega)) (h I (fun _ _ _ => rfl) ht)
  have hlt : (nI tp.length).toNatClampNeg = tp.length := nI_clamp (by omega)
  have no : ¬ okC c → Pv (mem r I J) := fun hok => by
    unfold adF at h
    rw [if_neg (fun z => hok z.1)] at h
    exact h I (fun _ _ _ => rfl) ht
  refine e88 ?_
  simp only [mKm, mNm, mIm, mIf, mJm, mJf, mRm, sIm, sJm, rwIm, rwJm, kN, nN, rN, true_and, ht.1, nar_c hc, hlt]
  refine ifb (fun q => ?_) (fun q => ?_)
  · have : c = 10 := (nI_eq (b := 10) (by omega) (by decide)).mp q
    exact put (Or.inl this)
  · have q1 : ¬ c = 10 := fun z => q (by rw [z]; rfl)
    refine ifb (fun q2 => no ?_) (fun q2 => ifb (fun q3 => no ?_) (fun q3 => put ?_))
    · have := (nI_ltI (b := 32) (by omega) (by decide)).mp q2
      unfold okC; omega
    · have := (nI_ltI (a := 126) (by decide) (by omega)).mp q3
      unfold okC; omega
    · have h1 : ¬ c < 32 := fun z => q2 (nI_lt (b := 32) z (by decide))
      have h2 : ¬ 126 < c := fun z => q3 (nI_lt (a := 126) z (by omega))
      unfold okC; omega
theorem d109 {x : Int64} (ht : TA I tp) (hw : WT tp) (h : ∀ I', Fta I I' → TA I' (feW tp x) → Pv (mem r I' J)) : CV G (d + 2) 109 [.ref 1, .long x] (mem r I J) Pv := by
  have step : ∀ (k : Nat) (l' : Int32) (tq : List Nat) (I1 : Nat → Nat → Int32), k ≤ 56 → nI k + -8 = l' → Fta I I1 → TA I1 tq → WT tq → (∀ I2, Fta I I2 → TA I2 (adF tq (byF x k)) → XX G (d + 1) none P109 (QV Pv) 3 [.ref 1, .long x, jk, .int l'] [] (mem r I2 J)) → XX G (d + 1) none P109 (QV Pv) 3 [.ref 1, .long x, jk, .int (nI k)] [] (mem r I1 J) := fun k l' tq I1 hk hl' hf1 ht1 hw1 hh => by
    refine x109_3 (ifn (nI_pos (by omega)) ?_)
    simp only [mKm, mNm, mIm, mIf, mJm, mJf, mRm, sIm, sJm, rwIm, rwJm, kN, nN, rN, true_and, by_c x (show k < 64 by omega)]
    refine d88 (by_lt x k) ht1 hw1.1 (fun I2 hf2 ht2 => ?_)
    rw [hl']
    exact hh I2 (fun a a1 a2 => (hf2 a a1 a2).trans (hf1 a a1 a2)) ht2
  refine e109 ?_
  refine step 56 (nI 48) tp I (by decide) (by decide) (fun _ _ _ => rfl) ht hw (fun I1 f1 t1 => ?_)
  refine step 48 (nI 40) _ I1 (by decide) (by decide) f1 t1 hw.ad (fun I1 f1 t1 => ?_)
  refine step 40 (nI 32) _ I1 (by decide) (by decide) f1 t1 hw.ad.ad (fun I1 f1 t1 => ?_)
  refine step 32 (nI 24) _ I1 (by decide) (by decide) f1 t1 hw.ad.ad.ad (fun I1 f1 t1 => ?_)
  refine step 24 (nI 16) _ I1 (by decide) (by decide) f1 t1 hw.ad.ad.ad.ad (fun I1 f1 t1 => ?_)
  refine step 16 (nI 8) _ I1 (by decide) (by decide) f1 t1 hw.ad.ad.ad.ad.ad (fun I1 f1 t1 => ?_)
  refine step 8 (nI 0) _ I1 (by decide) (by decide) f1 t1 hw.ad.ad.ad.ad.ad.ad (fun I1 f1 t1 => ?_)
  refine step 0 (-8) _ I1 (by decide) (by decide) f1 t1 hw.ad.ad.ad.ad.ad.ad.ad (fun I1 f1 t1 => ?_)
  exact x109_3 (ifp (by decide) ⟨rfl, h I1 f1 t1⟩)
theorem WT.feed {x : Int64} (h : WT tp) : WT (feW tp x) := h.ad.ad.ad.ad.ad.ad.ad.ad
theorem m161 {x : Int64} (ht : TB I tp) (hw : WT tp) (h : ∀ I', Ftb I I' → TB I' (feW tp x) → Pv (mem r I' J)) : CV G (d + 2) 161 [.ref 247, .long x] (mem r I J) Pv := by
  have step : ∀ (k : Nat) (l' : Int32) (tq : List Nat) (I1 : Nat → Nat → Int32), k ≤ 56 → nI k + -8 = l' → Ftb I I1 → TB I1 tq → WT tq → (∀ I2, Ftb I I2 → TB I2 (adF tq (byF x k)) → XX G (d + 1) none P161 (QV Pv) 3 [.ref 247, .long x, jk, .int l', jk] [] (mem r I2 J)) → XX G (d + 1) none P161 (QV Pv) 3 [.ref 247, .long x, jk, .int (nI k), jk] [] (mem r I1 J) := fun k l' tq I1 hk hl' hf1 ht1 hw1 hh => by
    have hl := hw1.1
    have hc := by_lt x k
    refine x161_3 (ifn (nI_pos (by omega)) ?_)
    rw [by_m x hk]
    generalize byF x k = c at hh hc
    have hlt : (nI tq.length).toNatClampNeg = tq.length := nI_clamp (by omega)
    have no : ¬ okC c → XX G (d + 1) none P161 (QV Pv) 3 [.ref 247, .long x, jk, .int l', jk] [] (mem r I1 J) := fun hok => by
      unfold adF at hh
      rw [if_neg (fun z => hok z.1)] at hh
      exact hh I1 hf1 ht1
    have e0 : u2 I1 248 tq.length (nI c) 247 2 = nI tq.length := by rw [u2n (by decide)]; exact ht1.1
    have yes : okC c → tq.length < 1000 → XX G (d + 1) none P161 (QV Pv) 3 [.ref 247, .long x, jk, .int l', jk] [] (mem r (u2 (u2 I1 248 tq.length (nI c)) 247 2 (nI (tq.length + 1))) J) := fun hok q => by
      unfold adF at hh
      rw [if_pos ⟨hok, q⟩] at hh
      refine hh _ ⟨fun a a1 a2 => by rw [u2n a1, u2n a2]; exact hf1.1 a a1 a2, fun k hk => by rw [u2i hk, u2n (by decide)]; exact hf1.2 k hk⟩ ⟨by rw [u2s, List.length_append]; rfl, fun i hi => ?_⟩
      rw [List.length_append] at hi
      have hi : i < tq.length + 1 := hi
      rw [u2n (by decide)]
      by_cases e : i = tq.length
      · subst e; rw [u2s, tp_new]
      · rw [u2i e, tp_old (by omega)]; exact ht1.2 i (by omega)
    refine b161_3_17 ?_
    simp only [mKm, mNm, mIm, mIf, mJm, mJf, mRm, sIm, sJm, rwIm, rwJm, kN, nN, rN, true_and, ht1.1, hlt, e0, nI_1, hl']
    refine ifb (fun q => ?_) (fun q => ?_)
    · have hok : okC c := Or.inl ((nI_eq (b := 10) (by omega) (by decide)).mp q)
      by_cases q2 : tq.length < 1000
      · refine ifn (nI_ge (b := 1000) q2 (by decide)) ⟨(ix q2 (by decide)).1, b161_38_69 ?_⟩
        rw [hl']
        exact yes hok q2
      · refine ifp (nI_le (a := 1000) (by omega) (by omega)) ?_
        unfold adF at hh
        rw [if_neg (fun z => q2 z.2)] at hh
        exact hh I1 hf1 ht1
    · have q1 : ¬ c = 10 := fun z => q (by rw [z]; rfl)
      refine ifb (fun q2 => no ?_) (fun q2 => ifb (fun q3 => no ?_) (fun q3 => ?_))
      · have := (nI_ltI (b := 32) (by omega) (by decide)).mp q2
        unfold okC; omega
      · have := (nI_ltI (a := 126) (by decide) (by omega)).mp q3
        unfold okC; omega
      · have h1 : ¬ c < 32 := fun z => q2 (nI_lt (b := 32) z (by decide))
        have h2 : ¬ 126 < c := fun z => q3 (nI_lt (a := 126) z (by omega))
        have hok : okC c := by unfold okC; omega
        by_cases q4 : tq.length < 1000
        · refine ifn (nI_ge (b := 1000) q4 (by decide)) ⟨(ix q4 (by decide)).1, b161_3_69 ?_⟩
          rw [hl']
          exact yes hok q4
        · refine ifp (nI_le (a := 1000) (by omega) (by omega)) ?_
          unfold adF at hh
          rw [if_neg (fun z => q4 z.2)] at hh
          exact hh I1 hf1 ht1
  refine e161 ?_
  refine step 56 (nI 48) tp I (by decide) (by decide) ⟨fun _ _ _ => rfl, fun _ _ => rfl⟩ ht hw (fun I1 f1 t1 => ?_)
  refine step 48 (nI 40) _ I1 (by decide) (by decide) f1 t1 hw.ad (fun I1 f1 t1 => ?_)
  refine step 40 (nI 32) _ I1 (by decide) (by decide) f1 t1 hw.ad.ad (fun I1 f1 t1 => ?_)
  refine step 32 (nI 24) _ I1 (by decide) (by decide) f1 t1 hw.ad.ad.ad (fun I1 f1 t1 => ?_)
  refine step 24 (nI 16) _ I1 (by decide) (by decide) f1 t1 hw.ad.ad.ad.ad (fun I1 f1 t1 => ?_)
  refine step 16 (nI 8) _ I1 (by decide) (by decide) f1 t1 hw.ad.ad.ad.ad.ad (fun I1 f1 t1 => ?_)
  refine step 8 (nI 0) _ I1 (by decide) (by decide) f1 t1 hw.ad.ad.ad.ad.ad.ad (fun I1 f1 t1 => ?_)
  refine step 0 (-8) _ I1 (by decide) (by decide) f1 t1 hw.ad.ad.ad.ad.ad.ad.ad (fun I1 f1 t1 => ?_)
  exact x161_3 (ifp (by decide) ⟨rfl, h I1 f1 t1⟩)
theorem CA.tape {tq : List Nat} {I0 : Nat → Nat → Int32} (hA : CA r I J π σ us ms fe ln nm tp) (hf : Fta I I0) (ht : TA I0 tq) (hw : WT tq) : CA r I0 J π σ us ms fe ln nm tq :=
  ⟨hA.k.lo (fun a ha => hf a (by omega) (by omega)), hA.pa.fr (fun a h1 h2 => hf a (by omega) (by omega)), hA.ma.fr (hf 58 (by decide) (by decide)) (fun a h1 h2 => hf a (by omega) (by omega)), ⟨hA.cf.keep (fun a h1 h2 => hf a (by omega) (by omega)), hA.wf⟩, ⟨hA.la.keep (fun a h1 h2 => hf a (by omega) (by omega)), hA.wl⟩, ⟨hA.na, hA.wn⟩, ht, hw⟩
theorem RA.tape {tq : List Nat} {I0 : Nat → Nat → Int32} (hR : RA I J π σ us ms fe ln nm tp) (hl : ∀ m x, m < 4 → ms m = some x → x.2.length ≤ 8) (hfe : fe.length ≤ 8) (hf : Ftb I I0) (ht : TB I0 tq) : RA I0 J π σ us ms fe ln nm tq := by
  refine ⟨hR.k.keep (fun a ha => hf.1 a (by simp at ha; omega) (by simp at ha; omega)) (fun k _ _ => by rw [hf.1 263 (by decide) (by decide)]), hR.pb.fr hR.k.w (hf.2 25 (by decide)) (fun k _ _ => by rw [hf.1 263 (by decide) (by decide)]), hR.mb.fr hR.k.w hl (hf.1 264 (by decide) (by decide)) (fun k _ _ => by rw [hf.1 263 (by decide) (by decide)]), hR.rf.keep hfe (fun k _ _ => by rw [hf.1 263 (by decide) (by decide)]), ?_, ?_, ht, hR.wc⟩
  · unfold LB; rw [hf.1 260 (by decide) (by decide)]; exact hR.lb
  · unfold NB; rw [hf.2 18 (by decide), hf.1 258 (by decide) (by decide)]; exact hR.nb
theorem L108 {M : mm_M} (h : PR y M) (a b c : Int64) : EQ G (d + 40) 108 160 y [.long a, .long b, .long c] M := by
  obtain ⟨r, I, J, π, σ, us, ms, fe, ln, nm, tp, rfl, hA, hR, hY⟩ := h
  have hl := hA.ma.len
  have hfe := hA.wf.1
  refine e108 ⟨rfl, d109 hA.ta hA.wt (fun I1 f1 t1 => ⟨rfl, d109 t1 hA.wt.feed (fun I2 f2 t2 => ⟨rfl, d109 t2 hA.wt.feed.feed (fun I3 f3 t3 => ?_)⟩)⟩)⟩
  simp only [mKm, mNm, mIm, mIf, mJm, mJf, mRm, sIm, sJm, rwIm, rwJm, kN, nN, rN, true_and, t3.1]
  have f13 : Fta I I3 := fun a a1 a2 => ((f3 a a1 a2).trans (f2 a a1 a2)).trans (f1 a a1 a2)
  have hA3 := hA.tape f13 t3 hA.wt.feed.feed.feed
  have hR3 : RA (T0 I3) J π σ us ms fe ln nm tp := (hR.q hl hfe (rk_lo (fun a ha => f13 a (by omega) (by omega)) (fun _ _ => rfl))).t0 hl hfe
  refine e160 ?_
  simp only [mKm, mNm, mIm, mIf, mJm, mJf, mRm, sIm, sJm, rwIm, rwJm, kN, nN, rN, true_and]
  refine m161 hR3.tb hA.wt (fun I4 f4 t4 => ⟨rfl, m161 t4 hA.wt.feed (fun I5 f5 t5 => ⟨rfl, m161 t5 hA.wt.feed.feed (fun I6 f6 t6 => ?_)⟩)⟩)
  simp only [mKm, mNm, mIm, mIf, mJm, mJf, mRm, sIm, sJm, rwIm, rwJm, kN, nN, rN, true_and, t6.1]
  have f46 : Ftb (T0 I3) I6 := ⟨fun a a1 a2 => ((f6.1 a a1 a2).trans (f5.1 a a1 a2)).trans (f4.1 a a1 a2), fun k hk => ((f6.2 k hk).trans (f5.2 k hk)).trans (f4.2 k hk)⟩
  have fin : PR (y + 1) (mem r I6 J) := PR_d hA3 (hR3.tape hl hfe f46 t6) (fun a ha => (f46.1 a (by omega) (by omega)).trans (lo_t0 a ha)) (hY.mono (by omega))
  first | exact ⟨rfl, fin⟩ | exact fin
end
