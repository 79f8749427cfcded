/-! undo, what is felt, marks: answered alike -/
def bI (b : Bool) : Int32 := if b then 1 else 0
theorem nar_b (b : Bool) : vp_nar .boolean (bI b) = bI b := by cases b <;> rfl
theorem take_getD {us : List ST} {n i : Nat} (h : i < n) : (us.take n).getD i z0 = us.getD i z0 := by
  rw [List.getD_eq_getElem?_getD, List.getD_eq_getElem?_getD, List.getElem?_take_of_lt h]
theorem fe_len (fe : FE) (x : Nat × Bool) : (fe ++ [x]).length = fe.length + 1 := by rw [List.length_append]; rfl
theorem fe_old (fe : FE) (x : Nat × Bool) {i : Nat} (h : i < fe.length) : fT (fe ++ [x]) i = fT fe i ∧ fB (fe ++ [x]) i = fB fe i := by
  unfold fT fB
  rw [List.getD_eq_getElem?_getD, List.getD_eq_getElem?_getD, List.getElem?_append_left h]
  exact ⟨rfl, rfl⟩
theorem fe_new (fe : FE) (x : Nat × Bool) : fT (fe ++ [x]) fe.length = x.1 ∧ fB (fe ++ [x]) fe.length = x.2 := by
  unfold fT fB
  rw [List.getD_eq_getElem?_getD, List.getElem?_append_right (Nat.le_refl _), Nat.sub_self]
  exact ⟨rfl, rfl⟩
def feL : List Nat := [195, 206, 217, 228, 231]
theorem feN {f : Nat} (h : f ∈ feL) : kF f = 0 ∧ (∀ r, rF r f 1 = f + 1) ∧ (∀ r, rF r f 2 = f + 2) ∧ kF (f + 1) = 14 ∧ kF (f + 2) = 16 ∧ nF (f + 1) = 8 ∧ nF (f + 2) = 8 := by
  simp only [feL, List.mem_cons, List.mem_nil_iff, or_false] at h
  rcases h with rfl | rfl | rfl | rfl | rfl <;> exact ⟨rfl, fun _ => rfl, fun _ => rfl, rfl, rfl, rfl, rfl⟩
theorem feD : ∀ f ∈ feL, ∀ o ∈ feL, f ≠ o → (f + 3 ≤ o ∨ o + 3 ≤ f) := by decide +kernel
theorem fe_st : ∀ f ∈ feL, ∀ s ∈ stL, (f + 3 ≤ s ∨ s + 8 ≤ f) := by decide +kernel
theorem mkN {m : Nat} (h : m < 4) : (187 + 11 * m ∈ stL) ∧ (195 + 11 * m ∈ feL) ∧ (∀ r, rF r 56 m = 187 + 11 * m) ∧ (∀ r, rF r 57 m = 195 + 11 * m) := by
  rcases (show m = 0 ∨ m = 1 ∨ m = 2 ∨ m = 3 by omega) with rfl | rfl | rfl | rfl <;> exact ⟨by decide, by decide, fun _ => rfl, fun _ => rfl⟩
theorem ek61 (i : Nat) : (60 : Int32) * (1 + nI i) = nI (60 * (1 + i)) := by
  show nI 60 * (nI 1 + nI i) = _
  rw [nI_add, pk_mul]
theorem q44 (i : Nat) : (44 : Int32) + 2 * nI i = nI (44 + 2 * i) := by
  show nI 44 + nI 2 * nI i = _
  rw [pk_mul, nI_add]
section
variable {G : GG} {d : Nat} {P : Int32 → mm_M → Prop} {Pv : mm_M → Prop} {Q : Option Value → mm_M → Prop} {r : Nat → Nat} {I : Nat → Nat → Int32} {J : Nat → Nat → Int64} {π : PLN} {σ : Nat → Nat → Nat} {us us' : List ST} {fe fe' : FE} {ms ms' : Nat → Option (ST × FE)} {ln : LN} {nm : NMT} {tp : List Nat} {σ' : ST} {r0 : Nat → Nat} {I0 : Nat → Nat → Int32} {y : Nat}
theorem KS.lo (hk : KS I 38 π σ) (hf : ∀ a, (4 ≤ a ∧ a ≤ 14) ∨ (38 ≤ a ∧ a ≤ 45) → I0 a = I a) : KS I0 38 π σ := ⟨hk.st, hk.p.keep (fun a h1 h2 => hf a (by omega)), hk.w, hk.c.keep (fun a h1 h2 => hf a (by omega)), hk.v⟩
theorem CA.mk' (hA : CA r I J π σ us ms fe ln nm tp) (hk : KS I0 38 π σ') (hp : PA r0 I0 π us') (hm : MA I0 π ms') (hc : CF I0 231 fe') (hw : WF π fe') (hf : ∀ a, a = 2 ∨ a = 3 ∨ (16 ≤ a ∧ a ≤ 19) → I0 a = I a) : CA r0 I0 J π σ' us' ms' fe' ln nm tp := by
  refine ⟨hk, hp, hm, ⟨hc, hw⟩, ⟨hA.la.keep (fun a h1 h2 => hf a (by omega)), hA.wl⟩, ⟨hA.na, hA.wn⟩, ?_, hA.wt⟩
  unfold TA; rw [hf 2 (by omega), hf 3 (by omega)]; exact hA.ta
theorem RA.mk' (hR : RA I J π σ us ms fe ln nm tp) (hk : KR I0 0 π σ') (hp : PB I0 π us') (hm : MB I0 π ms') (hc : RF I0 0 fe') (h1 : ∀ a, a ∈ [248, 258, 260] → I0 a = I a) (h3 : ∀ k, k ∈ [2, 18] → I0 247 k = I 247 k) : RA I0 J π σ' us' ms' fe' ln nm tp := by
  refine ⟨hk, hp, hm, hc, ?_, ?_, ?_, hR.wc⟩
  · unfold LB; rw [h1 260 (by decide)]; exact hR.lb
  · unfold NB; rw [h3 18 (by decide), h1 258 (by decide)]; exact hR.nb
  · unfold TB; rw [h3 2 (by decide), h1 248 (by decide)]; exact hR.tb
theorem L120 {M : mm_M} (h : PR y M) : EQ G (d + 40) 120 233 y [] M := by
  obtain ⟨r, I, J, π, σ, us, ms, fe, ln, nm, tp, rfl, hA, hR, hY⟩ := h
  have hl := hA.ma.len
  have hfe := hA.wf.1
  have hw := hA.w
  have hlen := hA.pa.2.1
  refine e120 ?_
  simp only [mKm, mNm, mIm, mIf, mJm, mJf, mRm, sIm, sJm, rwIm, rwJm, kN, nN, rN, true_and]
  by_cases q : us.length = 0
  · have fin0 : PR (y + 1) (mem r (u2 I 247 0 0) J) := PR_qq hA hR hY (by omega) Fr.rfl Fr.rfl
    refine d46n hA.pa q ⟨Or.inl rfl, rfl, e233 ?_⟩
    have e25 : u2 I 247 0 0 247 25 = nI us.length := by rw [u2i (by decide)]; exact hR.pb.1
    simp only [mKm, mNm, mIm, mIf, mJm, mJf, mRm, sIm, sJm, rwIm, rwJm, kN, nN, rN, true_and, e25, q]
    exact ifn (fun z => z rfl) (by first | exact ⟨rfl, fin0⟩ | exact fin0)
  · refine d46 hA.pa hA.k.p hA.w q (fun I1 hf1 hk1 hp1 => ⟨Or.inr rfl, rfl, e233 ?_⟩)
    have hi1 : ∀ a, 247 ≤ a → I1 a = I a := fun a ha => hf1 a (by omega) (by omega) (by omega)
    have e25 : u2 I1 247 0 0 247 25 = nI us.length := by rw [u2i (by decide), hi1 247 (by decide)]; exact hR.pb.1
    simp only [mKm, mNm, mIm, mIf, mJm, mJf, mRm, sIm, sJm, rwIm, rwJm, kN, nN, rN, true_and, e25]
    refine ifp (nI_ne0 (by omega) (by omega)) (b233_14_24 ?_)
    have e25' : u2 (u2 I1 247 0 0) 247 25 (nI us.length - 1) 247 25 = nI (us.length - 1) := by rw [u2s, sh_ix q]
    simp only [mKm, mNm, mIm, mIf, mJm, mJf, mRm, sIm, sJm, rwIm, rwJm, kN, nN, rN, true_and, e25', ek60]
    refine m220 (f := 60 * (5 + (us.length - 1))) (t := 0) (n := 43) (by omega) (by omega) (by omega) (fun I2 hc => ?_)
    have ho : ∀ a, a ≠ 247 → a ≠ 263 → I2 a = I1 a := fun a a1 a2 => by rw [hc.1 a a2, u2n a1, u2n a1]
    have h263 : ∀ k, u2 (u2 I1 247 0 0) 247 25 (nI us.length - 1) 263 k = I 263 k := fun k => by rw [u2n (by decide), u2n (by decide), hi1 263 (by decide)]
    have hA2 : CA r I1 J π (us.getD (us.length - 1) z0) (us.take (us.length - 1)) ms fe ln nm tp := hA.rows hk1 hp1 (fun a a1 a2 a3 => hf1 a a1 a2 (by omega))
    have hlt : (us.take (us.length - 1)).length = us.length - 1 := by rw [List.length_take]; omega
    have hkr : KR I2 0 π (us.getD (us.length - 1) z0) := ⟨by decide, hR.k.p.fr_of (by rw [ho 253 (by decide) (by decide), hi1 253 (by decide)]) (by rw [ho 254 (by decide) (by decide), hi1 254 (by decide)]) (by rw [ho 255 (by decide) (by decide), hi1 255 (by decide)]), hw, RS.cpy hw ((hR.pb.2.2 (us.length - 1) (by omega)).keep hw (fun k _ _ => h263 k)) hc (by decide), hk1.v⟩
    have hpb : PB I2 π (us.take (us.length - 1)) := by
      refine ⟨by rw [hlt, hc.1 247 (by decide)]; exact e25', by omega, fun i hi => ?_⟩
      rw [hlt] at hi
      rw [take_getD hi]
      exact (hR.pb.2.2 i (by omega)).keep hw (fun k h1 h2 => by rw [hc.2.2 k (by omega)]; exact h263 k)
    have fin : PR (y + 1) (mem r I2 J) := by
      refine PR_d hA2 (hR.rows hl hfe hkr hpb (fun a ha => ?_) (fun k h1 h2 => ?_) (fun k hk => ?_)) (fun a ha => ho a (by omega) (by omega)) ⟨?_, fun i hi => ?_, fun m x hm e => ?_⟩
      · rw [ho a (by simp at ha; omega) (by simp at ha; omega)]; exact hi1 a (by simp at ha; omega)
      · rw [hc.2.2 k (by omega)]; exact h263 k
      · rw [hc.1 247 (by decide), u2i (by simp at hk; omega), u2i (by simp at hk; omega), hi1 247 (by decide)]
      · exact Nat.le_trans (hY.2.1 _ (by omega)) (by omega)
      · rw [hlt] at hi
        rw [take_getD hi]
        exact Nat.le_trans (hY.2.1 i (by omega)) (by omega)
      · exact Nat.le_trans (hY.2.2 m x hm e) (by omega)
    first | exact ⟨_, rfl, rfl, fin⟩ | exact ⟨_, rfl, fin⟩ | exact ⟨rfl, fin⟩ | exact fin
/-! felt -/
theorem WF.add {t : Nat} {b : Bool} (h : WF π fe) (h8 : fe.length < 8) (ht : t < nT π) : WF π (fe ++ [(t, b)]) := by
  refine ⟨by rw [fe_len]; omega, fun i hi => ?_⟩
  rw [fe_len] at hi
  by_cases e : i = fe.length
  · subst e; rw [(fe_new fe _).1]; exact ht
  · rw [(fe_old fe _ (by omega)).1]; exact h.2 i (by omega)
theorem L139 {M : mm_M} (h : PR y M) (x : Int32) (b : Bool) : EQ G (d + 40) 139 254 y [.int x, .int (bI b)] M := by
  obtain ⟨r, I, J, π, σ, us, ms, fe, ln, nm, tp, rfl, hA, hR, hY⟩ := h
  have hl := hA.ma.len
  have hfe := hA.wf.1
  have hw := hA.w
  have hT := hw.t
  have fin0 : PR (y + 1) (mem r (u2 I 247 0 0) J) := PR_qq hA hR hY (by omega) Fr.rfl Fr.rfl
  have hk0 := (hR.t0 hl hfe).k
  refine e139 ?_
  simp only [mKm, mNm, mIm, mIf, mJm, mJf, mRm, sIm, sJm, rwIm, rwJm, kN, nN, rN, true_and]
  by_cases q1 : 0 ≤ x ∧ x < nI (nT π)
  · obtain ⟨t, ht, rfl⟩ := inR (by omega) q1
    refine d54 hA.k.p hw ht (ifn (by decide) ?_)
    simp only [mKm, mNm, mIm, mIf, mJm, mJf, mRm, sIm, sJm, rwIm, rwJm, kN, nN, rN, true_and]
    refine e2 ?_
    simp only [mKm, mNm, mIm, mIf, mJm, mJf, mRm, sIm, sJm, rwIm, rwJm, kN, nN, rN, true_and, hA.cf.1]
    by_cases q8 : fe.length < 8
    · refine ifp (nI_lt (b := 8) q8 (by decide)) ?_
      have e0 : u2 I 232 fe.length (nI t) 231 0 = nI fe.length := by rw [u2n (by decide)]; exact hA.cf.1
      simp only [mKm, mNm, mIm, mIf, mJm, mJf, mRm, sIm, sJm, rwIm, rwJm, kN, nN, rN, true_and, ix q8 (by decide), e0, nar_b]
      refine b2_11_31 ?_
      have e1 : u2 (u2 I 232 fe.length (nI t)) 233 fe.length (bI b) 231 0 = nI fe.length := by rw [u2n (by decide)]; exact e0
      simp only [mKm, mNm, mIm, mIf, mJm, mJf, mRm, sIm, sJm, rwIm, rwJm, kN, nN, rN, true_and, e1, nI_1]
      refine ⟨_, rfl, ifn (by decide) ⟨rfl, e254 ?_⟩⟩
      have hI1 : ∀ a, a ≠ 231 → a ≠ 232 → a ≠ 233 → u2 (u2 (u2 I 232 fe.length (nI t)) 233 fe.length (bI b)) 231 0 (nI (fe.length + 1)) a = I a := fun a a1 a2 a3 => by rw [u2n a1, u2n a3, u2n a2]
      have hc1 : CF (u2 (u2 (u2 I 232 fe.length (nI t)) 233 fe.length (bI b)) 231 0 (nI (fe.length + 1))) 231 (fe ++ [(t, b)]) := by
        refine ⟨by rw [u2s, fe_len], fun i hi => ?_⟩
        rw [fe_len] at hi
        by_cases e : i = fe.length
        · subst e
          rw [(fe_new fe _).1, (fe_new fe _).2, u2n (by decide), u2n (by decide), u2s, u2n (by decide), u2s]
          exact ⟨rfl, rfl⟩
        · rw [(fe_old fe _ (by omega)).1, (fe_old fe _ (by omega)).2, u2n (by decide), u2n (by decide), u2i e, u2n (by decide), u2i e, u2n (by decide)]
          exact hA.cf.2 i (by omega)
      generalize u2 (u2 (u2 I 232 fe.length (nI t)) 233 fe.length (bI b)) 231 0 (nI (fe.length + 1)) = I1 at hI1 hc1
      have hA1 : CA r I1 J π σ us ms (fe ++ [(t, b)]) ln nm tp := hA.mk' (hA.k.lo (fun a ha => hI1 a (by omega) (by omega) (by omega))) (hA.pa.fr (fun a h1 h2 => hI1 a (by omega) (by omega) (by omega))) (hA.ma.fr (hI1 58 (by decide) (by decide) (by decide)) (fun a h1 h2 => hI1 a (by omega) (by omega) (by omega))) hc1 (hA.wf.add q8 ht) (fun a ha => hI1 a (by omega) (by omega) (by omega))
      have hR1 : RA I1 J π σ us ms fe ln nm tp := hR.q hl hfe (rk_lo (fun a ha => hI1 a (by omega) (by omega) (by omega)) (fun _ _ => rfl))
      have hR2 := hR1.t0 hl hfe
      simp only [mKm, mNm, mIm, mIf, mJm, mJf, mRm, sIm, sJm, rwIm, rwJm, kN, nN, rN, true_and]
      refine m203 hR2.k.p hw ht (ifn (by decide) ?_)
      have e43 : u2 I1 247 0 0 263 43 = nI fe.length := hR2.rf.1
      simp only [mKm, mNm, mIm, mIf, mJm, mJf, mRm, sIm, sJm, rwIm, rwJm, kN, nN, rN, true_and, e43, ixl (n := 43) (N := 1380) (x := 43) rfl (by decide) (by decide), show (43 : Int32).toNatClampNeg = 43 from rfl]
      refine ifp (fun z => by have := (nI_eq (b := 8) (by omega) (by decide)).mp z; omega) (b254_27_40 ?_)
      simp only [mKm, mNm, mIm, mIf, mJm, mJf, mRm, sIm, sJm, rwIm, rwJm, kN, nN, rN, true_and, q44, ix (show 44 + 2 * fe.length < 1380 by omega) (by decide), nI_1, ix (show 44 + 2 * fe.length + 1 < 1380 by omega) (by decide)]
      have fin : ∀ v : Int32, v = bI b → PR (y + 1) (mem r (u2 (u2 (u2 (u2 I1 247 0 0) 263 (44 + 2 * fe.length) (nI t)) 263 (44 + 2 * fe.length + 1) v) 263 43 (nI (fe.length + 1))) J) := fun v hv => by
        subst hv
        have k1 : ∀ a, a ≠ 263 → u2 (u2 (u2 (T0 I1) 263 (44 + 2 * fe.length) (nI t)) 263 (44 + 2 * fe.length + 1) (bI b)) 263 43 (nI (fe.length + 1)) a = T0 I1 a := fun a ha => by rw [u2n ha, u2n ha, u2n ha]
        have k2 : ∀ k, k ≠ 43 → k ≠ 44 + 2 * fe.length → k ≠ 44 + 2 * fe.length + 1 → u2 (u2 (u2 (T0 I1) 263 (44 + 2 * fe.length) (nI t)) 263 (44 + 2 * fe.length + 1) (bI b)) 263 43 (nI (fe.length + 1)) 263 k = T0 I1 263 k := fun k a1 a2 a3 => by rw [u2i a1, u2i a3, u2i a2]
        have k3 : RF (u2 (u2 (u2 (T0 I1) 263 (44 + 2 * fe.length) (nI t)) 263 (44 + 2 * fe.length + 1) (bI b)) 263 43 (nI (fe.length + 1))) 0 (fe ++ [(t, b)]) := by
          refine ⟨by rw [fe_len, show (0 : Nat) + 43 = 43 from rfl, u2s], fun i hi => ?_⟩
          rw [fe_len] at hi
          by_cases e : i = fe.length
          · subst e
            rw [(fe_new fe _).1, (fe_new fe _).2, show (0 : Nat) + 44 = 44 from rfl, u2i (by omega), u2i (by omega), u2s, u2i (by omega), u2s]
            exact ⟨rfl, rfl⟩
          · rw [(fe_old fe _ (by omega)).1, (fe_old fe _ (by omega)).2]
            have := hR2.rf.2 i (by omega)
            rw [show (0 : Nat) + 44 = 44 from rfl] at this ⊢
            rw [k2 _ (by omega) (by omega) (by omega), k2 _ (by omega) (by omega) (by omega)]
            exact this
        show PR (y + 1) (mem r (u2 (u2 (u2 (T0 I1) 263 (44 + 2 * fe.length) (nI t)) 263 (44 + 2 * fe.length + 1) (bI b)) 263 43 (nI (fe.length + 1))) J)
        refine PR_d hA1 (hR2.mk' (hR2.k.keep (fun a ha => k1 a (by simp at ha; omega)) (fun k _ hk => k2 k (by omega) (by omega) (by omega))) (hR2.pb.fr hw (by rw [k1 247 (by decide)]) (fun k h1 h2 => k2 k (by omega) (by omega) (by omega))) (hR2.mb.fr hw hl (k1 264 (by decide)) (fun k h1 h2 => k2 k (by omega) (by omega) (by omega))) k3 (fun a ha => k1 a (by simp at ha; omega)) (fun k hk => by rw [k1 247 (by decide)])) (fun a ha => ?_) (hY.mono (by omega))
        show u2 (u2 (u2 (T0 I1) 263 (44 + 2 * fe.length) (nI t)) 263 (44 + 2 * fe.length + 1) (bI b)) 263 43 (nI (fe.length + 1)) a = I1 a
        rw [k1 a (by omega)]; exact lo_t0 a ha
      have e43' : ∀ v : Int32, u2 (u2 (u2 I1 247 0 0) 263 (44 + 2 * fe.length) (nI t)) 263 (44 + 2 * fe.length + 1) v 263 43 = nI fe.length := fun v => by rw [u2i (by omega), u2i (by omega)]; exact e43
      refine ifb (fun qb => b254_62_64 ?_) (fun qb => b254_63_64 ?_)
      · have hb : (0 : Int32) = bI b := by cases b with
          | false => rfl
          | true => exact absurd qb (by decide)
        simp only [mKm, mNm, mIm, mIf, mJm, mJf, mRm, sIm, sJm, rwIm, rwJm, kN, nN, rN, true_and, e43', ixl (n := 43) (N := 1380) (x := 43) rfl (by decide) (by decide), nI_1]
        first | exact ⟨_, rfl, rfl, fin 0 hb⟩ | exact ⟨_, rfl, fin 0 hb⟩ | exact ⟨rfl, fin 0 hb⟩ | exact fin 0 hb
      · have hb : (1 : Int32) = bI b := by cases b with
          | false => exact absurd rfl qb
          | true => rfl
        simp only [mKm, mNm, mIm, mIf, mJm, mJf, mRm, sIm, sJm, rwIm, rwJm, kN, nN, rN, true_and, e43', ixl (n := 43) (N := 1380) (x := 43) rfl (by decide) (by decide), nI_1]
        first | exact ⟨_, rfl, rfl, fin 1 hb⟩ | exact ⟨_, rfl, fin 1 hb⟩ | exact ⟨rfl, fin 1 hb⟩ | exact fin 1 hb
    · refine ifn (nI_nlt (b := 8) (by omega) (by omega)) (ifp (by first | exact rfl | exact trivial) ?_)
      first | refine ⟨rfl, e254 ?_⟩ | refine e254 ?_
      simp only [mKm, mNm, mIm, mIf, mJm, mJf, mRm, sIm, sJm, rwIm, rwJm, kN, nN, rN, true_and]
      refine m203 hk0.p hw ht (ifn (by decide) ?_)
      have e43 : u2 I 247 0 0 263 43 = nI fe.length := (hR.t0 hl hfe).rf.1
      simp only [mKm, mNm, mIm, mIf, mJm, mJf, mRm, sIm, sJm, rwIm, rwJm, kN, nN, rN, true_and, e43, ixl (n := 43) (N := 1380) (x := 43) rfl (by decide) (by decide), show (43 : Int32).toNatClampNeg = 43 from rfl]
      refine ifn (fun z => z (by rw [show fe.length = 8 by omega]; rfl)) (by first | exact ⟨rfl, fin0⟩ | exact fin0)
  · refine d54o hA.k.p q1 (ifp rfl ⟨rfl, e254 ?_⟩)
    simp only [mKm, mNm, mIm, mIf, mJm, mJf, mRm, sIm, sJm, rwIm, rwJm, kN, nN, rN, true_and]
    exact m203o hk0.p q1 (ifp rfl (by first | exact ⟨rfl, fin0⟩ | exact fin0))
/-! marks -/
theorem d4 {f o : Nat} (hf : f ∈ feL) (ho : o ∈ feL) (hn : f ≠ o) (h : ∀ I', Fr [f, f + 1, f + 2] I I' → I' f 0 = I o 0 → (∀ i, i < 8 → I' (f + 1) i = I (o + 1) i ∧ I' (f + 2) i = vp_nar .boolean (I (o + 2) i)) → Pv (mem r I' J)) : CV G (d + 1) 4 [.ref f, .ref o] (mem r I J) Pv := by
  have hd := feD f hf o ho hn
  refine e4 ?_
  simp only [mKm, mNm, mIm, mIf, mJm, mJf, mRm, sIm, sJm, rwIm, rwJm, kN, nN, rN, true_and, feN hf, feN ho, Nat.zero_add, Nat.le_refl]
  refine b4_0_15 ?_
  refine lp (n := 8) (X := fun k => ∀ I', Fr [f, f + 1, f + 2] I I' → (∀ i, i < 8 → I' (f + 1) i = I (o + 1) i) → (∀ i, i < k → I' (f + 2) i = vp_nar .boolean (I (o + 2) i)) → XX G d none P4 (QV Pv) 17 [.ref f, .ref o, .int (nI k)] [] (mem r I' J)) (fun I1 hf1 h1 h2 => ?_) (fun k hk ih I1 hf1 h1 h2 => ?_) _ (Fr.rfl.u1 (by simp)) (fun i hi => ?_) (fun i hi => by omega)
  · refine x4_17 ?_
    simp only [mKm, mNm, mIm, mIf, mJm, mJf, mRm, sIm, sJm, rwIm, rwJm, kN, nN, rN, true_and, feN hf, feN ho]
    refine ifp (by decide) ⟨rfl, h _ (hf1.u2 (by simp)) (by rw [u2s, hf1 o (by simp; omega)]) (fun i hi => ⟨?_, ?_⟩)⟩
    · rw [u2n (by omega)]; exact h1 i hi
    · rw [u2n (by omega)]; exact h2 i hi
  · refine x4_17 (ifn (nI_ge (b := 8) hk (by decide)) ?_)
    simp only [mKm, mNm, mIm, mIf, mJm, mJf, mRm, sIm, sJm, rwIm, rwJm, kN, nN, rN, true_and, feN hf, feN ho, ix hk (by decide)]
    refine b4_17_35 ?_
    rw [nI_1]
    refine ih _ (hf1.u2 (by simp)) (fun i hi => by rw [u2n (by omega)]; exact h1 i hi) (fun i hi => ?_)
    by_cases e : i = k
    · subst e; rw [u2s, hf1 (o + 2) (by simp; omega)]
    · rw [u2i e]; exact h2 i (by omega)
  · rw [u1s, pk_cpy_in (by omega) (by omega), Nat.sub_zero, Nat.zero_add]
theorem CF.cpy {f o : Nat} (hl : fe.length ≤ 8) (h : CF I o fe) (h0 : I0 f 0 = I o 0) (h1 : ∀ i, i < 8 → I0 (f + 1) i = I (o + 1) i ∧ I0 (f + 2) i = vp_nar .boolean (I (o + 2) i)) : CF I0 f fe := by
  refine ⟨by rw [h0]; exact h.1, fun i hi => ?_⟩
  obtain ⟨a1, a2⟩ := h1 i (by omega)
  obtain ⟨b1, b2⟩ := h.2 i hi
  rw [a1, a2, b1, b2]
  exact ⟨rfl, nar_b _⟩
theorem PA.t0 (h : PA r I π us) (h54 : I0 54 0 = 0) : PA r I0 π [] := ⟨h54, by decide, h.2.2.1, h.2.2.2.1, fun i hi => absurd hi (by simp)⟩
theorem PA.fr' (h : PA r I π us) (hh : ∀ a, a = 54 ∨ (59 ≤ a ∧ a < 187) → I0 a = I a) : PA r I0 π us := by
  refine ⟨by rw [hh 54 (by omega)]; exact h.1, h.2.1, h.2.2.1, h.2.2.2.1, fun i hi => ?_⟩
  obtain ⟨k1, k2, k3, k4⟩ := kp_ok _ (h.2.2.1 i (by have := h.2.1; omega))
  exact ⟨(h.2.2.2.2 i hi).1.keep (fun a h1 h2 => hh a (by omega)), (h.2.2.2.2 i hi).2⟩
def umF (ms : Nat → Option (ST × FE)) (m : Nat) (x : ST × FE) : Nat → Option (ST × FE) := u1 ms m (some x)
theorem MA.um {m : Nat} (h : MA I π ms) (hm : m < 4) (h58 : ∀ k, I0 58 k = if k = m then 1 else I 58 k) (hh : ∀ a, 187 ≤ a → a < 231 → (a < 187 + 11 * m ∨ 187 + 11 * m + 11 ≤ a) → I0 a = I a) (hcs : CS π I0 (187 + 11 * m) σ) (hv : WSt π σ) (hcf : CF I0 (195 + 11 * m) fe) (hwf : WF π fe) : MA I0 π (umF ms m (σ, fe)) := fun k hk => by
  unfold umF
  by_cases e : k = m
  · subst e
    rw [u1s]
    exact ⟨by rw [h58, if_pos rfl], hcs, hv, hcf, hwf⟩
  · rw [u1n e]
    have := h k hk
    cases e2 : ms k with
    | none => rw [e2] at this; show I0 58 k = 0; rw [h58, if_neg e]; exact this
    | some x =>
      rw [e2] at this
      obtain ⟨p1, p2, p3, p4, p5⟩ := this
      exact ⟨by rw [h58, if_neg e]; exact p1, p2.keep (fun a ha hb => hh a (by omega) (by omega) (by omega)), p3, p4.keep (fun a ha hb => hh a (by omega) (by omega) (by omega)), p5⟩
theorem MB.um {m : Nat} (hw : WP π) (hl : ∀ m x, m < 4 → ms m = some x → x.2.length ≤ 8) (h : MB I π ms) (hm : m < 4) (h58 : ∀ k, I0 264 k = if k = m then 1 else I 264 k) (hh : ∀ k, 60 ≤ k → k < 300 → (k < 60 * (1 + m) ∨ 60 * (1 + m) + 60 ≤ k) → I0 263 k = I 263 k) (hcs : RS π I0 (60 * (1 + m)) σ) (hcf : RF I0 (60 * (1 + m)) fe) : MB I0 π (umF ms m (σ, fe)) := fun k hk => by
  unfold umF
  by_cases e : k = m
  · subst e
    rw [u1s]
    exact ⟨by rw [h58, if_pos rfl], hcs, hcf⟩
  · rw [u1n e]
    have := h k hk
    cases e2 : ms k with
    | none => rw [e2] at this; show I0 264 k = 0; rw [h58, if_neg e]; exact this
    | some x =>
      rw [e2] at this
      obtain ⟨p1, p2, p3⟩ := this
      exact ⟨by rw [h58, if_neg e]; exact p1, p2.keep hw (fun a ha hb => hh a (by omega) (by omega) (by omega)), p3.keep (hl k x hk e2) (fun a ha hb => hh a (by omega) (by omega) (by omega))⟩
theorem YB.um {m : Nat} (h : YB y σ us ms) (hx : σ' 0 0 ≤ y) : YB (y + 1) σ us (umF ms m (σ', fe)) := by
  refine ⟨Nat.le_trans h.1 (by omega), fun i hi => Nat.le_trans (h.2.1 i hi) (by omega), fun k x hk e => ?_⟩
  unfold umF at e
  by_cases e1 : k = m
  · subst e1; rw [u1s] at e; cases e; exact Nat.le_trans hx (by omega)
  · rw [u1n e1] at e; exact Nat.le_trans (h.2.2 k x hk e) (by omega)
theorem L154 {M : mm_M} (h : PR y M) (x : Int32) (b : Bool) : EQ G (d + 40) 154 270 y [.int x, .int (bI b)] M := by
  obtain ⟨r, I, J, π, σ, us, ms, fe, ln, nm, tp, rfl, hA, hR, hY⟩ := h
  have hl := hA.ma.len
  have hfe := hA.wf.1
  have hw := hA.w
  have fin0 : PR (y + 1) (mem r (u2 I 247 0 0) J) := PR_qq hA hR hY (by omega) Fr.rfl Fr.rfl
  have hn1 : vp_nar .boolean (1 : Int32) = 1 := rfl
  refine e154 ?_
  by_cases q1 : 0 ≤ x ∧ x < nI 4
  · obtain ⟨m, hm, rfl⟩ := inR (by omega) q1
    obtain ⟨s1, f1, r1, r2⟩ := mkN hm
    refine ifn (nI_pos (by omega)) (ifp q1.2 ?_)
    have q3 : (0 : Int32) ≤ nI m ∧ nI m ≤ 3 := ⟨nI_pos' (by omega), nI_le (b := 3) (by omega) (by decide)⟩
    cases b with
    | false =>
      refine ifp rfl ?_
      simp only [mKm, mNm, mIm, mIf, mJm, mJf, mRm, sIm, sJm, rwIm, rwJm, kN, nN, rN, true_and]
      refine e48 (ifn (nI_pos (by omega)) (ifn (nI_ge (b := 4) hm (by decide)) ?_))
      simp only [mKm, mNm, mIm, mIf, mJm, mJf, mRm, sIm, sJm, rwIm, rwJm, kN, nN, rN, true_and, ix hm (by decide), r1, stN s1]
      have hd38 : (187 + 11 * m) ≠ 38 := by omega
      refine d75k hA.k s1 hd38 (fun I1 hf1 hk1 => ?_)
      simp only [mKm, mNm, mIm, mIf, mJm, mJf, mRm, sIm, sJm, rwIm, rwJm, kN, nN, rN, true_and, ix hm (by decide), r2, feN f1]
      refine d4 f1 (by decide) (by omega) (fun I2 hf2 c0 c1 => ?_)
      simp only [mKm, mNm, mIm, mIf, mJm, mJf, mRm, sIm, sJm, rwIm, rwJm, kN, nN, rN, true_and, ix hm (by decide), hn1]
      refine b48_0_36 ⟨rfl, rfl, e270 ?_⟩
      simp only [mKm, mNm, mIm, mIf, mJm, mJf, mRm, sIm, sJm, rwIm, rwJm, kN, nN, rN, true_and]
      have hI3 : ∀ a, a ≠ 58 → a ≠ 15 → (a < 187 + 11 * m ∨ 187 + 11 * m + 11 ≤ a) → u2 I2 58 m 1 a = I a := fun a a1 a2 a3 => by
        rw [u2n a1, hf2 a (by simp; omega), hf1 a (by simp [sl]; omega)]
      have hcs : CS π (u2 I2 58 m 1) (187 + 11 * m) σ := hk1.c.keep (fun a h1 h2 => by rw [u2n (by omega), hf2 a (by simp; omega)])
      have hcf : CF (u2 I2 58 m 1) (195 + 11 * m) fe := (CF.cpy (I := I1) hfe (hA.cf.keep (fun a h1 h2 => hf1 a (by simp [sl]; omega))) c0 c1).keep (fun a h1 h2 => by rw [u2n (by omega)])
      have h58 : ∀ k, u2 I2 58 m 1 58 k = if k = m then 1 else I 58 k := fun k => by
        by_cases e : k = m
        · subst e; rw [u2s, if_pos rfl]
        · rw [u2i e, if_neg e, hf2 58 (by simp; omega), hf1 58 (by simp [sl]; omega)]
      generalize u2 I2 58 m 1 = I3 at hI3 hcs hcf h58
      have hA1 : CA r I3 J π σ us (umF ms m (σ, fe)) fe ln nm tp := 
        hA.mk' (hA.k.lo (fun a ha => hI3 a (by omega) (by omega) (by omega))) (hA.pa.fr' (fun a ha => hI3 a (by omega) (by omega) (by omega))) (hA.ma.um hm h58 (fun a h1 h2 h3 => hI3 a (by omega) (by omega) h3) hcs hA.k.v hcf hA.wf) (hA.cf.keep (fun a h1 h2 => hI3 a (by omega) (by omega) (by omega))) hA.wf (fun a ha => hI3 a (by omega) (by omega) (by omega))
      have hR1 : RA I3 J π σ us ms fe ln nm tp := hR.q hl hfe (rk_lo (fun a ha => hI3 a (by omega) (by omega) (by omega)) (fun _ _ => rfl))
      have hR2 := hR1.t0 hl hfe
      refine m201 ?_
      rw [if_pos q3]
      refine ifn (by decide) (ifp rfl (x270_29 ?_))
      simp only [mKm, mNm, mIm, mIf, mJm, mJf, mRm, sIm, sJm, rwIm, rwJm, kN, nN, rN, true_and, ix hm (by decide), hn1]
      refine b270_29_36 (ifp rfl (ifp rfl (x270_59 ?_)))
      simp only [mKm, mNm, mIm, mIf, mJm, mJf, mRm, sIm, sJm, rwIm, rwJm, kN, nN, rN, true_and, ek61]
      refine m220 (f := 0) (t := 60 * (1 + m)) (n := 60) (by decide) (by omega) (by omega) (fun I4 hc => ifp rfl ?_)
      have e25 : u2 I4 247 25 (I4 247 25) = I4 := by
        funext a k
        by_cases e : a = 247
        · subst e
          by_cases e2 : k = 25
          · subst e2; rw [u2s]
          · rw [u2i e2]
        · rw [u2n e]
      simp only [mKm, mNm, mIm, mIf, mJm, mJf, mRm, sIm, sJm, rwIm, rwJm, kN, nN, rN, true_and, e25]
      have ho : ∀ a, a ≠ 263 → a ≠ 264 → I4 a = T0 I3 a := fun a a1 a2 => by rw [hc.1 a a1, u2n a2]; rfl
      have h63 : ∀ k, (k < 60 * (1 + m) ∨ 60 * (1 + m) + 60 ≤ k) → I4 263 k = T0 I3 263 k := fun k hk => by rw [hc.2.2 k hk, u2n (by decide)]; rfl
      have h64 : ∀ k, I4 264 k = if k = m then 1 else T0 I3 264 k := fun k => by
        rw [hc.1 264 (by decide)]
        by_cases e : k = m
        · subst e; rw [u2s, if_pos rfl]
        · rw [u2i e, if_neg e]; rfl
      have hrs : RS π I4 (60 * (1 + m)) σ := RS.cpy hw (hR2.k.c.keep hw (fun k _ _ => by rw [u2n (by decide)]; rfl)) hc (by decide)
      have hrf : RF I4 (60 * (1 + m)) fe := RF.cpy hfe (hR2.rf.keep hfe (fun k _ _ => by rw [u2n (by decide)]; rfl)) hc
      have fin : PR (y + 1) (mem r I4 J) := PR_d hA1 (hR2.mk' (hR2.k.keep (fun a ha => ho a (by simp at ha; omega) (by simp at ha; omega)) (fun k _ hk => h63 k (by omega))) (hR2.pb.fr hw (by rw [ho 247 (by decide) (by decide)]) (fun k h1 h2 => h63 k (by omega))) (hR2.mb.um hw hl hm h64 (fun k _ _ h3 => h63 k h3) hrs hrf) (hR2.rf.keep hfe (fun k _ hk => h63 k (by omega))) (fun a ha => ho a (by simp at ha; omega) (by simp at ha; omega)) (fun k hk => by rw [ho 247 (by decide) (by decide)])) (fun a ha => by rw [ho a (by omega) (by omega)]; exact lo_t0 a ha) (hY.um hY.1)
      first | exact ⟨_, rfl, rfl, fin⟩ | exact ⟨_, rfl, fin⟩ | exact ⟨rfl, fin⟩ | exact fin
    | true =>
      refine ifn (by decide) ?_
      simp only [mKm, mNm, mIm, mIf, mJm, mJf, mRm, sIm, sJm, rwIm, rwJm, kN, nN, rN, true_and]
      refine e47 (ifn (nI_pos (by omega)) (ifn (nI_ge (b := 4) hm (by decide)) ?_))
      have hma := hA.ma m hm
      have hmb := hR.mb m hm
      simp only [mKm, mNm, mIm, mIf, mJm, mJf, mRm, sIm, sJm, rwIm, rwJm, kN, nN, rN, true_and, ix hm (by decide), r1, r2, feN f1, stN s1]
      cases e : ms m with
      | none =>
        rw [e] at hma hmb
        have h58 : I 58 m = 0 := hma
        have h64 : I 264 m = 0 := hmb
        refine ifn (fun z => z h58) ?_
        first | refine ⟨Or.inl trivial, e270 ?_⟩ | refine ⟨Or.inl rfl, rfl, e270 ?_⟩ | refine ⟨Or.inl trivial, rfl, e270 ?_⟩
        simp only [mKm, mNm, mIm, mIf, mJm, mJf, mRm, sIm, sJm, rwIm, rwJm, kN, nN, rN, true_and]
        refine m201 ?_
        rw [if_pos q3]
        refine ifn (by decide) (ifn (by decide) ?_)
        simp only [mKm, mNm, mIm, mIf, mJm, mJf, mRm, sIm, sJm, rwIm, rwJm, kN, nN, rN, true_and, ix hm (by decide), show u2 I 247 0 0 264 m = 0 by rw [u2n (by decide)]; exact h64]
        exact ifn (fun z => z (by first | exact rfl | exact trivial)) (by first | exact ⟨rfl, fin0⟩ | exact fin0)
      | some x =>
        obtain ⟨τ, fm⟩ := x
        rw [e] at hma hmb
        obtain ⟨h58, c1, c2, c3, c4⟩ := hma
        obtain ⟨h64, g1, g2⟩ := hmb
        refine ifp (by rw [h58]; decide) ?_
        have hks : KS I (187 + 11 * m) π τ := ⟨s1, hA.k.p, hw, c1, c2⟩
        refine d75k hks (s := 38) (by decide) (by omega) (fun I1 hf1 hk1 => ?_)
        simp only [mKm, mNm, mIm, mIf, mJm, mJf, mRm, sIm, sJm, rwIm, rwJm, kN, nN, rN, true_and, ix hm (by decide), r2, feN f1]
        refine d4 (by decide) f1 (by omega) (fun I2 hf2 q0 q1 => ?_)
        simp only [mKm, mNm, mIm, mIf, mJm, mJf, mRm, sIm, sJm, rwIm, rwJm, kN, nN, rN, true_and]
        first | refine ⟨Or.inr trivial, e270 ?_⟩ | refine ⟨Or.inr rfl, rfl, e270 ?_⟩ | refine ⟨Or.inr trivial, rfl, e270 ?_⟩
        have hI3 : ∀ a, a ≠ 54 → a ≠ 15 → (a < 38 ∨ 46 ≤ a) → (a < 231 ∨ 234 ≤ a) → u2 I2 54 0 0 a = I a := fun a a1 a2 a3 a4 => by
          rw [u2n a1, hf2 a (by simp; omega), hf1 a (by simp [sl]; omega)]
        have hk3 : KS (u2 I2 54 0 0) 38 π τ := hk1.lo (fun a ha => by rw [u2n (by omega), hf2 a (by simp; omega)])
        have hcf : CF (u2 I2 54 0 0) 231 fm := (CF.cpy (I := I1) c4.1 (c3.keep (fun a h1 h2 => hf1 a (by simp [sl]; omega))) q0 q1).keep (fun a h1 h2 => by rw [u2n (by omega)])
        have h54 : u2 I2 54 0 0 54 0 = 0 := u2s
        generalize u2 I2 54 0 0 = I3 at hI3 hk3 hcf h54
        have hA1 : CA r I3 J π τ [] ms fm ln nm tp := hA.mk' hk3 (hA.pa.t0 h54) (hA.ma.fr (hI3 58 (by decide) (by decide) (by decide) (by decide)) (fun a h1 h2 => hI3 a (by omega) (by omega) (by omega) (by omega))) hcf c4 (fun a ha => hI3 a (by omega) (by omega) (by omega) (by omega))
        have hR1 : RA I3 J π σ us ms fe ln nm tp := hR.q hl hfe (rk_lo (fun a ha => hI3 a (by omega) (by omega) (by omega) (by omega)) (fun _ _ => rfl))
        have hR2 := hR1.t0 hl hfe
        have hmb2 := hR2.mb m hm
        rw [e] at hmb2
        obtain ⟨i64, i1, i2⟩ := hmb2
        simp only [mKm, mNm, mIm, mIf, mJm, mJf, mRm, sIm, sJm, rwIm, rwJm, kN, nN, rN, true_and]
        refine m201 ?_
        rw [if_pos q3]
        refine ifn (by decide) (ifn (by decide) ?_)
        simp only [mKm, mNm, mIm, mIf, mJm, mJf, mRm, sIm, sJm, rwIm, rwJm, kN, nN, rN, true_and, ix hm (by decide), show u2 I3 247 0 0 264 m = 1 from i64]
        refine ifp (by decide) (x270_29 ?_)
        simp only [mKm, mNm, mIm, mIf, mJm, mJf, mRm, sIm, sJm, rwIm, rwJm, kN, nN, rN, true_and, ix hm (by decide), hn1]
        refine b270_29_36 (ifn (by decide) (ifn (by decide) ?_))
        simp only [mKm, mNm, mIm, mIf, mJm, mJf, mRm, sIm, sJm, rwIm, rwJm, kN, nN, rN, true_and, ek61]
        refine m220 (f := 60 * (1 + m)) (t := 0) (n := 60) (by omega) (by decide) (by omega) (fun I4 hc => ifn (by decide) ?_)
        simp only [mKm, mNm, mIm, mIf, mJm, mJf, mRm, sIm, sJm, rwIm, rwJm, kN, nN, rN, true_and]
        have ho : ∀ a, a ≠ 263 → a ≠ 264 → a ≠ 247 → u2 I4 247 25 0 a = T0 I3 a := fun a a1 a2 a3 => by rw [u2n a3, hc.1 a a1, u2n a2]; rfl
        have h47 : ∀ k, k ≠ 25 → u2 I4 247 25 0 247 k = T0 I3 247 k := fun k hk => by rw [u2i hk, hc.1 247 (by decide), u2n (by decide)]; rfl
        have h63 : ∀ k, 60 ≤ k → u2 I4 247 25 0 263 k = T0 I3 263 k := fun k hk => by rw [u2n (by decide), hc.2.2 k (by omega), u2n (by decide)]; rfl
        have h64' : u2 I4 247 25 0 264 = T0 I3 264 := by
          funext k
          rw [u2n (by decide), hc.1 264 (by decide)]
          by_cases e2 : k = m
          · subst e2; rw [u2s]; exact i64.symm
          · rw [u2i e2]; rfl
        have hrs : RS π (u2 I4 247 25 0) 0 τ := (RS.cpy hw (i1.keep hw (fun k _ _ => by rw [u2n (by decide)]; rfl)) hc (by decide)).keep hw (fun k _ _ => by rw [u2n (by decide)])
        have hrf : RF (u2 I4 247 25 0) 0 fm := (RF.cpy c4.1 (i2.keep c4.1 (fun k _ _ => by rw [u2n (by decide)]; rfl)) hc).keep c4.1 (fun k _ _ => by rw [u2n (by decide)])
        have hkr : KR (u2 I4 247 25 0) 0 π τ := ⟨by decide, hR2.k.p.fr_of (ho 253 (by decide) (by decide) (by decide)) (ho 254 (by decide) (by decide) (by decide)) (ho 255 (by decide) (by decide) (by decide)), hw, hrs, c2⟩
        have fin : PR (y + 1) (mem r (u2 I4 247 25 0) J) := PR_d hA1 (hR2.mk' hkr ⟨u2s, by decide, fun i hi => absurd hi (by simp)⟩ (hR2.mb.fr hw hl h64' (fun k h1 _ => h63 k h1)) hrf (fun a ha => ho a (by simp at ha; omega) (by simp at ha; omega) (by simp at ha; omega)) (fun k hk => h47 k (by simp at hk; omega))) (fun a ha => by rw [ho a (by omega) (by omega) (by omega)]; exact lo_t0 a ha) ⟨Nat.le_trans (hY.2.2 m _ hm e) (by omega), fun i hi => absurd hi (by simp), fun k x hk e => Nat.le_trans (hY.2.2 k x hk e) (by omega)⟩
        first | exact ⟨_, rfl, rfl, fin⟩ | exact ⟨_, rfl, fin⟩ | exact ⟨rfl, fin⟩ | exact fin
  · have q3 : ¬ ((0 : Int32) ≤ x ∧ x ≤ 3) := fun z => q1 ⟨z.1, Int32.lt_of_le_of_lt z.2 (by decide)⟩
    have ref : mK (mem r I J) 247 = 12 ∧ CI G (d + 40) 270 [.ref 247, .int x, .int (bI b)] (mem r I J) (fun w N' => (0 : Int32) = w ∧ PR (y + 1) N') := by
      refine ⟨rfl, e270 ?_⟩
      simp only [mKm, mNm, mIm, mIf, mJm, mJf, mRm, sIm, sJm, rwIm, rwJm, kN, nN, rN, true_and]
      refine m201 ?_
      rw [if_neg q3]
      exact ifp rfl (by first | exact ⟨rfl, fin0⟩ | exact fin0)
    refine ifb (fun _ => ref) (fun q2 => ifn (fun q4 => q1 ⟨Int32.not_lt.mp q2, q4⟩) ref)
end
