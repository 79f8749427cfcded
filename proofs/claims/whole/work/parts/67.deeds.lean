/-! deeds are answered alike -/
section
variable {G : GG} {d : Nat} {P : Int32 → mm_M → Prop} {Pv : mm_M → Prop} {Q : Option Value → mm_M → Prop} {r : Nat → Nat} {I : Nat → Nat → Int32} {J : Nat → Nat → Int64} {π : PLN} {σ : Nat → Nat → Nat} {us us' : List ST} {fe : FE} {ms : Nat → Option (ST × FE)} {ln : LN} {nm : NMT} {tp : List Nat} {σ' : ST} {r0 : Nat → Nat} {I0 : Nat → Nat → Int32} {y : Nat}
theorem CA.rows (hA : CA r I J π σ us ms fe ln nm tp) (hk : KS I0 38 π σ') (hp : PA r0 I0 π us') (hf : ∀ a, a ≠ 54 → a ≠ 15 → (a < 38 ∨ (46 ≤ a ∧ a < 59) ∨ 187 ≤ a) → I0 a = I a) : CA r0 I0 J π σ' us' ms fe ln nm tp := by
  refine ⟨hk, hp, hA.ma.fr (hf _ (by omega) (by omega) (by omega)) (fun a h1 h2 => hf a (by omega) (by omega) (by omega)), ⟨hA.cf.keep (fun a h1 h2 => hf a (by omega) (by omega) (by omega)), hA.wf⟩, ⟨hA.la.keep (fun a h1 h2 => hf a (by omega) (by omega) (by omega)), hA.wl⟩, ⟨hA.na, hA.wn⟩, ?_, hA.wt⟩
  unfold TA; rw [hf 2 (by omega) (by omega) (by omega), hf 3 (by omega) (by omega) (by omega)]; exact hA.ta
theorem CA.kept (hA : CA r I J π σ us ms fe ln nm tp) (hf : Fk I I0) (hp : PA r0 I0 π us') : CA r0 I0 J π σ us' ms fe ln nm tp :=
  hA.rows ⟨hA.k.st, hA.k.p.keep (fun a h1 h2 => hf a (by omega) (by omega) (by omega)), hA.w, hA.k.c.keep (fun a h1 h2 => hf a (by omega) (by omega) (by omega)), hA.k.v⟩ hp (fun a a1 a2 a3 => hf a a1 a2 (by omega))
theorem CA.done (hA : CA r I J π σ us ms fe ln nm tp) (hf : Fr (sl 38) I I0) (hk : KS I0 38 π σ') : CA r I0 J π σ' us ms fe ln nm tp :=
  hA.rows hk (hA.pa.fr (fun a h1 h2 => hf a (by simp [sl]; omega))) (fun a a1 a2 a3 => hf a (by simp [sl]; omega))
theorem RA.rows (hR : RA I J π σ us ms fe ln nm tp) (hl : ∀ m x, m < 4 → ms m = some x → x.2.length ≤ 8) (hfe : fe.length ≤ 8) (hk : KR I0 0 π σ') (hp : PB I0 π us') (h1 : ∀ a, a ∈ [248, 258, 260, 264] → I0 a = I a) (h2 : ∀ k, 43 ≤ k → k < 300 → I0 263 k = I 263 k) (h3 : ∀ k, k ∈ [2, 18] → I0 247 k = I 247 k) : RA I0 J π σ' us' ms fe ln nm tp := by
  refine ⟨hk, hp, hR.mb.fr hk.w hl (h1 264 (by decide)) (fun k _ hk => h2 k (by omega) (by omega)), hR.rf.keep hfe (fun k _ hk => h2 k (by omega) (by omega)), ?_, ?_, ?_, hR.wc⟩
  · unfold LB; rw [h1 260 (by decide)]; exact hR.lb
  · unfold NB; rw [h3 18 (by decide), h1 258 (by decide)]; exact hR.nb
  · unfold TB; rw [h3 2 (by decide), h1 248 (by decide)]; exact hR.tb
theorem RA.t0 (hR : RA I J π σ us ms fe ln nm tp) (hl : ∀ m x, m < 4 → ms m = some x → x.2.length ≤ 8) (hfe : fe.length ≤ 8) : RA (T0 I) J π σ us ms fe ln nm tp :=
  hR.q hl hfe ⟨fun a ha => u2n (by simp at ha; omega), fun k _ => by unfold T0; rw [u2n (by decide)], fun k hk => u2i (by simp at hk; omega), rfl, rfl⟩
theorem RA.kept (hR : RA I J π σ us ms fe ln nm tp) (hl : ∀ m x, m < 4 → ms m = some x → x.2.length ≤ 8) (hfe : fe.length ≤ 8) (hf : Fu I I0) (hp : PB I0 π us') : RA I0 J π σ us' ms fe ln nm tp :=
  hR.rows hl hfe (hR.k.keep (fun a ha => hf.1 a (by simp at ha; omega) (by simp at ha; omega)) (fun k _ hk => hf.2.2 k (by omega))) hp (fun a ha => hf.1 a (by simp at ha; omega) (by simp at ha; omega)) (fun k _ hk => hf.2.2 k (by omega)) (fun k hk => hf.2.1 k (by simp at hk; omega))
theorem RA.done (hR : RA I J π σ us ms fe ln nm tp) (hl : ∀ m x, m < 4 → ms m = some x → x.2.length ≤ 8) (hfe : fe.length ≤ 8) (hf : Fs 0 I I0) (hk : KR I0 0 π σ') : RA I0 J π σ' us ms fe ln nm tp :=
  hR.rows hl hfe hk (hR.pb.fr hk.w (by rw [hf.1 247 (by decide)]) (fun k _ _ => hf.2 k (by omega))) (fun a ha => hf.1 a (by simp at ha ⊢; omega)) (fun k _ _ => hf.2 k (by omega)) (fun k hk => by rw [hf.1 247 (by decide)])
theorem YB.ke (h : YB y σ us ms) (hl : us.length ≤ 16) (h' : σ' 0 0 ≤ y + 1) : YB (y + 1) σ' (keF us σ) ms := by
  refine ⟨h', fun i hi => ?_, fun m x hm e => Nat.le_trans (h.2.2 m x hm e) (by omega)⟩
  rw [ke_len hl] at hi
  unfold keF
  by_cases q : us.length = 16
  · rw [if_pos q]
    by_cases e : i = 15
    · subst e
      have ht : us.tail.length = 15 := by rw [List.length_tail]; omega
      have := ap_new us.tail σ
      rw [ht] at this
      rw [this]; exact Nat.le_trans h.1 (by omega)
    · rw [ap_old _ _ (by rw [List.length_tail]; omega), getD_tail]
      exact Nat.le_trans (h.2.1 (i + 1) (by omega)) (by omega)
  · rw [if_neg q]
    by_cases e : i = us.length
    · subst e; rw [ap_new]; exact Nat.le_trans h.1 (by omega)
    · rw [ap_old _ _ (by omega)]; exact Nat.le_trans (h.2.1 i (by omega)) (by omega)
theorem D44 (hA : CA r I J π σ us ms fe ln nm tp) (h : ∀ r' I', CA r' I' J π σ (keF us σ) ms fe ln nm tp → (∀ a, 247 ≤ a → I' a = I a) → Pv (mem r' I' J)) : CV G (d + 2) 44 [.ref 54, .ref 38] (mem r I J) Pv :=
  d44 hA.k hA.pa (fun r' I' hf hp => h r' I' (hA.kept hf hp) (fun a ha => hf a (by omega) (by omega) (by omega)))
theorem M219 (hR : RA I J π σ us ms fe ln nm tp) (hl : ∀ m x, m < 4 → ms m = some x → x.2.length ≤ 8) (hfe : fe.length ≤ 8) (h : ∀ I', RA I' J π σ (keF us σ) ms fe ln nm tp → (∀ a, a < 247 → I' a = I a) → Pv (mem r I' J)) : CV G (d + 2) 219 [.ref 247] (mem r I J) Pv :=
  m219 hR.k hR.pb (fun I' hf hp => h I' (hR.kept hl hfe hf hp) (fun a ha => hf.1 a (by omega) (by omega)))
theorem lo_t0 : ∀ a, a < 247 → T0 I a = I a := fun a ha => u2n (by omega)
theorem lo_fs {b : Nat} (h : Fs b I I0) : ∀ a, a < 247 → I0 a = I a := fun a ha => h.1 a (by simp; omega)
theorem hi_sl (h : Fr (sl 38) I I0) : ∀ a, 247 ≤ a → I0 a = I a := fun a ha => h a (by simp [sl]; omega)
theorem PR_d {I1 I2 : Nat → Nat → Int32} {r1 : Nat → Nat} (hA : CA r1 I1 J π σ us ms fe ln nm tp) (hR : RA I2 J π σ us ms fe ln nm tp) (h : ∀ a, a < 247 → I2 a = I1 a) (hY : YB y σ us ms) : PR y (mem r1 I2 J) := ⟨r1, I2, J, π, σ, us, ms, fe, ln, nm, tp, rfl, hA.hi h (fun _ _ => rfl), hR, hY⟩
theorem L115 {M : mm_M} (h : PR y M) (x w : Int32) : EQ G (d + 40) 115 217 y [.int x, .int w] M := by
  obtain ⟨r, I, J, π, σ, us, ms, fe, ln, nm, tp, rfl, hA, hR, hY⟩ := h
  have hP := hA.w.p
  have hT := hA.w.t
  have hl := hA.ma.len
  have hfe := hA.wf.1
  have hR0 := hR.t0 hl hfe
  have hk0 := hR0.k
  have fin0 : PR (y + 1) (mem r (u2 I 247 0 0) J) := PR_qq hA hR hY (by omega) Fr.rfl Fr.rfl
  refine e115 ?_
  simp only [mKm, mNm, mIm, mIf, mJm, mJf, mRm, sIm, sJm, rwIm, rwJm, kN, nN, rN, true_and, stN hA.k.st]
  by_cases q : (0 ≤ x ∧ x < nI (nP π)) ∧ (0 ≤ w ∧ w < nI (nT π))
  · obtain ⟨p, hp, rfl⟩ := inR (by omega) q.1
    obtain ⟨t, ht, rfl⟩ := inR (by omega) q.2
    refine d74 hA.k hp ht ?_
    by_cases hm : mayF π σ p t = true
    · rw [hm, if_pos rfl]
      refine ifp (by decide) ?_
      simp only [mKm, mNm, mIm, mIf, mJm, mJf, mRm, sIm, sJm, rwIm, rwJm, kN, nN, rN, true_and]
      refine D44 hA (fun r1 I1 hA1 hi1 => ?_)
      simp only [mKm, mNm, mIm, mIf, mJm, mJf, mRm, sIm, sJm, rwIm, rwJm, kN, nN, rN, true_and, stN hA.k.st]
      refine d76 hA1.k hp ht hm (fun I2 hf2 hk2 => ?_)
      have hA2 := hA1.done hf2 hk2
      have hhi : ∀ a, 247 ≤ a → I2 a = I a := fun a ha => (hi_sl hf2 a ha).trans (hi1 a ha)
      have hR2 : RA (T0 I2) J π σ us ms fe ln nm tp := (hR.q hl hfe (rk_lo hhi (fun _ _ => rfl))).t0 hl hfe
      have ref : ∀ v : Int32, v = (if fitF π σ p t then 1 else 0) → mK (mem r1 I2 J) 247 = 12 ∧ CI G (d + 40) 217 [.ref 247, .int (nI p), .int (nI t)] (mem r1 I2 J) (fun w N' => v = w ∧ PR (y + 1) N') := fun v hv => by
        refine ⟨rfl, e217 ?_⟩
        simp only [mKm, mNm, mIm, mIf, mJm, mJf, mRm, sIm, sJm, rwIm, rwJm, kN, nN, rN, true_and]
        refine m212 hR2.k.p hA.w hp (ifn (by decide) ?_)
        simp only [mKm, mNm, mIm, mIf, mJm, mJf, mRm, sIm, sJm, rwIm, rwJm, kN, nN, rN, true_and]
        refine m203 hR2.k.p hA.w ht (ifn (by decide) ?_)
        simp only [mKm, mNm, mIm, mIf, mJm, mJf, mRm, sIm, sJm, rwIm, rwJm, kN, nN, rN, true_and]
        refine m218 (b := 0) hR2.k hp ht ?_
        rw [hm, if_pos rfl]
        refine ifp (by decide) ?_
        simp only [mKm, mNm, mIm, mIf, mJm, mJf, mRm, sIm, sJm, rwIm, rwJm, kN, nN, rN, true_and]
        refine M219 hR2 hl hfe (fun I3 hR3 hl3 => ?_)
        simp only [mKm, mNm, mIm, mIf, mJm, mJf, mRm, sIm, sJm, rwIm, rwJm, kN, nN, rN, true_and]
        refine m221 (b := 0) hR3.k hp ht hm (fun I4 hf4 hk4 => ?_)
        have hlo : ∀ a, a < 247 → I4 a = I2 a := fun a ha => ((lo_fs hf4 a ha).trans (hl3 a ha)).trans (lo_t0 a ha)
        have fin : PR (y + 1) (mem r1 I4 J) := PR_d hA2 (hR3.done hl hfe hf4 hk4) hlo (hY.ke hA.pa.2.1 (by
          have : tryF π σ p t 0 0 = σ 0 0 := by
            unfold tryF shodF
            split
            · rw [u2n (by decide), u2n (by decide), u2n (by decide)]
            · rw [u2n (by decide)]
          rw [this]; exact Nat.le_trans hY.1 (by omega)))
        subst hv
        by_cases qf : fitF π σ p t = true
        · rw [if_pos qf]; exact ifn (by decide) ⟨rfl, fin⟩
        · rw [if_neg qf]; exact ifp rfl ⟨rfl, fin⟩
      by_cases qf : fitF π σ p t = true
      · rw [if_pos qf]; exact ifn (by decide) (ref 1 (by rw [if_pos qf]))
      · rw [if_neg qf]; exact ifp rfl (ref 0 (by rw [if_neg qf]))
    · rw [if_neg hm]
      refine ifn (fun z => z rfl) ⟨rfl, e217 ?_⟩
      simp only [mKm, mNm, mIm, mIf, mJm, mJf, mRm, sIm, sJm, rwIm, rwJm, kN, nN, rN, true_and]
      refine m212 hk0.p hA.w hp (ifn (by decide) ?_)
      simp only [mKm, mNm, mIm, mIf, mJm, mJf, mRm, sIm, sJm, rwIm, rwJm, kN, nN, rN, true_and]
      refine m203 hk0.p hA.w ht (ifn (by decide) ?_)
      simp only [mKm, mNm, mIm, mIf, mJm, mJf, mRm, sIm, sJm, rwIm, rwJm, kN, nN, rN, true_and]
      refine m218 (b := 0) hk0 hp ht ?_
      rw [if_neg hm]
      exact ifn (fun z => z rfl) (by first | exact ⟨rfl, fin0⟩ | exact fin0)
  · refine d74o hA.k q (ifn (fun z => z rfl) ⟨rfl, e217 ?_⟩)
    simp only [mKm, mNm, mIm, mIf, mJm, mJf, mRm, sIm, sJm, rwIm, rwJm, kN, nN, rN, true_and]
    by_cases q1 : 0 ≤ x ∧ x < nI (nP π)
    · obtain ⟨p, hp, rfl⟩ := inR (by omega) q1
      refine m212 hk0.p hA.w hp (ifn (by decide) ?_)
      simp only [mKm, mNm, mIm, mIf, mJm, mJf, mRm, sIm, sJm, rwIm, rwJm, kN, nN, rN, true_and]
      exact m203o hk0.p (fun z => q ⟨q1, z⟩) (ifp rfl (by first | exact ⟨rfl, fin0⟩ | exact fin0))
    · exact m212o hk0.p q1 (ifp rfl (by first | exact ⟨rfl, fin0⟩ | exact fin0))
theorem L116 {M : mm_M} (h : PR y M) (x w : Int32) : EQ G (d + 40) 116 224 y [.int x, .int w] M := by
  obtain ⟨r, I, J, π, σ, us, ms, fe, ln, nm, tp, rfl, hA, hR, hY⟩ := h
  have hP := hA.w.p
  have hl := hA.ma.len
  have hfe := hA.wf.1
  have hk0 := (hR.t0 hl hfe).k
  refine e116 ?_
  simp only [mKm, mNm, mIm, mIf, mJm, mJf, mRm, sIm, sJm, rwIm, rwJm, kN, nN, rN, true_and, stN hA.k.st]
  by_cases q : (0 ≤ x ∧ x < nI (nP π)) ∧ (0 ≤ w ∧ w < nI (nP π)) ∧ x ≠ w
  · obtain ⟨p, hp, rfl⟩ := inR (by omega) q.1
    obtain ⟨o, ho, rfl⟩ := inR (by omega) q.2.1
    have hn : p ≠ o := fun z => q.2.2 (by rw [z])
    have hn' : ¬ nI p = nI o := q.2.2
    refine d78 hA.k hp ho hn (fun I1 hf1 => ?_)
    have hA1 := hA.q (I' := I1) (J' := J) (fun a ha => hf1 a (by unfold live at ha; simp; omega)) rfl rfl
    have hh1 : ∀ a, 247 ≤ a → I1 a = I a := fun a ha => hf1 a (by simp; omega)
    by_cases hm : mayShF π σ p o = true
    · rw [hm, if_pos rfl]
      refine ifp (by decide) ?_
      simp only [mKm, mNm, mIm, mIf, mJm, mJf, mRm, sIm, sJm, rwIm, rwJm, kN, nN, rN, true_and]
      refine D44 hA1 (fun r2 I2 hA2 hi2 => ?_)
      simp only [mKm, mNm, mIm, mIf, mJm, mJf, mRm, sIm, sJm, rwIm, rwJm, kN, nN, rN, true_and, stN hA.k.st]
      refine d79 hA2.k hp ho hm (fun I3 hf3 hk3 => ?_)
      have hA3 := hA2.done hf3 hk3
      have hhi : ∀ a, 247 ≤ a → I3 a = I a := fun a ha => ((hi_sl hf3 a ha).trans (hi2 a ha)).trans (hh1 a ha)
      have hR3 : RA (T0 I3) J π σ us ms fe ln nm tp := (hR.q hl hfe (rk_lo hhi (fun _ _ => rfl))).t0 hl hfe
      refine ⟨rfl, e224 ?_⟩
      simp only [mKm, mNm, mIm, mIf, mJm, mJf, mRm, sIm, sJm, rwIm, rwJm, kN, nN, rN, true_and]
      refine m212 hR3.k.p hA.w hp (ifn (by decide) ?_)
      simp only [mKm, mNm, mIm, mIf, mJm, mJf, mRm, sIm, sJm, rwIm, rwJm, kN, nN, rN, true_and]
      refine m212 hR3.k.p hA.w ho (ifn (by decide) (ifn hn' ?_))
      simp only [mKm, mNm, mIm, mIf, mJm, mJf, mRm, sIm, sJm, rwIm, rwJm, kN, nN, rN, true_and]
      refine m225 (b := 0) hR3.k hp ho (fun I4 hf4 => ?_)
      have hR4 := hR3.done hl hfe (Fs.of hf4) (hR3.k.fr hf4)
      rw [hm, if_pos rfl]
      refine ifp (by decide) ?_
      simp only [mKm, mNm, mIm, mIf, mJm, mJf, mRm, sIm, sJm, rwIm, rwJm, kN, nN, rN, true_and]
      refine M219 hR4 hl hfe (fun I5 hR5 hl5 => ?_)
      simp only [mKm, mNm, mIm, mIf, mJm, mJf, mRm, sIm, sJm, rwIm, rwJm, kN, nN, rN, true_and]
      refine m226 (b := 0) hR5.k hp ho hm (fun I6 hf6 hk6 => ?_)
      have fin : PR (y + 1) (mem r2 I6 J) := PR_d hA3 (hR5.done hl hfe hf6 hk6) (fun a ha => (((lo_fs hf6 a ha).trans (hl5 a ha)).trans (hf4 a (by simp; omega))).trans (lo_t0 a ha)) (hY.ke hA.pa.2.1 ?_)
      · first | exact ⟨rfl, fin⟩ | exact fin
      have : shareF π σ p o 0 0 = σ 0 0 := by
        unfold shareF shodF
        rw [u2n (by decide), u2n (by decide), u2n (by decide), u2n (by decide)]
      rw [this]; exact Nat.le_trans hY.1 (by omega)
    · rw [if_neg hm]
      have hf1' : Fr [15, 245] I I1 := hf1.mono (by simp)
      have hk1 := (hR.k.lo hh1).t0
      refine ifn (fun z => z rfl) ⟨rfl, e224 ?_⟩
      simp only [mKm, mNm, mIm, mIf, mJm, mJf, mRm, sIm, sJm, rwIm, rwJm, kN, nN, rN, true_and]
      refine m212 hk1.p hA.w hp (ifn (by decide) ?_)
      simp only [mKm, mNm, mIm, mIf, mJm, mJf, mRm, sIm, sJm, rwIm, rwJm, kN, nN, rN, true_and]
      refine m212 hk1.p hA.w ho (ifn (by decide) (ifn hn' ?_))
      simp only [mKm, mNm, mIm, mIf, mJm, mJf, mRm, sIm, sJm, rwIm, rwJm, kN, nN, rN, true_and]
      refine m225 (b := 0) hk1 hp ho (fun I4 hf4 => ?_)
      rw [if_neg hm]
      exact ifn (fun z => z rfl) (by first | exact ⟨rfl, PR_qq hA hR hY (Nat.le_succ y) hf1' hf4⟩ | exact PR_qq hA hR hY (Nat.le_succ y) hf1' hf4)
  · refine d78o hA.k q (ifn (fun z => z rfl) ⟨rfl, e224 ?_⟩)
    simp only [mKm, mNm, mIm, mIf, mJm, mJf, mRm, sIm, sJm, rwIm, rwJm, kN, nN, rN, true_and]
    have fin : PR (y + 1) (mem r (u2 I 247 0 0) J) := PR_qq hA hR hY (by omega) Fr.rfl Fr.rfl
    by_cases q1 : 0 ≤ x ∧ x < nI (nP π)
    · obtain ⟨p, hp, rfl⟩ := inR (by omega) q1
      refine m212 hk0.p hA.w hp (ifn (by decide) ?_)
      simp only [mKm, mNm, mIm, mIf, mJm, mJf, mRm, sIm, sJm, rwIm, rwJm, kN, nN, rN, true_and]
      by_cases q2 : 0 ≤ w ∧ w < nI (nP π)
      · obtain ⟨o, ho, rfl⟩ := inR (by omega) q2
        exact m212 hk0.p hA.w ho (ifn (by decide) (ifp (Decidable.not_not.mp (fun z => q ⟨q1, q2, z⟩)) (by first | exact ⟨rfl, fin⟩ | exact fin)))
      · exact m212o hk0.p q2 (ifp rfl (by first | exact ⟨rfl, fin⟩ | exact fin))
    · exact m212o hk0.p q1 (ifp rfl (by first | exact ⟨rfl, fin⟩ | exact fin))
theorem L117 {M : mm_M} (h : PR y M) (x w : Int32) : EQ G (d + 40) 117 227 y [.int x, .int w] M := by
  obtain ⟨r, I, J, π, σ, us, ms, fe, ln, nm, tp, rfl, hA, hR, hY⟩ := h
  have hT := hA.w.t
  have hl := hA.ma.len
  have hfe := hA.wf.1
  have hk0 := (hR.t0 hl hfe).k
  have fin : PR (y + 1) (mem r (u2 I 247 0 0) J) := PR_qq hA hR hY (by omega) Fr.rfl Fr.rfl
  refine e117 ?_
  simp only [mKm, mNm, mIm, mIf, mJm, mJf, mRm, sIm, sJm, rwIm, rwJm, kN, nN, rN, true_and]
  by_cases q1 : 0 ≤ x ∧ x < nI (nT π)
  · obtain ⟨t, ht, rfl⟩ := inR (by omega) q1
    refine d54 hA.k.p hA.w ht (ifn (by decide) ?_)
    simp only [mKm, mNm, mIm, mIf, mJm, mJf, mRm, sIm, sJm, rwIm, rwJm, kN, nN, rN, true_and]
    by_cases q2 : 0 ≤ w ∧ w < nI (nT π)
    · obtain ⟨o, ho, rfl⟩ := inR (by omega) q2
      refine d54 hA.k.p hA.w ho (ifn (by decide) (ifb (fun q => ?_) (fun q => ?_)))
      · simp only [mKm, mNm, mIm, mIf, mJm, mJf, mRm, sIm, sJm, rwIm, rwJm, kN, nN, rN, true_and]
        refine D44 hA (fun r2 I2 hA2 hi2 => ?_)
        simp only [mKm, mNm, mIm, mIf, mJm, mJf, mRm, sIm, sJm, rwIm, rwJm, kN, nN, rN, true_and, stN hA.k.st]
        refine d80 hA2.k ht ho (fun I3 hf3 hk3 => ?_)
        have hA3 := hA2.done hf3 hk3
        have hhi : ∀ a, 247 ≤ a → I3 a = I a := fun a ha => (hi_sl hf3 a ha).trans (hi2 a ha)
        have hR3 : RA (T0 I3) J π σ us ms fe ln nm tp := (hR.q hl hfe (rk_lo hhi (fun _ _ => rfl))).t0 hl hfe
        simp only [mKm, mNm, mIm, mIf, mJm, mJf, mRm, sIm, sJm, rwIm, rwJm, kN, nN, rN, true_and, stN hA.k.st, ix (show t < 6 by omega) (by decide), hk3.r1 ht]
        refine e227 ?_
        simp only [mKm, mNm, mIm, mIf, mJm, mJf, mRm, sIm, sJm, rwIm, rwJm, kN, nN, rN, true_and]
        refine m203 hR3.k.p hA.w ht (ifn (by decide) ?_)
        simp only [mKm, mNm, mIm, mIf, mJm, mJf, mRm, sIm, sJm, rwIm, rwJm, kN, nN, rN, true_and]
        refine m203 hR3.k.p hA.w ho (ifn (by decide) (ifp q ?_))
        simp only [mKm, mNm, mIm, mIf, mJm, mJf, mRm, sIm, sJm, rwIm, rwJm, kN, nN, rN, true_and]
        refine M219 hR3 hl hfe (fun I5 hR5 hl5 => ?_)
        simp only [mKm, mNm, mIm, mIf, mJm, mJf, mRm, sIm, sJm, rwIm, rwJm, kN, nN, rN, true_and]
        refine m228 (b := 0) hR5.k ht ho (fun I6 hf6 hk6 => ?_)
        simp only [mKm, mNm, mIm, mIf, mJm, mJf, mRm, sIm, sJm, rwIm, rwJm, kN, nN, rN, true_and, eU, ix (show 0 + 1 + t < 1380 by omega) (by decide), hk6.r1 ht]
        refine PR_d hA3 (hR5.done hl hfe hf6 hk6) (fun a ha => ((lo_fs hf6 a ha).trans (hl5 a ha)).trans (lo_t0 a ha)) (hY.ke hA.pa.2.1 ?_)
        have : graftF σ t o 0 0 = σ 0 0 := by unfold graftF; rw [u2n (by decide)]
        rw [this]; exact Nat.le_trans hY.1 (by omega)
      · refine ⟨rfl, e227 ?_⟩
        simp only [mKm, mNm, mIm, mIf, mJm, mJf, mRm, sIm, sJm, rwIm, rwJm, kN, nN, rN, true_and]
        refine m203 hk0.p hA.w ht (ifn (by decide) ?_)
        simp only [mKm, mNm, mIm, mIf, mJm, mJf, mRm, sIm, sJm, rwIm, rwJm, kN, nN, rN, true_and]
        exact m203 hk0.p hA.w ho (ifn (by decide) (ifn q (by first | exact ⟨rfl, fin⟩ | exact fin)))
    · refine d54o hA.k.p q2 (ifp rfl ⟨rfl, e227 ?_⟩)
      simp only [mKm, mNm, mIm, mIf, mJm, mJf, mRm, sIm, sJm, rwIm, rwJm, kN, nN, rN, true_and]
      refine m203 hk0.p hA.w ht (ifn (by decide) ?_)
      simp only [mKm, mNm, mIm, mIf, mJm, mJf, mRm, sIm, sJm, rwIm, rwJm, kN, nN, rN, true_and]
      exact m203o hk0.p q2 (ifp rfl (by first | exact ⟨rfl, fin⟩ | exact fin))
  · refine d54o hA.k.p q1 (ifp rfl ⟨rfl, e227 ?_⟩)
    simp only [mKm, mNm, mIm, mIf, mJm, mJf, mRm, sIm, sJm, rwIm, rwJm, kN, nN, rN, true_and]
    exact m203o hk0.p q1 (ifp rfl (by first | exact ⟨rfl, fin⟩ | exact fin))
theorem L118 {M : mm_M} (h : PR y M) (x : Int32) : EQ G (d + 40) 118 229 y [.int x] M := by
  obtain ⟨r, I, J, π, σ, us, ms, fe, ln, nm, tp, rfl, hA, hR, hY⟩ := h
  have hT := hA.w.t
  have hl := hA.ma.len
  have hfe := hA.wf.1
  have hk0 := (hR.t0 hl hfe).k
  have fin : PR (y + 1) (mem r (u2 I 247 0 0) J) := PR_qq hA hR hY (by omega) Fr.rfl Fr.rfl
  refine e118 ?_
  simp only [mKm, mNm, mIm, mIf, mJm, mJf, mRm, sIm, sJm, rwIm, rwJm, kN, nN, rN, true_and]
  by_cases q1 : 0 ≤ x ∧ x < nI (nT π)
  · obtain ⟨t, ht, rfl⟩ := inR (by omega) q1
    refine d54 hA.k.p hA.w ht (ifp (by decide) ?_)
    simp only [mKm, mNm, mIm, mIf, mJm, mJf, mRm, sIm, sJm, rwIm, rwJm, kN, nN, rN, true_and]
    refine D44 hA (fun r2 I2 hA2 hi2 => ?_)
    simp only [mKm, mNm, mIm, mIf, mJm, mJf, mRm, sIm, sJm, rwIm, rwJm, kN, nN, rN, true_and, stN hA.k.st]
    refine d81 hA2.k ht (fun I3 hf3 hk3 => ?_)
    have hA3 := hA2.done hf3 hk3
    have hhi : ∀ a, 247 ≤ a → I3 a = I a := fun a ha => (hi_sl hf3 a ha).trans (hi2 a ha)
    have hR3 : RA (T0 I3) J π σ us ms fe ln nm tp := (hR.q hl hfe (rk_lo hhi (fun _ _ => rfl))).t0 hl hfe
    simp only [mKm, mNm, mIm, mIf, mJm, mJf, mRm, sIm, sJm, rwIm, rwJm, kN, nN, rN, true_and, stN hA.k.st, ix (show t < 6 by omega) (by decide), hk3.r1 ht]
    refine e229 ?_
    simp only [mKm, mNm, mIm, mIf, mJm, mJf, mRm, sIm, sJm, rwIm, rwJm, kN, nN, rN, true_and]
    refine m203 hR3.k.p hA.w ht (ifp (by decide) ?_)
    simp only [mKm, mNm, mIm, mIf, mJm, mJf, mRm, sIm, sJm, rwIm, rwJm, kN, nN, rN, true_and]
    refine M219 hR3 hl hfe (fun I5 hR5 hl5 => ?_)
    simp only [mKm, mNm, mIm, mIf, mJm, mJf, mRm, sIm, sJm, rwIm, rwJm, kN, nN, rN, true_and]
    refine m230 (b := 0) hR5.k ht (fun I6 hf6 hk6 => ?_)
    simp only [mKm, mNm, mIm, mIf, mJm, mJf, mRm, sIm, sJm, rwIm, rwJm, kN, nN, rN, true_and, eU, ix (show 0 + 1 + t < 1380 by omega) (by decide), hk6.r1 ht]
    refine PR_d hA3 (hR5.done hl hfe hf6 hk6) (fun a ha => ((lo_fs hf6 a ha).trans (hl5 a ha)).trans (lo_t0 a ha)) (hY.ke hA.pa.2.1 ?_)
    have : pruneF σ t 0 0 = σ 0 0 := by unfold pruneF; rw [u2n (by decide)]
    rw [this]; exact Nat.le_trans hY.1 (by omega)
  · refine d54o hA.k.p q1 (ifn (fun z => z rfl) ⟨rfl, e229 ?_⟩)
    simp only [mKm, mNm, mIm, mIf, mJm, mJf, mRm, sIm, sJm, rwIm, rwJm, kN, nN, rN, true_and]
    exact m203o hk0.p q1 (ifn (fun z => z rfl) (by first | exact ⟨rfl, fin⟩ | exact fin))
theorem L119 {M : mm_M} (h : PR y M) (hy : y ≤ 5000) : EQ G (d + 40) 119 231 y [] M := by
  obtain ⟨r, I, J, π, σ, us, ms, fe, ln, nm, tp, rfl, hA, hR, hY⟩ := h
  have hl := hA.ma.len
  have hfe := hA.wf.1
  have h0 := hY.1
  refine e119 ?_
  simp only [mKm, mNm, mIm, mIf, mJm, mJf, mRm, sIm, sJm, rwIm, rwJm, kN, nN, rN, true_and]
  refine D44 hA (fun r2 I2 hA2 hi2 => ?_)
  simp only [mKm, mNm, mIm, mIf, mJm, mJf, mRm, sIm, sJm, rwIm, rwJm, kN, nN, rN, true_and, stN hA.k.st]
  refine d82 hA2.k (by omega) (fun I3 hf3 hk3 => ?_)
  have hA3 := hA2.done hf3 hk3
  have hhi : ∀ a, 247 ≤ a → I3 a = I a := fun a ha => (hi_sl hf3 a ha).trans (hi2 a ha)
  have hR3 : RA (T0 I3) J π σ us ms fe ln nm tp := (hR.q hl hfe (rk_lo hhi (fun _ _ => rfl))).t0 hl hfe
  simp only [mKm, mNm, mIm, mIf, mJm, mJf, mRm, sIm, sJm, rwIm, rwJm, kN, nN, rN, true_and, stN hA.k.st, hk3.r0]
  refine e231 ?_
  simp only [mKm, mNm, mIm, mIf, mJm, mJf, mRm, sIm, sJm, rwIm, rwJm, kN, nN, rN, true_and]
  refine M219 hR3 hl hfe (fun I5 hR5 hl5 => ?_)
  simp only [mKm, mNm, mIm, mIf, mJm, mJf, mRm, sIm, sJm, rwIm, rwJm, kN, nN, rN, true_and]
  refine m205 (b := 0) hR5.k ?_
  simp only [mKm, mNm, mIm, mIf, mJm, mJf, mRm, sIm, sJm, rwIm, rwJm, kN, nN, rN, true_and]
  refine m232 (b := 0) hR5.k (frF_le hA.w _) (by omega) (fun I6 hf6 hk6 => ?_)
  simp only [mKm, mNm, mIm, mIf, mJm, mJf, mRm, sIm, sJm, rwIm, rwJm, kN, nN, rN, true_and, ix0 (show 0 < 1380 by decide), show I6 263 0 = _ from hk6.r0]
  refine ⟨rfl, PR_d hA3 (hR5.done hl hfe hf6 hk6) (fun a ha => ((lo_fs hf6 a ha).trans (hl5 a ha)).trans (lo_t0 a ha)) (hY.ke hA.pa.2.1 ?_)⟩
  show σ 0 0 + 1 ≤ y + 1
  omega
end
