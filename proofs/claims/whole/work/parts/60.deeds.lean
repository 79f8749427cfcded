/-! the other side: what is done -/
section
variable {G : GG} {d : Nat} {P : Int32 → mm_M → Prop} {Pv : mm_M → Prop} {Q : Option Value → mm_M → Prop} {r : Nat → Nat} {I : Nat → Nat → Int32} {J : Nat → Nat → Int64} {π : PLN} {σ : Nat → Nat → Nat} {b : Nat}
theorem Fs.rfl : Fs b I I := ⟨fun _ _ => Eq.refl _, fun _ _ => Eq.refl _⟩
theorem Fs.trans {I' I2 : Nat → Nat → Int32} (h : Fs b I I') (h' : Fs b I' I2) : Fs b I I2 := ⟨fun a ha => (h'.1 a ha).trans (h.1 a ha), fun k hk => (h'.2 k hk).trans (h.2 k hk)⟩
theorem Fs.set {I' : Nat → Nat → Int32} {m : Nat} {v : Int32} (h : Fs b I I') (hm : b ≤ m ∧ m < b + 43) : Fs b I (u2 I' 263 m v) :=
  ⟨fun a ha => (u2n (fun z => ha (by rw [z]; decide))).trans (h.1 a ha), fun k hk => (u2i (by omega)).trans (h.2 k hk)⟩
theorem Fs.fr {I' I2 : Nat → Nat → Int32} (h : Fs b I I') (hf : Fr [261, 262] I' I2) : Fs b I I2 :=
  ⟨fun a ha => (hf a (fun z => ha (by simp at z ⊢; omega))).trans (h.1 a ha), fun k hk => by rw [hf 263 (by decide)]; exact h.2 k hk⟩
theorem Fs.of {I' : Nat → Nat → Int32} (hf : Fr [261, 262] I I') : Fs b I I' := Fs.rfl.fr hf
theorem RP.fs {I' : Nat → Nat → Int32} (h : RP I π) (hf : Fs b I I') : RP I' π := h.fr_of (hf.1 _ (by decide)) (hf.1 _ (by decide)) (hf.1 _ (by decide))
theorem KR.set (hk : KR I b π σ) {k i n : Nat} {v : Int32} (h8 : k < 8) (h6 : i < 6) (h0 : k = 0 → i = 0) (hv : v = enc k n) (hw : WSt π (u2 σ k i n)) : KR (u2 I 263 (b + of k + i) v) b π (u2 σ k i n) := by
  refine ⟨hk.bb, hk.p.fr_of (u2n (by decide)) (u2n (by decide)) (u2n (by decide)), hk.w, fun k' i' h8' hi' => ?_, hw⟩
  have h6' : i' < 6 := Nat.lt_of_lt_of_le hi' (lm6 hk.w k')
  by_cases e : k' = k ∧ i' = i
  · obtain ⟨rfl, rfl⟩ := e
    rw [u2s, u2s]; exact hv
  · rw [u2i (fun z => e ?_), u2m (fun z1 z2 => e ⟨z1, z2⟩)]
    · exact hk.c k' i' h8' hi'
    · exact of_inj k' h8' k h8 i' h6' i h6 (fun z => by subst z; have : i' < 1 := hi'; omega) h0 (by omega)
theorem KR.congr {σ' : Nat → Nat → Nat} (hk : KR I b π σ) (h : ∀ k i, k < 8 → i < lm π k → σ' k i = σ k i) : KR I b π σ' := by
  refine ⟨hk.bb, hk.p, hk.w, fun k i h1 h2 => by rw [h k i h1 h2]; exact hk.c k i h1 h2, ?_⟩
  have hv := hk.v
  refine ⟨by rw [h 0 0 (by decide) Nat.one_pos]; exact hv.1, fun i hi => ?_, fun i hi => ?_⟩
  · rw [h 1 i (by decide) hi, h 2 i (by decide) hi]; exact hv.2.1 i hi
  · rw [h 3 i (by decide) hi, h 4 i (by decide) hi, h 5 i (by decide) hi, h 6 i (by decide) hi]; exact hv.2.2 i hi
theorem m222 {p t : Nat} (hk : KR I b π σ) (hp : p < nP π) (ht : t < nT π) (h : ∀ I', Fs b I I' → KR I' b π (shodF π σ p t) → Pv (mem r I' J)) : CV G (d + 3) 222 [.ref 247, .int (nI b), .int (nI p), .int (nI t)] (mem r I J) Pv := by
  have hb := hk.bb
  have hP := hk.w.p
  refine e222 ?_
  simp only [mKm, mNm, mIm, mIf, mJm, mJf, mRm, sIm, sJm, rwIm, rwJm, kN, nN, rN, true_and, eS, ix (show b + 19 + p < 1380 by omega) (by decide)]
  have hk1 : KR (u2 I 263 (b + 19 + p) (nI t)) b π (u2 σ 5 p (t + 1)) := hk.set (k := 5) (by decide) (by omega) (by omega) (by show _ = nI (t + 1) - 1; rw [nI_pred]) (hk.v.up (by omega) (by omega) (by omega) (by omega) (by omega) (by omega) (by omega))
  refine b222_0_12 ?_
  simp only [mKm, mNm, mIm, mIf, mJm, mJf, mRm, sIm, sJm, rwIm, rwJm, kN, nN, rN, true_and, eS, ix (show b + 31 + p < 1380 by omega) (by decide), hk1.r7 hp]
  refine m223 hk1.p hk1.w ht ?_
  simp only [mKm, mNm, mIm, mIf, mJm, mJf, mRm, sIm, sJm, rwIm, rwJm, kN, nN, rN, true_and, ix (show b + 31 + p < 1380 by omega) (by decide), nI_add, show u2 σ 5 p (t + 1) 7 p = σ 7 p by rw [u2n (by decide)]]
  exact b222_0_31 ⟨rfl, h _ ((Fs.rfl.set (by omega)).set (by omega)) (hk1.set (k := 7) (by decide) (by omega) (by omega) rfl (hk1.v.up (by omega) (by omega) (by omega) (by omega) (by omega) (by omega) (by omega)))⟩
theorem m221 {p t : Nat} (hk : KR I b π σ) (hp : p < nP π) (ht : t < nT π) (hm : mayF π σ p t = true) (h : ∀ I', Fs b I I' → KR I' b π (tryF π σ p t) → P (if fitF π σ p t then 1 else 0) (mem r I' J)) : CI G (d + 5) 221 [.ref 247, .int (nI b), .int (nI p), .int (nI t)] (mem r I J) P := by
  have hb := hk.bb
  have hP := hk.w.p
  have hlt : σ 4 p < π.1 3 0 := by unfold mayF at hm; simp only [Bool.and_eq_true, decide_eq_true_eq] at hm; exact hm.1.1.2
  refine e221 ?_
  simp only [mKm, mNm, mIm, mIf, mJm, mJf, mRm, sIm, sJm, rwIm, rwJm, kN, nN, rN, true_and]
  refine m214 hk hp ht (fun I1 hf1 => ?_)
  have hk1 := hk.fr hf1
  simp only [mKm, mNm, mIm, mIf, mJm, mJf, mRm, sIm, sJm, rwIm, rwJm, kN, nN, rN, true_and, eS, ix (show b + 25 + p < 1380 by omega) (by decide), hk1.r4 hp, nI_1]
  have hk2 : KR (u2 I1 263 (b + 25 + p) (nI (σ 4 p + 1))) b π (u2 σ 4 p (σ 4 p + 1)) := hk1.set (k := 4) (by decide) (by omega) (by omega) rfl (hk1.v.up (by omega) (by omega) (by omega) (by omega) (by omega) (by omega) (by omega))
  have hf2 : Fs b I (u2 I1 263 (b + 25 + p) (nI (σ 4 p + 1))) := (Fs.of hf1).set (by omega)
  refine b221_0_24 ?_
  unfold tryF at h
  by_cases q : fitF π σ p t = true
  · rw [if_pos q]
    rw [if_pos q, if_pos q] at h
    refine ifn (by decide) ?_
    simp only [mKm, mNm, mIm, mIf, mJm, mJf, mRm, sIm, sJm, rwIm, rwJm, kN, nN, rN, true_and]
    refine m222 hk2 hp ht (fun I3 hf3 hk3 => ⟨by simp, _, rfl, h I3 (hf2.trans hf3) hk3⟩)
  · rw [if_neg q]
    rw [if_neg q, if_neg q] at h
    exact ifp rfl ⟨Or.inl rfl, _, rfl, h _ hf2 hk2⟩
theorem m225 {p o : Nat} (hk : KR I b π σ) (hp : p < nP π) (ho : o < nP π) (h : ∀ I', Fr [261, 262] I I' → P (if mayShF π σ p o then 1 else 0) (mem r I' J)) : CI G (d + 5) 225 [.ref 247, .int (nI b), .int (nI p), .int (nI o)] (mem r I J) P := by
  have hb := hk.bb
  have hP := hk.w.p
  have hT := hk.w.t
  have hv := hk.v.2.2 p hp
  have hv' := hk.v.2.2 o ho
  have es : ∀ n, n < 2 ^ 30 → (¬ 0 ≤ nI n - 1 ↔ n = 0) := fun n hn => by rw [Int32.not_le]; exact sh_lt hn
  unfold mayShF at h
  refine e225 ?_
  simp only [mKm, mNm, mIm, mIf, mJm, mJf, mRm, sIm, sJm, rwIm, rwJm, kN, nN, rN, true_and, eS, ix (show b + 19 + p < 1380 by omega) (by decide), hk.r5 hp]
  refine b225_0_13 ?_
  simp only [mKm, mNm, mIm, mIf, mJm, mJf, mRm, sIm, sJm, rwIm, rwJm, kN, nN, rN, true_and, eS, ix (show b + 37 + p < 1380 by omega) (by decide), ix (show b + 19 + o < 1380 by omega) (by decide), hk.r5 ho, hk.r6 hp, sh_lt (show σ 5 p < 2 ^ 30 by omega)]
  refine ifb (fun q => ⟨_, rfl, ?_⟩) (fun q => ifb (fun q2 => ⟨_, rfl, ?_⟩) (fun q2 => ifb (fun q3 => ⟨_, rfl, ?_⟩) (fun q3 => ?_)))
  · have h := h I Fr.rfl
    simp only [q, bne_self_eq_false, Bool.false_and] at h; exact h
  · have q2 : σ 6 p ≠ 0 := fun z => (es _ (by omega)).mpr z q2
    have h := h I Fr.rfl
    rw [beq_false_of_ne q2, Bool.and_false, Bool.false_and] at h; exact h
  · have q3 : σ 5 o ≠ 0 := fun z => (es _ (by omega)).mpr z q3
    have h := h I Fr.rfl
    rw [beq_false_of_ne q3, Bool.and_false, Bool.false_and] at h; exact h
  · rw [es _ (by omega)] at q2 q3
    rw [sh_ix q]
    refine m214 hk ho (by omega) (fun I1 hf => ?_)
    have h := h I1 hf
    simp only [q2, q3, beq_self_eq_true, Bool.and_true, bne_iff_ne.mpr q, Bool.true_and] at h
    by_cases e : fitF π σ o (σ 5 p - 1) = true
    · rw [if_pos e] at h ⊢
      exact ifn (by decide) ⟨_, rfl, h⟩
    · rw [if_neg e] at h ⊢
      exact ifp rfl ⟨_, rfl, h⟩
theorem m226 {p o : Nat} (hk : KR I b π σ) (hp : p < nP π) (ho : o < nP π) (hm : mayShF π σ p o = true) (h : ∀ I', Fs b I I' → KR I' b π (shareF π σ p o) → Pv (mem r I' J)) : CV G (d + 5) 226 [.ref 247, .int (nI b), .int (nI p), .int (nI o)] (mem r I J) Pv := by
  have hb := hk.bb
  have hP := hk.w.p
  have hT := hk.w.t
  have hv := hk.v.2.2 p hp
  have h5 : σ 5 p ≠ 0 := by
    unfold mayShF at hm; simp only [Bool.and_eq_true, bne_iff_ne] at hm; exact hm.1.1.1
  refine e226 ?_
  simp only [mKm, mNm, mIm, mIf, mJm, mJf, mRm, sIm, sJm, rwIm, rwJm, kN, nN, rN, true_and, eS, ix (show b + 19 + p < 1380 by omega) (by decide), hk.r5 hp]
  rw [sh_ix h5]
  refine m222 hk ho (by omega) (fun I1 hf1 hk1 => ?_)
  simp only [mKm, mNm, mIm, mIf, mJm, mJf, mRm, sIm, sJm, rwIm, rwJm, kN, nN, rN, true_and, eS, ix (show b + 37 + p < 1380 by omega) (by decide)]
  refine b226_0_29 ?_
  simp only [mKm, mNm, mIm, mIf, mJm, mJf, mRm, sIm, sJm, rwIm, rwJm, kN, nN, rN, true_and, eS, ix (show b + 37 + o < 1380 by omega) (by decide)]
  have hk2 : KR (u2 I1 263 (b + 37 + p) (nI o)) b π (u2 (shodF π σ o (σ 5 p - 1)) 6 p (o + 1)) := hk1.set (k := 6) (by decide) (by omega) (by omega) (by show _ = nI (o + 1) - 1; rw [nI_pred]) (hk1.v.up (by omega) (by omega) (by omega) (by omega) (by omega) (by omega) (by omega))
  have hk3 : KR (u2 (u2 I1 263 (b + 37 + p) (nI o)) 263 (b + 37 + o) (nI p)) b π (shareF π σ p o) := hk2.set (k := 6) (by decide) (by omega) (by omega) (by show _ = nI (p + 1) - 1; rw [nI_pred]) (hk2.v.up (by omega) (by omega) (by omega) (by omega) (by omega) (by omega) (by omega))
  exact b226_0_41 ⟨rfl, h _ ((hf1.set (by omega)).set (by omega)) hk3⟩
theorem m228 {t o : Nat} (hk : KR I b π σ) (ht : t < nT π) (ho : o < nT π) (h : ∀ I', Fs b I I' → KR I' b π (graftF σ t o) → Pv (mem r I' J)) : CV G (d + 1) 228 [.ref 247, .int (nI b), .int (nI t), .int (nI o)] (mem r I J) Pv := by
  have hb := hk.bb
  have hT := hk.w.t
  have hv := (hk.v.2.1 t ht).1
  have hv' := (hk.v.2.1 o ho).1
  refine e228 ?_
  simp only [mKm, mNm, mIm, mIf, mJm, mJf, mRm, sIm, sJm, rwIm, rwJm, kN, nN, rN, true_and, eS, ix (show b + 1 + t < 1380 by omega) (by decide), ix (show b + 1 + o < 1380 by omega) (by decide), hk.r1 ht, hk.r1 ho]
  rw [nI_add, show (2 : Int32) = nI 2 from rfl, pk_div (by omega) (by decide) (by decide)]
  exact b228_0_33 ⟨rfl, h _ (Fs.rfl.set (by omega)) (hk.set (k := 1) (by decide) (by omega) (by omega) rfl (hk.v.up (by omega) (by omega) (by omega) (by omega) (by omega) (by omega) (by omega)))⟩
theorem m230 {t : Nat} (hk : KR I b π σ) (ht : t < nT π) (h : ∀ I', Fs b I I' → KR I' b π (pruneF σ t) → Pv (mem r I' J)) : CV G (d + 1) 230 [.ref 247, .int (nI b), .int (nI t)] (mem r I J) Pv := by
  have hb := hk.bb
  have hT := hk.w.t
  have hv := (hk.v.2.1 t ht).1
  have hk2 : KR (u2 I 263 (b + 1 + t) (nI (σ 1 t - 1))) b π (pruneF σ t) := hk.set (k := 1) (by decide) (by omega) (by omega) rfl (hk.v.up (by omega) (by omega) (by omega) (by omega) (by omega) (by omega) (by omega))
  have hh := h _ (Fs.rfl.set (by omega)) hk2
  refine e230 ?_
  simp only [mKm, mNm, mIm, mIf, mJm, mJf, mRm, sIm, sJm, rwIm, rwJm, kN, nN, rN, true_and, eS, ix (show b + 1 + t < 1380 by omega) (by decide), hk.r1 ht]
  refine ifb (fun q => b230_28_31 ⟨rfl, ?_⟩) (fun q => b230_29_31 ⟨rfl, ?_⟩)
  · have q : σ 1 t ≤ 0 := (nI_leI (by omega) (by decide)).mp (show nI (σ 1 t) ≤ nI 0 from q)
    rw [Int32.sub_zero]
    rw [show σ 1 t - 1 = σ 1 t by omega] at hh
    exact hh
  · have q : ¬ σ 1 t ≤ 0 := fun z => q (show nI (σ 1 t) ≤ nI 0 from nI_le z (by decide))
    rw [sh_ix (by omega)]
    exact hh
theorem m232T {f : Nat} (hk : KR I b π σ) (hf : f ≤ 3) (h : ∀ I', Fs b I I' → KR I' b π (passT π σ f (nT π)) → XX G (d + 2) none P232 Q 68 [.ref 247, .int (nI b), .int (nI f), .int 0, jk] [] (mem r I' J)) : XX G (d + 2) none P232 Q 2 [.ref 247, .int (nI b), .int (nI f), .int 0, jk] [] (mem r I J) := by
  have hT := hk.w.t
  have hb := hk.bb
  have key := lp (n := nT π) (X := fun k => ∀ I', Fs b I I' → KR I' b π (passT π σ f k) → XX G (d + 2) none P232 Q 2 [.ref 247, .int (nI b), .int (nI f), .int (nI k), jk] [] (mem r I' J)) ?_ ?_
  · refine key I Fs.rfl (hk.congr (fun a i _ _ => ?_))
    unfold passT
    rw [if_neg (by omega), if_neg (by omega)]
  · intro I' hf' hk'
    refine x232_2 ?_
    simp only [mKm, mNm, mIm, mIf, mJm, mJf, mRm, sIm, sJm, rwIm, rwJm, kN, nN, rN, true_and]
    exact m166 hk'.p (ifp (nI_le (Nat.le_refl _) (by omega)) (h I' hf' hk'))
  · intro k hkn ih I' hf' hk'
    have hv := hk.v.2.1 k hkn
    have ea : passT π σ f k 2 k = σ 2 k := by unfold passT; rw [if_neg (by omega), if_neg (by omega)]
    have el : passT π σ f k 1 k = σ 1 k := by unfold passT; rw [if_neg (by omega), if_neg (by omega)]
    have go : ∀ (I1 : Nat → Nat → Int32) (σ1 : Nat → Nat → Nat), Fs b I I1 → KR I1 b π σ1 → σ1 2 k = σ 2 k → (∀ a i, u2 σ1 2 k (min 99 (σ 2 k + 1)) a i = passT π σ f (k + 1) a i) → ifP (99 ≤ I1 263 (b + 7 + k)) (BB G (d + 2) none P232 Q S232_57_60 60 [.ref 247, .int (nI b), .int (nI f), .int (nI k), jk] [] (mem r (u2 I1 263 (b + 7 + k) (I1 263 (b + 7 + k) + 0)) J)) (BB G (d + 2) none P232 Q S232_58_60 60 [.ref 247, .int (nI b), .int (nI f), .int (nI k), jk] [] (mem r (u2 I1 263 (b + 7 + k) (I1 263 (b + 7 + k) + 1)) J)) := fun I1 σ1 hf1 hk1 e2 he => by
      have hk2 : KR (u2 I1 263 (b + 7 + k) (nI (min 99 (σ 2 k + 1)))) b π (passT π σ f (k + 1)) := (hk1.set (k := 2) (i := k) (n := min 99 (σ 2 k + 1)) (by decide) (by omega) (by omega) rfl (hk1.v.up (by omega) (by omega) (by omega) (by omega) (by omega) (by omega) (by omega))).congr (fun a i _ _ => (he a i).symm)
      have hg := ih _ (hf1.set (by omega)) hk2
      rw [hk1.r2 hkn, e2]
      refine ifb (fun q => b232_57_60 ?_) (fun q => b232_58_60 ?_)
      · have q : 99 ≤ σ 2 k := (nI_leI (by decide) (by omega)).mp (show nI 99 ≤ nI (σ 2 k) from q)
        rw [Int32.add_zero, nI_1]
        rw [show min 99 (σ 2 k + 1) = σ 2 k by omega] at hg
        exact hg
      · have q : ¬ 99 ≤ σ 2 k := fun z => q (show nI 99 ≤ nI (σ 2 k) from nI_le z (by omega))
        rw [nI_1, nI_1]
        rw [show min 99 (σ 2 k + 1) = σ 2 k + 1 by omega] at hg
        exact hg
    refine x232_2 ?_
    simp only [mKm, mNm, mIm, mIf, mJm, mJf, mRm, sIm, sJm, rwIm, rwJm, kN, nN, rN, true_and]
    refine m166 hk'.p (ifn (nI_ge hkn (by omega)) ?_)
    simp only [mKm, mNm, mIm, mIf, mJm, mJf, mRm, sIm, sJm, rwIm, rwJm, kN, nN, rN, true_and]
    refine m206 hk'.p hk'.w hkn hf ?_
    by_cases q : f ≤ stn (π.1 5 k)
    · rw [if_pos q]
      refine ifp (by decide) ?_
      simp only [mKm, mNm, mIm, mIf, mJm, mJf, mRm, sIm, sJm, rwIm, rwJm, kN, nN, rN, true_and, eS, ix (show b + 7 + k < 1380 by omega) (by decide)]
      refine go I' _ hf' hk' ea (fun a i => ?_)
      unfold passT
      by_cases e : i = k
      · subst e
        by_cases e2 : a = 2
        · subst e2; rw [u2s, if_neg (by omega), if_pos (by omega)]
        · by_cases e1 : a = 1
          · subst e1; rw [u2n (by decide), if_neg (by omega), if_neg (by omega), if_pos (by omega), if_pos q]
          · rw [u2n e2, if_neg (by omega), if_neg (by omega), if_neg (by omega), if_neg (by omega)]
      · rw [u2m (fun _ => e)]
        simp only [show i < k + 1 ↔ i < k by omega]
    · rw [if_neg q]
      refine ifn (fun z => z rfl) ?_
      simp only [mKm, mNm, mIm, mIf, mJm, mJf, mRm, sIm, sJm, rwIm, rwJm, kN, nN, rN, true_and]
      refine m230 hk' hkn (fun I1 hf1 hk1 => ?_)
      simp only [mKm, mNm, mIm, mIf, mJm, mJf, mRm, sIm, sJm, rwIm, rwJm, kN, nN, rN, true_and, eS, ix (show b + 7 + k < 1380 by omega) (by decide)]
      refine go I1 _ (hf'.trans hf1) hk1 (by unfold pruneF; rw [u2n (by decide), ea]) (fun a i => ?_)
      unfold pruneF
      rw [el]
      unfold passT
      by_cases e : i = k
      · subst e
        by_cases e2 : a = 2
        · subst e2; rw [u2s, if_neg (by omega), if_pos (by omega)]
        · by_cases e1 : a = 1
          · subst e1; rw [u2n (by decide), u2s, if_pos (by omega), if_neg q]
          · rw [u2n e2, u2n e1, if_neg (by omega), if_neg (by omega), if_neg (by omega), if_neg (by omega)]
      · rw [u2m (fun _ => e), u2m (fun _ => e)]
        simp only [show i < k + 1 ↔ i < k by omega]
def passQ (π : PLN) (σ : Nat → Nat → Nat) (k : Nat) : Nat → Nat → Nat := fun a i => if a = 3 ∧ i < k then (if π.1 9 i = 1 then min 40 (σ 3 i + 2) else σ 3 i) else if (a = 4 ∨ a = 5 ∨ a = 6) ∧ i < k then 0 else σ a i
theorem m232 {f : Nat} (hk : KR I b π σ) (hf : f ≤ 3) (hy : σ 0 0 + 1 < 2 ^ 30) (h : ∀ I', Fs b I I' → KR I' b π (passF π σ f) → Pv (mem r I' J)) : CV G (d + 3) 232 [.ref 247, .int (nI b), .int (nI f)] (mem r I J) Pv := by
  have hP := hk.w.p
  have hb := hk.bb
  refine e232 (m232T hk hf (fun I1 hf1 hk1 => ?_))
  have key := lp (n := nP π) (X := fun k => ∀ I', Fs b I I' → KR I' b π (passQ π (passT π σ f (nT π)) k) → XX G (d + 2) none P232 (QV Pv) 68 [.ref 247, .int (nI b), .int (nI f), .int (nI k), jk] [] (mem r I' J)) ?_ ?_
  · refine key I1 hf1 (hk1.congr (fun a i _ _ => ?_))
    unfold passQ
    rw [if_neg (by omega), if_neg (by omega)]
  · intro I' hf' hk'
    refine x232_68 ?_
    simp only [mKm, mNm, mIm, mIf, mJm, mJf, mRm, sIm, sJm, rwIm, rwJm, kN, nN, rN, true_and]
    refine m168 hk'.p (ifp (nI_le (Nat.le_refl _) (by omega)) ?_)
    have e0 : passQ π (passT π σ f (nT π)) (nP π) 0 0 = σ 0 0 := by
      unfold passQ passT
      rw [if_neg (by omega), if_neg (by omega), if_neg (by omega), if_neg (by omega)]
    simp only [mKm, mNm, mIm, mIf, mJm, mJf, mRm, sIm, sJm, rwIm, rwJm, kN, nN, rN, true_and, eS b 0, ix (show b + 0 < 1380 by omega) (by decide), hk'.r0, nI_1, e0]
    refine b232_172_184 ⟨rfl, h _ (hf'.set (by omega)) ((hk'.set (k := 0) (i := 0) (n := σ 0 0 + 1) (by decide) (by decide) (by omega) rfl (hk'.v.up (by omega) (by omega) (by omega) (by omega) (by omega) (by omega) (by omega))).congr (fun a i ha hi => ?_))⟩
    unfold passF
    rcases (show a = 0 ∨ a = 1 ∨ a = 2 ∨ a = 3 ∨ a = 4 ∨ a = 5 ∨ a = 6 ∨ a = 7 by omega) with rfl | rfl | rfl | rfl | rfl | rfl | rfl | rfl
    · have : i = 0 := by have : i < 1 := hi; omega
      subst this; rw [u2s]; rfl
    · have hi : i < nT π := hi
      rw [u2n (by decide)]; simp [passQ, passT, hi]
    · have hi : i < nT π := hi
      rw [u2n (by decide)]; simp [passQ, passT, hi]
    · have hi : i < nP π := hi
      rw [u2n (by decide)]; simp [passQ, passT, hi]
    · have hi : i < nP π := hi
      rw [u2n (by decide)]; simp [passQ, hi]
    · have hi : i < nP π := hi
      rw [u2n (by decide)]; simp [passQ, hi]
    · have hi : i < nP π := hi
      rw [u2n (by decide)]; simp [passQ, hi]
    · rw [u2n (by decide)]; simp [passQ, passT]
  · intro k hkn ih I' hf' hk'
    have h9 := (hk.w.pe hkn).1
    have hv := (hk.v.2.2 k hkn).1
    have e3 : passQ π (passT π σ f (nT π)) k 3 k = σ 3 k := by
      unfold passQ passT
      rw [if_neg (by omega), if_neg (by omega), if_neg (by omega), if_neg (by omega)]
    have fin : ∀ n, n = (if π.1 9 k = 1 then min 40 (σ 3 k + 2) else σ 3 k) → XX G (d + 2) none P232 (QV Pv) 68 [.ref 247, .int (nI b), .int (nI f), .int (nI (k + 1)), jk] [] (mem r (u2 (u2 (u2 (u2 I' 263 (b + 13 + k) (nI n)) 263 (b + 19 + k) (-1)) 263 (b + 25 + k) 0) 263 (b + 37 + k) (-1)) J) := fun n hn => by
      have hn40 : n ≤ 40 := by rw [hn]; split <;> omega
      have s1 := hk'.set (k := 3) (i := k) (n := n) (by decide) (by omega) (by omega) rfl (hk'.v.up (by omega) (by omega) (by omega) (by omega) (by omega) (by omega) (by omega))
      have s2 := s1.set (k := 5) (i := k) (n := 0) (v := -1) (by decide) (by omega) (by omega) rfl (s1.v.up (by omega) (by omega) (by omega) (by omega) (by omega) (by omega) (by omega))
      have s3 := s2.set (k := 4) (i := k) (n := 0) (v := 0) (by decide) (by omega) (by omega) rfl (s2.v.up (by omega) (by omega) (by omega) (by omega) (by omega) (by omega) (by omega))
      have s4 := s3.set (k := 6) (i := k) (n := 0) (v := -1) (by decide) (by omega) (by omega) rfl (s3.v.up (by omega) (by omega) (by omega) (by omega) (by omega) (by omega) (by omega))
      refine ih _ ((((hf'.set (by omega)).set (by omega)).set (by omega)).set (by omega)) (s4.congr (fun a i _ _ => ?_))
      by_cases e : i = k
      · subst e
        unfold passQ
        by_cases a6 : a = 6
        · subst a6; rw [u2s, if_neg (by omega), if_pos (by omega)]
        · rw [u2n a6]
          by_cases a4 : a = 4
          · subst a4; rw [u2s, if_neg (by omega), if_pos (by omega)]
          · rw [u2n a4]
            by_cases a5 : a = 5
            · subst a5; rw [u2s, if_neg (by omega), if_pos (by omega)]
            · rw [u2n a5]
              by_cases a3 : a = 3
              · subst a3
                have ep : passT π σ f (nT π) 3 i = σ 3 i := by unfold passT; rw [if_neg (by omega), if_neg (by omega)]
                rw [u2s, if_pos (by omega), hn, ep]
              · rw [u2n a3, if_neg (by omega), if_neg (by omega), if_neg (by omega), if_neg (by omega)]
      · rw [u2m (fun _ => e), u2m (fun _ => e), u2m (fun _ => e), u2m (fun _ => e)]
        unfold passQ
        simp only [show i < k + 1 ↔ i < k by omega]
    refine x232_68 ?_
    simp only [mKm, mNm, mIm, mIf, mJm, mJf, mRm, sIm, sJm, rwIm, rwJm, kN, nN, rN, true_and]
    refine m168 hk'.p (ifn (nI_ge hkn (by omega)) ?_)
    simp only [mKm, mNm, mIm, mIf, mJm, mJf, mRm, sIm, sJm, rwIm, rwJm, kN, nN, rN, true_and, eS, ix (show b + 13 + k < 1380 by omega) (by decide), hk'.r3 hkn, e3]
    refine m169 hk'.p hk'.w hkn (ifb (fun q => b232_101_105 ?_) (fun q => b232_102_105 ?_))
    · have q1 : π.1 9 k ≠ 1 := fun z => q (by rw [z]; rfl)
      simp only [mKm, mNm, mIm, mIf, mJm, mJf, mRm, sIm, sJm, rwIm, rwJm, kN, nN, rN, true_and, eS, ix (show b + 13 + k < 1380 by omega) (by decide), Int32.add_zero]
      refine ifp (show nI (σ 3 k) ≤ nI 40 from nI_le hv (by decide)) (b232_127_130 ?_)
      simp only [mKm, mNm, mIm, mIf, mJm, mJf, mRm, sIm, sJm, rwIm, rwJm, kN, nN, rN, true_and, eS, ix (show b + 19 + k < 1380 by omega) (by decide)]
      refine b232_127_142 ?_
      simp only [mKm, mNm, mIm, mIf, mJm, mJf, mRm, sIm, sJm, rwIm, rwJm, kN, nN, rN, true_and, eS, ix (show b + 25 + k < 1380 by omega) (by decide)]
      refine b232_127_154 ?_
      simp only [mKm, mNm, mIm, mIf, mJm, mJf, mRm, sIm, sJm, rwIm, rwJm, kN, nN, rN, true_and, eS, ix (show b + 37 + k < 1380 by omega) (by decide)]
      refine b232_127_166 ?_
      rw [nI_1]
      exact fin _ (by rw [if_neg q1])
    · have q1 : π.1 9 k = 1 := (nI_eq (by omega) (by decide)).mp (Decidable.not_not.mp q)
      have e2 : nI (σ 3 k) + 2 = nI (σ 3 k + 2) := nI_add _ 2
      simp only [mKm, mNm, mIm, mIf, mJm, mJf, mRm, sIm, sJm, rwIm, rwJm, kN, nN, rN, true_and, eS, ix (show b + 13 + k < 1380 by omega) (by decide), e2]
      refine ifb (fun q => b232_127_130 ?_) (fun q => b232_129_130 ?_)
      · have q : σ 3 k + 2 ≤ 40 := (nI_leI (by omega) (by decide)).mp (show nI (σ 3 k + 2) ≤ nI 40 from q)
        simp only [mKm, mNm, mIm, mIf, mJm, mJf, mRm, sIm, sJm, rwIm, rwJm, kN, nN, rN, true_and, eS, ix (show b + 19 + k < 1380 by omega) (by decide)]
        refine b232_127_142 ?_
        simp only [mKm, mNm, mIm, mIf, mJm, mJf, mRm, sIm, sJm, rwIm, rwJm, kN, nN, rN, true_and, eS, ix (show b + 25 + k < 1380 by omega) (by decide)]
        refine b232_127_154 ?_
        simp only [mKm, mNm, mIm, mIf, mJm, mJf, mRm, sIm, sJm, rwIm, rwJm, kN, nN, rN, true_and, eS, ix (show b + 37 + k < 1380 by omega) (by decide)]
        refine b232_127_166 ?_
        rw [nI_1]
        exact fin _ (by rw [if_pos q1]; omega)
      · have q : ¬ σ 3 k + 2 ≤ 40 := fun z => q (show nI (σ 3 k + 2) ≤ nI 40 from nI_le z (by decide))
        simp only [mKm, mNm, mIm, mIf, mJm, mJf, mRm, sIm, sJm, rwIm, rwJm, kN, nN, rN, true_and, eS, ix (show b + 19 + k < 1380 by omega) (by decide)]
        refine b232_129_142 ?_
        simp only [mKm, mNm, mIm, mIf, mJm, mJf, mRm, sIm, sJm, rwIm, rwJm, kN, nN, rN, true_and, eS, ix (show b + 25 + k < 1380 by omega) (by decide)]
        refine b232_129_154 ?_
        simp only [mKm, mNm, mIm, mIf, mJm, mJf, mRm, sIm, sJm, rwIm, rwJm, kN, nN, rN, true_and, eS, ix (show b + 37 + k < 1380 by omega) (by decide)]
        refine b232_129_166 ?_
        rw [nI_1]
        exact fin 40 (by rw [if_pos q1]; omega)
end
