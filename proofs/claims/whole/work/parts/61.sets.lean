/-! the other side: sets, copies, the begin -/
def pcF (m : Nat) : Nat → Nat
  | 0 => 0
  | k + 1 => pcF m k + m / 2 ^ k % 2
theorem bit_at : ∀ k, k < 30 → ∀ m, m < 64 → (nI m >>> (nI k &&& 31)) &&& 1 = nI (m / 2 ^ k % 2) := by decide +kernel
def bcI (l : Int32) : Int32 :=
  let l1 := l - (((l.toUInt32 >>> ((1 : Int32).toUInt32 &&& Int32.toUInt32 31)).toInt32) &&& 1431655765)
  let l2 := (l1 &&& 858993459) + (((l1.toUInt32 >>> ((2 : Int32).toUInt32 &&& Int32.toUInt32 31)).toInt32) &&& 858993459)
  let l3 := (l2 + ((l2.toUInt32 >>> ((4 : Int32).toUInt32 &&& Int32.toUInt32 31)).toInt32)) &&& 252645135
  let l4 := l3 + ((l3.toUInt32 >>> ((8 : Int32).toUInt32 &&& Int32.toUInt32 31)).toInt32)
  let l5 := l4 + ((l4.toUInt32 >>> ((16 : Int32).toUInt32 &&& Int32.toUInt32 31)).toInt32)
  l5 &&& 63
theorem bc_ok : ∀ m, m < 64 → bcI (nI m) = nI (pcF m 30) := by decide +kernel
theorem pc_le : ∀ m, m < 64 → pcF m 30 ≤ 6 := by decide +kernel
def cpR (I : Nat → Nat → Int32) (f t n : Nat) (I' : Nat → Nat → Int32) : Prop := (∀ a, a ≠ 263 → I' a = I a) ∧ (∀ k, k < n → I' 263 (t + k) = I 263 (f + k)) ∧ ∀ k, (k < t ∨ t + n ≤ k) → I' 263 k = I 263 k
section
variable {G : GG} {d : Nat} {P : Int32 → mm_M → Prop} {Pv : mm_M → Prop} {Q : Option Value → mm_M → Prop} {r : Nat → Nat} {I : Nat → Nat → Int32} {J : Nat → Nat → Int64} {π : PLN} {σ : Nat → Nat → Nat} {b : Nat}
theorem c285 {M : mm_M} {m : Nat} (hm : m < 64) (h : P (nI (pcF m 30)) M) : CI G (d + 1) 285 [.int (nI m)] M P := by
  refine e285 (b285_0_10 (b285_0_24 (b285_0_34 (b285_0_41 (b285_0_48 ⟨_, rfl, ?_⟩)))))
  rw [← bc_ok m hm] at h
  exact h
theorem m246 {M : mm_M} {m : Nat} (hm : m < 64) (h : P (nI (pcF m 30)) M) : CI G (d + 1) 246 [.int (nI m)] M P := by
  refine e246 (lp (n := 30) (X := fun k => XX G d (some .int) P246 (QI P) 4 [.int (nI m), .int (nI (pcF m k)), .int (nI k)] [] M) ?_ (fun k hkn ih => ?_))
  · exact x246_4 (ifp (by decide) ⟨_, rfl, h⟩)
  · refine x246_4 (ifn (nI_ge (b := 30) hkn (by decide)) (b246_4_21 ?_))
    rw [bit_at k hkn m hm, nI_add, nI_1]
    exact ih
theorem m235 (hk : KR I b π σ) (h : P (nI (roadF π σ (nP π))) (mem r I J)) : CI G (d + 2) 235 [.ref 247, .int (nI b)] (mem r I J) P := by
  have hP := hk.w.p
  have hb := hk.bb
  refine e235 (lp (n := nP π) (X := fun k => XX G (d + 1) (some .int) P235 (QI P) 4 [.ref 247, .int (nI b), .int (nI (roadF π σ k)), .int (nI k)] [] (mem r I J)) ?_ (fun k hkn ih => ?_))
  · refine x235_4 ?_
    simp only [mKm, mNm, mIm, mIf, mJm, mJf, mRm, sIm, sJm, rwIm, rwJm, kN, nN, rN, true_and]
    exact m168 hk.p (ifp (nI_le (Nat.le_refl _) (by omega)) ⟨_, rfl, h⟩)
  · refine x235_4 ?_
    simp only [mKm, mNm, mIm, mIf, mJm, mJf, mRm, sIm, sJm, rwIm, rwJm, kN, nN, rN, true_and]
    refine m168 hk.p (ifn (nI_ge hkn (by omega)) ?_)
    simp only [mKm, mNm, mIm, mIf, mJm, mJf, mRm, sIm, sJm, rwIm, rwJm, kN, nN, rN, true_and, eS, ix (show b + 31 + k < 1380 by omega) (by decide), hk.r7 hkn, nI_add]
    refine b235_4_26 ?_
    rw [nI_1]
    exact ih
theorem m245 (hk : KR I b π σ) (h : P (nI (shodS π σ)) (mem r I J)) : CI G (d + 2) 245 [.ref 247, .int (nI b)] (mem r I J) P := by
  have hP := hk.w.p
  have hT := hk.w.t
  have hb := hk.bb
  refine e245 (lp (n := nP π) (X := fun k => XX G (d + 1) (some .int) P245 (QI P) 4 [.ref 247, .int (nI b), .int (nI (setF (fun p => σ 5 p != 0) k)), .int (nI k)] [] (mem r I J)) ?_ (fun k hkn ih => ?_))
  · refine x245_4 ?_
    simp only [mKm, mNm, mIm, mIf, mJm, mJf, mRm, sIm, sJm, rwIm, rwJm, kN, nN, rN, true_and]
    exact m168 hk.p (ifp (nI_le (Nat.le_refl _) (by omega)) ⟨_, rfl, h⟩)
  · have hv := (hk.v.2.2 k hkn).2.2.1
    refine x245_4 ?_
    simp only [mKm, mNm, mIm, mIf, mJm, mJf, mRm, sIm, sJm, rwIm, rwJm, kN, nN, rN, true_and]
    refine m168 hk.p (ifn (nI_ge hkn (by omega)) ?_)
    simp only [mKm, mNm, mIm, mIf, mJm, mJf, mRm, sIm, sJm, rwIm, rwJm, kN, nN, rN, true_and, eS, ix (show b + 19 + k < 1380 by omega) (by decide), hk.r5 hkn, sh_lt (show σ 5 k < 2 ^ 30 by omega)]
    refine ifb (fun q => b245_33_39 ?_) (fun q => b245_34_39 ?_)
    · rw [or0, set_no (c := fun p => σ 5 p != 0) (by simp [q]), nI_1]
      exact ih
    · rw [set_up (c := fun p => σ 5 p != 0) (by omega) (by simp [q]), nI_1]
      exact ih
theorem m272 (hk : KR I 0 π σ) (h : P (nI (setF (bearF π (σ 0 0)) (nT π))) (mem r I J)) : CI G (d + 4) 272 [.ref 247] (mem r I J) P := by
  have hT := hk.w.t
  refine e272 (lp (n := nT π) (X := fun k => XX G (d + 3) (some .int) P272 (QI P) 4 [.ref 247, .int (nI (setF (bearF π (σ 0 0)) k)), .int (nI k)] [] (mem r I J)) ?_ (fun k hkn ih => ?_))
  · refine x272_4 ?_
    simp only [mKm, mNm, mIm, mIf, mJm, mJf, mRm, sIm, sJm, rwIm, rwJm, kN, nN, rN, true_and]
    exact m166 hk.p (ifp (nI_le (Nat.le_refl _) (by omega)) ⟨_, rfl, h⟩)
  · refine x272_4 ?_
    simp only [mKm, mNm, mIm, mIf, mJm, mJf, mRm, sIm, sJm, rwIm, rwJm, kN, nN, rN, true_and]
    refine m166 hk.p (ifn (nI_ge hkn (by omega)) ?_)
    simp only [mKm, mNm, mIm, mIf, mJm, mJf, mRm, sIm, sJm, rwIm, rwJm, kN, nN, rN, true_and]
    refine m204 (b := 0) hk hkn ?_
    by_cases q : bearF π (σ 0 0) k = true
    · rw [if_pos q]
      refine ifn (by decide) (b272_29_34 ?_)
      rw [set_up (by omega) q, nI_1]
      exact ih
    · rw [if_neg q]
      refine ifp rfl (b272_28_34 ?_)
      rw [or0, set_no (by simpa using q), nI_1]
      exact ih
theorem m237 {p : Nat} (hk : KR I b π σ) (hp : p < nP π) (h : ∀ I', Fr [261, 262] I I' → P (nI (setF (fitF π σ p) (nT π))) (mem r I' J)) : CI G (d + 5) 237 [.ref 247, .int (nI b), .int (nI p)] (mem r I J) P := by
  have hT := hk.w.t
  refine e237 (lp (n := nT π) (X := fun k => ∀ I', Fr [261, 262] I I' → XX G (d + 4) (some .int) P237 (QI P) 5 [.ref 247, .int (nI b), .int (nI p), .int (nI (setF (fitF π σ p) k)), .int (nI k)] [] (mem r I' J)) (fun I' hf => ?_) (fun k hkn ih I' hf => ?_) I Fr.rfl)
  · have hk' := hk.fr hf
    refine x237_5 ?_
    simp only [mKm, mNm, mIm, mIf, mJm, mJf, mRm, sIm, sJm, rwIm, rwJm, kN, nN, rN, true_and]
    exact m166 hk'.p (ifp (nI_le (Nat.le_refl _) (by omega)) ⟨_, rfl, h I' hf⟩)
  · have hk' := hk.fr hf
    refine x237_5 ?_
    simp only [mKm, mNm, mIm, mIf, mJm, mJf, mRm, sIm, sJm, rwIm, rwJm, kN, nN, rN, true_and]
    refine m166 hk'.p (ifn (nI_ge hkn (by omega)) ?_)
    simp only [mKm, mNm, mIm, mIf, mJm, mJf, mRm, sIm, sJm, rwIm, rwJm, kN, nN, rN, true_and]
    refine m214 hk' hp hkn (fun I1 hf1 => ?_)
    have ih := ih I1 (hf.trans hf1)
    by_cases q : fitF π σ p k = true
    · rw [if_pos q]
      refine ifn (by decide) (b237_34_39 ?_)
      rw [set_up (by omega) q, nI_1]
      exact ih
    · rw [if_neg q]
      refine ifp rfl (b237_33_39 ?_)
      rw [or0, set_no (by simpa using q), nI_1]
      exact ih
theorem m239 {t : Nat} (hk : KR I 0 π σ) (ht : t < nT π) (h : ∀ I', Fr [261, 262] I I' → P (nI (setF (fun p => fitF π σ p t) (nP π))) (mem r I' J)) : CI G (d + 5) 239 [.ref 247, .int (nI t)] (mem r I J) P := by
  have hP := hk.w.p
  refine e239 (lp (n := nP π) (X := fun k => ∀ I', Fr [261, 262] I I' → XX G (d + 4) (some .int) P239 (QI P) 4 [.ref 247, .int (nI t), .int (nI (setF (fun p => fitF π σ p t) k)), .int (nI k)] [] (mem r I' J)) (fun I' hf => ?_) (fun k hkn ih I' hf => ?_) I Fr.rfl)
  · have hk' := hk.fr hf
    refine x239_4 ?_
    simp only [mKm, mNm, mIm, mIf, mJm, mJf, mRm, sIm, sJm, rwIm, rwJm, kN, nN, rN, true_and]
    exact m168 hk'.p (ifp (nI_le (Nat.le_refl _) (by omega)) ⟨_, rfl, h I' hf⟩)
  · have hk' := hk.fr hf
    refine x239_4 ?_
    simp only [mKm, mNm, mIm, mIf, mJm, mJf, mRm, sIm, sJm, rwIm, rwJm, kN, nN, rN, true_and]
    refine m168 hk'.p (ifn (nI_ge hkn (by omega)) ?_)
    simp only [mKm, mNm, mIm, mIf, mJm, mJf, mRm, sIm, sJm, rwIm, rwJm, kN, nN, rN, true_and]
    refine m214 (b := 0) hk' hkn ht (fun I1 hf1 => ?_)
    have ih := ih I1 (hf.trans hf1)
    by_cases q : fitF π σ k t = true
    · rw [if_pos q]
      refine ifn (by decide) (b239_30_35 ?_)
      rw [set_up (c := fun p => fitF π σ p t) (by omega) q, nI_1]
      exact ih
    · rw [if_neg q]
      refine ifp rfl (b239_29_35 ?_)
      rw [or0, set_no (c := fun p => fitF π σ p t) (by simpa using q), nI_1]
      exact ih
theorem m220 {f t n : Nat} (hf : f + n ≤ 1380) (ht : t + n ≤ 1380) (hd : f + n ≤ t ∨ t + n ≤ f) (h : ∀ I', cpR I f t n I' → Pv (mem r I' J)) : CV G (d + 1) 220 [.ref 247, .int (nI f), .int (nI t), .int (nI n)] (mem r I J) Pv := by
  refine e220 (lp (n := n) (X := fun k => ∀ I', cpR I f t k I' → XX G d none P220 (QV Pv) 3 [.ref 247, .int (nI f), .int (nI t), .int (nI n), .int (nI k)] [] (mem r I' J)) (fun I' hc => ?_) (fun k hkn ih I' hc => ?_) I ⟨fun _ _ => rfl, fun _ h => by omega, fun _ _ => rfl⟩)
  · exact x220_3 (ifp (nI_le (Nat.le_refl _) (by omega)) ⟨rfl, h I' hc⟩)
  · refine x220_3 (ifn (nI_ge hkn (by omega)) ?_)
    simp only [mKm, mNm, mIm, mIf, mJm, mJf, mRm, sIm, sJm, rwIm, rwJm, kN, nN, rN, true_and, nI_add, ix (show f + k < 1380 by omega) (by decide), ix (show t + k < 1380 by omega) (by decide)]
    refine b220_3_27 ?_
    rw [nI_1, hc.2.2 (f + k) (by omega)]
    refine ih _ ⟨fun a ha => by rw [u2n ha]; exact hc.1 a ha, fun j hj => ?_, fun j hj => ?_⟩
    · by_cases e : j = k
      · subst e; rw [u2s]
      · rw [u2i (by omega)]; exact hc.2.1 j (by omega)
    · rw [u2i (by omega)]; exact hc.2.2 j (by omega)
theorem KR.keep {I' : Nat → Nat → Int32} (hk : KR I b π σ) (h1 : ∀ a, a ∈ [253, 254, 255] → I' a = I a) (h2 : ∀ k, b ≤ k → k < b + 43 → I' 263 k = I 263 k) : KR I' b π σ := by
  refine ⟨hk.bb, hk.p.fr_of (h1 _ (by decide)) (h1 _ (by decide)) (h1 _ (by decide)), hk.w, fun k i h8 hi => ?_, hk.v⟩
  have h6 : i < 6 := Nat.lt_of_lt_of_le hi (lm6 hk.w k)
  have := of_lt k h8 i h6
  rw [h2 _ (by omega) (by omega)]
  exact hk.c k i h8 hi
theorem KR.cpy {I' : Nat → Nat → Int32} {t n : Nat} (hk : KR I b π σ) (h : cpR I b t n I') (hn : 43 ≤ n) (ht : t + 43 ≤ 1380) : KR I' t π σ := by
  refine ⟨ht, hk.p.fr_of (h.1 _ (by decide)) (h.1 _ (by decide)) (h.1 _ (by decide)), hk.w, fun k i h8 hi => ?_, hk.v⟩
  have h6 : i < 6 := Nat.lt_of_lt_of_le hi (lm6 hk.w k)
  have h7 := of_lt k h8 i h6
  have h9 := h.2.1 (of k + i) (by omega)
  rw [← Nat.add_assoc, ← Nat.add_assoc] at h9
  rw [h9]
  exact hk.c k i h8 hi
theorem m220k {t : Nat} (hk : KR I b π σ) (ht : t + 43 ≤ 1380) (hd : b + 43 ≤ t ∨ t + 43 ≤ b) (h : ∀ I', Fs t I I' → KR I' t π σ → Pv (mem r I' J)) : CV G (d + 1) 220 [.ref 247, .int (nI b), .int (nI t), .int 43] (mem r I J) Pv :=
  m220 (n := 43) hk.bb ht hd (fun I' hc => h I' ⟨fun a ha => hc.1 a (fun z => ha (by simp [z])), hc.2.2⟩ (hk.cpy hc (by decide) ht))
/-! the begin -/
theorem m165 (hp : RP I π) (hw : WP π) (hb : b + 43 ≤ 1380) (h : ∀ I', Fs b I I' → KR I' b π (begF π) → Pv (mem r I' J)) : CV G (d + 2) 165 [.ref 247, .int (nI b)] (mem r I J) Pv := by
  have hT := hw.t
  have hP := hw.p
  refine e165 (lp (n := 43) (X := fun k => ∀ I', Fs b I I' → (∀ j, j < k → I' 263 (b + j) = 0) → XX G (d + 1) none P165 (QV Pv) 2 [.ref 247, .int (nI b), .int (nI k)] [] (mem r I' J)) (fun I1 hf1 hz => ?_) (fun k hkn ih I' hf hz => ?_) I Fs.rfl (fun j hj => by omega))
  · refine x165_2 (ifp (by decide) ?_)
    refine lp (n := nT π) (X := fun k => ∀ I', Fs b I I' → (∀ j, 25 ≤ j → j < 37 → I' 263 (b + j) = 0) → I' 263 (b + 0) = 0 → (∀ i, i < k → I' 263 (b + 1 + i) = nI (π.1 6 i) ∧ I' 263 (b + 7 + i) = nI (π.1 7 i)) → XX G (d + 1) none P165 (QV Pv) 25 [.ref 247, .int (nI b), .int (nI k)] [] (mem r I' J)) (fun I2 hf2 hz2 h0 ht => ?_) (fun k hkn ih I' hf hz2 h0 ht => ?_) I1 hf1 (fun j _ hj => hz j (by omega)) (hz 0 (by decide)) (fun i hi => by omega)
    · have hp2 := hp.fs hf2
      refine x165_25 ?_
      simp only [mKm, mNm, mIm, mIf, mJm, mJf, mRm, sIm, sJm, rwIm, rwJm, kN, nN, rN, true_and]
      refine m166 hp2 (ifp (nI_le (Nat.le_refl _) (by omega)) ?_)
      refine lp (n := 6) (X := fun k => ∀ I', Fs b I I' → (∀ j, 25 ≤ j → j < 37 → I' 263 (b + j) = 0) → I' 263 (b + 0) = 0 → (∀ i, i < nT π → I' 263 (b + 1 + i) = nI (π.1 6 i) ∧ I' 263 (b + 7 + i) = nI (π.1 7 i)) → (∀ i, i < k → (i < nP π → I' 263 (b + 13 + i) = nI (π.1 10 i)) ∧ I' 263 (b + 19 + i) = -1 ∧ I' 263 (b + 37 + i) = -1) → XX G (d + 1) none P165 (QV Pv) 74 [.ref 247, .int (nI b), .int (nI k)] [] (mem r I' J)) (fun I3 hf3 hz3 h03 ht3 hp3 => ?_) (fun k hkn ih I' hf hz3 h03 ht3 hp3 => ?_) I2 hf2 hz2 h0 ht (fun i hi => by omega)
      · refine x165_74 (ifp (by decide) ⟨rfl, h I3 hf3 ⟨hb, hp.fs hf3, hw, fun k i h8 hi => ?_, (show (0 : Nat) < 2 ^ 30 by decide), fun i hi => ?_, fun i hi => ?_⟩⟩)
        · have h6 : i < 6 := Nat.lt_of_lt_of_le hi (lm6 hw k)
          rcases (show k = 0 ∨ k = 1 ∨ k = 2 ∨ k = 3 ∨ k = 4 ∨ k = 5 ∨ k = 6 ∨ k = 7 by omega) with rfl | rfl | rfl | rfl | rfl | rfl | rfl | rfl
          · have : i = 0 := by have : i < 1 := hi; omega
            subst this; exact h03
          · exact (ht3 i hi).1
          · exact (ht3 i hi).2
          · exact (hp3 i h6).1 hi
          · have := hz3 (25 + i) (by omega) (by omega)
            rw [← Nat.add_assoc] at this; exact this
          · exact (hp3 i h6).2.1
          · exact (hp3 i h6).2.2
          · have := hz3 (31 + i) (by omega) (by omega)
            rw [← Nat.add_assoc] at this; exact this
        · have := hw.tr hi
          exact ⟨this.2.1, Nat.le_trans this.2.2 (by decide)⟩
        · have := hw.pe hi
          exact ⟨Nat.le_trans this.2 (by decide), Nat.zero_le _, Nat.zero_le _, Nat.zero_le _⟩
      · have hp4 := hp.fs hf
        have go : ∀ v : Int32, (k < nP π → v = nI (π.1 10 k)) → XX G (d + 1) none P165 (QV Pv) 74 [.ref 247, .int (nI b), .int (nI k + 1)] [] (mem r (u2 (u2 (u2 I' 263 (b + 13 + k) v) 263 (b + 19 + k) (-1)) 263 (b + 37 + k) (-1)) J) := fun v hv => by
          rw [nI_1]
          refine ih _ (((hf.set (by omega)).set (by omega)).set (by omega)) (fun j j1 j2 => ?_) ?_ (fun i hi => ⟨?_, ?_⟩) (fun i hi => ⟨fun hin => ?_, ?_, ?_⟩)
          · rw [u2i (by omega), u2i (by omega), u2i (by omega)]; exact hz3 j j1 j2
          · rw [u2i (by omega), u2i (by omega), u2i (by omega)]; exact h03
          · rw [u2i (by omega), u2i (by omega), u2i (by omega)]; exact (ht3 i hi).1
          · rw [u2i (by omega), u2i (by omega), u2i (by omega)]; exact (ht3 i hi).2
          · by_cases e : i = k
            · subst e; rw [u2i (by omega), u2i (by omega), u2s]; exact hv hin
            · rw [u2i (by omega), u2i (by omega), u2i (by omega)]; exact (hp3 i (by omega)).1 hin
          · by_cases e : i = k
            · subst e; rw [u2i (by omega), u2s]
            · rw [u2i (by omega), u2i (by omega), u2i (by omega)]; exact (hp3 i (by omega)).2.1
          · by_cases e : i = k
            · subst e; rw [u2s]
            · rw [u2i (by omega), u2i (by omega), u2i (by omega)]; exact (hp3 i (by omega)).2.2
        refine x165_74 (ifn (nI_ge (b := 6) hkn (by decide)) ?_)
        simp only [mKm, mNm, mIm, mIf, mJm, mJf, mRm, sIm, sJm, rwIm, rwJm, kN, nN, rN, true_and]
        refine m168 hp4 (ifb (fun q => ?_) (fun q => ?_))
        · rw [nI_leI (by omega) (by omega)] at q
          simp only [mKm, mNm, mIm, mIf, mJm, mJf, mRm, sIm, sJm, rwIm, rwJm, kN, nN, rN, true_and, eS, ix (show b + 13 + k < 1380 by omega) (by decide)]
          refine b165_107_109 ?_
          simp only [mKm, mNm, mIm, mIf, mJm, mJf, mRm, sIm, sJm, rwIm, rwJm, kN, nN, rN, true_and, eS, ix (show b + 19 + k < 1380 by omega) (by decide)]
          refine b165_107_121 ?_
          simp only [mKm, mNm, mIm, mIf, mJm, mJf, mRm, sIm, sJm, rwIm, rwJm, kN, nN, rN, true_and, eS, ix (show b + 37 + k < 1380 by omega) (by decide)]
          exact b165_107_133 (go 0 (fun z => by omega))
        · rw [nI_leI (by omega) (by omega)] at q
          simp only [mKm, mNm, mIm, mIf, mJm, mJf, mRm, sIm, sJm, rwIm, rwJm, kN, nN, rN, true_and]
          refine m169f hp4 hw (by omega) ?_
          simp only [mKm, mNm, mIm, mIf, mJm, mJf, mRm, sIm, sJm, rwIm, rwJm, kN, nN, rN, true_and, eS, ix (show b + 13 + k < 1380 by omega) (by decide)]
          refine b165_108_109 ?_
          simp only [mKm, mNm, mIm, mIf, mJm, mJf, mRm, sIm, sJm, rwIm, rwJm, kN, nN, rN, true_and, eS, ix (show b + 19 + k < 1380 by omega) (by decide)]
          refine b165_108_121 ?_
          simp only [mKm, mNm, mIm, mIf, mJm, mJf, mRm, sIm, sJm, rwIm, rwJm, kN, nN, rN, true_and, eS, ix (show b + 37 + k < 1380 by omega) (by decide)]
          exact b165_108_133 (go _ (fun z => rfl))
    · have hp2 := hp.fs hf
      refine x165_25 ?_
      simp only [mKm, mNm, mIm, mIf, mJm, mJf, mRm, sIm, sJm, rwIm, rwJm, kN, nN, rN, true_and]
      refine m166 hp2 (ifn (nI_ge hkn (by omega)) ?_)
      simp only [mKm, mNm, mIm, mIf, mJm, mJf, mRm, sIm, sJm, rwIm, rwJm, kN, nN, rN, true_and]
      refine m167l hp2 hw hkn ?_
      simp only [mKm, mNm, mIm, mIf, mJm, mJf, mRm, sIm, sJm, rwIm, rwJm, kN, nN, rN, true_and, eS, ix (show b + 1 + k < 1380 by omega) (by decide)]
      refine b165_25_49 ?_
      simp only [mKm, mNm, mIm, mIf, mJm, mJf, mRm, sIm, sJm, rwIm, rwJm, kN, nN, rN, true_and, eS, ix (show b + 7 + k < 1380 by omega) (by decide)]
      refine m167a (hp2.fr_of (u2n (by decide)) (u2n (by decide)) (u2n (by decide))) hw hkn ?_
      simp only [mKm, mNm, mIm, mIf, mJm, mJf, mRm, sIm, sJm, rwIm, rwJm, kN, nN, rN, true_and, eS, ix (show b + 7 + k < 1380 by omega) (by decide)]
      refine b165_25_66 ?_
      rw [nI_1]
      refine ih _ ((hf.set (by omega)).set (by omega)) (fun j j1 j2 => ?_) ?_ (fun i hi => ⟨?_, ?_⟩)
      · rw [u2i (by omega), u2i (by omega)]; exact hz2 j j1 j2
      · rw [u2i (by omega), u2i (by omega)]; exact h0
      · by_cases e : i = k
        · subst e; rw [u2i (by omega), u2s]
        · rw [u2i (by omega), u2i (by omega)]; exact (ht i (by omega)).1
      · by_cases e : i = k
        · subst e; rw [u2s]
        · rw [u2i (by omega), u2i (by omega)]; exact (ht i (by omega)).2
  · refine x165_2 (ifn (nI_ge (b := 43) hkn (by decide)) ?_)
    simp only [mKm, mNm, mIm, mIf, mJm, mJf, mRm, sIm, sJm, rwIm, rwJm, kN, nN, rN, true_and, nI_add, ix (show b + k < 1380 by omega) (by decide), nI_1]
    refine ih _ (hf.set (by omega)) (fun j hj => ?_)
    by_cases e : j = k
    · subst e; rw [u2s]
    · rw [u2i (by omega)]; exact hz j (by omega)
end
