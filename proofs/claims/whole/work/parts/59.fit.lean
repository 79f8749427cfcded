/-! the other side: sizes, fitting -/
theorem x_mid {x : Int32} (hx : -9 < x ∧ x < -1) : x = -2 ∨ x = -3 ∨ x = -4 ∨ x = -5 ∨ x = -6 ∨ x = -7 ∨ x = -8 := by
  have h1 := Int32.lt_iff_toInt_lt.mp hx.1
  have h2 := Int32.lt_iff_toInt_lt.mp hx.2
  have e1 : (-9 : Int32).toInt = -9 := rfl
  have e2 : (-1 : Int32).toInt = -1 := rfl
  rw [e1] at h1
  rw [e2] at h2
  have key : ∀ (n : Int32) (z : Int), n.toInt = z → x.toInt = z → x = n := fun n z q1 q2 => Int32.toInt_inj.mp (q2.trans q1.symm)
  rcases (show x.toInt = -2 ∨ x.toInt = -3 ∨ x.toInt = -4 ∨ x.toInt = -5 ∨ x.toInt = -6 ∨ x.toInt = -7 ∨ x.toInt = -8 by omega) with e | e | e | e | e | e | e
  · exact Or.inl (key _ _ rfl e)
  · exact Or.inr (Or.inl (key _ _ rfl e))
  · exact Or.inr (Or.inr (Or.inl (key _ _ rfl e)))
  · exact Or.inr (Or.inr (Or.inr (Or.inl (key _ _ rfl e))))
  · exact Or.inr (Or.inr (Or.inr (Or.inr (Or.inl (key _ _ rfl e)))))
  · exact Or.inr (Or.inr (Or.inr (Or.inr (Or.inr (Or.inl (key _ _ rfl e))))))
  · exact Or.inr (Or.inr (Or.inr (Or.inr (Or.inr (Or.inr (key _ _ rfl e))))))
theorem x_fact {x : Int32} (h1 : -12 ≤ x) (h0 : ¬ 0 ≤ x) (hn : x ≠ -1) (hm : ¬ (-9 < x ∧ x < -1)) : x = -9 ∨ x = -10 ∨ x = -11 ∨ x = -12 := by
  have e0 : (0 : Int32).toInt = 0 := rfl
  have e1 : (-9 : Int32).toInt = -9 := rfl
  have e2 : (-1 : Int32).toInt = -1 := rfl
  have e3 : (-12 : Int32).toInt = -12 := rfl
  have key : ∀ (n : Int32) (z : Int), n.toInt = z → x.toInt = z → x = n := fun n z q1 q2 => Int32.toInt_inj.mp (q2.trans q1.symm)
  have g1 := Int32.le_iff_toInt_le.mp h1
  have g0 : ¬ (0 : Int) ≤ x.toInt := fun z => h0 (Int32.le_iff_toInt_le.mpr (by rw [e0]; exact z))
  have gn : x.toInt ≠ -1 := fun z => hn (key _ _ rfl z)
  have gm : ¬ (-9 < x.toInt ∧ x.toInt < -1) := fun z => hm ⟨Int32.lt_iff_toInt_lt.mpr (by rw [e1]; exact z.1), Int32.lt_iff_toInt_lt.mpr (by rw [e2]; exact z.2)⟩
  rw [e3] at g1
  rcases (show x.toInt = -9 ∨ x.toInt = -10 ∨ x.toInt = -11 ∨ x.toInt = -12 by omega) with e | e | e | e
  · exact Or.inl (key _ _ rfl e)
  · exact Or.inr (Or.inl (key _ _ rfl e))
  · exact Or.inr (Or.inr (Or.inl (key _ _ rfl e)))
  · exact Or.inr (Or.inr (Or.inr (key _ _ rfl e)))
theorem op_mid {x : Int32} (hx : -9 < x ∧ x < -1) : opF x ≠ 0 ∧ opF x ≠ 1 ∧ opF x ≠ 2 ∧ opF x ≠ 3 := by
  rcases x_mid hx with rfl | rfl | rfl | rfl | rfl | rfl | rfl <;> exact ⟨by decide, by decide, by decide, by decide⟩
theorem sub1 (x y : Int32) : x - y - 1 = x - (y + 1) := by
  apply Int32.toBitVec_inj.mp
  apply BitVec.eq_of_toNat_eq
  simp only [Int32.toBitVec_sub, Int32.toBitVec_add, BitVec.toNat_sub, BitVec.toNat_add]
  have h1 := x.toBitVec.isLt
  have h2 := y.toBitVec.isLt
  have h3 : (1 : Int32).toBitVec.toNat = 1 := rfl
  omega
theorem clip {a c : Nat} {F : Int32 → Prop} (ha : a < 2 ^ 30) (hc : c < 2 ^ 30) (h : F (nI (a - c))) : ifP (0 ≤ nI a - nI c) (F (nI a - nI c)) (F 0) := by
  have e := pk_sub_toInt ha hc
  have e0 : (0 : Int32).toInt = 0 := rfl
  refine ifb (fun q => ?_) (fun q => ?_)
  · have := Int32.le_iff_toInt_le.mp q
    rw [pk_sub (by omega)]; exact h
  · have : ¬ (0 : Int) ≤ (nI a - nI c).toInt := fun z => q (Int32.le_iff_toInt_le.mpr (by rw [e0]; exact z))
    rw [show a - c = 0 by omega] at h; exact h
theorem clampQ {v : Int32} {F : Int32 → Prop} (h : F (nI (min 40 v.toNatClampNeg))) : ifP (0 ≤ v) (ifP (v ≤ 40) (F v) (F 40)) (F 0) := by
  refine ifb (fun q => ?_) (fun q => ?_)
  · obtain ⟨n, hn, rfl⟩ := nI_of (Int32.not_lt.mpr q)
    rw [nI_clamp hn] at h
    refine ifb (fun q2 => ?_) (fun q2 => ?_)
    · rw [Nat.min_eq_right ((nI_leI hn (by decide)).mp (show nI n ≤ nI 40 from q2))] at h; exact h
    · rw [Nat.min_eq_left (by have := mt (nI_leI hn (by decide)).mpr (show ¬ nI n ≤ nI 40 from q2); omega)] at h; exact h
  · have h2 : v.toNatClampNeg = 0 := by
      have := Int32.lt_iff_toInt_lt.mp (Int32.not_le.mp q)
      show v.toInt.toNat = 0
      have e : (0 : Int32).toInt = 0 := rfl
      omega
    rw [h2] at h; exact h
theorem of_tab : ∀ k, k < 8 → (k = 0 ∧ of k = 0) ∨ (k = 1 ∧ of k = 1) ∨ (k = 2 ∧ of k = 7) ∨ (k = 3 ∧ of k = 13) ∨ (k = 4 ∧ of k = 25) ∨ (k = 5 ∧ of k = 19) ∨ (k = 6 ∧ of k = 37) ∨ (k = 7 ∧ of k = 31) := by decide +kernel
theorem of_inj : ∀ k, k < 8 → ∀ k', k' < 8 → ∀ i, i < 6 → ∀ i', i' < 6 → (k = 0 → i = 0) → (k' = 0 → i' = 0) → of k + i = of k' + i' → k = k' ∧ i = i' := by
  intro k hk k' hk' i hi i' hi' h0 h0' h
  have a := of_tab k hk
  have b := of_tab k' hk'
  refine ⟨?_, ?_⟩ <;> omega
theorem of_lt : ∀ k, k < 8 → ∀ i, i < 6 → of k + i < 43 := by
  intro k hk i hi
  have a := of_tab k hk
  omega
section
variable {G : GG} {d : Nat} {P : Int32 → mm_M → Prop} {Pv : mm_M → Prop} {Q : Option Value → mm_M → Prop} {r : Nat → Nat} {I : Nat → Nat → Int32} {J : Nat → Nat → Int64} {π : PLN} {σ : Nat → Nat → Nat} {b : Nat}
theorem wor_loop {I0 : Nat → Nat → Int32} {len : Nat} {a b c e : Int32} (hl : len ≤ 1000) : ∀ (rest : List Int32) (i : Nat) (st : List Int32) (I : Nat → Nat → Int32), i + rest.length = len → (∀ k, k < rest.length → I 254 (i + k) = opF (rest.getD k 0) ∧ I 255 (i + k) = agF (rest.getD k 0)) → I 254 len = 0 → (I 261 0 = a ∧ I 261 1 = b ∧ I 261 2 = c ∧ I 261 3 = e) → st.length ≤ 24 → okS rest st.length → Stk (I 262) st → Fr [262] I0 I → (∀ I', Fr [262] I0 I' → I' 262 0 = (evS a b c e rest st).headD 0 → Q (some (.int (I' 262 0))) (mem r I' J)) → XX G (d + 1) (some .int) P208 Q 4 [.ref 247, .int 0, .int (nI st.length), .int (nI i), jk] [] (mem r I J) := by
  intro rest
  induction rest with
  | nil =>
    intro i st I hi h14 h0 hfa hs ho hk hf h
    simp only [List.length_nil, Nat.add_zero] at hi
    subst hi
    refine x208_4 ?_
    simp only [mKm, mNm, mIm, mIf, mJm, mJf, mRm, sIm, sJm, rwIm, rwJm, kN, nN, rN, true_and, ix (show i < 2200 by omega) (by decide), h0]
    refine ifp trivial ⟨ix0 (by decide), ?_⟩
    have h1 : st.length = 1 := ho
    match st, h1, hk with
    | [u], _, hk => exact h I hf hk.1
  | cons x t ih =>
    intro i st I hi h14 h0 hfa hs ho hk hf h
    rw [List.length_cons] at hi
    have hx : I 254 i = opF x ∧ I 255 i = agF x := h14 0 (by simp)
    have h14' : ∀ v, ∀ k, k < t.length → u2 I 262 st.length v 254 (i + 1 + k) = opF (t.getD k 0) ∧ u2 I 262 st.length v 255 (i + 1 + k) = agF (t.getD k 0) := fun v k hk => by
      have := h14 (k + 1) (by simp; omega)
      rw [u2n (by decide), u2n (by decide), show i + 1 + k = i + (k + 1) by omega]
      exact this
    have hi1 : i < 2200 := by omega
    unfold okS at ho
    unfold evS at h
    have go : ∀ (w : Int32) (m : Nat), m ≤ 24 → okS t (m + 1) → m < 24 → (∀ st' : List Int32, st'.length = m → Stk (I 262) st' → (∀ I', Fr [262] I0 I' → I' 262 0 = (evS a b c e t (w :: st')).headD 0 → Q (some (.int (I' 262 0))) (mem r I' J)) → XX G (d + 1) (some .int) P208 Q 4 [.ref 247, .int 0, .int (nI (m + 1)), .int (nI (i + 1)), jk] [] (mem r (u2 I 262 m w) J)) := fun w m hm24 hok hm st' he hst hh => by
      subst he
      have h14'' : ∀ k, k < t.length → u2 I 262 st'.length w 254 (i + 1 + k) = opF (t.getD k 0) ∧ u2 I 262 st'.length w 255 (i + 1 + k) = agF (t.getD k 0) := fun k hk => by
        have := h14 (k + 1) (by simp; omega)
        rw [u2n (by decide), u2n (by decide), show i + 1 + k = i + (k + 1) by omega]
        exact this
      exact ih (i + 1) (w :: st') (u2 I 262 st'.length w) (by omega) h14'' (by rw [u2n (by decide)]; exact h0) (by rw [u2n (by decide)]; exact hfa) (by rw [List.length_cons]; omega) hok ⟨u2s, by rw [u2e]; exact SK_up st' hst (Nat.le_refl _)⟩ (hf.u2 (by decide)) hh
    refine x208_4 ?_
    simp only [mKm, mNm, mIm, mIf, mJm, mJf, mRm, sIm, sJm, rwIm, rwJm, kN, nN, rN, true_and, ix hi1 (by decide), hx]
    by_cases q1 : x = -1
    · rw [if_pos q1] at ho
      simp only [if_pos q1] at h
      subst q1
      match st, ho, hk, hs, h with
      | u :: st, ho, hk, hs, h =>
        rw [List.length_cons] at hs ho
        dsimp only at h
        refine ifn (by decide) (ifn (by decide) (ifp (by decide) (x208_71 (ifn (by decide) ?_))))
        rw [List.length_cons]
        simp only [mKm, mNm, mIm, mIf, mJm, mJf, mRm, sIm, sJm, rwIm, rwJm, kN, nN, rN, true_and, nI_pred, ix (show st.length < 1100 by omega) (by decide), hk.1]
        refine ifb (fun q => ?_) (fun q => ?_)
        · rw [if_neg q] at h
          refine b208_99_101 ?_
          rw [nI_1]
          exact go 0 st.length (by omega) ho.2 (by omega) st rfl hk.2 h
        · rw [if_pos (Decidable.not_not.mp q)] at h
          refine b208_100_101 ?_
          rw [nI_1]
          exact go 1 st.length (by omega) ho.2 (by omega) st rfl hk.2 h
    · rw [if_neg q1] at ho
      simp only [if_neg q1] at h
      by_cases q2 : -9 < x ∧ x < -1
      · rw [if_pos q2] at ho
        simp only [if_pos q2] at h
        obtain ⟨o0, o1, o2, o3⟩ := op_mid q2
        refine ifn o0 (ifn o1 (ifp o2 (x208_71 (ifp o3 (x208_104 ?_)))))
        match st, ho, hk, hs, h with
        | [u], ho, hk, hs, h => exact absurd ho.1 (by simp)
        | v :: u :: st, ho, hk, hs, h =>
          rw [List.length_cons, List.length_cons] at hs
          dsimp only at h
          rw [List.length_cons, List.length_cons] at ho
          have hk1 : I 262 (st.length + 1) = v := hk.1
          rw [List.length_cons, List.length_cons]
          simp only [mKm, mNm, mIm, mIf, mJm, mJf, mRm, sIm, sJm, rwIm, rwJm, kN, nN, rN, true_and, pk_m1, nI_pred, ix (show st.length < 1100 by omega) (by decide), ix (show st.length + 1 < 1100 by omega) (by decide), hk1, hk.2.1]
          refine m209 q2 ?_
          simp only [mKm, mNm, mIm, mIf, mJm, mJf, mRm, sIm, sJm, rwIm, rwJm, kN, nN, rN, true_and, ix (show st.length < 1100 by omega) (by decide)]
          refine b208_104_134 ?_
          rw [nI_1]
          exact go (op2 x u v) st.length (by omega) ho.2 (by omega) st rfl hk.2.2 h
      · rw [if_neg q2] at ho
        simp only [if_neg q2] at h
        have hs1 : st.length < 24 := ho.2.1
        by_cases q3 : 0 ≤ x
        · rw [if_pos q3] at h
          have e1 : opF x = 1 := if_pos q3
          have e2 : agF x = x := if_pos q3
          rw [e1]
          refine ifn (by decide) (ifp rfl (ifn (fun z => z rfl) ?_))
          simp only [mKm, mNm, mIm, mIf, mJm, mJf, mRm, sIm, sJm, rwIm, rwJm, kN, nN, rN, true_and, e2, ix (show st.length < 1100 by omega) (by decide), ix hi1 (by decide)]
          refine b208_64_65 (b208_134_137 ?_)
          rw [nI_1, nI_1]
          exact go x st.length (by omega) ho.2.2 hs1 st rfl hk h
        · rw [if_neg q3] at h
          have key2 := x_fact ho.1 q3 q1 q2
          have key3 : ∃ n : Nat, n < 4 ∧ opF x = 2 ∧ agF x = nI n ∧ I 261 n = fct (-9 - x) a b c e := by
            rcases key2 with rfl | rfl | rfl | rfl
            · exact ⟨0, by decide, by decide, by decide, hfa.1⟩
            · exact ⟨1, by decide, by decide, by decide, hfa.2.1⟩
            · exact ⟨2, by decide, by decide, by decide, hfa.2.2.1⟩
            · exact ⟨3, by decide, by decide, by decide, hfa.2.2.2⟩
          obtain ⟨n, hn, k1, k2, k3⟩ := key3
          rw [k1, k2]
          refine ifn (by decide) (ifn (by decide) (ifn (fun z => z rfl) (ifp (by decide) ?_)))
          simp only [mKm, mNm, mIm, mIf, mJm, mJf, mRm, sIm, sJm, rwIm, rwJm, kN, nN, rN, true_and, ix hi1 (by decide), ix hn (by decide), ix (show st.length < 1100 by omega) (by decide), k3]
          refine b208_53_65 (b208_134_137 ?_)
          rw [nI_1, nI_1]
          exact go _ st.length (by omega) ho.2.2 hs1 st rfl hk h
theorem m207 {t : Nat} (hk : KR I b π σ) (ht : t < nT π) (h : ∀ I', Fr [261, 262] I I' → P (nI (szF π (σ 1 t) (σ 2 t) (σ 0 0))) (mem r I' J)) : CI G (d + 3) 207 [.ref 247, .int (nI b), .int (nI t)] (mem r I J) P := by
  have hb := hk.bb
  have hT := hk.w.t
  refine e207 ?_
  simp only [mKm, mNm, mIm, mIf, mJm, mJf, mRm, sIm, sJm, rwIm, rwJm, kN, nN, rN, true_and, eS, ix (show b + 1 + t < 1380 by omega) (by decide), hk.r1 ht, ix0 (show 0 < 4 by decide)]
  refine b207_0_16 ?_
  simp only [mKm, mNm, mIm, mIf, mJm, mJf, mRm, sIm, sJm, rwIm, rwJm, kN, nN, rN, true_and, eS, ix (show b + 7 + t < 1380 by omega) (by decide), u2n (show (263 : Nat) ≠ 261 by decide), hk.r2 ht]
  refine ⟨ixl (n := 1) rfl (by decide) (by decide), b207_0_33 ?_⟩
  have hf1 : Fr [261, 262] I (u2 (u2 I 261 0 (nI (σ 1 t))) 261 1 (nI (σ 2 t))) := (Fr.rfl.u2 (by decide)).u2 (by decide)
  have hk1 := hk.fr hf1
  simp only [mKm, mNm, mIm, mIf, mJm, mJf, mRm, sIm, sJm, rwIm, rwJm, kN, nN, rN, true_and]
  refine m205 hk1 ?_
  simp only [mKm, mNm, mIm, mIf, mJm, mJf, mRm, sIm, sJm, rwIm, rwJm, kN, nN, rN, true_and, eS b 0, ix (show b + 0 < 1380 by omega) (by decide), u2n (show (263 : Nat) ≠ 261 by decide), hk.r0]
  refine ⟨ixl (n := 2) rfl (by decide) (by decide), ixl (n := 3) rfl (by decide) (by decide), b207_0_58 ?_⟩
  have hf2 : Fr [261, 262] I (u2 (u2 (u2 (u2 I 261 0 (nI (σ 1 t))) 261 1 (nI (σ 2 t))) 261 2 (nI (frF π (σ 0 0)))) 261 3 (nI (σ 0 0))) := (hf1.u2 (by decide)).u2 (by decide)
  have hfa : ∀ I2 : Nat → Nat → Int32, I2 = (u2 (u2 (u2 (u2 I 261 0 (nI (σ 1 t))) 261 1 (nI (σ 2 t))) 261 2 (nI (frF π (σ 0 0)))) 261 3 (nI (σ 0 0))) → I2 261 0 = nI (σ 1 t) ∧ I2 261 1 = nI (σ 2 t) ∧ I2 261 2 = nI (frF π (σ 0 0)) ∧ I2 261 3 = nI (σ 0 0) := fun I2 e => by
    subst e
    exact ⟨by rw [u2i (by decide), u2i (by decide), u2i (by decide), u2s], by rw [u2i (by decide), u2i (by decide), u2s], by rw [u2i (by decide), u2s], u2s⟩
  generalize hI2 : (u2 (u2 (u2 (u2 I 261 0 (nI (σ 1 t))) 261 1 (nI (σ 2 t))) 261 2 (nI (frF π (σ 0 0)))) 261 3 (nI (σ 0 0))) = I2 at hf2 ⊢
  have hfa := hfa I2 hI2.symm
  have hk2 := hk.fr hf2
  simp only [mKm, mNm, mIm, mIf, mJm, mJf, mRm, sIm, sJm, rwIm, rwJm, kN, nN, rN, true_and, hfa, ix0 (show 0 < 4 by decide)]
  refine ⟨ixl (n := 5) rfl (by decide) (by decide), ?_⟩
  rcases hk2.p.2.2.2.2 with ⟨e0, e5⟩ | ⟨e0, e5, el, ec⟩
  · rw [e5]
    refine ifn (by decide) (clampQ (F := fun v => QI P (some (.int v)) (mem r I2 J)) ⟨_, rfl, ?_⟩)
    have := h I2 hf2
    unfold szF evF at this
    rw [if_pos e0] at this
    exact this
  · rw [e5]
    refine ifp (by decide) ?_
    have ho : okS π.2 0 := by rcases hk.w.ok with z | z; exact absurd z e0; exact z
    refine ⟨ixl (n := 5) rfl (by decide) (by decide), e208 (wor_loop (I0 := I2) hk.w.len π.2 0 [] I2 (by simp) (fun k hk => by rw [Nat.zero_add]; exact ec k hk) el hfa (by simp) ho trivial Fr.rfl (fun I3 hf3 he => ⟨_, rfl, ?_⟩))⟩
    refine clampQ (F := fun v => QI P (some (.int v)) (mem r I3 J)) ⟨_, rfl, ?_⟩
    have := h I3 (hf2.trans (hf3.mono (by decide)))
    unfold szF evF at this
    rw [if_neg e0] at this
    rw [he]
    exact this
theorem m216 {M : mm_M} {x y : Nat} (hx : x < 2 ^ 30) (hy : y < 2 ^ 30) (h : P (nI (dst x y)) M) : CI G (d + 1) 216 [.int (nI x), .int (nI y)] M P := by
  unfold dst at h
  refine e216 (ifb (fun q => ?_) (fun q => ?_))
  · rw [nI_leI (by omega) (by omega)] at q
    rw [pk_sub q]; rw [show x - y + (y - x) = x - y by omega] at h; exact h
  · rw [nI_leI (by omega) (by omega)] at q
    rw [pk_sub (by omega)]; rw [show x - y + (y - x) = y - x by omega] at h; exact h
theorem m215 {p sz : Nat} (hk : KR I b π σ) (hp : p < nP π) (hs : sz ≤ 40) (h : P (nI (pinF π p (σ 3 p) sz)) (mem r I J)) : CI G (d + 2) 215 [.ref 247, .int (nI b), .int (nI p), .int (nI sz)] (mem r I J) P := by
  have hb := hk.bb
  have hP := hk.w.p
  have h4 := hk.w.pinch
  have h5 := (hk.w.pe hp).1
  have hf := (hk.v.2.2 p hp).1
  have hd1 := dst_le (a := sz) (b := σ 3 p) (n := 40) hs hf
  have hd2 := dst_le (a := 2 * sz) (b := σ 3 p) (n := 80) (by omega) (by omega)
  refine e215 ?_
  simp only [mKm, mNm, mIm, mIf, mJm, mJf, mRm, sIm, sJm, rwIm, rwJm, kN, nN, rN, true_and]
  refine m169 hk.p hk.w hp ?_
  simp only [mKm, mNm, mIm, mIf, mJm, mJf, mRm, sIm, sJm, rwIm, rwJm, kN, nN, rN, true_and, eS, ix (show b + 13 + p < 1380 by omega) (by decide), hk.r3 hp]
  refine b215_0_21 (m216 (by omega) (by omega) ?_)
  simp only [mKm, mNm, mIm, mIf, mJm, mJf, mRm, sIm, sJm, rwIm, rwJm, kN, nN, rN, true_and, hk.p.n2]
  refine ⟨ixl (n := 2) rfl (by decide) (by decide), ?_⟩
  have e2 : (2 : Int32) * nI sz = nI (2 * sz) := pk_mul 2 sz
  rw [e2]
  unfold pinF at h
  by_cases q3 : π.1 9 p = 3
  · rw [if_neg (by omega), if_pos q3] at h
    rw [q3]
    refine ifn (fun z => z rfl) (m216 (by omega) (by omega) ?_)
    simp only [mKm, mNm, mIm, mIf, mJm, mJf, mRm, sIm, sJm, rwIm, rwJm, kN, nN, rN, true_and, hk.p.n2]
    refine ⟨ixl (n := 2) rfl (by decide) (by decide), b215_45_65 (ifp (by decide) ?_)⟩
    rw [sub1, nI_1]
    exact clip (F := fun v => QI P (some (.int v)) (mem r I J)) (by omega) (by omega) ⟨_, rfl, h⟩
  · rw [if_neg q3] at h
    refine ifp (fun z => q3 ((nI_eq (by omega) (by decide)).mp z)) (m216 (by omega) (by omega) ?_)
    simp only [mKm, mNm, mIm, mIf, mJm, mJf, mRm, sIm, sJm, rwIm, rwJm, kN, nN, rN, true_and, hk.p.n2]
    refine ⟨ixl (n := 2) rfl (by decide) (by decide), b215_44_65 ?_⟩
    rw [Int32.sub_zero]
    by_cases q2 : π.1 9 p = 2
    · rw [if_pos q2] at h
      rw [q2]
      refine ifn (fun z => z rfl) ?_
      have x1 := pk_sub_toInt (a := dst sz (σ 3 p)) (b := π.1 2 0) (by omega) (by omega)
      have x2 := pk_sub_toInt (a := dst (2 * sz) (σ 3 p)) (b := π.1 2 0) (by omega) (by omega)
      refine ifb (fun q => ?_) (fun q => ?_)
      · have := Int32.le_iff_toInt_le.mp q
        rw [Nat.min_eq_left (by omega)] at h
        exact clip (F := fun v => QI P (some (.int v)) (mem r I J)) (by omega) (by omega) ⟨_, rfl, h⟩
      · have : ¬ (nI (dst sz (σ 3 p)) - nI (π.1 2 0)).toInt ≤ (nI (dst (2 * sz) (σ 3 p)) - nI (π.1 2 0)).toInt := fun z => q (Int32.le_iff_toInt_le.mpr z)
        rw [Nat.min_eq_right (by omega)] at h
        exact clip (F := fun v => QI P (some (.int v)) (mem r I J)) (by omega) (by omega) ⟨_, rfl, h⟩
    · rw [if_neg q2] at h
      refine ifp (fun z => q2 ((nI_eq (by omega) (by decide)).mp z)) ?_
      exact clip (F := fun v => QI P (some (.int v)) (mem r I J)) (by omega) (by omega) ⟨_, rfl, h⟩
theorem m214 {p t : Nat} (hk : KR I b π σ) (hp : p < nP π) (ht : t < nT π) (h : ∀ I', Fr [261, 262] I I' → P (if fitF π σ p t then 1 else 0) (mem r I' J)) : CI G (d + 4) 214 [.ref 247, .int (nI b), .int (nI p), .int (nI t)] (mem r I J) P := by
  refine e214 ?_
  simp only [mKm, mNm, mIm, mIf, mJm, mJf, mRm, sIm, sJm, rwIm, rwJm, kN, nN, rN, true_and]
  refine m204 hk ht ?_
  unfold fitF at h
  by_cases q : bearF π (σ 0 0) t = true
  · rw [if_pos q]
    refine ifn (by decide) ?_
    simp only [mKm, mNm, mIm, mIf, mJm, mJf, mRm, sIm, sJm, rwIm, rwJm, kN, nN, rN, true_and]
    refine m207 hk ht (fun I1 hf1 => ?_)
    have hk1 := hk.fr hf1
    have h1 := pin_le (π := π) (p := p) (hk.v.2.2 p hp).1 (sz_le (π := π) (l := σ 1 t) (g := σ 2 t) (y := σ 0 0))
    simp only [mKm, mNm, mIm, mIf, mJm, mJf, mRm, sIm, sJm, rwIm, rwJm, kN, nN, rN, true_and]
    refine m215 hk1 hp sz_le ?_
    have h := h I1 hf1
    simp only [q, Bool.true_and, beq_iff_eq] at h
    by_cases q2 : pinF π p (σ 3 p) (szF π (σ 1 t) (σ 2 t) (σ 0 0)) = 0
    · rw [if_pos q2] at h
      rw [q2]
      exact ifn (fun z => z rfl) h
    · rw [if_neg q2] at h
      exact ifp (nI_ne0 (by omega) (by omega)) h
  · rw [if_neg q]
    simp only [Bool.not_eq_true] at q
    simp only [q, Bool.false_and] at h
    exact ifp rfl (h I Fr.rfl)
theorem m210 {t : Nat} (hk : KR I b π σ) (ht : t < 2 ^ 30) (h : P (nI (havF π σ t)) (mem r I J)) : CI G (d + 2) 210 [.ref 247, .int (nI b), .int (nI t)] (mem r I J) P := by
  have hb := hk.bb
  have hP := hk.w.p
  have hT := hk.w.t
  refine e210 (lp (n := nP π) (X := fun k => XX G (d + 1) (some .int) P210 (QI P) 5 [.ref 247, .int (nI b), .int (nI t), .int (nI (setF (fun p => σ 5 p == t + 1) k)), .int (nI k)] [] (mem r I J)) ?_ (fun k hkn ih => ?_))
  · refine x210_5 ?_
    simp only [mKm, mNm, mIm, mIf, mJm, mJf, mRm, sIm, sJm, rwIm, rwJm, kN, nN, rN, true_and]
    exact m168 hk.p (ifp (nI_le (Nat.le_refl _) (by omega)) ⟨_, rfl, h⟩)
  · have h6 : k < 6 := by omega
    have h5 := (hk.v.2.2 k hkn).2.2.1
    refine x210_5 ?_
    simp only [mKm, mNm, mIm, mIf, mJm, mJf, mRm, sIm, sJm, rwIm, rwJm, kN, nN, rN, true_and]
    refine m168 hk.p (ifn (nI_ge hkn (by omega)) ?_)
    simp only [mKm, mNm, mIm, mIf, mJm, mJf, mRm, sIm, sJm, rwIm, rwJm, kN, nN, rN, true_and, eS, ix (show b + 19 + k < 1380 by omega) (by decide), hk.r5 hkn, sh_eq (show σ 5 k < 2 ^ 30 by omega) ht]
    refine ifb (fun q => b210_38_44 ?_) (fun q => b210_39_44 ?_)
    · rw [or0, nI_1, set_no (c := fun p => σ 5 p == t + 1) (by simp [q])]
      exact ih
    · rw [Decidable.not_not] at q
      rw [nI_1, set_up (c := fun p => σ 5 p == t + 1) h6 (by simp [q])]
      exact ih
theorem m218 {p t : Nat} (hk : KR I b π σ) (hp : p < nP π) (ht : t < nT π) (h : P (if mayF π σ p t then 1 else 0) (mem r I J)) : CI G (d + 4) 218 [.ref 247, .int (nI b), .int (nI p), .int (nI t)] (mem r I J) P := by
  have hb := hk.bb
  have hP := hk.w.p
  have hT := hk.w.t
  have hv := hk.v.2.2 p hp
  have hn := hk.w.noon
  unfold mayF at h
  refine e218 ?_
  simp only [mKm, mNm, mIm, mIf, mJm, mJf, mRm, sIm, sJm, rwIm, rwJm, kN, nN, rN, true_and, eS, ix (show b + 19 + p < 1380 by omega) (by decide), ix (show b + 25 + p < 1380 by omega) (by decide), hk.r5 hp, hk.r4 hp, hk.p.n3]
  have es : ¬ 0 ≤ nI (σ 5 p) - 1 ↔ σ 5 p = 0 := by rw [Int32.not_le]; exact sh_lt (by omega)
  refine ifb (fun q => ?_) (fun q => ?_)
  · have : σ 5 p ≠ 0 := fun z => (es.mpr z) q
    rw [beq_false_of_ne this] at h; simpa using h
  · rw [es] at q
    refine ⟨ixl (n := 3) rfl (by decide) (by decide), ifb (fun q2 => ?_) (fun q2 => ?_)⟩
    · rw [nI_leI (by omega) (by omega)] at q2
      rw [decide_eq_false (by omega)] at h; simpa using h
    · rw [nI_leI (by omega) (by omega)] at q2
      refine m204 hk ht ?_
      rw [q, decide_eq_true (by omega)] at h
      by_cases q4 : bearF π (σ 0 0) t = true
      · rw [if_pos q4]
        rw [q4] at h
        refine ifn (by decide) ?_
        simp only [mKm, mNm, mIm, mIf, mJm, mJf, mRm, sIm, sJm, rwIm, rwJm, kN, nN, rN, true_and]
        refine m210 hk (by omega) ?_
        have hl := setF_le (fun p => σ 5 p == t + 1) hP
        by_cases q3 : havF π σ t = 0
        · rw [q3] at h ⊢
          exact ifn (fun z => z rfl) h
        · rw [beq_false_of_ne q3] at h
          refine ifp (nI_ne0 (by omega) ?_) (by simpa using h)
          unfold havF; omega
      · rw [if_neg q4]
        rw [Bool.not_eq_true] at q4
        rw [q4] at h
        exact ifp rfl (by simpa using h)
end
