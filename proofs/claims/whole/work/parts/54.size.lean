/-! pinching, sizes -/
theorem m_max0 {a b : Nat} (ha : a < 2 ^ 30) (hb : b < 2 ^ 30) : (if (0 : Int32) < nI a - nI b then nI a - nI b else 0) = nI (a - b) := by
  have h := pk_sub_toInt ha hb
  by_cases q : b ≤ a
  · rw [pk_sub q]
    by_cases q2 : a - b = 0
    · rw [q2]; rfl
    · rw [if_pos (show (0 : Int32) < nI (a - b) from nI_lt (a := 0) (by omega) (by omega))]
  · rw [if_neg (fun z => by have := Int32.lt_iff_toInt_lt.mp z; rw [h] at this; have e : (0 : Int32).toInt = 0 := rfl; rw [e] at this; omega), show a - b = 0 by omega]
    rfl
theorem m_abs {a b : Nat} (ha : a < 2 ^ 30) (hb : b < 2 ^ 30) : (if (0 : Int32) ≤ nI a - nI b then nI a - nI b else -(nI a - nI b)) = nI (dst a b) := by
  have h := pk_sub_toInt ha hb
  unfold dst
  by_cases q : b ≤ a
  · rw [pk_sub q, if_pos (nI_pos' (by omega)), show a - b + (b - a) = a - b by omega]
  · rw [if_neg (fun z => by have := Int32.le_iff_toInt_le.mp z; rw [h] at this; have e : (0 : Int32).toInt = 0 := rfl; rw [e] at this; omega), show a - b + (b - a) = b - a by omega, ← pk_sub (show a ≤ b by omega)]
    exact Int32.neg_sub ..
theorem m_min {a b : Nat} (ha : a < 2 ^ 31) (hb : b < 2 ^ 31) : (if nI b < nI a then nI b else nI a) = nI (min a b) := by
  by_cases q : b < a
  · rw [if_pos (nI_lt q ha), Nat.min_eq_right (by omega)]
  · rw [if_neg (nI_nlt (by omega) hb), Nat.min_eq_left (by omega)]
theorem m_max {a b : Nat} (ha : a < 2 ^ 31) (hb : b < 2 ^ 31) : (if nI a < nI b then nI b else nI a) = nI (max a b) := by
  by_cases q : a < b
  · rw [if_pos (nI_lt q hb), Nat.max_eq_right (by omega)]
  · rw [if_neg (nI_nlt (by omega) ha), Nat.max_eq_left (by omega)]
section
variable {G : GG} {d : Nat} {P : Int32 → mm_M → Prop} {r : Nat → Nat} {I : Nat → Nat → Int32} {J : Nat → Nat → Int64} {π : PLN}
theorem dst_le {a b n : Nat} (ha : a ≤ n) (hb : b ≤ n) : dst a b ≤ n := by unfold dst; omega
theorem d59 {p ft sz : Nat} (hp : CP I π) (hw : WP π) (h1 : p < nP π) (hf : ft ≤ 40) (hs : sz ≤ 40) (h : P (nI (pinF π p ft sz)) (mem r I J)) : CI G (d + 2) 59 [.ref 4, .int (nI p), .int (nI ft), .int (nI sz)] (mem r I J) P := by
  have h2 := hw.p
  have h3 : p < 6 := by omega
  have h4 := hw.pinch
  have h5 := (hw.pe h1).1
  have hd1 := dst_le (a := sz) (b := ft) (n := 40) hs hf
  have hd2 := dst_le (a := 2 * sz) (b := ft) (n := 80) (by omega) (by omega)
  refine e59 ?_
  simp only [mKm, mNm, mIm, mIf, mJm, mJf, mRm, sIm, sJm, rwIm, rwJm, kN, nN, rN, true_and]
  refine d58 hp hw h1 (ifn (by decide) ?_)
  simp only [mKm, mNm, mIm, mIf, mJm, mJf, mRm, sIm, sJm, rwIm, rwJm, kN, nN, rN, true_and, ix h3 (by decide), hp.pe h1]
  refine c288 ?_
  rw [m_abs (by omega) (by omega)]
  refine b59_18_28 ?_
  simp only [mKm, mNm, mIm, mIf, mJm, mJf, mRm, sIm, sJm, rwIm, rwJm, kN, nN, rN, true_and, hp.n2]
  unfold pinF at h
  by_cases q2 : π.1 9 p = 2
  · rw [if_pos q2, if_neg (by omega)] at h
    rw [q2]
    refine ifn (fun z => z rfl) (c288 ?_)
    rw [show (2 : Int32) = nI 2 from rfl, pk_mul, m_abs (by omega) (by omega)]
    refine c287 ?_
    rw [m_min (by omega) (by omega)]
    refine ifp (by decide) ?_
    simp only [mKm, mNm, mIm, mIf, mJm, mJf, mRm, sIm, sJm, rwIm, rwJm, kN, nN, rN, true_and, hp.n2]
    refine b59_64_70 (c286 ?_)
    rw [m_max0 (by omega) (by omega)]
    exact ⟨_, rfl, h⟩
  · rw [if_neg q2] at h
    refine ifp (fun z => q2 ((nI_eq (by omega) (by decide)).mp z)) ?_
    by_cases q3 : π.1 9 p = 3
    · rw [if_pos q3] at h
      rw [q3]
      refine ifn (fun z => z rfl) (c286 ?_)
      rw [nI_1, m_max0 (by omega) (by omega)]
      exact ⟨_, rfl, h⟩
    · rw [if_neg q3] at h
      refine ifp (fun z => q3 ((nI_eq (by omega) (by decide)).mp z)) (c286 ?_)
      rw [m_max0 (by omega) (by omega)]
      exact ⟨_, rfl, h⟩
theorem pin_le {p ft sz : Nat} (hf : ft ≤ 40) (hs : sz ≤ 40) : pinF π p ft sz ≤ 40 := by
  have hd1 := dst_le (a := sz) (b := ft) (n := 40) hs hf
  unfold pinF
  split <;> omega
/-! a formula's value -/
theorem d10 {M : mm_M} {x u v : Int32} (h : P (op2 x u v) M) : CI G (d + 1) 10 [.int x, .int u, .int v] M P := by
  refine e10 ?_
  unfold op2 at h
  refine ifb (fun q => by rw [if_pos q] at h; exact h) (fun q => ?_); rw [if_neg q] at h
  refine ifb (fun q => by rw [if_pos q] at h; exact h) (fun q => ?_); rw [if_neg q] at h
  refine ifb (fun q => ?_) (fun q => ?_)
  · rw [if_pos q] at h
    exact ifb (fun q => by rw [if_neg q] at h; exact h) (fun q => by rw [if_pos (Decidable.not_not.mp q)] at h; exact h)
  rw [if_neg q] at h
  refine ifb (fun q => ?_) (fun q => ?_)
  · rw [if_pos q] at h
    exact ifb (fun q => by rw [if_neg (Int32.not_lt.mpr q)] at h; exact h) (fun q => by rw [if_pos (Int32.not_le.mp q)] at h; exact h)
  rw [if_neg q] at h
  refine ifb (fun q => ?_) (fun q => ?_)
  · rw [if_pos q] at h
    refine ifb (fun q => by rw [if_neg (fun z => q z.1)] at h; exact h) (fun q => ?_)
    refine ifb (fun q2 => by rw [if_pos ⟨Decidable.not_not.mp q, q2⟩] at h; exact h) (fun q2 => by rw [if_neg (fun z => q2 z.2)] at h; exact h)
  rw [if_neg q] at h
  refine ifb (fun q => ?_) (fun q => ?_)
  · rw [if_pos q] at h
    refine ifb (fun q => by rw [if_pos (Or.inl q)] at h; exact h) (fun q => ?_)
    refine ifb (fun q2 => by rw [if_pos (Or.inr q2)] at h; exact h) (fun q2 => by rw [if_neg (fun z => z.elim q q2)] at h; exact h)
  rw [if_neg q] at h
  exact h
theorem d11 {M : mm_M} {x a b c e : Int32} (h : P (fct x a b c e) M) : CI G (d + 1) 11 [.int x, .int a, .int b, .int c, .int e] M P := by
  refine e11 ?_
  unfold fct at h
  refine ifb (fun q => by rw [if_pos q] at h; exact h) (fun q => ?_); rw [if_neg q] at h
  refine ifb (fun q => by rw [if_pos q] at h; exact h) (fun q => ?_); rw [if_neg q] at h
  exact ifb (fun q => by rw [if_pos q] at h; exact h) (fun q => by rw [if_neg q] at h; exact h)

def Stk (f : Nat → Int32) : List Int32 → Prop
  | [] => True
  | u :: st => f st.length = u ∧ Stk f st
theorem SK_up {f : Nat → Int32} {k : Nat} {v : Int32} : ∀ st : List Int32, Stk f st → st.length ≤ k → Stk (u1 f k v) st := by
  intro st
  induction st with
  | nil => intro _ _; trivial
  | cons u st ih =>
    intro h hk
    rw [List.length_cons] at hk
    exact ⟨by rw [u1n (by omega)]; exact h.1, ih h.2 (by omega)⟩
theorem val_loop {Q : Option Value → mm_M → Prop} {I0 : Nat → Nat → Int32} {len : Nat} {a b c e : Int32} (hl : len ≤ 1000) : ∀ (rest : List Int32) (i : Nat) (st : List Int32) (I : Nat → Nat → Int32), i + rest.length = len → I 13 2 = nI len → (∀ k, k < rest.length → I 14 (i + k) = rest.getD k 0) → st.length ≤ 24 → okS rest st.length → Stk (I 15) st → Fr [15] I0 I → (∀ I', Fr [15] I0 I' → I' 15 0 = (evS a b c e rest st).headD 0 → Q (some (.int (I' 15 0))) (mem r I' J)) → XX G (d + 1) (some .int) P9 Q 13 [.ref 13, .int a, .int b, .int c, .int e, .int (nI st.length), .int (nI i), jk] [] (mem r I J) := by
  intro rest
  induction rest with
  | nil =>
    intro i st I hi h13 h14 hs ho hk hf h
    simp only [List.length_nil, Nat.add_zero] at hi
    subst hi
    refine x9_13 ?_
    simp only [mKm, mNm, mIm, mIf, mJm, mJf, mRm, sIm, sJm, rwIm, rwJm, kN, nN, rN, true_and, h13]
    refine ifp (nI_le (Nat.le_refl _) (by omega)) ⟨ix0 (by decide), ?_⟩
    have h1 : st.length = 1 := ho
    match st, h1, hk with
    | [u], _, hk => exact h I hf hk.1
  | cons x t ih =>
    intro i st I hi h13 h14 hs ho hk hf h
    rw [List.length_cons] at hi
    have hx : I 14 i = x := h14 0 (by simp)
    have h14' : ∀ k, k < t.length → I 14 (i + 1 + k) = t.getD k 0 := fun k hk => by
      have := h14 (k + 1) (by simp; omega)
      rw [show i + 1 + k = i + (k + 1) by omega]
      exact this
    have hi1 : i < 1000 := by omega
    unfold okS at ho
    unfold evS at h
    refine x9_13 ?_
    simp only [mKm, mNm, mIm, mIf, mJm, mJf, mRm, sIm, sJm, rwIm, rwJm, kN, nN, rN, true_and, h13, ix hi1 (by decide), hx]
    refine ifn (nI_ge (by omega) (by omega)) ?_
    by_cases q1 : x = -1
    · rw [if_pos q1] at ho
      simp only [if_pos q1] at h
      match st, ho, hk, hs, h with
      | u :: st, ho, hk, hs, h =>
        rw [List.length_cons] at hs ho
        dsimp only at h
        have hs1 : st.length < 24 := by omega
        refine ifn (fun z => z q1) ?_
        rw [List.length_cons]
        refine ifn (fun z => by have := (nI_ltI (by omega) (by decide)).mp (show nI (st.length + 1) < nI 1 from z); omega) ?_
        simp only [nI_pred, ix hs1 (by decide), hk.1, true_and]
        refine ifb (fun q => ?_) (fun q => ?_)
        · rw [if_neg q] at h
          refine b9_67_69 ?_
          have := ih (i + 1) (0 :: st) (u2 I 15 st.length 0) (by omega) (by rw [u2n (by decide)]; exact h13) (fun k hk => by rw [u2n (by decide)]; exact h14' k hk) (by rw [List.length_cons]; omega) ho.2 ⟨u2s, by rw [u2e]; exact SK_up st hk.2 (Nat.le_refl _)⟩ (hf.u2 (by decide)) h
          rw [List.length_cons] at this
          rw [nI_1]
          exact this
        · rw [if_pos (Decidable.not_not.mp q)] at h
          refine b9_68_69 ?_
          have := ih (i + 1) (1 :: st) (u2 I 15 st.length 1) (by omega) (by rw [u2n (by decide)]; exact h13) (fun k hk => by rw [u2n (by decide)]; exact h14' k hk) (by rw [List.length_cons]; omega) ho.2 ⟨u2s, by rw [u2e]; exact SK_up st hk.2 (Nat.le_refl _)⟩ (hf.u2 (by decide)) h
          rw [List.length_cons] at this
          rw [nI_1]
          exact this
    · rw [if_neg q1] at ho
      simp only [if_neg q1] at h
      refine ifp q1 (x9_72 ?_)
      simp only [mKm, mNm, mIm, mIf, mJm, mJf, mRm, sIm, sJm, rwIm, rwJm, kN, nN, rN, true_and]
      by_cases q2 : -9 < x ∧ x < -1
      · rw [if_pos q2] at ho
        simp only [if_pos q2] at h
        refine ifn (Int32.not_le.mpr q2.2) (ifn (Int32.not_le.mpr q2.1) ?_)
        match st, ho, hk, hs, h with
        | [u], ho, hk, hs, h => exact absurd ho.1 (by simp)
        | v :: u :: st, ho, hk, hs, h =>
          rw [List.length_cons, List.length_cons] at hs
          dsimp only at h
          rw [List.length_cons, List.length_cons] at ho
          have hs1 : st.length < 24 := by omega
          have hs2 : st.length + 1 < 24 := by omega
          have hk1 : I 15 (st.length + 1) = v := hk.1
          rw [List.length_cons, List.length_cons]
          refine ifn (fun z => by have := (nI_ltI (by omega) (by decide)).mp (show nI (st.length + 1 + 1) < nI 2 from z); omega) ?_
          simp only [pk_m1, nI_pred, ix hs1 (by decide), ix hs2 (by decide), hk1, hk.2.1, true_and]
          refine d10 ?_
          simp only [mKm, mNm, mIm, mIf, mJm, mJf, mRm, sIm, sJm, rwIm, rwJm, kN, nN, rN, true_and, ix hs1 (by decide)]
          refine b9_72_124 ?_
          have := ih (i + 1) (op2 x u v :: st) (u2 I 15 st.length (op2 x u v)) (by omega) (by rw [u2n (by decide)]; exact h13) (fun k hk => by rw [u2n (by decide)]; exact h14' k hk) (by rw [List.length_cons]; omega) ho.2 ⟨u2s, by rw [u2e]; exact SK_up st hk.2.2 (Nat.le_refl _)⟩ (hf.u2 (by decide)) h
          rw [List.length_cons] at this
          rw [nI_1]
          exact this
      · rw [if_neg q2] at ho
        simp only [if_neg q2] at h
        have h127 : XX G (d + 1) (some .int) P9 Q 127 [.ref 13, .int a, .int b, .int c, .int e, .int (nI st.length), .int (nI i), .int x] [] (mem r I J) := by
          have hs1 : st.length < 24 := ho.2.1
          refine x9_127 ?_
          simp only [mKm, mNm, mIm, mIf, mJm, mJf, mRm, sIm, sJm, rwIm, rwJm, kN, nN, rN, true_and]
          refine ifn (nI_ge (b := 24) hs1 (by decide)) ?_
          refine ifb (fun q => ?_) (fun q => ?_)
          · rw [if_neg (Int32.not_le.mpr q)] at h
            refine d11 ?_
            simp only [mKm, mNm, mIm, mIf, mJm, mJf, mRm, sIm, sJm, rwIm, rwJm, kN, nN, rN, true_and, ix hs1 (by decide)]
            refine b9_150_170 ?_
            have := ih (i + 1) (fct (-9 - x) a b c e :: st) (u2 I 15 st.length (fct (-9 - x) a b c e)) (by omega) (by rw [u2n (by decide)]; exact h13) (fun k hk => by rw [u2n (by decide)]; exact h14' k hk) (by rw [List.length_cons]; omega) ho.2.2 ⟨u2s, by rw [u2e]; exact SK_up st hk (Nat.le_refl _)⟩ (hf.u2 (by decide)) h
            rw [List.length_cons] at this
            rw [nI_1, nI_1]
            exact this
          · rw [if_pos (Int32.not_lt.mp q)] at h
            simp only [ix hs1 (by decide), true_and]
            refine b9_163_170 ?_
            have := ih (i + 1) (x :: st) (u2 I 15 st.length x) (by omega) (by rw [u2n (by decide)]; exact h13) (fun k hk => by rw [u2n (by decide)]; exact h14' k hk) (by rw [List.length_cons]; omega) ho.2.2 ⟨u2s, by rw [u2e]; exact SK_up st hk (Nat.le_refl _)⟩ (hf.u2 (by decide)) h
            rw [List.length_cons] at this
            rw [nI_1, nI_1]
            exact this
        refine ifb (fun _ => h127) (fun q3 => ifp ?_ h127)
        exact Int32.not_lt.mp (fun z => q2 ⟨z, Int32.not_le.mp q3⟩)
theorem d9 {a b c e : Int32} (hp : CP I π) (hw : WP π) (h : ∀ I', Fr [15] I I' → P (evF π.2 a b c e) (mem r I' J)) : CI G (d + 2) 9 [.ref 13, .int a, .int b, .int c, .int e] (mem r I J) P := by
  refine e9 ?_
  simp only [mKm, mNm, mIm, mIf, mJm, mJf, mRm, sIm, sJm, rwIm, rwJm, kN, nN, rN, true_and, ix0 (show 0 < 24 by decide)]
  have h13 : (u2 I 15 0 a) 13 2 = nI π.2.length := by rw [u2n (by decide)]; exact hp.2.2.2.2.1
  have h0 : Fr [15] I (u2 I 15 0 a) := Fr.rfl.u2 (by decide)
  rcases hw.ok with ho | ho
  · refine x9_13 ?_
    simp only [mKm, mNm, mIm, mIf, mJm, mJf, mRm, sIm, sJm, rwIm, rwJm, kN, nN, rN, true_and, h13]
    rw [ho]
    refine ifp (by decide) ⟨ix0 (by decide), _, rfl, ?_⟩
    rw [u2s]
    unfold evF at h
    rw [if_pos ho] at h
    exact h _ h0
  · have h1 := val_loop (G := G) (d := d) (r := r) (J := J) (Q := QI P) (I0 := I) (a := a) (b := b) (c := c) (e := e) hw.len π.2 0 [] (u2 I 15 0 a) (by simp) h13 (fun k hk => by rw [u2n (by decide), Nat.zero_add]; exact hp.2.2.2.2.2 k hk) (by simp) ho trivial h0 (fun I' hf he => ⟨_, rfl, by
      have hn : π.2 ≠ [] := fun z => by rw [z] at ho; exact absurd ho (by simp [okS])
      have := h I' hf
      unfold evF at this
      rw [if_neg hn] at this
      rw [he]
      exact this⟩)
    exact h1
/-- the clamp -/
theorem m_clamp (v : Int32) : (if (0 : Int32) < (if v < 40 then v else 40) then (if v < 40 then v else 40) else 0) = nI (min 40 v.toNatClampNeg) := by
  by_cases q : v < 0
  · have h1 : v < 40 := Int32.lt_trans q (by decide)
    rw [if_pos h1, if_neg (fun z => Int32.lt_irrefl (Int32.lt_trans z q))]
    have h2 : v.toNatClampNeg = 0 := by
      have := Int32.lt_iff_toInt_lt.mp q
      show v.toInt.toNat = 0
      have e : (0 : Int32).toInt = 0 := rfl
      omega
    rw [h2]; rfl
  · obtain ⟨n, hn, rfl⟩ := nI_of q
    rw [nI_clamp hn]
    by_cases q2 : n < 40
    · rw [if_pos (show nI n < 40 from nI_lt (b := 40) q2 (by decide)), Nat.min_eq_right (by omega)]
      by_cases q3 : n = 0
      · rw [q3]; rfl
      · rw [if_pos (show (0 : Int32) < nI n from nI_lt (a := 0) (by omega) hn)]
    · rw [if_neg (show ¬ nI n < 40 from nI_nlt (b := 40) (by omega) hn), Nat.min_eq_left (by omega)]; rfl
theorem d57 {l g y : Nat} (hp : CP I π) (hw : WP π) (hy : y < 2 ^ 31) (h : ∀ I', Fr [15] I I' → P (nI (szF π l g y)) (mem r I' J)) : CI G (d + 3) 57 [.ref 4, .int (nI l), .int (nI g), .int (nI y)] (mem r I J) P := by
  refine e57 ?_
  simp only [mKm, mNm, mIm, mIf, mJm, mJf, mRm, sIm, sJm, rwIm, rwJm, kN, nN, rN, true_and]
  refine d55 hp hw hy ?_
  simp only [mKm, mNm, mIm, mIf, mJm, mJf, mRm, sIm, sJm, rwIm, rwJm, kN, nN, rN, true_and]
  refine d9 hp hw (fun I' hf => c287 (c286 ?_))
  rw [m_clamp]
  exact h I' hf
theorem sz_le {l g y : Nat} : szF π l g y ≤ 40 := Nat.min_le_left _ _
end
