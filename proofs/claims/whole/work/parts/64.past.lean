/-! what can be undone, what is felt, marks -/
abbrev ST : Type := Nat → Nat → Nat
abbrev FE : Type := List (Nat × Bool)
def z0 : ST := fun _ _ => 0
def kpL : List Nat := [59, 67, 75, 83, 91, 99, 107, 115, 123, 131, 139, 147, 155, 163, 171, 179]
theorem kp_ok : ∀ s ∈ kpL, s ∈ stL ∧ 59 ≤ s ∧ s ≤ 179 ∧ kF s = 9 := by decide +kernel
def fT (fe : FE) (i : Nat) : Nat := (fe.getD i (0, false)).1
def fB (fe : FE) (i : Nat) : Bool := (fe.getD i (0, false)).2
def CF (I : Nat → Nat → Int32) (f : Nat) (fe : FE) : Prop := I f 0 = nI fe.length ∧ ∀ i, i < fe.length → I (f + 1) i = nI (fT fe i) ∧ I (f + 2) i = if fB fe i then 1 else 0
def RF (I : Nat → Nat → Int32) (b : Nat) (fe : FE) : Prop := I 263 (b + 43) = nI fe.length ∧ ∀ i, i < fe.length → I 263 (b + 44 + 2 * i) = nI (fT fe i) ∧ I 263 (b + 44 + 2 * i + 1) = if fB fe i then 1 else 0
def WF (π : PLN) (fe : FE) : Prop := fe.length ≤ 8 ∧ ∀ i, i < fe.length → fT fe i < nT π
def PA (r : Nat → Nat) (I : Nat → Nat → Int32) (π : PLN) (us : List ST) : Prop := I 54 0 = nI us.length ∧ us.length ≤ 16 ∧ (∀ i, i < 16 → r i ∈ kpL) ∧ (∀ i j, i < 16 → j < 16 → r i = r j → i = j) ∧ ∀ i, i < us.length → CS π I (r i) (us.getD i z0) ∧ WSt π (us.getD i z0)
def PB (I : Nat → Nat → Int32) (π : PLN) (us : List ST) : Prop := I 247 25 = nI us.length ∧ us.length ≤ 16 ∧ ∀ i, i < us.length → RS π I (60 * (5 + i)) (us.getD i z0)
def keF (us : List ST) (σ : ST) : List ST := (if us.length = 16 then us.tail else us) ++ [σ]
def MA (I : Nat → Nat → Int32) (π : PLN) (ms : Nat → Option (ST × FE)) : Prop := ∀ m, m < 4 → match ms m with
  | none => I 58 m = 0
  | some (σ, fe) => I 58 m = 1 ∧ CS π I (187 + 11 * m) σ ∧ WSt π σ ∧ CF I (195 + 11 * m) fe ∧ WF π fe
def MB (I : Nat → Nat → Int32) (π : PLN) (ms : Nat → Option (ST × FE)) : Prop := ∀ m, m < 4 → match ms m with
  | none => I 264 m = 0
  | some (σ, fe) => I 264 m = 1 ∧ RS π I (60 * (1 + m)) σ ∧ RF I (60 * (1 + m)) fe
theorem getD_tail (us : List ST) (i : Nat) : us.tail.getD i z0 = us.getD (i + 1) z0 := by
  cases us with
  | nil => rfl
  | cons a t => rfl
theorem ke_len {us : List ST} {σ : ST} (h : us.length ≤ 16) : (keF us σ).length = min 16 (us.length + 1) := by
  unfold keF
  split
  · rw [List.length_append, List.length_tail, List.length_singleton]; omega
  · rw [List.length_append, List.length_singleton]; omega
theorem ap_old (us : List ST) (σ : ST) {i : Nat} (h : i < us.length) : (us ++ [σ]).getD i z0 = us.getD i z0 := by
  rw [List.getD_eq_getElem?_getD, List.getD_eq_getElem?_getD, List.getElem?_append_left h]
theorem ap_new (us : List ST) (σ : ST) : (us ++ [σ]).getD us.length z0 = σ := by
  rw [List.getD_eq_getElem?_getD, List.getElem?_append_right (Nat.le_refl _), Nat.sub_self]; rfl
section
variable {G : GG} {d : Nat} {P : Int32 → mm_M → Prop} {Pv : mm_M → Prop} {Q : Option Value → mm_M → Prop} {r : Nat → Nat} {I : Nat → Nat → Int32} {J : Nat → Nat → Int64} {π : PLN} {σ : Nat → Nat → Nat} {s : Nat} {us : List ST} {fe : FE} {ms : Nat → Option (ST × FE)}
theorem CS.keep {I' : Nat → Nat → Int32} (h : CS π I s σ) (hh : ∀ a, s ≤ a → a < s + 8 → I' a = I a) : CS π I' s σ := fun k i h8 hi => by
  rw [hh (s + k) (by omega) (by omega)]; exact h k i h8 hi
theorem RS.keep {I' : Nat → Nat → Int32} {b : Nat} (hw : WP π) (h : RS π I b σ) (hh : ∀ k, b ≤ k → k < b + 43 → I' 263 k = I 263 k) : RS π I' b σ := fun k i h8 hi => by
  have h6 : i < 6 := Nat.lt_of_lt_of_le hi (lm6 hw k)
  have := of_lt k h8 i h6
  rw [hh _ (by omega) (by omega)]
  exact h k i h8 hi
theorem RS.cpy {I' : Nat → Nat → Int32} {f t n : Nat} (hw : WP π) (h : RS π I f σ) (hc : cpR I f t n I') (hn : 43 ≤ n) : RS π I' t σ := fun k i h8 hi => by
  have h6 : i < 6 := Nat.lt_of_lt_of_le hi (lm6 hw k)
  have h7 := of_lt k h8 i h6
  have h9 := hc.2.1 (of k + i) (by omega)
  rw [← Nat.add_assoc, ← Nat.add_assoc] at h9
  rw [h9]
  exact h k i h8 hi
theorem CF.keep {I' : Nat → Nat → Int32} {f : Nat} (h : CF I f fe) (hh : ∀ a, f ≤ a → a < f + 3 → I' a = I a) : CF I' f fe := by
  unfold CF
  rw [hh f (Nat.le_refl _) (by omega), hh (f + 1) (by omega) (by omega), hh (f + 2) (by omega) (by omega)]
  exact h
theorem RF.keep {I' : Nat → Nat → Int32} {b : Nat} (hl : fe.length ≤ 8) (h : RF I b fe) (hh : ∀ k, b + 43 ≤ k → k < b + 60 → I' 263 k = I 263 k) : RF I' b fe := by
  refine ⟨by rw [hh _ (by omega) (by omega)]; exact h.1, fun i hi => ?_⟩
  rw [hh _ (by omega) (by omega), hh _ (by omega) (by omega)]
  exact h.2 i hi
theorem RF.cpy {I' : Nat → Nat → Int32} {f t : Nat} (hl : fe.length ≤ 8) (h : RF I f fe) (hc : cpR I f t 60 I') : RF I' t fe := by
  refine ⟨by rw [hc.2.1 43 (by decide)]; exact h.1, fun i hi => ?_⟩
  have e1 := hc.2.1 (44 + 2 * i) (by omega)
  have e2 := hc.2.1 (44 + 2 * i + 1) (by omega)
  rw [show t + (44 + 2 * i) = t + 44 + 2 * i by omega, show f + (44 + 2 * i) = f + 44 + 2 * i by omega] at e1
  rw [show t + (44 + 2 * i + 1) = t + 44 + 2 * i + 1 by omega, show f + (44 + 2 * i + 1) = f + 44 + 2 * i + 1 by omega] at e2
  rw [e1, e2]
  exact h.2 i hi
theorem PA.fr {I' : Nat → Nat → Int32} (h : PA r I π us) (hh : ∀ a, 54 ≤ a → a < 187 → I' a = I a) : PA r I' π us := by
  refine ⟨by rw [hh 54 (by decide) (by decide)]; exact h.1, h.2.1, h.2.2.1, h.2.2.2.1, fun i hi => ?_⟩
  obtain ⟨k1, k2, k3, k4⟩ := kp_ok _ (h.2.2.1 i (by have := h.2.1; omega))
  exact ⟨(h.2.2.2.2 i hi).1.keep (fun a h1 h2 => hh a (by omega) (by omega)), (h.2.2.2.2 i hi).2⟩
theorem MA.fr {I' : Nat → Nat → Int32} (h : MA I π ms) (h1 : I' 58 = I 58) (hh : ∀ a, 187 ≤ a → a < 231 → I' a = I a) : MA I' π ms := fun m hm => by
  have := h m hm
  cases e : ms m with
  | none => rw [e] at this; show I' 58 m = 0; rw [h1]; exact this
  | some x =>
    rw [e] at this
    obtain ⟨q1, q2, q3, q4, q5⟩ := this
    exact ⟨by rw [h1]; exact q1, q2.keep (fun a ha hb => hh a (by omega) (by omega)), q3, q4.keep (fun a ha hb => hh a (by omega) (by omega)), q5⟩
theorem PB.fr {I' : Nat → Nat → Int32} (hw : WP π) (h : PB I π us) (h1 : I' 247 25 = I 247 25) (hh : ∀ k, 300 ≤ k → k < 1260 → I' 263 k = I 263 k) : PB I' π us :=
  ⟨by rw [h1]; exact h.1, h.2.1, fun i hi => (h.2.2 i hi).keep hw (fun k ha hb => hh k (by omega) (by have := h.2.1; omega))⟩
theorem MB.fr {I' : Nat → Nat → Int32} (hw : WP π) (hl : ∀ m x, m < 4 → ms m = some x → x.2.length ≤ 8) (h : MB I π ms) (h1 : I' 264 = I 264) (hh : ∀ k, 60 ≤ k → k < 300 → I' 263 k = I 263 k) : MB I' π ms := fun m hm => by
  have := h m hm
  cases e : ms m with
  | none => rw [e] at this; show I' 264 m = 0; rw [h1]; exact this
  | some x =>
    rw [e] at this
    obtain ⟨q1, q2, q3⟩ := this
    exact ⟨by rw [h1]; exact q1, q2.keep hw (fun k ha hb => hh k (by omega) (by omega)), q3.keep (hl m x hm e) (fun k ha hb => hh k (by omega) (by omega))⟩
/-! keeping -/
theorem d45 (hp : PA r I π us) (h : ∀ r', (∀ i, i < 15 → r' i = r (i + 1)) → r' 15 = r 0 → Pv (mem r' (u2 I 54 0 15) J)) : CV G (d + 1) 45 [.ref 54] (mem r I J) Pv := by
  have hr : ∀ i, i < 16 → kF (r i) = 9 := fun i hi => (kp_ok _ (hp.2.2.1 i hi)).2.2.2
  refine e45 ?_
  simp only [mKm, mNm, mIm, mIf, mJm, mJf, mRm, sIm, sJm, rwIm, rwJm, kN, nN, rN, true_and, ix0 (show 0 < 16 by decide)]
  refine lpA (a := 1) (n := 16) (X := fun k => ∀ r', (∀ i, i + 1 < k → r' i = r (i + 1)) → (∀ i, k ≤ i + 1 → r' i = r i) → XX G d none P45 (QV Pv) 9 [.ref 54, .ref (r 0), .int (nI k)] [] (mem r' I J)) (by decide) (fun r' h1 h2 => ?_) (fun k hk1 hkn ih r' h1 h2 => ?_) r (fun i hi => by omega) (fun i _ => rfl)
  · refine x45_9 (ifp (by decide) ?_)
    simp only [mKm, mNm, mIm, mIf, mJm, mJf, mRm, sIm, sJm, rwIm, rwJm, kN, nN, rN, true_and, sRm (show 15 < 100 by decide), hr 0 (by decide)]
    refine ⟨ixl (n := 15) rfl (by decide) (by decide), rfl, h _ (fun i hi => ?_) u1s⟩
    rw [u1n (by omega)]; exact h1 i (by omega)
  · refine x45_9 (ifn (nI_ge (b := 16) hkn (by decide)) ?_)
    rw [sh_ix (show k ≠ 0 by omega)]
    simp only [mKm, mNm, mIm, mIf, mJm, mJf, mRm, sIm, sJm, rwIm, rwJm, kN, nN, rN, true_and, sRm (show k - 1 < 100 by omega), ix hkn (by decide), ix (show k - 1 < 16 by omega) (by decide), h2 k (by omega), hr k hkn]
    refine b45_9_29 ?_
    rw [nI_1]
    refine ih _ (fun i hi => ?_) (fun i hi => ?_)
    · by_cases e : i = k - 1
      · rw [e, u1s, show k - 1 + 1 = k by omega]
      · rw [u1n e]; exact h1 i (by omega)
    · rw [u1n (by omega)]; exact h2 i (by omega)
def Fk (I I' : Nat → Nat → Int32) : Prop := ∀ a, a ≠ 54 → a ≠ 15 → (a < 59 ∨ 187 ≤ a) → I' a = I a
theorem keep_at {n : Nat} {vs : List ST} {I0 : Nat → Nat → Int32} (hk : KS I 38 π σ) (h0 : ∀ a, a ≠ 54 → I a = I0 a) (h54 : I 54 0 = nI n) (hn : n < 16) (hr : ∀ i, i < 16 → r i ∈ kpL) (hi : ∀ i j, i < 16 → j < 16 → r i = r j → i = j) (hv : vs.length = n) (hc : ∀ i, i < n → CS π I (r i) (vs.getD i z0) ∧ WSt π (vs.getD i z0)) (h : ∀ I', Fk I0 I' → PA r I' π (vs ++ [σ]) → Pv (mem r I' J)) : CV G (d + 1) 75 [.ref (r n), .ref 38] (mem r I J) (fun N => mK N 54 = 6 ∧ mK N 54 = 6 ∧ Pv (sI N 54 0 (mI N 54 0 + 1))) := by
  obtain ⟨k1, k2, k3, k4⟩ := kp_ok _ (hr n hn)
  refine d75 k1 (by decide) (by omega) (fun I1 hc1 => ?_)
  have hk1 := hk.cpy k1 hc1
  have e54 : I1 54 0 = nI n := by rw [hc1.1 54 (by simp [sl]; omega)]; exact h54
  simp only [mKm, mNm, mIm, mIf, mJm, mJf, mRm, sIm, sJm, rwIm, rwJm, kN, nN, rN, true_and, e54, nI_1]
  refine h _ (fun a a1 a2 a3 => ?_) ⟨?_, by rw [List.length_append, hv, List.length_singleton]; omega, hr, hi, fun i hil => ?_⟩
  · rw [u2n a1, hc1.1 a (by simp [sl]; omega)]; exact h0 a a1
  · rw [u2s, List.length_append, hv]; rfl
  · rw [List.length_append, hv, List.length_singleton] at hil
    by_cases e : i = n
    · subst e
      subst hv
      rw [ap_new]
      refine ⟨hk1.c.keep (fun a ha hb => by rw [u2n (by omega)]), hk.v⟩
    · have hin : i < n := by omega
      rw [ap_old _ _ (by omega)]
      obtain ⟨q1, q2, q3, q4⟩ := kp_ok _ (hr i (by omega))
      have hd := st_dis _ k1 _ q1 (fun z => e (hi _ _ (by omega) (by omega) z.symm))
      refine ⟨(hc i hin).1.keep (fun a ha hb => ?_), (hc i hin).2⟩
      rw [u2n (by omega), hc1.1 a (by simp [sl]; omega)]
theorem d44 (hk : KS I 38 π σ) (hp : PA r I π us) (h : ∀ r' I', Fk I I' → PA r' I' π (keF us σ) → Pv (mem r' I' J)) : CV G (d + 2) 44 [.ref 54, .ref 38] (mem r I J) Pv := by
  obtain ⟨p1, p2, p3, p4, p5⟩ := hp
  refine e44 ?_
  simp only [mKm, mNm, mIm, mIf, mJm, mJf, mRm, sIm, sJm, rwIm, rwJm, kN, nN, rN, true_and, p1]
  by_cases q : us.length = 16
  · refine ifn (nI_nlt (b := 16) (by omega) (by omega)) (d45 ⟨p1, p2, p3, p4, p5⟩ (fun r' h1 h2 => ?_))
    have hr' : ∀ i, i < 16 → r' i ∈ kpL := fun i hi => by
      by_cases e : i = 15
      · rw [e, h2]; exact p3 0 (by decide)
      · rw [h1 i (by omega)]; exact p3 (i + 1) (by omega)
    have hi' : ∀ i j, i < 16 → j < 16 → r' i = r' j → i = j := fun i j hi hj e => by
      by_cases e1 : i = 15
      · by_cases e2 : j = 15
        · omega
        · rw [e1, h2, h1 j (by omega)] at e
          have := p4 _ _ (by decide) (by omega) e
          omega
      · by_cases e2 : j = 15
        · rw [e2, h2, h1 i (by omega)] at e
          have := p4 _ _ (by omega) (by decide) e
          omega
        · rw [h1 i (by omega), h1 j (by omega)] at e
          have := p4 _ _ (by omega) (by omega) e
          omega
    have hk1 : KS (u2 I 54 0 15) 38 π σ := hk.frg (l := [54]) (Fr.rfl.u2 (by decide)) (by decide) (fun k hk8 => by simp; omega)
    obtain ⟨k1, k2, k3, k4⟩ := kp_ok _ (hr' 15 (by decide))
    simp only [mKm, mNm, mIm, mIf, mJm, mJf, mRm, sIm, sJm, rwIm, rwJm, kN, nN, rN, true_and, show u2 I 54 0 15 54 0 = 15 from u2s, show (15 : Int32).toNatClampNeg = 15 from rfl, k4]
    refine ⟨ixl (n := 15) rfl (by decide) (by decide), keep_at (n := 15) (vs := us.tail) (I0 := I) hk1 (fun a ha => u2n ha) u2s (by decide) hr' hi' (by rw [List.length_tail]; omega) (fun i hin => ?_) (fun I' hf hp' => h r' I' hf (by unfold keF; rw [if_pos q]; exact hp'))⟩
    rw [getD_tail, h1 i hin]
    obtain ⟨k1, k2, k3, k4⟩ := kp_ok _ (p3 (i + 1) (by omega))
    exact ⟨(p5 (i + 1) (by omega)).1.keep (fun a ha hb => u2n (by omega)), (p5 (i + 1) (by omega)).2⟩
  · have hl : us.length < 16 := by omega
    obtain ⟨k1, k2, k3, k4⟩ := kp_ok _ (p3 _ hl)
    refine ifp (nI_lt (b := 16) hl (by decide)) ?_
    simp only [mKm, mNm, mIm, mIf, mJm, mJf, mRm, sIm, sJm, rwIm, rwJm, kN, nN, rN, true_and, ix hl (by decide), k4]
    exact keep_at (n := us.length) (vs := us) (I0 := I) hk (fun a _ => rfl) p1 hl p3 p4 rfl p5 (fun I' hf hp' => h r I' hf (by unfold keF; rw [if_neg q]; exact hp'))
theorem d46 (hp : PA r I π us) (hP : CP I π) (hw : WP π) (h0 : us.length ≠ 0) (h : ∀ I', (∀ a, a ≠ 54 → a ≠ 15 → (a < 38 ∨ 46 ≤ a) → I' a = I a) → KS I' 38 π (us.getD (us.length - 1) z0) → PA r I' π (us.take (us.length - 1)) → P 1 (mem r I' J)) : CI G (d + 2) 46 [.ref 54, .ref 38] (mem r I J) P := by
  obtain ⟨p1, p2, p3, p4, p5⟩ := hp
  obtain ⟨k1, k2, k3, k4⟩ := kp_ok _ (p3 (us.length - 1) (by omega))
  refine e46 ?_
  simp only [mKm, mNm, mIm, mIf, mJm, mJf, mRm, sIm, sJm, rwIm, rwJm, kN, nN, rN, true_and, p1, sh_ix h0, show u2 I 54 0 (nI (us.length - 1)) 54 0 = nI (us.length - 1) from u2s, ix (show us.length - 1 < 16 by omega) (by decide)]
  refine ifp (nI_le (a := 1) (by omega) (by omega)) ?_
  have hk : KS (u2 I 54 0 (nI (us.length - 1))) (r (us.length - 1)) π (us.getD (us.length - 1) z0) :=
    ⟨k1, hP.fr_of (l := [54]) (Fr.rfl.u2 (by decide)) (by decide), hw, (p5 _ (by omega)).1.keep (fun a ha hb => u2n (by omega)), (p5 _ (by omega)).2⟩
  refine d75k hk (s := 38) (by decide) (by omega) (fun I1 hf1 hk1 => ?_)
  have hl : (us.take (us.length - 1)).length = us.length - 1 := by rw [List.length_take]; omega
  refine h I1 (fun a a1 a2 a3 => by rw [hf1 a (by simp [sl]; omega), u2n a1]) hk1 ⟨?_, by rw [hl]; omega, p3, p4, fun i hi => ?_⟩
  · rw [hl, hf1 54 (by decide), u2s]
  · rw [hl] at hi
    have e : (us.take (us.length - 1)).getD i z0 = us.getD i z0 := by
      rw [List.getD_eq_getElem?_getD, List.getD_eq_getElem?_getD, List.getElem?_take_of_lt hi]
    rw [e]
    obtain ⟨q1, q2, q3, q4⟩ := kp_ok _ (p3 i (by omega))
    refine ⟨(p5 i (by omega)).1.keep (fun a ha hb => ?_), (p5 i (by omega)).2⟩
    rw [hf1 a (by simp [sl]; omega), u2n (by omega)]
theorem d46n (hp : PA r I π us) (h0 : us.length = 0) (h : P 0 (mem r I J)) : CI G (d + 2) 46 [.ref 54, .ref 38] (mem r I J) P := by
  refine e46 ?_
  simp only [mKm, mNm, mIm, mIf, mJm, mJf, mRm, sIm, sJm, rwIm, rwJm, kN, nN, rN, true_and, hp.1, h0]
  exact ifn (by decide) h
/-! the other side's keeping -/
def Fu (I I' : Nat → Nat → Int32) : Prop := (∀ a, a ≠ 247 → a ≠ 263 → I' a = I a) ∧ (∀ k, k ≠ 25 → I' 247 k = I 247 k) ∧ ∀ k, (k < 300 ∨ 1260 ≤ k) → I' 263 k = I 263 k
theorem ek60 (i : Nat) : (60 : Int32) * (5 + nI i) = nI (60 * (5 + i)) := by
  show nI 60 * (nI 5 + nI i) = _
  rw [nI_add, pk_mul]
theorem m219 (hk : KR I 0 π σ) (hp : PB I π us) (h : ∀ I', Fu I I' → PB I' π (keF us σ) → Pv (mem r I' J)) : CV G (d + 2) 219 [.ref 247] (mem r I J) Pv := by
  obtain ⟨p1, p2, p3⟩ := hp
  have hw := hk.w
  refine e219 ?_
  simp only [mKm, mNm, mIm, mIf, mJm, mJf, mRm, sIm, sJm, rwIm, rwJm, kN, nN, rN, true_and, p1, ek60]
  by_cases q : us.length = 16
  · rw [q]
    refine ifn (fun z => z rfl) ?_
    refine lpA (a := 1) (n := 16) (X := fun k => ∀ I', Fu I I' → I' 247 25 = nI 16 → (∀ i, i + 1 < k → RS π I' (60 * (5 + i)) (us.getD (i + 1) z0)) → (∀ i, i < 16 → k ≤ i + 1 → RS π I' (60 * (5 + i)) (us.getD i z0)) → XX G (d + 1) none P219 (QV Pv) 11 [.ref 247, .int (nI k)] [] (mem r I' J)) (by decide) (fun I1 hf1 h25 h1 h2 => ?_) (fun k hk1 hkn ih I1 hf1 h25 h1 h2 => ?_) I ⟨fun _ _ _ => rfl, fun _ _ => rfl, fun _ _ => rfl⟩ (by rw [p1, q]) (fun i hi => by omega) (fun i hi _ => p3 i (by omega))
    · refine x219_11 (ifp (by decide) ?_)
      have e15 : nI 16 - 1 = nI 15 := rfl
      simp only [mKm, mNm, mIm, mIf, mJm, mJf, mRm, sIm, sJm, rwIm, rwJm, kN, nN, rN, true_and, h25, e15, show u2 I1 247 25 (nI 15) 247 25 = nI 15 from u2s, ek60]
      have hk2 : KR (u2 I1 247 25 (nI 15)) 0 π σ := hk.keep (fun a ha => by rw [u2n (by intro z; subst z; exact absurd ha (by decide))]; exact hf1.1 a (by intro z; subst z; exact absurd ha (by decide)) (by intro z; subst z; exact absurd ha (by decide))) (fun k _ hk => by rw [u2n (by decide)]; exact hf1.2.2 k (by omega))
      refine m220 (f := 0) (t := 60 * (5 + 15)) (n := 43) (by decide) (by decide) (by decide) (fun I2 hc => ?_)
      have e25 : I2 247 25 = nI 15 := by rw [hc.1 247 (by decide), u2s]
      simp only [mKm, mNm, mIm, mIf, mJm, mJf, mRm, sIm, sJm, rwIm, rwJm, kN, nN, rN, true_and, e25, nI_1]
      refine ⟨rfl, h _ ⟨fun a a1 a2 => ?_, fun k hk => ?_, fun k hk => ?_⟩ ⟨?_, ?_, fun i hi => ?_⟩⟩
      · rw [u2n a1, hc.1 a a2, u2n a1]; exact hf1.1 a a1 a2
      · rw [u2i hk, hc.1 247 (by decide), u2i hk]; exact hf1.2.1 k hk
      · rw [u2n (by decide), hc.2.2 k (by omega), u2n (by decide)]; exact hf1.2.2 k hk
      · rw [u2s, ke_len p2, q]; rfl
      · rw [ke_len p2]; omega
      · rw [ke_len p2] at hi
        unfold keF
        rw [if_pos q]
        by_cases e : i = 15
        · subst e
          have hl : us.tail.length = 15 := by rw [List.length_tail]; omega
          have := ap_new us.tail σ
          rw [hl] at this
          rw [this]
          exact (RS.cpy hw hk2.c hc (by decide)).keep hw (fun k _ _ => by rw [u2n (by decide)])
        · rw [ap_old _ _ (by rw [List.length_tail]; omega), getD_tail]
          exact (h1 i (by omega)).keep hw (fun k _ _ => by rw [u2n (by decide), hc.2.2 k (by omega), u2n (by decide)])
    · refine x219_11 (ifn (nI_ge (b := 16) hkn (by decide)) ?_)
      have e4 : (60 : Int32) * (5 + nI k - 1) = nI (60 * (5 + (k - 1))) := by
        have : (5 : Int32) + nI k = nI (5 + k) := nI_add 5 k
        rw [this, sh_ix (by omega), show (60 : Int32) = nI 60 from rfl, pk_mul, show 5 + k - 1 = 5 + (k - 1) by omega]
      simp only [mKm, mNm, mIm, mIf, mJm, mJf, mRm, sIm, sJm, rwIm, rwJm, kN, nN, rN, true_and, ek60, e4]
      refine m220 (n := 43) (by omega) (by omega) (by omega) (fun I2 hc => ?_)
      rw [nI_1]
      refine ih I2 ⟨fun a a1 a2 => ?_, fun k hk => ?_, fun k hk => ?_⟩ ?_ (fun i hi => ?_) (fun i hi hi2 => ?_)
      · rw [hc.1 a a2]; exact hf1.1 a a1 a2
      · rw [hc.1 247 (by decide)]; exact hf1.2.1 k hk
      · rw [hc.2.2 k (by omega)]; exact hf1.2.2 k hk
      · rw [hc.1 247 (by decide)]; exact h25
      · by_cases e : i = k - 1
        · subst e
          rw [show k - 1 + 1 = k by omega]
          exact (h2 k hkn (by omega)).cpy hw hc (by decide)
        · exact (h1 i (by omega)).keep hw (fun j _ _ => hc.2.2 j (by omega))
      · exact (h2 i hi (by omega)).keep hw (fun j _ _ => hc.2.2 j (by omega))
  · have hl : us.length < 16 := by omega
    refine ifp (fun z => q ((nI_eq (by omega) (by decide)).mp z)) (m220 (f := 0) (n := 43) (by decide) (by omega) (by omega) (fun I2 hc => ?_))
    have e25 : I2 247 25 = nI us.length := by rw [hc.1 247 (by decide)]; exact p1
    simp only [mKm, mNm, mIm, mIf, mJm, mJf, mRm, sIm, sJm, rwIm, rwJm, kN, nN, rN, true_and, e25, nI_1]
    refine h _ ⟨fun a a1 a2 => ?_, fun k hk => ?_, fun k hk => ?_⟩ ⟨?_, ?_, fun i hi => ?_⟩
    · rw [u2n a1, hc.1 a a2]
    · rw [u2i hk, hc.1 247 (by decide)]
    · rw [u2n (by decide), hc.2.2 k (by omega)]
    · rw [u2s, ke_len p2]
      rw [show min 16 (us.length + 1) = us.length + 1 by omega]
    · rw [ke_len p2]; omega
    · rw [ke_len p2] at hi
      unfold keF
      rw [if_neg q]
      by_cases e : i = us.length
      · subst e
        rw [ap_new]
        exact (RS.cpy hw hk.c hc (by decide)).keep hw (fun k _ _ => by rw [u2n (by decide)])
      · rw [ap_old _ _ (by omega)]
        exact (p3 i (by omega)).keep hw (fun k _ _ => by rw [u2n (by decide), hc.2.2 k (by omega)])
end
