/-! words -/
def stG (i k : Nat) : Nat := (tB i k).toNatClampNeg
def txN (i : Nat) : List Nat := (tS.getD i []).map Int32.toNatClampNeg
theorem st_tab : ∀ i, i < 15 → ∀ k, k < tN i → tB i k = nI (stG i k) ∧ stG i k < 128 ∧ (txN i).getD k 0 = stG i k ∧ (txN i).length = tN i := by decide +kernel
theorem st_len : ∀ i, i < 15 → (txN i).length = tN i ∧ tN i < 200 := by decide +kernel
def amL (w : List Nat) : List Nat → List Nat → Nat → Nat
  | [], cur, k => if cur = w then k + 1 else 0
  | c :: cs, cur, k => if c = 32 then (if cur = w then k + 1 else amL w cs [] (k + 1)) else amL w cs (cur ++ [c]) k
def idxF (w : List Nat) : List (List Nat) → Nat → Nat
  | [], _ => 0
  | x :: xs, k => if x = w then k + 1 else idxF w xs (k + 1)
theorem idx_no {w : List Nat} : ∀ (xs : List (List Nat)) k, w ∉ xs → idxF w xs k = 0 := by
  intro xs
  induction xs with
  | nil => intro k _; rfl
  | cons x xs ih =>
    intro k h
    unfold idxF
    rw [if_neg (fun z => h (by rw [z]; exact List.mem_cons_self)), ih (k + 1) (fun z => h (List.mem_cons_of_mem _ z))]
/-- the words, in the other side's order -/
def wC : List (List Nat) := [[116, 114, 101, 101], [108, 97, 115, 116], [97, 103, 101], [112, 101, 114, 115, 111, 110], [102, 101, 101, 116], [112, 105, 110, 99, 104], [110, 111, 111, 110], [102, 114, 111, 115, 116], [98, 101, 97, 114, 115], [116, 114, 121], [115, 104, 97, 114, 101], [103, 114, 97, 102, 116], [112, 114, 117, 110, 101], [121, 101, 97, 114], [98, 114, 111, 103, 117, 101], [98, 111, 111, 116], [115, 108, 105, 112, 112, 101, 114], [115, 97, 110, 100, 97, 108], [112, 108, 97, 105, 110], [99, 104, 105, 108, 100], [104, 111, 112, 112, 101, 114], [111, 108, 100], [110, 111, 116], [97, 110, 100], [111, 114], [115, 105, 122, 101], [121, 101, 97, 114, 115], [99, 104, 105, 108, 108], [100, 97, 116, 101]]
def wi0 (w : List Nat) : Nat := idxF w wC 0
/-- which of a string's words, by the number of the word -/
def wm (i x : Nat) : Nat := if i = 1 then (if x = 1 then 1 else if x = 4 then 2 else if 6 ≤ x ∧ x ≤ 9 then x - 3 else 0) else if i = 2 then (if x ≤ 25 then x else 0) else if i = 3 then (if 15 ≤ x ∧ x ≤ 18 then x - 14 else 0) else if i = 6 then (if 19 ≤ x ∧ x ≤ 22 then x - 18 else 0) else if i = 9 then (if 26 ≤ x ∧ x ≤ 29 then x - 25 else 0) else (if 10 ≤ x ∧ x ≤ 14 then x - 9 else 0)
def wS (i : Nat) : List (List Nat) := if i = 1 then [[116, 114, 101, 101], [112, 101, 114, 115, 111, 110], [112, 105, 110, 99, 104], [110, 111, 111, 110], [102, 114, 111, 115, 116], [98, 101, 97, 114, 115]] else if i = 2 then wC.take 25 else if i = 3 then (wC.drop 14).take 4 else if i = 6 then (wC.drop 18).take 4 else if i = 9 then (wC.drop 25).take 4 else (wC.drop 9).take 5
theorem am_1 (w : List Nat) : amL w (txN 1) [] 0 = idxF w (wS 1) 0 := rfl
set_option maxRecDepth 100000 in
theorem am_2 (w : List Nat) : amL w (txN 2) [] 0 = idxF w (wS 2) 0 := rfl
theorem am_3 (w : List Nat) : amL w (txN 3) [] 0 = idxF w (wS 3) 0 := rfl
theorem am_6 (w : List Nat) : amL w (txN 6) [] 0 = idxF w (wS 6) 0 := rfl
theorem am_9 (w : List Nat) : amL w (txN 9) [] 0 = idxF w (wS 9) 0 := rfl
theorem am_12 (w : List Nat) : amL w (txN 12) [] 0 = idxF w (wS 12) 0 := rfl
theorem wm_in : ∀ i ∈ [1, 2, 3, 6, 9, 12], (∀ w ∈ wC, idxF w (wS i) 0 = wm i (wi0 w)) ∧ (∀ x ∈ wS i, x ∈ wC) ∧ wm i 0 = 0 := by decide +kernel
theorem wm_ok {i : Nat} (hi : i ∈ [1, 2, 3, 6, 9, 12]) (w : List Nat) : amL w (txN i) [] 0 = wm i (wi0 w) := by
  have e : amL w (txN i) [] 0 = idxF w (wS i) 0 := by
    simp only [List.mem_cons, List.mem_nil_iff, or_false] at hi
    rcases hi with rfl | rfl | rfl | rfl | rfl | rfl
    · exact am_1 w
    · exact am_2 w
    · exact am_3 w
    · exact am_6 w
    · exact am_9 w
    · exact am_12 w
  obtain ⟨h1, h2, h3⟩ := wm_in i hi
  rw [e]
  by_cases q : w ∈ wC
  · exact h1 w q
  · have e0 : wi0 w = 0 := idx_no _ _ q
    rw [e0, h3]
    exact idx_no _ _ (fun z => q (h2 w z))
/-- the strings of one word -/
def wm1 (i : Nat) : Nat := if i = 4 then 2 else if i = 5 then 3 else if i = 7 then 5 else if i = 8 then 23 else if i = 10 then 24 else 25
theorem wm1_in : ∀ i ∈ [4, 5, 7, 8, 10, 11], (∀ w ∈ wC, (decide (txN i = w)) = (wi0 w == wm1 i)) ∧ txN i ∈ wC ∧ ((0 : Nat) == wm1 i) = false := by decide +kernel
theorem wm1_ok {i : Nat} (hi : i ∈ [4, 5, 7, 8, 10, 11]) (w : List Nat) : decide (txN i = w) = (wi0 w == wm1 i) := by
  obtain ⟨h1, h2, h3⟩ := wm1_in i hi
  by_cases q : w ∈ wC
  · exact h1 w q
  · have e0 : wi0 w = 0 := idx_no _ _ q
    rw [e0, h3]
    exact decide_eq_false (fun z => q (by rw [← z]; exact h2))
theorem sl_eq {g h : Nat → Nat} {a b : Nat} : ∀ n, (∀ k, k < n → g (a + k) = h (b + k)) → slF g a n = slF h b n := by
  intro n
  induction n with
  | zero => intro _; rfl
  | succ n ih => intro hh; unfold slF; rw [ih (fun k hk => hh k (by omega)), hh n (by omega)]
theorem sl_at (g : Nat → Nat) (a : Nat) : ∀ n k, k < n → (slF g a n).getD k 0 = g (a + k) := by
  intro n
  induction n with
  | zero => intro k hk; omega
  | succ n ih =>
    intro k hk
    unfold slF
    by_cases e : k = n
    · subst e
      have := getD_last (slF g a k) (g (a + k))
      rw [sl_len] at this; exact this
    · rw [getD_app (by rw [sl_len]; omega)]; exact ih k (by omega)
theorem sl_ne {g h : Nat → Nat} {a b n k : Nat} (hk : k < n) (hne : g (a + k) ≠ h (b + k)) : slF g a n ≠ slF h b n := fun z => hne (by rw [← sl_at g a n k hk, z, sl_at h b n k hk])
theorem sl_all {l : List Nat} {g : Nat → Nat} (h : ∀ k, k < l.length → l.getD k 0 = g k) : slF g 0 l.length = l := by
  have : ∀ n, n ≤ l.length → slF g 0 n = l.take n := by
    intro n
    induction n with
    | zero => intro _; rfl
    | succ n ih =>
      intro hn
      unfold slF
      rw [ih (by omega), take_s (by omega), h n (by omega), Nat.zero_add]
  rw [this _ (Nat.le_refl _), List.take_length]
/-- the word of a token, by its signs -/
def cwF (tp : List Nat) (i : Nat) : List Nat := slF (chF tp) (plF tp i) (enF tp i - plF tp i)
/-- the number of the token's word, 0: it is none of the words -/
def wiF (tp : List Nat) (i : Nat) : Nat := if soF tp i = 1 then wi0 (cwF tp i) else 0
def nmB (tp : List Nat) (i : Nat) : Bool := soF tp i == 1 && (wiF tp i == 0 || decide (26 ≤ wiF tp i))
def sgB (tp : List Nat) (c i : Nat) : Bool := soF tp i == 3 && sgF tp i == c
def flt (tp : List Nat) (k j : Nat) : Nat := k + 16 * plF tp j
theorem wi_b : ∀ w, wi0 w ≤ 29 := by
  intro w
  by_cases q : w ∈ wC
  · have : ∀ w ∈ wC, wi0 w ≤ 29 := by decide +kernel
    exact this w q
  · rw [show wi0 w = 0 from idx_no _ _ q]; exact Nat.zero_le _
/-- the class reads: token i -/
def CRD (I : Nat → Nat → Int32) (J : Nat → Nat → Int64) (tp : List Nat) (i : Nat) : Prop := TA I tp ∧ WT tp ∧ CT I J tp (poF tp i) ∧ I 2 4 = 0
section
variable {G : GG} {d : Nat} {P : Int32 → mm_M → Prop} {Pv : mm_M → Prop} {Q : Option Value → mm_M → Prop} {r : Nat → Nat} {I : Nat → Nat → Int32} {J : Nat → Nat → Int64} {π : PLN} {σ : Nat → Nat → Nat} {tp : List Nat} {y i : Nat}
theorem CRD.fr {I' : Nat → Nat → Int32} {J' : Nat → Nat → Int64} (h : CRD I J tp i) (h2 : I' 2 = I 2) (h3 : I' 3 = I 3) (hj : J' 2 = J 2) : CRD I' J' tp i := by
  unfold CRD TA CT; rw [h2, h3, hj]; exact h
theorem CRD.s (h : CRD I J tp i) : I 2 1 = nI (soF tp i) := h.2.2.1.1
theorem CRD.p (h : CRD I J tp i) : I 2 7 = nI (plF tp i) := h.2.2.1.2.1
theorem CRD.e (h : CRD I J tp i) : I 2 8 = nI (enF tp i) := h.2.2.1.2.2.1
theorem CRD.w (h : CRD I J tp i) (hs : soF tp i = 1) : J 2 3 = lN (eB 32 (rkF tp i)) := h.2.2.1.2.2.2.1 hs
theorem CRD.n (h : CRD I J tp i) (hs : soF tp i = 2) : I 2 2 = nI (nuF tp i) := h.2.2.1.2.2.2.2.1 hs
theorem CRD.g (h : CRD I J tp i) (hs : soF tp i = 3) : I 2 6 = nI (sgF tp i) := h.2.2.1.2.2.2.2.2 hs
theorem CRD.l (h : CRD I J tp i) : tp.length ≤ 1000 := h.2.1.1
theorem n90 (hc : CRD I J tp i) (h : ∀ I' J', Fcl I I' J J' → CRD I' J' tp (i + 1) → Pv (mem r I' J')) : CV G (d + 5) 90 [.ref 2] (mem r I J) Pv :=
  d90 hc.1 hc.2.1 (tok_b tp i).2.2.1 hc.e (fun I' J' hf hct => h I' J' hf ⟨hc.1.fcl hf, hc.2.1, hct, by rw [hf.2.2.1]; exact hc.2.2.2⟩)
theorem n97 {s a b : Nat} (hc : CRD I J tp i) (hs : s < 15) (hab : a ≤ b) (hb : b ≤ tN s) (h : P (bI (decide (slF (stG s) a (b - a) = cwF tp i))) (mem r I J)) : CI G (d + 5) 97 [.ref 2, .retAddr s, .int (nI a), .int (nI b)] (mem r I J) P := by
  obtain ⟨t0, t1, t2, t3, t4⟩ := tok_b tp i
  have hl := hc.l
  have hN := (st_len s hs).2
  refine e97 ?_
  simp only [mKm, mNm, mIm, mIf, mJm, mJf, mRm, sIm, sJm, rwIm, rwJm, kN, nN, rN, true_and, hc.p, hc.e]
  rw [pk_sub hab, pk_sub t1, nI_eq (by omega) (by omega)]
  refine ifb (fun q => ?_) (fun q => ?_)
  · unfold cwF at h
    rw [← q] at h
    refine lp (n := b - a) (X := fun k => (∀ j, j < k → stG s (a + j) = chF tp (plF tp i + j)) → XX G (d + 4) (some .boolean) P97 (QI P) 20 [.ref 2, .retAddr s, .int (nI a), .int (nI b), .int (nI k)] [] (mem r I J)) (fun hall => ?_) (fun k hk ih hall => ?_) (fun j hj => by omega)
    · refine x97_20 ?_
      rw [pk_sub hab]
      refine ifp (nI_le (Nat.le_refl _) (by omega)) ⟨_, rfl, ?_⟩
      rw [decide_eq_true (sl_eq _ hall)] at h
      exact h
    · obtain ⟨g1, g2, -, -⟩ := st_tab s hs (a + k) (by omega)
      have hpk : plF tp i + k < tp.length := by omega
      have hch := hc.2.1.ch hpk
      refine x97_20 ?_
      rw [pk_sub hab]
      refine ifn (nI_ge hk (by omega)) ⟨hs, ?_⟩
      rw [nI_add]
      refine c278 hs (by omega) ?_
      rw [g1]
      simp only [mKm, mNm, mIm, mIf, mJm, mJf, mRm, sIm, sJm, rwIm, rwJm, kN, nN, rN, true_and, hc.p, nI_add, ix (show plF tp i + k < 1000 by omega) (by decide), show I 3 (plF tp i + k) = nI (chF tp (plF tp i + k)) from hc.1.2 _ hpk]
      rw [nI_eq (by omega) (by omega), nI_1]
      refine ifb (fun q2 => ih (fun j hj => ?_)) (fun q2 => ⟨_, rfl, ?_⟩)
      · by_cases e : j = k
        · subst e; exact q2
        · exact hall j (by omega)
      · rw [decide_eq_false (sl_ne hk q2)] at h
        exact h
  · have : slF (stG s) a (b - a) ≠ cwF tp i := fun z => q (by
      have := congrArg List.length z
      unfold cwF at this
      rw [sl_len, sl_len] at this; exact this)
    rw [decide_eq_false this] at h
    exact h
theorem n96 {s : Nat} (hc : CRD I J tp i) (hs : s ∈ [1, 2, 3, 6, 9, 12]) (h : P (nI (wm s (wiF tp i)) - 1) (mem r I J)) : CI G (d + 6) 96 [.ref 2, .retAddr s] (mem r I J) P := by
  have hs15 : s < 15 := by simp at hs; omega
  have hN := (st_len s hs15).2
  have hlen := (st_len s hs15).1
  have h4 := (tok_b tp i).2.2.2.2
  have hm0 := (wm_in s hs).2.2
  unfold wiF at h
  refine e96 ?_
  simp only [mKm, mNm, mIm, mIf, mJm, mJf, mRm, sIm, sJm, rwIm, rwJm, kN, nN, rN, true_and, hc.s]
  by_cases q1 : soF tp i = 1
  · rw [if_pos q1, ← wm_ok hs] at h
    rw [q1]
    refine ifp rfl (b96_10_14 ?_)
    have loop : ∀ n k idx fr, k + n = tN s → fr ≤ k → idx ≤ k → P (nI (amL (cwF tp i) ((txN s).drop k) (slF (stG s) fr (k - fr)) idx) - 1) (mem r I J) → XX G (d + 5) (some .int) P96 (QI P) 17 [.ref 2, .retAddr s, .int (nI idx), .int (nI fr), .int (nI k)] [] (mem r I J) := by
      intro n
      induction n with
      | zero =>
        intro k idx fr hk hfr hidx hh
        have hkN : k = tN s := by omega
        rw [List.drop_of_length_le (by omega)] at hh
        unfold amL at hh
        refine x96_17 ⟨hs15, c276 hs15 (ifn (nI_nlt (by omega) (by omega)) ⟨hs15, c276 hs15 (ifp (by rw [hkN]) ⟨rfl, n97 hc hs15 hfr (by omega) ?_⟩)⟩)⟩
        by_cases q : slF (stG s) fr (k - fr) = cwF tp i
        · rw [if_pos q, nI_pred] at hh
          rw [decide_eq_true q]
          exact ifn (by decide) ⟨_, rfl, hh⟩
        · rw [if_neg q] at hh
          rw [decide_eq_false q]
          refine ifp rfl (b96_59_67 (x96_17 ⟨hs15, c276 hs15 (ifp ?_ ⟨_, rfl, hh⟩)⟩))
          rw [nI_1]; exact nI_lt (by omega) (by omega)
      | succ n ih =>
        intro k idx fr hk hfr hidx hh
        obtain ⟨g1, g2, g3, -⟩ := st_tab s hs15 k (by omega)
        have hd : (txN s).drop k = stG s k :: (txN s).drop (k + 1) := by
          rw [List.drop_eq_getElem_cons (by omega)]
          congr 1
          rw [List.getD_eq_getElem?_getD, List.getElem?_eq_getElem (by omega)] at g3
          exact g3
        rw [hd] at hh
        unfold amL at hh
        refine x96_17 ⟨hs15, c276 hs15 (ifn (nI_nlt (by omega) (by omega)) ⟨hs15, c276 hs15 (ifn (fun z => by have := (nI_eq (by omega) (by omega)).mp z; omega) ⟨hs15, c278 hs15 (by omega) ?_⟩)⟩)⟩
        rw [g1, show (32 : Int32) = nI 32 from rfl, nI_eq (by omega) (by decide)]
        refine ifb (fun q => ?_) (fun q => ?_)
        · rw [if_neg q] at hh
          rw [nI_1]
          refine ih (k + 1) idx fr (by omega) (by omega) (by omega) ?_
          rw [show k + 1 - fr = (k - fr) + 1 by omega]
          show P (nI (amL _ _ (slF (stG s) fr (k - fr) ++ [stG s (fr + (k - fr))]) idx) - 1) _
          rw [show fr + (k - fr) = k by omega]
          exact hh
        · rw [if_pos (Decidable.not_not.mp q)] at hh
          refine ⟨rfl, n97 hc hs15 hfr (by omega) ?_⟩
          by_cases q2 : slF (stG s) fr (k - fr) = cwF tp i
          · rw [if_pos q2, nI_pred] at hh
            rw [decide_eq_true q2]
            exact ifn (by decide) ⟨_, rfl, hh⟩
          · rw [if_neg q2] at hh
            rw [decide_eq_false q2]
            refine ifp rfl (b96_59_67 ?_)
            rw [nI_1, nI_1]
            refine ih (k + 1) (idx + 1) (k + 1) (by omega) (Nat.le_refl _) (by omega) ?_
            rw [Nat.sub_self]
            exact hh
    exact loop (tN s) 0 0 0 (by omega) (Nat.le_refl _) (Nat.le_refl _) h
  · rw [if_neg q1, hm0] at h
    exact ifn (fun z => q1 ((nI_eq (b := 1) (by omega) (by decide)).mp z)) h
theorem n102 {s : Nat} (hc : CRD I J tp i) (hs : s ∈ [4, 5, 7, 8, 10, 11]) (h : P (bI (wiF tp i == wm1 s)) (mem r I J)) : CI G (d + 6) 102 [.ref 2, .retAddr s] (mem r I J) P := by
  have hs15 : s < 15 := by simp at hs; omega
  have h4 := (tok_b tp i).2.2.2.2
  have hN := st_len s hs15
  unfold wiF at h
  refine e102 ?_
  simp only [mKm, mNm, mIm, mIf, mJm, mJf, mRm, sIm, sJm, rwIm, rwJm, kN, nN, rN, true_and, hc.s]
  by_cases q1 : soF tp i = 1
  · rw [if_pos q1, ← wm1_ok hs] at h
    rw [q1]
    refine ifn (fun z => z rfl) ⟨hs15, c276 hs15 ⟨rfl, n97 (a := 0) hc hs15 (Nat.zero_le _) (Nat.le_refl _) ?_⟩⟩
    have e : slF (stG s) 0 (tN s - 0) = txN s := by
      rw [Nat.sub_zero, ← hN.1]
      exact sl_all (fun k hk => (st_tab s hs15 k (by omega)).2.2.1)
    rw [e]
    cases e2 : decide (txN s = cwF tp i) with
    | false => rw [e2] at h; exact ifp rfl h
    | true => rw [e2] at h; exact ifn (by decide) h
  · rw [if_neg q1, (wm1_in s hs).2.2] at h
    exact ifp (fun z => q1 ((nI_eq (b := 1) (by omega) (by decide)).mp z)) h
theorem n99 (hc : CRD I J tp i) (h : P (bI (nmB tp i)) (mem r I J)) : CI G (d + 7) 99 [.ref 2] (mem r I J) P := by
  have h4 := (tok_b tp i).2.2.2.2
  unfold nmB at h
  refine e99 ?_
  simp only [mKm, mNm, mIm, mIf, mJm, mJf, mRm, sIm, sJm, rwIm, rwJm, kN, nN, rN, true_and, hc.s]
  by_cases q1 : soF tp i = 1
  · rw [q1, beq_self_eq_true, Bool.true_and] at h
    rw [q1]
    refine ifn (fun z => z rfl) (n96 hc (by decide) ?_)
    have hb : wiF tp i ≤ 29 := by unfold wiF; split
                                  · exact wi_b _
                                  · omega
    have e : wm 2 (wiF tp i) = if wiF tp i ≤ 25 then wiF tp i else 0 := rfl
    have hle : wm 2 (wiF tp i) ≤ 29 := by rw [e]; split <;> omega
    rw [sh_m1 (by omega), e]
    by_cases q2 : wiF tp i = 0
    · rw [q2] at h ⊢
      exact ifn (fun z => z rfl) h
    · by_cases q3 : wiF tp i ≤ 25
      · rw [if_pos q3]
        rw [beq_false_of_ne q2, decide_eq_false (by omega)] at h
        exact ifp q2 h
      · rw [if_neg q3]
        rw [decide_eq_true (by omega), Bool.or_true] at h
        exact ifn (fun z => z rfl) h
  · rw [beq_false_of_ne q1, Bool.false_and] at h
    exact ifp (fun z => q1 ((nI_eq (b := 1) (by omega) (by decide)).mp z)) h
theorem n104 {c : Nat} (hc : CRD I J tp i) (hcc : c < 2 ^ 31) (h : P (bI (sgB tp c i)) (mem r I J)) : CI G (d + 1) 104 [.ref 2, .int (nI c)] (mem r I J) P := by
  obtain ⟨t0, t1, t2, t3, t4⟩ := tok_b tp i
  unfold sgB at h
  refine e104 ?_
  simp only [mKm, mNm, mIm, mIf, mJm, mJf, mRm, sIm, sJm, rwIm, rwJm, kN, nN, rN, true_and, hc.s]
  by_cases q1 : soF tp i = 3
  · have hpl : plF tp i < tp.length := by have := t3 (by omega); omega
    have hch := hc.2.1.ch hpl
    have hch : sgF tp i < 127 := hch
    rw [q1, beq_self_eq_true, Bool.true_and] at h
    rw [hc.g q1, q1, nI_eq (by omega) hcc]
    refine ifn (fun z => z rfl) (ifb (fun q => ?_) (fun q => ?_))
    · rw [beq_false_of_ne q] at h; exact h
    · rw [Decidable.not_not.mp q, beq_self_eq_true] at h; exact h
  · rw [beq_false_of_ne q1, Bool.false_and] at h
    exact ifp (fun z => q1 ((nI_eq (b := 3) (by omega) (by decide)).mp z)) h
theorem n98 {k : Nat} (hc : CRD I J tp i) (h : P 0 (mem r (u2 I 2 4 (nI (flt tp k i))) J)) : CI G (d + 1) 98 [.ref 2, .int (nI k)] (mem r I J) P := by
  refine e98 ?_
  simp only [mKm, mNm, mIm, mIf, mJm, mJf, mRm, sIm, sJm, rwIm, rwJm, kN, nN, rN, true_and, hc.2.2.2, hc.p]
  refine ifn (fun z => z (by first | exact rfl | exact trivial)) ?_
  rw [show (16 : Int32) = nI 16 from rfl, pk_mul, nI_add]
  exact h
end
