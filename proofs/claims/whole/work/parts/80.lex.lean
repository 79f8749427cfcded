/-! tokens -/
def isL (c : Nat) : Bool := decide (97 ≤ c) && decide (c ≤ 122)
def isD (c : Nat) : Bool := decide (48 ≤ c) && decide (c ≤ 57)
def isB (c : Nat) : Bool := c == 10 || c == 32
def isG (c : Nat) : Bool := c == 40 || (c == 41 || (c == 59 || (c == 61 || (c == 60 || (c == 43 || (c == 45 || c == 42))))))
def chF (tp : List Nat) (k : Nat) : Nat := tp.getD k 0
def rnF (q : Nat → Bool) (tp : List Nat) : Nat → Nat → Nat
  | 0, k => k
  | n + 1, k => if q (chF tp k) then rnF q tp n (k + 1) else k
def reF (q : Nat → Bool) (tp : List Nat) (k : Nat) : Nat := rnF q tp (tp.length - k) k
theorem re_end {q : Nat → Bool} {tp : List Nat} {k : Nat} (h : tp.length ≤ k) : reF q tp k = k := by
  unfold reF
  rw [show tp.length - k = 0 by omega]; rfl
theorem re_no {q : Nat → Bool} {tp : List Nat} {k : Nat} (h : q (chF tp k) = false) : reF q tp k = k := by
  unfold reF
  cases tp.length - k with
  | zero => rfl
  | succ n => show (if q (chF tp k) then _ else _) = _; rw [h]; rfl
theorem re_yes {q : Nat → Bool} {tp : List Nat} {k : Nat} (hk : k < tp.length) (h : q (chF tp k) = true) : reF q tp k = reF q tp (k + 1) := by
  unfold reF
  rw [show tp.length - k = (tp.length - (k + 1)) + 1 by omega]
  show (if q (chF tp k) then _ else _) = _
  rw [if_pos h]
theorem rn_b (q : Nat → Bool) (tp : List Nat) : ∀ n k, k ≤ rnF q tp n k ∧ rnF q tp n k ≤ k + n := by
  intro n
  induction n with
  | zero => intro k; exact ⟨Nat.le_refl _, Nat.le_refl _⟩
  | succ n ih =>
    intro k
    unfold rnF
    split
    · have := ih (k + 1); omega
    · omega
theorem re_b {q : Nat → Bool} {tp : List Nat} {k : Nat} (hk : k ≤ tp.length) : k ≤ reF q tp k ∧ reF q tp k ≤ tp.length := by
  have := rn_b q tp (tp.length - k) k
  unfold reF; omega
theorem rn_in (q : Nat → Bool) (tp : List Nat) : ∀ n k i, k ≤ i → i < rnF q tp n k → q (chF tp i) = true := by
  intro n
  induction n with
  | zero => intro k i h1 h2; have h2 : i < k := h2; omega
  | succ n ih =>
    intro k i h1 h2
    unfold rnF at h2
    by_cases e : q (chF tp k) = true
    · rw [if_pos e] at h2
      by_cases e2 : i = k
      · subst e2; exact e
      · exact ih (k + 1) i (by omega) h2
    · rw [if_neg e] at h2; omega
theorem re_in {q : Nat → Bool} {tp : List Nat} {k i : Nat} (h1 : k ≤ i) (h2 : i < reF q tp k) : q (chF tp i) = true := rn_in q tp _ k i h1 h2
theorem rn_out (q : Nat → Bool) (tp : List Nat) : ∀ n k, rnF q tp n k = k + n ∨ q (chF tp (rnF q tp n k)) = false := by
  intro n
  induction n with
  | zero => intro k; exact Or.inl rfl
  | succ n ih =>
    intro k
    unfold rnF
    by_cases e : q (chF tp k) = true
    · rw [if_pos e]
      rcases ih (k + 1) with h | h
      · left; omega
      · exact Or.inr h
    · rw [if_neg e]; right; simpa using e
theorem re_out {q : Nat → Bool} {tp : List Nat} {k : Nat} (hk : k ≤ tp.length) (h : reF q tp k < tp.length) : q (chF tp (reF q tp k)) = false := by
  rcases rn_out q tp (tp.length - k) k with e | e
  · unfold reF at h; omega
  · exact e
/-- a token: its sort, where it begins, where it ends -/
def tkF (tp : List Nat) (k : Nat) : Nat × Nat × Nat :=
  if tp.length ≤ reF isB tp k then (0, reF isB tp k, reF isB tp k)
  else if isL (chF tp (reF isB tp k)) then (if reF isL tp (reF isB tp k) - reF isB tp k ≤ 8 then 1 else 4, reF isB tp k, reF isL tp (reF isB tp k))
  else if isD (chF tp (reF isB tp k)) then (if reF isD tp (reF isB tp k) - reF isB tp k ≤ 4 then 2 else 4, reF isB tp k, reF isD tp (reF isB tp k))
  else (if isG (chF tp (reF isB tp k)) then 3 else 4, reF isB tp k, reF isB tp k + 1)
theorem tk_blank {tp : List Nat} {k : Nat} (hk : k < tp.length) (h : isB (chF tp k) = true) : tkF tp k = tkF tp (k + 1) := by
  unfold tkF; rw [re_yes hk h]
theorem tk_pl (tp : List Nat) (k : Nat) : (tkF tp k).2.1 = reF isB tp k := by
  unfold tkF
  repeat' split
  all_goals rfl
theorem tk_b {tp : List Nat} {k : Nat} (hk : k ≤ tp.length) : k ≤ (tkF tp k).2.1 ∧ (tkF tp k).2.1 ≤ (tkF tp k).2.2 ∧ (tkF tp k).2.2 ≤ tp.length ∧ ((tkF tp k).1 ≠ 0 → (tkF tp k).2.1 < (tkF tp k).2.2) ∧ (tkF tp k).1 ≤ 4 := by
  have hb := re_b (q := isB) hk
  have hl := re_b (q := isL) hb.2
  have hd := re_b (q := isD) hb.2
  unfold tkF
  split
  · exact ⟨hb.1, Nat.le_refl _, hb.2, fun z => absurd rfl z, Nat.zero_le _⟩
  · rename_i h1
    split
    · rename_i h2
      have := re_b (q := isL) (tp := tp) (k := reF isB tp k + 1) (by omega)
      have e := re_yes (q := isL) (by omega) h2
      refine ⟨hb.1, hl.1, hl.2, fun _ => by show reF isB tp k < reF isL tp (reF isB tp k); omega, ?_⟩
      show (if _ then 1 else 4) ≤ 4
      split <;> decide
    · split
      · rename_i h2 h3
        have := re_b (q := isD) (tp := tp) (k := reF isB tp k + 1) (by omega)
        have e := re_yes (q := isD) (by omega) h3
        refine ⟨hb.1, hd.1, hd.2, fun _ => by show reF isB tp k < reF isD tp (reF isB tp k); omega, ?_⟩
        show (if _ then 2 else 4) ≤ 4
        split <;> decide
      · refine ⟨hb.1, Nat.le_succ _, by show reF isB tp k + 1 ≤ _; omega, fun _ => Nat.lt_succ_self _, ?_⟩
        show (if _ then 3 else 4) ≤ 4
        split <;> decide
def slF (g : Nat → Nat) (p : Nat) : Nat → List Nat
  | 0 => []
  | n + 1 => slF g p n ++ [g (p + n)]
theorem sl_len (g : Nat → Nat) (p : Nat) : ∀ n, (slF g p n).length = n := by
  intro n
  induction n with
  | zero => rfl
  | succ n ih => show (_ ++ [_]).length = _; rw [List.length_append, ih]; rfl
theorem eB_app (m : Nat) (w : List Nat) (c : Nat) : eB m (w ++ [c]) = m * eB m w + c := by unfold eB; rw [List.foldl_append]; rfl
def rkW (tp : List Nat) (p n : Nat) : List Nat := slF (fun k => chF tp k - 96) p n
def dgW (tp : List Nat) (p n : Nat) : List Nat := slF (fun k => chF tp k - 48) p n
/-- the class has read the token at k -/
def CT (I : Nat → Nat → Int32) (J : Nat → Nat → Int64) (tp : List Nat) (k : Nat) : Prop := I 2 1 = nI (tkF tp k).1 ∧ I 2 7 = nI (tkF tp k).2.1 ∧ I 2 8 = nI (tkF tp k).2.2 ∧ ((tkF tp k).1 = 1 → J 2 3 = lN (eB 32 (rkW tp (tkF tp k).2.1 ((tkF tp k).2.2 - (tkF tp k).2.1)))) ∧ ((tkF tp k).1 = 2 → I 2 2 = nI (eB 10 (dgW tp (tkF tp k).2.1 ((tkF tp k).2.2 - (tkF tp k).2.1)))) ∧ ((tkF tp k).1 = 3 → I 2 6 = nI (chF tp (tkF tp k).2.1))
def Fcl (I I' : Nat → Nat → Int32) (J J' : Nat → Nat → Int64) : Prop := (∀ a, a ≠ 2 → I' a = I a) ∧ I' 2 0 = I 2 0 ∧ I' 2 4 = I 2 4 ∧ ∀ a, a ≠ 2 → J' a = J a
def sgL : List Nat := [40, 41, 60, 61, 43, 45, 42, 59]
theorem sg_tab : ∀ k, k < 8 → tB 0 k = nI (sgL.getD k 0) ∧ sgL.getD k 0 < 128 := by decide +kernel
theorem sg_ok : ∀ c, c < 128 → ((∀ i, i < 8 → sgL.getD i 0 ≠ c) ↔ isG c = false) := by decide +kernel
theorem i8_ok : ∀ c, c < 128 → (nI c).toInt8.toInt32 = nI c := by decide +kernel
section
variable {G : GG} {d : Nat} {P : Int32 → mm_M → Prop} {M : mm_M}
theorem c273 {c : Nat} (hc : c < 128) (h : ∀ v : Int32, (v < 0 ↔ isG c = false) → P v M) : CI G (d + 4) 273 [.retAddr 0, .int (nI c)] M P := by
  refine e273 ⟨by decide, e274 ⟨by decide, e275 ⟨by decide, ifn (by decide) ⟨by decide, by decide, c276 (by decide) ?_⟩⟩⟩⟩
  have e8 : tN 0 = 8 := rfl
  rw [e8]
  refine e280 (e281 (ifn (nI_pos (by omega)) (ifn (show ¬ nI 255 < nI c from nI_nlt (by omega) (by decide)) (ifp (by decide) (c286 ⟨⟨by decide, by decide⟩, c287 ?_⟩)))))
  rw [show xln G.1 (100 + 0) = 8 from xln_s (by decide)]
  refine b280_9_22 (ifp (by decide) (e282 (b282_0_4 ?_)))
  rw [i8_ok c hc]
  refine lp (n := 8) (X := fun k => (∀ i, i < k → sgL.getD i 0 ≠ c) → XX G d (some .int) P282 (QI (fun v1 N2 => QI (fun v7 N8 => P v7 N8) (some (.int v1)) N2)) 7 [.retAddr (100 + 0), .int (nI c), .int (if (0 : Int32) < 0 then 0 else 0), .int (if Int32.ofNat 8 < nI 8 then Int32.ofNat 8 else nI 8), .int (nI c), .int (nI k)] [] M) (fun hn => ?_) (fun k hk ih hn => ?_) (fun i hi => by omega)
  · exact x282_7 (ifp (by decide) ⟨_, rfl, _, rfl, h _ ⟨fun _ => (sg_ok c hc).mp hn, fun _ => by decide⟩⟩)
  · obtain ⟨t1, t2⟩ := sg_tab k hk
    refine x282_7 (ifn (show ¬ nI 8 ≤ nI k from nI_ge hk (by decide)) ⟨⟨⟨by decide, by decide⟩, (ix (show k < 8 from hk) (by decide)).1⟩, ?_⟩)
    rw [show 100 + 0 - 100 = 0 from rfl, nI_clamp (by omega), t1, nI_eq (by omega) (by omega)]
    refine ifb (fun q => ?_) (fun q => ⟨_, rfl, _, rfl, h _ ⟨fun z => absurd z (nI_pos (by omega)), fun z => ?_⟩⟩)
    · rw [nI_1]
      refine ih (fun i hi => ?_)
      by_cases e : i = k
      · subst e; exact q
      · exact hn i (by omega)
    · exact absurd (Decidable.not_not.mp q) ((sg_ok c hc).mpr z k hk)
theorem c91 {c : Nat} (hc : c < 2 ^ 31) (h : P (bI (isB c)) M) : CI G (d + 1) 91 [.int (nI c)] M P := by
  refine e91 (ifb (fun q => ?_) (fun q => ifb (fun q2 => ?_) (fun q2 => ?_)))
  · have : c = 10 := (nI_eq (b := 10) hc (by decide)).mp q
    rw [this] at h; exact h
  · have h1 : c ≠ 10 := fun z => q (by rw [z]; rfl)
    have h2 : c ≠ 32 := fun z => q2 (by rw [z]; rfl)
    unfold isB at h
    rw [beq_false_of_ne h1, beq_false_of_ne h2] at h; exact h
  · have : c = 32 := (nI_eq (b := 32) hc (by decide)).mp (Decidable.not_not.mp q2)
    rw [this] at h; exact h
theorem rngP {c lo hi : Nat} (hc : c < 2 ^ 31) (hl : lo < 2 ^ 31) (hh : hi < 2 ^ 31) {A B : Prop} (h : if decide (lo ≤ c) && decide (c ≤ hi) then B else A) : ifP (nI c < nI lo) A (ifP (nI hi < nI c) A B) := by
  rw [nI_ltI hc hl, nI_ltI hh hc]
  refine ifb (fun q => ?_) (fun q => ifb (fun q2 => ?_) (fun q2 => ?_))
  · rw [decide_eq_false (by omega)] at h; exact h
  · rw [decide_eq_false (show ¬ c ≤ hi by omega), Bool.and_false] at h; exact h
  · rw [decide_eq_true (show lo ≤ c by omega), decide_eq_true (show c ≤ hi by omega)] at h; exact h
theorem bIf {b : Bool} (h : P (bI b) M) : if b then P 1 M else P 0 M := by cases b <;> exact h
theorem c92 {c : Nat} (hc : c < 2 ^ 31) (h : P (bI (isL c)) M) : CI G (d + 1) 92 [.int (nI c)] M P := e92 (rngP (lo := 97) (hi := 122) hc (by decide) (by decide) (bIf h))
theorem c94 {c : Nat} (hc : c < 2 ^ 31) (h : P (bI (isD c)) M) : CI G (d + 1) 94 [.int (nI c)] M P := e94 (rngP (lo := 48) (hi := 57) hc (by decide) (by decide) (bIf h))
theorem c172 {c : Nat} (hc : c < 2 ^ 31) (h : P (bI (isL c)) M) : CI G (d + 1) 172 [.int (nI c)] M P := e172 (rngP (lo := 97) (hi := 122) hc (by decide) (by decide) (bIf h))
theorem c174 {c : Nat} (hc : c < 2 ^ 31) (h : P (bI (isD c)) M) : CI G (d + 1) 174 [.int (nI c)] M P := e174 (rngP (lo := 48) (hi := 57) hc (by decide) (by decide) (bIf h))
end
section
variable {G : GG} {d : Nat} {P : Int32 → mm_M → Prop} {Pv : mm_M → Prop} {Q : Option Value → mm_M → Prop} {r : Nat → Nat} {I : Nat → Nat → Int32} {J : Nat → Nat → Int64} {π : PLN} {σ : Nat → Nat → Nat} {tp : List Nat} {y : Nat}
theorem Fcl.rfl' : Fcl I I J J := ⟨fun _ _ => rfl, rfl, rfl, fun _ _ => rfl⟩
theorem Fcl.trans {I' I2 : Nat → Nat → Int32} {J' J2 : Nat → Nat → Int64} (h : Fcl I I' J J') (h' : Fcl I' I2 J' J2) : Fcl I I2 J J2 := ⟨fun a ha => (h'.1 a ha).trans (h.1 a ha), h'.2.1.trans h.2.1, h'.2.2.1.trans h.2.2.1, fun a ha => (h'.2.2.2 a ha).trans (h.2.2.2 a ha)⟩
theorem Fcl.u {I' : Nat → Nat → Int32} {J' : Nat → Nat → Int64} {k : Nat} {v : Int32} (h : Fcl I I' J J') (h0 : k ≠ 0) (h4 : k ≠ 4) : Fcl I (u2 I' 2 k v) J J' := ⟨fun a ha => by rw [u2n ha]; exact h.1 a ha, by rw [u2i (Ne.symm h0)]; exact h.2.1, by rw [u2i (Ne.symm h4)]; exact h.2.2.1, h.2.2.2⟩
theorem Fcl.j {I' : Nat → Nat → Int32} {J' : Nat → Nat → Int64} {k : Nat} {v : Int64} (h : Fcl I I' J J') : Fcl I I' J (u2 J' 2 k v) := ⟨h.1, h.2.1, h.2.2.1, fun a ha => by rw [u2n ha]; exact h.2.2.2 a ha⟩
theorem TA.fcl {I' : Nat → Nat → Int32} {J' : Nat → Nat → Int64} (h : TA I tp) (hf : Fcl I I' J J') : TA I' tp := ⟨by rw [hf.2.1]; exact h.1, by rw [hf.1 3 (by decide)]; exact h.2⟩
theorem WT.ch (h : WT tp) {k : Nat} (hk : k < tp.length) : chF tp k < 127 := by
  have := h.2 k hk
  unfold chF; omega
theorem letE {c : Nat} (h : isL c = true) : (nI c - 97 + 1).toInt64 = lN (c - 96) := by
  unfold isL at h
  simp only [Bool.and_eq_true, decide_eq_true_eq] at h
  rw [show (97 : Int32) = nI 97 from rfl, pk_sub (by omega), nI_1, nI_l (by omega), show c - 97 + 1 = c - 96 by omega]
theorem digE {c : Nat} (h : isD c = true) : nI c - 48 = nI (c - 48) := by
  unfold isD at h
  simp only [Bool.and_eq_true, decide_eq_true_eq] at h
  exact pk_sub (b := 48) (by omega)
/-- a word is read -/
theorem d93 {p : Nat} (ht : TA I tp) (hw : WT tp) (hp : p ≤ tp.length) (h7 : I 2 7 = nI p) (h8 : I 2 8 = nI p) (h : ∀ I' J', Fcl I I' J J' → I' 2 7 = nI p → I' 2 8 = nI (reF isL tp p) → I' 2 1 = nI (if reF isL tp p - p ≤ 8 then 1 else 4) → J' 2 3 = lN (eB 32 (rkW tp p (reF isL tp p - p))) → Pv (mem r I' J')) : CV G (d + 2) 93 [.ref 2] (mem r I J) Pv := by
  have hl := hw.1
  have hend : ∀ (I1 : Nat → Nat → Int32) (J1 : Nat → Nat → Int64) (k : Nat), Fcl I I1 J J1 → I1 2 7 = nI p → I1 2 8 = nI k → J1 2 3 = lN (eB 32 (rkW tp p (k - p))) → p ≤ k → k ≤ tp.length → reF isL tp k = k → reF isL tp p = reF isL tp k → ifP (8 < I1 2 8 - I1 2 7) (QV Pv none (mem r (u2 I1 2 1 4) J1)) (QV Pv none (mem r (u2 I1 2 1 1) J1)) := fun I1 J1 k hf h7 h8 hj hpk hkl hk hr => by
    rw [h7, h8, pk_sub hpk]
    rw [hr, hk] at h
    have hh : ∀ v, v = nI (if k - p ≤ 8 then 1 else 4) → QV Pv none (mem r (u2 I1 2 1 v) J1) := fun v hv => ⟨rfl, h _ J1 (hf.u (by decide) (by decide)) (by rw [u2i (by decide)]; exact h7) (by rw [u2i (by decide)]; exact h8) (by rw [u2s]; exact hv) hj⟩
    rw [show (8 : Int32) = nI 8 from rfl, nI_ltI (by decide) (by omega)]
    refine ifb (fun q => hh 4 (by rw [if_neg (by omega)]; rfl)) (fun q => hh 1 (by rw [if_pos (by omega)]; rfl))
  have loop : ∀ n k (I1 : Nat → Nat → Int32) (J1 : Nat → Nat → Int64), k + n = tp.length → p ≤ k → Fcl I I1 J J1 → I1 2 7 = nI p → I1 2 8 = nI k → J1 2 3 = lN (eB 32 (rkW tp p (k - p))) → reF isL tp p = reF isL tp k → XX G (d + 1) none P93 (QV Pv) 5 [.ref 2] [] (mem r I1 J1) := by
    intro n
    induction n with
    | zero =>
      intro k I1 J1 hk hpk hf h71 h81 hj hr
      have ht1 := ht.fcl hf
      refine x93_5 ?_
      simp only [mKm, mNm, mIm, mIf, mJm, mJf, mRm, sIm, sJm, rwIm, rwJm, kN, nN, rN, true_and]
      rw [ht1.1, h81]
      refine ifp (nI_le (by omega) (by omega)) ?_
      have := hend I1 J1 k hf h71 h81 hj hpk (by omega) (re_end (by omega)) hr
      rw [h81] at this
      exact this
    | succ n ih =>
      intro k I1 J1 hk hpk hf h71 h81 hj hr
      have ht1 := ht.fcl hf
      have hkl : k < tp.length := by omega
      have hc := hw.ch hkl
      refine x93_5 ?_
      simp only [mKm, mNm, mIm, mIf, mJm, mJf, mRm, sIm, sJm, rwIm, rwJm, kN, nN, rN, true_and, ht1.1, h81, ix (show k < 1000 by omega) (by decide), show I1 3 k = nI (chF tp k) from ht1.2 k hkl]
      refine ifn (nI_ge hkl (by omega)) (c92 (by omega) ?_)
      cases e : isL (chF tp k) with
      | false =>
        refine ifp rfl ?_
        have := hend I1 J1 k hf h71 h81 hj hpk (by omega) (re_no e) hr
        simp only [mKm, mNm, mIm, mIf, mJm, mJf, mRm, sIm, sJm, rwIm, rwJm, kN, nN, rN, true_and]
        exact this
      | true =>
        refine ifn (by decide) ?_
        simp only [mKm, mNm, mIm, mIf, mJm, mJf, mRm, sIm, sJm, rwIm, rwJm, kN, nN, rN, true_and, h81, ix (show k < 1000 by omega) (by decide), show I1 3 k = nI (chF tp k) from ht1.2 k hkl, hj, letE e]
        refine b93_5_59 ?_
        simp only [mKm, mNm, mIm, mIf, mJm, mJf, mRm, sIm, sJm, rwIm, rwJm, kN, nN, rN, true_and, h81, nI_1]
        have e32 : lN (eB 32 (rkW tp p (k - p))) * (32 : Int64) + lN (chF tp k - 96) = lN (eB 32 (rkW tp p (k + 1 - p))) := by
          rw [show (32 : Int64) = lN 32 from rfl, lN_mul, lN_add, show k + 1 - p = (k - p) + 1 by omega]
          show _ = lN (eB 32 (rkW tp p (k - p) ++ [chF tp (p + (k - p)) - 96]))
          rw [eB_app, show p + (k - p) = k by omega, Nat.mul_comm]
        rw [e32]
        exact ih (k + 1) _ _ (by omega) (by omega) (hf.j.u (by decide) (by decide)) (by rw [u2i (by decide)]; exact h71) u2s u2s (by rw [hr, re_yes hkl e])
  refine e93 ?_
  simp only [mKm, mNm, mIm, mIf, mJm, mJf, mRm, sIm, sJm, rwIm, rwJm, kN, nN, rN, true_and]
  exact loop (tp.length - p) p I _ (by omega) (Nat.le_refl _) Fcl.rfl'.j h7 h8 (by rw [u2s, Nat.sub_self]; rfl) rfl
theorem d95 {p : Nat} (ht : TA I tp) (hw : WT tp) (hp : p ≤ tp.length) (h7 : I 2 7 = nI p) (h8 : I 2 8 = nI p) (h : ∀ I', Fcl I I' J J → I' 2 7 = nI p → I' 2 8 = nI (reF isD tp p) → I' 2 1 = nI (if reF isD tp p - p ≤ 4 then 2 else 4) → I' 2 2 = nI (eB 10 (dgW tp p (reF isD tp p - p))) → Pv (mem r I' J)) : CV G (d + 2) 95 [.ref 2] (mem r I J) Pv := by
  have hl := hw.1
  have hend : ∀ (I1 : Nat → Nat → Int32) (k : Nat), Fcl I I1 J J → I1 2 7 = nI p → I1 2 8 = nI k → I1 2 2 = nI (eB 10 (dgW tp p (k - p))) → p ≤ k → k ≤ tp.length → reF isD tp k = k → reF isD tp p = reF isD tp k → ifP (4 < I1 2 8 - I1 2 7) (QV Pv none (mem r (u2 I1 2 1 4) J)) (QV Pv none (mem r (u2 I1 2 1 2) J)) := fun I1 k hf h7 h8 hj hpk hkl hk hr => by
    rw [h7, h8, pk_sub hpk]
    rw [hr, hk] at h
    have hh : ∀ v, v = nI (if k - p ≤ 4 then 2 else 4) → QV Pv none (mem r (u2 I1 2 1 v) J) := fun v hv => ⟨rfl, h _ (hf.u (by decide) (by decide)) (by rw [u2i (by decide)]; exact h7) (by rw [u2i (by decide)]; exact h8) (by rw [u2s]; exact hv) (by rw [u2i (by decide)]; exact hj)⟩
    rw [show (4 : Int32) = nI 4 from rfl, nI_ltI (by decide) (by omega)]
    refine ifb (fun q => hh (nI 4) (by rw [if_neg (by omega)])) (fun q => hh 2 (by rw [if_pos (by omega)]; rfl))
  have loop : ∀ n k (I1 : Nat → Nat → Int32), k + n = tp.length → p ≤ k → Fcl I I1 J J → I1 2 7 = nI p → I1 2 8 = nI k → I1 2 2 = nI (eB 10 (dgW tp p (k - p))) → reF isD tp p = reF isD tp k → XX G (d + 1) none P95 (QV Pv) 5 [.ref 2] [] (mem r I1 J) := by
    intro n
    induction n with
    | zero =>
      intro k I1 hk hpk hf h71 h81 hj hr
      have ht1 := ht.fcl hf
      refine x95_5 ?_
      simp only [mKm, mNm, mIm, mIf, mJm, mJf, mRm, sIm, sJm, rwIm, rwJm, kN, nN, rN, true_and]
      rw [ht1.1, h81]
      refine ifp (nI_le (by omega) (by omega)) ?_
      have := hend I1 k hf h71 h81 hj hpk (by omega) (re_end (by omega)) hr
      rw [h81] at this
      exact this
    | succ n ih =>
      intro k I1 hk hpk hf h71 h81 hj hr
      have ht1 := ht.fcl hf
      have hkl : k < tp.length := by omega
      have hc := hw.ch hkl
      refine x95_5 ?_
      simp only [mKm, mNm, mIm, mIf, mJm, mJf, mRm, sIm, sJm, rwIm, rwJm, kN, nN, rN, true_and, ht1.1, h81, ix (show k < 1000 by omega) (by decide), show I1 3 k = nI (chF tp k) from ht1.2 k hkl]
      refine ifn (nI_ge hkl (by omega)) (c94 (by omega) ?_)
      cases e : isD (chF tp k) with
      | false =>
        refine ifp rfl ?_
        have := hend I1 k hf h71 h81 hj hpk (by omega) (re_no e) hr
        simp only [mKm, mNm, mIm, mIf, mJm, mJf, mRm, sIm, sJm, rwIm, rwJm, kN, nN, rN, true_and]
        exact this
      | true =>
        refine ifn (by decide) ?_
        simp only [mKm, mNm, mIm, mIf, mJm, mJf, mRm, sIm, sJm, rwIm, rwJm, kN, nN, rN, true_and, h81, ix (show k < 1000 by omega) (by decide), show I1 3 k = nI (chF tp k) from ht1.2 k hkl, hj, digE e]
        refine b95_5_55 ?_
        have e8 : ∀ v, u2 I1 2 2 v 2 8 = nI k := fun v => by rw [u2i (by decide)]; exact h81
        simp only [mKm, mNm, mIm, mIf, mJm, mJf, mRm, sIm, sJm, rwIm, rwJm, kN, nN, rN, true_and, e8, nI_1]
        have e32 : nI (eB 10 (dgW tp p (k - p))) * (10 : Int32) + nI (chF tp k - 48) = nI (eB 10 (dgW tp p (k + 1 - p))) := by
          rw [show (10 : Int32) = nI 10 from rfl, pk_mul, nI_add, show k + 1 - p = (k - p) + 1 by omega]
          show _ = nI (eB 10 (dgW tp p (k - p) ++ [chF tp (p + (k - p)) - 48]))
          rw [eB_app, show p + (k - p) = k by omega, Nat.mul_comm]
        rw [e32]
        exact ih (k + 1) _ (by omega) (by omega) ((hf.u (by decide) (by decide)).u (by decide) (by decide)) (by rw [u2i (by decide), u2i (by decide)]; exact h71) u2s (by rw [u2i (by decide), u2s]) (by rw [hr, re_yes hkl e])
  refine e95 ?_
  simp only [mKm, mNm, mIm, mIf, mJm, mJf, mRm, sIm, sJm, rwIm, rwJm, kN, nN, rN, true_and]
  exact loop (tp.length - p) p _ (by omega) (Nat.le_refl _) (Fcl.rfl'.u (by decide) (by decide)) (by rw [u2i (by decide)]; exact h7) (by rw [u2i (by decide)]; exact h8) (by rw [u2s, Nat.sub_self]; rfl) rfl
theorem d90 {q : Nat} (ht : TA I tp) (hw : WT tp) (hq : q ≤ tp.length) (h8 : I 2 8 = nI q) (h : ∀ I' J', Fcl I I' J J' → CT I' J' tp q → Pv (mem r I' J')) : CV G (d + 5) 90 [.ref 2] (mem r I J) Pv := by
  have hl := hw.1
  -- behind the blanks
  have tail : ∀ (p : Nat) (I1 : Nat → Nat → Int32), p ≤ tp.length → Fcl I I1 J J → I1 2 8 = nI p → reF isB tp p = p → tkF tp q = tkF tp p → XX G (d + 4) none P90 (QV Pv) 39 [.ref 2] [] (mem r I1 J) := fun p I1 hp hf1 h81 hr ht0 => by
    have hCT : ∀ {I' J'}, CT I' J' tp p → CT I' J' tp q := fun hc => by unfold CT; rw [ht0]; exact hc
    have ht1 := ht.fcl hf1
    refine x90_39 ?_
    simp only [mKm, mNm, mIm, mIf, mJm, mJf, mRm, sIm, sJm, rwIm, rwJm, kN, nN, rN, true_and, h81]
    have f2 : Fcl I (u2 I1 2 7 (nI p)) J J := hf1.u (by decide) (by decide)
    have g8 : u2 I1 2 7 (nI p) 2 8 = nI p := by rw [u2i (by decide)]; exact h81
    have g7 : u2 I1 2 7 (nI p) 2 7 = nI p := u2s
    generalize u2 I1 2 7 (nI p) = I2 at f2 g8 g7
    have ht2 := ht.fcl f2
    refine b90_39_47 ?_
    simp only [mKm, mNm, mIm, mIf, mJm, mJf, mRm, sIm, sJm, rwIm, rwJm, kN, nN, rN, true_and, g8, ht2.1]
    by_cases q1 : tp.length ≤ p
    · refine ifn (nI_nlt q1 (by omega)) (b90_39_63 (x90_154 ⟨rfl, h _ J (f2.u (by decide) (by decide)) (hCT ?_)⟩))
      have e : tkF tp p = (0, p, p) := by unfold tkF; rw [hr, if_pos q1]
      unfold CT
      rw [e]
      exact ⟨u2s, by rw [u2i (by decide)]; exact g7, by rw [u2i (by decide)]; exact g8, fun z => absurd z (by show ¬ (0 : Nat) = 1; decide), fun z => absurd z (by show ¬ (0 : Nat) = 2; decide), fun z => absurd z (by show ¬ (0 : Nat) = 3; decide)⟩
    · have hpl : p < tp.length := by omega
      have hc := hw.ch hpl
      have h3 : I2 3 p = nI (chF tp p) := ht2.2 p hpl
      refine ifp (nI_lt hpl (by omega)) (x90_66 ?_)
      simp only [mKm, mNm, mIm, mIf, mJm, mJf, mRm, sIm, sJm, rwIm, rwJm, kN, nN, rN, true_and, g8, ix (show p < 1000 by omega) (by decide), h3]
      refine c92 (by omega) ?_
      cases e1 : isL (chF tp p) with
      | true =>
        refine ifn (by decide) ?_
        simp only [mKm, mNm, mIm, mIf, mJm, mJf, mRm, sIm, sJm, rwIm, rwJm, kN, nN, rN, true_and]
        refine d93 ht2 hw (by omega) g7 g8 (fun I3 J3 f3 k7 k8 k1 kj => x90_154 ⟨rfl, h I3 J3 (f2.trans f3) (hCT ?_)⟩)
        have e : tkF tp p = (if reF isL tp p - p ≤ 8 then 1 else 4, p, reF isL tp p) := by unfold tkF; rw [hr, if_neg q1, if_pos e1]
        unfold CT
        rw [e]
        refine ⟨k1, k7, k8, fun _ => kj, fun z => ?_, fun z => ?_⟩
        · exact absurd z (by show ¬ (if _ then 1 else 4) = 2; split <;> decide)
        · exact absurd z (by show ¬ (if _ then 1 else 4) = 3; split <;> decide)
      | false =>
        refine ifp rfl (x90_88 ?_)
        simp only [mKm, mNm, mIm, mIf, mJm, mJf, mRm, sIm, sJm, rwIm, rwJm, kN, nN, rN, true_and, g8, ix (show p < 1000 by omega) (by decide), h3]
        refine c94 (by omega) ?_
        cases e2 : isD (chF tp p) with
        | true =>
          refine ifn (by decide) ?_
          simp only [mKm, mNm, mIm, mIf, mJm, mJf, mRm, sIm, sJm, rwIm, rwJm, kN, nN, rN, true_and]
          refine d95 ht2 hw (by omega) g7 g8 (fun I3 f3 k7 k8 k1 kj => x90_154 ⟨rfl, h I3 J (f2.trans f3) (hCT ?_)⟩)
          have e : tkF tp p = (if reF isD tp p - p ≤ 4 then 2 else 4, p, reF isD tp p) := by unfold tkF; rw [hr, if_neg q1, if_neg (by rw [e1]; decide), if_pos e2]
          unfold CT
          rw [e]
          refine ⟨k1, k7, k8, fun z => ?_, fun _ => kj, fun z => ?_⟩
          · exact absurd z (by show ¬ (if _ then 2 else 4) = 1; split <;> decide)
          · exact absurd z (by show ¬ (if _ then 2 else 4) = 3; split <;> decide)
        | false =>
          refine ifp rfl (x90_110 ?_)
          obtain ⟨cn1, cn2⟩ := pk_charN (q := chF tp p) (by omega)
          simp only [mKm, mNm, mIm, mIf, mJm, mJf, mRm, sIm, sJm, rwIm, rwJm, kN, nN, rN, true_and, g8, ix (show p < 1000 by omega) (by decide), h3]
          refine ⟨⟨cn1, cn2⟩, b90_110_123 ?_⟩
          simp only [mKm, mNm, mIm, mIf, mJm, mJf, mRm, sIm, sJm, rwIm, rwJm, kN, nN, rN, true_and, u2s]
          refine c273 (by omega) (fun v hv => ?_)
          have e : tkF tp p = (if isG (chF tp p) then 3 else 4, p, p + 1) := by unfold tkF; rw [hr, if_neg q1, if_neg (by rw [e1]; decide), if_neg (by rw [e2]; decide)]
          have fin : ∀ s, s = nI (if isG (chF tp p) then 3 else 4) → Pv (mem r (u2 (u2 (u2 I2 2 6 (nI (chF tp p))) 2 1 s) 2 8 (nI (p + 1))) J) := fun s hs => by
            refine h _ J (((f2.u (by decide) (by decide)).u (by decide) (by decide)).u (by decide) (by decide)) (hCT ?_)
            unfold CT
            rw [e]
            refine ⟨by rw [u2i (by decide), u2s]; exact hs, by rw [u2i (by decide), u2i (by decide), u2i (by decide)]; exact g7, u2s, fun z => ?_, fun z => ?_, fun _ => by rw [u2i (by decide), u2i (by decide), u2s]⟩
            · exact absurd z (by show ¬ (if _ then 3 else 4) = 1; split <;> decide)
            · exact absurd z (by show ¬ (if _ then 3 else 4) = 2; split <;> decide)
          have g8' : ∀ s, u2 (u2 I2 2 6 (nI (chF tp p))) 2 1 s 2 8 = nI p := fun s => by rw [u2i (by decide), u2i (by decide)]; exact g8
          refine ifb (fun qv => x90_140 ?_) (fun qv => x90_141 ?_)
          · simp only [mKm, mNm, mIm, mIf, mJm, mJf, mRm, sIm, sJm, rwIm, rwJm, kN, nN, rN, true_and]
            refine b90_140_144 ?_
            simp only [mKm, mNm, mIm, mIf, mJm, mJf, mRm, sIm, sJm, rwIm, rwJm, kN, nN, rN, true_and, g8', nI_1]
            exact b90_140_154 ⟨rfl, fin 4 (by rw [hv.mp qv]; rfl)⟩
          · simp only [mKm, mNm, mIm, mIf, mJm, mJf, mRm, sIm, sJm, rwIm, rwJm, kN, nN, rN, true_and]
            refine b90_141_144 ?_
            simp only [mKm, mNm, mIm, mIf, mJm, mJf, mRm, sIm, sJm, rwIm, rwJm, kN, nN, rN, true_and, g8', nI_1]
            refine b90_141_154 ⟨rfl, fin 3 ?_⟩
            have : isG (chF tp p) = true := by
              cases e4 : isG (chF tp p) with
              | true => rfl
              | false => exact absurd (hv.mpr e4) qv
            rw [this]; rfl
  have loop : ∀ n k (I1 : Nat → Nat → Int32), k + n = tp.length → Fcl I I1 J J → I1 2 8 = nI k → tkF tp q = tkF tp k → XX G (d + 4) none P90 (QV Pv) 0 [.ref 2] [] (mem r I1 J) := by
    intro n
    induction n with
    | zero =>
      intro k I1 hk hf1 h81 ht0
      refine x90_0 ?_
      simp only [mKm, mNm, mIm, mIf, mJm, mJf, mRm, sIm, sJm, rwIm, rwJm, kN, nN, rN, true_and, h81, (ht.fcl hf1).1]
      exact ifp (nI_le (by omega) (by omega)) (tail k I1 (by omega) hf1 h81 (re_end (by omega)) ht0)
    | succ n ih =>
      intro k I1 hk hf1 h81 ht0
      have hkl : k < tp.length := by omega
      have hc := hw.ch hkl
      have ht1 := ht.fcl hf1
      refine x90_0 ?_
      simp only [mKm, mNm, mIm, mIf, mJm, mJf, mRm, sIm, sJm, rwIm, rwJm, kN, nN, rN, true_and, h81, ht1.1, ix (show k < 1000 by omega) (by decide), show I1 3 k = nI (chF tp k) from ht1.2 k hkl]
      refine ifn (nI_ge hkl (by omega)) (c91 (by omega) ?_)
      cases e : isB (chF tp k) with
      | false => exact ifp rfl (tail k I1 (by omega) hf1 h81 (re_no e) ht0)
      | true =>
        refine ifn (by decide) ?_
        simp only [mKm, mNm, mIm, mIf, mJm, mJf, mRm, sIm, sJm, rwIm, rwJm, kN, nN, rN, true_and, h81, nI_1]
        refine b90_0_36 (ih (k + 1) _ (by omega) (hf1.u (by decide) (by decide)) u2s ?_)
        rw [ht0, tk_blank hkl e]
  exact e90 (loop (tp.length - q) q I (by omega) Fcl.rfl' h8 rfl)
end
