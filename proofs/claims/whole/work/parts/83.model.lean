/-! the other side reads tokens -/
theorem eB_inj {m : Nat} : ∀ (n : Nat) (a b : List Nat), a.length = n → (∀ c ∈ a, 1 ≤ c ∧ c < m) → (∀ c ∈ b, 1 ≤ c ∧ c < m) → eB m a = eB m b → a = b := by
  intro n
  induction n with
  | zero =>
    intro a b hn ha hb h
    have : a = [] := List.length_eq_zero_iff.mp hn
    subst this
    rcases List.eq_nil_or_concat b with rfl | ⟨b', y, rfl⟩
    · rfl
    · rw [List.concat_eq_append] at h hb
      rw [eB_app] at h
      have := (hb y (by simp)).1
      have h : 0 = m * eB m b' + y := h
      omega
  | succ n ih =>
    intro a b hn ha hb h
    rcases List.eq_nil_or_concat a with rfl | ⟨a', x, rfl⟩
    · simp at hn
    · rw [List.concat_eq_append] at h ha hn ⊢
      rw [eB_app] at h
      have hx := ha x (by simp)
      rcases List.eq_nil_or_concat b with rfl | ⟨b', y, rfl⟩
      · have h : m * eB m a' + x = 0 := h
        omega
      · rw [List.concat_eq_append] at h hb ⊢
        rw [eB_app] at h
        have hy := hb y (by simp)
        have e1 : x = y := by
          have h1 : (m * eB m a' + x) % m = x := by rw [Nat.mul_add_mod, Nat.mod_eq_of_lt hx.2]
          have h2 : (m * eB m b' + y) % m = y := by rw [Nat.mul_add_mod, Nat.mod_eq_of_lt hy.2]
          rw [← h1, h, h2]
        subst e1
        have e2 : eB m a' = eB m b' := by
          have : m * eB m a' = m * eB m b' := by omega
          exact Nat.eq_of_mul_eq_mul_left (by omega) this
        rw [ih a' b' (by simpa using hn) (fun c hc => ha c (by simp [hc])) (fun c hc => hb c (by simp [hc])) e2]
theorem eB_lt {m : Nat} : ∀ (n : Nat) (a : List Nat), a.length = n → (∀ c ∈ a, c < m) → eB m a < m ^ n := by
  intro n
  induction n with
  | zero =>
    intro a hn _
    have : a = [] := List.length_eq_zero_iff.mp hn
    subst this; exact Nat.one_pos
  | succ n ih =>
    intro a hn ha
    rcases List.eq_nil_or_concat a with rfl | ⟨a', x, rfl⟩
    · simp at hn
    · rw [List.concat_eq_append] at ha hn ⊢
      rw [eB_app, Nat.pow_succ]
      have h1 := ih a' (by simpa using hn) (fun c hc => ha c (by simp [hc]))
      have h2 := ha x (by simp)
      have : m * (eB m a' + 1) ≤ m * m ^ n := Nat.mul_le_mul_left m h1
      rw [Nat.mul_add] at this
      rw [Nat.mul_comm (m ^ n) m]
      omega
theorem sl_mem {g : Nat → Nat} {p : Nat} : ∀ n c, c ∈ slF g p n → ∃ k, k < n ∧ c = g (p + k) := by
  intro n
  induction n with
  | zero => intro c hc; exact absurd hc (by simp [slF])
  | succ n ih =>
    intro c hc
    unfold slF at hc
    rw [List.mem_append] at hc
    rcases hc with hc | hc
    · obtain ⟨k, hk, e⟩ := ih c hc
      exact ⟨k, by omega, e⟩
    · exact ⟨n, by omega, by simpa using hc⟩
theorem sl_map {g : Nat → Nat} {f : Nat → Nat} {p : Nat} : ∀ n, slF (fun k => f (g k)) p n = (slF g p n).map f := by
  intro n
  induction n with
  | zero => rfl
  | succ n ih => unfold slF; rw [List.map_append, ih]; rfl
theorem tok_w {tp : List Nat} {i : Nat} (h : soF tp i = 1) : (∀ k, plF tp i ≤ k → k < enF tp i → isL (chF tp k) = true) ∧ enF tp i - plF tp i ≤ 8 ∧ plF tp i < enF tp i := by
  have hb := (tok_b tp i).2.2.2.1 (by omega)
  unfold soF at h
  unfold plF enF at hb ⊢
  unfold tkF at h hb ⊢
  split at h
  · exact absurd h (by show ¬ (0 : Nat) = 1; decide)
  · rename_i h1
    rw [if_neg h1] at hb ⊢
    split at h
    · rename_i h2
      rw [if_pos h2] at hb ⊢
      refine ⟨fun k g1 g2 => re_in g1 g2, ?_, hb⟩
      by_cases q : reF isL tp (reF isB tp (poF tp i)) - reF isB tp (poF tp i) ≤ 8
      · exact q
      · have h : (if _ then 1 else 4) = 1 := h
        rw [if_neg q] at h; exact absurd h (by decide)
    · split at h
      · have h : (if _ then 2 else 4) = 1 := h
        exact absurd h (by split <;> decide)
      · have h : (if _ then 3 else 4) = 1 := h
        exact absurd h (by split <;> decide)
theorem tok_n {tp : List Nat} {i : Nat} (h : soF tp i = 2) : nuF tp i ≤ 9999 := by
  have key : (∀ k, plF tp i ≤ k → k < enF tp i → isD (chF tp k) = true) ∧ enF tp i - plF tp i ≤ 4 := by
    unfold soF at h
    unfold plF enF
    unfold tkF at h ⊢
    split at h
    · exact absurd h (by show ¬ (0 : Nat) = 2; decide)
    · rename_i h1
      rw [if_neg h1]
      split at h
      · have h : (if _ then 1 else 4) = 2 := h
        exact absurd h (by split <;> decide)
      · rename_i h2
        rw [if_neg h2]
        split at h
        · rename_i h3
          rw [if_pos h3]
          refine ⟨fun k g1 g2 => re_in g1 g2, ?_⟩
          by_cases q : reF isD tp (reF isB tp (poF tp i)) - reF isB tp (poF tp i) ≤ 4
          · exact q
          · have h : (if _ then 2 else 4) = 2 := h
            rw [if_neg q] at h; exact absurd h (by decide)
        · have h : (if _ then 3 else 4) = 2 := h
          exact absurd h (by split <;> decide)
  obtain ⟨k1, k2⟩ := key
  have hl := eB_lt (m := 10) (enF tp i - plF tp i) (dgW tp (plF tp i) (enF tp i - plF tp i)) (sl_len _ _ _) (fun c hc => by
    obtain ⟨k, hk, e⟩ := sl_mem _ c hc
    have hd := k1 (plF tp i + k) (by omega) (by omega)
    unfold isD at hd
    simp only [Bool.and_eq_true, decide_eq_true_eq] at hd
    rw [e]; show chF tp (plF tp i + k) - 48 < 10; omega)
  have : 10 ^ (enF tp i - plF tp i) ≤ 10 ^ 4 := Nat.pow_le_pow_right (by decide) k2
  have e : nuF tp i < 10 ^ (enF tp i - plF tp i) := hl
  omega
theorem rk_wok {tp : List Nat} {i : Nat} (h : soF tp i = 1) : wok (rkF tp i) := by
  obtain ⟨h1, h2, h3⟩ := tok_w h
  refine ⟨?_, ?_, fun c hc => ?_⟩
  · unfold rkF rkW; rw [sl_len]; omega
  · unfold rkF rkW; rw [sl_len]; omega
  · obtain ⟨k, hk, e⟩ := sl_mem _ c hc
    have hd := h1 (plF tp i + k) (by omega) (by omega)
    unfold isL at hd
    simp only [Bool.and_eq_true, decide_eq_true_eq] at hd
    rw [e]; show 1 ≤ chF tp (plF tp i + k) - 96 ∧ chF tp (plF tp i + k) - 96 ≤ 26; omega
theorem wok_lt {m : Nat} {w : List Nat} (hm : m ≤ 37) (hm2 : 27 ≤ m) (h : wok w) : eB m w < 2 ^ 62 := by
  have h1 := eB_lt (m := m) w.length w rfl (fun c hc => by have := (h.2.2 c hc).2; omega)
  have h2 : m ^ w.length ≤ m ^ 8 := Nat.pow_le_pow_right (by omega) h.2.1
  have h3 : m ^ 8 ≤ 37 ^ 8 := Nat.pow_le_pow_left hm 8
  omega
theorem wok_inj {m : Nat} {w w' : List Nat} (hm : 27 ≤ m) (h : wok w) (h' : wok w') (e : eB m w = eB m w') : w = w' :=
  eB_inj w.length w w' rfl (fun c hc => by have := h.2.2 c hc; omega) (fun c hc => by have := h'.2.2 c hc; omega) e
theorem rk_cw (tp : List Nat) (i : Nat) : rkF tp i = (cwF tp i).map (fun c => c - 96) := by
  unfold rkF rkW cwF
  exact sl_map (g := chF tp) (f := fun c => c - 96) _
theorem wC_ok : ∀ k, k < 29 → wdL.getD k 0 = eB 37 ((wC.getD k []).map (fun c => c - 96)) ∧ wok ((wC.getD k []).map (fun c => c - 96)) ∧ (∀ c ∈ wC.getD k [], 97 ≤ c) ∧ wi0 (wC.getD k []) = k + 1 ∧ wC.getD k [] ∈ wC := by
  unfold wok
  decide +kernel
theorem wC_inv : ∀ w ∈ wC, w = wC.getD (wi0 w - 1) [] ∧ wi0 w ≠ 0 := by decide +kernel
theorem map_inj : ∀ (a b : List Nat), (∀ c ∈ a, 97 ≤ c) → (∀ c ∈ b, 97 ≤ c) → a.map (fun c => c - 96) = b.map (fun c => c - 96) → a = b := by
  intro a
  induction a with
  | nil => intro b _ _ h; cases b with
    | nil => rfl
    | cons y t => simp at h
  | cons x t ih =>
    intro b ha hb h
    cases b with
    | nil => simp at h
    | cons y u =>
      rw [List.map_cons, List.map_cons, List.cons.injEq] at h
      have h1 := ha x List.mem_cons_self
      have h2 := hb y List.mem_cons_self
      rw [ih u (fun c hc => ha c (List.mem_cons_of_mem _ hc)) (fun c hc => hb c (List.mem_cons_of_mem _ hc)) h.2, show x = y by omega]
theorem wd_iff {tp : List Nat} {i k : Nat} (hs : soF tp i = 1) (hk : k < 29) : eB 37 (rkF tp i) = wdL.getD k 0 ↔ wiF tp i = k + 1 := by
  obtain ⟨g1, g2, g3, g4, g5⟩ := wC_ok k hk
  unfold wiF
  rw [if_pos hs, g1]
  have hcw : ∀ c ∈ cwF tp i, 97 ≤ c := fun c hc => by
    obtain ⟨j, hj, e⟩ := sl_mem _ c hc
    have hd := (tok_w hs).1 (plF tp i + j) (by omega) (by omega)
    unfold isL at hd
    simp only [Bool.and_eq_true, decide_eq_true_eq] at hd
    rw [e]; exact hd.1
  constructor
  · intro h
    have h1 := wok_inj (by decide) (rk_wok hs) g2 h
    rw [rk_cw] at h1
    rw [map_inj _ _ hcw g3 h1]; exact g4
  · intro h
    have hm : cwF tp i ∈ wC := by
      by_cases q : cwF tp i ∈ wC
      · exact q
      · rw [show wi0 (cwF tp i) = 0 from idx_no _ _ q] at h; omega
    obtain ⟨e1, e2⟩ := wC_inv _ hm
    rw [h, Nat.add_sub_cancel] at e1
    rw [rk_cw, e1]
theorem lg_cm {a b : Nat} (ha : a < 2 ^ 63) (hb : b < 2 ^ 63) : (lg_cmp (lN a) (lN b) = 0 ↔ a = b) ∧ (lg_cmp (lN a) (lN b) < 0 ↔ a < b) ∧ (lg_cmp (lN a) (lN b) ≤ 0 ↔ a ≤ b) := by
  unfold lg_cmp
  have e := pk_lEQ ha hb
  have l := pk_lLT ha hb
  have l' := pk_lLT hb ha
  rcases Nat.lt_trichotomy a b with z | z | z
  · have h1 : lN a < lN b := l.mpr z
    have h2 : ¬ lN a = lN b := fun q => by have := e.mp q; omega
    have h3 : ¬ lN b < lN a := fun q => by have := l'.mp q; omega
    simp [h1, h2, h3]; omega
  · subst z
    have h1 : ¬ lN a < lN a := fun q => by have := l.mp q; omega
    simp [h1]
  · have h1 : ¬ lN a < lN b := fun q => by have := l.mp q; omega
    have h2 : ¬ lN a = lN b := fun q => by have := e.mp q; omega
    have h3 : lN b < lN a := l'.mpr z
    simp [h1, h2, h3]; omega
/-- the other side reads: token i of n -/
def RT (I : Nat → Nat → Int32) (J : Nat → Nat → Int64) (tp : List Nat) (n i : Nat) : Prop := TKS I J tp n ∧ WC J ∧ WT tp ∧ i ≤ n ∧ I 247 7 = nI i ∧ I 247 8 = 0
def FA (I : Nat → Nat → Int32) (f : Nat) : Prop := I 247 8 = nI f ∧ 0 < f ∧ f < 2 ^ 20
def numP (tp : List Nat) (lo hi i : Nat) : Nat := if soF tp i = 2 then (if nuF tp i < lo ∨ hi < nuF tp i then flt tp 4 i else 0) else flt tp 1 i
def inW (tp : List Nat) (fr many i : Nat) : Bool := decide (fr < wiF tp i) && decide (wiF tp i ≤ fr + many)
theorem flt_b {tp : List Nat} (hw : tp.length ≤ 1000) {k j : Nat} (hk : 1 ≤ k) (hk5 : k ≤ 5) : 0 < flt tp k j ∧ flt tp k j < 2 ^ 20 := by
  have := tok_b tp j
  unfold flt; omega
theorem wiF_b (tp : List Nat) (i : Nat) : wiF tp i ≤ 29 := by
  unfold wiF; split
  · exact wi_b _
  · omega
section
variable {G : GG} {d : Nat} {P : Int32 → mm_M → Prop} {Pv : mm_M → Prop} {Q : Option Value → mm_M → Prop} {r : Nat → Nat} {I : Nat → Nat → Int32} {J : Nat → Nat → Int64} {π : PLN} {σ : Nat → Nat → Nat} {tp : List Nat} {y i n f : Nat}
theorem RT.ib (h : RT I J tp n i) : i < 1002 := by have := h.1.1; have := h.2.2.2.1; omega
theorem RT.at (h : RT I J tp n i) : I 247 7 = nI i := h.2.2.2.2.1
theorem RT.ok (h : RT I J tp n i) : I 247 8 = 0 := h.2.2.2.2.2
theorem RT.l (h : RT I J tp n i) : tp.length ≤ 1000 := h.2.2.1.1
theorem RT.lt (h : RT I J tp n i) (hs : soF tp i ≠ 0) : i < n := by
  have := h.2.2.2.1
  by_cases e : i = n
  · rw [e] at hs; exact absurd h.1.2.1 hs
  · omega
theorem RT.s (h : RT I J tp n i) : I 249 i = nI (soF tp i) := by
  have := h.2.2.2.1
  by_cases e : i = n
  · subst e; rw [h.1.2.2.2.1, h.1.2.1]; rfl
  · exact (h.1.2.2.1 i (by omega)).1
theorem RT.p (h : RT I J tp n i) : I 250 i = nI (plF tp i) := by
  have := h.2.2.2.1
  by_cases e : i = n
  · subst e; exact h.1.2.2.2.2
  · exact (h.1.2.2.1 i (by omega)).2.1
theorem RT.v (h : RT I J tp n i) (hs : soF tp i ≠ 0) : vOK J tp i := (h.1.2.2.1 i (h.lt hs)).2.2.2
theorem RT.fr {I' : Nat → Nat → Int32} {J' : Nat → Nat → Int64} (h : RT I J tp n i) (h1 : I' 249 = I 249) (h2 : I' 250 = I 250) (h7 : I' 247 7 = I 247 7) (h8 : I' 247 8 = I 247 8) (j1 : J' 251 = J 251) (j2 : J' 252 = J 252) : RT I' J' tp n i := by
  unfold RT TKS MTK vOK WC; rw [h1, h2, h7, h8, j1, j2]; exact h
theorem RT.adv (h : RT I J tp n i) (hs : soF tp i ≠ 0) : RT (u2 I 247 7 (nI (i + 1))) J tp n (i + 1) := by
  have hlt := h.lt hs
  obtain ⟨⟨t1, t2, t3, t4, t5⟩, w, wt, hi, h7, h8⟩ := h
  refine ⟨⟨t1, t2, fun j hj => by rw [u2n (by decide), u2n (by decide)]; exact t3 j hj, by rw [u2n (by decide)]; exact t4, by rw [u2n (by decide)]; exact t5⟩, w, wt, by omega, u2s, by rw [u2i (by decide)]; exact h8⟩
theorem FA.ne (h : FA I f) : ¬ I 247 8 = 0 := by rw [h.1]; exact nI_ne0 h.2.1 (by have := h.2.2; omega)
theorem FA.gt (h : FA I f) : ¬ I 247 8 ≤ 0 := by rw [h.1]; exact nI_nle h.2.1 (by have := h.2.2; omega)
theorem FA.set (h : 0 < f ∧ f < 2 ^ 20) : FA (u2 I 247 8 (nI f)) f := ⟨u2s, h.1, h.2⟩
theorem FA.fr {I' : Nat → Nat → Int32} (h : FA I f) (h8 : I' 247 8 = I 247 8) : FA I' f := by unfold FA; rw [h8]; exact h
theorem add0 : u2 I 247 7 (I 247 7 + 0) = I := by rw [Int32.add_zero]; exact u2_self I 247 7
theorem m179 {k : Nat} (h : RT I J tp n i) (hh : Pv (mem r (u2 I 247 8 (nI (flt tp k i))) J)) : CV G (d + 1) 179 [.ref 247, .int (nI k)] (mem r I J) Pv := by
  have hi := h.ib
  refine e179 ?_
  simp only [mKm, mNm, mIm, mIf, mJm, mJf, mRm, sIm, sJm, rwIm, rwJm, kN, nN, rN, true_and, h.ok, h.at, ix hi (by decide), h.p]
  refine ifn (fun z => z (by first | exact rfl | exact trivial)) (b179_0_25 ⟨rfl, ?_⟩)
  rw [show (16 : Int32) = nI 16 from rfl, pk_mul, nI_add]
  exact hh
theorem m179f {k : Int32} (h : FA I f) (hh : Pv (mem r I J)) : CV G (d + 1) 179 [.ref 247, .int k] (mem r I J) Pv := by
  refine e179 ?_
  simp only [mKm, mNm, mIm, mIf, mJm, mJf, mRm, sIm, sJm, rwIm, rwJm, kN, nN, rN, true_and]
  exact ifp h.ne hh
theorem m177 {k : Nat} (h : RT I J tp n i) (hk : k < 29) (hh : P (bI (wiF tp i == k + 1)) (mem r I J)) : CI G (d + 1) 177 [.ref 247, .int (nI k)] (mem r I J) P := by
  have hi := h.ib
  have h4 := (tok_b tp i).2.2.2.2
  refine e177 ?_
  simp only [mKm, mNm, mIm, mIf, mJm, mJf, mRm, sIm, sJm, rwIm, rwJm, kN, nN, rN, true_and, h.ok, h.at, ix hi (by decide), h.s, ix hk (by decide), h.2.1 k hk]
  refine ifn (fun z => z (by first | exact rfl | exact trivial)) ?_
  by_cases q : soF tp i = 1
  · have hv := (h.v (by omega)).1 q
    obtain ⟨g1, g2, -⟩ := wC_ok k hk
    have b1 := wok_lt (m := 37) (by decide) (by decide) (rk_wok q)
    have b2 := wok_lt (m := 37) (by decide) (by decide) g2
    rw [q, hv, (lg_cm (by omega) (by omega)).1, wd_iff q hk]
    refine ifn (fun z => z rfl) (ifb (fun q2 => ?_) (fun q2 => ?_))
    · rw [beq_false_of_ne q2] at hh; exact hh
    · rw [Decidable.not_not.mp q2, beq_self_eq_true] at hh; exact hh
  · have e : wiF tp i = 0 := by unfold wiF; rw [if_neg q]
    rw [e] at hh
    exact ifp (fun z => q ((nI_eq (b := 1) (by omega) (by decide)).mp z)) hh
theorem m177f {k : Int32} (h : FA I f) (hh : P 0 (mem r I J)) : CI G (d + 1) 177 [.ref 247, .int k] (mem r I J) P := by
  refine e177 ?_
  simp only [mKm, mNm, mIm, mIf, mJm, mJf, mRm, sIm, sJm, rwIm, rwJm, kN, nN, rN, true_and]
  exact ifp h.ne hh
theorem m181 {fr many : Nat} (h : RT I J tp n i) (hk : fr + many ≤ 29) (hh : P (nI (if inW tp fr many i then wiF tp i - fr else 0) - 1) (mem r I J)) : CI G (d + 2) 181 [.ref 247, .int (nI fr), .int (nI many)] (mem r I J) P := by
  refine e181 ?_
  have key := lp (n := many) (X := fun k => XX G (d + 1) (some .int) P181 (QI P) 5 [.ref 247, .int (nI fr), .int (nI many), .int (nI (if inW tp fr k i then wiF tp i - fr else 0) - 1), .int (nI k)] [] (mem r I J)) ?_ (fun k hkm ih => ?_)
  · have e : inW tp fr 0 i = false := by
      unfold inW
      by_cases q : fr < wiF tp i
      · rw [decide_eq_false (show ¬ wiF tp i ≤ fr + 0 by omega), Bool.and_false]
      · rw [decide_eq_false q]; rfl
    rw [e] at key
    exact key
  · exact x181_5 (ifp (nI_le (Nat.le_refl _) (by omega)) ⟨_, rfl, hh⟩)
  · refine x181_5 (ifn (nI_ge hkm (by omega)) ⟨rfl, ?_⟩)
    rw [nI_add]
    refine m177 h (by omega) ?_
    unfold inW at ih ⊢
    by_cases q : wiF tp i = fr + k + 1
    · rw [q, beq_self_eq_true]
      refine ifn (by decide) (b181_28_32 ?_)
      rw [q, decide_eq_true (show fr < fr + k + 1 by omega), decide_eq_true (show fr + k + 1 ≤ fr + (k + 1) by omega)] at ih
      simp only [Bool.and_self, if_true] at ih
      rw [show fr + k + 1 - fr = k + 1 by omega, nI_pred] at ih
      rw [nI_1]; exact ih
    · rw [beq_false_of_ne q]
      refine ifp rfl (b181_27_32 ?_)
      rw [nI_1]
      have e : (decide (wiF tp i ≤ fr + (k + 1))) = decide (wiF tp i ≤ fr + k) := by
        by_cases q2 : wiF tp i ≤ fr + k
        · rw [decide_eq_true q2, decide_eq_true (by omega)]
        · rw [decide_eq_false q2, decide_eq_false (by omega)]
      rw [e] at ih
      exact ih
theorem m181f {fr : Int32} {many : Nat} (h : FA I f) (hm : many < 100) (hh : P (-1) (mem r I J)) : CI G (d + 2) 181 [.ref 247, .int fr, .int (nI many)] (mem r I J) P := by
  refine e181 (lp (n := many) (X := fun k => XX G (d + 1) (some .int) P181 (QI P) 5 [.ref 247, .int fr, .int (nI many), .int (-1), .int (nI k)] [] (mem r I J)) ?_ (fun k hkm ih => ?_))
  · exact x181_5 (ifp (nI_le (Nat.le_refl _) (by omega)) ⟨_, rfl, hh⟩)
  · refine x181_5 (ifn (nI_ge hkm (by omega)) ⟨rfl, m177f h (ifp rfl (b181_27_32 ?_))⟩)
    rw [nI_1]; exact ih
theorem m195 {c : Nat} (h : RT I J tp n i) (hc : c < 2 ^ 31) (hh : P (bI (sgB tp c i)) (mem r I J)) : CI G (d + 1) 195 [.ref 247, .int (nI c)] (mem r I J) P := by
  have hi := h.ib
  obtain ⟨t0, t1, t2, t3, t4⟩ := tok_b tp i
  unfold sgB at hh
  refine e195 ?_
  simp only [mKm, mNm, mIm, mIf, mJm, mJf, mRm, sIm, sJm, rwIm, rwJm, kN, nN, rN, true_and, h.ok, h.at, ix hi (by decide), h.s]
  refine ifn (fun z => z (by first | exact rfl | exact trivial)) ?_
  by_cases q : soF tp i = 3
  · have hv := (h.v (by omega)).2.2 q
    have hpl : plF tp i < tp.length := by have := t3 (by omega); omega
    have hch : sgF tp i < 127 := h.2.2.1.ch hpl
    rw [q, hv, nI_l hc, (lg_cm (by omega) (by omega)).1]
    rw [q, beq_self_eq_true, Bool.true_and] at hh
    refine ifn (fun z => z rfl) (ifb (fun q2 => ?_) (fun q2 => ?_))
    · rw [beq_false_of_ne q2] at hh; exact hh
    · rw [Decidable.not_not.mp q2, beq_self_eq_true] at hh; exact hh
  · rw [beq_false_of_ne q, Bool.false_and] at hh
    exact ifp (fun z => q ((nI_eq (b := 3) (by omega) (by decide)).mp z)) hh
theorem m195f {c : Int32} (h : FA I f) (hh : P 0 (mem r I J)) : CI G (d + 1) 195 [.ref 247, .int c] (mem r I J) P := by
  refine e195 ?_
  simp only [mKm, mNm, mIm, mIf, mJm, mJf, mRm, sIm, sJm, rwIm, rwJm, kN, nN, rN, true_and]
  exact ifp h.ne hh
theorem sgB_0 {c : Nat} (h : sgB tp c i = true) : soF tp i ≠ 0 := by
  unfold sgB at h
  simp only [Bool.and_eq_true, beq_iff_eq] at h
  omega
theorem wi_0 (h : wiF tp i ≠ 0) : soF tp i ≠ 0 := by
  unfold wiF at h
  by_cases q : soF tp i = 1
  · omega
  · rw [if_neg q] at h; exact absurd rfl h
theorem m197 {c : Nat} (h : RT I J tp n i) (hc : c < 2 ^ 31) (hy : sgB tp c i = true → P 1 (mem r (u2 I 247 7 (nI (i + 1))) J)) (hn : sgB tp c i = false → P 0 (mem r I J)) : CI G (d + 2) 197 [.ref 247, .int (nI c)] (mem r I J) P := by
  refine e197 ⟨rfl, m195 h hc ?_⟩
  cases e : sgB tp c i with
  | false =>
    simp only [mKm, mNm, mIm, mIf, mJm, mJf, mRm, sIm, sJm, rwIm, rwJm, kN, nN, rN, true_and, add0]
    exact ifp (by first | exact rfl | exact trivial) ⟨by first | exact Or.inl rfl | exact Or.inl trivial, hn e⟩
  | true =>
    simp only [mKm, mNm, mIm, mIf, mJm, mJf, mRm, sIm, sJm, rwIm, rwJm, kN, nN, rN, true_and, h.at, nI_1]
    exact ifn (by decide) ⟨Or.inr rfl, hy e⟩
theorem m197f {c : Int32} (h : FA I f) (hn : P 0 (mem r I J)) : CI G (d + 2) 197 [.ref 247, .int c] (mem r I J) P := by
  refine e197 ⟨rfl, m195f h ?_⟩
  simp only [mKm, mNm, mIm, mIf, mJm, mJf, mRm, sIm, sJm, rwIm, rwJm, kN, nN, rN, true_and, add0]
  exact ifp (by first | exact rfl | exact trivial) ⟨by first | exact Or.inl rfl | exact Or.inl trivial, hn⟩
theorem m186 {k : Nat} (h : RT I J tp n i) (hk : k < 29) (hy : wiF tp i = k + 1 → P 1 (mem r (u2 I 247 7 (nI (i + 1))) J)) (hn : wiF tp i ≠ k + 1 → P 0 (mem r I J)) : CI G (d + 2) 186 [.ref 247, .int (nI k)] (mem r I J) P := by
  refine e186 ⟨rfl, m177 h hk ?_⟩
  by_cases e : wiF tp i = k + 1
  · rw [e, beq_self_eq_true]
    simp only [mKm, mNm, mIm, mIf, mJm, mJf, mRm, sIm, sJm, rwIm, rwJm, kN, nN, rN, true_and, h.at, nI_1]
    exact ifn (by decide) ⟨Or.inr rfl, hy e⟩
  · rw [beq_false_of_ne e]
    simp only [mKm, mNm, mIm, mIf, mJm, mJf, mRm, sIm, sJm, rwIm, rwJm, kN, nN, rN, true_and, add0]
    exact ifp (by first | exact rfl | exact trivial) ⟨by first | exact Or.inl rfl | exact Or.inl trivial, hn e⟩
theorem m186f {k : Int32} (h : FA I f) (hn : P 0 (mem r I J)) : CI G (d + 2) 186 [.ref 247, .int k] (mem r I J) P := by
  refine e186 ⟨rfl, m177f h ?_⟩
  simp only [mKm, mNm, mIm, mIf, mJm, mJf, mRm, sIm, sJm, rwIm, rwJm, kN, nN, rN, true_and, add0]
  exact ifp (by first | exact rfl | exact trivial) ⟨by first | exact Or.inl rfl | exact Or.inl trivial, hn⟩
theorem m185 {k : Nat} (h : RT I J tp n i) (hk : k < 29) (hy : wiF tp i = k + 1 → Pv (mem r (u2 I 247 7 (nI (i + 1))) J)) (hn : wiF tp i ≠ k + 1 → Pv (mem r (u2 I 247 8 (nI (flt tp 1 i))) J)) : CV G (d + 3) 185 [.ref 247, .int (nI k)] (mem r I J) Pv :=
  e185 ⟨rfl, m186 h hk (fun e => ifp (by decide) (hy e)) (fun e => ifn (fun z => z rfl) ⟨rfl, m179 (k := 1) h (hn e)⟩)⟩
theorem m185f {k : Int32} (h : FA I f) (hn : Pv (mem r I J)) : CV G (d + 3) 185 [.ref 247, .int k] (mem r I J) Pv :=
  e185 ⟨rfl, m186f h (ifn (fun z => z rfl) ⟨rfl, m179f h hn⟩)⟩
theorem m198 {c : Nat} (h : RT I J tp n i) (hc : c < 2 ^ 31) (hy : sgB tp c i = true → Pv (mem r (u2 I 247 7 (nI (i + 1))) J)) (hn : sgB tp c i = false → Pv (mem r (u2 I 247 8 (nI (flt tp 1 i))) J)) : CV G (d + 2) 198 [.ref 247, .int (nI c)] (mem r I J) Pv := by
  refine e198 ⟨rfl, m195 h hc ?_⟩
  cases e : sgB tp c i with
  | false => exact ifp rfl ⟨rfl, m179 (k := 1) h (hn e)⟩
  | true =>
    refine ifn (by decide) ?_
    simp only [mKm, mNm, mIm, mIf, mJm, mJf, mRm, sIm, sJm, rwIm, rwJm, kN, nN, rN, true_and, h.at, nI_1]
    exact hy e
theorem m198f {c : Int32} (h : FA I f) (hn : Pv (mem r I J)) : CV G (d + 2) 198 [.ref 247, .int c] (mem r I J) Pv :=
  e198 ⟨rfl, m195f h (ifp rfl ⟨rfl, m179f h hn⟩)⟩
theorem m187 {lo hi : Nat} (h : RT I J tp n i) (hlo : lo < 100) (hhi : hi < 100) (hy : numP tp lo hi i = 0 → P (nI (nuF tp i)) (mem r (u2 I 247 7 (nI (i + 1))) J)) (hn : numP tp lo hi i ≠ 0 → P 0 (mem r (u2 I 247 8 (nI (numP tp lo hi i))) J)) : CI G (d + 2) 187 [.ref 247, .int (nI lo), .int (nI hi)] (mem r I J) P := by
  have hi' := h.ib
  have h4 := (tok_b tp i).2.2.2.2
  have hb : ∀ {k : Nat}, 1 ≤ k → k ≤ 5 → 0 < flt tp k i ∧ flt tp k i < 2 ^ 20 := fun h1 h2 => flt_b h.l h1 h2
  have fault : ∀ f, 0 < f ∧ f < 2 ^ 20 → P 0 (mem r (u2 I 247 8 (nI f)) J) → XX G (d + 1) (some .int) P187 (QI P) 70 [.ref 247, .int (nI lo), .int (nI hi)] [] (mem r (u2 I 247 8 (nI f)) J) := fun f hf hp => by
    refine x187_70 ?_
    simp only [mKm, mNm, mIm, mIf, mJm, mJf, mRm, sIm, sJm, rwIm, rwJm, kN, nN, rN, true_and]
    exact ifn (FA.set hf).gt ⟨_, rfl, hp⟩
  unfold numP at hy hn
  refine e187 ?_
  simp only [mKm, mNm, mIm, mIf, mJm, mJf, mRm, sIm, sJm, rwIm, rwJm, kN, nN, rN, true_and, h.ok, h.at, ix hi' (by decide), h.s]
  refine ifn (fun z => z (by first | exact rfl | exact trivial)) ?_
  by_cases q : soF tp i = 2
  · have hv := (h.v (by omega)).2.1 q
    have hnu := tok_n q
    rw [if_pos q] at hy hn
    rw [q]
    refine ifp rfl (x187_28 ?_)
    simp only [mKm, mNm, mIm, mIf, mJm, mJf, mRm, sIm, sJm, rwIm, rwJm, kN, nN, rN, true_and, h.ok, h.at, ix hi' (by decide), hv]
    rw [nI_l (by omega), nI_l (by omega), (lg_cm (by omega) (by omega)).2.1, (lg_cm (by omega) (by omega)).2.2]
    refine ifn (fun z => z (by first | exact rfl | exact trivial)) (ifb (fun q2 => ?_) (fun q2 => ifb (fun q3 => x187_70 ?_) (fun q3 => ?_)))
    · rw [if_pos (Or.inl q2)] at hn
      have h4b := hb (k := 4) (by decide) (by decide)
      refine m179 (k := 4) h ?_
      simp only [mKm, mNm, mIm, mIf, mJm, mJf, mRm, sIm, sJm, rwIm, rwJm, kN, nN, rN, true_and]
      exact ifn (FA.set h4b).gt ⟨_, rfl, hn (by omega)⟩
    · rw [if_neg (by omega)] at hy
      have h7 : u2 I 247 7 (nI (i + 1)) 247 7 - 1 = nI i := by rw [u2s, nI_pred]
      simp only [mKm, mNm, mIm, mIf, mJm, mJf, mRm, sIm, sJm, rwIm, rwJm, kN, nN, rN, true_and, h.ok, h.at, nI_1, h7, ix hi' (by decide), hv, lN_i]
      exact ifp (by first | exact trivial | decide) ⟨_, rfl, hy rfl⟩
    · rw [if_pos (show nuF tp i < lo ∨ hi < nuF tp i by omega)] at hn
      have h4b := hb (k := 4) (by decide) (by decide)
      refine m179 (k := 4) h ?_
      simp only [mKm, mNm, mIm, mIf, mJm, mJf, mRm, sIm, sJm, rwIm, rwJm, kN, nN, rN, true_and]
      exact ifn (FA.set h4b).gt ⟨_, rfl, hn (by omega)⟩
  · rw [if_neg q] at hn
    have h1b := hb (k := 1) (by decide) (by decide)
    exact ifn (fun z => q ((nI_eq (b := 2) (by omega) (by decide)).mp z)) (m179 (k := 1) h (fault _ h1b (hn (by omega))))
theorem m187f {lo hi : Int32} (h : FA I f) (hn : P 0 (mem r I J)) : CI G (d + 2) 187 [.ref 247, .int lo, .int hi] (mem r I J) P := by
  have e70 : XX G (d + 1) (some .int) P187 (QI P) 70 [.ref 247, .int lo, .int hi] [] (mem r I J) := by
    refine x187_70 ?_
    simp only [mKm, mNm, mIm, mIf, mJm, mJf, mRm, sIm, sJm, rwIm, rwJm, kN, nN, rN, true_and]
    exact ifn h.gt ⟨_, rfl, hn⟩
  refine e187 ?_
  simp only [mKm, mNm, mIm, mIf, mJm, mJf, mRm, sIm, sJm, rwIm, rwJm, kN, nN, rN, true_and]
  refine ifp h.ne (x187_28 ?_)
  simp only [mKm, mNm, mIm, mIf, mJm, mJf, mRm, sIm, sJm, rwIm, rwJm, kN, nN, rN, true_and]
  exact ifp h.ne e70
theorem m183 {fr many : Nat} (h : RT I J tp n i) (hk : fr + many ≤ 29) (hy : inW tp fr many i = true → P (nI (wiF tp i - fr - 1)) (mem r (u2 I 247 7 (nI (i + 1))) J)) (hn : inW tp fr many i = false → P 0 (mem r (u2 I 247 8 (nI (flt tp 1 i))) J)) : CI G (d + 3) 183 [.ref 247, .int (nI fr), .int (nI many)] (mem r I J) P := by
  have hwb := wiF_b tp i
  have h1b := flt_b h.l (j := i) (k := 1) (by decide) (by decide)
  refine e183 ?_
  simp only [mKm, mNm, mIm, mIf, mJm, mJf, mRm, sIm, sJm, rwIm, rwJm, kN, nN, rN, true_and, h.ok]
  refine ifp (by first | exact trivial | decide) (x183_11 ⟨rfl, m181 h hk ?_⟩)
  cases e : inW tp fr many i with
  | true =>
    have hgt : fr < wiF tp i := by unfold inW at e; simp only [Bool.and_eq_true, decide_eq_true_eq] at e; exact e.1
    simp only [if_true]
    rw [sh_ix (by omega)]
    simp only [mKm, mNm, mIm, mIf, mJm, mJf, mRm, sIm, sJm, rwIm, rwJm, kN, nN, rN, true_and, h.ok]
    refine ifn (fun z => z (by first | exact rfl | exact trivial)) (ifp (nI_pos' (by omega)) (x183_34 ?_))
    have h8 : u2 I 247 7 (nI (i + 1)) 247 8 = 0 := by rw [u2i (by decide)]; exact h.ok
    simp only [mKm, mNm, mIm, mIf, mJm, mJf, mRm, sIm, sJm, rwIm, rwJm, kN, nN, rN, true_and, h.ok, h.at, nI_1, h8]
    exact ifp (by first | exact trivial | decide) (ifp (by first | exact trivial | decide) ⟨_, rfl, hy e⟩)
  | false =>
    simp only [mKm, mNm, mIm, mIf, mJm, mJf, mRm, sIm, sJm, rwIm, rwJm, kN, nN, rN, true_and, h.ok]
    refine ifn (fun z => z (by first | exact rfl | exact trivial)) (ifn (show ¬ (0 : Int32) ≤ nI 0 - 1 by decide) (m179 (k := 1) h ?_))
    have hF := FA.set (I := I) h1b
    simp only [mKm, mNm, mIm, mIf, mJm, mJf, mRm, sIm, sJm, rwIm, rwJm, kN, nN, rN, true_and, add0]
    exact ifn hF.gt (ifn hF.gt ⟨_, rfl, hn e⟩)
theorem m183f {fr many : Int32} (h : FA I f) (hn : P 0 (mem r I J)) : CI G (d + 3) 183 [.ref 247, .int fr, .int many] (mem r I J) P := by
  have e34 : ∀ v : Int32, XX G (d + 2) (some .int) P183 (QI P) 34 [.ref 247, .int fr, .int many, .int v] [] (mem r I J) := fun v => by
    refine x183_34 ?_
    simp only [mKm, mNm, mIm, mIf, mJm, mJf, mRm, sIm, sJm, rwIm, rwJm, kN, nN, rN, true_and, add0]
    exact ifn h.gt (ifn h.gt ⟨_, rfl, hn⟩)
  refine e183 ?_
  simp only [mKm, mNm, mIm, mIf, mJm, mJf, mRm, sIm, sJm, rwIm, rwJm, kN, nN, rN, true_and]
  refine ifn h.gt (x183_17 ?_)
  simp only [mKm, mNm, mIm, mIf, mJm, mJf, mRm, sIm, sJm, rwIm, rwJm, kN, nN, rN, true_and]
  exact ifp h.ne (e34 _)
end
