/-! the order of going out -/
theorem cn_ext {c c' : Nat → Bool} : ∀ n, (∀ i, i < n → c i = c' i) → cnF c n = cnF c' n := by
  intro n
  induction n with
  | zero => intro _; rfl
  | succ n ih => intro h; unfold cnF; rw [ih (fun i hi => h i (by omega)), h n (by omega)]
theorem cnF_s (c : Nat → Bool) (n : Nat) : cnF c (n + 1) = cnF c n + if c n then 1 else 0 := rfl
theorem cn_up (c : Nat → Bool) {p : Nat} : ∀ q, p ≤ q → cnF c p ≤ cnF c q := by
  intro q
  induction q with
  | zero => intro h; rw [show p = 0 by omega]; exact Nat.le_refl _
  | succ q ih =>
    intro h
    by_cases e : p = q + 1
    · rw [e]; exact Nat.le_refl _
    · have := ih (by omega); rw [cnF_s]; omega
theorem cn_st {c : Nat → Bool} {p : Nat} (h : c p = true) : cnF c (p + 1) = cnF c p + 1 := by
  show cnF c p + (if c p then 1 else 0) = _
  rw [if_pos h]
theorem cn_lt {c : Nat → Bool} {p q : Nat} (h : c p = true) (hpq : p < q) : cnF c p < cnF c q := by
  have := cn_up c (p := p + 1) q hpq
  rw [cn_st h] at this; omega
theorem cn_inj {c : Nat → Bool} {p q : Nat} (hp : c p = true) (hq : c q = true) (e : cnF c p = cnF c q) : p = q := by
  rcases Nat.lt_trichotomy p q with z | z | z
  · have := cn_lt hp z; omega
  · exact z
  · have := cn_lt hq z; omega
theorem cn_nxt {c : Nat → Bool} {N : Nat} : ∀ n P, P + n = N → cnF c P < cnF c N → ∃ p, P ≤ p ∧ p < N ∧ c p = true ∧ cnF c p = cnF c P ∧ ∀ q, P ≤ q → q < p → c q = false := by
  intro n
  induction n with
  | zero => intro P h1 h2; rw [show P = N by omega] at h2; omega
  | succ n ih =>
    intro P h1 h2
    cases e : c P with
    | true => exact ⟨P, Nat.le_refl _, by omega, e, rfl, fun q h3 h4 => by omega⟩
    | false =>
      have e2 : cnF c (P + 1) = cnF c P := by show cnF c P + (if c P then 1 else 0) = _; rw [e]; rfl
      obtain ⟨p, g1, g2, g3, g4, g5⟩ := ih (P + 1) (by omega) (by rw [e2]; exact h2)
      refine ⟨p, by omega, g2, g3, by rw [g4, e2], fun q h3 h4 => ?_⟩
      by_cases e3 : q = P
      · subst e3; exact e
      · exact g5 q (by omega) h4
theorem cn_end {c : Nat → Bool} {P N : Nat} (h : cnF c P = cnF c N) : ∀ q, P ≤ q → q < N → c q = false := fun q h1 h2 => by
  cases e : c q with
  | false => rfl
  | true =>
    have := cn_lt e h2
    have := cn_up c (p := P) q h1
    omega
theorem cn_rem {c c' : Nat → Bool} {p N : Nat} (hp : p < N) (h : c p = true) (h' : ∀ q, q < N → c' q = (c q && !decide (q = p))) : cnF c' N + 1 = cnF c N := by
  have key : ∀ n, n ≤ N → cnF c' n + (if p < n then 1 else 0) = cnF c n := by
    intro n
    induction n with
    | zero => intro _; rw [if_neg (by omega)]; rfl
    | succ n ih =>
      intro hn
      have ih := ih (by omega)
      rw [cnF_s, cnF_s, h' n (by omega)]
      by_cases e : n = p
      · subst e
        rw [if_neg (by omega)] at ih
        rw [h, if_pos (show n < n + 1 by omega)]; simp; omega
      · rw [decide_eq_false e, Bool.not_false, Bool.and_true]
        by_cases e2 : p < n
        · rw [if_pos e2] at ih; rw [if_pos (show p < n + 1 by omega)]; omega
        · rw [if_neg e2] at ih; rw [if_neg (show ¬ p < n + 1 by omega)]; omega
  have := key N (Nat.le_refl _)
  rw [if_pos hp] at this; exact this
theorem sel_skip {ca : Nat → Bool} {cd : Nat → Nat × List Nat} {P : Nat} : ∀ p, P ≤ p → (∀ q, P ≤ q → q < p → ca q = false) → selF ca cd p = selF ca cd P := by
  intro p
  induction p with
  | zero => intro h _; rw [show P = 0 by omega]
  | succ p ih =>
    intro h hn
    by_cases e : P = p + 1
    · rw [e]
    · show (if ca p then _ else selF ca cd p) = _
      rw [hn p (by omega) (by omega), if_neg (by decide)]
      exact ih (by omega) (fun q h1 h2 => hn q h1 (by omega))
def trG (ft : Nat → Bool) (f noon : Nat) : Nat → Nat → Nat → Nat
  | 0, _, _ => 0
  | n + 1, t, o => if noon ≤ o then 0 else if f.testBit t then (if ft t then t + 1 else trG ft f noon n (t + 1) (o + 1)) else trG ft f noon n (t + 1) o
theorem trG_b (ft : Nat → Bool) (f noon : Nat) : ∀ n t o, trG ft f noon n t o ≤ t + n := by
  intro n
  induction n with
  | zero => intro t o; exact Nat.zero_le _
  | succ n ih =>
    intro t o
    unfold trG
    split
    · omega
    · split
      · split
        · omega
        · have := ih (t + 1) (o + 1); omega
      · have := ih (t + 1) o; omega
def trF (π : PLN) (σ : ST) (f p : Nat) : Nat := trG (fitF π σ p) f (π.1 3 0) (nT π) 0 (σ 4 p)
def fnx (f h : Nat) : Nat := if h = 0 then f else f &&& (63 - 2 ^ (h - 1))
def hit (h : Nat) : Nat := if h = 0 then 0 else 1
def bo (π : PLN) (σ : ST) : Nat → Nat → Nat → Nat × List Nat
  | 0, _, _ => (0, [])
  | k + 1, R, f => endF (selF R.testBit (fun p => (hit (trF π σ f p) + (bo π σ k (R &&& (63 - 2 ^ p)) (fnx f (trF π σ f p))).1, p :: (bo π σ k (R &&& (63 - 2 ^ p)) (fnx f (trF π σ f p))).2)) (nP π)) (0, [])
def bcd (π : PLN) (σ : ST) (k R f p : Nat) : Nat × List Nat := (hit (trF π σ f p) + (bo π σ k (R &&& (63 - 2 ^ p)) (fnx f (trF π σ f p))).1, p :: (bo π σ k (R &&& (63 - 2 ^ p)) (fnx f (trF π σ f p))).2)
theorem bo_s (π : PLN) (σ : ST) (k R f : Nat) : bo π σ (k + 1) R f = endF (selF R.testBit (bcd π σ k R f) (nP π)) (0, []) := rfl
theorem hit_b (h : Nat) : hit h ≤ 1 := by unfold hit; split <;> omega
theorem bo_b (π : PLN) (σ : ST) : ∀ k R f, (bo π σ k R f).1 ≤ k := by
  intro k
  induction k with
  | zero => intro R f; exact Nat.le_refl _
  | succ k ih =>
    intro R f
    rw [bo_s]
    rcases sel_ok R.testBit (bcd π σ k R f) (nP π) with ⟨e, -⟩ | ⟨t0, -, -, e, -⟩
    · rw [e]; exact Nat.zero_le _
    · rw [e]
      show (pickF _ _).1 ≤ _
      unfold pickF
      split
      · exact Nat.zero_le _
      · have := ih (R &&& (63 - 2 ^ t0)) (fnx f (trF π σ f t0))
        have := hit_b (trF π σ f t0)
        show hit _ + _ ≤ k + 1; omega
theorem bo_sel {π : PLN} {σ : ST} {k R f : Nat} (h : cnF R.testBit (nP π) = k + 1) : ∃ y, selF R.testBit (bcd π σ k R f) (nP π) = some y ∧ bo π σ (k + 1) R f = y := by
  rcases sel_ok R.testBit (bcd π σ k R f) (nP π) with ⟨e, hn⟩ | ⟨t0, -, -, e, -⟩
  · exfalso
    have : ∀ n, n ≤ nP π → cnF R.testBit n = 0 := by
      intro n
      induction n with
      | zero => intro _; rfl
      | succ n ih => intro hl; unfold cnF; rw [ih (by omega), hn n (by omega)]; rfl
    rw [this _ (Nat.le_refl _)] at h
    omega
  · refine ⟨_, e, ?_⟩
    rw [bo_s, e]
    show pickF _ _ = _
    unfold pickF
    rw [if_neg (by show ¬ _ < 0; omega)]
theorem fnx_lt {f h N : Nat} (hf : f < N) : fnx f h < N := by
  unfold fnx
  split
  · exact hf
  · exact Nat.lt_of_le_of_lt Nat.and_le_left hf
theorem rem_tb {R p q : Nat} (hp : p < 6) (hq : q < 6) : (R &&& (63 - 2 ^ p)).testBit q = (R.testBit q && !decide (q = p)) := by
  have h2 : 2 ^ p < 64 := Nat.pow_lt_pow_right (a := 2) (n := 6) (by decide) hp
  rw [Nat.testBit_and, tb_63 _ h2 q hq, tb_2 p hp q hq]
theorem up_no {x : Nat × List Nat} {s : Nat} {pre : List Nat} {y : Nat × List Nat} (h : s + y.1 + 1 ≤ x.1) : upD x s pre y = x := if_neg (by omega)
def uC (σ : ST) (p : Nat) : Bool := σ 5 p == 0
def cnU (σ : ST) (p : Nat) : Nat := cnF (uC σ) p
def QT (I : Nat → Nat → Int32) (π : PLN) (σ : ST) (N : Nat) : Prop := I 239 0 = nI (cnU σ N) ∧ I 239 3 = nI (π.1 3 0) ∧ I 239 4 = nI (nT π) ∧ ∀ p, p < N → uC σ p = true → I 241 (cnU σ p) = nI p ∧ I 242 (cnU σ p) = nI (σ 4 p) ∧ ∃ a, a < 64 ∧ I 243 (cnU σ p) = nI a ∧ ∀ t, t < nT π → a.testBit t = fitF π σ p t
def Fqu (I I' : Nat → Nat → Int32) : Prop := (∀ a, a ∉ [239, 240, 244] → I' a = I a) ∧ ∀ k, k ≠ 1 → I' 239 k = I 239 k
def DSq (I : Nat → Nat → Int32) (N : Nat) (x : Nat × List Nat) : Prop := I 239 1 = nI x.1 - 1 ∧ (x.1 ≠ 0 → ∀ j, j < N → I 240 j = nI (x.2.getD j 0))
theorem up_b7 {x : Nat × List Nat} {s : Nat} {pre : List Nat} {y : Nat × List Nat} (h1 : x.1 ≤ 7) (h2 : s + y.1 ≤ 6) : (upD x s pre y).1 ≤ 7 := by
  unfold upD
  split
  · show s + y.1 + 1 ≤ 7; omega
  · exact h1
section
variable {G : GG} {d : Nat} {P : Int32 → mm_M → Prop} {Pv : mm_M → Prop} {Q : Option Value → mm_M → Prop} {r : Nat → Nat} {I : Nat → Nat → Int32} {J : Nat → Nat → Int64} {π : PLN} {σ : Nat → Nat → Nat} {us : List ST} {fe : FE} {ms : Nat → Option (ST × FE)} {ln : LN} {nm : NMT} {tp : List Nat} {y : Nat}
theorem Fqu.rfl' : Fqu I I := ⟨fun _ _ => rfl, fun _ _ => rfl⟩
theorem Fqu.trans {I' I2 : Nat → Nat → Int32} (h : Fqu I I') (h' : Fqu I' I2) : Fqu I I2 := ⟨fun a ha => (h'.1 a ha).trans (h.1 a ha), fun k hk => (h'.2 k hk).trans (h.2 k hk)⟩
theorem Fqu.u {I' : Nat → Nat → Int32} {k : Nat} {v : Int32} (h : Fqu I I') : Fqu I (u2 I' 244 k v) := ⟨fun x hx => by rw [u2n (by simp at hx; omega)]; exact h.1 x hx, fun k hk => by rw [u2n (by decide)]; exact h.2 k hk⟩
theorem QT.fr {I' : Nat → Nat → Int32} {N : Nat} (h : QT I π σ N) (hf : Fqu I I') : QT I' π σ N := by
  unfold QT; rw [hf.2 0 (by decide), hf.2 3 (by decide), hf.2 4 (by decide), hf.1 241 (by decide), hf.1 242 (by decide), hf.1 243 (by decide)]; exact h
theorem d66 {p f N : Nat} (hq : QT I π σ N) (hw : WP π) (hv : WSt π σ) (hN : N ≤ nP π) (hp : p < N) (hu : uC σ p = true) (hf : f < 64) (h : P (nI (trF π σ f p) - 1) (mem r I J)) : CI G (d + 1) 66 [.ref 239, .int (nI (cnU σ p)), .int (nI f)] (mem r I J) P := by
  have hT := hw.t
  have hP := hw.p
  have hno := hw.noon
  obtain ⟨q0, q3, q4, q5⟩ := hq
  obtain ⟨g1, g2, a, ha, g3, hb⟩ := q5 p hp hu
  have hc : cnU σ p ≤ p := cn_le _ _
  have hc6 : cnU σ p < 6 := by omega
  have h4 := (hv.2.2 p (by omega)).2.1
  refine e66 ?_
  simp only [mKm, mNm, mIm, mIf, mJm, mJf, mRm, sIm, sJm, rwIm, rwJm, kN, nN, rN, true_and, ix hc6 (by decide), g2]
  have loop : ∀ n t o, t + n = nT π → o ≤ t + 6 → P (nI (trG (fitF π σ p) f (π.1 3 0) n t o) - 1) (mem r I J) → XX G d (some .int) P66 (QI P) 10 [.ref 239, .int (nI (cnU σ p)), .int (nI f), .int (nI o), .int (nI t)] [] (mem r I J) := by
    intro n
    induction n with
    | zero =>
      intro t o ht ho hh
      refine x66_10 ?_
      simp only [mKm, mNm, mIm, mIf, mJm, mJf, mRm, sIm, sJm, rwIm, rwJm, kN, nN, rN, true_and, q4]
      exact ifp (nI_le (by omega) (by omega)) ⟨_, rfl, hh⟩
    | succ n ih =>
      intro t o ht ho hh
      have ht6 : t < 6 := by omega
      unfold trG at hh
      refine x66_10 ?_
      simp only [mKm, mNm, mIm, mIf, mJm, mJf, mRm, sIm, sJm, rwIm, rwJm, kN, nN, rN, true_and, q4, q3, bit_at t (show t < 30 by omega) f hf, tb_dm, ix hc6 (by decide), g3, bit_at t (show t < 30 by omega) a ha, hb t (by omega), nI_1]
      refine ifn (nI_ge (by omega) (by omega)) ?_
      by_cases q : π.1 3 0 ≤ o
      · rw [if_pos q] at hh
        exact ifp (nI_le q (by omega)) ⟨_, rfl, hh⟩
      · rw [if_neg q] at hh
        refine ifn (nI_ge (by omega) (by omega)) ?_
        cases e1 : f.testBit t with
        | false =>
          rw [e1] at hh
          exact ifp rfl (ih (t + 1) o (by omega) (by omega) hh)
        | true =>
          rw [e1] at hh
          refine ifn (by decide) ?_
          cases e2 : fitF π σ p t with
          | false =>
            rw [e2] at hh
            exact ifp rfl (b66_56_59 (ih (t + 1) (o + 1) (by omega) (by omega) hh))
          | true =>
            rw [e2] at hh
            simp only [if_true, nI_pred] at hh
            exact ifn (by decide) ⟨_, rfl, hh⟩
  exact loop (nT π) 0 (σ 4 p) (by omega) (by omega) h
theorem d65 (hw : WP π) (hv : WSt π σ) : ∀ (k D dep g R f s : Nat) (x : Nat × List Nat) (pre : List Nat) (I : Nat → Nat → Int32) (Pv : mm_M → Prop), dep + k = cnU σ (nP π) → k + 3 ≤ D → QT I π σ (nP π) → g < 64 → f < 64 → s + k ≤ 6 → x.1 ≤ 7 → pre.length = dep → (∀ j, j < dep → I 244 j = nI (pre.getD j 0)) → DSq I (cnU σ (nP π)) x → (∀ p, p < nP π → R.testBit p = (uC σ p && !g.testBit (cnU σ p))) → cnF R.testBit (nP π) = k → (∀ I', Fqu I I' → (∀ j, j < dep → I' 244 j = I 244 j) → DSq I' (cnU σ (nP π)) (upD x s pre (bo π σ k R f)) → Pv (mem r I' J)) → CV G D 65 [.ref 239, .int (nI dep), .int (nI g), .int (nI f), .int (nI s)] (mem r I J) Pv := by
  have hP := hw.p
  have hT := hw.t
  have hL : cnU σ (nP π) ≤ nP π := cn_le _ _
  intro k
  induction k with
  | zero =>
    intro D dep g R f s x pre I Pv hdk hD hq hg hf hs hx hl hd hS hR hc h
    obtain ⟨d, rfl⟩ : ∃ d, D = d + 3 := ⟨D - 3, by omega⟩
    refine e65 ?_
    simp only [mKm, mNm, mIm, mIf, mJm, mJf, mRm, sIm, sJm, rwIm, rwJm, kN, nN, rN, true_and, hq.1]
    refine ifn (nI_nlt (by omega) (by omega)) ?_
    rw [hS.1, sh_le (by omega) (by omega)]
    have eb : bo π σ 0 R f = (0, []) := rfl
    rw [eb] at h
    refine ifb (fun q => ?_) (fun q => ?_)
    · have h := h I Fqu.rfl' (fun _ _ => rfl)
      rw [up_no (by show s + 0 + 1 ≤ x.1; omega)] at h
      exact h hS
    · unfold upD at h
      dsimp only at h
      rw [if_pos (show x.1 < s + 0 + 1 by omega)] at h
      have e0 : u2 I 239 1 (nI s) 239 0 = nI (cnU σ (nP π)) := by rw [u2i (by decide)]; exact hq.1
      simp only [mKm, mNm, mIm, mIf, mJm, mJf, mRm, sIm, sJm, rwIm, rwJm, kN, nN, rN, true_and, e0, nI_clamp (show cnU σ (nP π) < 2 ^ 31 by omega), Nat.zero_add]
      refine ⟨⟨nI_pos (by omega), by omega, by omega⟩, b65_0_40 ⟨rfl, h _ ⟨fun a ha => ?_, fun k hk => ?_⟩ (fun j hj => ?_) ⟨?_, fun _ j hj => ?_⟩⟩⟩
      · rw [u1n (by simp at ha; omega), u2n (by simp at ha; omega)]
      · rw [u1n (by decide), u2i hk]
      · rw [u1n (by decide), u2n (by decide)]
      · rw [u1n (by decide), u2s]; exact (nI_pred s).symm
      · rw [u1s, pk_cpy_in (by omega) (by omega), Nat.sub_zero, Nat.zero_add, u2n (by decide), List.append_nil]
        exact hd j (by omega)
  | succ k ihk =>
    intro D dep g R f s x pre I Pv hdk hD hq hg hf hs hx hl hd hS hR hc h
    obtain ⟨d, rfl⟩ : ∃ d, D = d + 3 := ⟨D - 3, by omega⟩
    have hbb := bo_b π σ (k + 1) R f
    refine e65 ?_
    simp only [mKm, mNm, mIm, mIf, mJm, mJf, mRm, sIm, sJm, rwIm, rwJm, kN, nN, rN, true_and, hq.1]
    refine ifp (nI_lt (by omega) (by omega)) ?_
    rw [hS.1, nI_add, pk_sub (by omega), show s + cnU σ (nP π) - dep = s + (k + 1) by omega]
    refine ifb (fun q => ?_) (fun q => ?_)
    · obtain ⟨ys, es, eb⟩ := bo_sel (π := π) (σ := σ) (f := f) hc
      rw [eb] at h
      refine lp (n := cnU σ (nP π)) (X := fun i => ∀ Pb, Pb ≤ nP π → cnU σ Pb = i → ∀ I', Fqu I I' → (∀ j, j < dep → I' 244 j = I 244 j) → DSq I' (cnU σ (nP π)) (upO x s pre (selF R.testBit (bcd π σ k R f) Pb)) → (upO x s pre (selF R.testBit (bcd π σ k R f) Pb)).1 ≤ 7 → XX G (d + 2) none P65 (QV Pv) 61 [.ref 239, .int (nI dep), .int (nI g), .int (nI f), .int (nI s), .int (nI i), jk, jk] [] (mem r I' J)) (fun Pb hPb hcP I1 hf1 h44 hS1 hx1 => ?_) (fun i hi ih Pb hPb hcP I1 hf1 h44 hS1 hx1 => ?_) 0 (Nat.zero_le _) rfl I Fqu.rfl' (fun _ _ => rfl) hS hx
      · refine x65_61 ?_
        simp only [mKm, mNm, mIm, mIf, mJm, mJf, mRm, sIm, sJm, rwIm, rwJm, kN, nN, rN, true_and, hf1.2 0 (by decide), hq.1]
        refine ifp (nI_le (Nat.le_refl _) (by omega)) ⟨rfl, h I1 hf1 h44 ?_⟩
        rw [← sel_skip (nP π) hPb (fun q h1 h2 => ?_), es] at hS1
        · exact hS1
        · have := cn_end (c := uC σ) hcP q h1 h2
          rw [hR q h2, this]; rfl
      · obtain ⟨p, g1, g2, g3, g4, g5⟩ := cn_nxt (c := uC σ) (N := nP π) (nP π - Pb) Pb (by omega) (by show cnU σ Pb < cnU σ (nP π); omega)
        have g4 : cnU σ p = cnU σ Pb := g4
        have hcp : cnU σ p = i := by omega
        have hi6 : i < 6 := by omega
        have hp6 : p < 6 := by omega
        have hd6 : dep < 6 := by omega
        have esel : selF R.testBit (bcd π σ k R f) Pb = selF R.testBit (bcd π σ k R f) p := (sel_skip p g1 (fun q h1 h2 => by rw [hR q (by omega), g5 q h1 h2]; rfl)).symm
        rw [esel] at hS1 hx1
        have hcp1 : cnU σ (p + 1) = i + 1 := by unfold cnU; rw [cn_st g3]; show cnU σ p + 1 = _; omega
        have hq1 := hq.fr hf1
        have hRp := hR p g2
        rw [g3, hcp, Bool.true_and] at hRp
        refine x65_61 ?_
        obtain ⟨k1, k2, k3⟩ := hq1.2.2.2 p g2 g3
        rw [hcp] at k1
        simp only [mKm, mNm, mIm, mIf, mJm, mJf, mRm, sIm, sJm, rwIm, rwJm, kN, nN, rN, true_and, hf1.2 0 (by decide), hq.1, bit_at i (show i < 30 by omega) g hg, tb_dm, ix hi6 (by decide), ix hd6 (by decide), k1]
        refine ifn (nI_ge hi (by omega)) ?_
        cases e1 : g.testBit i with
        | true =>
          rw [e1] at hRp
          have es2 : selF R.testBit (bcd π σ k R f) (p + 1) = selF R.testBit (bcd π σ k R f) p := by
            show (if R.testBit p then _ else _) = _
            rw [hRp]; rfl
          refine ifp (by decide) ?_
          rw [nI_1]
          exact ih (p + 1) (by omega) hcp1 I1 hf1 h44 (by rw [es2]; exact hS1) (by rw [es2]; exact hx1)
        | false =>
          rw [e1] at hRp
          have es2 : upO x s pre (selF R.testBit (bcd π σ k R f) (p + 1)) = upD (upO x s pre (selF R.testBit (bcd π σ k R f) p)) s pre (bcd π σ k R f p) := by
            show upO x s pre (if R.testBit p then _ else _) = _
            rw [hRp, Bool.not_false, if_pos rfl]
            cases selF R.testBit (bcd π σ k R f) p with
            | none => rfl
            | some y => exact (up_up x s pre y _).symm
          refine ifn (fun z => z rfl) (b65_61_92 ?_)
          have hf2 : Fqu I (u2 I1 244 dep (nI p)) := hf1.u
          simp only [mKm, mNm, mIm, mIf, mJm, mJf, mRm, sIm, sJm, rwIm, rwJm, kN, nN, rN, true_and]
          rw [← hcp]
          refine d66 (hq.fr hf2) hw hv (Nat.le_refl _) g2 g3 hf ?_
          rw [hcp]
          have htb := trG_b (fitF π σ p) f (π.1 3 0) (nT π) 0 (σ 4 p)
          have htb : trF π σ f p ≤ 0 + nT π := htb
          have hg2 : g ||| 2 ^ i < 64 := Nat.or_lt_two_pow (n := 6) hg (Nat.pow_lt_pow_right (by decide) hi6)
          have go : CV G (d + 2) 65 [.ref 239, .int (nI dep + 1), .int (nI (g ||| 2 ^ i)), .int (nI (fnx f (trF π σ f p))), .int (nI (s + hit (trF π σ f p)))] (mem r (u2 I1 244 dep (nI p)) J) (fun N2 => XX G (d + 2) none P65 (QV Pv) 61 [.ref 239, .int (nI dep), .int (nI g), .int (nI f), .int (nI s), .int (nI i + 1), jk, jk] [] N2) := by
            rw [nI_1]
            have hhb := hit_b (trF π σ f p)
            refine ihk (d + 2) (dep + 1) (g ||| 2 ^ i) (R &&& (63 - 2 ^ p)) (fnx f (trF π σ f p)) (s + hit (trF π σ f p)) _ (pre ++ [p]) _ _ (by omega) (by omega) (hq.fr hf2) hg2 (fnx_lt hf) (by omega) hx1 (by rw [List.length_append, hl]; rfl) (fun j hj => ?_) ⟨by rw [u2n (by decide)]; exact hS1.1, fun q j hj => by rw [u2n (by decide)]; exact hS1.2 q j hj⟩ (fun q hqN => ?_) ?_ (fun I3 hf3 h443 hS3 => ?_)
            · by_cases e : j = dep
              · subst e; rw [u2s, ← hl, getD_last]
              · rw [u2i e, getD_app (by omega), h44 j (by omega)]; exact hd j (by omega)
            · have hcq : cnU σ q ≤ q := cn_le _ _
              rw [rem_tb hp6 (by omega), hR q hqN, Nat.testBit_or, tb_2 i hi6 _ (by omega)]
              cases eu : uC σ q with
              | false => rfl
              | true =>
                by_cases e2 : q = p
                · subst e2; rw [decide_eq_true rfl, decide_eq_true hcp]; simp
                · have : ¬ cnU σ q = i := fun z => e2 (cn_inj eu g3 (by show cnU σ q = cnU σ p; omega))
                  rw [decide_eq_false e2, decide_eq_false this]; simp
            · have := cn_rem (c := R.testBit) (c' := (R &&& (63 - 2 ^ p)).testBit) g2 (by rw [hRp]; rfl) (fun q hqN => rem_tb hp6 (by omega))
              omega
            · rw [up_cd] at hS3
              have hbv : s + (bcd π σ k R f p).1 ≤ 6 := by
                have := bo_b π σ k (R &&& (63 - 2 ^ p)) (fnx f (trF π σ f p))
                show s + (hit (trF π σ f p) + (bo π σ k (R &&& (63 - 2 ^ p)) (fnx f (trF π σ f p))).1) ≤ 6
                omega
              rw [nI_1]
              refine ih (p + 1) (by omega) hcp1 I3 (hf2.trans hf3) (fun j hj => ?_) (by rw [es2]; exact hS3) (by rw [es2]; exact up_b7 hx1 hbv)
              rw [h443 j (by omega), u2i (by omega), h44 j hj]
          rw [sh_m1 (by omega)]
          refine ifb (fun q0 => b65_111_121 ?_) (fun q0 => b65_119_121 ?_)
          · have e2 : fnx f (trF π σ f p) = f &&& (63 - 2 ^ (trF π σ f p - 1)) := if_neg q0
            have e3 : hit (trF π σ f p) = 1 := if_neg q0
            rw [e2, e3] at go
            rw [sh_ix q0, an_1 f hf _ (by omega), or_1 g hg i hi6]
            refine ifp (nI_nm (by omega)) ⟨rfl, ?_⟩
            rw [nI_1 s]
            exact go
          · rw [Decidable.not_not] at q0
            have e2 : fnx f (trF π σ f p) = f := if_pos q0
            have e3 : hit (trF π σ f p) = 0 := if_pos q0
            rw [e2, e3, Nat.add_zero] at go
            rw [q0, or_1 g hg i hi6]
            exact ifn (fun z => z rfl) ⟨rfl, go⟩
    · have q' : s + (k + 1) + 1 ≤ x.1 := (sh_le (by omega) (by omega)).mp (Int32.not_lt.mp q)
      have h := h I Fqu.rfl' (fun _ _ => rfl)
      rw [up_no (by omega)] at h
      exact h hS
end
