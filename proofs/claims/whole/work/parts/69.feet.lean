/-! whose feet -/
def felB (π : PLN) (σ : ST) (fe : FE) (f k : Nat) : Bool := !bearF π (σ 0 0) (fT fe k) || (decide (dst (szF π (σ 1 (fT fe k)) (σ 2 (fT fe k)) (σ 0 0)) f ≤ π.1 2 0) == fB fe k)
def felF (π : PLN) (σ : ST) (fe : FE) (f : Nat) : Nat → Bool
  | 0 => true
  | k + 1 => felF π σ fe f k && felB π σ fe f k
def alwF (π : PLN) (σ : ST) (fe : FE) (f : Nat) : Bool := felF π σ fe f fe.length
theorem fel_no {π : PLN} {σ : ST} {fe : FE} {f k : Nat} (h : felF π σ fe f k = false) : ∀ n, felF π σ fe f (k + n) = false := by
  intro n
  induction n with
  | zero => exact h
  | succ n ih => show (felF π σ fe f (k + n) && _) = false; rw [ih]; rfl
def fitS (π : PLN) (σ : ST) (t f : Nat) : Bool := decide (dst (szF π (σ 1 t) (σ 2 t) (σ 0 0)) f ≤ π.1 2 0)
/-- how many, the least, the greatest, these 1 more -/
def feeF (c : Nat → Bool) : Nat → Nat × Nat × Nat
  | 0 => (0, 0, 0)
  | k + 1 => if c k then ((feeF c k).1 + 1, if (feeF c k).2.1 = 0 then k + 1 else (feeF c k).2.1, k + 1) else feeF c k
theorem fee_le (c : Nat → Bool) : ∀ k, (feeF c k).1 ≤ k ∧ (feeF c k).2.1 ≤ k ∧ (feeF c k).2.2 ≤ k := by
  intro k
  induction k with
  | zero => exact ⟨Nat.le_refl _, Nat.le_refl _, Nat.le_refl _⟩
  | succ k ih =>
    unfold feeF
    split
    · refine ⟨by show (feeF c k).1 + 1 ≤ k + 1; omega, ?_, Nat.le_refl _⟩
      show (if (feeF c k).2.1 = 0 then k + 1 else (feeF c k).2.1) ≤ k + 1
      split <;> omega
    · omega
def feeV (x : Nat × Nat × Nat) (w : Int32) : Int32 := if w = 0 then nI x.1 else if w = 1 then nI x.2.1 - 1 else nI x.2.2 - 1
def cnF (c : Nat → Bool) : Nat → Nat
  | 0 => 0
  | k + 1 => cnF c k + if c k then 1 else 0
theorem cn_le (c : Nat → Bool) : ∀ k, cnF c k ≤ k := by
  intro k
  induction k with
  | zero => exact Nat.le_refl _
  | succ k ih => unfold cnF; split <;> omega
theorem cn_mono {c c' : Nat → Bool} (h : ∀ k, c' k = true → c k = true) : ∀ k, cnF c' k ≤ cnF c k := by
  intro k
  induction k with
  | zero => exact Nat.le_refl _
  | succ k ih =>
    unfold cnF
    by_cases q : c' k = true
    · rw [if_pos q, if_pos (h k q)]; omega
    · rw [if_neg q]; omega
def aliF (π : PLN) (σ : ST) (fe : FE) : Nat := cnF (alwF π σ fe) 41
def parF (π : PLN) (σ : ST) (fe : FE) (t : Nat) : Nat := cnF (fun f => alwF π σ fe f && fitS π σ t f) 41
def askF (π : PLN) (σ : ST) (fe : FE) : Nat → Nat × Nat
  | 0 => (0, aliF π σ fe)
  | t + 1 => if bearF π (σ 0 0) t && decide (max (parF π σ fe t) (aliF π σ fe - parF π σ fe t) < (askF π σ fe t).2) then (t + 1, max (parF π σ fe t) (aliF π σ fe - parF π σ fe t)) else askF π σ fe t
theorem ask_le (π : PLN) (σ : ST) (fe : FE) : ∀ t, (askF π σ fe t).1 ≤ t ∧ (askF π σ fe t).2 ≤ 41 := by
  have h1 : aliF π σ fe ≤ 41 := cn_le _ 41
  intro t
  induction t with
  | zero => exact ⟨Nat.le_refl _, h1⟩
  | succ t ih =>
    have h2 : parF π σ fe t ≤ 41 := cn_le _ 41
    unfold askF
    split
    · exact ⟨Nat.le_refl _, by show max _ _ ≤ 41; omega⟩
    · omega
theorem add_b (n : Nat) (b : Bool) : (if b then nI n + 1 else nI n + 0) = nI (n + if b then 1 else 0) := by
  cases b
  · exact Int32.add_zero _
  · exact nI_1 n
section
variable {G : GG} {d : Nat} {P : Int32 → mm_M → Prop} {Pv : mm_M → Prop} {Q : Option Value → mm_M → Prop} {r : Nat → Nat} {I : Nat → Nat → Int32} {J : Nat → Nat → Int64} {π : PLN} {σ : Nat → Nat → Nat} {us : List ST} {fe : FE} {ms : Nat → Option (ST × FE)} {ln : LN} {nm : NMT} {tp : List Nat} {y : Nat}
theorem d3 {f : Nat} (hk : KS I 38 π σ) (hz : SZ I π σ) (hc : CF I 231 fe) (hwf : WF π fe) (hf : f ≤ 40) (h : P (bI (alwF π σ fe f)) (mem r I J)) : CI G (d + 2) 3 [.ref 231, .int (nI f), .ref 245, .int (nI (π.1 2 0))] (mem r I J) P := by
  have hT := hk.w.t
  have hpi := hk.w.pinch
  have h8 := hwf.1
  have f231 : 231 ∈ feL := by decide
  unfold alwF at h
  refine e3 (lp (n := fe.length) (X := fun k => felF π σ fe f k = true → XX G (d + 1) (some .boolean) P3 (QI P) 3 [.ref 231, .int (nI f), .ref 245, .int (nI (π.1 2 0)), .int (nI k), jk, jk] [] (mem r I J)) (fun e => ?_) (fun k hkn ih e => ?_) rfl)
  · refine x3_3 ?_
    simp only [mKm, mNm, mIm, mIf, mJm, mJf, mRm, sIm, sJm, rwIm, rwJm, kN, nN, rN, true_and, feN f231, hc.1]
    refine ifp (nI_le (Nat.le_refl _) (by omega)) ⟨_, rfl, ?_⟩
    rw [e] at h; exact h
  · have hk8 : k < 8 := by omega
    have ht := hwf.2 k hkn
    have h6 : fT fe k < 6 := by omega
    have e1 := (hc.2 k hkn).1
    have e2 : I 233 k = bI (fB fe k) := (hc.2 k hkn).2
    have no : felB π σ fe f k = false → P 0 (mem r I J) := fun q => by
      have := fel_no (π := π) (σ := σ) (fe := fe) (f := f) (k := k + 1) (by show (_ && _) = false; rw [q, Bool.and_false]) (fe.length - (k + 1))
      rw [show k + 1 + (fe.length - (k + 1)) = fe.length by omega] at this
      rw [this] at h; exact h
    have yes : felB π σ fe f k = true → felF π σ fe f (k + 1) = true := fun q => by show (_ && _) = true; rw [e, q]; rfl
    refine x3_3 ?_
    simp only [mKm, mNm, mIm, mIf, mJm, mJf, mRm, sIm, sJm, rwIm, rwJm, kN, nN, rN, true_and, feN f231, hc.1, ix hk8 (by decide), e1, ix h6 (by decide), nI_1]
    refine ifn (nI_ge hkn (by omega)) (ifn (nI_pos (by omega)) ⟨⟨by decide, by decide⟩, ifn (nI_ge (b := 6) h6 (by decide)) ?_⟩)
    by_cases q : bearF π (σ 0 0) (fT fe k) = true
    · rw [hz.bear ht q]
      have hs := sz_le (π := π) (l := σ 1 (fT fe k)) (g := σ 2 (fT fe k)) (y := σ 0 0)
      have hd := dst_le (a := szF π (σ 1 (fT fe k)) (σ 2 (fT fe k)) (σ 0 0)) (b := f) (n := 40) hs hf
      refine c288 ?_
      rw [m_abs (by omega) (by omega)]
      have eb : ∀ c : Bool, decide (dst (szF π (σ 1 (fT fe k)) (σ 2 (fT fe k)) (σ 0 0)) f ≤ π.1 2 0) = c → felB π σ fe f k = (c == fB fe k) := fun c hc => by unfold felB; rw [q, hc]; rfl
      refine ifb (fun q1 => b3_64_67 (ifn (nI_nm (by omega)) ?_)) (fun q1 => b3_65_67 (ifn (nI_nm (by omega)) ?_))
      · rw [nI_ltI (by omega) (by omega)] at q1
        have e3 := eb false (by rw [decide_eq_false_iff_not]; omega)
        simp only [mKm, mNm, mIm, mIf, mJm, mJf, mRm, sIm, sJm, rwIm, rwJm, kN, nN, rN, true_and, feN f231, ix hk8 (by decide), e2, nI_1]
        cases e4 : fB fe k with
        | false => exact ifp rfl (ih (yes (by rw [e3, e4]; rfl)))
        | true => exact ifn (by decide) ⟨_, rfl, no (by rw [e3, e4]; rfl)⟩
      · rw [nI_ltI (by omega) (by omega)] at q1
        have e3 := eb true (by rw [decide_eq_true_eq]; omega)
        simp only [mKm, mNm, mIm, mIf, mJm, mJf, mRm, sIm, sJm, rwIm, rwJm, kN, nN, rN, true_and, feN f231, ix hk8 (by decide), e2, nI_1]
        cases e4 : fB fe k with
        | false => exact ifn (by decide) ⟨_, rfl, no (by rw [e3, e4]; rfl)⟩
        | true => exact ifp rfl (ih (yes (by rw [e3, e4]; rfl)))
    · rw [hz.no ht q]
      have e3 : felB π σ fe f k = true := by unfold felB; rw [Bool.not_eq_true] at q; rw [q]; rfl
      refine c288 ?_
      refine ifb (fun q1 => b3_64_67 (ifp rfl ?_)) (fun q1 => b3_65_67 (ifp rfl ?_))
      · rw [nI_1]; exact ih (yes e3)
      · rw [nI_1]; exact ih (yes e3)
theorem m257 {t f : Nat} (hk : KR I 0 π σ) (ht : t < nT π) (hf : f ≤ 40) (h : ∀ I', Fr [261, 262] I I' → P (bI (fitS π σ t f)) (mem r I' J)) : CI G (d + 4) 257 [.ref 247, .int (nI t), .int (nI f)] (mem r I J) P := by
  have hpi := hk.w.pinch
  have hs := sz_le (π := π) (l := σ 1 t) (g := σ 2 t) (y := σ 0 0)
  have hd := dst_le (a := szF π (σ 1 t) (σ 2 t) (σ 0 0)) (b := f) (n := 40) hs hf
  refine e257 ?_
  simp only [mKm, mNm, mIm, mIf, mJm, mJf, mRm, sIm, sJm, rwIm, rwJm, kN, nN, rN, true_and]
  refine m207 (b := 0) hk ht (fun I1 hf1 => m216 (by omega) (by omega) ?_)
  simp only [mKm, mNm, mIm, mIf, mJm, mJf, mRm, sIm, sJm, rwIm, rwJm, kN, nN, rN, true_and, (hk.fr hf1).p.n2, ixl (n := 2) (N := 100) (x := 2) rfl (by decide) (by decide)]
  have h := h I1 hf1
  unfold fitS at h
  refine ifb (fun q => ?_) (fun q => ?_)
  · rw [nI_ltI (by omega) (by omega)] at q
    rw [decide_eq_false (by omega)] at h; exact h
  · rw [nI_ltI (by omega) (by omega)] at q
    rw [decide_eq_true (by omega)] at h; exact h
theorem m256 {f : Nat} (hk : KR I 0 π σ) (hc : RF I 0 fe) (hwf : WF π fe) (hf : f ≤ 40) (h : ∀ I', Fr [261, 262] I I' → P (bI (alwF π σ fe f)) (mem r I' J)) : CI G (d + 5) 256 [.ref 247, .int (nI f)] (mem r I J) P := by
  have h8 := hwf.1
  refine e256 (lp (n := fe.length) (X := fun k => ∀ I', Fr [261, 262] I I' → XX G (d + 4) (some .boolean) P256 (QI P) 4 [.ref 247, .int (nI f), .int (bI (felF π σ fe f k)), .int (nI k), jk] [] (mem r I' J)) (fun I1 hf1 => ?_) (fun k hkn ih I1 hf1 => ?_) I Fr.rfl)
  · have e43 : I1 263 43 = nI fe.length := by rw [hf1 263 (by decide)]; exact hc.1
    refine x256_4 ?_
    simp only [mKm, mNm, mIm, mIf, mJm, mJf, mRm, sIm, sJm, rwIm, rwJm, kN, nN, rN, true_and, e43, ixl (n := 43) (N := 1380) (x := 43) rfl (by decide) (by decide)]
    refine ifp (nI_le (Nat.le_refl _) (by omega)) ⟨?_, _, rfl, h I1 hf1⟩
    cases felF π σ fe f fe.length
    · exact Or.inl rfl
    · exact Or.inr rfl
  · have e43 : I1 263 43 = nI fe.length := by rw [hf1 263 (by decide)]; exact hc.1
    have ht := hwf.2 k hkn
    have e1 : I1 263 (44 + 2 * k) = nI (fT fe k) := by
      rw [hf1 263 (by decide)]; have := (hc.2 k hkn).1; rw [show (0 : Nat) + 44 = 44 from rfl] at this; exact this
    have e2 : ∀ I', Fr [261, 262] I I' → I' 263 (44 + 2 * k + 1) = bI (fB fe k) := fun I' hf' => by
      rw [hf' 263 (by decide)]; have := (hc.2 k hkn).2; rw [show (0 : Nat) + 44 = 44 from rfl] at this; exact this
    refine x256_4 ?_
    simp only [mKm, mNm, mIm, mIf, mJm, mJf, mRm, sIm, sJm, rwIm, rwJm, kN, nN, rN, true_and, e43, ixl (n := 43) (N := 1380) (x := 43) rfl (by decide) (by decide), q44, ix (show 44 + 2 * k < 1380 by omega) (by decide), e1]
    refine ifn (nI_ge hkn (by omega)) ?_
    have hs : ∀ c : Bool, felF π σ fe f (k + 1) = c → ∀ I', Fr [261, 262] I I' → XX G (d + 4) (some .boolean) P256 (QI P) 4 [.ref 247, .int (nI f), .int (bI c), .int (nI (k + 1)), jk] [] (mem r I' J) := fun c hc I' hf' => by rw [← hc]; exact ih I' hf'
    cases e : felF π σ fe f k with
    | false =>
      refine ifp rfl (b256_79_81 ?_)
      rw [nI_1]
      exact hs false (by show (_ && _) = false; rw [e]; rfl) I1 hf1
    | true =>
      refine ifn (by decide) (m204 (b := 0) (hk.fr hf1) ht ?_)
      by_cases q : bearF π (σ 0 0) (fT fe k) = true
      · rw [if_pos q]
        refine ifn (by decide) ?_
        simp only [mKm, mNm, mIm, mIf, mJm, mJf, mRm, sIm, sJm, rwIm, rwJm, kN, nN, rN, true_and, ix (show 44 + 2 * k < 1380 by omega) (by decide), e1]
        refine m257 (hk.fr hf1) ht hf (fun I2 hf2 => ?_)
        have hf3 := hf1.trans hf2
        have eb : felF π σ fe f (k + 1) = (fitS π σ (fT fe k) f == fB fe k) := by show (_ && _) = _; rw [e]; unfold felB; rw [q]; rfl
        simp only [mKm, mNm, mIm, mIf, mJm, mJf, mRm, sIm, sJm, rwIm, rwJm, kN, nN, rN, true_and, nI_1, ix (show 44 + 2 * k + 1 < 1380 by omega) (by decide), e2 I2 hf3]
        cases e3 : fB fe k with
        | false =>
          refine ifp (by decide) ?_
          cases e4 : fitS π σ (fT fe k) f with
          | false => exact ifn (fun z => z rfl) (b256_80_81 (by rw [nI_1]; exact hs true (by rw [eb, e3, e4]; rfl) I2 hf3))
          | true => exact ifp (by decide) (b256_79_81 (by rw [nI_1]; exact hs false (by rw [eb, e3, e4]; rfl) I2 hf3))
        | true =>
          refine ifn (fun z => z rfl) ?_
          cases e4 : fitS π σ (fT fe k) f with
          | false => exact ifp (by decide) (b256_79_81 (by rw [nI_1]; exact hs false (by rw [eb, e3, e4]; rfl) I2 hf3))
          | true => exact ifn (fun z => z rfl) (b256_80_81 (by rw [nI_1]; exact hs true (by rw [eb, e3, e4]; rfl) I2 hf3))
      · rw [if_neg q]
        refine ifp rfl (b256_80_81 ?_)
        rw [nI_1]
        refine hs true ?_ I1 hf1
        show (_ && _) = true
        rw [e]; unfold felB; rw [Bool.not_eq_true] at q; rw [q]; rfl
theorem d140 {w : Int32} (hk : KS I 38 π σ) (hc : CF I 231 fe) (hwf : WF π fe) (hw : 0 ≤ w ∧ w ≤ 2) (h : ∀ I', Fr [15, 245] I I' → P (feeV (feeF (alwF π σ fe) 41) w) (mem r I' J)) : CI G (d + 7) 140 [.ref 1, .int w] (mem r I J) P := by
  refine e140 (ifn (Int32.not_lt.mpr hw.1) (ifp hw.2 ?_))
  simp only [mKm, mNm, mIm, mIf, mJm, mJf, mRm, sIm, sJm, rwIm, rwJm, kN, nN, rN, true_and]
  refine d123 hk (fun I1 hf1 hz => b140_11_23 ?_)
  have hk1 := hk.fq hf1
  have hc1 : CF I1 231 fe := hc.keep (fun a h1 h2 => hf1 a (by simp; omega))
  have h := h I1 hf1
  refine lp (n := 41) (X := fun k => XX G (d + 6) (some .int) P140 (QI P) 29 [.ref 1, .int w, .int (nI (feeF (alwF π σ fe) k).1), .int (nI (feeF (alwF π σ fe) k).2.1 - 1), .int (nI (feeF (alwF π σ fe) k).2.2 - 1), .int (nI k)] [] (mem r I1 J)) ?_ (fun k hkn ih => ?_)
  · refine x140_29 (ifp (by decide) ?_)
    unfold feeV at h
    refine ifb (fun q => ?_) (fun q => ?_)
    · rw [if_neg q] at h
      refine ifb (fun q2 => ?_) (fun q2 => ?_)
      · rw [if_neg q2] at h; exact ⟨_, rfl, h⟩
      · rw [if_pos (Decidable.not_not.mp q2)] at h; exact ⟨_, rfl, h⟩
    · rw [if_pos (Decidable.not_not.mp q)] at h; exact ⟨_, rfl, h⟩
  · have hb := fee_le (alwF π σ fe) k
    refine x140_29 (ifn ?_ ?_)
    · exact nI_nlt (a := 40) (b := k) (by omega) (by decide)
    simp only [mKm, mNm, mIm, mIf, mJm, mJf, mRm, sIm, sJm, rwIm, rwJm, kN, nN, rN, true_and, hk1.p.n2]
    refine d3 hk1 hz hc1 hwf (by omega) ?_
    unfold feeF at ih
    cases e : alwF π σ fe k with
    | false =>
      refine ifp rfl ?_
      rw [nI_1]
      rw [e] at ih
      exact ih
    | true =>
      rw [e] at ih
      simp only [if_true] at ih
      refine ifn (by decide) ?_
      rw [sh_m1 (by omega), nI_1]
      refine ifb (fun q => b140_72_74 (b140_72_81 ?_)) (fun q => b140_73_74 (b140_73_81 ?_))
      · rw [if_neg q, nI_pred] at ih
        rw [nI_1]
        exact ih
      · rw [if_pos (Decidable.not_not.mp q), nI_pred] at ih
        rw [nI_1]
        exact ih
theorem d140o {w : Int32} {M : mm_M} (hw : ¬ (0 ≤ w ∧ w ≤ 2)) (h : P (-1) M) : CI G (d + 7) 140 [.ref 1, .int w] M P :=
  e140 (ifb (fun _ => h) (fun q => ifn (fun q2 => hw ⟨Int32.not_lt.mp q, q2⟩) h))
theorem m255 {w : Int32} (hk : KR I 0 π σ) (hc : RF I 0 fe) (hwf : WF π fe) (hw : 0 ≤ w ∧ w ≤ 2) (h : ∀ I', Fr [261, 262] (T0 I) I' → P (feeV (feeF (alwF π σ fe) 41) w) (mem r I' J)) : CI G (d + 7) 255 [.ref 247, .int w] (mem r I J) P := by
  have hk0 := hk.t0
  have hc0 : RF (T0 I) 0 fe := hc.keep hwf.1 (fun k _ _ => by unfold T0; rw [u2n (by decide)])
  refine e255 ?_
  simp only [mKm, mNm, mIm, mIf, mJm, mJf, mRm, sIm, sJm, rwIm, rwJm, kN, nN, rN, true_and]
  refine m201 ?_
  rw [if_pos hw]
  refine ifp (by decide) (b255_16_20 ?_)
  refine lp (n := 41) (X := fun k => ∀ I', Fr [261, 262] (T0 I) I' → XX G (d + 6) (some .int) P255 (QI P) 26 [.ref 247, .int w, .int (nI (feeF (alwF π σ fe) k).1), .int (nI (feeF (alwF π σ fe) k).2.1 - 1), .int (nI (feeF (alwF π σ fe) k).2.2 - 1), .int (nI k), jk] [] (mem r I' J)) (fun I1 hf1 => ?_) (fun k hkn ih I1 hf1 => ?_) (T0 I) Fr.rfl
  · refine x255_26 (ifp (by decide) ?_)
    have h := h I1 hf1
    unfold feeV at h
    refine ifb (fun q => ?_) (fun q => ?_)
    · rw [if_neg q] at h
      refine ifb (fun q2 => ?_) (fun q2 => ?_)
      · rw [if_neg q2] at h; exact ⟨_, rfl, h⟩
      · rw [if_pos (Decidable.not_not.mp q2)] at h; exact ⟨_, rfl, h⟩
    · rw [if_pos (Decidable.not_not.mp q)] at h; exact ⟨_, rfl, h⟩
  · have hb := fee_le (alwF π σ fe) k
    refine x255_26 (ifn (nI_nlt (a := 40) (b := k) (by omega) (by decide)) ?_)
    simp only [mKm, mNm, mIm, mIf, mJm, mJf, mRm, sIm, sJm, rwIm, rwJm, kN, nN, rN, true_and]
    refine m256 (hk0.fr hf1) (hc0.keep hwf.1 (fun j _ _ => by rw [hf1 263 (by decide)])) hwf (by omega) (fun I2 hf2 => ?_)
    have ih := ih I2 (hf1.trans hf2)
    unfold feeF at ih
    cases e : alwF π σ fe k with
    | false =>
      rw [e] at ih
      refine ifp rfl (b255_51_54 (ifp rfl (ifp rfl (b255_80_84 ?_))))
      rw [nI_1, Int32.add_zero]
      exact ih
    | true =>
      rw [e] at ih
      simp only [if_true] at ih
      refine ifn (by decide) (b255_52_54 (ifn (by decide) ?_))
      rw [nI_1]
      refine ifb (fun q => ifn (by decide) (b255_82_84 ?_)) (fun q => ifn (by decide) (b255_82_84 ?_))
      · have q' : ¬ (feeF (alwF π σ fe) k).2.1 = 0 := fun z => by rw [z] at q; exact absurd q (by decide)
        rw [if_neg q', nI_pred] at ih
        rw [nI_1]
        exact ih
      · have q' : (feeF (alwF π σ fe) k).2.1 = 0 := (sh_lt (by omega)).mp (Int32.not_le.mp q)
        rw [if_pos q', nI_pred] at ih
        rw [nI_1]
        exact ih
theorem m255o {w : Int32} (hw : ¬ (0 ≤ w ∧ w ≤ 2)) (h : P (-1) (mem r (T0 I) J)) : CI G (d + 7) 255 [.ref 247, .int w] (mem r I J) P := by
  refine e255 ?_
  simp only [mKm, mNm, mIm, mIf, mJm, mJf, mRm, sIm, sJm, rwIm, rwJm, kN, nN, rN, true_and]
  refine m201 ?_
  rw [if_neg hw]
  exact ifn (fun z => z rfl) h
theorem L140 {M : mm_M} (h : PR y M) (w : Int32) : EQ G (d + 40) 140 255 y [.int w] M := by
  obtain ⟨r, I, J, π, σ, us, ms, fe, ln, nm, tp, rfl, hA, hR, hY⟩ := h
  by_cases q : 0 ≤ w ∧ w ≤ 2
  · exact d140 hA.k hA.cf hA.wf q (fun I1 hf1 => ⟨rfl, m255 (hR.k.lo (Fr15 hf1)) (hR.rf.keep hA.wf.1 (fun k _ _ => by rw [Fr15 hf1 263 (by decide)])) hA.wf q (fun I2 hf2 => ⟨rfl, PR_qq hA hR hY (by omega) hf1 hf2⟩)⟩)
  · exact d140o q ⟨rfl, m255o q ⟨rfl, PR_qq hA hR hY (by omega) Fr.rfl Fr.rfl⟩⟩
/-! which to ask -/
theorem d142 {t : Nat} (hk : KS I 38 π σ) (hz : SZ I π σ) (hc : CF I 231 fe) (hwf : WF π fe) (ht : t < nT π) (h : P (nI (parF π σ fe t)) (mem r I J)) : CI G (d + 3) 142 [.ref 1, .int (nI (szF π (σ 1 t) (σ 2 t) (σ 0 0)))] (mem r I J) P := by
  have hpi := hk.w.pinch
  have hs := sz_le (π := π) (l := σ 1 t) (g := σ 2 t) (y := σ 0 0)
  refine e142 (lp (n := 41) (X := fun k => XX G (d + 2) (some .int) P142 (QI P) 4 [.ref 1, .int (nI (szF π (σ 1 t) (σ 2 t) (σ 0 0))), .int (nI (cnF (fun f => alwF π σ fe f && fitS π σ t f) k)), .int (nI k)] [] (mem r I J)) ?_ (fun k hkn ih => ?_))
  · exact x142_4 (ifp (by decide) ⟨_, rfl, h⟩)
  · have hd := dst_le (a := szF π (σ 1 t) (σ 2 t) (σ 0 0)) (b := k) (n := 40) hs (by omega)
    refine x142_4 (ifn (nI_nlt (a := 40) (b := k) (by omega) (by decide)) (c288 ?_))
    rw [m_abs (by omega) (by omega)]
    simp only [mKm, mNm, mIm, mIf, mJm, mJf, mRm, sIm, sJm, rwIm, rwJm, kN, nN, rN, true_and, hk.p.n2, nI_1]
    unfold cnF at ih
    refine ifb (fun q => ?_) (fun q => ?_)
    · rw [nI_ltI (by omega) (by omega)] at q
      have e : fitS π σ t k = false := decide_eq_false (by omega)
      rw [e, Bool.and_false] at ih
      exact ih
    · rw [nI_ltI (by omega) (by omega)] at q
      have e : fitS π σ t k = true := decide_eq_true (by omega)
      rw [e, Bool.and_true] at ih
      refine d3 hk hz hc hwf (by omega) ?_
      cases e2 : alwF π σ fe k with
      | false => rw [e2] at ih; exact ifp rfl ih
      | true => rw [e2] at ih; exact ifn (by decide) (b142_4_54 ih)
theorem d141 (hk : KS I 38 π σ) (hc : CF I 231 fe) (hwf : WF π fe) (h : ∀ I', Fr [15, 245] I I' → P (nI (askF π σ fe (nT π)).1 - 1) (mem r I' J)) : CI G (d + 7) 141 [.ref 1] (mem r I J) P := by
  have hT := hk.w.t
  refine e141 ?_
  simp only [mKm, mNm, mIm, mIf, mJm, mJf, mRm, sIm, sJm, rwIm, rwJm, kN, nN, rN, true_and]
  refine d123 hk (fun I1 hf1 hz => ?_)
  have hk1 := hk.fq hf1
  have hc1 : CF I1 231 fe := hc.keep (fun a h1 h2 => hf1 a (by simp; omega))
  have h := h I1 hf1
  have hal : aliF π σ fe ≤ 41 := cn_le _ 41
  refine lp (n := 41) (X := fun k => XX G (d + 6) (some .int) P141 (QI P) 12 [.ref 1, .int (nI (cnF (alwF π σ fe) k)), .int (nI k), jk, jk, jk, jk] [] (mem r I1 J)) ?_ (fun k hkn ih => ?_)
  · refine x141_12 (ifp (by decide) (b141_54_58 ?_))
    refine lp (n := nT π) (X := fun t => XX G (d + 6) (some .int) P141 (QI P) 61 [.ref 1, .int (nI (aliF π σ fe)), .int (nI (askF π σ fe t).1 - 1), .int (nI (askF π σ fe t).2), .int (nI t), jk, jk] [] (mem r I1 J)) ?_ (fun t htn ih => ?_)
    · refine x141_61 ?_
      simp only [mKm, mNm, mIm, mIf, mJm, mJf, mRm, sIm, sJm, rwIm, rwJm, kN, nN, rN, true_and, hk1.p.n0]
      exact ifp (nI_le (Nat.le_refl _) (by omega)) ⟨_, rfl, h⟩
    · have h6 : t < 6 := by omega
      have hb := ask_le π σ fe t
      have hpl : parF π σ fe t ≤ 41 := cn_le _ 41
      have hpa : parF π σ fe t ≤ aliF π σ fe := cn_mono (fun k q => by simp only [Bool.and_eq_true] at q; exact q.1) 41
      refine x141_61 ?_
      simp only [mKm, mNm, mIm, mIf, mJm, mJf, mRm, sIm, sJm, rwIm, rwJm, kN, nN, rN, true_and, hk1.p.n0, ix h6 (by decide), nI_1]
      refine ifn (nI_ge htn (by omega)) ?_
      unfold askF at ih
      by_cases q : bearF π (σ 0 0) t = true
      · rw [hz.bear htn q]
        rw [q, Bool.true_and] at ih
        refine ifn (nI_nm (by have := sz_le (π := π) (l := σ 1 t) (g := σ 2 t) (y := σ 0 0); omega)) (d142 hk1 hz hc1 hwf htn (c286 ?_))
        rw [pk_sub hpa, m_max (by omega) (by omega)]
        refine b141_61_108 (ifb (fun q2 => ?_) (fun q2 => b141_61_120 ?_))
        · rw [nI_leI (by omega) (by omega)] at q2
          rw [decide_eq_false (by omega)] at ih
          rw [nI_1]; exact ih
        · rw [nI_leI (by omega) (by omega)] at q2
          rw [decide_eq_true (by omega)] at ih
          simp only [if_true, nI_pred] at ih
          rw [nI_1]; exact ih
      · rw [hz.no htn q]
        rw [Bool.not_eq_true] at q
        rw [q, Bool.false_and] at ih
        exact ifp rfl ih
  · refine x141_12 (ifn (nI_nlt (a := 40) (b := k) (by omega) (by decide)) ?_)
    simp only [mKm, mNm, mIm, mIf, mJm, mJf, mRm, sIm, sJm, rwIm, rwJm, kN, nN, rN, true_and, hk1.p.n2]
    refine d3 hk1 hz hc1 hwf (by omega) ?_
    unfold cnF at ih
    cases e : alwF π σ fe k with
    | false => rw [e] at ih; exact ifp rfl (b141_45_51 (by rw [Int32.add_zero, nI_1]; exact ih))
    | true => rw [e] at ih; exact ifn (by decide) (b141_46_51 (by rw [nI_1, nI_1]; exact ih))
theorem m258 (hk : KR I 0 π σ) (hc : RF I 0 fe) (hwf : WF π fe) (h : ∀ I', Fr [261, 262] (T0 I) I' → P (nI (askF π σ fe (nT π)).1 - 1) (mem r I' J)) : CI G (d + 7) 258 [.ref 247] (mem r I J) P := by
  have hT := hk.w.t
  have hk0 := hk.t0
  have hc0 : RF (T0 I) 0 fe := hc.keep hwf.1 (fun k _ _ => by unfold T0; rw [u2n (by decide)])
  have hal : aliF π σ fe ≤ 41 := cn_le _ 41
  refine e258 ?_
  simp only [mKm, mNm, mIm, mIf, mJm, mJf, mRm, sIm, sJm, rwIm, rwJm, kN, nN, rN, true_and]
  refine lp (n := 41) (X := fun k => ∀ I', Fr [261, 262] (T0 I) I' → XX G (d + 6) (some .int) P258 (QI P) 9 [.ref 247, .int (nI (cnF (alwF π σ fe) k)), .int (nI k), jk, jk, jk, jk, jk] [] (mem r I' J)) (fun I1 hf1 => ?_) (fun k hkn ih I1 hf1 => ?_) (T0 I) Fr.rfl
  · refine x258_9 (ifp (by decide) (b258_37_41 ?_))
    refine lp (n := nT π) (X := fun t => ∀ I', Fr [261, 262] (T0 I) I' → XX G (d + 6) (some .int) P258 (QI P) 44 [.ref 247, .int (nI (aliF π σ fe)), .int (nI (askF π σ fe t).1 - 1), .int (nI (askF π σ fe t).2), .int (nI t), jk, jk, jk] [] (mem r I' J)) (fun I2 hf2 => ?_) (fun t htn ih I2 hf2 => ?_) I1 hf1
    · refine x258_44 ?_
      simp only [mKm, mNm, mIm, mIf, mJm, mJf, mRm, sIm, sJm, rwIm, rwJm, kN, nN, rN, true_and]
      exact m166 (hk0.fr hf2).p (ifp (nI_le (Nat.le_refl _) (by omega)) ⟨_, rfl, h I2 hf2⟩)
    · have h6 : t < 6 := by omega
      have hb := ask_le π σ fe t
      have hpl : parF π σ fe t ≤ 41 := cn_le _ 41
      have hpa : parF π σ fe t ≤ aliF π σ fe := cn_mono (fun k q => by simp only [Bool.and_eq_true] at q; exact q.1) 41
      refine x258_44 ?_
      simp only [mKm, mNm, mIm, mIf, mJm, mJf, mRm, sIm, sJm, rwIm, rwJm, kN, nN, rN, true_and]
      refine m166 (hk0.fr hf2).p (ifn (nI_ge htn (by omega)) ?_)
      refine lp (n := 41) (X := fun k => ∀ I', Fr [261, 262] (T0 I) I' → XX G (d + 6) (some .int) P258 (QI P) 59 [.ref 247, .int (nI (aliF π σ fe)), .int (nI (askF π σ fe t).1 - 1), .int (nI (askF π σ fe t).2), .int (nI t), .int (nI (cnF (fun f => alwF π σ fe f && fitS π σ t f) k)), .int (nI k), jk] [] (mem r I' J)) (fun I3 hf3 => ?_) (fun k hkn ih2 I3 hf3 => ?_) I2 hf2
      · have ih := ih I3 hf3
        unfold askF at ih
        have tail : ∀ g : Nat, g = max (parF π σ fe t) (aliF π σ fe - parF π σ fe t) → CI G (d + 6) 204 [.ref 247, .int 0, .int (nI t)] (mem r I3 J) (fun v1 N2 => ifP (v1 = 0) (BB G (d + 6) (some .int) P258 (QI P) S258_142_145 145 [.ref 247, .int (nI (aliF π σ fe)), .int (nI (askF π σ fe t).1 - 1), .int (nI (askF π σ fe t).2), .int (nI t), .int (nI (parF π σ fe t)), .int (nI g), .int 0] [] N2) (ifP (nI (askF π σ fe t).2 ≤ nI g) (BB G (d + 6) (some .int) P258 (QI P) S258_142_145 145 [.ref 247, .int (nI (aliF π σ fe)), .int (nI (askF π σ fe t).1 - 1), .int (nI (askF π σ fe t).2), .int (nI t), .int (nI (parF π σ fe t)), .int (nI g), .int 0] [] N2) (BB G (d + 6) (some .int) P258 (QI P) S258_143_145 145 [.ref 247, .int (nI (aliF π σ fe)), .int (nI (askF π σ fe t).1 - 1), .int (nI (askF π σ fe t).2), .int (nI t), .int (nI (parF π σ fe t)), .int (nI g), .int 1] [] N2))) := fun g hg => by
          rw [← hg] at ih
          refine m204 (b := 0) (hk0.fr hf3) htn ?_
          by_cases q : bearF π (σ 0 0) t = true
          · rw [q, Bool.true_and] at ih
            rw [if_pos q]
            refine ifn (by decide) (ifb (fun q2 => ?_) (fun q2 => ?_))
            · rw [nI_leI (by omega) (by omega)] at q2
              rw [decide_eq_false (by omega)] at ih
              refine b258_142_145 (ifp rfl (ifp rfl (b258_167_169 ?_)))
              rw [nI_1]; exact ih
            · rw [nI_leI (by omega) (by omega)] at q2
              rw [decide_eq_true (by omega)] at ih
              simp only [if_true, nI_pred] at ih
              refine b258_143_145 (ifn (by decide) (ifn (by decide) (b258_168_169 ?_)))
              rw [nI_1]; exact ih
          · rw [if_neg q]
            rw [Bool.not_eq_true] at q
            rw [q, Bool.false_and] at ih
            refine ifp rfl (b258_142_145 (ifp rfl (ifp rfl (b258_167_169 ?_))))
            rw [nI_1]; exact ih
        show XX G (d + 6) (some .int) P258 (QI P) 59 [.ref 247, .int (nI (aliF π σ fe)), .int (nI (askF π σ fe t).1 - 1), .int (nI (askF π σ fe t).2), .int (nI t), .int (nI (parF π σ fe t)), .int (nI 41), jk] [] (mem r I3 J)
        refine x258_59 (ifp (by decide) ?_)
        simp only [mKm, mNm, mIm, mIf, mJm, mJf, mRm, sIm, sJm, rwIm, rwJm, kN, nN, rN, true_and, pk_sub hpa]
        refine ifb (fun q => ?_) (fun q => ?_)
        · rw [nI_leI (by omega) (by omega)] at q
          exact tail (aliF π σ fe - parF π σ fe t) (by omega)
        · rw [nI_leI (by omega) (by omega)] at q
          exact tail (parF π σ fe t) (by omega)
      · refine x258_59 (ifn (nI_nlt (a := 40) (b := k) (by omega) (by decide)) ?_)
        simp only [mKm, mNm, mIm, mIf, mJm, mJf, mRm, sIm, sJm, rwIm, rwJm, kN, nN, rN, true_and]
        refine m256 (hk0.fr hf3) (hc0.keep hwf.1 (fun j _ _ => by rw [hf3 263 (by decide)])) hwf (by omega) (fun I4 hf4 => ?_)
        have hf5 := hf3.trans hf4
        unfold cnF at ih2
        cases e : alwF π σ fe k with
        | false =>
          have ih2 := ih2 I4 hf5
          rw [e, Bool.false_and] at ih2
          exact ifp rfl (b258_92_99 (by rw [Int32.add_zero, nI_1]; exact ih2))
        | true =>
          refine ifn (by decide) ?_
          simp only [mKm, mNm, mIm, mIf, mJm, mJf, mRm, sIm, sJm, rwIm, rwJm, kN, nN, rN, true_and]
          refine m257 (hk0.fr hf5) htn (by omega) (fun I6 hf6 => ?_)
          have ih2 := ih2 I6 (hf5.trans hf6)
          rw [e, Bool.true_and] at ih2
          cases e2 : fitS π σ t k with
          | false => rw [e2] at ih2; exact ifp rfl (b258_92_99 (by rw [Int32.add_zero, nI_1]; exact ih2))
          | true => rw [e2] at ih2; exact ifn (by decide) (b258_93_99 (by rw [nI_1, nI_1]; exact ih2))
  · refine x258_9 (ifn (nI_nlt (a := 40) (b := k) (by omega) (by decide)) ?_)
    simp only [mKm, mNm, mIm, mIf, mJm, mJf, mRm, sIm, sJm, rwIm, rwJm, kN, nN, rN, true_and]
    refine m256 (hk0.fr hf1) (hc0.keep hwf.1 (fun j _ _ => by rw [hf1 263 (by decide)])) hwf (by omega) (fun I2 hf2 => ?_)
    have ih := ih I2 (hf1.trans hf2)
    unfold cnF at ih
    cases e : alwF π σ fe k with
    | false => rw [e] at ih; exact ifp rfl (b258_28_34 (by rw [Int32.add_zero, nI_1]; exact ih))
    | true => rw [e] at ih; exact ifn (by decide) (b258_29_34 (by rw [nI_1, nI_1]; exact ih))
theorem L141 {M : mm_M} (h : PR y M) : EQ G (d + 40) 141 258 y [] M := by
  obtain ⟨r, I, J, π, σ, us, ms, fe, ln, nm, tp, rfl, hA, hR, hY⟩ := h
  exact d141 hA.k hA.cf hA.wf (fun I1 hf1 => ⟨rfl, m258 (hR.k.lo (Fr15 hf1)) (hR.rf.keep hA.wf.1 (fun k _ _ => by rw [Fr15 hf1 263 (by decide)])) hA.wf (fun I2 hf2 => ⟨rfl, PR_qq hA hR hY (by omega) hf1 hf2⟩)⟩)
end
