/-! chances -/
theorem pass_comm (π : PLN) (σ : ST) (f g : Nat) : passF π (passF π σ f) g = passF π (passF π σ g) f := by
  funext a i
  unfold passF
  by_cases a1 : a = 1
  · subst a1
    by_cases h1 : f ≤ stn (π.1 5 i)
    · by_cases h2 : g ≤ stn (π.1 5 i)
      · simp [h1, h2]
      · simp [h1, h2]
    · by_cases h2 : g ≤ stn (π.1 5 i)
      · simp [h1, h2]
      · simp [h1, h2]
  · simp [a1]
def itF (π : PLN) (f : Nat) : Nat → ST → ST
  | 0, σ => σ
  | n + 1, σ => passF π (itF π f n σ) f
def pas (π : PLN) (σ : ST) (c w : Nat) : ST := itF π 0 w (itF π 3 c σ)
theorem pas_w (π : PLN) (σ : ST) (c w : Nat) : passF π (pas π σ c w) 0 = pas π σ c (w + 1) := rfl
theorem pas_c (π : PLN) (σ : ST) (c : Nat) : ∀ w, passF π (pas π σ c w) 3 = pas π σ (c + 1) w := by
  intro w
  induction w with
  | zero => rfl
  | succ w ih =>
    rw [← pas_w, ← pas_w, pass_comm, ih]
theorem itF_y (π : PLN) (f : Nat) (σ : ST) : ∀ n, itF π f n σ 0 0 = σ 0 0 + n := by
  intro n
  induction n with
  | zero => rfl
  | succ n ih => show itF π f n σ 0 0 + 1 = _; omega
theorem pas_y (π : PLN) (σ : ST) (c w : Nat) : pas π σ c w 0 0 = σ 0 0 + c + w := by
  unfold pas
  rw [itF_y, itF_y]
def lkW (c n : Nat) : Nat → Nat
  | 0 => 1
  | k + 1 => if k < c then lkW c n k * (n - k) / (k + 1) else lkW c n k
def lkV (c n o : Nat) : Nat → Nat
  | 0 => 1
  | k + 1 => if k < c then lkV c n o k * o else lkV c n o k * (if k < n then 10 - o else 10)
def likF (c n o : Nat) : Nat := lkW c n 6 * lkV c n o 6
theorem lk_b : ∀ n, n < 7 → ∀ c, c < 7 → ∀ k, k < 7 → lkW c n k ≤ 1000 := by decide +kernel
def clsF (n o : Nat) (g : Nat → Bool) : Nat → Nat
  | 0 => 0
  | c + 1 => clsF n o g c + if g c then likF c n o else 0
def pcK (s : Nat) : Nat → Nat
  | 0 => 0
  | k + 1 => pcK s k + s / 2 ^ k % 2
def prK (o s : Nat) : Nat → Nat
  | 0 => 1
  | k + 1 => prK o s k * (if s / 2 ^ k % 2 = 1 then o else 10 - o)
def modS (n o : Nat) (g : Nat → Bool) : Nat → Nat
  | 0 => 0
  | s + 1 => modS n o g s + if g (pcK s n) then prK o s n else 0
theorem pc_b (s : Nat) : ∀ k, pcK s k ≤ k := by
  intro k
  induction k with
  | zero => exact Nat.le_refl _
  | succ k ih => have := Nat.mod_lt (s / 2 ^ k) (show 0 < 2 by decide); unfold pcK; omega
theorem pr_b {o : Nat} (ho : o ≤ 10) (s : Nat) : ∀ k, prK o s k ≤ 10 ^ k := by
  intro k
  induction k with
  | zero => exact Nat.le_refl _
  | succ k ih =>
    unfold prK
    rw [Nat.pow_succ]
    refine Nat.mul_le_mul ih ?_
    split <;> omega
theorem ms_b {n o : Nat} {g : Nat → Bool} (ho : o ≤ 10) : ∀ s, modS n o g s ≤ s * 10 ^ n := by
  intro s
  induction s with
  | zero => exact Nat.zero_le _
  | succ s ih =>
    have := pr_b ho s n
    unfold modS
    rw [Nat.succ_mul]
    split <;> omega
def s7 (f : Nat → Nat) : Nat := f 0 + f 1 + f 2 + f 3 + f 4 + f 5 + f 6
def dl (c x : Nat) : Bool := x == c
theorem s7_dl {g : Nat → Bool} {x N : Nat} (hN : N < 7) : s7 (fun c => if g c then (if dl c N then x else 0) else 0) = if g N then x else 0 := by
  rcases (show N = 0 ∨ N = 1 ∨ N = 2 ∨ N = 3 ∨ N = 4 ∨ N = 5 ∨ N = 6 by omega) with rfl | rfl | rfl | rfl | rfl | rfl | rfl <;> simp [s7, dl]
theorem s7_add {g : Nat → Bool} {a b : Nat → Nat} : s7 (fun c => if g c then a c + b c else 0) = s7 (fun c => if g c then a c else 0) + s7 (fun c => if g c then b c else 0) := by
  have : ∀ c, (if g c then a c + b c else 0) = (if g c then a c else 0) + (if g c then b c else 0) := fun c => by split <;> rfl
  unfold s7
  dsimp only
  rw [this 0, this 1, this 2, this 3, this 4, this 5, this 6]
  omega
theorem s7_ext {a b : Nat → Nat} (h : ∀ c, c < 7 → a c = b c) : s7 a = s7 b := by
  unfold s7
  rw [h 0 (by decide), h 1 (by decide), h 2 (by decide), h 3 (by decide), h 4 (by decide), h 5 (by decide), h 6 (by decide)]
theorem s7_0 {g : Nat → Bool} : s7 (fun c => if g c then 0 else 0) = 0 := by simp [s7]
theorem s7_mul {a : Nat → Nat} {k : Nat} : s7 a * k = s7 (fun c => a c * k) := by
  unfold s7; simp only [Nat.add_mul]
theorem cls_lin (n o : Nat) (g : Nat → Bool) : ∀ N, N ≤ 7 → clsF n o g N = s7 (fun c => if g c then clsF n o (dl c) N else 0) := by
  intro N
  induction N with
  | zero => intro _; exact s7_0.symm
  | succ N ih =>
    intro hN
    show clsF n o g N + (if g N then likF N n o else 0) = s7 (fun c => if g c then clsF n o (dl c) N + (if dl c N then likF N n o else 0) else 0)
    rw [s7_add, s7_dl (by omega), ih (by omega)]
theorem mod_lin {n : Nat} (hn : n ≤ 6) (o : Nat) (g : Nat → Bool) : ∀ s, modS n o g s = s7 (fun c => if g c then modS n o (dl c) s else 0) := by
  intro s
  induction s with
  | zero => exact s7_0.symm
  | succ s ih =>
    have := pc_b s n
    show modS n o g s + (if g (pcK s n) then prK o s n else 0) = s7 (fun c => if g c then modS n o (dl c) s + (if dl c (pcK s n) then prK o s n else 0) else 0)
    rw [s7_add, s7_dl (by omega), ih]
theorem ch_ck : ∀ n, n < 7 → ∀ o, o < 11 → ∀ c, c < 7 → clsF n o (dl c) (n + 1) = modS n o (dl c) (2 ^ n) * 10 ^ (6 - n) := by decide +kernel
theorem ch_eq {n o : Nat} {g : Nat → Bool} (hn : n ≤ 6) (ho : o ≤ 10) : modS n o g (2 ^ n) * 1000000 / 10 ^ n = clsF n o g (n + 1) := by
  have e1 : clsF n o g (n + 1) = modS n o g (2 ^ n) * 10 ^ (6 - n) := by
    rw [cls_lin n o g (n + 1) (by omega), mod_lin hn o g, s7_mul]
    refine s7_ext (fun c hc => ?_)
    split
    · exact ch_ck n (by omega) o (by omega) c hc
    · exact (Nat.zero_mul _).symm
  have e2 : (1000000 : Nat) = 10 ^ (6 - n) * 10 ^ n := by rw [← Nat.pow_add, show 6 - n + n = 6 by omega]
  rw [e1, e2, ← Nat.mul_assoc, Nat.mul_div_cancel _ (Nat.pow_pos (by decide))]
def chG (π : PLN) (σ : ST) (p n c : Nat) : Bool := exF (fitF π (pas π σ c (n - c)) p) (nT π)
theorem sh_2n : ∀ n, n < 7 → ((1 : Int32) <<< (nI n &&& 31)) = nI (2 ^ n) ∧ 2 ^ n ≤ 64 := by decide +kernel
theorem p10_b : ∀ n, n < 7 → 10 ^ n ≤ 1000000 := by decide +kernel
section
variable {G : GG} {d : Nat} {P : Int32 → mm_M → Prop} {Pv : mm_M → Prop} {Q : Option Value → mm_M → Prop} {r : Nat → Nat} {I : Nat → Nat → Int32} {J : Nat → Nat → Int64} {π : PLN} {σ : Nat → Nat → Nat} {us : List ST} {fe : FE} {ms : Nat → Option (ST × FE)} {ln : LN} {nm : NMT} {tp : List Nat} {y : Nat} {τ : ST}
theorem d150 {M : mm_M} {c n o : Nat} (hc : c ≤ n) (hn : n ≤ 6) (ho : o ≤ 10) (h : P (nI (likF c n o)) M) : CI G (d + 1) 150 [.int (nI c), .int (nI n), .int (nI o)] M P := by
  refine e150 (b150_0_5 ?_)
  refine lp (n := 6) (X := fun k => XX G d (some .int) P150 (QI P) 8 [.int (nI c), .int (nI n), .int (nI o), .int (nI (lkW c n k)), .int (nI (lkV c n o k)), .int (nI k)] [] M) ?_ (fun k hk ih => ?_)
  · refine x150_8 (ifp (by decide) ⟨_, rfl, ?_⟩)
    rw [pk_mul]; exact h
  · have hb := lk_b n (by omega) c (by omega) k (by omega)
    unfold lkW lkV at ih
    refine x150_8 (ifn (nI_ge (b := 6) hk (by decide)) (ifb (fun q => ?_) (fun q => ?_)))
    · rw [nI_leI (by omega) (by omega)] at q
      rw [if_neg (by omega), if_neg (by omega)] at ih
      refine ifb (fun q2 => b150_57_65 ?_) (fun q2 => b150_59_65 ?_)
      · rw [nI_leI (by omega) (by omega)] at q2
        rw [if_neg (by omega)] at ih
        rw [show (10 : Int32) = nI 10 from rfl, pk_mul, nI_1]
        exact ih
      · rw [nI_leI (by omega) (by omega)] at q2
        rw [if_pos (by omega)] at ih
        rw [show (10 : Int32) = nI 10 from rfl, pk_sub ho, pk_mul, nI_1]
        exact ih
    · rw [nI_leI (by omega) (by omega)] at q
      rw [if_pos (by omega), if_pos (by omega)] at ih
      rw [nI_1]
      refine ⟨nI_ne0 (by omega) (by omega), b150_8_39 ?_⟩
      have : lkW c n k * (n - k) ≤ 1000 * 6 := Nat.mul_le_mul hb (by omega)
      rw [pk_sub (by omega), pk_mul, pk_div (by omega) (by omega) (by omega), pk_mul, nI_1]
      exact ih
theorem d149 {p n o : Nat} (hk : KS I 38 π σ) (hp : p < nP π) (hn : 1 ≤ n ∧ n ≤ 6) (ho : o ≤ 10) (hy : σ 0 0 ≤ 10000) (h : ∀ I', Fr scT I I' → P (nI (clsF n o (chG π σ p n) (n + 1))) (mem r I' J)) : CI G (d + 8) 149 [.ref 1, .int (nI p), .int (nI n), .int (nI o)] (mem r I J) P := by
  have hT := hk.w.t
  refine e149 (ifn (show ¬ nI n < nI 1 from nI_nlt (by omega) (by omega)) (ifn (show ¬ nI 6 < nI n from nI_nlt (by omega) (by decide)) (ifn (nI_pos (by omega)) (ifn (show ¬ nI 10 < nI o from nI_nlt (by omega) (by decide)) ?_))))
  simp only [mKm, mNm, mIm, mIf, mJm, mJf, mRm, sIm, sJm, rwIm, rwJm, kN, nN, rN, true_and]
  refine d58 hk.p hk.w hp (ifp (by decide) (b149_46_49 ?_))
  refine lp (n := n + 1) (X := fun c => ∀ I', Fr scT I I' → XX G (d + 7) (some .int) P149 (QI P) 52 [.ref 1, .int (nI p), .int (nI n), .int (nI o), .int 1, .int (nI (clsF n o (chG π σ p n) c)), .int (nI c), jk] [] (mem r I' J)) (fun I1 hf1 => ?_) (fun c hc ih I1 hf1 => ?_) I Fr.rfl
  · exact x149_52 (ifp (nI_lt (by omega) (by omega)) ⟨_, rfl, h I1 hf1⟩)
  · refine x149_52 (ifn (nI_nlt (by omega) (by omega)) ?_)
    have hk1 : KS I1 38 π σ := hk.lo (fun a ha => hf1 a (by simp [scT]; omega))
    simp only [mKm, mNm, mIm, mIf, mJm, mJf, mRm, sIm, sJm, rwIm, rwJm, kN, nN, rN, true_and]
    refine d75k hk1 (s := 46) (by decide) (by decide) (fun I2 hf2 hk2 => ?_)
    refine lp (n := n) (X := fun k => ∀ I', Fr scT I I' → KS I' 46 π (pas π σ (min k c) (k - c)) → XX G (d + 7) (some .int) P149 (QI P) 72 [.ref 1, .int (nI p), .int (nI n), .int (nI o), .int 1, .int (nI (clsF n o (chG π σ p n) c)), .int (nI c), .int (nI k)] [] (mem r I' J)) (fun I3 hf3 hk3 => ?_) (fun k hkn ih2 I3 hf3 hk3 => ?_) I2 (sl_sc hf1 hf2) (by rw [show min 0 c = 0 by omega, show 0 - c = 0 by omega]; exact hk2)
    · refine x149_72 (ifp (nI_le (Nat.le_refl _) (by omega)) ?_)
      simp only [mKm, mNm, mIm, mIf, mJm, mJf, mRm, sIm, sJm, rwIm, rwJm, kN, nN, rN, true_and]
      refine d123 hk3 (fun I4 hf4 hz => ?_)
      simp only [mKm, mNm, mIm, mIf, mJm, mJf, mRm, sIm, sJm, rwIm, rwJm, kN, nN, rN, true_and]
      refine d124 (hk3.fq hf4) hz hp ?_
      rw [show min n c = c by omega]
      have e0 := setF_0 (fitF π (pas π σ c (n - c)) p) (nT π)
      have hw : setF (fitF π (pas π σ c (n - c)) p) (nT π) < 2 ^ 6 := setF_le _ hT
      have ih := ih I4 (q_sc hf3 hf4)
      unfold clsF at ih
      have eg : chG π σ p n c = exF (fitF π (pas π σ c (n - c)) p) (nT π) := rfl
      cases e : exF (fitF π (pas π σ c (n - c)) p) (nT π) with
      | false =>
        rw [e] at e0
        rw [eg, e] at ih
        rw [eq_of_beq e0]
        exact ifp rfl (by rw [nI_1]; exact ih)
      | true =>
        rw [e] at e0
        rw [eg, e] at ih
        refine ifn (nI_ne0 (by have := ne_of_beq_false e0; omega) (by omega)) (d150 (by omega) hn.2 ho (b149_103_138 ?_))
        rw [nI_add, nI_1]
        exact ih
    · have hy3 : pas π σ (min k c) (k - c) 0 0 + 1 < 2 ^ 30 := by rw [pas_y]; omega
      refine x149_72 (ifn (nI_ge hkn (by omega)) ?_)
      simp only [mKm, mNm, mIm, mIf, mJm, mJf, mRm, sIm, sJm, rwIm, rwJm, kN, nN, rN, true_and]
      refine ifb (fun q => ?_) (fun q => ?_)
      · rw [nI_leI (by omega) (by omega)] at q
        refine d83 (f := 0) hk3 (by decide) hy3 (fun I4 hf4 hk4 => ?_)
        rw [nI_1]
        refine ih2 I4 (sl_sc hf3 hf4) ?_
        rw [pas_w] at hk4
        rw [show min (k + 1) c = min k c by omega, show k + 1 - c = k - c + 1 by omega]
        exact hk4
      · rw [nI_leI (by omega) (by omega)] at q
        refine d83 (f := 3) hk3 (by decide) hy3 (fun I4 hf4 hk4 => ?_)
        rw [nI_1]
        refine ih2 I4 (sl_sc hf3 hf4) ?_
        rw [pas_c] at hk4
        rw [show min (k + 1) c = min k c + 1 by omega, show k + 1 - c = k - c by omega]
        exact hk4
theorem d149o {x n o : Int32} (hk : KS I 38 π σ) (hx : ¬ ((0 ≤ x ∧ x < nI (nP π)) ∧ (1 ≤ n ∧ n ≤ 6) ∧ (0 ≤ o ∧ o ≤ 10))) (h : P (-1) (mem r I J)) : CI G (d + 8) 149 [.ref 1, .int x, .int n, .int o] (mem r I J) P := by
  have hP := hk.w.p
  refine e149 (ifb (fun _ => h) (fun q1 => ifb (fun _ => h) (fun q2 => ifb (fun _ => h) (fun q3 => ifb (fun _ => h) (fun q4 => ?_)))))
  simp only [mKm, mNm, mIm, mIf, mJm, mJf, mRm, sIm, sJm, rwIm, rwJm, kN, nN, rN, true_and]
  exact d58o hk.p (fun q5 => hx ⟨q5, ⟨Int32.not_lt.mp q1, Int32.not_lt.mp q2⟩, Int32.not_lt.mp q3, Int32.not_lt.mp q4⟩) (ifn (fun z => z rfl) h)
theorem m264 {p n o : Nat} (hk : KR I 0 π σ) (hp : p < nP π) (hn : 1 ≤ n ∧ n ≤ 6) (ho : o ≤ 10) (hy : σ 0 0 ≤ 10000) (h : ∀ I', FT 1260 I I' → P (nI (clsF n o (chG π σ p n) (n + 1))) (mem r I' J)) : CI G (d + 8) 264 [.ref 247, .int (nI p), .int (nI n), .int (nI o)] (mem r I J) P := by
  have hT := hk.w.t
  have hk0 := hk.t0
  obtain ⟨h2n, h64⟩ := sh_2n n (by omega)
  have h10 := p10_b n (by omega)
  have h10p : 0 < 10 ^ n := Nat.pow_pos (by decide)
  refine e264 ?_
  simp only [mKm, mNm, mIm, mIf, mJm, mJf, mRm, sIm, sJm, rwIm, rwJm, kN, nN, rN, true_and]
  refine m212 hk0.p hk0.w hp (ifn (by decide) (m201 ?_))
  rw [if_pos ⟨show nI 1 ≤ nI n from nI_le (by omega) (by omega), show nI n ≤ nI 6 from nI_le (by omega) (by decide)⟩]
  refine ifn (by decide) (m201 ?_)
  rw [if_pos ⟨nI_pos' (by omega), show nI o ≤ nI 10 from nI_le (by omega) (by decide)⟩]
  refine ifp (by decide) (b264_35_41 ?_)
  have hk0' : ∀ I', FT 1260 I I' → KR I' 0 π σ := fun I' hf => hk0.keep (fun a ha => hf.1 a (by simp at ha ⊢; omega)) (fun k _ hk => hf.2 k (by omega))
  refine lp (n := n) (X := fun k => XX G (d + 7) (some .int) P264 (QI P) 44 [.ref 247, .int (nI p), .int (nI n), .int (nI o), .long (lN (10 ^ k)), jk, .long (0 : Int64), jk, .int (nI k), jk, jk, jk, jk] [] (mem r (u2 I 247 0 0) J)) ?_ (fun k hkn ih => ?_)
  · refine x264_44 (ifp (nI_le (Nat.le_refl _) (by omega)) ?_)
    refine lp (n := 2 ^ n) (X := fun s => ∀ I', FT 1260 I I' → XX G (d + 7) (some .int) P264 (QI P) 67 [.ref 247, .int (nI p), .int (nI n), .int (nI o), .long (lN (10 ^ n)), jk, .long (lN (modS n o (chG π σ p n) s)), jk, .int (nI s), jk, jk, jk, jk] [] (mem r I' J)) (fun I1 hf1 => ?_) (fun s hs ih I1 hf1 => ?_) (T0 I) Fs.rfl
    · refine x264_67 ?_
      rw [h2n]
      refine ifp (nI_le (Nat.le_refl _) (by omega)) ⟨fun z => ?_, _, rfl, ?_⟩
      · have := (pk_lEQ (b := 0) (by omega) (by decide)).mp z
        omega
      · have hb := ms_b (n := n) (g := chG π σ p n) ho (2 ^ n)
        have hb2 : 2 ^ n * 10 ^ n ≤ 64 * 1000000 := Nat.mul_le_mul h64 h10
        rw [show (1000000 : Int64) = lN 1000000 from rfl, lN_mul, pk_lDiv (by omega) h10p (by omega), lN_i, ch_eq hn.2 ho]
        exact h I1 hf1
    · have hs64 : s < 64 := by omega
      refine x264_67 ?_
      rw [h2n]
      refine ifn (nI_ge hs (by omega)) ⟨rfl, ?_⟩
      refine m220k (b := 0) (t := 1260) (hk0' I1 hf1) (by decide) (by decide) (fun I2 hf2 hk2 => ?_)
      refine lp (n := n) (X := fun k => ∀ I', FT 1260 I I' → KR I' 1260 π (pas π σ (pcK s k) (k - pcK s k)) → XX G (d + 7) (some .int) P264 (QI P) 91 [.ref 247, .int (nI p), .int (nI n), .int (nI o), .long (lN (10 ^ n)), jk, .long (lN (modS n o (chG π σ p n) s)), jk, .int (nI s), .long (lN (prK o s k)), jk, .int (nI k), jk] [] (mem r I' J)) (fun I3 hf3 hk3 => ?_) (fun k hkn ih2 I3 hf3 hk3 => ?_) I2 (Fs.trans hf1 hf2) hk2
      · refine x264_91 (ifp (nI_le (Nat.le_refl _) (by omega)) ⟨rfl, ?_⟩)
        refine m237 (b := 1260) hk3 hp (fun I4 hf4 => ?_)
        have e0 := setF_0 (fitF π (pas π σ (pcK s n) (n - pcK s n)) p) (nT π)
        have hw : setF (fitF π (pas π σ (pcK s n) (n - pcK s n)) p) (nT π) < 2 ^ 6 := setF_le _ hT
        have ih := ih I4 (Fs.fr hf3 hf4)
        unfold modS at ih
        have eg : chG π σ p n (pcK s n) = exF (fitF π (pas π σ (pcK s n) (n - pcK s n)) p) (nT π) := rfl
        cases e : exF (fitF π (pas π σ (pcK s n) (n - pcK s n)) p) (nT π) with
        | false =>
          rw [e] at e0
          rw [eg, e] at ih
          rw [eq_of_beq e0]
          refine ifp rfl (b264_176_183 ?_)
          rw [Int64.add_zero, nI_1]
          exact ih
        | true =>
          rw [e] at e0
          rw [eg, e] at ih
          refine ifn (nI_ne0 (by have := ne_of_beq_false e0; omega) (by omega)) (b264_177_183 ?_)
          rw [lN_add, nI_1]
          exact ih
      · have hpc := pc_b s k
        have hy3 : pas π σ (pcK s k) (k - pcK s k) 0 0 + 1 < 2 ^ 30 := by rw [pas_y]; omega
        unfold pcK prK at ih2
        refine x264_91 (ifn (nI_ge hkn (by omega)) ?_)
        rw [bit_at k (by omega) s hs64]
        have hm := Nat.mod_lt (s / 2 ^ k) (show 0 < 2 by decide)
        refine ifb (fun q => ?_) (fun q => ?_)
        · have q0 : s / 2 ^ k % 2 = 0 := by
            rcases (show s / 2 ^ k % 2 = 0 ∨ s / 2 ^ k % 2 = 1 by omega) with e | e
            · exact e
            · exact absurd (by rw [e]; rfl) q
          rw [q0, if_neg (by decide), Nat.add_zero] at ih2
          refine b264_127_135 (ifp rfl ⟨rfl, ?_⟩)
          refine m232 (b := 1260) (f := 0) hk3 (by decide) hy3 (fun I4 hf4 hk4 => ?_)
          rw [show (10 : Int32) = nI 10 from rfl, pk_sub ho, nI_l (by omega), lN_mul, nI_1]
          refine ih2 I4 (Fs.trans hf3 hf4) ?_
          rw [pas_w] at hk4
          rw [show k + 1 - pcK s k = k - pcK s k + 1 by omega]
          exact hk4
        · have q1 : s / 2 ^ k % 2 = 1 := (nI_eq (b := 1) (by omega) (by decide)).mp (Decidable.not_not.mp q)
          rw [q1, if_pos rfl] at ih2
          refine b264_132_135 (ifn (by decide) ⟨rfl, ?_⟩)
          refine m232 (b := 1260) (f := 3) hk3 (by decide) hy3 (fun I4 hf4 hk4 => ?_)
          rw [nI_l (by omega), lN_mul, nI_1]
          refine ih2 I4 (Fs.trans hf3 hf4) ?_
          rw [pas_c] at hk4
          rw [show k + 1 - (pcK s k + 1) = k - pcK s k by omega]
          exact hk4
  · refine x264_44 (ifn (nI_ge hkn (by omega)) (b264_44_61 ?_))
    rw [show (10 : Int64) = lN 10 from rfl, lN_mul, nI_1]
    exact ih
theorem m264o {x n o : Int32} (hk : KR I 0 π σ) (hx : ¬ ((0 ≤ x ∧ x < nI (nP π)) ∧ (1 ≤ n ∧ n ≤ 6) ∧ (0 ≤ o ∧ o ≤ 10))) (h : P (-1) (mem r (T0 I) J)) : CI G (d + 8) 264 [.ref 247, .int x, .int n, .int o] (mem r I J) P := by
  have hP := hk.w.p
  have hk0 := hk.t0
  refine e264 ?_
  simp only [mKm, mNm, mIm, mIf, mJm, mJf, mRm, sIm, sJm, rwIm, rwJm, kN, nN, rN, true_and]
  by_cases q : 0 ≤ x ∧ x < nI (nP π)
  · obtain ⟨p, hp, rfl⟩ := inR (by omega) q
    refine m212 hk0.p hk0.w hp (ifn (by decide) (m201 ?_))
    by_cases q2 : 1 ≤ n ∧ n ≤ 6
    · rw [if_pos q2]
      refine ifn (by decide) (m201 ?_)
      rw [if_neg (fun z => hx ⟨q, q2, z⟩)]
      exact ifn (fun z => z rfl) h
    · rw [if_neg q2]
      exact ifp rfl h
  · exact m212o hk0.p q (ifp rfl h)
theorem L149 {M : mm_M} (h : PR y M) (hy : y ≤ 5000) (x n o : Int32) : EQ G (d + 40) 149 264 y [.int x, .int n, .int o] M := by
  obtain ⟨r, I, J, π, σ, us, ms, fe, ln, nm, tp, rfl, hA, hR, hY⟩ := h
  have h0 := hY.1
  have hP := hA.w.p
  by_cases q : (0 ≤ x ∧ x < nI (nP π)) ∧ (1 ≤ n ∧ n ≤ 6) ∧ (0 ≤ o ∧ o ≤ 10)
  · obtain ⟨p, hp, rfl⟩ := inR (by omega) q.1
    obtain ⟨n, hn, rfl⟩ := nI_of2 (M := 6) (n := 6) rfl (Int32.not_lt.mpr (Int32.le_trans (by decide) q.2.1.1)) q.2.1.2
    obtain ⟨o, ho, rfl⟩ := nI_of2 (M := 10) (n := 10) rfl (Int32.not_lt.mpr q.2.2.1) q.2.2.2
    have hn1 : 1 ≤ n := (nI_leI (a := 1) (by decide) (by omega)).mp q.2.1.1
    exact d149 hA.k hp ⟨hn1, hn⟩ ho (by omega) (fun I1 hf1 => ⟨rfl, m264 (hR.k.lo (sc_hi hf1)) hp ⟨hn1, hn⟩ ho (by omega) (fun I2 hf2 => ⟨rfl, PR_t hA hR hY (by omega) hf1 (by decide) hf2⟩)⟩)
  · exact d149o hA.k q ⟨rfl, m264o hR.k q ⟨rfl, PR_qq hA hR hY (by omega) Fr.rfl Fr.rfl⟩⟩
end
