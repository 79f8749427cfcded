/-! the references are as the shape says -/
def r0 : Nat → Nat := fun k => if k < 16 then 59 + 8 * k else 0
def Hi (R : Nat → Nat → Nat) : Prop := ∀ x k, 16 ≤ k → R x k = 0
theorem Hi.u {R : Nat → Nat → Nat} {a k v : Nat} (h : Hi R) (hk : k < 16) : Hi (u2 R a k v) := fun x y hy => by
  unfold u2
  rw [if_neg (show ¬ y = k by omega), ite_self]
  exact h x y hy
theorem Hi.st {R : Nat → Nat → Nat} {s : Nat} (h : Hi R) : Hi (stR R s) := (((((((h.u (by decide)).u (by decide)).u (by decide)).u (by decide)).u (by decide)).u (by decide)).u (by decide)).u (by decide)
theorem Hi.ft {R : Nat → Nat → Nat} {s : Nat} (h : Hi R) : Hi (ftR R s) := (h.u (by decide)).u (by decide)
theorem Hi.pl {R : Nat → Nat → Nat} {a n : Nat} (h : Hi R) : Hi (plR R a n) := ((((((((((h.u (by decide)).u (by decide)).u (by decide)).u (by decide)).u (by decide)).u (by decide)).u (by decide)).u (by decide)).u (by decide)).u (by decide)).u (by decide)
theorem Hi.ln {R : Nat → Nat → Nat} {a n : Nat} (h : Hi R) : Hi (lnR R a n) := ((h.u (by decide)).u (by decide)).u (by decide)
theorem Hi.k {R : Nat → Nat → Nat} (h : Hi R) : ∀ i, i ≤ 16 → Hi (RK R i)
  | 0, _ => h
  | i + 1, hi => (Hi.k h i (by omega)).st.u (by omega)
theorem Hi.m {R : Nat → Nat → Nat} (h : Hi R) : ∀ i, i ≤ 4 → Hi (RM R i)
  | 0, _ => h
  | i + 1, hi => (((Hi.m h i (by omega)).st.u (by omega)).ft).u (by omega)
theorem Hi_7 : Hi R7 := by
  have h0 : Hi Rz := fun _ _ _ => rfl
  have h1 : Hi R1 := (h0.u (by decide)).u (by decide)
  have h2 : Hi R2 := h1.pl.u (by decide)
  have h3 : Hi R3 := h2.ln.u (by decide)
  have h4 : Hi R4 := (h3.pl.u (by decide)).u (by decide)
  have h5 : Hi R5 := (h4.ln.u (by decide)).u (by decide)
  have h6 : Hi R6 := h5.st.u (by decide)
  exact h6.st.u (by decide)
theorem Hi_c : Hi Rc := by
  have h8 : Hi R8 := (Hi.m (Hi.k ((((Hi_7.u (by decide)).u (by decide)).u (by decide)).u (by decide)) 16 (by decide)) 4 (by decide)).u (by decide)
  have h9 : Hi R9 := h8.ft.u (by decide)
  have ha : Hi Ra := ((((h9.u (by decide)).u (by decide)).u (by decide)).u (by decide)).u (by decide)
  have hb : Hi Rb := (((((ha.u (by decide)).u (by decide)).u (by decide)).u (by decide)).u (by decide)).u (by decide)
  exact (hb.u (by decide)).u (by decide)
theorem rL_len : rL.length = 270 ∧ (∀ a, a < 270 → a ≠ 247 → (rL.getD a []).length ≤ 16) ∧ (rL.getD 247 []).length ≤ 32 := by decide +kernel
theorem ref_0 : ∀ a, a < 15 → ∀ k, k < 16 → (0 + a ≠ 247 → Rc (0 + a) k = rF r0 (0 + a) k) := by decide +kernel
theorem ref_15 : ∀ a, a < 15 → ∀ k, k < 16 → (15 + a ≠ 247 → Rc (15 + a) k = rF r0 (15 + a) k) := by decide +kernel
theorem ref_30 : ∀ a, a < 15 → ∀ k, k < 16 → (30 + a ≠ 247 → Rc (30 + a) k = rF r0 (30 + a) k) := by decide +kernel
theorem ref_45 : ∀ a, a < 15 → ∀ k, k < 16 → (45 + a ≠ 247 → Rc (45 + a) k = rF r0 (45 + a) k) := by decide +kernel
theorem ref_60 : ∀ a, a < 15 → ∀ k, k < 16 → (60 + a ≠ 247 → Rc (60 + a) k = rF r0 (60 + a) k) := by decide +kernel
theorem ref_75 : ∀ a, a < 15 → ∀ k, k < 16 → (75 + a ≠ 247 → Rc (75 + a) k = rF r0 (75 + a) k) := by decide +kernel
theorem ref_90 : ∀ a, a < 15 → ∀ k, k < 16 → (90 + a ≠ 247 → Rc (90 + a) k = rF r0 (90 + a) k) := by decide +kernel
theorem ref_105 : ∀ a, a < 15 → ∀ k, k < 16 → (105 + a ≠ 247 → Rc (105 + a) k = rF r0 (105 + a) k) := by decide +kernel
theorem ref_120 : ∀ a, a < 15 → ∀ k, k < 16 → (120 + a ≠ 247 → Rc (120 + a) k = rF r0 (120 + a) k) := by decide +kernel
theorem ref_135 : ∀ a, a < 15 → ∀ k, k < 16 → (135 + a ≠ 247 → Rc (135 + a) k = rF r0 (135 + a) k) := by decide +kernel
theorem ref_150 : ∀ a, a < 15 → ∀ k, k < 16 → (150 + a ≠ 247 → Rc (150 + a) k = rF r0 (150 + a) k) := by decide +kernel
theorem ref_165 : ∀ a, a < 15 → ∀ k, k < 16 → (165 + a ≠ 247 → Rc (165 + a) k = rF r0 (165 + a) k) := by decide +kernel
theorem ref_180 : ∀ a, a < 15 → ∀ k, k < 16 → (180 + a ≠ 247 → Rc (180 + a) k = rF r0 (180 + a) k) := by decide +kernel
theorem ref_195 : ∀ a, a < 15 → ∀ k, k < 16 → (195 + a ≠ 247 → Rc (195 + a) k = rF r0 (195 + a) k) := by decide +kernel
theorem ref_210 : ∀ a, a < 15 → ∀ k, k < 16 → (210 + a ≠ 247 → Rc (210 + a) k = rF r0 (210 + a) k) := by decide +kernel
theorem ref_225 : ∀ a, a < 15 → ∀ k, k < 16 → (225 + a ≠ 247 → Rc (225 + a) k = rF r0 (225 + a) k) := by decide +kernel
theorem ref_240 : ∀ a, a < 15 → ∀ k, k < 16 → (240 + a ≠ 247 → Rc (240 + a) k = rF r0 (240 + a) k) := by decide +kernel
theorem ref_255 : ∀ a, a < 15 → ∀ k, k < 16 → (255 + a ≠ 247 → Rc (255 + a) k = rF r0 (255 + a) k) := by decide +kernel
theorem ref_m : ∀ k, k < 32 → moR Rz 247 k = rF r0 247 k := by decide +kernel
theorem getD_far {α : Type} {l : List α} {n : Nat} {v : α} (h : l.length ≤ n) : l.getD n v = v := by
  rw [List.getD_eq_getElem?_getD, List.getElem?_eq_none h]
  rfl
theorem ref_in {a k : Nat} (ha : a < 270) (hk : k < 16) (h7 : a ≠ 247) : Rc a k = rF r0 a k := by
  by_cases c0 : a < 15
  · have h := ref_0 (a - 0) (by omega) k hk; rw [show 0 + (a - 0) = a by omega] at h; exact h h7
  by_cases c15 : a < 30
  · have h := ref_15 (a - 15) (by omega) k hk; rw [show 15 + (a - 15) = a by omega] at h; exact h h7
  by_cases c30 : a < 45
  · have h := ref_30 (a - 30) (by omega) k hk; rw [show 30 + (a - 30) = a by omega] at h; exact h h7
  by_cases c45 : a < 60
  · have h := ref_45 (a - 45) (by omega) k hk; rw [show 45 + (a - 45) = a by omega] at h; exact h h7
  by_cases c60 : a < 75
  · have h := ref_60 (a - 60) (by omega) k hk; rw [show 60 + (a - 60) = a by omega] at h; exact h h7
  by_cases c75 : a < 90
  · have h := ref_75 (a - 75) (by omega) k hk; rw [show 75 + (a - 75) = a by omega] at h; exact h h7
  by_cases c90 : a < 105
  · have h := ref_90 (a - 90) (by omega) k hk; rw [show 90 + (a - 90) = a by omega] at h; exact h h7
  by_cases c105 : a < 120
  · have h := ref_105 (a - 105) (by omega) k hk; rw [show 105 + (a - 105) = a by omega] at h; exact h h7
  by_cases c120 : a < 135
  · have h := ref_120 (a - 120) (by omega) k hk; rw [show 120 + (a - 120) = a by omega] at h; exact h h7
  by_cases c135 : a < 150
  · have h := ref_135 (a - 135) (by omega) k hk; rw [show 135 + (a - 135) = a by omega] at h; exact h h7
  by_cases c150 : a < 165
  · have h := ref_150 (a - 150) (by omega) k hk; rw [show 150 + (a - 150) = a by omega] at h; exact h h7
  by_cases c165 : a < 180
  · have h := ref_165 (a - 165) (by omega) k hk; rw [show 165 + (a - 165) = a by omega] at h; exact h h7
  by_cases c180 : a < 195
  · have h := ref_180 (a - 180) (by omega) k hk; rw [show 180 + (a - 180) = a by omega] at h; exact h h7
  by_cases c195 : a < 210
  · have h := ref_195 (a - 195) (by omega) k hk; rw [show 195 + (a - 195) = a by omega] at h; exact h h7
  by_cases c210 : a < 225
  · have h := ref_210 (a - 210) (by omega) k hk; rw [show 210 + (a - 210) = a by omega] at h; exact h h7
  by_cases c225 : a < 240
  · have h := ref_225 (a - 225) (by omega) k hk; rw [show 225 + (a - 225) = a by omega] at h; exact h h7
  by_cases c240 : a < 255
  · have h := ref_240 (a - 240) (by omega) k hk; rw [show 240 + (a - 240) = a by omega] at h; exact h h7
  by_cases c255 : a < 270
  · have h := ref_255 (a - 255) (by omega) k hk; rw [show 255 + (a - 255) = a by omega] at h; exact h h7
  omega
theorem moR_n {R : Nat → Nat → Nat} {x : Nat} (h : x ≠ 247) : moR R x = R x := by
  unfold moR
  rw [u2n h, u2n h, u2n h, u2n h, u2n h, u2n h, u2n h, u2n h, u2n h, u2n h, u2n h, u2n h, u2n h, u2n h, u2n h, u2n h, u2n h, u2n h, u2n h, u2n h, u2n h]
theorem moR_7 {R : Nat → Nat → Nat} {k : Nat} (h : R 247 = Rz 247) : moR R 247 k = moR Rz 247 k := by
  unfold moR u2
  simp only [if_true, h]
theorem moR_h {k : Nat} (hk : 32 ≤ k) : moR Rz 247 k = 0 := by
  unfold moR
  rw [u2i (by omega), u2i (by omega), u2i (by omega), u2i (by omega), u2i (by omega), u2i (by omega), u2i (by omega), u2i (by omega), u2i (by omega), u2i (by omega), u2i (by omega), u2i (by omega), u2i (by omega), u2i (by omega), u2i (by omega), u2i (by omega), u2i (by omega), u2i (by omega), u2i (by omega), u2i (by omega), u2i (by omega)]
  rfl
theorem ref_ok : moR Rc = rF r0 := by
  funext a k
  by_cases h7 : a = 247
  · subst h7
    rw [moR_7 (Rc_z 247 (by decide))]
    by_cases hk : k < 32
    · exact ref_m k hk
    · rw [moR_h (by omega)]
      unfold rF
      have h1 := rL_len.2.2
      rw [if_neg (by decide), getD_far (by omega)]
  · rw [moR_n h7]
    by_cases ha : a < 270
    · by_cases hk : k < 16
      · exact ref_in ha hk h7
      · rw [Hi_c a k (by omega)]
        unfold rF r0
        have h1 := rL_len.2.1 a ha h7
        by_cases e : a = 55
        · rw [if_pos e, if_neg (by omega)]
        · rw [if_neg e, getD_far (by omega)]
    · rw [Rc_z a (by omega)]
      unfold rF
      rw [if_neg (by omega), getD_far (l := rL) (by rw [rL_len.1]; omega)]
      rfl
theorem kn_len : kL.length = 270 ∧ nLs.length = 270 := by decide +kernel
theorem memQ_mem {I : Nat → Nat → Int32} {J : Nat → Nat → Int64} : memQ 270 I J (moR Rc) 16619 = mem r0 I J := by
  have e1 : (fun a => if a < 270 then kF a else 99) = kF := by
    funext a
    by_cases h : a < 270
    · rw [if_pos h]
    · rw [if_neg h]
      unfold kF
      rw [getD_far (by rw [kn_len.1]; omega)]
  have e2 : (fun a => if a < 270 then nF a else 0) = nF := by
    funext a
    by_cases h : a < 270
    · rw [if_pos h]
    · rw [if_neg h]
      unfold nF
      rw [getD_far (by rw [kn_len.2]; omega)]
  show (_, _, I, J, moR Rc, 270, 16619) = (kF, nF, I, J, rF r0, 270 + r0 100, 16619 + r0 101)
  rw [e1, e2, ref_ok]
  rfl
