/-! the law's begin -/
theorem πz_n : nT πz = 0 ∧ nP πz = 0 ∧ nFr πz = 0 ∧ nfF πz = 1 := by decide
theorem moJ_w (J : Nat → Nat → Int64) : WC (moJ J) := by
  intro k hk
  unfold moJ
  have h : k = 0 ∨ k = 1 ∨ k = 2 ∨ k = 3 ∨ k = 4 ∨ k = 5 ∨ k = 6 ∨ k = 7 ∨ k = 8 ∨ k = 9 ∨ k = 10 ∨ k = 11 ∨ k = 12 ∨ k = 13 ∨ k = 14 ∨ k = 15 ∨ k = 16 ∨ k = 17 ∨ k = 18 ∨ k = 19 ∨ k = 20 ∨ k = 21 ∨ k = 22 ∨ k = 23 ∨ k = 24 ∨ k = 25 ∨ k = 26 ∨ k = 27 ∨ k = 28 := by omega
  rcases h with rfl | rfl | rfl | rfl | rfl | rfl | rfl | rfl | rfl | rfl | rfl | rfl | rfl | rfl | rfl | rfl | rfl | rfl | rfl | rfl | rfl | rfl | rfl | rfl | rfl | rfl | rfl | rfl | rfl <;> (repeat (rw [u2i (by decide)])) <;> (rw [u2s]; rfl)
theorem moJ_n {J : Nat → Nat → Int64} {x : Nat} (h : x ≠ 252) : moJ J x = J x := by
  unfold moJ
  rw [u2n h, u2n h, u2n h, u2n h, u2n h, u2n h, u2n h, u2n h, u2n h, u2n h, u2n h, u2n h, u2n h, u2n h, u2n h, u2n h, u2n h, u2n h, u2n h, u2n h, u2n h, u2n h, u2n h, u2n h, u2n h, u2n h, u2n h, u2n h, u2n h]
theorem r0_inj : ∀ i j, i < 16 → j < 16 → r0 i = r0 j → i = j := by
  have h : ∀ i, i < 16 → ∀ j, j < 16 → r0 i = r0 j → i = j := by decide
  exact fun i j hi hj => h i hi j hj
theorem PR_0 {I : Nat → Nat → Int32} {J : Nat → Nat → Int64} (h4 : I 4 0 = 0 ∧ I 4 1 = 0 ∧ I 4 2 = 1 ∧ I 4 3 = 3 ∧ I 4 4 = 0) (h13 : I 13 2 = 0) (h38 : I 38 0 = 0) (h54 : I 54 0 = 0) (h58 : ∀ m, m < 4 → I 58 m = 0) (h231 : I 231 0 = 0) (h16 : I 16 0 = 0) (h2 : I 2 0 = 0) (h253 : I 253 0 = 0 ∧ I 253 1 = 0 ∧ I 253 2 = 1 ∧ I 253 3 = 3 ∧ I 253 4 = 1 ∧ I 253 5 = -1 ∧ I 253 36 = 0) (h263 : I 263 0 = 0 ∧ I 263 43 = 0) (h260 : I 260 0 = 0) (h25 : I 247 25 = 0) (h18 : I 247 18 = 0) (h2b : I 247 2 = 0) (h264 : ∀ m, m < 4 → I 264 m = 0) : PR 0 (mem r0 I (moJ J)) := by
  obtain ⟨n1, n2, n3, n4⟩ := πz_n
  have vT : ∀ {p : Nat → Prop}, ∀ i, i < nT πz → p i := fun i hi => by rw [n1] at hi; exact absurd hi (Nat.not_lt_zero _)
  have vP : ∀ {p : Nat → Prop}, ∀ i, i < nP πz → p i := fun i hi => by rw [n2] at hi; exact absurd hi (Nat.not_lt_zero _)
  have hW : WP πz := WO_z.w
  have hV : WSt πz (begF πz) := ⟨by decide, vT, vP⟩
  have lm0 : ∀ k i, k < 8 → i < lm πz k → k = 0 ∧ i = 0 := fun k i hk hi => by
    unfold lm at hi
    by_cases e : k = 0
    · rw [if_pos e] at hi; exact ⟨e, by omega⟩
    · rw [if_neg e, n1, n2, ite_self] at hi; exact absurd hi (Nat.not_lt_zero _)
  have hCP : CP I πz := by
    refine ⟨fun k hk => ?_, vT, vP, fun i hi => by rw [n3] at hi; exact absurd hi (Nat.not_lt_zero _), h13, fun i hi => absurd hi (Nat.not_lt_zero _)⟩
    have h : k = 0 ∨ k = 1 ∨ k = 2 ∨ k = 3 ∨ k = 4 := by omega
    rcases h with rfl | rfl | rfl | rfl | rfl
    · exact h4.1
    · exact h4.2.1
    · exact h4.2.2.1
    · exact h4.2.2.2.1
    · exact h4.2.2.2.2
  have hKS : KS I 38 πz (begF πz) := ⟨by decide, hCP, hW, fun k i hk hi => by obtain ⟨rfl, rfl⟩ := lm0 k i hk hi; exact h38, hV⟩
  have hRP : RP I πz := by
    refine ⟨⟨h253.1, h253.2.1, h253.2.2.1, h253.2.2.2.1, h253.2.2.2.2.1⟩, fun i hi => ?_, vT, vP, Or.inl ⟨rfl, h253.2.2.2.2.2.1⟩⟩
    rw [n4] at hi
    have : i = 0 := by omega
    subst this
    exact h253.2.2.2.2.2.2
  have hKR : KR I 0 πz (begF πz) := ⟨by decide, hRP, hW, fun k i hk hi => by obtain ⟨rfl, rfl⟩ := lm0 k i hk hi; exact h263.1, hV⟩
  refine ⟨r0, I, moJ J, πz, begF πz, [], fun _ => none, [], [], [], [], rfl, ⟨hKS, ⟨h54, by decide, by decide, r0_inj, fun i hi => absurd hi (Nat.not_lt_zero _)⟩, fun m hm => h58 m hm, ⟨⟨h231, fun i hi => absurd hi (Nat.not_lt_zero _)⟩, by decide, fun i hi => absurd hi (Nat.not_lt_zero _)⟩, ⟨⟨h16, fun i hi => absurd hi (Nat.not_lt_zero _)⟩, by decide, fun i hi => absurd hi (Nat.not_lt_zero _)⟩, ⟨fun i hi => absurd hi (Nat.not_lt_zero _), WO_z.nn⟩, ⟨h2, fun i hi => absurd hi (Nat.not_lt_zero _)⟩, by decide, fun i hi => absurd hi (Nat.not_lt_zero _)⟩, ⟨hKR, ⟨h25, by decide, fun i hi => absurd hi (Nat.not_lt_zero _)⟩, fun m hm => h264 m hm, ⟨h263.2, fun i hi => absurd hi (Nat.not_lt_zero _)⟩, ⟨h260, fun i hi => absurd hi (Nat.not_lt_zero _)⟩, ⟨h18, fun i hi => absurd hi (Nat.not_lt_zero _)⟩, ⟨h2b, fun i hi => absurd hi (Nat.not_lt_zero _)⟩, moJ_w J⟩, ⟨Nat.le_refl _, fun i hi => absurd hi (Nat.not_lt_zero _), fun m x _ e => by simp at e⟩⟩
section
variable {G : GG} {d : Nat} {Q : Option Value → mm_M → Prop}
theorem x290b (h : ∀ M, PR 0 M → (mS M = 270 ∧ mW M = 16619) → XX G (d + 5) (some .boolean) P290 Q 23 [.retAddr 300, .ref 1, .ref 247, .ref 269, .int 0, jk, jk] [] M) : XX G (d + 5) (some .boolean) P290 Q 0 [.retAddr 300, jk, jk, jk, jk, jk, jk] [] (memQ 1 Iz Jz Rz 0) := by
  refine x290_0 ⟨by decide, ?_⟩
  simp only [qS]
  rw [nwQ (kd := 11) (len := 0) (w' := 14) rfl rfl (zz Rz_z (by decide))]
  refine k107 (fun I1 f1 b0 b1 b2 b3 b4 b13 b38 => ⟨by show (247 : Nat) ≠ 0; decide, ?_⟩)
  simp only [qS]
  have z1 : Zr 247 I1 Jz Rc := fun x hx => ⟨f1 x (by omega) (by omega) (by omega), rfl, Rc_z x hx⟩
  rw [nwQ (kd := 12) (len := 0) (w' := 35) rfl rfl z1]
  have g10 : moR Rc 247 10 = 253 := by decide +kernel
  have g24 : moR Rc 247 24 = 263 := by decide +kernel
  have g21 : moR Rc 247 21 = 260 := by decide +kernel
  have g26 : moR Rc 247 26 = 264 := by decide +kernel
  refine k162 z1.s (k163 g10 (fun I2 f2 c0 c1 c2 c3 c4 c5 c36 => ⟨t247, k164 g10 g24 g21 g26 c0 c1 (fun I3 f3 k3 e263 e43 e260 e25 e264 => b290_0_16 ?_)⟩))
  have lo : ∀ a, a < 247 → I3 a = I1 a := fun a ha => by rw [f3 a (by omega) (by omega) (by omega) (by omega), f2 a (by omega)]
  have e53 : I3 253 = I2 253 := f3 253 (by decide) (by decide) (by decide) (by decide)
  have e47 : ∀ k, k ≠ 25 → I3 247 k = 0 := fun k hk => by rw [k3 k hk, f2 247 (by decide), f1 247 (by decide) (by decide) (by decide)]
  have zr : ∀ a k, a < 247 → a ≠ 4 → a ≠ 13 → (a < 38 ∨ 45 < a) → I3 a k = 0 := fun a k h1 h2 h3 h4 => by rw [lo a h1, f1 a h2 h3 h4]
  have z3 : Zr 269 I3 (moJ Jz) (moR Rc) := fun x hx => ⟨by rw [f3 x (by omega) (by omega) (by omega) (by omega), f2 x (by omega)]; exact f1 x (by omega) (by omega) (by omega), by rw [moJ_n (by omega)]; rfl, by rw [moR_n (by omega)]; exact Rc_z x (by omega)⟩
  simp only [qS]
  rw [nwQ (kd := 15) (len := 1) (w' := 1) rfl rfl z3]
  have em := memQ_mem (I := I3) (J := moJ Jz)
  have key := h (mem r0 I3 (moJ Jz)) (PR_0 ⟨by rw [lo 4 (by decide)]; exact b0, by rw [lo 4 (by decide)]; exact b1, by rw [lo 4 (by decide)]; exact b2, by rw [lo 4 (by decide)]; exact b3, by rw [lo 4 (by decide)]; exact b4⟩ (by rw [lo 13 (by decide)]; exact b13) (by rw [lo 38 (by decide)]; exact b38) (zr 54 0 (by decide) (by decide) (by decide) (by decide)) (fun m _ => zr 58 m (by decide) (by decide) (by decide) (by decide)) (zr 231 0 (by decide) (by decide) (by decide) (by decide)) (zr 16 0 (by decide) (by decide) (by decide) (by decide)) (zr 2 0 (by decide) (by decide) (by decide) (by decide)) (by rw [e53]; exact ⟨c0, c1, c2, c3, c4, c5, c36⟩) ⟨e263, e43⟩ e260 e25 (e47 18 (by decide)) (e47 2 (by decide)) e264) ⟨rfl, rfl⟩
  rw [← em] at key
  exact key
end
