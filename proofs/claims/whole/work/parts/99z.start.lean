/-! the other side begins -/
section
variable {G : GG} {d : Nat} {P : mm_M → Prop} {Q : Option Value → mm_M → Prop} {I : Nat → Nat → Int32} {J : Nat → Nat → Int64} {R : Nat → Nat → Nat} {w : Nat}
theorem t247 : mK (memQ 269 I J R w) 247 = 12 := (qK (by decide)).trans rfl
theorem t253 {k : Nat} (hk : k < 100) : mK (memQ 269 I J R w) 253 = 14 ∧ vp_in (nI k) (mN (memQ 269 I J R w) 253) := ⟨(qK (by decide)).trans rfl, by rw [qN (by decide)]; exact vp_in_nI hk (by decide)⟩
theorem t263 {k : Nat} (hk : k < 1380) : mK (memQ 269 I J R w) 263 = 14 ∧ vp_in (nI k) (mN (memQ 269 I J R w) 263) := ⟨(qK (by decide)).trans rfl, by rw [qN (by decide)]; exact vp_in_nI hk (by decide)⟩
theorem k163 (hR : R 247 10 = 253) (h : ∀ I', (∀ a, a ≠ 253 → I' a = I a) → I' 253 0 = 0 → I' 253 1 = 0 → I' 253 2 = 1 → I' 253 3 = 3 → I' 253 4 = 1 → I' 253 5 = -1 → I' 253 36 = 0 → P (memQ 269 I' J R w)) : CV G (d + 1) 163 [.ref 247, .int 0] (memQ 269 I J R w) P := by
  refine e163 ?_
  have loop : ∀ m t (I2 : Nat → Nat → Int32), t + m = 50 → (∀ a, a ≠ 253 → I2 a = I a) → (∀ k, k < t → I2 253 k = 0) → XX G d none P163 (QV P) 2 [.ref 247, .int 0, .int (nI t)] [] (memQ 269 I2 J R w) := by
    intro m
    induction m with
    | zero =>
      intro t I2 ht h1 h3
      have e50 : t = 50 := by omega
      subst e50
      have a2 : (0 : Int32) + 2 = nI 2 := rfl
      have a3 : (0 : Int32) + 3 = nI 3 := rfl
      have a4 : (0 : Int32) + 4 = nI 4 := rfl
      have a5 : (0 : Int32) + 5 = nI 5 := rfl
      refine x163_2 (ifp (by decide) ?_)
      simp only [qM, hR, a2, qI, nI_clamp (show 2 < 2 ^ 31 by decide)]
      refine ⟨t247, t253 (by decide), b163_23_32 ?_⟩
      simp only [qM, hR, a3, qI, nI_clamp (show 3 < 2 ^ 31 by decide)]
      refine ⟨t247, t253 (by decide), b163_23_41 ?_⟩
      simp only [qM, hR, a4, qI, nI_clamp (show 4 < 2 ^ 31 by decide)]
      refine ⟨t247, t253 (by decide), b163_23_50 ?_⟩
      simp only [qM, hR, a5, qI, nI_clamp (show 5 < 2 ^ 31 by decide)]
      refine ⟨t247, t253 (by decide), b163_23_59 ⟨rfl, h _ (fun a ha => by rw [u2n ha, u2n ha, u2n ha, u2n ha]; exact h1 a ha) ?_ ?_ ?_ ?_ ?_ u2s ?_⟩⟩
      · rw [u2i (by decide), u2i (by decide), u2i (by decide), u2i (by decide)]; exact h3 0 (by decide)
      · rw [u2i (by decide), u2i (by decide), u2i (by decide), u2i (by decide)]; exact h3 1 (by decide)
      · rw [u2i (by decide), u2i (by decide), u2i (by decide), u2s]
      · rw [u2i (by decide), u2i (by decide), u2s]
      · rw [u2i (by decide), u2s]
      · rw [u2i (by decide), u2i (by decide), u2i (by decide), u2i (by decide)]; exact h3 36 (by decide)
    | succ m ih =>
      intro t I2 ht h1 h3
      have e0 : (0 : Int32) + nI t = nI t := Int32.zero_add _
      refine x163_2 (ifn (fun z => absurd ((nI_leI (a := 50) (by decide) (by omega)).mp z) (by omega)) ?_)
      simp only [qM, hR, e0, qI, nI_clamp (show t < 2 ^ 31 by omega)]
      refine ⟨t247, t253 (by omega), ?_⟩
      rw [nI_1]
      refine ih (t + 1) _ (by omega) (fun a ha => by rw [u2n ha]; exact h1 a ha) (fun k hk => ?_)
      by_cases e : k = t
      · rw [e, u2s]
      · rw [u2i (by omega)]; exact h3 k (by omega)
  exact loop 50 0 I (by decide) (fun _ _ => rfl) (fun k hk => absurd hk (Nat.not_lt_zero _))
theorem k165 (hR : R 247 10 = 253) (hR2 : R 247 24 = 263) (z0 : I 253 0 = 0) (z1 : I 253 1 = 0) (h : ∀ I', (∀ a, a ≠ 263 → I' a = I a) → I' 263 0 = 0 → P (memQ 269 I' J R w)) : CV G (d + 2) 165 [.ref 247, .int 0] (memQ 269 I J R w) P := by
  refine e165 ?_
  have a13 : (0 : Int32) + 13 = nI 13 := rfl
  have a19 : (0 : Int32) + 19 = nI 19 := rfl
  have a37 : (0 : Int32) + 37 = nI 37 := rfl
  have last : ∀ m t (I2 : Nat → Nat → Int32), t + m = 6 → (∀ a, a ≠ 263 → I2 a = I a) → I2 263 0 = 0 → XX G (d + 1) none P165 (QV P) 74 [.ref 247, .int 0, .int (nI t)] [] (memQ 269 I2 J R w) := by
    intro m
    induction m with
    | zero =>
      intro t I2 ht h1 h3
      have e : t = 6 := by omega
      subst e
      exact x165_74 (ifp (by decide) ⟨rfl, h I2 h1 h3⟩)
    | succ m ih =>
      intro t I2 ht h1 h3
      refine x165_74 (ifn (fun z => absurd ((nI_leI (a := 6) (by decide) (by omega)).mp z) (by omega)) ⟨t247, t247, e168 ?_⟩)
      simp only [qM, hR, hR2, qi, a13, a19, a37]
      have e1 : I2 253 1 = 0 := by rw [h1 253 (by decide)]; exact z1
      rw [e1]
      refine ⟨t247, t253 (k := 1) (by decide), ifp (nI_pos' (by omega)) ?_⟩
      rw [nI_add]
      simp only [nI_clamp (show 13 + t < 2 ^ 31 by omega), qI]
      refine ⟨t263 (by omega), b165_107_109 ?_⟩
      simp only [qM, hR2, a19]
      rw [nI_add]
      simp only [nI_clamp (show 19 + t < 2 ^ 31 by omega), qI]
      refine ⟨t247, t263 (by omega), b165_107_121 ?_⟩
      simp only [qM, hR2, a37]
      rw [nI_add]
      simp only [nI_clamp (show 37 + t < 2 ^ 31 by omega), qI]
      refine ⟨t247, t263 (by omega), b165_107_133 ?_⟩
      rw [nI_1]
      exact ih (t + 1) _ (by omega) (fun a ha => by rw [u2n ha, u2n ha, u2n ha]; exact h1 a ha) (by rw [u2i (by omega), u2i (by omega), u2i (by omega)]; exact h3)
  have loop : ∀ m t (I2 : Nat → Nat → Int32), t + m = 43 → (∀ a, a ≠ 263 → I2 a = I a) → (∀ k, k < t → I2 263 k = 0) → XX G (d + 1) none P165 (QV P) 2 [.ref 247, .int 0, .int (nI t)] [] (memQ 269 I2 J R w) := by
    intro m
    induction m with
    | zero =>
      intro t I2 ht h1 h3
      have e : t = 43 := by omega
      subst e
      refine x165_2 (ifp (by decide) (x165_25 ⟨t247, e166 ?_⟩))
      simp only [qM, hR, qi]
      have e1 : I2 253 0 = 0 := by rw [h1 253 (by decide)]; exact z0
      rw [e1]
      exact ⟨t247, t253 (k := 0) (by decide), ifp (by decide) (last 6 0 I2 (by decide) h1 (h3 0 (by decide)))⟩
    | succ m ih =>
      intro t I2 ht h1 h3
      have e0 : (0 : Int32) + nI t = nI t := Int32.zero_add _
      refine x165_2 (ifn (fun z => absurd ((nI_leI (a := 43) (by decide) (by omega)).mp z) (by omega)) ?_)
      simp only [qM, hR2, e0, qI, nI_clamp (show t < 2 ^ 31 by omega)]
      refine ⟨t247, t263 (by omega), ?_⟩
      rw [nI_1]
      refine ih (t + 1) _ (by omega) (fun a ha => by rw [u2n ha]; exact h1 a ha) (fun k hk => ?_)
      by_cases e : k = t
      · rw [e, u2s]
      · rw [u2i (by omega)]; exact h3 k (by omega)
  exact loop 43 0 I (by decide) (fun _ _ => rfl) (fun k hk => absurd hk (Nat.not_lt_zero _))
theorem k164 (hR : R 247 10 = 253) (hR2 : R 247 24 = 263) (hR3 : R 247 21 = 260) (hR4 : R 247 26 = 264) (z0 : I 253 0 = 0) (z1 : I 253 1 = 0) (h : ∀ I', (∀ a, a ≠ 247 → a ≠ 260 → a ≠ 263 → a ≠ 264 → I' a = I a) → (∀ k, k ≠ 25 → I' 247 k = I 247 k) → I' 263 0 = 0 → I' 263 43 = 0 → I' 260 0 = 0 → I' 247 25 = 0 → (∀ m, m < 4 → I' 264 m = 0) → P (memQ 269 I' J R w)) : CV G (d + 3) 164 [.ref 247] (memQ 269 I J R w) P := by
  refine e164 ⟨t247, k165 hR hR2 z0 z1 (fun I1 f1 y1 => ?_)⟩
  simp only [qM, hR2, hR3, qI]
  refine ⟨t247, t263 (k := 43) (by decide), t247, ⟨(qK (by decide)).trans rfl, by rw [qN (by decide)]; exact vp_in_nI (n := 0) (N := 250) (by decide) (by decide)⟩, b164_0_20 ?_⟩
  simp only [qI]
  refine ⟨t247, ?_⟩
  have loop : ∀ m t (I2 : Nat → Nat → Int32), t + m = 4 → (∀ a, a ≠ 264 → I2 a = u2 (u2 (u2 I1 263 43 0) 260 0 0) 247 25 0 a) → (∀ k, k < t → I2 264 k = 0) → XX G (d + 2) none P164 (QV P) 27 [.ref 247, .int (nI t)] [] (memQ 269 I2 J R w) := by
    intro m
    induction m with
    | zero =>
      intro t I2 ht h1 h2
      have e4 : t = 4 := by omega
      subst e4
      refine x164_27 (ifp (by decide) ⟨rfl, h I2 (fun a a1 a2 a3 a4 => ?_) (fun k hk => ?_) ?_ ?_ ?_ ?_ h2⟩)
      · rw [h1 a a4, u2n a1, u2n a2, u2n a3, f1 a a3]
      · rw [h1 247 (by decide), u2i hk, u2n (by decide), u2n (by decide), f1 247 (by decide)]
      · rw [h1 263 (by decide), u2n (by decide), u2n (by decide), u2i (by decide)]; exact y1
      · rw [h1 263 (by decide), u2n (by decide), u2n (by decide), u2s]
      · rw [h1 260 (by decide), u2n (by decide), u2s]
      · rw [h1 247 (by decide), u2s]
    | succ m ih =>
      intro t I2 ht h1 h2
      refine x164_27 (ifn (fun z => absurd ((nI_leI (a := 4) (by decide) (by omega)).mp z) (by omega)) ?_)
      simp only [qM, hR4, qI, nI_clamp (show t < 2 ^ 31 by omega)]
      refine ⟨t247, ⟨(qK (by decide)).trans rfl, by rw [qN (by decide)]; exact vp_in_nI (show t < 4 by omega) (by decide)⟩, b164_27_39 ?_⟩
      rw [nI_1]
      refine ih (t + 1) _ (by omega) (fun a ha => by rw [u2n ha]; exact h1 a ha) (fun k hk => ?_)
      by_cases e : k = t
      · rw [e, u2s]; decide
      · rw [u2i (by omega)]; exact h2 k (by omega)
  exact loop 4 0 _ (by decide) (fun _ _ => rfl) (fun k hk => absurd hk (Nat.not_lt_zero _))
end
