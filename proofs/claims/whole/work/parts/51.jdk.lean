/-! contracts: strings, rows filled -/
theorem sI_rwI (M : mm_M) (a k : Nat) (f : Nat → Int32) (v : Int32) : sI (rwI M a f) a k v = rwI M a (fun y => if y = k then v else f y) := by
  unfold sI rwI
  have e : u2 (u1 M.2.2.1 a f) a k v = u1 M.2.2.1 a (fun y => if y = k then v else f y) := by
    funext x y
    unfold u2 u1
    by_cases h : x = a
    · simp [h]
    · simp [h]
  simp only [e]
theorem rwI_self (M : mm_M) (a : Nat) : rwI M a (mI M a) = M := by
  unfold rwI
  have e : u1 M.2.2.1 a (mI M a) = M.2.2.1 := by
    funext x
    unfold u1
    by_cases h : x = a
    · rw [if_pos h, h]; rfl
    · rw [if_neg h]
  rw [e]
theorem rwI_eq {M : mm_M} {a : Nat} {f g : Nat → Int32} (h : ∀ y, f y = g y) : rwI M a f = rwI M a g := by
  have : f = g := funext h
  rw [this]
section
variable {G : GG} {d : Nat} {M : mm_M}
theorem xln_s {L i : Nat} (hi : i < 15) : xln L (100 + i) = tN i := by
  unfold xln
  rw [if_neg (by omega), show 100 + i - 100 = i by omega]
theorem c276 {P : Int32 → mm_M → Prop} {i : Nat} (hi : i < 15) (h : P (nI (tN i)) M) : CI G (d + 2) 276 [.retAddr i] M P := by
  refine e276 ⟨hi, ⟨by omega, by omega⟩, hi, e277 ⟨hi, rfl, ?_⟩⟩
  show P (Int32.ofNat (xln G.1 (100 + i)) >>> ((0 : Int32) &&& 31)) M
  rw [xln_s hi, sb_shr0]
  exact h
theorem tS_ok : ∀ i, i < 15 → tN i < 200 ∧ ∀ k, k < tN i → ((tB i k &&& (255 : Int32)).toUInt32 % 65536).toInt32 = tB i k ∧ narrow .char (.int (tB i k)) = .int (tB i k) := by decide +kernel
theorem c278 {P : Int32 → mm_M → Prop} {i k : Nat} (hi : i < 15) (hk : k < tN i) (h : P (tB i k) M) : CI G (d + 4) 278 [.retAddr i, .int (nI k)] M P := by
  obtain ⟨hN, hS⟩ := tS_ok i hi
  obtain ⟨hS1, hS2⟩ := hS k hk
  have e0 : 100 + i - 100 = i := by omega
  have hin : vp_in (nI k) (tN i) := vp_in_nI hk (by omega)
  refine e278 ⟨hi, e275 ⟨hi, fun q => absurd q (by decide), fun _ => ⟨hi, e283 ⟨⟨by omega, by omega⟩, e279 (e289 ⟨fun q => absurd q (nI_pos (by omega)), fun _ => ⟨fun _ => ?_, fun q => q ?_⟩⟩)⟩⟩⟩⟩
  · refine ⟨⟨⟨by omega, by omega⟩, by rw [e0]; exact hin⟩, ?_⟩
    rw [e0, nI_clamp (by omega), hS1]
    exact ⟨hS2, hS2, h⟩
  · rw [xln_s hi]
    exact nI_lt hk (by omega)
theorem fill_loop {Q : Option Value → mm_M → Prop} {a N : Nat} {v : Int32} (hK : mK M a = 14) (hN : mN M a = N) (hb : N < 2 ^ 31) (h : Q none (rwI M a (fun y => if y < N then v else mI M a y))) : ∀ n k, k + n = N → XX G d none P284 Q 5 [.ref a, .int v, .int (nI k), .int (nI N)] [] (rwI M a (fun y => if y < k then v else mI M a y)) := by
  intro n
  induction n with
  | zero =>
    intro k hk
    have hk : k = N := by omega
    subst hk
    exact x284_5 ⟨fun _ => h, fun q => absurd (nI_le (Nat.le_refl _) hb) q⟩
  | succ n ih =>
    intro k hk
    refine x284_5 ⟨fun q => absurd q (nI_ge (by omega) (by omega)), fun _ => ⟨⟨hK, ?_⟩, ?_⟩⟩
    · show vp_in (nI k) (mN M a)
      rw [hN]
      exact vp_in_nI (by omega) hb
    · have h1 := ih (k + 1) (by omega)
      rw [nI_clamp (by omega), sI_rwI, nI_1]
      have e : rwI M a (fun y => if y = k then v else if y < k then v else mI M a y) = rwI M a (fun y => if y < k + 1 then v else mI M a y) := by
        refine rwI_eq (fun y => ?_)
        by_cases h1 : y = k
        · rw [if_pos h1, if_pos (by omega)]
        · rw [if_neg h1]
          by_cases h2 : y < k
          · rw [if_pos h2, if_pos (by omega)]
          · rw [if_neg h2, if_neg (by omega)]
      rw [e]
      exact h1
theorem c284 {P : mm_M → Prop} {a N : Nat} {v : Int32} (hK : mK M a = 14) (hN : mN M a = N) (hb : N < 2 ^ 31) (h : P (rwI M a (fun y => if y < N then v else mI M a y))) : CV G (d + 1) 284 [.ref a, .int v] M P := by
  refine e284 ⟨⟨by rw [hK]; decide, by rw [hK]; decide⟩, ?_⟩
  have h1 := fill_loop (G := G) (d := d) (Q := QV P) (v := v) hK hN hb ⟨rfl, h⟩ N 0 (by omega)
  have e : rwI M a (fun y => if y < 0 then v else mI M a y) = M := by
    have : (fun y => if y < 0 then v else mI M a y) = mI M a := by
      funext y
      rw [if_neg (by omega)]
    rw [this]
    exact rwI_self M a
  rw [e] at h1
  rw [hN]
  exact h1
end
