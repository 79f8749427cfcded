/-! bits of longs (wb_: from the kit's laws, for pasting) -/
theorem wb_tb (n : Nat) : (lN n).toBitVec = BitVec.ofNat 64 n := rfl
theorem wb_inj {a b : Int64} (h : a.toBitVec = b.toBitVec) : a = b := Int64.toBitVec_inj.mp h
theorem wb_tn {n : Nat} (h : n < 2 ^ 64) : (lN n).toBitVec.toNat = n := by rw [wb_tb, BitVec.toNat_ofNat, Nat.mod_eq_of_lt h]
theorem wb_of (x : Int64) : ∃ n, n < 2 ^ 64 ∧ x = lN n := ⟨x.toBitVec.toNat, x.toBitVec.isLt, wb_inj (by rw [wb_tb]; simp)⟩
theorem wb_of32 (x : Int32) : ∃ n, n < 2 ^ 32 ∧ x = nI n := ⟨x.toBitVec.toNat, x.toBitVec.isLt, Int32.toBitVec_inj.mp (by show _ = BitVec.ofNat 32 _; simp)⟩
theorem wb_c : ∀ k, k < 64 → ((nI k).toInt64 &&& 63) = lN k := by decide +kernel
theorem wb_cu : ∀ k, k < 64 → ((nI k).toInt64.toUInt64 &&& Int64.toUInt64 63) = UInt64.ofNat k := by decide +kernel
theorem wb_sm : ∀ k, k < 64 → (BitVec.ofNat 64 k).smod 64 = BitVec.ofNat 64 k := by decide +kernel
theorem wb_pw {a b : Nat} (h : a ≤ b) : 2 ^ b = 2 ^ a * 2 ^ (b - a) := by rw [← Nat.pow_add]; congr 1; omega
theorem wb_lt2 {a b : Nat} (h : a < b) : 2 ^ a < 2 ^ b := Nat.pow_lt_pow_right (by decide) h
theorem wb_mod (n : Nat) : lN n = lN (n % 2 ^ 64) := wb_inj (by rw [wb_tb, wb_tb]; apply BitVec.eq_of_toNat_eq; rw [BitVec.toNat_ofNat, BitVec.toNat_ofNat, Nat.mod_mod])
theorem wb_shr {n k : Nat} (hn : n < 2 ^ 64) (hk : k < 64) : ((lN n).toUInt64 >>> ((nI k).toInt64.toUInt64 &&& Int64.toUInt64 63)).toInt64 = lN (n / 2 ^ k) := by
  rw [wb_cu k hk]
  apply wb_inj
  apply BitVec.eq_of_toNat_eq
  show ((lN n).toUInt64 >>> UInt64.ofNat k).toNat = (BitVec.ofNat 64 _).toNat
  have h1 : (UInt64.ofNat k).toNat = k := by
    show (BitVec.ofNat 64 k).toNat = k
    rw [BitVec.toNat_ofNat, Nat.mod_eq_of_lt (by omega)]
  have h2 : (lN n).toUInt64.toNat = n := wb_tn hn
  rw [UInt64.toNat_shiftRight, h1, h2, Nat.mod_eq_of_lt hk, Nat.shiftRight_eq_div_pow, BitVec.toNat_ofNat, Nat.mod_eq_of_lt (Nat.lt_of_le_of_lt (Nat.div_le_self _ _) hn)]
theorem wb_shl (n : Nat) {k : Nat} (hk : k < 64) : lN n <<< ((nI k).toInt64 &&& 63) = lN (n * 2 ^ k) := by
  rw [wb_c k hk]
  apply wb_inj
  rw [Int64.toBitVec_shiftLeft, wb_tb, wb_tb, wb_tb, wb_sm k hk]
  apply BitVec.eq_of_toNat_eq
  rw [BitVec.shiftLeft_eq', BitVec.toNat_shiftLeft, BitVec.toNat_ofNat, BitVec.toNat_ofNat, BitVec.toNat_ofNat, Nat.mod_eq_of_lt (show k < 2 ^ 64 by omega), Nat.shiftLeft_eq, Nat.mul_mod, Nat.mod_mod, ← Nat.mul_mod]
theorem wb_and {a b : Nat} (ha : a < 2 ^ 64) (hb : b < 2 ^ 64) : lN a &&& lN b = lN (a &&& b) := by
  apply wb_inj
  rw [Int64.toBitVec_and, wb_tb, wb_tb, wb_tb]
  apply BitVec.eq_of_toNat_eq
  rw [BitVec.toNat_and, BitVec.toNat_ofNat, BitVec.toNat_ofNat, BitVec.toNat_ofNat, Nat.mod_eq_of_lt ha, Nat.mod_eq_of_lt hb, Nat.mod_eq_of_lt (Nat.and_lt_two_pow _ hb)]
theorem wb_or {a b : Nat} (ha : a < 2 ^ 64) (hb : b < 2 ^ 64) : lN a ||| lN b = lN (a ||| b) := by
  apply wb_inj
  rw [Int64.toBitVec_or, wb_tb, wb_tb, wb_tb]
  apply BitVec.eq_of_toNat_eq
  rw [BitVec.toNat_or, BitVec.toNat_ofNat, BitVec.toNat_ofNat, BitVec.toNat_ofNat, Nat.mod_eq_of_lt ha, Nat.mod_eq_of_lt hb, Nat.mod_eq_of_lt (Nat.or_lt_two_pow ha hb)]
theorem wb_mask {n k : Nat} (hn : n < 2 ^ 64) (hk : k < 64) : lN n &&& lN (2 ^ k - 1) = lN (n % 2 ^ k) := by
  rw [wb_and hn (by have := wb_lt2 hk; omega), Nat.and_two_pow_sub_one_eq_mod]
theorem wb_a1 {n : Nat} (hn : n < 2 ^ 64) : lN n &&& 1 = lN (n % 2) := wb_mask (k := 1) hn (by decide)
theorem wb_bit {n k : Nat} (hn : n < 2 ^ 64) (hk : k < 64) : ((lN n).toUInt64 >>> ((nI k).toInt64.toUInt64 &&& Int64.toUInt64 63)).toInt64 &&& 1 = lN (n / 2 ^ k % 2) := by
  rw [wb_shr hn hk, wb_a1 (Nat.lt_of_le_of_lt (Nat.div_le_self _ _) hn)]
theorem lg_0 {m : Nat} (hm : m < 2 ^ 63) : lg_cmp (lN m) (0 : Int64) = 0 ↔ m = 0 := by
  unfold lg_cmp
  have e : (lN m = (0 : Int64)) ↔ m = 0 := pk_lEQ (b := 0) hm (by decide)
  have l1 : ¬ lN m < (0 : Int64) := fun z => by have := (pk_lLT (b := 0) hm (by decide)).mp z; omega
  by_cases q : m = 0
  · subst q; exact ⟨fun _ => rfl, fun _ => by decide⟩
  · refine ⟨fun z => ?_, fun z => absurd z q⟩
    exfalso
    revert z
    have l2 : ¬ lN m = (0 : Int64) := fun z => q (e.mp z)
    have l3 : (0 : Int64) < lN m := (pk_lLT (a := 0) (by decide) hm).mpr (by omega)
    simp [l1, l2, l3]
theorem setL_up {c : Nat → Bool} {i : Nat} (hi : i < 63) (h : c i = true) : lN (setF c i) ||| ((1 : Int64) <<< ((nI i).toInt64 &&& 63)) = lN (setF c (i + 1)) := by
  have h1 := setF_lt c i
  have h2 : 2 ^ i < 2 ^ 64 := wb_lt2 (by omega)
  rw [show (1 : Int64) = lN 1 from rfl, wb_shl 1 (by omega), Nat.one_mul, wb_or (by omega) h2, setF, if_pos h]
  congr 1
  have := Nat.two_pow_add_eq_or_of_lt h1 1
  rw [Nat.mul_one] at this
  rw [Nat.or_comm, ← this, Nat.add_comm]
theorem setF_bit (c : Nat → Bool) : ∀ n i, i < n → setF c n / 2 ^ i % 2 = if c i then 1 else 0 := by
  intro n
  induction n with
  | zero => intro i hi; omega
  | succ n ih =>
    intro i hi
    have hl := setF_lt c n
    unfold setF
    by_cases e : i = n
    · subst e
      by_cases q : c i = true
      · rw [if_pos q, if_pos q, Nat.add_div_right _ (Nat.two_pow_pos i), Nat.div_eq_of_lt hl]
      · rw [if_neg q, if_neg q, Nat.add_zero, Nat.div_eq_of_lt hl]
    · have hin : i < n := by omega
      rw [← ih i hin]
      by_cases q : c n = true
      · rw [if_pos q]
        have : 2 ^ n = 2 ^ i * (2 * 2 ^ (n - i - 1)) := by
          rw [← Nat.mul_assoc, Nat.mul_comm (2 ^ i) 2, Nat.mul_assoc, ← Nat.pow_add, ← Nat.pow_succ']
          congr 1; omega
        rw [this, Nat.add_mul_div_left _ _ (Nat.two_pow_pos i), Nat.add_mul_mod_self_left]
      · rw [if_neg q, Nat.add_zero]
def exF (c : Nat → Bool) : Nat → Bool
  | 0 => false
  | n + 1 => exF c n || c n
theorem exF_t {c : Nat → Bool} {i : Nat} (h : c i = true) : ∀ n, i < n → exF c n = true := by
  intro n
  induction n with
  | zero => intro hi; omega
  | succ n ih =>
    intro hi
    unfold exF
    by_cases e : i = n
    · subst e; rw [h, Bool.or_true]
    · rw [ih (by omega), Bool.true_or]
theorem exF_f {c : Nat → Bool} : ∀ n, (∀ i, i < n → c i = false) → exF c n = false := by
  intro n
  induction n with
  | zero => intro _; rfl
  | succ n ih =>
    intro h
    unfold exF
    rw [ih (fun i hi => h i (by omega)), h n (by omega)]; rfl
theorem exF_no {c : Nat → Bool} {n : Nat} (h : exF c n = false) : ∀ i, i < n → c i = false := fun i hi => by
  cases e : c i with
  | false => rfl
  | true => rw [exF_t e n hi] at h; exact absurd h (by decide)
theorem setF_0 (c : Nat → Bool) : ∀ n, (setF c n == 0) = !exF c n := by
  intro n
  induction n with
  | zero => rfl
  | succ n ih =>
    unfold setF exF
    by_cases q : c n = true
    · have := Nat.two_pow_pos n
      rw [if_pos q, q, Bool.or_true, beq_false_of_ne (by omega)]; rfl
    · rw [if_neg q, Nat.add_zero, ih]
      rw [Bool.not_eq_true] at q
      rw [q, Bool.or_false]
