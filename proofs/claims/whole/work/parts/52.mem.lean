/-! memory of the fixed shape -/
def kF (a : Nat) : Nat := kL.getD a 99
def nF (a : Nat) : Nat := nLs.getD a 0
def rF (r : Nat → Nat) (a k : Nat) : Nat := if a = 55 then r k else (rL.getD a []).getD k 0
def mem (r : Nat → Nat) (I : Nat → Nat → Int32) (J : Nat → Nat → Int64) : mm_M := (kF, nF, I, J, rF r, 270 + r 100, 16619 + r 101)
section
variable {r : Nat → Nat} {I : Nat → Nat → Int32} {J : Nat → Nat → Int64}
theorem mKm (a : Nat) : mK (mem r I J) a = kF a := rfl
theorem mNm (a : Nat) : mN (mem r I J) a = nF a := rfl
theorem mIm (a k : Nat) : mI (mem r I J) a k = I a k := rfl
theorem mIf (a : Nat) : mI (mem r I J) a = I a := rfl
theorem mJm (a k : Nat) : mJ (mem r I J) a k = J a k := rfl
theorem mJf (a : Nat) : mJ (mem r I J) a = J a := rfl
theorem mRm (a k : Nat) : mR (mem r I J) a k = rF r a k := rfl
theorem sIm (a k : Nat) (v : Int32) : sI (mem r I J) a k v = mem r (u2 I a k v) J := rfl
theorem sJm (a k : Nat) (v : Int64) : sJ (mem r I J) a k v = mem r I (u2 J a k v) := rfl
theorem rwIm (a : Nat) (g : Nat → Int32) : rwI (mem r I J) a g = mem r (u1 I a g) J := rfl
theorem rwJm (a : Nat) (g : Nat → Int64) : rwJ (mem r I J) a g = mem r I (u1 J a g) := rfl
theorem sRm {k : Nat} (hk : k < 100) (v : Nat) : sR (mem r I J) 55 k v = mem (u1 r k v) I J := by
  have e1 : u1 r k v 100 = r 100 := if_neg (by omega)
  have e2 : u1 r k v 101 = r 101 := if_neg (by omega)
  have e : u2 (rF r) 55 k v = rF (u1 r k v) := by
    funext x y
    unfold u2 rF u1
    by_cases h : x = 55
    · rw [if_pos h, if_pos h, if_pos h]
    · rw [if_neg h, if_neg h, if_neg h]
  unfold sR mem
  simp only [e, e1, e2]
theorem kN : kF 1 = 11 ∧ kF 2 = 10 ∧ kF 3 = 13 ∧ kF 4 = 7 ∧ kF 5 = 14 ∧ kF 6 = 14 ∧ kF 7 = 14 ∧ kF 8 = 15 ∧ kF 9 = 14 ∧ kF 10 = 14 ∧ kF 11 = 15 ∧ kF 12 = 14 ∧ kF 13 = 1 ∧ kF 14 = 14 ∧ kF 15 = 14 ∧ kF 16 = 2 ∧ kF 17 = 14 ∧ kF 18 = 14 ∧ kF 19 = 14 ∧ kF 20 = 5 ∧ kF 21 = 7 ∧ kF 22 = 14 ∧ kF 23 = 14 ∧ kF 24 = 14 ∧ kF 25 = 15 ∧ kF 26 = 14 ∧ kF 27 = 14 ∧ kF 28 = 15 ∧ kF 29 = 14 ∧ kF 30 = 1 ∧ kF 31 = 14 ∧ kF 32 = 14 ∧ kF 33 = 4 ∧ kF 34 = 2 ∧ kF 35 = 14 ∧ kF 36 = 14 ∧ kF 37 = 14 ∧ kF 38 = 9 ∧ kF 46 = 9 ∧ kF 54 = 6 ∧ kF 55 = 18 ∧ kF 56 = 18 ∧ kF 57 = 17 ∧ kF 58 = 16 ∧ kF 195 = 0 ∧ kF 196 = 14 ∧ kF 197 = 16 ∧ kF 206 = 0 ∧ kF 207 = 14 ∧ kF 208 = 16 ∧ kF 217 = 0 ∧ kF 218 = 14 ∧ kF 219 = 16 ∧ kF 228 = 0 ∧ kF 229 = 14 ∧ kF 230 = 16 ∧ kF 231 = 0 ∧ kF 232 = 14 ∧ kF 233 = 16 ∧ kF 234 = 3 ∧ kF 235 = 14 ∧ kF 236 = 14 ∧ kF 237 = 14 ∧ kF 238 = 14 ∧ kF 239 = 8 ∧ kF 240 = 14 ∧ kF 241 = 14 ∧ kF 242 = 14 ∧ kF 243 = 14 ∧ kF 244 = 14 ∧ kF 245 = 14 ∧ kF 246 = 15 ∧ kF 247 = 12 ∧ kF 248 = 14 ∧ kF 249 = 14 ∧ kF 250 = 14 ∧ kF 251 = 15 ∧ kF 252 = 15 ∧ kF 253 = 14 ∧ kF 254 = 14 ∧ kF 255 = 14 ∧ kF 256 = 15 ∧ kF 257 = 15 ∧ kF 258 = 14 ∧ kF 259 = 14 ∧ kF 260 = 14 ∧ kF 261 = 14 ∧ kF 262 = 14 ∧ kF 263 = 14 ∧ kF 264 = 16 ∧ kF 265 = 14 ∧ kF 266 = 14 ∧ kF 267 = 14 ∧ kF 268 = 14 ∧ kF 269 = 15 := ⟨rfl, rfl, rfl, rfl, rfl, rfl, rfl, rfl, rfl, rfl, rfl, rfl, rfl, rfl, rfl, rfl, rfl, rfl, rfl, rfl, rfl, rfl, rfl, rfl, rfl, rfl, rfl, rfl, rfl, rfl, rfl, rfl, rfl, rfl, rfl, rfl, rfl, rfl, rfl, rfl, rfl, rfl, rfl, rfl, rfl, rfl, rfl, rfl, rfl, rfl, rfl, rfl, rfl, rfl, rfl, rfl, rfl, rfl, rfl, rfl, rfl, rfl, rfl, rfl, rfl, rfl, rfl, rfl, rfl, rfl, rfl, rfl, rfl, rfl, rfl, rfl, rfl, rfl, rfl, rfl, rfl, rfl, rfl, rfl, rfl, rfl, rfl, rfl, rfl, rfl, rfl, rfl, rfl, rfl, rfl⟩
theorem nN : nF 3 = 1000 ∧ nF 5 = 6 ∧ nF 6 = 6 ∧ nF 7 = 6 ∧ nF 8 = 6 ∧ nF 9 = 6 ∧ nF 10 = 6 ∧ nF 11 = 6 ∧ nF 12 = 12 ∧ nF 14 = 1000 ∧ nF 15 = 24 ∧ nF 17 = 40 ∧ nF 18 = 40 ∧ nF 19 = 40 ∧ nF 22 = 6 ∧ nF 23 = 6 ∧ nF 24 = 6 ∧ nF 25 = 6 ∧ nF 26 = 6 ∧ nF 27 = 6 ∧ nF 28 = 6 ∧ nF 29 = 12 ∧ nF 31 = 1000 ∧ nF 32 = 24 ∧ nF 35 = 40 ∧ nF 36 = 40 ∧ nF 37 = 40 ∧ nF 55 = 16 ∧ nF 56 = 4 ∧ nF 57 = 4 ∧ nF 58 = 4 ∧ nF 196 = 8 ∧ nF 197 = 8 ∧ nF 207 = 8 ∧ nF 208 = 8 ∧ nF 218 = 8 ∧ nF 219 = 8 ∧ nF 229 = 8 ∧ nF 230 = 8 ∧ nF 232 = 8 ∧ nF 233 = 8 ∧ nF 235 = 6 ∧ nF 236 = 6 ∧ nF 237 = 6 ∧ nF 238 = 448 ∧ nF 240 = 6 ∧ nF 241 = 6 ∧ nF 242 = 6 ∧ nF 243 = 6 ∧ nF 244 = 6 ∧ nF 245 = 6 ∧ nF 246 = 6 ∧ nF 248 = 1000 ∧ nF 249 = 1002 ∧ nF 250 = 1002 ∧ nF 251 = 1002 ∧ nF 252 = 29 ∧ nF 253 = 100 ∧ nF 254 = 2200 ∧ nF 255 = 2200 ∧ nF 256 = 12 ∧ nF 257 = 12 ∧ nF 258 = 12 ∧ nF 259 = 12 ∧ nF 260 = 250 ∧ nF 261 = 4 ∧ nF 262 = 1100 ∧ nF 263 = 1380 ∧ nF 264 = 4 ∧ nF 265 = 6 ∧ nF 266 = 6 ∧ nF 267 = 6 ∧ nF 268 = 6 ∧ nF 269 = 1 := ⟨rfl, rfl, rfl, rfl, rfl, rfl, rfl, rfl, rfl, rfl, rfl, rfl, rfl, rfl, rfl, rfl, rfl, rfl, rfl, rfl, rfl, rfl, rfl, rfl, rfl, rfl, rfl, rfl, rfl, rfl, rfl, rfl, rfl, rfl, rfl, rfl, rfl, rfl, rfl, rfl, rfl, rfl, rfl, rfl, rfl, rfl, rfl, rfl, rfl, rfl, rfl, rfl, rfl, rfl, rfl, rfl, rfl, rfl, rfl, rfl, rfl, rfl, rfl, rfl, rfl, rfl, rfl, rfl, rfl, rfl, rfl, rfl, rfl, rfl⟩
theorem rN : rF r 1 0 = 2 ∧ rF r 1 1 = 4 ∧ rF r 1 2 = 16 ∧ rF r 1 3 = 20 ∧ rF r 1 4 = 33 ∧ rF r 1 5 = 38 ∧ rF r 1 6 = 46 ∧ rF r 1 7 = 54 ∧ rF r 1 8 = 231 ∧ rF r 1 9 = 234 ∧ rF r 1 10 = 239 ∧ rF r 1 11 = 245 ∧ rF r 1 12 = 246 ∧ rF r 2 5 = 3 ∧ rF r 4 5 = 5 ∧ rF r 4 6 = 6 ∧ rF r 4 7 = 7 ∧ rF r 4 8 = 8 ∧ rF r 4 9 = 9 ∧ rF r 4 10 = 10 ∧ rF r 4 11 = 11 ∧ rF r 4 12 = 12 ∧ rF r 4 13 = 13 ∧ rF r 13 0 = 14 ∧ rF r 13 1 = 15 ∧ rF r 16 1 = 17 ∧ rF r 16 2 = 18 ∧ rF r 16 3 = 19 ∧ rF r 20 0 = 21 ∧ rF r 21 5 = 22 ∧ rF r 21 6 = 23 ∧ rF r 21 7 = 24 ∧ rF r 21 8 = 25 ∧ rF r 21 9 = 26 ∧ rF r 21 10 = 27 ∧ rF r 21 11 = 28 ∧ rF r 21 12 = 29 ∧ rF r 21 13 = 30 ∧ rF r 30 0 = 31 ∧ rF r 30 1 = 32 ∧ rF r 33 0 = 34 ∧ rF r 34 1 = 35 ∧ rF r 34 2 = 36 ∧ rF r 34 3 = 37 ∧ rF r 54 1 = 55 ∧ rF r 54 2 = 56 ∧ rF r 54 3 = 57 ∧ rF r 54 4 = 58 ∧ rF r 56 0 = 187 ∧ rF r 56 1 = 198 ∧ rF r 56 2 = 209 ∧ rF r 56 3 = 220 ∧ rF r 57 0 = 195 ∧ rF r 57 1 = 206 ∧ rF r 57 2 = 217 ∧ rF r 57 3 = 228 ∧ rF r 195 1 = 196 ∧ rF r 195 2 = 197 ∧ rF r 206 1 = 207 ∧ rF r 206 2 = 208 ∧ rF r 217 1 = 218 ∧ rF r 217 2 = 219 ∧ rF r 228 1 = 229 ∧ rF r 228 2 = 230 ∧ rF r 231 1 = 232 ∧ rF r 231 2 = 233 ∧ rF r 234 1 = 235 ∧ rF r 234 2 = 236 ∧ rF r 234 3 = 237 ∧ rF r 234 6 = 238 ∧ rF r 239 2 = 240 ∧ rF r 239 5 = 241 ∧ rF r 239 6 = 242 ∧ rF r 239 7 = 243 ∧ rF r 239 8 = 244 ∧ rF r 247 1 = 248 ∧ rF r 247 4 = 249 ∧ rF r 247 5 = 250 ∧ rF r 247 6 = 251 ∧ rF r 247 9 = 252 ∧ rF r 247 10 = 253 ∧ rF r 247 11 = 254 ∧ rF r 247 12 = 255 ∧ rF r 247 14 = 256 ∧ rF r 247 15 = 257 ∧ rF r 247 16 = 258 ∧ rF r 247 17 = 259 ∧ rF r 247 21 = 260 ∧ rF r 247 22 = 261 ∧ rF r 247 23 = 262 ∧ rF r 247 24 = 263 ∧ rF r 247 26 = 264 ∧ rF r 247 27 = 265 ∧ rF r 247 28 = 266 ∧ rF r 247 30 = 267 ∧ rF r 247 31 = 268 ∧ (∀ k, rF r 55 k = r k) := ⟨rfl, rfl, rfl, rfl, rfl, rfl, rfl, rfl, rfl, rfl, rfl, rfl, rfl, rfl, rfl, rfl, rfl, rfl, rfl, rfl, rfl, rfl, rfl, rfl, rfl, rfl, rfl, rfl, rfl, rfl, rfl, rfl, rfl, rfl, rfl, rfl, rfl, rfl, rfl, rfl, rfl, rfl, rfl, rfl, rfl, rfl, rfl, rfl, rfl, rfl, rfl, rfl, rfl, rfl, rfl, rfl, rfl, rfl, rfl, rfl, rfl, rfl, rfl, rfl, rfl, rfl, rfl, rfl, rfl, rfl, rfl, rfl, rfl, rfl, rfl, rfl, rfl, rfl, rfl, rfl, rfl, rfl, rfl, rfl, rfl, rfl, rfl, rfl, rfl, rfl, rfl, rfl, rfl, rfl, rfl, rfl, fun _ => rfl⟩
theorem st_k : ∀ s ∈ stL, s < 263 ∧ 38 ≤ s ∧ s ≠ 55 ∧ kF s = 9 ∧ (∀ k, k < 8 → 1 ≤ k → (rL.getD s []).getD k 0 = s + k ∧ kF (s + k) = 14 ∧ nF (s + k) = 6) ∧ (rL.getD s []).getD 8 0 = 4 := by decide +kernel
theorem stN {s : Nat} (hs : s ∈ stL) : kF s = 9 ∧ (∀ r, rF r s 8 = 4) ∧ (∀ r, rF r s 1 = s + 1) ∧ kF (s + 1) = 14 ∧ nF (s + 1) = 6 ∧ (∀ r, rF r s 2 = s + 2) ∧ kF (s + 2) = 14 ∧ nF (s + 2) = 6 ∧ (∀ r, rF r s 3 = s + 3) ∧ kF (s + 3) = 14 ∧ nF (s + 3) = 6 ∧ (∀ r, rF r s 4 = s + 4) ∧ kF (s + 4) = 14 ∧ nF (s + 4) = 6 ∧ (∀ r, rF r s 5 = s + 5) ∧ kF (s + 5) = 14 ∧ nF (s + 5) = 6 ∧ (∀ r, rF r s 6 = s + 6) ∧ kF (s + 6) = 14 ∧ nF (s + 6) = 6 ∧ (∀ r, rF r s 7 = s + 7) ∧ kF (s + 7) = 14 ∧ nF (s + 7) = 6 := by
  obtain ⟨h1, h2, h3, h4, h5, h6⟩ := st_k s hs
  have e : ∀ r k, rF r s k = (rL.getD s []).getD k 0 := fun r k => if_neg h3
  simp only [e, h6, h4, true_and, implies_true]
  exact ⟨(fun _ => (h5 1 (by decide) (by decide)).1), (h5 1 (by decide) (by decide)).2.1, (h5 1 (by decide) (by decide)).2.2, (fun _ => (h5 2 (by decide) (by decide)).1), (h5 2 (by decide) (by decide)).2.1, (h5 2 (by decide) (by decide)).2.2, (fun _ => (h5 3 (by decide) (by decide)).1), (h5 3 (by decide) (by decide)).2.1, (h5 3 (by decide) (by decide)).2.2, (fun _ => (h5 4 (by decide) (by decide)).1), (h5 4 (by decide) (by decide)).2.1, (h5 4 (by decide) (by decide)).2.2, (fun _ => (h5 5 (by decide) (by decide)).1), (h5 5 (by decide) (by decide)).2.1, (h5 5 (by decide) (by decide)).2.2, (fun _ => (h5 6 (by decide) (by decide)).1), (h5 6 (by decide) (by decide)).2.1, (h5 6 (by decide) (by decide)).2.2, (fun _ => (h5 7 (by decide) (by decide)).1), (h5 7 (by decide) (by decide)).2.1, (h5 7 (by decide) (by decide)).2.2⟩
end
theorem ix {t n : Nat} (h : t < n) (hn : n ≤ 65536) : vp_in (nI t) n ∧ (nI t).toNatClampNeg = t := ⟨vp_in_nI h (by omega), nI_clamp (by omega)⟩
theorem ix0 {n : Nat} (h : 0 < n) : vp_in (0 : Int32) n := vp_in_iff.mpr ⟨by decide, by show (0 : Int) < n; omega⟩
theorem ifp {c A B : Prop} (h : c) (a : A) : ifP c A B := ⟨fun _ => a, fun q => absurd h q⟩
theorem ifn {c A B : Prop} (h : ¬ c) (b : B) : ifP c A B := ⟨fun q => absurd q h, fun _ => b⟩
theorem ifb {c A B : Prop} (a : c → A) (b : ¬ c → B) : ifP c A B := ⟨a, b⟩
theorem u1s {α : Type} {f : Nat → α} {a : Nat} {v : α} : u1 f a v a = v := if_pos rfl
theorem u1n {α : Type} {f : Nat → α} {a x : Nat} {v : α} (h : x ≠ a) : u1 f a v x = f x := if_neg h
theorem u2s {α : Type} {f : Nat → Nat → α} {a k : Nat} {v : α} : u2 f a k v a k = v := by unfold u2; rw [if_pos rfl, if_pos rfl]
theorem u2n {α : Type} {f : Nat → Nat → α} {a k x : Nat} {v : α} (h : x ≠ a) : u2 f a k v x = f x := by funext y; unfold u2; rw [if_neg h]
theorem u2i {α : Type} {f : Nat → Nat → α} {a k y : Nat} {v : α} (h : y ≠ k) : u2 f a k v a y = f a y := by unfold u2; rw [if_pos rfl, if_neg h]
theorem u2m {α : Type} {f : Nat → Nat → α} {a k x y : Nat} {v : α} (h : x = a → y ≠ k) : u2 f a k v x y = f x y := by
  by_cases e : x = a
  · subst e; exact u2i (h rfl)
  · rw [u2n e]
theorem u2e {α : Type} {f : Nat → Nat → α} {a k : Nat} {v : α} : u2 f a k v a = u1 (f a) k v := by funext y; unfold u2 u1; rw [if_pos rfl]
/-! frames: rows outside l are as they were -/
def Fr (l : List Nat) (I I' : Nat → Nat → Int32) : Prop := ∀ a, a ∉ l → I' a = I a
theorem Fr.rfl {l : List Nat} {I : Nat → Nat → Int32} : Fr l I I := fun _ _ => Eq.refl _
theorem Fr.trans {l : List Nat} {I I' I2 : Nat → Nat → Int32} (h : Fr l I I') (h' : Fr l I' I2) : Fr l I I2 := fun a ha => (h' a ha).trans (h a ha)
theorem Fr.mono {l l' : List Nat} {I I' : Nat → Nat → Int32} (h : Fr l I I') (hl : ∀ a ∈ l, a ∈ l') : Fr l' I I' := fun a ha => h a (fun q => ha (hl a q))
theorem Fr.u2 {l : List Nat} {I I' : Nat → Nat → Int32} {a k : Nat} {v : Int32} (h : Fr l I I') (ha : a ∈ l) : Fr l I (u2 I' a k v) := fun x hx => (u2n (show x ≠ a from fun q => hx (q ▸ ha))).trans (h x hx)
theorem Fr.u1 {l : List Nat} {I I' : Nat → Nat → Int32} {a : Nat} {v : Nat → Int32} (h : Fr l I I') (ha : a ∈ l) : Fr l I (u1 I' a v) := fun x hx => (u1n (show x ≠ a from fun q => hx (q ▸ ha))).trans (h x hx)
/-! plan and state as numbers -/
abbrev PLN : Type := (Nat → Nat → Nat) × List Int32
def nT (π : PLN) : Nat := π.1 0 0
def nP (π : PLN) : Nat := π.1 1 0
def nFr (π : PLN) : Nat := π.1 4 0
def dst (a b : Nat) : Nat := (a - b) + (b - a)
def stn (k : Nat) : Nat := if k = 0 then 1 else if k = 1 then 3 else if k = 2 then 0 else 2
def rdn (k : Nat) : Nat := if k = 0 then 3 else if k = 1 then 2 else if k = 2 then 0 else 1
def frF (π : PLN) (y : Nat) : Nat := if nFr π = 0 then 0 else π.1 12 (y % nFr π)
def bearF (π : PLN) (y t : Nat) : Bool := decide (frF π y ≤ stn (π.1 5 t))
def pinF (π : PLN) (p ft sz : Nat) : Nat := (if π.1 9 p = 2 then min (dst sz ft) (dst (2 * sz) ft) else dst sz ft) - (π.1 2 0 + if π.1 9 p = 3 then 1 else 0)
def op2 (x u v : Int32) : Int32 := if x = -7 then u - v else if x = -6 then u + v else if x = -5 then (if u = v then 1 else 0) else if x = -4 then (if u < v then 1 else 0) else if x = -3 then (if u = 0 ∧ v = 0 then 0 else 1) else if x = -2 then (if u = 0 ∨ v = 0 then 0 else 1) else u * v
def fct (x a b c d : Int32) : Int32 := if x = 0 then a else if x = 1 then b else if x = 2 then c else d
def evS (a b c d : Int32) : List Int32 → List Int32 → List Int32
  | [], st => st
  | x :: t, st => if x = -1 then (match st with | u :: st => evS a b c d t ((if u = 0 then 1 else 0) :: st) | [] => []) else if -9 < x ∧ x < -1 then (match st with | v :: u :: st => evS a b c d t (op2 x u v :: st) | _ => []) else evS a b c d t ((if 0 ≤ x then x else fct (-9 - x) a b c d) :: st)
def okS : List Int32 → Nat → Prop
  | [], n => n = 1
  | x :: t, n => if x = -1 then 1 ≤ n ∧ okS t n else if -9 < x ∧ x < -1 then 2 ≤ n ∧ okS t (n - 1) else -12 ≤ x ∧ n < 24 ∧ okS t (n + 1)
def evF (φ : List Int32) (a b c d : Int32) : Int32 := if φ = [] then a else (evS a b c d φ []).headD 0
def szF (π : PLN) (l g y : Nat) : Nat := min 40 (evF π.2 (nI l) (nI g) (nI (frF π y)) (nI y)).toNatClampNeg
def fitF (π : PLN) (σ : Nat → Nat → Nat) (p t : Nat) : Bool := bearF π (σ 0 0) t && pinF π p (σ 3 p) (szF π (σ 1 t) (σ 2 t) (σ 0 0)) == 0
def lm (π : PLN) (k : Nat) : Nat := if k = 0 then 1 else if k ≤ 2 then nT π else nP π
def enc (k n : Nat) : Int32 := if k = 5 ∨ k = 6 then nI n - 1 else nI n
/-- the plan is well told -/
def WP (π : PLN) : Prop := nT π ≤ 6 ∧ nP π ≤ 6 ∧ π.1 2 0 ≤ 5 ∧ 1 ≤ π.1 3 0 ∧ π.1 3 0 ≤ 6 ∧ nFr π ≤ 12 ∧ (∀ i, i < nT π → π.1 5 i < 4 ∧ π.1 6 i ≤ 30 ∧ π.1 7 i ≤ 20) ∧ (∀ i, i < nP π → π.1 9 i < 4 ∧ π.1 10 i ≤ 30) ∧ (∀ i, i < nFr π → π.1 12 i ≤ 3) ∧ (π.2 = [] ∨ okS π.2 0) ∧ π.2.length ≤ 1000
/-- the class holds the plan -/
def CP (I : Nat → Nat → Int32) (π : PLN) : Prop := (∀ k, k < 5 → I 4 k = nI (π.1 k 0)) ∧ (∀ i, i < nT π → I 5 i = nI (π.1 5 i) ∧ I 6 i = nI (π.1 6 i) ∧ I 7 i = nI (π.1 7 i)) ∧ (∀ i, i < nP π → I 9 i = nI (π.1 9 i) ∧ I 10 i = nI (π.1 10 i)) ∧ (∀ i, i < nFr π → I 12 i = nI (π.1 12 i)) ∧ I 13 2 = nI π.2.length ∧ ∀ i, i < π.2.length → I 14 i = π.2.getD i 0
/-- a state's bounds -/
def WSt (π : PLN) (σ : Nat → Nat → Nat) : Prop := σ 0 0 < 2 ^ 30 ∧ (∀ i, i < nT π → σ 1 i ≤ 30 ∧ σ 2 i ≤ 99) ∧ ∀ i, i < nP π → σ 3 i ≤ 40 ∧ σ 4 i ≤ π.1 3 0 ∧ σ 5 i ≤ nT π ∧ σ 6 i ≤ nP π
/-- the class holds the state in s -/
def CS (π : PLN) (I : Nat → Nat → Int32) (s : Nat) (σ : Nat → Nat → Nat) : Prop := ∀ k i, k < 8 → i < lm π k → I (s + k) i = enc k (σ k i)
