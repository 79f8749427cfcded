/-! what a method finds around it -/
theorem cL_at : ∀ ci, ci < 13 → cL[ci]? = some (on ci, cT ci, (ftT ci).length) := by
  intro ci h
  have h : ci = 0 ∨ ci = 1 ∨ ci = 2 ∨ ci = 3 ∨ ci = 4 ∨ ci = 5 ∨ ci = 6 ∨ ci = 7 ∨ ci = 8 ∨ ci = 9 ∨ ci = 10 ∨ ci = 11 ∨ ci = 12 := by omega
  rcases h with rfl | rfl | rfl | rfl | rfl | rfl | rfl | rfl | rfl | rfl | rfl | rfl | rfl <;> rfl
theorem LY_all : ∀ ci, ci < 13 → ∀ k, k < (ftT ci).length → ∃ q ∈ LY, q.1 = (ci, k) := by decide +kernel
theorem cL_ws {ci : Nat} (h : ci < 13) : ∀ w ∈ u_ws (on ci) (cT ci) (ftT ci).length, w ∈ gT := by
  intro w hw
  obtain ⟨k, hk, rfl⟩ := List.mem_map.mp hw
  obtain ⟨q, hq, e⟩ := LY_all ci h k (List.mem_range.mp hk)
  have h1 := LY_ok q hq
  rw [e] at h1
  exact h1
theorem cL_nm : ∀ ci, ci < 13 → ∀ a, a < (ftT ci).length → ∀ b, b < (ftT ci).length → a ≠ b → (cT ci a).2.1 ≠ (cT ci b).2.1 := by decide +kernel
theorem cL_ty : ∀ ci, ci < 13 → ∀ k, k < (ftT ci).length → parseFieldDescriptor (cT ci k).2.2.1 = some (cY ci k) := by decide +kernel
def isR : FieldType → Bool
  | .object _ => true
  | .array _ => true
  | _ => false
theorem cL_ft : ∀ ci, ci < 13 → ∀ k, k < (ftT ci).length → (ft ci k = 0 ∧ cY ci k = .int) ∨ (ft ci k = 1 ∧ cY ci k = .long) ∨ (ft ci k = 2 ∧ isR (cY ci k) = true) ∨ (ft ci k = 3 ∧ cY ci k = .char) := by decide +kernel
def AA (b : Nat) : Nat → Prop := fun q => b < q
def tyL (cy : Nat → ClassId) : List (ClassId × FieldType) := [(cy 13, .char), (cy 14, .int), (cy 15, .long), (cy 16, .boolean), (cy 17, .object "ShoeOrchard$Felt"), (cy 18, .object "ShoeOrchard$State")]
def xa0 (xo : Nat → Option Nat) (n : Nat) : Nat := (xo n).getD 0
def stxt (i : Nat) : String := String.ofList ((tS.getD i []).map (fun c => Char.ofNat c.toInt.toNat))
/-- what stands outside, and the words that are carried by themselves -/
def EXT (xo : Nat → Option Nat) (L : Nat) (xs : Nat → Int32) (b : Nat) (U : State) (H : Heap) : Prop :=
  (∀ q ∈ MLN, va_Nw (fMLN q.1) U) ∧ (∀ q ∈ GN, va_Nw (fGN q.1) U) ∧ (va_AO "ShoeOrchard$Felt" U ∧ va_AO "ShoeOrchard$State" U) ∧
  (∀ q ∈ SK, vk_R (on q.1.1) q.1.2.1 (stxt q.1.2.2) (xa0 xo q.1.2.2) U) ∧
  vk_S 15 (tS.map List.length) tS (fun i => xa0 xo i) (fun i => xa0 xo (100 + i)) (AA b) U H ∧
  va_Z "java/lang/String" "COMPACT_STRINGS" "Z" (.int 1) (AA b) U H ∧
  (∀ n, n = 200 ∨ n = 201 ∨ n = 202 → va_Z (gs n).1 (gs n).2.1 (gs n).2.2 (va_rf (xo n)) (AA b) U H) ∧
  (∀ n, n = 200 ∨ n = 201 → va_T .int (xa0 xo n) 4 (fun j => .int (xrow xs n j)) (AA b) U H) ∧
  (va_X (xa0 xo 300) L xs U H ∧ xa0 xo 300 < H.size ∧ ¬ AA b (xa0 xo 300)) ∧
  (∀ n, n < 15 ∨ (100 ≤ n ∧ n < 115) ∨ n = 200 ∨ n = 201 ∨ n = 300 → xo n = some (xa0 xo n))
theorem EXT.to {xo : Nat → Option Nat} {L : Nat} {xs : Nat → Int32} {b : Nat} {U U' : State} {H H' : Heap} (hW : U.WarmedH U'.vm) (hz : H.size ≤ H'.size) (hq : ∀ a, a < H.size → ¬ AA b a → H'[a]? = H[a]?) (h : EXT xo L xs b U H) : EXT xo L xs b U' H' := by
  obtain ⟨h1, h2, h3, h4, h5, h6, h7, h8, h9, h10⟩ := h
  refine ⟨fun q hq => va_Nw.warmM hW (h1 q hq), fun q hq => va_Nw.warmF hW (h2 q hq), ⟨h3.1.moved hW.alike, h3.2.moved hW.alike⟩, fun q hq => (h4 q hq).warm hW, (h5.kept hq).moved hW.alike, (h6.kept hq).moved hW.alike, fun n hn => ((h7 n hn).kept hq).moved hW.alike, fun n hn => ((h8 n hn).kept hq).moved hW.alike, ⟨(h9.1.kept (hq _ h9.2.1 h9.2.2)).moved hW.alike, Nat.lt_of_lt_of_le h9.2.1 hz, h9.2.2⟩, h10⟩
theorem EXT.vm {xo : Nat → Option Nat} {L : Nat} {xs : Nat → Int32} {b : Nat} {U U' : State} {H : Heap} (hv : U'.vm = U.vm) (h : EXT xo L xs b U H) : EXT xo L xs b U' H := h.to (by rw [hv]; exact State.WarmedH.refl U) (Nat.le_refl _) (fun _ _ _ => rfl)
def CX (p : Program) (s : State) (m : MethodId) (args : Array Value) (c : Code) (cc : ByteArray) (o nL : Nat) (D : va_G) (cy : Nat → ClassId) (b : Nat) (xo : Nat → Option Nat) (L : Nat) (xs : Nat → Int32) : Prop :=
  p.tables.exec = Jvm.exec ∧ c.code = cc ∧ c.maxLocals = nL ∧ s.vm.findClass (on o) = some m.cls ∧ (∀ w ∈ gT, w.before args s = true) ∧ va_K D cL (tyL cy) s ∧ EXT xo L xs b s s.heap ∧ b < s.heap.size
theorem cv_x {b : Nat} {xo : Nat → Option Nat} {n : Nat} (h : xo n = some (xa0 xo n)) : cv b xo (.retAddr n) = .ref (xa0 xo n) := by
  show va_rf (xo n) = _
  rw [h]
  rfl
theorem cv_r {b : Nat} {xo : Nat → Option Nat} {a : Nat} (h : a ≠ 0) : cv b xo (.ref a) = .ref (b + a) := by
  show va_rf (ro b a) = _
  unfold ro
  rw [if_neg h]
  rfl
section
variable {D : va_G} {cy : Nat → ClassId} {b : Nat} {M M' : mm_M} {H H1 : Heap}
theorem cok_lt {a : Nat} (h : cok D cy b M a H) : b + a < H.size := by
  unfold cok at h
  split at h
  · obtain ⟨cell, h1, -⟩ := h
    exact (Array.getElem?_eq_some_iff.mp h1).1
  · exact (Array.getElem?_eq_some_iff.mp h).1
theorem WR.lt {a : Nat} (h : WR D cy b M H) (hk : mK M a < 19) : a < mS M := by
  have := cok_lt (h.2 a hk).2
  have := h.1
  omega
theorem cok_kept {a : Nat} (h : cok D cy b M a H) (hq : H1[b + a]? = H[b + a]?) (hK : mK M' a = mK M a) (hN : mN M' a = mN M a) (hI : mI M' a = mI M a) (hJ : mJ M' a = mJ M a) (hR : mR M' a = mR M a) : cok D cy b M' a H1 := by
  unfold cok at h ⊢
  rw [hK]
  split at h
  · rename_i hk
    rw [if_pos hk]
    refine (h.kept hq).to (fun k _ => ?_)
    unfold fv
    rw [hI, hJ, hR]
  · rename_i hk
    rw [if_neg hk, hq, h, hN]
    congr 2
    funext j
    unfold av
    rw [hI, hJ, hR]
theorem WR_set {a : Nat} (h : WR D cy b M H) (hK : ∀ x, mK M' x = mK M x) (hN : ∀ x, mN M' x = mN M x) (hS : mS M' = mS M) (hI : ∀ x, x ≠ a → mI M' x = mI M x) (hJ : ∀ x, x ≠ a → mJ M' x = mJ M x) (hR : ∀ x, x ≠ a → mR M' x = mR M x) (z : H1.size = H.size) (oq : ∀ q, q ≠ b + a → H1[q]? = H[q]?) (hc : cok D cy b M' a H1) : WR D cy b M' H1 := by
  refine ⟨by rw [z, hS]; exact h.1, fun x hx => ?_⟩
  rw [hK] at hx
  refine ⟨(h.2 x hx).1, ?_⟩
  by_cases e : x = a
  · rw [e]; exact hc
  · exact cok_kept (h.2 x hx).2 (oq _ (by omega)) (hK x) (hN x) (hI x e) (hJ x e) (hR x e)
theorem WR_new {kd n w : Nat} (h : WR D cy b M H) (hp : 0 < mS M) (z : H1.size = H.size + 1) (oq : ∀ q, q < H.size → H1[q]? = H[q]?) (hc : cok D cy b (nw M kd n w) (mS M) H1) : WR D cy b (nw M kd n w) H1 := by
  refine ⟨by rw [z, h.1]; show _ = b + (mS M + 1); omega, fun x hx => ?_⟩
  by_cases e : x = mS M
  · rw [e]
    exact ⟨by omega, hc⟩
  · have hk : mK (nw M kd n w) x = mK M x := by show (if x = mS M then kd else M.1 x) = _; rw [if_neg e]; rfl
    rw [hk] at hx
    have hl := cok_lt (h.2 x hx).2
    refine ⟨(h.2 x hx).1, cok_kept (h.2 x hx).2 (oq _ hl) hk ?_ ?_ ?_ ?_⟩
    · show (if x = mS M then n else M.2.1 x) = _; rw [if_neg e]; rfl
    · show (if x = mS M then (fun _ => 0) else M.2.2.1 x) = _; rw [if_neg e]; rfl
    · show (if x = mS M then (fun _ => 0) else M.2.2.2.1 x) = _; rw [if_neg e]; rfl
    · show (if x = mS M then (fun _ => 0) else M.2.2.2.2.1 x) = _; rw [if_neg e]; rfl
theorem WR.ob {a ci : Nat} (h : WR D cy b M H) (hk : mK M a = ci) (hc : ci < 13) : a ≠ 0 ∧ t_OB (b + a) (D.1 ci) (ftT ci).length (D.2 ci) H (fv b M ci a) := by
  subst hk
  obtain ⟨h1, h2⟩ := h.2 a (by omega)
  unfold cok at h2
  rw [if_pos hc] at h2
  exact ⟨h1, h2⟩
theorem WR.ar {a ci : Nat} (h : WR D cy b M H) (hk : mK M a = ci) (hc : ¬ ci < 13) (hc2 : ci < 19) : a ≠ 0 ∧ H[b + a]? = some (arrV (cy ci) (mN M a) (av b M ci a)) := by
  subst hk
  obtain ⟨h1, h2⟩ := h.2 a hc2
  unfold cok at h2
  rw [if_neg hc] at h2
  exact ⟨h1, h2⟩
theorem cok_ob {a ci : Nat} (hk : mK M a = ci) (hc : ci < 13) (h : t_OB (b + a) (D.1 ci) (ftT ci).length (D.2 ci) H (fv b M ci a)) : cok D cy b M a H := by
  subst hk
  unfold cok
  rw [if_pos hc]
  exact h
theorem cok_ar {a ci : Nat} (hk : mK M a = ci) (hc : ¬ ci < 13) (h : H[b + a]? = some (arrV (cy ci) (mN M a) (av b M ci a))) : cok D cy b M a H := by
  subst hk
  unfold cok
  rw [if_neg hc]
  exact h
end
