theorem sx_len {i : Instr} {ls st ls' st' : List Value} (h : sx i ls st = some (ls', st')) : ls'.length = ls.length := by
  unfold sx at h
  split at h
  all_goals first
    | (unfold ldI at h; split at h <;> cases h <;> rfl)
    | (unfold ldL at h; split at h <;> cases h <;> rfl)
    | (unfold ldA at h; split at h <;> (try split at h) <;> cases h <;> rfl)
    | (unfold soI at h; split at h <;> (try split at h) <;> cases h <;> exact st1_len _ _ _)
    | (unfold soL at h; split at h <;> (try split at h) <;> cases h <;> exact st2_len _ _ _)
    | (unfold soA at h; split at h <;> (try split at h) <;> cases h <;> exact st1_len _ _ _)
    | (unfold o1I at h; split at h <;> cases h <;> rfl)
    | (unfold o2I at h; split at h <;> cases h <;> rfl)
    | (unfold o1L at h; split at h <;> cases h <;> rfl)
    | (unfold o2L at h; split at h <;> cases h <;> rfl)
    | (unfold oLI at h; split at h <;> cases h <;> rfl)
    | (cases h; rfl)
    | (split at h <;> cases h <;> first | rfl | exact st1_len _ _ _)
    | cases h
section
variable {p : Program} {l : Launch} {e : Env} {R : Room} {s : State} {m : MethodId} {args : Array Value} {below : List Frame} {meth : Method} {c : Code} {H : Heap} {locs : List Loc} {cells slots : Nat} {Qf : State → Prop} {cc : ByteArray} {pc : Nat} {rl : Array Slot} {o nL : Nat} {D : va_G} {cy : Nat → ClassId} {b : Nat} {xo : Nat → Option Nat} {L : Nat} {xs : Nat → Int32} {M : mm_M} {st : List Value}
theorem nn_z {z : Int32} (hz : ¬ z < 0) : z.toInt = (z.toNatClampNeg : Int) := by
  have hz0 : (0 : Int) ≤ z.toInt := by
    have := Int32.not_lt.mp hz
    simpa using Int32.le_iff_toInt_le.mp this
  show z.toInt = ((z.toInt.toNat : Nat) : Int)
  omega
/-- rows are copied: the source's and the target's values by mk -/
theorem r_cpy {α : Type} (mk : α → Value) {ty : FieldType} {k : Nat} {a0 a x : Nat} {n0 n1 : Nat} {f g : Nat → α} {sp dp n : Int32} (hC : CX p s m args c cc o nL D cy b xo L xs) (hS : va_S (AA b) s.heap H locs) (h0 : H[b + a0]? = some (arrV (cy k) n0 (fun j => mk (f j)))) (h1 : H[b + a]? = some (arrV (cy k) n1 (fun j => mk (g j)))) (ha : a ≠ 0) (hT' : ArrOfT s (cy k) ty) (hprim : refKind ty = false) (hfit : ∀ z, fits ty (mk z) = true) (htk : ∀ (U : State) (dc : ClassId) (z : α), U.takes dc (mk z))
    (hsp : ¬ sp < 0) (hdp : ¬ dp < 0) (hn : ¬ n < 0) (h4 : sp.toNatClampNeg + n.toNatClampNeg ≤ n0) (h5 : dp.toNatClampNeg + n.toNatClampNeg ≤ n1) (hl : Cond.methodLink (on o) x arraycopyName ∈ gT) (hrl : rl.size = nL) (hframes : 1 ≤ R.frames) (hlocals : (st.map fun v => v.category).sum + (nativeFrameWords "java/lang/System" "arraycopy" 5 + 11) ≤ R.locals) (hdg : decode cc pc = .ok (.invokestatic x, 3))
    (kk : ∀ (H1 : Heap) (locs1 : List Loc), H1.size = H.size → (∀ q, q ≠ b + a → H1[q]? = H[q]?) → H1[b + a]? = some (arrV (cy k) n1 (fun j => mk (va_cpy f g sp.toNatClampNeg dp.toNatClampNeg n.toNatClampNeg j))) → va_S (AA b) s.heap H1 locs1 → W p l e R s m args below meth c H1 locs1 cells slots Qf (F0 m (pc + 3) rl st)) : W p l e R s m args below meth c H locs cells slots Qf (F0 m pc rl (.int n :: .int dp :: .ref (b + a) :: .int sp :: .ref (b + a0) :: st)) := by
  obtain ⟨hex, hb, hml, hown, hts, hK, hE, hbs⟩ := hC
  have hN := AN_ok
  have w1 : Cond.native arraycopyName ∈ gT := hN _ (List.mem_of_getElem? (i := 0) rfl)
  have w2 : Cond.static arraycopyName ∈ gT := hN _ (List.mem_of_getElem? (i := 1) rfl)
  have w3 : Cond.initialized "java/lang/System" ∈ gT := hN _ (List.mem_of_getElem? (i := 2) rfl)
  intro T hT X
  obtain ⟨-, k0, hk0, cm0, hkk0⟩ := hT' n0 (fun j => mk (f j))
  obtain ⟨vm', X', step⟩ := X.arraycopy hex hown (hts _ hl) (hts _ w1) (hts _ w2) (hts _ w3) (src := b + a0) (dst := b + a) (cs := arrV (cy k) n0 (fun j => mk (f j))) (cd := arrV (cy k) n1 (fun j => mk (g j))) (srcPos := sp) (destPos := dp) (n := n) (by rw [hT]; exact h0) (by rw [hT]; exact h1)
    (fun _ h => by cases h) (fun _ h => by cases h) (fun h => by cases h) (fun h => by cases h) hk0 hk0 hkk0 hkk0 (by simp [hprim]) hsp hdp hn
    (by rw [nn_z hsp, nn_z hn, arrV_size]; omega)
    (by rw [nn_z hdp, nn_z hn, arrV_size]; omega)
    (fun vm₁ _ i hi => by
      have e : (arrV (cy k) n0 (fun j => mk (f j))).slots.getD (sp.toNatClampNeg + i) .null = mk (f (sp.toNatClampNeg + i)) := by
        rw [Array.getD_eq_getD_getElem?, arrV_read _ _ (by omega)]
        rfl
      rw [e]
      exact ⟨hfit _, htk _ _ _⟩)
    (g := F0 m pc rl (.int n :: .int dp :: .ref (b + a) :: .int sp :: .ref (b + a0) :: st)) rfl (by rw [hml]; exact hrl) (rest := st) rfl (by rw [hb]; exact hdg) hframes (by show 2 * 0 + _ + _ ≤ _; omega)
  have e1 : copied (arrV (cy k) n0 (fun j => mk (f j))) (arrV (cy k) n1 (fun j => mk (g j))) sp dp n = arrV (cy k) n1 (fun j => mk (va_cpy f g sp.toNatClampNeg dp.toNatClampNeg n.toNatClampNeg j)) := va_copied mk (cy k) (cy k) f g h4
  rw [e1] at X' step
  have hlt : b + a < H.size := (Array.getElem?_eq_some_iff.mp h1).1
  have hheap : ((T.setVm vm').setCell (b + a) (arrV (cy k) n1 (fun j => mk (va_cpy f g sp.toNatClampNeg dp.toNatClampNeg n.toNatClampNeg j)))).heap = H.setIfInBounds (b + a) (arrV (cy k) n1 (fun j => mk (va_cpy f g sp.toNatClampNeg dp.toNatClampNeg n.toNatClampNeg j))) := by rw [← hT]; rfl
  have oq : ∀ q : Nat, q ≠ b + a → (H.setIfInBounds (b + a) (arrV (cy k) n1 (fun j => mk (va_cpy f g sp.toNatClampNeg dp.toNatClampNeg n.toNatClampNeg j))))[q]? = H[q]? := fun q hq => by simp [Array.getElem?_setIfInBounds, Ne.symm hq]
  have hAA : AA b (b + a) := show b < b + a by omega
  obtain ⟨t, a1, b1⟩ := kk _ _ (by simp) oq (by simp [Array.getElem?_setIfInBounds, hlt]) ⟨by simp; exact hS.1, fun q g1 g2 => by
      rw [oq q (fun e => g2 (by rw [e]; exact hAA))]
      exact hS.2.1 q g1 g2, fun q hq => by
      rcases List.mem_append.mp hq with h | h
      · exact hS.2.2 q h
      · obtain ⟨z, -, hz⟩ := List.mem_map.mp h
        rw [← hz]
        exact hAA⟩ _ hheap X'
  exact ⟨t, step t a1, b1⟩
end
