section
variable {p : Program} {l : Launch} {e : Env} {R : Room} {s : State} {m : MethodId} {args : Array Value} {below : List Frame} {meth : Method} {c : Code} {H : Heap} {locs : List Loc} {cells slots : Nat} {Qf : State → Prop} {cc : ByteArray} {pc : Nat} {rl : Array Slot} {b : Nat} {xa : Nat → Option Nat}
theorem rf_cat (b a : Nat) : (va_rf (ro b a)).category = 1 := by unfold ro; split <;> rfl
/-- loads and stores of references, null or not -/
theorem ald {ls : List Value} {i : Nat} {st : List Value} {x : Value} (hexec : p.tables.exec = Jvm.exec) (hb : c.code = cc) (hdg : decode cc pc = .ok (.aload i, 2)) (hl : rl[i]? = some (.val (cv b xa x))) (hx : (∃ a, x = .ref a) ∨ ∃ n, x = .retAddr n)
    (kk : W p l e R s m args below meth c H locs cells slots Qf (F0 m (pc + 2) rl (cv b xa x :: st))) : W p l e R s m args below meth c H locs cells slots Qf (F0 m pc rl st) := by
  rcases hx with ⟨a, rfl⟩ | ⟨n, rfl⟩
  · by_cases ha : a = 0
    · subst ha
      exact lv_aloadN hexec hb hdg hl kk
    · have e1 : cv b xa (.ref a) = .ref (b + a) := by show va_rf (ro b a) = _; unfold ro; rw [if_neg ha]; rfl
      rw [e1] at hl kk
      exact lv_aload hexec hb hdg hl kk
  · cases hn : xa n with
    | none =>
      have e1 : cv b xa (.retAddr n) = .null := by show va_rf (xa n) = _; rw [hn]; rfl
      rw [e1] at hl kk
      exact lv_aloadN hexec hb hdg hl kk
    | some q =>
      have e1 : cv b xa (.retAddr n) = .ref q := by show va_rf (xa n) = _; rw [hn]; rfl
      rw [e1] at hl kk
      exact lv_aload hexec hb hdg hl kk
theorem ald_n {ls : List Value} {k : Fin 4} {st : List Value} {x : Value} (hexec : p.tables.exec = Jvm.exec) (hb : c.code = cc) (hdg : decode cc pc = .ok (.aload_n k, 1)) (hl : rl[(k : Nat)]? = some (.val (cv b xa x))) (hx : (∃ a, x = .ref a) ∨ ∃ n, x = .retAddr n)
    (kk : W p l e R s m args below meth c H locs cells slots Qf (F0 m (pc + 1) rl (cv b xa x :: st))) : W p l e R s m args below meth c H locs cells slots Qf (F0 m pc rl st) := by
  rcases hx with ⟨a, rfl⟩ | ⟨n, rfl⟩
  · by_cases ha : a = 0
    · subst ha
      exact lv_aload_nN hexec hb hdg rfl hl kk
    · have e1 : cv b xa (.ref a) = .ref (b + a) := by show va_rf (ro b a) = _; unfold ro; rw [if_neg ha]; rfl
      rw [e1] at hl kk
      exact lv_aload_n hexec hb hdg rfl hl kk
  · cases hn : xa n with
    | none =>
      have e1 : cv b xa (.retAddr n) = .null := by show va_rf (xa n) = _; rw [hn]; rfl
      rw [e1] at hl kk
      exact lv_aload_nN hexec hb hdg rfl hl kk
    | some q =>
      have e1 : cv b xa (.retAddr n) = .ref q := by show va_rf (xa n) = _; rw [hn]; rfl
      rw [e1] at hl kk
      exact lv_aload_n hexec hb hdg rfl hl kk
theorem asto {i nL : Nat} {a : Nat} {st : List Value} {lv : List (Nat × Value)} (hexec : p.tables.exec = Jvm.exec) (hb : c.code = cc) (hdg : decode cc pc = .ok (.astore i, 2)) (h : lv_has rl nL lv) (hn : i < nL)
    (kk : ∀ rl' : Array Slot, lv_has rl' nL ((i, cv b xa (.ref a)) :: lv.filter (fun q => !(q.1 == i) && !(q.1 + 1 == i && q.2.category == 2))) → W p l e R s m args below meth c H locs cells slots Qf (F0 m (pc + 2) rl' st)) : W p l e R s m args below meth c H locs cells slots Qf (F0 m pc rl (cv b xa (.ref a) :: st)) := by
  by_cases ha : a = 0
  · subst ha
    exact lv_astoreN hexec hb hdg h hn rfl kk
  · have e1 : cv b xa (.ref a) = .ref (b + a) := by show va_rf (ro b a) = _; unfold ro; rw [if_neg ha]; rfl
    rw [e1] at kk ⊢
    exact lv_astore hexec hb hdg h hn rfl kk
theorem asto_n {k : Fin 4} {nL : Nat} {a : Nat} {st : List Value} {lv : List (Nat × Value)} (hexec : p.tables.exec = Jvm.exec) (hb : c.code = cc) (hdg : decode cc pc = .ok (.astore_n k, 1)) (h : lv_has rl nL lv) (hn : (k : Nat) < nL)
    (kk : ∀ rl' : Array Slot, lv_has rl' nL (((k : Nat), cv b xa (.ref a)) :: lv.filter (fun q => !(q.1 == (k : Nat)) && !(q.1 + 1 == (k : Nat) && q.2.category == 2))) → W p l e R s m args below meth c H locs cells slots Qf (F0 m (pc + 1) rl' st)) : W p l e R s m args below meth c H locs cells slots Qf (F0 m pc rl (cv b xa (.ref a) :: st)) := by
  by_cases ha : a = 0
  · subst ha
    exact lv_astore_nN hexec hb hdg rfl h hn rfl kk
  · have e1 : cv b xa (.ref a) = .ref (b + a) := by show va_rf (ro b a) = _; unfold ro; rw [if_neg ha]; rfl
    rw [e1] at kk ⊢
    exact lv_astore_n hexec hb hdg rfl h hn rfl kk
theorem sx_W {i : Instr} {ls st ls' st' : List Value} (hexec : p.tables.exec = Jvm.exec) (hb : c.code = cc) (hsx : sx i ls st = some (ls', st')) (hdg : decode cc pc = .ok (i, iln i)) (hL : lv_has rl ls.length (pl b xa ls))
    (kk : ∀ rl' : Array Slot, lv_has rl' ls'.length (pl b xa ls') → W p l e R s m args below meth c H locs cells slots Qf (F0 m (pc + iln i) rl' (st'.map (cv b xa)))) : W p l e R s m args below meth c H locs cells slots Qf (F0 m pc rl (st.map (cv b xa))) := by
  unfold sx at hsx
  split at hsx
  · unfold ldI at hsx
    split at hsx
    · rename_i x hx
      cases hsx
      exact lv_iload hexec hb hdg (pl_at hL hx (by intro z; cases z)) (kk rl hL)
    · cases hsx
  · unfold ldI at hsx
    split at hsx
    · rename_i x hx
      cases hsx
      exact lv_iload_n hexec hb hdg rfl (pl_at hL hx (by intro z; cases z)) (kk rl hL)
    · cases hsx
  · unfold ldL at hsx
    split at hsx
    · rename_i x hx
      cases hsx
      exact lv_lload hexec hb hdg (pl_at hL hx (by intro z; cases z)) (kk rl hL)
    · cases hsx
  · unfold ldL at hsx
    split at hsx
    · rename_i x hx
      cases hsx
      exact lv_lload_n hexec hb hdg rfl (pl_at hL hx (by intro z; cases z)) (kk rl hL)
    · cases hsx
  · unfold ldA at hsx
    split at hsx
    · rename_i x hx
      cases hsx
      exact ald (ls := ls) hexec hb hdg (pl_at hL hx (by intro z; cases z)) (Or.inl ⟨_, rfl⟩) (kk rl hL)
    · rename_i n hx
      cases hsx
      exact ald (ls := ls) hexec hb hdg (pl_at hL hx (by intro z; cases z)) (Or.inr ⟨_, rfl⟩) (kk rl hL)
    · cases hsx
  · unfold ldA at hsx
    split at hsx
    · rename_i x hx
      cases hsx
      exact ald_n (ls := ls) hexec hb hdg (pl_at hL hx (by intro z; cases z)) (Or.inl ⟨_, rfl⟩) (kk rl hL)
    · rename_i n hx
      cases hsx
      exact ald_n (ls := ls) hexec hb hdg (pl_at hL hx (by intro z; cases z)) (Or.inr ⟨_, rfl⟩) (kk rl hL)
    · cases hsx
  · unfold soI at hsx
    split at hsx
    · split at hsx
      · rename_i hlt
        cases hsx
        exact lv_istore hexec hb hdg hL hlt rfl (fun rl' h => kk rl' (st1_has (b := b) (xa := xa) h))
      · cases hsx
    · cases hsx
  · unfold soI at hsx
    split at hsx
    · split at hsx
      · rename_i hlt
        cases hsx
        exact lv_istore_n hexec hb hdg rfl hL hlt rfl (fun rl' h => kk rl' (st1_has (b := b) (xa := xa) h))
      · cases hsx
    · cases hsx
  · unfold soL at hsx
    split at hsx
    · split at hsx
      · rename_i hlt
        cases hsx
        exact lv_lstore hexec hb hdg hL hlt rfl (fun rl' h => kk rl' (st2_has (b := b) (xa := xa) h))
      · cases hsx
    · cases hsx
  · unfold soL at hsx
    split at hsx
    · split at hsx
      · rename_i hlt
        cases hsx
        exact lv_lstore_n hexec hb hdg rfl hL hlt rfl (fun rl' h => kk rl' (st2_has (b := b) (xa := xa) h))
      · cases hsx
    · cases hsx
  · unfold soA at hsx
    split at hsx
    · split at hsx
      · rename_i hlt
        cases hsx
        exact asto hexec hb hdg hL hlt (fun rl' h => kk rl' (st1_has (b := b) (xa := xa) h))
      · cases hsx
    · cases hsx
  · unfold soA at hsx
    split at hsx
    · split at hsx
      · rename_i hlt
        cases hsx
        exact asto_n hexec hb hdg hL hlt (fun rl' h => kk rl' (st1_has (b := b) (xa := xa) h))
      · cases hsx
    · cases hsx
  · cases hsx
    exact lv_iconst hexec hb hdg rfl (kk rl hL)
  · cases hsx
    exact lv_bipush hexec hb hdg rfl (kk rl hL)
  · cases hsx
    exact lv_sipush hexec hb hdg rfl (kk rl hL)
  · cases hsx
    exact lv_lconst hexec hb hdg rfl (kk rl hL)
  · split at hsx
    · rename_i n k _ x hx
      cases hsx
      have hm : (n, cv b xa (.int x)) ∈ pl b xa ls := pl_mem.mpr ⟨.int x, hx, (by intro z; cases z), rfl⟩
      obtain ⟨q, hq⟩ := List.getElem?_of_mem hm
      exact lv_iinc hexec hb hdg hL (k := q) hq rfl (List.getElem?_eq_some_iff.mp hx).1 rfl (fun rl' h => kk rl' (st1_has (b := b) (xa := xa) h))
    · cases hsx
  · unfold o2I at hsx
    split at hsx
    · cases hsx
      exact lv_iadd hexec hb hdg (kk rl hL)
    · cases hsx
  · unfold o2I at hsx
    split at hsx
    · cases hsx
      exact lv_isub hexec hb hdg (kk rl hL)
    · cases hsx
  · unfold o2I at hsx
    split at hsx
    · cases hsx
      exact lv_imul hexec hb hdg (kk rl hL)
    · cases hsx
  · unfold o2I at hsx
    split at hsx
    · cases hsx
      exact lv_iand hexec hb hdg (kk rl hL)
    · cases hsx
  · unfold o2I at hsx
    split at hsx
    · cases hsx
      exact lv_ior hexec hb hdg (kk rl hL)
    · cases hsx
  · unfold o2I at hsx
    split at hsx
    · cases hsx
      exact lv_ixor hexec hb hdg (kk rl hL)
    · cases hsx
  · unfold o2I at hsx
    split at hsx
    · cases hsx
      exact lv_ishl hexec hb hdg (kk rl hL)
    · cases hsx
  · unfold o2I at hsx
    split at hsx
    · cases hsx
      exact lv_ishr hexec hb hdg (kk rl hL)
    · cases hsx
  · unfold o2I at hsx
    split at hsx
    · cases hsx
      exact lv_iushr hexec hb hdg rfl (kk rl hL)
    · cases hsx
  · unfold o1I at hsx
    split at hsx
    · cases hsx
      exact lv_ineg hexec hb hdg (kk rl hL)
    · cases hsx
  · unfold o1I at hsx
    split at hsx
    · cases hsx
      exact lv_i2l hexec hb hdg rfl (kk rl hL)
    · cases hsx
  · unfold o1I at hsx
    split at hsx
    · cases hsx
      exact lv_i2c hexec hb hdg rfl (kk rl hL)
    · cases hsx
  · unfold o1I at hsx
    split at hsx
    · cases hsx
      exact lv_i2b hexec hb hdg rfl (kk rl hL)
    · cases hsx
  · unfold o1L at hsx
    split at hsx
    · cases hsx
      exact lv_l2i hexec hb hdg rfl (kk rl hL)
    · cases hsx
  · unfold o2L at hsx
    split at hsx
    · cases hsx
      exact lv_ladd hexec hb hdg (kk rl hL)
    · cases hsx
  · unfold o2L at hsx
    split at hsx
    · cases hsx
      exact lv_lsub hexec hb hdg (kk rl hL)
    · cases hsx
  · unfold o2L at hsx
    split at hsx
    · cases hsx
      exact lv_lmul hexec hb hdg (kk rl hL)
    · cases hsx
  · unfold o2L at hsx
    split at hsx
    · cases hsx
      exact lv_land hexec hb hdg (kk rl hL)
    · cases hsx
  · unfold o2L at hsx
    split at hsx
    · cases hsx
      exact lv_lor hexec hb hdg (kk rl hL)
    · cases hsx
  · unfold o2L at hsx
    split at hsx
    · cases hsx
      exact W.lcmp hexec hb hdg (kk rl hL)
    · cases hsx
  · unfold oLI at hsx
    split at hsx
    · cases hsx
      exact lv_lshl hexec hb hdg rfl (kk rl hL)
    · cases hsx
  · unfold oLI at hsx
    split at hsx
    · cases hsx
      exact lv_lshr hexec hb hdg rfl (kk rl hL)
    · cases hsx
  · unfold oLI at hsx
    split at hsx
    · cases hsx
      exact lv_lushr hexec hb hdg rfl (kk rl hL)
    · cases hsx
  · split at hsx
    · cases hsx
      exact lv_dup hexec hb hdg rfl (kk rl hL)
    · cases hsx
      exact lv_dup hexec hb hdg (rf_cat _ _) (kk rl hL)
    · cases hsx
  · split at hsx
    · cases hsx
      exact lv_pop hexec hb hdg rfl (kk rl hL)
    · cases hsx
      exact lv_pop hexec hb hdg (rf_cat _ _) (kk rl hL)
    · cases hsx
  · split at hsx
    · cases hsx
      exact lv_dup2_11 hexec hb hdg rfl rfl (kk rl hL)
    · cases hsx
      exact lv_dup2_11 hexec hb hdg rfl (rf_cat _ _) (kk rl hL)
    · cases hsx
  · cases hsx
end
