theorem lookup_mem {α : Type} {bs : List (Nat × α)} {k : Nat} {v : α} (h : bs.lookup k = some v) : (k, v) ∈ bs := by
  induction bs with
  | nil => cases h
  | cons q t ih =>
    obtain ⟨a, c⟩ := q
    rw [List.lookup_cons] at h
    split at h
    · rename_i hk
      have hk : k = a := by simpa using hk
      subst hk
      cases h
      exact List.mem_cons_self
    · exact List.mem_cons_of_mem _ (ih h)
theorem lay_len (b : Nat) (xo : Nat → Option Nat) (a : List Value) : (lay a).length = (lg_sl (a.map (cv b xo))).length := by
  induction a with
  | nil => rfl
  | cons v t ih =>
    have e1 : lg_sl ((v :: t).map (cv b xo)) = (if (cv b xo v).category = 2 then [Slot.val (cv b xo v), Slot.second] else [Slot.val (cv b xo v)]) ++ lg_sl (t.map (cv b xo)) := by
      unfold lg_sl
      rw [List.map_cons, List.flatMap_cons]
    rw [e1, List.length_append, ← ih, cv_cat]
    cases v <;> simp [lay, Value.category] <;> omega
theorem lay_args (b : Nat) (xo : Nat → Option Nat) : ∀ (a : List Value) (k i : Nat) (v : Value), (lay a)[i]? = some v → v ≠ jk → (k + i, cv b xo v) ∈ lv_args k (a.map (cv b xo)) := by
  intro a
  induction a with
  | nil => intro k i v h; simp [lay] at h
  | cons u t ih =>
    intro k i v h hv
    rw [List.map_cons, lv_args, cv_cat]
    have two : ∀ (w : Value), (w :: jk :: lay t)[i]? = some v → (k + i, cv b xo v) ∈ (k, cv b xo w) :: lv_args (k + 2) (t.map (cv b xo)) := by
      intro w h
      match i, h with
      | 0, h => cases h; exact List.mem_cons_self
      | 1, h => exact absurd (Option.some.inj h).symm hv
      | n + 2, h =>
        have h1 := ih (k + 2) n v h hv
        rw [show k + (n + 2) = k + 2 + n by omega]
        exact List.mem_cons_of_mem _ h1
    have one : ∀ (w : Value), (w :: lay t)[i]? = some v → (k + i, cv b xo v) ∈ (k, cv b xo w) :: lv_args (k + 1) (t.map (cv b xo)) := by
      intro w h
      match i, h with
      | 0, h => cases h; exact List.mem_cons_self
      | n + 1, h =>
        have h1 := ih (k + 1) n v h hv
        rw [show k + (n + 1) = k + 1 + n by omega]
        exact List.mem_cons_of_mem _ h1
    cases u <;> first | (exact one _ h) | (exact two _ h)
theorem lay_has {b : Nat} {xo : Nat → Option Nat} {a : List Value} {n : Nat} (hn : (lay a).length ≤ n) : lv_has ((lg_sl (a.map (cv b xo)) ++ List.replicate (n - (lg_sl (a.map (cv b xo))).length) Slot.unset).toArray) (lay0 a n).length (pl b xo (lay0 a n)) := by
  have h := lv_entry (a.map (cv b xo)) (n := n) (by rw [← lay_len]; exact hn)
  have hl : (lay0 a n).length = n := by unfold lay0; rw [List.length_append, List.length_replicate]; omega
  refine ⟨by rw [hl]; exact h.1, h.2.1, fun q hq => ?_⟩
  obtain ⟨i, w⟩ := q
  obtain ⟨v, hv, hj, rfl⟩ := pl_mem.mp hq
  apply h.2.2
  unfold lay0 at hv
  rcases Nat.lt_or_ge i (lay a).length with hlt | hge
  · rw [List.getElem?_append_left hlt] at hv
    have := lay_args b xo a 0 i v hv hj
    rwa [Nat.zero_add] at this
  · rw [List.getElem?_append_right hge] at hv
    have := List.mem_of_getElem? hv
    rw [List.mem_replicate] at this
    exact absurd this.2 hj
theorem Met_ofWF {l : Launch} {y : MethodName} {ws ws' : List Cond} {rm : Room} {Pc : Array Value → State → Prop} {Qc : Array Value → State → Outcome → State → Prop} {mc ms : Nat} {free : Addr → Prop} {cc : ByteArray} {maxL : Nat} {ret : Option FieldType}
    (hy : plainFor y = true) (hw : ws = Cond.code y cc maxL ret :: ws')
    (body : ∀ p e s m args below meth c s₁, BodyLoose p l y (headSpec ws rm) cc maxL ret e s m args below meth c s₁ → c.maxLocals = maxL → Pc args s →
      W p l e (headSpec ws rm).room s m args below meth c s.heap [] 0 0 (MQ below Qc args s mc ms free) (entryFrame m args maxL)) : Met l y ws rm Pc Qc mc ms free := by
  refine MetFree.of_bodySF (code := cc) (maxLocals := maxL) (ret := ret) hy ?_ ?_
  · intro args s m h hn
    obtain ⟨meth, c, h1, h2, h3, h4, h5, h6, -, -⟩ := Cond.code_spec hn (atoms_spec (ws := ws) h _ (by rw [hw]; exact List.mem_cons_self))
    exact ⟨meth, c, h1, h2, h3, h4, h5, h6⟩
  · intro p e s m args below meth c s₁ B hml hP _
    have hh0 : s₁.heap = s.heap := by rw [B.state]; rfl
    obtain ⟨t, a1, o, b1, b2, b3⟩ := body p e s m args below meth c s₁ B hml hP s₁ hh0 (Stand.of_body B)
    exact ⟨t, o, a1, b1, b2, ⟨b3.1, b3.2⟩⟩
section
variable {p : Program} {l : Launch} {e : Env} {R : Room} {s : State} {m : MethodId} {args : Array Value} {below : List Frame} {meth : Method} {c : Code} {Qf : State → Prop} {cc : ByteArray} {o nL : Nat} {D : va_G} {cy : Nat → ClassId} {b : Nat} {xo : Nat → Option Nat} {L : Nat} {xs : Nat → Int32}
theorem XN_W {E : Nat → List Value → mm_M → Option Value → mm_M → Prop} {bs : List (Nat × List Instr)} {Q : Option Value → mm_M → Prop} {rt : Option FieldType} {z w z0 w0 d : Nat} {ini : Bool}
    (hC : CX p s m args c cc o nL D cy b xo L xs) (hini : ini = true → meth.name = "<init>") (hR1 : d + 1 ≤ R.frames) (hR2 : 60 * (d + 1) ≤ R.locals) (hR3 : z - z0 ≤ R.cells) (hR4 : w - w0 ≤ R.slots)
    (hE : ∀ j a M r M1, j ≠ 291 → E j a M r M1 → MC l D cy b xo L xs d j a M r M1) (hEz : ∀ j a M r M1, E j a M r M1 → mS M ≤ mS M1 ∧ mW M ≤ mW M1) (hLR : LRr p l e R s m args below meth c Qf cc o nL D cy b xo E)
    (hbs : ∀ q ∈ bs, ckB o ini cc q.2 q.1 = true ∧ jmpB q.2 q.1 = true) (hQz : ∀ v M, Q v M → mS M ≤ z ∧ mW M ≤ w)
    (hQ : ∀ v M1, Q v M1 → ∀ (H1 : Heap) (locs1 : List Loc) (rl1 : Array Slot) (pc1 : Nat), WR D cy b M1 H1 → va_S (AA b) s.heap H1 locs1 → RQ cc rt v pc1 → W p l e R s m args below meth c H1 locs1 (mS M1 - z0) (mW M1 - w0) Qf (F0 m pc1 rl1 (v.toList.map (cv b xo)))) :
    ∀ (n pc : Nat) (ls st : List Value) (M : mm_M), XN L xs ac kd E rt bs Q n pc ls st M → ls.length = nL → z0 ≤ mS M → w0 ≤ mW M → WS p l e R s m args below meth c Qf D cy b xo z0 w0 M pc ls st := by
  intro n
  induction n with
  | zero => intro pc ls st M h; exact h.elim
  | succ n ih =>
    intro pc ls st M h hl h1 h2
    unfold XN at h
    split at h
    · rename_i bk hbk
      have hm := hbs _ (lookup_mem hbk)
      exact bl_W hC hini hR1 hR2 hR3 hR4 hE hEz hLR ih (fun a b c M q => XN_size hEz hQz n a b c M q) hQz hQ bk pc ls st M hm.1 hm.2 h hl h1 h2
    · exact h.elim
end
