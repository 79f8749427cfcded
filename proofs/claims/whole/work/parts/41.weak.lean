/-! a run that does with fewer locals does with more -/
def lsle : List Value → List Value → Prop
  | [], [] => True
  | a :: t, c :: u => (a = c ∨ a = jk) ∧ lsle t u
  | _, _ => False
theorem lsle_rfl : ∀ a, lsle a a
  | [] => trivial
  | _ :: t => ⟨Or.inl rfl, lsle_rfl t⟩
theorem lsle_get : ∀ {a c : List Value} {i : Nat} {v : Value}, lsle a c → a[i]? = some v → v ≠ jk → c[i]? = some v
  | [], [], i, v, _, h, _ => by simp at h
  | x :: t, y :: u, 0, v, h, hv, hj => by
    have e : x = v := Option.some.inj hv
    rcases h.1 with h1 | h1
    · rw [← e, h1]; rfl
    · exact absurd (e.symm.trans h1) hj
  | x :: t, y :: u, i + 1, v, h, hv, hj => lsle_get (a := t) (c := u) (i := i) h.2 hv hj
theorem lsle_len : ∀ {a c : List Value}, lsle a c → a.length = c.length
  | [], [], _ => rfl
  | _ :: t, _ :: u, h => by rw [List.length_cons, List.length_cons, lsle_len h.2]
theorem lsle_set : ∀ {a c : List Value} (i : Nat) (v : Value), lsle a c → lsle (a.set i v) (c.set i v)
  | [], [], _, _, _ => trivial
  | _ :: t, _ :: u, 0, v, h => ⟨Or.inl rfl, h.2⟩
  | _ :: t, _ :: u, i + 1, v, h => ⟨h.1, lsle_set i v h.2⟩
theorem lsle_cut : ∀ {a c : List Value} (i : Nat), lsle a c → a[i]? = some jk → lsle a (c.set i jk)
  | [], [], _, _, _ => trivial
  | x :: t, y :: u, 0, h, hj => ⟨Or.inr (Option.some.inj hj), h.2⟩
  | x :: t, y :: u, i + 1, h, hj => ⟨h.1, lsle_cut (a := t) (c := u) i h.2 hj⟩
theorem lsle_none {a c : List Value} {i : Nat} (h : lsle a c) (hi : a[i]? = none) : c[i]? = none := by
  rw [List.getElem?_eq_none_iff] at hi ⊢
  rw [← lsle_len h]
  exact hi
theorem lsle_pre {a c : List Value} (i : Nat) (h : lsle a c) : lsle (pre a i) (pre c i) := by
  unfold pre
  split
  · exact h
  · rename_i n
    split
    · rename_i x hx
      rw [lsle_get h hx (by intro z; cases z)]
      exact lsle_set n jk h
    · rename_i x hx
      rw [lsle_get h hx (by intro z; cases z)]
      exact lsle_set n jk h
    · rename_i h1 h2
      cases ha : a[n]? with
      | none =>
        rw [lsle_none h ha]
        exact h
      | some v =>
        by_cases hv : v = jk
        · subst hv
          split
          · exact lsle_cut n h ha
          · exact lsle_cut n h ha
          · exact h
        · have hc := lsle_get h ha hv
          rw [hc]
          split
          · rename_i x e
            cases e
            exact absurd ha (h1 x)
          · rename_i x e
            cases e
            exact absurd ha (h2 x)
          · exact h
theorem lsle_st1 {a c : List Value} (i : Nat) (v : Value) (h : lsle a c) : lsle (st1 a i v) (st1 c i v) := lsle_set i v (lsle_pre i h)
theorem lsle_st2 {a c : List Value} (i : Nat) (v : Value) (h : lsle a c) : lsle (st2 a i v) (st2 c i v) := lsle_set (i + 1) jk (lsle_set i v (lsle_pre i h))
theorem sx_le {i : Instr} {a c a' st st' : List Value} (hs : sx i a st = some (a', st')) (h : lsle a c) : ∃ c', sx i c st = some (c', st') ∧ lsle a' c' := by
  have hI : ∀ n, ldI a st n = some (a', st') → ∃ c', ldI c st n = some (c', st') ∧ lsle a' c' := by
    intro n hs
    unfold ldI at hs ⊢
    split at hs
    · rename_i x hx
      rw [lsle_get h hx (by intro z; cases z)]
      cases hs
      exact ⟨c, rfl, h⟩
    · cases hs
  have hJ : ∀ n, ldL a st n = some (a', st') → ∃ c', ldL c st n = some (c', st') ∧ lsle a' c' := by
    intro n hs
    unfold ldL at hs ⊢
    split at hs
    · rename_i x hx
      rw [lsle_get h hx (by intro z; cases z)]
      cases hs
      exact ⟨c, rfl, h⟩
    · cases hs
  have hA : ∀ n, ldA a st n = some (a', st') → ∃ c', ldA c st n = some (c', st') ∧ lsle a' c' := by
    intro n hs
    unfold ldA at hs ⊢
    split at hs
    · rename_i x hx
      rw [lsle_get h hx (by intro z; cases z)]
      cases hs
      exact ⟨c, rfl, h⟩
    · rename_i q hx
      rw [lsle_get h hx (by intro z; cases z)]
      cases hs
      exact ⟨c, rfl, h⟩
    · cases hs
  have hsI : ∀ n, soI a st n = some (a', st') → ∃ c', soI c st n = some (c', st') ∧ lsle a' c' := by
    intro n hs
    unfold soI at hs ⊢
    split at hs
    · split at hs
      · rename_i hl
        cases hs
        exact ⟨_, by simp only [← lsle_len h, if_pos hl], lsle_st1 _ _ h⟩
      · cases hs
    · cases hs
  have hsL : ∀ n, soL a st n = some (a', st') → ∃ c', soL c st n = some (c', st') ∧ lsle a' c' := by
    intro n hs
    unfold soL at hs ⊢
    split at hs
    · split at hs
      · rename_i hl
        cases hs
        exact ⟨_, by simp only [← lsle_len h, if_pos hl], lsle_st2 _ _ h⟩
      · cases hs
    · cases hs
  have hsA : ∀ n, soA a st n = some (a', st') → ∃ c', soA c st n = some (c', st') ∧ lsle a' c' := by
    intro n hs
    unfold soA at hs ⊢
    split at hs
    · split at hs
      · rename_i hl
        cases hs
        exact ⟨_, by simp only [← lsle_len h, if_pos hl], lsle_st1 _ _ h⟩
      · cases hs
    · cases hs
  have h1 : ∀ f, o1I a st f = some (a', st') → ∃ c', o1I c st f = some (c', st') ∧ lsle a' c' := by
    intro f hs; unfold o1I at hs ⊢
    split at hs
    · cases hs; exact ⟨c, rfl, h⟩
    · cases hs
  have h2 : ∀ f, o2I a st f = some (a', st') → ∃ c', o2I c st f = some (c', st') ∧ lsle a' c' := by
    intro f hs; unfold o2I at hs ⊢
    split at hs
    · cases hs; exact ⟨c, rfl, h⟩
    · cases hs
  have h3 : ∀ f, o1L a st f = some (a', st') → ∃ c', o1L c st f = some (c', st') ∧ lsle a' c' := by
    intro f hs; unfold o1L at hs ⊢
    split at hs
    · cases hs; exact ⟨c, rfl, h⟩
    · cases hs
  have h4 : ∀ f, o2L a st f = some (a', st') → ∃ c', o2L c st f = some (c', st') ∧ lsle a' c' := by
    intro f hs; unfold o2L at hs ⊢
    split at hs
    · cases hs; exact ⟨c, rfl, h⟩
    · cases hs
  have h5 : ∀ f, oLI a st f = some (a', st') → ∃ c', oLI c st f = some (c', st') ∧ lsle a' c' := by
    intro f hs; unfold oLI at hs ⊢
    split at hs
    · cases hs; exact ⟨c, rfl, h⟩
    · cases hs
  unfold sx at hs ⊢
  split at hs
  all_goals first
    | exact hI _ hs
    | exact hJ _ hs
    | exact hA _ hs
    | exact hsI _ hs
    | exact hsL _ hs
    | exact hsA _ hs
    | exact h1 _ hs
    | exact h2 _ hs
    | exact h3 _ hs
    | exact h4 _ hs
    | exact h5 _ hs
    | (cases hs; exact ⟨c, rfl, h⟩)
    | (split at hs
       · rename_i x hx
         cases hs
         exact ⟨_, by simp only [lsle_get h hx (by intro z; cases z)], lsle_st1 _ _ h⟩
       · cases hs)
    | (split at hs <;> cases hs <;> exact ⟨c, rfl, h⟩)
    | cases hs
section
variable {L : Nat} {xs : Nat → Int32} {ac kd : Nat → Nat} {E : Nat → List Value → mm_M → Option Value → mm_M → Prop} {rt : Option FieldType}
theorem sx_none {i : Instr} {a c st : List Value} {M : mm_M} {r : Prop × List Value × mm_M} (hn : sx i a st = none) (hh : hx L xs i st M = some r) : sx i c st = none := by
  cases i <;> first | rfl | (have hh : none = some r := hh; cases hh)
theorem bl_le {K K' : Nat → List Value → List Value → mm_M → Prop} {Q : Option Value → mm_M → Prop} (hK : ∀ pc a c st M, K pc a st M → lsle a c → K' pc c st M) : ∀ (t : List Instr) (pc : Nat) (ls lc st : List Value) (M : mm_M), lsle ls lc → bl L xs ac kd E rt K Q t pc ls st M → bl L xs ac kd E rt K' Q t pc lc st M := by
  intro t
  induction t with
  | nil => intro pc ls lc st M hl h; exact hK _ _ _ _ _ h hl
  | cons i t ih =>
    intro pc ls lc st M hl h
    unfold bl at h ⊢
    split at h
    · exact hK _ _ _ _ _ h hl
    · split at h
      · exact ⟨fun q => hK _ _ _ _ _ (h.1 q) hl, fun q => ih _ _ _ _ _ hl (h.2 q)⟩
      · exact h.elim
    · split at h
      · exact ⟨fun q => hK _ _ _ _ _ (h.1 q) hl, fun q => ih _ _ _ _ _ hl (h.2 q)⟩
      · exact h.elim
    · split at h
      · refine ⟨fun q => hK _ _ _ _ _ (h.1 q) hl, fun q => ?_⟩
        obtain ⟨off, ho, h1⟩ := h.2 q
        exact ⟨off, ho, hK _ _ _ _ _ h1 hl⟩
      · exact h.elim
    · split at h
      · exact h
      · exact h.elim
    · split at h
      · exact h
      · exact h.elim
    · split at h
      · exact h
      · exact h.elim
    · split at h
      · split at h
        · exact ⟨h.1, ih _ _ _ _ _ hl h.2⟩
        · exact h.elim
      · split at h
        · exact ⟨h.1, ih _ _ _ _ _ hl h.2⟩
        · exact h.elim
      · obtain ⟨h0, r, M1, hE1, h2⟩ := h
        exact ⟨h0, r, M1, hE1, ih _ _ _ _ _ hl h2⟩
    · split at h
      · split at h
        · exact ⟨h.1, ih _ _ _ _ _ hl h.2⟩
        · exact h.elim
      · obtain ⟨g0, h0, r, M1, hE1, h2⟩ := h
        exact ⟨g0, h0, r, M1, hE1, ih _ _ _ _ _ hl h2⟩
    · obtain ⟨g0, h0, r, M1, hE1, h2⟩ := h
      exact ⟨g0, h0, r, M1, hE1, ih _ _ _ _ _ hl h2⟩
    · split at h
      · rename_i ls' st' hs
        obtain ⟨c', hs', hl'⟩ := sx_le hs hl
        simp only [hs']
        exact ih _ _ _ _ _ hl' h
      · rename_i hs
        split at h
        · rename_i hh
          simp only [sx_none (c := lc) hs hh, hh]
          exact ⟨h.1, ih _ _ _ _ _ hl h.2⟩
        · exact h.elim
theorem XN_le {bs : List (Nat × List Instr)} {Q : Option Value → mm_M → Prop} : ∀ (n pc : Nat) (ls lc st : List Value) (M : mm_M), lsle ls lc → XN L xs ac kd E rt bs Q n pc ls st M → XN L xs ac kd E rt bs Q n pc lc st M := by
  intro n
  induction n with
  | zero => intro pc ls lc st M _ h; exact h.elim
  | succ n ih =>
    intro pc ls lc st M hl h
    unfold XN at h ⊢
    split at h
    · rename_i bk hbk
      first | rw [hbk] | skip
      exact bl_le (fun pc a c st M q hq => ih pc a c st M hq q) bk pc ls lc st M hl h
    · exact h.elim
end
theorem XX_le {G : GG} {d : Nat} {rt : Option FieldType} {bs : List (Nat × List Instr)} {Q : Option Value → mm_M → Prop} {pc : Nat} (ls : List Value) {lc st : List Value} {M : mm_M} (hl : lsle ls lc) (h : XX G d rt bs Q pc ls st M) : XX G d rt bs Q pc lc st M := by
  obtain ⟨n, h⟩ := h
  exact ⟨n, XN_le n _ _ _ _ _ hl h⟩
/-- a switch, place by place -/
def swP (x : Int32) : Int → List Prop → Prop → Prop
  | _, [], D => D
  | k, A :: t, D => ifP (x = Int32.ofInt k) A (swP x (k + 1) t D)
theorem sw_ok {x : Int32} {D : Prop} {Kf : Int → Prop} : ∀ (os : List Int) (lo hi : Int) (n : Nat), (os.length : Int) = hi - lo + 1 → -2147483648 ≤ lo → hi ≤ 2147483647 → swP x lo (os.map Kf) D → ((x.toInt < lo ∨ hi < x.toInt) → D) ∧ (¬ (x.toInt < lo ∨ hi < x.toInt) → ∃ off, os[(x.toInt - lo).toNat]? = some off ∧ Kf off) ∨ x.toInt < lo := by
  intro os
  induction os with
  | nil =>
    intro lo hi n hl h1 h2 h
    left
    refine ⟨fun _ => h, fun q => ?_⟩
    simp at hl
    omega
  | cons o t ih =>
    intro lo hi n hl h1 h2 h
    rcases Int.lt_or_le x.toInt lo with hx | hx
    · exact Or.inr hx
    · left
      rw [List.map_cons, swP] at h
      have hlt : (t.length : Int) = hi - (lo + 1) + 1 := by rw [List.length_cons] at hl; omega
      have hlo : (Int32.ofInt lo).toInt = lo := by
        rw [Int32.toInt_ofInt]
        have e0 : (Int32.size : Nat) = 4294967296 := rfl
        rw [e0]
        apply Int.bmod_eq_of_le <;> omega
      by_cases e : x = Int32.ofInt lo
      · refine ⟨fun q => ?_, fun _ => ⟨o, ?_, h.1 e⟩⟩
        · rw [e, hlo] at q
          omega
        · rw [e, hlo, Int.sub_self]
          rfl
      · have hne : x.toInt ≠ lo := fun z => e (Int32.toInt_inj.mp (by rw [hlo]; exact z))
        rcases ih (lo + 1) hi n hlt (by omega) h2 (h.2 e) with ⟨g1, g2⟩ | g
        · refine ⟨fun q => g1 (by omega), fun q => ?_⟩
          obtain ⟨off, ho, hk⟩ := g2 (by omega)
          refine ⟨off, ?_, hk⟩
          rw [show (x.toInt - lo).toNat = (x.toInt - (lo + 1)).toNat + 1 by omega]
          exact ho
        · omega
theorem sw_low {x : Int32} {D : Prop} : ∀ (As : List Prop) (lo : Int), -2147483648 ≤ lo → lo + As.length ≤ 2147483648 → x.toInt < lo → swP x lo As D → D := by
  intro As
  induction As with
  | nil => intro lo _ _ _ h; exact h
  | cons A t ih =>
    intro lo h1 h2 hx h
    rw [swP] at h
    rw [List.length_cons] at h2
    have hlo : (Int32.ofInt lo).toInt = lo := by
      rw [Int32.toInt_ofInt]
      have e0 : (Int32.size : Nat) = 4294967296 := rfl
      rw [e0]
      apply Int.bmod_eq_of_le <;> omega
    have hne : ¬ x = Int32.ofInt lo := fun z => by rw [z, hlo] at hx; omega
    exact ih (lo + 1) (by omega) (by omega) (by omega) (h.2 hne)
theorem sw_in {x : Int32} {D : Prop} {Kf : Int → Prop} {lo hi : Int} {offs : Array Int} (hl : (offs.toList.length : Int) = hi - lo + 1) (h1 : -2147483648 ≤ lo) (h2 : hi ≤ 2147483647) (h : swP x lo (offs.toList.map Kf) D) : ifP (x.toInt < lo ∨ hi < x.toInt) D (∃ off, offs[(x.toInt - lo).toNat]? = some off ∧ Kf off) := by
  rcases sw_ok offs.toList lo hi 0 hl h1 h2 h with ⟨g1, g2⟩ | g
  · refine ⟨g1, fun q => ?_⟩
    obtain ⟨off, ho, hk⟩ := g2 q
    exact ⟨off, by rw [← Array.getElem?_toList]; exact ho, hk⟩
  · exact ⟨fun _ => sw_low _ lo h1 (by rw [List.length_map]; omega) g h, fun q => absurd (Or.inl g) q⟩
theorem XX_lw {G : GG} {d : Nat} {rt : Option FieldType} {bs : List (Nat × List Instr)} {Q : Option Value → mm_M → Prop} {pc : Nat} {ls lc st : List Value} {M : mm_M} (h : XX G d rt bs Q pc ls st M) (hl : lsle ls lc) : XX G d rt bs Q pc lc st M := XX_le ls hl h
