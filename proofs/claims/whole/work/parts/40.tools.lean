/-! runs of the small machine, by hand -/
abbrev GG : Type := Nat × (Nat → Int32) × (Nat → Nat → List Value → mm_M → Option Value → mm_M → Prop)
def Cl (G : GG) (d : Nat) : Nat → List Value → mm_M → Option Value → mm_M → Prop := Ev G.1 G.2.1 ac kd PP G.2.2 d
def XX (G : GG) (d : Nat) (rt : Option FieldType) (bs : List (Nat × List Instr)) (Q : Option Value → mm_M → Prop) (pc : Nat) (ls st : List Value) (M : mm_M) : Prop := X G.1 G.2.1 ac kd (Cl G d) rt bs Q pc ls st M
def BB (G : GG) (d : Nat) (rt : Option FieldType) (bs : List (Nat × List Instr)) (Q : Option Value → mm_M → Prop) (t : List Instr) (pc : Nat) (ls st : List Value) (M : mm_M) : Prop := bl G.1 G.2.1 ac kd (Cl G d) rt (XX G d rt bs Q) Q t pc ls st M
theorem XX_at {G : GG} {d : Nat} {rt : Option FieldType} {bs : List (Nat × List Instr)} {Q : Option Value → mm_M → Prop} {pc : Nat} {ls st : List Value} {M : mm_M} (b : List Instr) (hb : bs.lookup pc = some b) (h : BB G d rt bs Q b pc ls st M) : XX G d rt bs Q pc ls st M := X_at b hb h
theorem Cl_in {G : GG} {d j nL : Nat} {rt : Option FieldType} {bs : List (Nat × List Instr)} {a : List Value} {M : mm_M} {r : Option Value} {M' : mm_M} (hP : PP j = some (nL, rt, bs)) (hl : (lay a).length ≤ nL) (h : XX G d rt bs (fun v M1 => v = r ∧ M1 = M') 0 (lay0 a nL) [] M) : Cl G (d + 1) j a M r M' := by
  show Ev G.1 G.2.1 ac kd PP G.2.2 (d + 1) j a M r M'
  unfold Ev
  rw [hP]
  exact ⟨hl, h⟩
/-! det -/
section
variable {L : Nat} {xs : Nat → Int32} {ac kd : Nat → Nat} {E : Nat → List Value → mm_M → Option Value → mm_M → Prop} {rt : Option FieldType}
/-- a run has one end -/
theorem bl_det {C : Prop} {K K' : Nat → List Value → List Value → mm_M → Prop} {Q Q' : Option Value → mm_M → Prop} (hE : ∀ j a M r M1 r' M1', E j a M r M1 → E j a M r' M1' → r = r' ∧ M1 = M1') (hK : ∀ a b c M, K a b c M → K' a b c M → C) (hQ : ∀ v M, Q v M → Q' v M → C) : ∀ (t : List Instr) (pc : Nat) (ls st : List Value) (M : mm_M), bl L xs ac kd E rt K Q t pc ls st M → bl L xs ac kd E rt K' Q' t pc ls st M → C := by
  intro t
  induction t with
  | nil => intro pc ls st M h h'; exact hK _ _ _ _ h h'
  | cons i t ih =>
    intro pc ls st M h h'
    unfold bl at h h'
    split at h
    · exact hK _ _ _ _ h h'
    · split at h
      · rename_i c off st' x st
        by_cases hc : c0 c x
        · exact hK _ _ _ _ (h.1 hc) (h'.1 hc)
        · exact ih _ _ _ _ (h.2 hc) (h'.2 hc)
      · exact h.elim
    · split at h
      · rename_i c off st' y x st
        by_cases hc : c2 c x y
        · exact hK _ _ _ _ (h.1 hc) (h'.1 hc)
        · exact ih _ _ _ _ (h.2 hc) (h'.2 hc)
      · exact h.elim
    · split at h
      · rename_i d lo hi offs st' x st
        by_cases hc : x.toInt < lo ∨ hi < x.toInt
        · exact hK _ _ _ _ (h.1 hc) (h'.1 hc)
        · obtain ⟨off, ho, h1⟩ := h.2 hc
          obtain ⟨off', ho', h1'⟩ := h'.2 hc
          cases ho.symm.trans ho'
          exact hK _ _ _ _ h1 h1'
      · exact h.elim
    · split at h
      · exact hQ _ _ h.2 h'.2
      · exact h.elim
    · split at h
      · exact hQ _ _ h h'
      · exact h.elim
    · split at h
      · exact hQ _ _ h h'
      · exact h.elim
    · split at h
      · split at h
        · exact ih _ _ _ _ h.2 h'.2
        · exact h.elim
      · split at h
        · exact ih _ _ _ _ h.2 h'.2
        · exact h.elim
      · rename_i hj1 hj2
        simp only [hj1, hj2] at h'
        obtain ⟨h0, r, M1, hE1, h2⟩ := h
        obtain ⟨h0', r', M1', hE1', h2'⟩ := h'
        obtain ⟨rfl, rfl⟩ := hE _ _ _ _ _ _ _ hE1 hE1'
        exact ih _ _ _ _ h2 h2'
    · split at h
      · split at h
        · exact ih _ _ _ _ h.2 h'.2
        · exact h.elim
      · rename_i hj1
        simp only [hj1] at h'
        obtain ⟨g0, h0, r, M1, hE1, h2⟩ := h
        obtain ⟨g0', h0', r', M1', hE1', h2'⟩ := h'
        obtain ⟨rfl, rfl⟩ := hE _ _ _ _ _ _ _ hE1 hE1'
        exact ih _ _ _ _ h2 h2'
    · obtain ⟨g0, h0, r, M1, hE1, h2⟩ := h
      obtain ⟨g0', h0', r', M1', hE1', h2'⟩ := h'
      obtain ⟨rfl, rfl⟩ := hE _ _ _ _ _ _ _ hE1 hE1'
      exact ih _ _ _ _ h2 h2'
    · split at h
      · rename_i ls' st' hs
        simp only [hs] at h'
        exact ih _ _ _ _ h h'
      · rename_i hs
        simp only [hs] at h'
        split at h
        · rename_i hh
          simp only [hh] at h'
          exact ih _ _ _ _ h.2 h'.2
        · exact h.elim
/-- the end of a run -/
theorem bl_qx {K : Nat → List Value → List Value → mm_M → Prop} {K' : Option Value → mm_M → Nat → List Value → List Value → mm_M → Prop} {Q : Option Value → mm_M → Prop} (hK : ∀ a b c M, K a b c M → ∃ r M1, Q r M1 ∧ K' r M1 a b c M) : ∀ (t : List Instr) (pc : Nat) (ls st : List Value) (M : mm_M), bl L xs ac kd E rt K Q t pc ls st M → ∃ r M1, Q r M1 ∧ bl L xs ac kd E rt (K' r M1) (fun v M2 => v = r ∧ M2 = M1) t pc ls st M := by
  intro t
  induction t with
  | nil => intro pc ls st M h; exact hK _ _ _ _ h
  | cons i t ih =>
    intro pc ls st M h
    unfold bl at h ⊢
    split at h
    · exact hK _ _ _ _ h
    · split at h
      · rename_i c off st' x st
        by_cases hc : c0 c x
        · obtain ⟨r, M1, hq, h1⟩ := hK _ _ _ _ (h.1 hc)
          exact ⟨r, M1, hq, fun _ => h1, fun z => absurd hc z⟩
        · obtain ⟨r, M1, hq, h1⟩ := ih _ _ _ _ (h.2 hc)
          exact ⟨r, M1, hq, fun z => absurd z hc, fun _ => h1⟩
      · exact h.elim
    · split at h
      · rename_i c off st' y x st
        by_cases hc : c2 c x y
        · obtain ⟨r, M1, hq, h1⟩ := hK _ _ _ _ (h.1 hc)
          exact ⟨r, M1, hq, fun _ => h1, fun z => absurd hc z⟩
        · obtain ⟨r, M1, hq, h1⟩ := ih _ _ _ _ (h.2 hc)
          exact ⟨r, M1, hq, fun z => absurd z hc, fun _ => h1⟩
      · exact h.elim
    · split at h
      · rename_i d lo hi offs st' x st
        by_cases hc : x.toInt < lo ∨ hi < x.toInt
        · obtain ⟨r, M1, hq, h1⟩ := hK _ _ _ _ (h.1 hc)
          exact ⟨r, M1, hq, fun _ => h1, fun z => absurd hc z⟩
        · obtain ⟨off, ho, h0⟩ := h.2 hc
          obtain ⟨r, M1, hq, h1⟩ := hK _ _ _ _ h0
          exact ⟨r, M1, hq, fun z => absurd z hc, fun _ => ⟨off, ho, h1⟩⟩
      · exact h.elim
    · split at h
      · exact ⟨_, _, h.2, h.1, rfl, rfl⟩
      · exact h.elim
    · split at h
      · exact ⟨_, _, h, rfl, rfl⟩
      · exact h.elim
    · split at h
      · exact ⟨_, _, h, rfl, rfl⟩
      · exact h.elim
    · split at h
      · split at h
        · obtain ⟨r, M1, hq, h1⟩ := ih _ _ _ _ h.2
          exact ⟨r, M1, hq, h.1, h1⟩
        · exact h.elim
      · split at h
        · obtain ⟨r, M1, hq, h1⟩ := ih _ _ _ _ h.2
          exact ⟨r, M1, hq, h.1, h1⟩
        · exact h.elim
      · obtain ⟨h0, r0, M0, hE1, h2⟩ := h
        obtain ⟨r, M1, hq, h1⟩ := ih _ _ _ _ h2
        exact ⟨r, M1, hq, h0, r0, M0, hE1, h1⟩
    · split at h
      · split at h
        · obtain ⟨r, M1, hq, h1⟩ := ih _ _ _ _ h.2
          exact ⟨r, M1, hq, h.1, h1⟩
        · exact h.elim
      · obtain ⟨g0, h0, r0, M0, hE1, h2⟩ := h
        obtain ⟨r, M1, hq, h1⟩ := ih _ _ _ _ h2
        exact ⟨r, M1, hq, g0, h0, r0, M0, hE1, h1⟩
    · obtain ⟨g0, h0, r0, M0, hE1, h2⟩ := h
      obtain ⟨r, M1, hq, h1⟩ := ih _ _ _ _ h2
      exact ⟨r, M1, hq, g0, h0, r0, M0, hE1, h1⟩
    · split at h
      · exact ih _ _ _ _ h
      · split at h
        · obtain ⟨r, M1, hq, h1⟩ := ih _ _ _ _ h.2
          exact ⟨r, M1, hq, h.1, h1⟩
        · exact h.elim
theorem XN_det {C : Prop} {bs : List (Nat × List Instr)} {Q Q' : Option Value → mm_M → Prop} (hE : ∀ j a M r M1 r' M1', E j a M r M1 → E j a M r' M1' → r = r' ∧ M1 = M1') (hQ : ∀ v M, Q v M → Q' v M → C) : ∀ (n n' pc : Nat) (ls st : List Value) (M : mm_M), XN L xs ac kd E rt bs Q n pc ls st M → XN L xs ac kd E rt bs Q' n' pc ls st M → C := by
  intro n
  induction n with
  | zero => intro n' pc ls st M h; exact h.elim
  | succ n ih =>
    intro n' pc ls st M h h'
    cases n' with
    | zero => exact h'.elim
    | succ n' =>
      unfold XN at h h'
      split at h
      · rename_i bk hbk
        rw [hbk] at h'
        exact bl_det hE (fun a b c M q q' => ih n' a b c M q q') hQ bk pc ls st M h h'
      · exact h.elim
theorem XN_qx {bs : List (Nat × List Instr)} {Q : Option Value → mm_M → Prop} : ∀ (n pc : Nat) (ls st : List Value) (M : mm_M), XN L xs ac kd E rt bs Q n pc ls st M → ∃ r M1, Q r M1 ∧ XN L xs ac kd E rt bs (fun v M2 => v = r ∧ M2 = M1) n pc ls st M := by
  intro n
  induction n with
  | zero => intro pc ls st M h; exact h.elim
  | succ n ih =>
    intro pc ls st M h
    unfold XN at h
    split at h
    · rename_i bk hbk
      obtain ⟨r, M1, hq, h1⟩ := bl_qx (K' := fun r M1 => XN L xs ac kd E rt bs (fun v M2 => v = r ∧ M2 = M1) n) (fun a b c M q => ih a b c M q) bk pc ls st M h
      refine ⟨r, M1, hq, ?_⟩
      unfold XN
      rw [hbk]
      exact h1
    · exact h.elim
end
theorem Ev_det {L : Nat} {xs : Nat → Int32} {ac kd : Nat → Nat} {P : Nat → Option (Nat × Option FieldType × List (Nat × List Instr))} {EX : Nat → Nat → List Value → mm_M → Option Value → mm_M → Prop} (hX : ∀ d j a M r M1 r' M1', EX d j a M r M1 → EX d j a M r' M1' → r = r' ∧ M1 = M1') : ∀ d j a M r M1 r' M1', Ev L xs ac kd P EX d j a M r M1 → Ev L xs ac kd P EX d j a M r' M1' → r = r' ∧ M1 = M1' := by
  intro d
  induction d with
  | zero => intro j a M r M1 r' M1' h; exact h.elim
  | succ d ih =>
    intro j a M r M1 r' M1' h h'
    unfold Ev at h h'
    split at h
    · rename_i hP
      rw [hP] at h'
      obtain ⟨-, n, h⟩ := h
      obtain ⟨-, n', h'⟩ := h'
      exact XN_det ih (fun v M hv hv' => ⟨hv.1.symm.trans hv'.1, hv.2.symm.trans hv'.2⟩) n n' _ _ _ _ h h'
    · rename_i hP
      rw [hP] at h'
      exact hX _ _ _ _ _ _ _ _ h h'
/-- what G says beside is of one end -/
def Gd (G : GG) : Prop := ∀ d j a M r M1 r' M1', G.2.2 d j a M r M1 → G.2.2 d j a M r' M1' → r = r' ∧ M1 = M1'
def CI (G : GG) (d j : Nat) (a : List Value) (M : mm_M) (P : Int32 → mm_M → Prop) : Prop := ∃ v M1, Cl G d j a M (some (.int v)) M1 ∧ P v M1
def CJ (G : GG) (d j : Nat) (a : List Value) (M : mm_M) (P : Int64 → mm_M → Prop) : Prop := ∃ v M1, Cl G d j a M (some (.long v)) M1 ∧ P v M1
def CV (G : GG) (d j : Nat) (a : List Value) (M : mm_M) (P : mm_M → Prop) : Prop := ∃ M1, Cl G d j a M none M1 ∧ P M1
def QI (P : Int32 → mm_M → Prop) : Option Value → mm_M → Prop := fun v M => ∃ x, v = some (.int x) ∧ P x M
def QJ (P : Int64 → mm_M → Prop) : Option Value → mm_M → Prop := fun v M => ∃ x, v = some (.long x) ∧ P x M
def QV (P : mm_M → Prop) : Option Value → mm_M → Prop := fun v M => v = none ∧ P M
section
variable {G : GG} {d j nL : Nat} {rt : Option FieldType} {bs : List (Nat × List Instr)} {a : List Value} {M : mm_M}
theorem XX_qx {Q : Option Value → mm_M → Prop} {pc : Nat} {ls st : List Value} (h : XX G d rt bs Q pc ls st M) : ∃ r M1, Q r M1 ∧ XX G d rt bs (fun v M2 => v = r ∧ M2 = M1) pc ls st M := by
  obtain ⟨n, h⟩ := h
  obtain ⟨r, M1, hq, h1⟩ := XN_qx n _ _ _ _ h
  exact ⟨r, M1, hq, n, h1⟩
theorem CI_in {P : Int32 → mm_M → Prop} (hP : PP j = some (nL, rt, bs)) (hl : (lay a).length ≤ nL) (h : XX G d rt bs (QI P) 0 (lay0 a nL) [] M) : CI G (d + 1) j a M P := by
  obtain ⟨r, M1, ⟨x, rfl, hq⟩, h1⟩ := XX_qx h
  exact ⟨x, M1, Cl_in hP hl h1, hq⟩
theorem CJ_in {P : Int64 → mm_M → Prop} (hP : PP j = some (nL, rt, bs)) (hl : (lay a).length ≤ nL) (h : XX G d rt bs (QJ P) 0 (lay0 a nL) [] M) : CJ G (d + 1) j a M P := by
  obtain ⟨r, M1, ⟨x, rfl, hq⟩, h1⟩ := XX_qx h
  exact ⟨x, M1, Cl_in hP hl h1, hq⟩
theorem CV_in {P : mm_M → Prop} (hP : PP j = some (nL, rt, bs)) (hl : (lay a).length ≤ nL) (h : XX G d rt bs (QV P) 0 (lay0 a nL) [] M) : CV G (d + 1) j a M P := by
  obtain ⟨r, M1, ⟨rfl, hq⟩, h1⟩ := XX_qx h
  exact ⟨M1, Cl_in hP hl h1, hq⟩
theorem CI_iff (hG : Gd G) {v : Int32} {M1 : mm_M} (h : CI G d j a M (fun x N => x = v ∧ N = M1)) (P : Int32 → mm_M → Prop) : CI G d j a M P ↔ P v M1 := by
  obtain ⟨x, N, hc, rfl, rfl⟩ := h
  constructor
  · rintro ⟨y, N', hc', hp⟩
    obtain ⟨e1, rfl⟩ := Ev_det hG d j a M _ _ _ _ hc hc'
    cases e1
    exact hp
  · intro hp
    exact ⟨x, N, hc, hp⟩
theorem CJ_iff (hG : Gd G) {v : Int64} {M1 : mm_M} (h : CJ G d j a M (fun x N => x = v ∧ N = M1)) (P : Int64 → mm_M → Prop) : CJ G d j a M P ↔ P v M1 := by
  obtain ⟨x, N, hc, rfl, rfl⟩ := h
  constructor
  · rintro ⟨y, N', hc', hp⟩
    obtain ⟨e1, rfl⟩ := Ev_det hG d j a M _ _ _ _ hc hc'
    cases e1
    exact hp
  · intro hp
    exact ⟨x, N, hc, hp⟩
theorem CV_iff (hG : Gd G) {M1 : mm_M} (h : CV G d j a M (fun N => N = M1)) (P : mm_M → Prop) : CV G d j a M P ↔ P M1 := by
  obtain ⟨N, hc, rfl⟩ := h
  constructor
  · rintro ⟨N', hc', hp⟩
    obtain ⟨e1, rfl⟩ := Ev_det hG d j a M _ _ _ _ hc hc'
    exact hp
  · intro hp
    exact ⟨N, hc, hp⟩
theorem CI_mono {P P' : Int32 → mm_M → Prop} (h : CI G d j a M P) (hp : ∀ v N, P v N → P' v N) : CI G d j a M P' := by
  obtain ⟨v, N, h1, h2⟩ := h
  exact ⟨v, N, h1, hp v N h2⟩
theorem CJ_mono {P P' : Int64 → mm_M → Prop} (h : CJ G d j a M P) (hp : ∀ v N, P v N → P' v N) : CJ G d j a M P' := by
  obtain ⟨v, N, h1, h2⟩ := h
  exact ⟨v, N, h1, hp v N h2⟩
theorem CV_mono {P P' : mm_M → Prop} (h : CV G d j a M P) (hp : ∀ N, P N → P' N) : CV G d j a M P' := by
  obtain ⟨N, h1, h2⟩ := h
  exact ⟨N, h1, hp N h2⟩
end
