def jmpB : List Instr → Nat → Bool
  | [], _ => true
  | i :: t, pc => (match i with
    | .goto off => decide (0 ≤ (pc : Int) + off)
    | .ifCond _ off => decide (0 ≤ (pc : Int) + off)
    | .if_icmp _ off => decide (0 ≤ (pc : Int) + off)
    | .tableswitch d _ _ offs => decide (0 ≤ (pc : Int) + d) && offs.all (fun q => decide (0 ≤ (pc : Int) + q))
    | _ => true) && jmpB t (pc + ln i)
theorem tg_ok {pc : Nat} {off : Int} (h : 0 ≤ (pc : Int) + off) : (pc : Int) + off = (tg pc off : Int) := by
  unfold tg; omega
theorem ckB_cons {o : Nat} {ini : Bool} {cc : ByteArray} {i : Instr} {t : List Instr} {pc : Nat} (h : ckB o ini cc (i :: t) pc = true) : (i = .athrow ∨ ∃ raw n, decode cc pc = .ok (raw, n) ∧ ck o ini i raw = true ∧ ((∃ a b c d, i = .tableswitch a b c d) ∨ n = ln i)) ∧ ckB o ini cc t (pc + ln i) = true := by
  unfold ckB at h
  rw [Bool.and_eq_true] at h
  refine ⟨?_, h.2⟩
  have h1 := h.1
  split at h1
  · exact Or.inl rfl
  · right
    split at h1
    · rename_i raw n hd
      rw [Bool.and_eq_true] at h1
      refine ⟨raw, n, hd, h1.1, ?_⟩
      have h2 := h1.2
      split at h2
      · exact Or.inl ⟨_, _, _, _, rfl⟩
      · exact Or.inr (by simpa using h2)
    · cases h1
theorem sx_raw {o : Nat} {ini : Bool} {i raw : Instr} {ls st : List Value} {r : List Value × List Value} (h : sx i ls st = some r) (hc : ck o ini i raw = true) : raw = i ∧ ln i = iln i := by
  cases i <;> first | (exact ⟨of_decide_eq_true hc, rfl⟩) | (have h : none = some r := h; cases h)
theorem hx_ln {L : Nat} {xs : Nat → Int32} {i : Instr} {st : List Value} {M : mm_M} {r : Prop × List Value × mm_M} (h : hx L xs i st M = some r) : ln i = iln i := by
  cases i <;> first | rfl | (have h : none = some r := h; cases h)
set_option maxRecDepth 20000 in
theorem obj_code : Cond.code objectInit ⟨#[0xb1]⟩ 1 none ∈ gT := gt_1 (List.mem_of_getElem? (i := 34) rfl) rfl
section
variable {p : Program} {l : Launch} {e : Env} {R : Room} {s : State} {m : MethodId} {args : Array Value} {below : List Frame} {meth : Method} {c : Code} {Qf : State → Prop} {cc : ByteArray} {o nL : Nat} {D : va_G} {cy : Nat → ClassId} {b : Nat} {xo : Nat → Option Nat} {L : Nat} {xs : Nat → Int32}
def WS (p : Program) (l : Launch) (e : Env) (R : Room) (s : State) (m : MethodId) (args : Array Value) (below : List Frame) (meth : Method) (c : Code) (Qf : State → Prop) (D : va_G) (cy : Nat → ClassId) (b : Nat) (xo : Nat → Option Nat) (z0 w0 : Nat) (M : mm_M) (pc : Nat) (ls st : List Value) : Prop :=
  ∀ (H : Heap) (locs : List Loc) (rl : Array Slot), WR D cy b M H → va_S (AA b) s.heap H locs → lv_has rl ls.length (pl b xo ls) → W p l e R s m args below meth c H locs (mS M - z0) (mW M - w0) Qf (F0 m pc rl (st.map (cv b xo)))
/-- where a method returns -/
def RQ (cc : ByteArray) (rt : Option FieldType) (v : Option Value) (pc : Nat) : Prop :=
  (∃ x ty, v = some (.int x) ∧ rt = some ty ∧ decode cc pc = .ok (.ireturn, 1) ∧ narrow ty (.int x) = .int x) ∨ (∃ x, v = some (.long x) ∧ rt = some .long ∧ decode cc pc = .ok (.lreturn, 1)) ∨ (v = none ∧ rt = none ∧ decode cc pc = .ok (.return_, 1))
/-- a static call of the law's own method, told beside -/
def LRr (p : Program) (l : Launch) (e : Env) (R : Room) (s : State) (m : MethodId) (args : Array Value) (below : List Frame) (meth : Method) (c : Code) (Qf : State → Prop) (cc : ByteArray) (o nL : Nat) (D : va_G) (cy : Nat → ClassId) (b : Nat) (xo : Nat → Option Nat) (E : Nat → List Value → mm_M → Option Value → mm_M → Prop) : Prop :=
  ∀ (x pc : Nat) (a rest : List Value) (M : mm_M) (r : Option Value) (M1 : mm_M) (H : Heap) (locs : List Loc) (rl : Array Slot) (cells slots : Nat), (o, x, 291) ∈ MLs → E 291 a M r M1 → WR D cy b M H → va_S (AA b) s.heap H locs → rl.size = nL → cats rest ≤ 8 → cells + (mS M1 - mS M) ≤ R.cells → slots + (mW M1 - mW M) ≤ R.slots → decode cc pc = .ok (.invokestatic x, 3) →
    (∀ (H1 : Heap) (locs1 : List Loc), WR D cy b M1 H1 → va_S (AA b) s.heap H1 locs1 → W p l e R s m args below meth c H1 locs1 (cells + (mS M1 - mS M)) (slots + (mW M1 - mW M)) Qf (F0 m (pc + 3) rl ((r.toList ++ rest).map (cv b xo)))) → W p l e R s m args below meth c H locs cells slots Qf (F0 m pc rl ((a.reverse ++ rest).map (cv b xo)))
theorem tk_dr {st : List Value} {n : Nat} : (st.take n).reverse.reverse ++ st.drop n = st := by rw [List.reverse_reverse, List.take_append_drop]
theorem dr_head {st tl : List Value} {v : Value} {n : Nat} (hn : 1 ≤ n) (h : st.drop (n - 1) = v :: tl) : (st.take n).reverse = v :: (st.take (n - 1)).reverse ∧ st.drop n = tl ∧ st = (st.take (n - 1)).reverse.reverse ++ v :: tl ∧ (st.take (n - 1)).reverse.length + 1 = n := by
  have hl : n - 1 < st.length := by
    rcases Nat.lt_or_ge (n - 1) st.length with q | q
    · exact q
    · rw [List.drop_eq_nil_of_le q] at h; cases h
  have h0 : st[n - 1]? = some v := by
    have : (st.drop (n - 1))[0]? = some v := by rw [h]; rfl
    rw [List.getElem?_drop] at this
    simpa using this
  have e1 : st.take n = st.take (n - 1) ++ [v] := by
    have e2 : n = n - 1 + 1 := by omega
    rw [e2, List.take_succ, h0]
    simp
  refine ⟨by rw [e1]; simp, ?_, ?_, ?_⟩
  · have e2 : n = (n - 1) + 1 := by omega
    have e3 : st.drop n = (st.drop (n - 1)).drop 1 := by rw [List.drop_drop]; congr 1
    rw [e3, h]
    rfl
  · rw [List.reverse_reverse, ← h, List.take_append_drop]
  · rw [List.length_reverse, List.length_take]
    omega
theorem bl_W {E : Nat → List Value → mm_M → Option Value → mm_M → Prop} {K : Nat → List Value → List Value → mm_M → Prop} {Q : Option Value → mm_M → Prop} {rt : Option FieldType} {z w z0 w0 d : Nat} {ini : Bool}
    (hC : CX p s m args c cc o nL D cy b xo L xs) (hini : ini = true → meth.name = "<init>") (hR1 : d + 1 ≤ R.frames) (hR2 : 60 * (d + 1) ≤ R.locals) (hR3 : z - z0 ≤ R.cells) (hR4 : w - w0 ≤ R.slots)
    (hE : ∀ j a M r M1, j ≠ 291 → E j a M r M1 → MC l D cy b xo L xs d j a M r M1) (hEz : ∀ j a M r M1, E j a M r M1 → mS M ≤ mS M1 ∧ mW M ≤ mW M1) (hLR : LRr p l e R s m args below meth c Qf cc o nL D cy b xo E)
    (hK : ∀ pc ls st M1, K pc ls st M1 → ls.length = nL → z0 ≤ mS M1 → w0 ≤ mW M1 → WS p l e R s m args below meth c Qf D cy b xo z0 w0 M1 pc ls st) (hKz : ∀ a b c M, K a b c M → mS M ≤ z ∧ mW M ≤ w) (hQz : ∀ v M, Q v M → mS M ≤ z ∧ mW M ≤ w)
    (hQ : ∀ v M1, Q v M1 → ∀ (H1 : Heap) (locs1 : List Loc) (rl1 : Array Slot) (pc1 : Nat), WR D cy b M1 H1 → va_S (AA b) s.heap H1 locs1 → RQ cc rt v pc1 → W p l e R s m args below meth c H1 locs1 (mS M1 - z0) (mW M1 - w0) Qf (F0 m pc1 rl1 (v.toList.map (cv b xo)))) :
    ∀ (t : List Instr) (pc : Nat) (ls st : List Value) (M : mm_M), ckB o ini cc t pc = true → jmpB t pc = true → bl L xs ac kd E rt K Q t pc ls st M → ls.length = nL → z0 ≤ mS M → w0 ≤ mW M → WS p l e R s m args below meth c Qf D cy b xo z0 w0 M pc ls st := by
  have hex := hC.1
  have hb := hC.2.1
  have hown := hC.2.2.2.1
  have hts := hC.2.2.2.2.1
  have hcat : ∀ (x y q : Nat), q ≤ x → x ≤ y → x - q + (y - x) = y - q := fun x y q h1 h2 => by omega
  intro t
  induction t with
  | nil => intro pc ls st M _ _ h hl h1 h2; exact hK _ _ _ _ h hl h1 h2
  | cons i t ih =>
    intro pc ls st M hck hjm h hl hz0 hw0
    have hsz := bl_size (z := z) (w := w) hEz hKz hQz (i :: t) pc ls st M h
    obtain ⟨hck1, hck2⟩ := ckB_cons hck
    unfold jmpB at hjm
    rw [Bool.and_eq_true] at hjm
    obtain ⟨hjm1, hjm2⟩ := hjm
    intro H locs rl hW hS hL
    have hrl : rl.size = nL := by rw [hL.1, hl]
    unfold bl at h
    split at h
    · -- goto
      rcases hck1 with hck1 | ⟨raw, n, hd, hr, hn⟩
      · cases hck1
      have hr : raw = _ := of_decide_eq_true hr
      subst hr
      rcases hn with ⟨_, _, _, _, hn⟩ | hn
      · cases hn
      subst hn
      exact lv_goto hex hb hd (tg_ok (of_decide_eq_true hjm1)) (hK _ _ _ _ h hl hz0 hw0 H locs rl hW hS hL)
    · -- ifCond
      rcases hck1 with hck1 | ⟨raw, n, hd, hr, hn⟩
      · cases hck1
      have hr : raw = _ := of_decide_eq_true hr
      subst hr
      rcases hn with ⟨_, _, _, _, hn⟩ | hn
      · cases hn
      subst hn
      have htg := tg_ok (of_decide_eq_true hjm1)
      split at h
      · rename_i cd off _ x st
        have kt : c0 cd x → W p l e R s m args below meth c H locs (mS M - z0) (mW M - w0) Qf (F0 m (tg pc off) rl (st.map (cv b xo))) := fun q => hK _ _ _ _ (h.1 q) hl hz0 hw0 H locs rl hW hS hL
        have kf : ¬ c0 cd x → W p l e R s m args below meth c H locs (mS M - z0) (mW M - w0) Qf (F0 m (pc + 3) rl (st.map (cv b xo))) := fun q => ih _ _ _ _ hck2 hjm2 (h.2 q) hl hz0 hw0 H locs rl hW hS hL
        cases cd with
        | eq => exact lv_if_eq hex hb hd htg kt kf
        | ne => exact lv_if_ne hex hb hd htg kt (fun q => kf (fun z => z q))
        | lt => exact lv_if_lt hex hb hd htg kt kf
        | ge => exact lv_if_ge hex hb hd htg kt kf
        | gt => exact lv_if_gt hex hb hd htg kt kf
        | le => exact lv_if_le hex hb hd htg kt kf
      · exact h.elim
    · -- if_icmp
      rcases hck1 with hck1 | ⟨raw, n, hd, hr, hn⟩
      · cases hck1
      have hr : raw = _ := of_decide_eq_true hr
      subst hr
      rcases hn with ⟨_, _, _, _, hn⟩ | hn
      · cases hn
      subst hn
      have htg := tg_ok (of_decide_eq_true hjm1)
      split at h
      · rename_i cd off _ y x st
        have kt : c2 cd x y → W p l e R s m args below meth c H locs (mS M - z0) (mW M - w0) Qf (F0 m (tg pc off) rl (st.map (cv b xo))) := fun q => hK _ _ _ _ (h.1 q) hl hz0 hw0 H locs rl hW hS hL
        have kf : ¬ c2 cd x y → W p l e R s m args below meth c H locs (mS M - z0) (mW M - w0) Qf (F0 m (pc + 3) rl (st.map (cv b xo))) := fun q => ih _ _ _ _ hck2 hjm2 (h.2 q) hl hz0 hw0 H locs rl hW hS hL
        cases cd with
        | eq => exact lv_icmp_eq hex hb hd htg kt kf
        | ne => exact lv_icmp_ne hex hb hd htg kt (fun q => kf (fun z => z q))
        | lt => exact lv_icmp_lt hex hb hd htg kt kf
        | ge => exact lv_icmp_ge hex hb hd htg kt kf
        | gt => exact lv_icmp_gt hex hb hd htg kt kf
        | le => exact lv_icmp_le hex hb hd htg kt kf
      · exact h.elim
    · -- tableswitch
      rcases hck1 with hck1 | ⟨raw, n, hd, hr, hn⟩
      · cases hck1
      have hr : raw = _ := of_decide_eq_true hr
      subst hr
      have hjm1 := (Bool.and_eq_true _ _ ▸ hjm1 : _ ∧ _)
      split at h
      · rename_i df lo hi offs _ _ x st
        by_cases hc : x.toInt < lo ∨ hi < x.toInt
        · exact lv_tableOut hex hb hd hc (tg_ok (of_decide_eq_true hjm1.1)) (hK _ _ _ _ (h.1 hc) hl hz0 hw0 H locs rl hW hS hL)
        · obtain ⟨off, ho, h1⟩ := h.2 hc
          have ha := Array.all_eq_true_iff_forall_mem.mp hjm1.2 off (Array.mem_of_getElem? ho)
          exact lv_tableIn hex hb hd (fun q => hc (Or.inl q)) (fun q => hc (Or.inr q)) ho (tg_ok (of_decide_eq_true ha)) (hK _ _ _ _ h1 hl hz0 hw0 H locs rl hW hS hL)
      · exact h.elim
    · -- ireturn
      rcases hck1 with hck1 | ⟨raw, n, hd, hr, hn⟩
      · cases hck1
      have hr : raw = _ := of_decide_eq_true hr
      subst hr
      rcases hn with ⟨_, _, _, _, hn⟩ | hn
      · cases hn
      subst hn
      split at h
      · exact hQ _ _ h.2 H locs rl pc hW hS (Or.inl ⟨_, _, rfl, rfl, hd, h.1⟩)
      · exact h.elim
    · rcases hck1 with hck1 | ⟨raw, n, hd, hr, hn⟩
      · cases hck1
      have hr : raw = _ := of_decide_eq_true hr
      subst hr
      rcases hn with ⟨_, _, _, _, hn⟩ | hn
      · cases hn
      subst hn
      split at h
      · exact hQ _ _ h H locs rl pc hW hS (Or.inr (Or.inl ⟨_, rfl, rfl, hd⟩))
      · exact h.elim
    · rcases hck1 with hck1 | ⟨raw, n, hd, hr, hn⟩
      · cases hck1
      have hr : raw = _ := of_decide_eq_true hr
      subst hr
      rcases hn with ⟨_, _, _, _, hn⟩ | hn
      · cases hn
      subst hn
      split at h
      · exact hQ _ _ h H locs rl pc hW hS (Or.inr (Or.inr ⟨rfl, rfl, hd⟩))
      · exact h.elim
    · -- invokestatic
      rename_i j
      rcases hck1 with hck1 | ⟨raw, n, hd, hr, hn⟩
      · cases hck1
      rcases hn with ⟨_, _, _, _, hn⟩ | hn
      · cases hn
      subst hn
      obtain ⟨x, rfl, hq⟩ : ∃ x, raw = .invokestatic x ∧ (if j = 900 ∨ j = 901 then ACs.contains (o, x) else MLs.contains (o, x, j) && (SOs.contains j || j == 291)) = true := by
        cases raw with
        | invokestatic x => exact ⟨x, rfl, hr⟩
        | _ => exact absurd (show false = true from hr) Bool.false_ne_true
      split at h
      · rw [if_pos (Or.inl rfl)] at hq
        split at h
        · rename_i n dp a sp a0 st
          obtain ⟨⟨g1, g2, g3, g4, g5, g6, g7, g8⟩, h⟩ := h
          obtain ⟨ha0, hc0⟩ := hW.ar g1 (by omega) (by omega)
          obtain ⟨ha, hc1⟩ := hW.ar g2 (by omega) (by omega)
          show W p l e R s m args below meth c H locs _ _ Qf (F0 m pc rl (.int n :: .int dp :: cv b xo (.ref a) :: .int sp :: cv b xo (.ref a0) :: st.map (cv b xo)))
          rw [cv_r ha, cv_r ha0]
          refine r_cpy (fun q => .int q) (ty := .int) hC hS hc0 hc1 ha (hC.2.2.2.2.2.1.2 1 _ rfl).1 rfl (fun _ => rfl) (fun _ _ _ => trivial) g3 g4 g5 g6 g7 (AC_in (by simpa using hq)) hrl (by omega) (by rw [cats_cv]; show _ + (7 + 11) ≤ _; omega) hd (fun H1 locs1 z1 oq e1 hs => ?_)
          exact ih _ _ _ _ hck2 hjm2 h hl hz0 hw0 H1 locs1 rl (rwI_ok hW g2 z1 oq e1) hs hL
        · exact h.elim
      · rw [if_pos (Or.inr rfl)] at hq
        split at h
        · rename_i n dp a sp a0 st
          obtain ⟨⟨g1, g2, g3, g4, g5, g6, g7, g8⟩, h⟩ := h
          obtain ⟨ha0, hc0⟩ := hW.ar g1 (by omega) (by omega)
          obtain ⟨ha, hc1⟩ := hW.ar g2 (by omega) (by omega)
          show W p l e R s m args below meth c H locs _ _ Qf (F0 m pc rl (.int n :: .int dp :: cv b xo (.ref a) :: .int sp :: cv b xo (.ref a0) :: st.map (cv b xo)))
          rw [cv_r ha, cv_r ha0]
          refine r_cpy (fun q => .long q) (ty := .long) hC hS hc0 hc1 ha (hC.2.2.2.2.2.1.2 2 _ rfl).1 rfl (fun _ => rfl) (fun _ _ _ => trivial) g3 g4 g5 g6 g7 (AC_in (by simpa using hq)) hrl (by omega) (by rw [cats_cv]; show _ + (7 + 11) ≤ _; omega) hd (fun H1 locs1 z1 oq e1 hs => ?_)
          exact ih _ _ _ _ hck2 hjm2 h hl hz0 hw0 H1 locs1 rl (rwJ_ok hW g2 z1 oq e1) hs hL
        · exact h.elim
      · rename_i hj1 hj2
        rw [if_neg (by rintro (q | q); exact hj1 q; exact hj2 q)] at hq
        simp only [Bool.and_eq_true, Bool.or_eq_true, List.contains_iff_mem, beq_iff_eq] at hq
        obtain ⟨⟨g1, g2⟩, r, M1, hE1, h⟩ := h
        have hz1 := hEz _ _ _ _ _ hE1
        have hsz1 := bl_size (z := z) (w := w) hEz hKz hQz _ _ _ _ _ h
        have kk : ∀ (H1 : Heap) (locs1 : List Loc), WR D cy b M1 H1 → va_S (AA b) s.heap H1 locs1 → W p l e R s m args below meth c H1 locs1 (mS M - z0 + (mS M1 - mS M)) (mW M - w0 + (mW M1 - mW M)) Qf (F0 m (pc + 3) rl ((r.toList ++ st.drop (ac j)).map (cv b xo))) := fun H1 locs1 hw hs => Wc (ih _ _ _ _ hck2 hjm2 h hl (by omega) (by omega) H1 locs1 rl hw hs hL) (hcat _ _ _ hz0 hz1.1).symm (hcat _ _ _ hw0 hz1.2).symm
        have e1 : st = (st.take (ac j)).reverse.reverse ++ st.drop (ac j) := tk_dr.symm
        rw [e1]
        by_cases hj : j = 291
        · subst hj
          exact hLR x pc _ _ M r M1 H locs rl _ _ hq.1 hE1 hW hS hrl g2 (by rw [hcat _ _ _ hz0 hz1.1]; omega) (by rw [hcat _ _ _ hw0 hz1.2]; omega) hd kk
        · refine r_callS hC hW hS (hE _ _ _ _ _ hj hE1) (hq.2.resolve_right hj) hj hq.1 ?_ hrl g2 hR1 hR2 (by rw [hcat _ _ _ hz0 hz1.1]; omega) (by rw [hcat _ _ _ hw0 hz1.2]; omega) hd kk
          rw [List.length_reverse, List.length_take]
          omega
    · -- invokespecial
      rename_i j
      rcases hck1 with hck1 | ⟨raw, n, hd, hr, hn⟩
      · cases hck1
      rcases hn with ⟨_, _, _, _, hn⟩ | hn
      · cases hn
      subst hn
      obtain ⟨x, rfl, hq⟩ : ∃ x, raw = .invokespecial x ∧ (if j = 900 then OBs.contains (o, x) else (MLs.contains (o, x, j) || MLNs.contains (o, x, j)) && NOs.contains j && decide ((yy j).name = "<init>")) = true := by
        cases raw with
        | invokespecial x => exact ⟨x, rfl, hr⟩
        | _ => exact absurd (show false = true from hr) Bool.false_ne_true
      split at h
      · rw [if_pos rfl] at hq
        split at h
        · rename_i a st
          obtain ⟨⟨g1, g2⟩, h⟩ := h
          show W p l e R s m args below meth c H locs _ _ Qf (F0 m pc rl (cv b xo (.ref a) :: st.map (cv b xo)))
          rw [cv_r g1]
          refine W.objInit hex hb hown (hts _ (OB_in (by simpa using hq))) (hts _ (AN_ok _ (List.mem_of_getElem? (i := 3) rfl))) (hts _ obj_code) rfl (by rw [hC.2.2.1]; exact hrl) rfl hd (by omega) (by show 2 * 0 + _ + 12 ≤ _; rw [cats_cv]; omega) ?_
          exact ih _ _ _ _ hck2 hjm2 h hl hz0 hw0 H locs rl hW hS hL
        · exact h.elim
      · rename_i hj1
        rw [if_neg hj1] at hq
        simp only [Bool.and_eq_true, Bool.or_eq_true, List.contains_iff_mem, decide_eq_true_eq] at hq
        obtain ⟨g0, ⟨g1, g2⟩, r, M1, hE1, h⟩ := h
        have hz1 := hEz _ _ _ _ _ hE1
        have hsz1 := bl_size (z := z) (w := w) hEz hKz hQz _ _ _ _ _ h
        have hj : j ≠ 291 := by rintro rfl; exact absurd hq.1.2 (by decide +kernel)
        split at g0
        · rename_i ra tl hdr
          obtain ⟨f1, f2, f3, f4⟩ := dr_head (par_in j hq.1.2).2 hdr
          have kk : ∀ (H1 : Heap) (locs1 : List Loc), WR D cy b M1 H1 → va_S (AA b) s.heap H1 locs1 → W p l e R s m args below meth c H1 locs1 (mS M - z0 + (mS M1 - mS M)) (mW M - w0 + (mW M1 - mW M)) Qf (F0 m (pc + 3) rl ((r.toList ++ tl).map (cv b xo))) := fun H1 locs1 hw hs => Wc (by rw [← f2]; exact ih _ _ _ _ hck2 hjm2 h hl (by omega) (by omega) H1 locs1 rl hw hs hL) (hcat _ _ _ hz0 hz1.1).symm (hcat _ _ _ hw0 hz1.2).symm
          rw [f3]
          refine r_callI hC hW hS (by rw [← f1]; exact hE _ _ _ _ _ hj hE1) g0 hq.1.2 hq.2 hq.1.1 f4 hrl (by rw [← f2]; exact g2) hR1 hR2 (by rw [hcat _ _ _ hz0 hz1.1]; omega) (by rw [hcat _ _ _ hw0 hz1.2]; omega) hd kk
        · exact g0.elim
    · -- invokevirtual
      rename_i j
      rcases hck1 with hck1 | ⟨raw, n, hd, hr, hn⟩
      · cases hck1
      rcases hn with ⟨_, _, _, _, hn⟩ | hn
      · cases hn
      subst hn
      obtain ⟨x, rfl, hq⟩ : ∃ x, raw = .invokevirtual x ∧ (MLs.contains (o, x, j) && NOs.contains j && EOs.contains j) = true := by
        cases raw with
        | invokevirtual x => exact ⟨x, rfl, hr⟩
        | _ => exact absurd (show false = true from hr) Bool.false_ne_true
      simp only [Bool.and_eq_true, List.contains_iff_mem] at hq
      obtain ⟨g0, ⟨g1, g2⟩, r, M1, hE1, h⟩ := h
      have hz1 := hEz _ _ _ _ _ hE1
      have hsz1 := bl_size (z := z) (w := w) hEz hKz hQz _ _ _ _ _ h
      have hj : j ≠ 291 := by rintro rfl; exact absurd hq.1.2 (by decide +kernel)
      split at g0
      · rename_i ra tl hdr
        obtain ⟨f1, f2, f3, f4⟩ := dr_head (par_in j hq.1.2).2 hdr
        have kk : ∀ (H1 : Heap) (locs1 : List Loc), WR D cy b M1 H1 → va_S (AA b) s.heap H1 locs1 → W p l e R s m args below meth c H1 locs1 (mS M - z0 + (mS M1 - mS M)) (mW M - w0 + (mW M1 - mW M)) Qf (F0 m (pc + 3) rl ((r.toList ++ tl).map (cv b xo))) := fun H1 locs1 hw hs => Wc (by rw [← f2]; exact ih _ _ _ _ hck2 hjm2 h hl (by omega) (by omega) H1 locs1 rl hw hs hL) (hcat _ _ _ hz0 hz1.1).symm (hcat _ _ _ hw0 hz1.2).symm
        rw [f3]
        refine r_callV hC hW hS (by rw [← f1]; exact hE _ _ _ _ _ hj hE1) g0.1 g0.2 hq.1.2 hq.2 hq.1.1 f4 hrl (by rw [← f2]; exact g2) hR1 hR2 (by rw [hcat _ _ _ hz0 hz1.1]; omega) (by rw [hcat _ _ _ hw0 hz1.2]; omega) hd kk
      · rename_i xi tl hdr
        obtain ⟨f1, f2, f3, f4⟩ := dr_head (par_in j hq.1.2).2 hdr
        have kk : ∀ (H1 : Heap) (locs1 : List Loc), WR D cy b M1 H1 → va_S (AA b) s.heap H1 locs1 → W p l e R s m args below meth c H1 locs1 (mS M - z0 + (mS M1 - mS M)) (mW M - w0 + (mW M1 - mW M)) Qf (F0 m (pc + 3) rl ((r.toList ++ tl).map (cv b xo))) := fun H1 locs1 hw hs => Wc (by rw [← f2]; exact ih _ _ _ _ hck2 hjm2 h hl (by omega) (by omega) H1 locs1 rl hw hs hL) (hcat _ _ _ hz0 hz1.1).symm (hcat _ _ _ hw0 hz1.2).symm
        rw [f3]
        refine r_callX hC hW hS (by rw [← f1]; exact hE _ _ _ _ _ hj hE1) g0.1 g0.2 hq.1.2 hq.2 hq.1.1 f4 hrl (by rw [← f2]; exact g2) hR1 hR2 (by rw [hcat _ _ _ hz0 hz1.1]; omega) (by rw [hcat _ _ _ hw0 hz1.2]; omega) hd kk
      · exact g0.elim
    · -- the others
      rcases hck1 with hck1 | ⟨raw, n, hd, hr, hn⟩
      · subst hck1
        exact False.elim h
      have hn : n = ln i := by
        rcases hn with ⟨q1, q2, q3, q4, hn⟩ | hn
        · subst hn
          exact False.elim h
        · exact hn
      subst hn
      split at h
      · rename_i ls' st' hsx
        obtain ⟨hr1, hr2⟩ := sx_raw hsx hr
        subst hr1
        rw [hr2] at hd hck2 hjm2
        refine sx_W hex hb hsx hd hL (fun rl' hL' => ?_)
        exact ih _ _ _ _ hck2 hjm2 h ((sx_len hsx).trans hl) hz0 hw0 H locs rl' hW hS hL'
      · split at h
        · rename_i g st' M' hhx
          have hr2 := hx_ln hhx
          rw [hr2] at hd hck2 hjm2
          have hz1 := hx_size hhx
          have hsz1 := bl_size (z := z) (w := w) hEz hKz hQz _ _ _ _ _ h.2
          refine hx_W hC hW hS hhx h.1 hr hini hd (by rw [hcat _ _ _ hz0 hz1.1]; omega) (by rw [hcat _ _ _ hw0 hz1.2]; omega) (fun H1 locs1 hw hs => ?_)
          exact Wc (ih _ _ _ _ hck2 hjm2 h.2 hl (by omega) (by omega) H1 locs1 rl hw hs hL) (hcat _ _ _ hz0 hz1.1).symm (hcat _ _ _ hw0 hz1.2).symm
        · exact h.elim
end
