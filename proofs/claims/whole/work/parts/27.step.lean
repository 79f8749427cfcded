theorem FL_in {o x n : Nat} (h : (o, x, n) ∈ FLs) : fFL (o, x, n) ∈ gT := by
  obtain ⟨q, hq, e⟩ := List.mem_map.mp h
  have h1 := FL_ok q hq
  rw [e] at h1
  exact h1
theorem CK_in {o x n : Nat} (h : (o, x, n) ∈ CKs) : fCK (o, x, n) ∈ gT := by
  obtain ⟨q, hq, e⟩ := List.mem_map.mp h
  have h1 := CK_ok q hq
  rw [e] at h1
  exact h1
theorem LK_in {o x : Nat} {n : Int} (h : (o, x, n) ∈ LKs) : fLK (o, x, n) ∈ gT := by
  obtain ⟨q, hq, e⟩ := List.mem_map.mp h
  have h1 := LK_ok q hq
  rw [e] at h1
  exact h1
theorem IK_in {o x : Nat} {n : Int} (h : (o, x, n) ∈ IKs) : fIK (o, x, n) ∈ gT := by
  obtain ⟨q, hq, e⟩ := List.mem_map.mp h
  have h1 := IK_ok q hq
  rw [e] at h1
  exact h1
theorem ck_get {o n : Nat} {ini : Bool} {raw : Instr} (h : ck o ini (.getfield n) raw = true) : ∃ x, raw = .getfield x ∧ (o, x, n) ∈ FLs ∧ (n = 1000 ∨ n = 1001 ∨ (n / 64 < 13 ∧ n % 64 < (ftT (n / 64)).length)) := by
  cases raw with
  | getfield x =>
    refine ⟨x, rfl, ?_⟩
    simp only [ck, Bool.and_eq_true, Bool.or_eq_true, List.contains_iff_mem, decide_eq_true_eq, beq_iff_eq] at h
    refine ⟨h.1, ?_⟩
    rcases h.2 with (h | h) | h
    · exact Or.inl h
    · exact Or.inr (Or.inl h)
    · exact Or.inr (Or.inr h)
  | _ => exact absurd (show false = true from h) Bool.false_ne_true
theorem ck_put {o n : Nat} {ini : Bool} {raw : Instr} (h : ck o ini (.putfield n) raw = true) : ∃ x, raw = .putfield x ∧ (o, x, n) ∈ FLs ∧ n / 64 < 13 ∧ n % 64 < (ftT (n / 64)).length ∧ ((cT (n / 64) (n % 64)).2.2.2 = false ∨ (ini = true ∧ (cT (n / 64) (n % 64)).1 = on o)) := by
  cases raw with
  | putfield x =>
    refine ⟨x, rfl, ?_⟩
    simp only [ck, Bool.and_eq_true, Bool.or_eq_true, List.contains_iff_mem, decide_eq_true_eq, Bool.not_eq_true'] at h
    exact ⟨h.1.1, h.1.2.1, h.1.2.2, h.2⟩
  | _ => exact absurd (show false = true from h) Bool.false_ne_true
theorem ck_sta {o n : Nat} {ini : Bool} {raw : Instr} (h : ck o ini (.getstatic n) raw = true) : ∃ x, raw = .getstatic x ∧ ((∃ q ∈ GS, q.1 = (o, x, n)) ∨ ∃ q ∈ GN, q.1 = (o, x, n)) := by
  cases raw with
  | getstatic x =>
    refine ⟨x, rfl, ?_⟩
    simp only [ck, Bool.or_eq_true, List.contains_iff_mem] at h
    rcases h with h | h
    · obtain ⟨q, hq, e⟩ := List.mem_map.mp h
      exact Or.inl ⟨q, hq, e⟩
    · obtain ⟨q, hq, e⟩ := List.mem_map.mp h
      exact Or.inr ⟨q, hq, e⟩
  | _ => exact absurd (show false = true from h) Bool.false_ne_true
theorem ck_new {o n : Nat} {ini : Bool} {raw : Instr} (h : ck o ini (.new n) raw = true) : ∃ x, raw = .new x ∧ (o, x, n) ∈ CKs ∧ n < 13 := by
  cases raw with
  | new x =>
    simp only [ck, Bool.and_eq_true, List.contains_iff_mem, decide_eq_true_eq] at h
    exact ⟨x, rfl, h.1, h.2⟩
  | _ => exact absurd (show false = true from h) Bool.false_ne_true
theorem ck_anew {o n : Nat} {ini : Bool} {raw : Instr} (h : ck o ini (.anewarray n) raw = true) : ∃ x, raw = .anewarray x ∧ ((n = 17 ∧ (o, x, 0) ∈ CKs) ∨ (n = 18 ∧ (o, x, 9) ∈ CKs)) := by
  cases raw with
  | anewarray x =>
    simp only [ck, Bool.and_eq_true, Bool.or_eq_true, List.contains_iff_mem, beq_iff_eq] at h
    exact ⟨x, rfl, h⟩
  | _ => exact absurd (show false = true from h) Bool.false_ne_true
theorem ck_l2 {o : Nat} {v : Int} {ini : Bool} {raw : Instr} (h : ck o ini (.jsr v) raw = true) : ∃ x, raw = .ldc2_w x ∧ (o, x, v) ∈ LKs := by
  cases raw with
  | ldc2_w x =>
    simp only [ck, List.contains_iff_mem] at h
    exact ⟨x, rfl, h⟩
  | _ => exact absurd (show false = true from h) Bool.false_ne_true
theorem ck_li {o : Nat} {v : Int} {ini : Bool} {raw : Instr} (h : ck o ini (.goto_w v) raw = true) : ∃ x, raw = .ldc x ∧ (o, x, v) ∈ IKs := by
  cases raw with
  | ldc x =>
    simp only [ck, List.contains_iff_mem] at h
    exact ⟨x, rfl, h⟩
  | _ => exact absurd (show false = true from h) Bool.false_ne_true
theorem ck_lw {o : Nat} {v : Int} {ini : Bool} {raw : Instr} (h : ck o ini (.jsr_w v) raw = true) : ∃ x, raw = .ldc_w x ∧ (o, x, v) ∈ IKs := by
  cases raw with
  | ldc_w x =>
    simp only [ck, List.contains_iff_mem] at h
    exact ⟨x, rfl, h⟩
  | _ => exact absurd (show false = true from h) Bool.false_ne_true
theorem ck_str {o n : Nat} {ini : Bool} {raw : Instr} (h : ck o ini (.ret n) raw = true) : ∃ x, raw = .ldc x ∧ ∃ q ∈ SK, q.1 = (o, x, n) := by
  cases raw with
  | ldc x =>
    simp only [ck, List.contains_iff_mem] at h
    obtain ⟨q, hq, e⟩ := List.mem_map.mp h
    exact ⟨x, rfl, q, hq, e⟩
  | _ => exact absurd (show false = true from h) Bool.false_ne_true
section
variable {p : Program} {l : Launch} {e : Env} {R : Room} {s : State} {m : MethodId} {args : Array Value} {below : List Frame} {meth : Method} {c : Code} {H : Heap} {locs : List Loc} {cells slots : Nat} {Qf : State → Prop} {cc : ByteArray} {pc : Nat} {rl : Array Slot} {o nL : Nat} {D : va_G} {cy : Nat → ClassId} {b : Nat} {xo : Nat → Option Nat} {L : Nat} {xs : Nat → Int32}
theorem Wc {n1 n2 : Nat} {g : JFrame} (w : W p l e R s m args below meth c H locs n1 n2 Qf g) (h1 : n1 = cells) (h2 : n2 = slots) : W p l e R s m args below meth c H locs cells slots Qf g := by subst h1; subst h2; exact w
theorem hx_W {i raw : Instr} {g : Prop} {st st' : List Value} {M M' : mm_M} {ini : Bool} (hC : CX p s m args c cc o nL D cy b xo L xs) (hW : WR D cy b M H) (hS : va_S (AA b) s.heap H locs) (hi : hx L xs i st M = some (g, st', M')) (hg : g) (hck : ck o ini i raw = true) (hini : ini = true → meth.name = "<init>") (hdg : decode cc pc = .ok (raw, iln i)) (hc1 : cells + (mS M' - mS M) ≤ R.cells) (hc2 : slots + (mW M' - mW M) ≤ R.slots)
    (kk : ∀ (H1 : Heap) (locs1 : List Loc), WR D cy b M' H1 → va_S (AA b) s.heap H1 locs1 → W p l e R s m args below meth c H1 locs1 (cells + (mS M' - mS M)) (slots + (mW M' - mW M)) Qf (F0 m (pc + iln i) rl (st'.map (cv b xo)))) : W p l e R s m args below meth c H locs cells slots Qf (F0 m pc rl (st.map (cv b xo))) := by
  have z0 : ∀ n k : Nat, n + (k - k) = n := fun n k => by omega
  have hex := hC.1
  have hb := hC.2.1
  have hown := hC.2.2.2.1
  have hts := hC.2.2.2.2.1
  unfold hx at hi
  split at hi
  · split at hi
    · cases hi
      have hr : raw = .idiv := of_decide_eq_true hck
      subst hr
      exact lv_idiv hex hb hdg hg (Wc (kk H locs hW hS) (z0 _ _) (z0 _ _))
    · cases hi
  · split at hi
    · cases hi
      have hr : raw = .irem := of_decide_eq_true hck
      subst hr
      exact lv_irem hex hb hdg hg (Wc (kk H locs hW hS) (z0 _ _) (z0 _ _))
    · cases hi
  · split at hi
    · cases hi
      have hr : raw = .ldiv := of_decide_eq_true hck
      subst hr
      exact lv_ldiv hex hb hdg hg (Wc (kk H locs hW hS) (z0 _ _) (z0 _ _))
    · cases hi
  · split at hi
    · cases hi
      have hr : raw = .lrem := of_decide_eq_true hck
      subst hr
      exact lv_lrem hex hb hdg hg (Wc (kk H locs hW hS) (z0 _ _) (z0 _ _))
    · cases hi
  · cases hi
    obtain ⟨x, rfl, h1⟩ := ck_l2 hck
    exact lv_ldc2 hex hb hown (hts _ (LK_in h1)) hdg (Wc (kk H locs hW hS) (z0 _ _) (z0 _ _))
  · cases hi
    obtain ⟨x, rfl, h1⟩ := ck_li hck
    exact lv_ldc hex hb hown (hts _ (IK_in h1)) hdg (Wc (kk H locs hW hS) (z0 _ _) (z0 _ _))
  · cases hi
    obtain ⟨x, rfl, h1⟩ := ck_lw hck
    exact lv_ldcw hex hb hown (hts _ (IK_in h1)) hdg (Wc (kk H locs hW hS) (z0 _ _) (z0 _ _))
  · cases hi
    obtain ⟨x, rfl, h1⟩ := ck_str hck
    exact r_str hC hg h1 hdg (Wc (kk H locs hW hS) (z0 _ _) (z0 _ _))
  · rename_i n
    obtain ⟨x, rfl, h1⟩ := ck_sta hck
    split at hi
    · rename_i hn
      subst hn
      cases hi
      exact r_gets hC hS (n := 0) hC.2.2.2.2.2.2.1.2.2.2.2.2.1 h1 hdg (Wc (kk H locs hW hS) (z0 _ _) (z0 _ _))
    · cases hi
      exact r_gets hC hS (hC.2.2.2.2.2.2.1.2.2.2.2.2.2.1 n hg) h1 hdg (Wc (kk H locs hW hS) (z0 _ _) (z0 _ _))
  · rename_i n
    obtain ⟨x, rfl, h1, h2⟩ := ck_get hck
    split at hi
    · rename_i a st
      split at hi
      · cases hi
      rename_i hbig
      have main : ∀ v : Value, mK M a = n / 64 → cv b xo v = fv b M (n / 64) a (n % 64) → W p l e R s m args below meth c H locs cells slots Qf (F0 m (pc + 3) rl (cv b xo v :: st.map (cv b xo))) → W p l e R s m args below meth c H locs cells slots Qf (F0 m pc rl (cv b xo (.ref a) :: st.map (cv b xo))) := by
        intro v hk hv kk1
        have hr : n / 64 < 13 ∧ n % 64 < (ftT (n / 64)).length := by
          rcases h2 with h2 | h2 | h2
          · omega
          · omega
          · exact h2
        have hl := FL_in h1
        have e1 : fr n = ((cT (n / 64) (n % 64)).1, (cT (n / 64) (n % 64)).2.1, (cT (n / 64) (n % 64)).2.2.1) := by
          unfold fr
          rw [if_neg (by omega), if_neg (by omega)]
        unfold fFL at hl
        rw [e1] at hl
        rw [hv] at kk1
        exact r_get hC hW hk hr.1 hr.2 hl hdg kk1
      split at hi
      · rename_i hf
        cases hi
        exact main _ hg (by unfold fv; rw [if_pos hf]; rfl) (Wc (kk H locs hW hS) (z0 _ _) (z0 _ _))
      · rename_i hf
        split at hi
        · rename_i hf2
          cases hi
          exact main _ hg (by unfold fv; rw [if_neg hf, if_pos hf2]; rfl) (Wc (kk H locs hW hS) (z0 _ _) (z0 _ _))
        · rename_i hf2
          cases hi
          exact main _ hg (by unfold fv; rw [if_neg hf, if_neg hf2]; rfl) (Wc (kk H locs hW hS) (z0 _ _) (z0 _ _))
    · rename_i i st
      split at hi
      · rename_i hn
        subst hn
        cases hi
        exact r_xval hC hS hg (FL_in h1) hdg (Wc (kk H locs hW hS) (z0 _ _) (z0 _ _))
      · cases hi
        obtain ⟨hg1, hg2⟩ := hg
        subst hg2
        exact r_xcod hC hS hg1 (FL_in h1) hdg (Wc (kk H locs hW hS) (z0 _ _) (z0 _ _))
    · cases hi
  · rename_i n
    obtain ⟨x, rfl, h1, h2, h3, h4⟩ := ck_put hck
    have hl := FL_in h1
    have e1 : fr n = ((cT (n / 64) (n % 64)).1, (cT (n / 64) (n % 64)).2.1, (cT (n / 64) (n % 64)).2.2.1) := by
      unfold fr
      rw [if_neg (by omega), if_neg (by omega)]
    unfold fFL at hl
    rw [e1] at hl
    have hfin : (cT (n / 64) (n % 64)).2.2.2 = false ∨ (meth.name = "<init>" ∧ (cT (n / 64) (n % 64)).1 = on o) := h4.imp id (fun q => ⟨hini q.1, q.2⟩)
    have hty := cL_ft _ h2 _ h3
    split at hi
    · rename_i v a st
      split at hi
      · rename_i hf
        cases hi
        have hy : cY (n / 64) (n % 64) = .int := by
          rcases hty with q | q | q | q <;> first | exact q.2 | (have := q.1; omega)
        refine r_put hC hW hS hg h2 h3 hl hfin (v := .int v) (by rw [hy]; rfl) (by rw [hy]; rfl) hdg (fun H1 locs1 z oq hO hs => ?_)
        exact Wc (kk H1 locs1 (p_I hW hg h2 (by omega) (by omega) z oq hO) hs) (z0 _ (mS M)) (z0 _ (mW M))
      · rename_i hf
        cases hi
        obtain ⟨hg1, hg2, hg3, hg4⟩ := hg
        have hy : cY (n / 64) (n % 64) = .char := by
          rcases hty with q | q | q | q <;> first | exact q.2 | (have := q.1; omega)
        refine r_put hC hW hS hg1 h2 h3 hl hfin (v := .int v) (by rw [hy]; exact hg3) (by rw [hy]; exact hg4) hdg (fun H1 locs1 z oq hO hs => ?_)
        exact Wc (kk H1 locs1 (p_I hW hg1 h2 (by omega) (by omega) z oq hO) hs) (z0 _ (mS M)) (z0 _ (mW M))
    · rename_i v a st
      cases hi
      obtain ⟨hg1, hg2⟩ := hg
      have hy : cY (n / 64) (n % 64) = .long := by
        rcases hty with q | q | q | q <;> first | exact q.2 | (have := q.1; omega)
      refine r_put hC hW hS hg1 h2 h3 hl hfin (v := .long v) (by rw [hy]; rfl) (by rw [hy]; rfl) hdg (fun H1 locs1 z oq hO hs => ?_)
      exact Wc (kk H1 locs1 (p_J hW hg1 h2 hg2 z oq hO) hs) (z0 _ (mS M)) (z0 _ (mW M))
    · rename_i v a st
      cases hi
      obtain ⟨hg1, hg2, hg3⟩ := hg
      have hy : isR (cY (n / 64) (n % 64)) = true := by
        rcases hty with q | q | q | q <;> first | exact q.2 | (have := q.1; omega)
      have hv : cv b xo (.ref v) = .ref (b + v) := cv_r hg3
      have hn1 : narrow (cY (n / 64) (n % 64)) (cv b xo (.ref v)) = cv b xo (.ref v) := by
        rw [hv]
        cases hq : cY (n / 64) (n % 64) <;> first | rfl | (rw [hq] at hy; cases hy)
      have hn2 : fits (cY (n / 64) (n % 64)) (cv b xo (.ref v)) = true := by
        rw [hv]
        cases hq : cY (n / 64) (n % 64) <;> first | rfl | (rw [hq] at hy; cases hy)
      refine r_put hC hW hS hg1 h2 h3 hl hfin (v := cv b xo (.ref v)) hn1 hn2 hdg (fun H1 locs1 z oq hO hs => ?_)
      exact Wc (kk H1 locs1 (p_R hW hg1 h2 hg2 z oq hO) hs) (z0 _ (mS M)) (z0 _ (mW M))
    · cases hi
  · have hr : raw = .arraylength := of_decide_eq_true hck
    subst hr
    split at hi
    · cases hi
      exact r_alen hC hW hg hdg (Wc (kk H locs hW hS) (z0 _ _) (z0 _ _))
    · rename_i n st
      cases hi
      rcases hg with rfl | hg
      · exact r_xlen hC hS hdg (Wc (kk H locs hW hS) (z0 _ _) (z0 _ _))
      · have e1 : xln L n = tN (n - 100) := by unfold xln; rw [if_neg (by omega)]
        rw [e1] at kk
        exact r_blen hC hS hg hdg (Wc (kk H locs hW hS) (z0 _ _) (z0 _ _))
    · cases hi
  · have hr : raw = .iaload := of_decide_eq_true hck
    subst hr
    split at hi
    · cases hi
      exact r_iald hC hW hg.1 hg.2 hdg (Wc (kk H locs hW hS) (z0 _ _) (z0 _ _))
    · cases hi
      exact r_xint hC hS hg.1 hg.2 hdg (Wc (kk H locs hW hS) (z0 _ _) (z0 _ _))
    · cases hi
  · have hr : raw = .laload := of_decide_eq_true hck
    subst hr
    split at hi
    · cases hi
      exact r_lald hC hW hg.1 hg.2 hdg (Wc (kk H locs hW hS) (z0 _ _) (z0 _ _))
    · cases hi
  · have hr : raw = .caload := of_decide_eq_true hck
    subst hr
    split at hi
    · cases hi
      exact r_cald hC hW hg.1 hg.2 hdg (Wc (kk H locs hW hS) (z0 _ _) (z0 _ _))
    · cases hi
  · have hr : raw = .baload := of_decide_eq_true hck
    subst hr
    split at hi
    · cases hi
      exact r_zald hC hW hg.1 hg.2 hdg (Wc (kk H locs hW hS) (z0 _ _) (z0 _ _))
    · cases hi
      exact r_bald hC hS hg.1 hg.2 hdg (Wc (kk H locs hW hS) (z0 _ _) (z0 _ _))
    · cases hi
  · have hr : raw = .aaload := of_decide_eq_true hck
    subst hr
    split at hi
    · cases hi
      rcases hg.1 with h | h
      · exact r_aaldF hC hW h hg.2 hdg (Wc (kk H locs hW hS) (z0 _ _) (z0 _ _))
      · exact r_aaldS hC hW h hg.2 hdg (Wc (kk H locs hW hS) (z0 _ _) (z0 _ _))
    · cases hi
  · have hr : raw = .iastore := of_decide_eq_true hck
    subst hr
    split at hi
    · cases hi
      exact r_iast hC hW hS hg.1 hg.2 hdg (fun H1 locs1 hw hs => Wc (kk H1 locs1 hw hs) (z0 _ (mS M)) (z0 _ (mW M)))
    · cases hi
  · have hr : raw = .lastore := of_decide_eq_true hck
    subst hr
    split at hi
    · cases hi
      exact r_last hC hW hS hg.1 hg.2 hdg (fun H1 locs1 hw hs => Wc (kk H1 locs1 hw hs) (z0 _ (mS M)) (z0 _ (mW M)))
    · cases hi
  · have hr : raw = .castore := of_decide_eq_true hck
    subst hr
    split at hi
    · cases hi
      exact r_cast hC hW hS hg.1 hg.2 hdg (fun H1 locs1 hw hs => Wc (kk H1 locs1 hw hs) (z0 _ (mS M)) (z0 _ (mW M)))
    · cases hi
  · have hr : raw = .bastore := of_decide_eq_true hck
    subst hr
    split at hi
    · cases hi
      exact r_zast hC hW hS hg.1 hg.2 hdg (fun H1 locs1 hw hs => Wc (kk H1 locs1 hw hs) (z0 _ (mS M)) (z0 _ (mW M)))
    · cases hi
  · have hr : raw = .aastore := of_decide_eq_true hck
    subst hr
    split at hi
    · cases hi
      rcases hg.1 with h | h
      · exact r_aastF hC hW hS h.1 h.2 hg.2 hdg (fun H1 locs1 hw hs => Wc (kk H1 locs1 hw hs) (z0 _ (mS M)) (z0 _ (mW M)))
      · exact r_aastS hC hW hS h.1 h.2 hg.2 hdg (fun H1 locs1 hw hs => Wc (kk H1 locs1 hw hs) (z0 _ (mS M)) (z0 _ (mW M)))
    · cases hi
  · cases hi
    rename_i n
    obtain ⟨x, rfl, h1, h2⟩ := ck_new hck
    have e1 : mS (nw M n 0 (ftT n).length) - mS M = 1 := by show mS M + 1 - mS M = 1; omega
    have e2 : mW (nw M n 0 (ftT n).length) - mW M = (ftT n).length := by show mW M + (ftT n).length - mW M = _; omega
    rw [e1] at hc1 kk
    rw [e2] at hc2 kk
    exact r_new hC hW hS h2 (CK_in h1) hc1 hc2 hdg (fun H1 hw hs => kk H1 locs hw hs)
  · rename_i t
    have hr : raw = .newarray t := of_decide_eq_true hck
    subst hr
    split at hi
    · cases hi
      rename_i n st
      have e1 : mS (nw M 13 n.toNatClampNeg n.toNatClampNeg) - mS M = 1 := by show mS M + 1 - mS M = 1; omega
      have e2 : mW (nw M 13 n.toNatClampNeg n.toNatClampNeg) - mW M = n.toNatClampNeg := by show mW M + n.toNatClampNeg - mW M = _; omega
      rw [e1] at hc1 kk
      rw [e2] at hc2 kk
      exact r_newa_char hC hW hS hg.1 hg.2 hc1 hc2 hdg (fun H1 hw hs => kk H1 locs hw hs)
    · cases hi
      rename_i n st
      have e1 : mS (nw M 14 n.toNatClampNeg n.toNatClampNeg) - mS M = 1 := by show mS M + 1 - mS M = 1; omega
      have e2 : mW (nw M 14 n.toNatClampNeg n.toNatClampNeg) - mW M = n.toNatClampNeg := by show mW M + n.toNatClampNeg - mW M = _; omega
      rw [e1] at hc1 kk
      rw [e2] at hc2 kk
      exact r_newa_int hC hW hS hg.1 hg.2 hc1 hc2 hdg (fun H1 hw hs => kk H1 locs hw hs)
    · cases hi
      rename_i n st
      have e1 : mS (nw M 15 n.toNatClampNeg n.toNatClampNeg) - mS M = 1 := by show mS M + 1 - mS M = 1; omega
      have e2 : mW (nw M 15 n.toNatClampNeg n.toNatClampNeg) - mW M = n.toNatClampNeg := by show mW M + n.toNatClampNeg - mW M = _; omega
      rw [e1] at hc1 kk
      rw [e2] at hc2 kk
      exact r_newa_long hC hW hS hg.1 hg.2 hc1 hc2 hdg (fun H1 hw hs => kk H1 locs hw hs)
    · cases hi
      rename_i n st
      have e1 : mS (nw M 16 n.toNatClampNeg n.toNatClampNeg) - mS M = 1 := by show mS M + 1 - mS M = 1; omega
      have e2 : mW (nw M 16 n.toNatClampNeg n.toNatClampNeg) - mW M = n.toNatClampNeg := by show mW M + n.toNatClampNeg - mW M = _; omega
      rw [e1] at hc1 kk
      rw [e2] at hc2 kk
      exact r_newa_boolean hC hW hS hg.1 hg.2 hc1 hc2 hdg (fun H1 hw hs => kk H1 locs hw hs)
    · cases hi
  · split at hi
    · rename_i k _ n st
      cases hi
      obtain ⟨x, rfl, h1⟩ := ck_anew hck
      have e1 : mS (nw M k n.toNatClampNeg n.toNatClampNeg) - mS M = 1 := by show mS M + 1 - mS M = 1; omega
      have e2 : mW (nw M k n.toNatClampNeg n.toNatClampNeg) - mW M = n.toNatClampNeg := by show mW M + n.toNatClampNeg - mW M = _; omega
      rw [e1] at hc1 kk
      rw [e2] at hc2 kk
      rcases h1 with ⟨rfl, h1⟩ | ⟨rfl, h1⟩
      · exact r_anewF hC hW hS (CK_in h1) hg.2.1 hg.2.2 hc1 hc2 hdg (fun H1 hw hs => kk H1 locs hw hs)
      · exact r_anewS hC hW hS (CK_in h1) hg.2.1 hg.2.2 hc1 hc2 hdg (fun H1 hw hs => kk H1 locs hw hs)
    · cases hi
  · cases hi
end
