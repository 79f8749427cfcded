section
variable {p : Program} {l : Launch} {e : Env} {R : Room} {s : State} {m : MethodId} {args : Array Value} {below : List Frame} {meth : Method} {c : Code} {H : Heap} {locs : List Loc} {cells slots : Nat} {Qf : State → Prop} {cc : ByteArray} {pc : Nat} {rl : Array Slot} {o nL : Nat} {D : va_G} {cy : Nat → ClassId} {b : Nat} {xo : Nat → Option Nat} {L : Nat} {xs : Nat → Int32} {M : mm_M} {st : List Value}
/-- a field is read -/
theorem r_get {a ci k x : Nat} (hC : CX p s m args c cc o nL D cy b xo L xs) (hW : WR D cy b M H) (hk : mK M a = ci) (hci : ci < 13) (hkk : k < (ftT ci).length) (hl : Cond.fieldLink (on o) x (cT ci k).1 (cT ci k).2.1 (cT ci k).2.2.1 ∈ gT) (hdg : decode cc pc = .ok (.getfield x, 3))
    (kk : W p l e R s m args below meth c H locs cells slots Qf (F0 m (pc + 3) rl (fv b M ci a k :: st))) : W p l e R s m args below meth c H locs cells slots Qf (F0 m pc rl (cv b xo (.ref a) :: st)) := by
  obtain ⟨hx, hb, hml, hown, hts, hK, hE, hbs⟩ := hC
  obtain ⟨ha, hOB⟩ := hW.ob hk hci
  rw [cv_r ha]
  refine va_get (C := on ci) (T := cT ci) (N := (ftT ci).length) (ci := ci) (ws := [(b + a, .inr (ci, (List.range (ftT ci).length).map (fv b M ci a)))]) hx hb hts (cL_ws hci) hown hK ?_ 0 rfl (cL_at ci hci) k hkk (hts _ hl) (fun _ h => h) (v := fv b M ci a k) ?_ hdg kk
  · intro j q hq
    cases j with
    | zero =>
      cases hq
      exact ⟨_, cL_at ci hci, hOB.to (fun i hi => by simp [vp_V, hi])⟩
    | succ j => simp at hq
  · simp [hkk]
/-- a field is written -/
theorem r_put {a ci k x : Nat} {v : Value} (hC : CX p s m args c cc o nL D cy b xo L xs) (hW : WR D cy b M H) (hS : va_S (AA b) s.heap H locs) (hk : mK M a = ci) (hci : ci < 13) (hkk : k < (ftT ci).length) (hl : Cond.fieldLink (on o) x (cT ci k).1 (cT ci k).2.1 (cT ci k).2.2.1 ∈ gT) (hfin : (cT ci k).2.2.2 = false ∨ (meth.name = "<init>" ∧ (cT ci k).1 = on o)) (hn : narrow (cY ci k) v = v) (hfit : fits (cY ci k) v = true) (hdg : decode cc pc = .ok (.putfield x, 3))
    (kk : ∀ (H1 : Heap) (locs1 : List Loc), H1.size = H.size → (∀ q, q ≠ b + a → H1[q]? = H[q]?) → t_OB (b + a) (D.1 ci) (ftT ci).length (D.2 ci) H1 (updV (fv b M ci a) k v) → va_S (AA b) s.heap H1 locs1 → W p l e R s m args below meth c H1 locs1 cells slots Qf (F0 m (pc + 3) rl st)) : W p l e R s m args below meth c H locs cells slots Qf (F0 m pc rl (v :: cv b xo (.ref a) :: st)) := by
  obtain ⟨hx, hb, hml, hown, hts, hK, hE, hbs⟩ := hC
  obtain ⟨ha, cell, q1, q2, q3, q4⟩ := hW.ob hk hci
  rw [cv_r ha]
  have hap := va_apart (own := on o) hts (cL_ws hci) (cY ci) (cL_ty ci hci) (cL_nm ci hci) hK (cL_at ci hci)
  obtain ⟨hSl, hfc, kC, hkC, hkind⟩ := hK.1 ci _ (cL_at ci hci)
  obtain ⟨cf, kf, fi, f, hi, hsl⟩ := hSl k hkk
  have hst := (u_facts hfc hkC (u_lays hts (cL_ws hci) hkk) hi).1
  have hd := cL_ty ci hci k hkk
  have hlay := hts _ (cL_ws hci _ (u_in_lay hkk))
  unfold u_lay at hlay
  by_cases hf : (cT ci k).2.2.2 = true
  · rcases hfin with h | ⟨hin, hdecl⟩
    · rw [hf] at h; cases h
    rw [if_pos hf] at hlay
    have hcf : m.cls = cf := by
      obtain ⟨_, _, c', _, _, _, -, -, hf', -, -, -, hown2, -⟩ := Cond.laysFinal_spec hlay
      have e1 : c' = cf := by have := hi.symm.trans hf'; simp at this; exact this.1.symm
      rw [hdecl] at hown2
      rw [← e1]; exact Option.some.inj (hown.symm.trans hown2)
    have h6 := u_fits hfc hkC hkind (Or.inr hlay) hi hd hn hfit
    refine W.putFinK hx hb hown (hts _ hl) hi hst hcf hin (by rw [q2]; exact h6) q1 q3 (by rw [hsl]; exact k2_hasslot (q4 k hkk)) rfl rfl hdg fun H' e1 e2 e3 => ?_
    rw [hsl] at e1 ⊢
    exact kk H' _ e2 e3 ⟨_, e1, q2, q3, t_set q4 hap hkk v⟩ (hS.put e2 e3 (show b < b + a by omega))
  · rw [if_neg hf] at hlay
    have h6 := u_store hfc hkC hkind hlay hi hd hn hfit
    refine W.putK hx hb (f := f) ⟨hown, hts _ hl, ⟨_, _, _, hi⟩, hst⟩ (by rw [q2]; exact h6) q1 q3 (by rw [hsl]; exact k2_hasslot (q4 k hkk)) rfl rfl hdg fun H' e1 e2 e3 => ?_
    rw [hsl] at e1 ⊢
    exact kk H' _ e2 e3 ⟨_, e1, q2, q3, t_set q4 hap hkk v⟩ (hS.put e2 e3 (show b < b + a by omega))
end
section
variable {D : va_G} {cy : Nat → ClassId} {b : Nat} {M : mm_M} {H H1 : Heap} {a k : Nat}
theorem sI_ne {v : Int32} (x : Nat) (h : x ≠ a) : mI (sI M a k v) x = mI M x := by
  funext y; show (if x = a then (if y = k then v else M.2.2.1 x y) else M.2.2.1 x y) = _; rw [if_neg h]; rfl
theorem sI_at {v : Int32} (y : Nat) : mI (sI M a k v) a y = if y = k then v else mI M a y := by
  show (if a = a then (if y = k then v else M.2.2.1 a y) else M.2.2.1 a y) = _; rw [if_pos rfl]; rfl
theorem sJ_ne {v : Int64} (x : Nat) (h : x ≠ a) : mJ (sJ M a k v) x = mJ M x := by
  funext y; show (if x = a then (if y = k then v else M.2.2.2.1 x y) else M.2.2.2.1 x y) = _; rw [if_neg h]; rfl
theorem sJ_at {v : Int64} (y : Nat) : mJ (sJ M a k v) a y = if y = k then v else mJ M a y := by
  show (if a = a then (if y = k then v else M.2.2.2.1 a y) else M.2.2.2.1 a y) = _; rw [if_pos rfl]; rfl
theorem sR_ne {v : Nat} (x : Nat) (h : x ≠ a) : mR (sR M a k v) x = mR M x := by
  funext y; show (if x = a then (if y = k then v else M.2.2.2.2.1 x y) else M.2.2.2.2.1 x y) = _; rw [if_neg h]; rfl
theorem sR_at {v : Nat} (y : Nat) : mR (sR M a k v) a y = if y = k then v else mR M a y := by
  show (if a = a then (if y = k then v else M.2.2.2.2.1 a y) else M.2.2.2.2.1 a y) = _; rw [if_pos rfl]; rfl
theorem p_I {ci : Nat} {v : Int32} (hW : WR D cy b M H) (hk : mK M a = ci) (hci : ci < 13) (h1 : ¬ ft ci k = 1) (h2 : ¬ ft ci k = 2) (z : H1.size = H.size) (oq : ∀ q, q ≠ b + a → H1[q]? = H[q]?) (hO : t_OB (b + a) (D.1 ci) (ftT ci).length (D.2 ci) H1 (updV (fv b M ci a) k (.int v))) : WR D cy b (sI M a k v) H1 := by
  refine WR_set (a := a) hW (fun _ => rfl) (fun _ => rfl) rfl sI_ne (fun _ _ => rfl) (fun _ _ => rfl) z oq (cok_ob hk hci (hO.to (fun j _ => ?_)))
  unfold updV fv
  rw [sI_at]
  by_cases hj : j = k
  · subst hj
    rw [if_pos rfl, if_neg h1, if_neg h2, if_pos rfl]
  · rw [if_neg hj, if_neg hj]
    rfl
theorem p_J {ci : Nat} {v : Int64} (hW : WR D cy b M H) (hk : mK M a = ci) (hci : ci < 13) (h1 : ft ci k = 1) (z : H1.size = H.size) (oq : ∀ q, q ≠ b + a → H1[q]? = H[q]?) (hO : t_OB (b + a) (D.1 ci) (ftT ci).length (D.2 ci) H1 (updV (fv b M ci a) k (.long v))) : WR D cy b (sJ M a k v) H1 := by
  refine WR_set (a := a) hW (fun _ => rfl) (fun _ => rfl) rfl (fun _ _ => rfl) sJ_ne (fun _ _ => rfl) z oq (cok_ob hk hci (hO.to (fun j _ => ?_)))
  unfold updV fv
  rw [sJ_at]
  by_cases hj : j = k
  · subst hj
    rw [if_pos rfl, if_pos h1, if_pos rfl]
  · rw [if_neg hj, if_neg hj]
    rfl
theorem p_R {ci : Nat} {v : Nat} (hW : WR D cy b M H) (hk : mK M a = ci) (hci : ci < 13) (h2 : ft ci k = 2) (z : H1.size = H.size) (oq : ∀ q, q ≠ b + a → H1[q]? = H[q]?) (hO : t_OB (b + a) (D.1 ci) (ftT ci).length (D.2 ci) H1 (updV (fv b M ci a) k (va_rf (ro b v)))) : WR D cy b (sR M a k v) H1 := by
  refine WR_set (a := a) hW (fun _ => rfl) (fun _ => rfl) rfl (fun _ _ => rfl) (fun _ _ => rfl) sR_ne z oq (cok_ob hk hci (hO.to (fun j _ => ?_)))
  unfold updV fv
  rw [sR_at]
  by_cases hj : j = k
  · subst hj
    rw [if_pos rfl, if_neg (by rw [h2]; decide), if_pos h2, if_pos rfl]
  · rw [if_neg hj, if_neg hj]
    rfl
theorem q_I {ci : Nat} {v : Int32} (hW : WR D cy b M H) (hk : mK M a = ci) (hc : ¬ ci < 13) (h1 : ¬ ci = 15) (h2 : ¬ (ci = 17 ∨ ci = 18)) (z : H1.size = H.size) (oq : ∀ q, q ≠ b + a → H1[q]? = H[q]?) (hO : H1[b + a]? = some (arrV (cy ci) (mN M a) (updV (av b M ci a) k (.int v)))) : WR D cy b (sI M a k v) H1 := by
  refine WR_set (a := a) hW (fun _ => rfl) (fun _ => rfl) rfl sI_ne (fun _ _ => rfl) (fun _ _ => rfl) z oq (cok_ar hk hc (hO.trans ?_))
  show some (arrV (cy ci) (mN M a) _) = some (arrV (cy ci) (mN M a) _)
  congr 2
  funext j
  unfold updV av
  rw [sI_at, if_neg h1, if_neg h2, if_neg h1, if_neg h2]
  by_cases hj : j = k
  · rw [if_pos hj, if_pos hj]
  · rw [if_neg hj, if_neg hj]
theorem q_J {v : Int64} (hW : WR D cy b M H) (hk : mK M a = 15) (z : H1.size = H.size) (oq : ∀ q, q ≠ b + a → H1[q]? = H[q]?) (hO : H1[b + a]? = some (arrV (cy 15) (mN M a) (updV (av b M 15 a) k (.long v)))) : WR D cy b (sJ M a k v) H1 := by
  refine WR_set (a := a) hW (fun _ => rfl) (fun _ => rfl) rfl (fun _ _ => rfl) sJ_ne (fun _ _ => rfl) z oq (cok_ar hk (by omega) (hO.trans ?_))
  show some (arrV (cy 15) (mN M a) _) = some (arrV (cy 15) (mN M a) _)
  congr 2
  funext j
  unfold updV av
  rw [sJ_at, if_pos rfl, if_pos rfl]
  by_cases hj : j = k
  · rw [if_pos hj, if_pos hj]
  · rw [if_neg hj, if_neg hj]
theorem q_R {ci v : Nat} (hW : WR D cy b M H) (hk : mK M a = ci) (h2 : ci = 17 ∨ ci = 18) (z : H1.size = H.size) (oq : ∀ q, q ≠ b + a → H1[q]? = H[q]?) (hO : H1[b + a]? = some (arrV (cy ci) (mN M a) (updV (av b M ci a) k (va_rf (ro b v))))) : WR D cy b (sR M a k v) H1 := by
  refine WR_set (a := a) hW (fun _ => rfl) (fun _ => rfl) rfl (fun _ _ => rfl) (fun _ _ => rfl) sR_ne z oq (cok_ar hk (by omega) (hO.trans ?_))
  show some (arrV (cy ci) (mN M a) _) = some (arrV (cy ci) (mN M a) _)
  congr 2
  funext j
  unfold updV av
  have h15 : ¬ ci = 15 := by omega
  rw [sR_at, if_neg h15, if_pos h2, if_neg h15, if_pos h2]
  by_cases hj : j = k
  · rw [if_pos hj, if_pos hj]
  · rw [if_neg hj, if_neg hj]
theorem rwI_ok {g : Nat → Int32} (hW : WR D cy b M H) (hk : mK M a = 14) (z : H1.size = H.size) (oq : ∀ q, q ≠ b + a → H1[q]? = H[q]?) (hO : H1[b + a]? = some (arrV (cy 14) (mN M a) (fun j => .int (g j)))) : WR D cy b (rwI M a g) H1 := by
  refine WR_set (a := a) hW (fun _ => rfl) (fun _ => rfl) rfl (fun x hx => ?_) (fun _ _ => rfl) (fun _ _ => rfl) z oq (cok_ar hk (by omega) (hO.trans ?_))
  · show (if x = a then g else M.2.2.1 x) = _; rw [if_neg hx]; rfl
  · show some (arrV (cy 14) (mN M a) _) = some (arrV (cy 14) (mN M a) _)
    congr 2
    funext j
    show Value.int (g j) = .int ((if a = a then g else M.2.2.1 a) j)
    rw [if_pos rfl]
theorem rwJ_ok {g : Nat → Int64} (hW : WR D cy b M H) (hk : mK M a = 15) (z : H1.size = H.size) (oq : ∀ q, q ≠ b + a → H1[q]? = H[q]?) (hO : H1[b + a]? = some (arrV (cy 15) (mN M a) (fun j => .long (g j)))) : WR D cy b (rwJ M a g) H1 := by
  refine WR_set (a := a) hW (fun _ => rfl) (fun _ => rfl) rfl (fun _ _ => rfl) (fun x hx => ?_) (fun _ _ => rfl) z oq (cok_ar hk (by omega) (hO.trans ?_))
  · show (if x = a then g else M.2.2.2.1 x) = _; rw [if_neg hx]; rfl
  · show some (arrV (cy 15) (mN M a) _) = some (arrV (cy 15) (mN M a) _)
    congr 2
    funext j
    show Value.long (g j) = .long ((if a = a then g else M.2.2.2.1 a) j)
    rw [if_pos rfl]
end
