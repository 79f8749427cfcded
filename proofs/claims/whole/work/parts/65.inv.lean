/-! both sides hold one thing -/
abbrev LN : Type := List (Nat × Nat × Nat)
abbrev NMT : Type := List (List Nat × Nat)
def lK (ln : LN) (i : Nat) : Nat := (ln.getD i (0, 0, 0)).1
def lA (ln : LN) (i : Nat) : Nat := (ln.getD i (0, 0, 0)).2.1
def lB (ln : LN) (i : Nat) : Nat := (ln.getD i (0, 0, 0)).2.2
def LA (I : Nat → Nat → Int32) (ln : LN) : Prop := I 16 0 = nI ln.length ∧ ∀ i, i < ln.length → I 17 i = nI (lK ln i) ∧ (lK ln i ≠ 4 → I 18 i = nI (lA ln i)) ∧ (lK ln i < 3 → I 19 i = nI (lB ln i))
def LB (I : Nat → Nat → Int32) (ln : LN) : Prop := I 260 0 = nI ln.length ∧ ∀ i, i < ln.length → I 260 (1 + 3 * i) = nI (lK ln i) ∧ (lK ln i ≠ 4 → I 260 (2 + 3 * i) = nI (lA ln i)) ∧ (lK ln i < 3 → I 260 (3 + 3 * i) = nI (lB ln i))
def WL (π : PLN) (ln : LN) : Prop := ln.length ≤ 40 ∧ ∀ i, i < ln.length → lK ln i ≤ 4 ∧ (lK ln i = 0 → lA ln i < nP π ∧ lB ln i < nT π) ∧ (lK ln i = 1 → lA ln i < nP π ∧ lB ln i < nP π ∧ lA ln i ≠ lB ln i) ∧ (lK ln i = 2 → lA ln i < nT π ∧ lB ln i < nT π) ∧ (lK ln i = 3 → lA ln i < nT π)
def eB (m : Nat) (w : List Nat) : Nat := w.foldl (fun v c => m * v + c) 0
def wok (w : List Nat) : Prop := 1 ≤ w.length ∧ w.length ≤ 8 ∧ ∀ c ∈ w, 1 ≤ c ∧ c ≤ 26
def nW (nm : NMT) (i : Nat) : List Nat := (nm.getD i ([], 0)).1
def nC (nm : NMT) (i : Nat) : Nat := (nm.getD i ([], 0)).2
def NA (J : Nat → Nat → Int64) (nm : NMT) : Prop := ∀ i, i < nm.length → (nC nm i < 20 → J 8 (nC nm i) = lN (eB 32 (nW nm i))) ∧ (20 ≤ nC nm i → J 11 (nC nm i - 20) = lN (eB 32 (nW nm i)))
def NB (I : Nat → Nat → Int32) (J : Nat → Nat → Int64) (nm : NMT) : Prop := I 247 18 = nI nm.length ∧ ∀ i, i < nm.length → J 256 i = lN (eB 37 (nW nm i)) ∧ I 258 i = nI (nC nm i)
def WN (π : PLN) (nm : NMT) : Prop := nm.length ≤ 12 ∧ (∀ i, i < nm.length → wok (nW nm i) ∧ (nC nm i < nT π ∨ (20 ≤ nC nm i ∧ nC nm i < 20 + nP π))) ∧ (∀ t, t < nT π → ∃ i, i < nm.length ∧ nC nm i = t) ∧ (∀ p, p < nP π → ∃ i, i < nm.length ∧ nC nm i = 20 + p) ∧ (∀ i j, i < nm.length → j < nm.length → nW nm i = nW nm j → i = j) ∧ ∀ i j, i < nm.length → j < nm.length → nC nm i = nC nm j → i = j
def TA (I : Nat → Nat → Int32) (tp : List Nat) : Prop := I 2 0 = nI tp.length ∧ ∀ i, i < tp.length → I 3 i = nI (tp.getD i 0)
def TB (I : Nat → Nat → Int32) (tp : List Nat) : Prop := I 247 2 = nI tp.length ∧ ∀ i, i < tp.length → I 248 i = nI (tp.getD i 0)
def WT (tp : List Nat) : Prop := tp.length ≤ 1000 ∧ ∀ i, i < tp.length → (tp.getD i 0 = 10 ∨ (32 ≤ tp.getD i 0 ∧ tp.getD i 0 ≤ 126))
def wdL : List Nat := [1037892, 609928, 1633, 1119812451, 310968, 30461738, 730246, 12177978, 4003641, 28071, 36016323, 14032492, 30927602, 1273225, 173192972, 122416, 49598629259, 1320124011, 30596128, 6040476, 583696626, 20983, 19741, 1891, 573, 975695, 47109344, 6040484, 204726]
def WC (J : Nat → Nat → Int64) : Prop := ∀ k, k < 29 → J 252 k = lN (wdL.getD k 0)
def CA (r : Nat → Nat) (I : Nat → Nat → Int32) (J : Nat → Nat → Int64) (π : PLN) (σ : ST) (us : List ST) (ms : Nat → Option (ST × FE)) (fe : FE) (ln : LN) (nm : NMT) (tp : List Nat) : Prop := KS I 38 π σ ∧ PA r I π us ∧ MA I π ms ∧ (CF I 231 fe ∧ WF π fe) ∧ (LA I ln ∧ WL π ln) ∧ (NA J nm ∧ WN π nm) ∧ TA I tp ∧ WT tp
def RA (I : Nat → Nat → Int32) (J : Nat → Nat → Int64) (π : PLN) (σ : ST) (us : List ST) (ms : Nat → Option (ST × FE)) (fe : FE) (ln : LN) (nm : NMT) (tp : List Nat) : Prop := KR I 0 π σ ∧ PB I π us ∧ MB I π ms ∧ RF I 0 fe ∧ LB I ln ∧ NB I J nm ∧ TB I tp ∧ WC J
/-- the years -/
def YB (y : Nat) (σ : ST) (us : List ST) (ms : Nat → Option (ST × FE)) : Prop := σ 0 0 ≤ y ∧ (∀ i, i < us.length → us.getD i z0 0 0 ≤ y) ∧ ∀ m x, m < 4 → ms m = some x → x.1 0 0 ≤ y
def PR (y : Nat) (M : mm_M) : Prop := ∃ r I J π σ us ms fe ln nm tp, M = mem r I J ∧ CA r I J π σ us ms fe ln nm tp ∧ RA I J π σ us ms fe ln nm tp ∧ YB y σ us ms
def live (a : Nat) : Prop := (2 ≤ a ∧ a ≤ 14) ∨ (16 ≤ a ∧ a ≤ 19) ∨ (38 ≤ a ∧ a ≤ 45) ∨ (54 ≤ a ∧ a ≤ 233)
def rkeep (I I' : Nat → Nat → Int32) (J J' : Nat → Nat → Int64) : Prop := (∀ a, a ∈ [248, 253, 254, 255, 258, 260, 264] → I' a = I a) ∧ (∀ k, k < 1260 → I' 263 k = I 263 k) ∧ (∀ k, k ∈ [2, 18, 25] → I' 247 k = I 247 k) ∧ J' 252 = J 252 ∧ J' 256 = J 256
section
variable {G : GG} {d : Nat} {P : Int32 → mm_M → Prop} {Pv : mm_M → Prop} {Q : Option Value → mm_M → Prop} {r : Nat → Nat} {I : Nat → Nat → Int32} {J : Nat → Nat → Int64} {π : PLN} {σ : Nat → Nat → Nat} {us : List ST} {fe : FE} {ms : Nat → Option (ST × FE)} {ln : LN} {nm : NMT} {tp : List Nat}
theorem CA.k (h : CA r I J π σ us ms fe ln nm tp) : KS I 38 π σ := h.1
theorem CA.w (h : CA r I J π σ us ms fe ln nm tp) : WP π := h.1.w
theorem CA.pa (h : CA r I J π σ us ms fe ln nm tp) : PA r I π us := h.2.1
theorem CA.ma (h : CA r I J π σ us ms fe ln nm tp) : MA I π ms := h.2.2.1
theorem CA.cf (h : CA r I J π σ us ms fe ln nm tp) : CF I 231 fe := h.2.2.2.1.1
theorem CA.wf (h : CA r I J π σ us ms fe ln nm tp) : WF π fe := h.2.2.2.1.2
theorem CA.la (h : CA r I J π σ us ms fe ln nm tp) : LA I ln := h.2.2.2.2.1.1
theorem CA.wl (h : CA r I J π σ us ms fe ln nm tp) : WL π ln := h.2.2.2.2.1.2
theorem CA.na (h : CA r I J π σ us ms fe ln nm tp) : NA J nm := h.2.2.2.2.2.1.1
theorem CA.wn (h : CA r I J π σ us ms fe ln nm tp) : WN π nm := h.2.2.2.2.2.1.2
theorem CA.ta (h : CA r I J π σ us ms fe ln nm tp) : TA I tp := h.2.2.2.2.2.2.1
theorem CA.wt (h : CA r I J π σ us ms fe ln nm tp) : WT tp := h.2.2.2.2.2.2.2
theorem RA.k (h : RA I J π σ us ms fe ln nm tp) : KR I 0 π σ := h.1
theorem RA.pb (h : RA I J π σ us ms fe ln nm tp) : PB I π us := h.2.1
theorem RA.mb (h : RA I J π σ us ms fe ln nm tp) : MB I π ms := h.2.2.1
theorem RA.rf (h : RA I J π σ us ms fe ln nm tp) : RF I 0 fe := h.2.2.2.1
theorem RA.lb (h : RA I J π σ us ms fe ln nm tp) : LB I ln := h.2.2.2.2.1
theorem RA.nb (h : RA I J π σ us ms fe ln nm tp) : NB I J nm := h.2.2.2.2.2.1
theorem RA.tb (h : RA I J π σ us ms fe ln nm tp) : TB I tp := h.2.2.2.2.2.2.1
theorem RA.wc (h : RA I J π σ us ms fe ln nm tp) : WC J := h.2.2.2.2.2.2.2
theorem MA.len (h : MA I π ms) : ∀ m x, m < 4 → ms m = some x → x.2.length ≤ 8 := fun m x hm e => by
  have := h m hm
  rw [e] at this
  exact this.2.2.2.2.1
theorem CP.keep {I' : Nat → Nat → Int32} (h : CP I π) (hh : ∀ a, 4 ≤ a → a ≤ 14 → I' a = I a) : CP I' π := by
  unfold CP
  rw [hh 4 (by decide) (by decide), hh 5 (by decide) (by decide), hh 6 (by decide) (by decide), hh 7 (by decide) (by decide), hh 9 (by decide) (by decide), hh 10 (by decide) (by decide), hh 12 (by decide) (by decide), hh 13 (by decide) (by decide), hh 14 (by decide) (by decide)]
  exact h
theorem LA.keep {I' : Nat → Nat → Int32} (h : LA I ln) (hh : ∀ a, 16 ≤ a → a ≤ 19 → I' a = I a) : LA I' ln := by
  unfold LA
  rw [hh 16 (by decide) (by decide), hh 17 (by decide) (by decide), hh 18 (by decide) (by decide), hh 19 (by decide) (by decide)]
  exact h
theorem CA.q {I' : Nat → Nat → Int32} {J' : Nat → Nat → Int64} (h : CA r I J π σ us ms fe ln nm tp) (hf : ∀ a, live a → I' a = I a) (h8 : J' 8 = J 8) (h11 : J' 11 = J 11) : CA r I' J' π σ us ms fe ln nm tp := by
  refine ⟨⟨h.k.st, h.k.p.keep (fun a h1 h2 => hf a (by unfold live; omega)), h.w, h.k.c.keep (fun a h1 h2 => hf a (by unfold live; omega)), h.k.v⟩, h.pa.fr (fun a h1 h2 => hf a (by unfold live; omega)), h.ma.fr (hf _ (by unfold live; omega)) (fun a h1 h2 => hf a (by unfold live; omega)), ⟨h.cf.keep (fun a h1 h2 => hf a (by unfold live; omega)), h.wf⟩, ⟨h.la.keep (fun a h1 h2 => hf a (by unfold live; omega)), h.wl⟩, ⟨?_, h.wn⟩, ?_, h.wt⟩
  · unfold NA; rw [h8, h11]; exact h.na
  · unfold TA; rw [hf 2 (by unfold live; omega), hf 3 (by unfold live; omega)]; exact h.ta
theorem RA.q {I' : Nat → Nat → Int32} {J' : Nat → Nat → Int64} (h : RA I J π σ us ms fe ln nm tp) (hl : ∀ m x, m < 4 → ms m = some x → x.2.length ≤ 8) (hfe : fe.length ≤ 8) (hr : rkeep I I' J J') : RA I' J' π σ us ms fe ln nm tp := by
  obtain ⟨h1, h2, h3, h4, h5⟩ := hr
  refine ⟨h.k.keep (fun a ha => h1 a (by simp at ha ⊢; omega)) (fun k _ hk => h2 k (by omega)), h.pb.fr h.k.w (h3 25 (by decide)) (fun k _ hk => h2 k (by omega)), h.mb.fr h.k.w hl (h1 264 (by decide)) (fun k _ hk => h2 k (by omega)), h.rf.keep hfe (fun k _ hk => h2 k (by omega)), ?_, ?_, ?_, ?_⟩
  · unfold LB; rw [h1 260 (by decide)]; exact h.lb
  · unfold NB; rw [h3 18 (by decide), h1 258 (by decide), h5]; exact h.nb
  · unfold TB; rw [h3 2 (by decide), h1 248 (by decide)]; exact h.tb
  · unfold WC; rw [h4]; exact h.wc
theorem CA.hi {I' : Nat → Nat → Int32} {J' : Nat → Nat → Int64} (h : CA r I J π σ us ms fe ln nm tp) (hf : ∀ a, a < 247 → I' a = I a) (hj : ∀ a, a < 247 → J' a = J a) : CA r I' J' π σ us ms fe ln nm tp := h.q (fun a ha => hf a (by unfold live at ha; omega)) (hj 8 (by decide)) (hj 11 (by decide))
theorem rk_lo {I' : Nat → Nat → Int32} {J' : Nat → Nat → Int64} (hf : ∀ a, 247 ≤ a → I' a = I a) (hj : ∀ a, 247 ≤ a → J' a = J a) : rkeep I I' J J' :=
  ⟨fun a ha => hf a (by simp at ha; omega), fun k _ => by rw [hf 263 (by decide)], fun k _ => by rw [hf 247 (by decide)], hj 252 (by decide), hj 256 (by decide)⟩
theorem YB.mono {y y' : Nat} (h : YB y σ us ms) (hy : y ≤ y') : YB y' σ us ms := ⟨Nat.le_trans h.1 hy, fun i hi => Nat.le_trans (h.2.1 i hi) hy, fun m x hm e => Nat.le_trans (h.2.2 m x hm e) hy⟩
/-- behind a question -/
theorem PR_qq {I1 I2 : Nat → Nat → Int32} {y y' : Nat} (hA : CA r I J π σ us ms fe ln nm tp) (hR : RA I J π σ us ms fe ln nm tp) (hY : YB y σ us ms) (hy : y ≤ y') (h1 : Fr [15, 245] I I1) (h2 : Fr [261, 262] (T0 I1) I2) : PR y' (mem r I2 J) := by
  have key : ∀ a, a ∉ [15, 245, 247, 261, 262] → I2 a = I a := fun a ha => by
    rw [h2 a (by simp at ha ⊢; omega)]
    unfold T0
    rw [u2n (by simp at ha; omega), h1 a (by simp at ha ⊢; omega)]
  refine ⟨r, I2, J, π, σ, us, ms, fe, ln, nm, tp, rfl, hA.q (fun a ha => key a (by unfold live at ha; simp; omega)) rfl rfl, hR.q hA.ma.len hA.wf.1 ⟨fun a ha => key a (by simp at ha ⊢; omega), fun k hk => by rw [key 263 (by decide)], fun k hk => ?_, rfl, rfl⟩, hY.mono hy⟩
  rw [h2 247 (by decide)]
  unfold T0
  rw [u2i (by simp at hk; omega), h1 247 (by decide)]
theorem KR.lo {I' : Nat → Nat → Int32} {b : Nat} (h : KR I b π σ) (hf : ∀ a, 247 ≤ a → I' a = I a) : KR I' b π σ := h.keep (fun a ha => hf a (by simp at ha; omega)) (fun k _ _ => by rw [hf 263 (by decide)])
theorem Fr15 {I' : Nat → Nat → Int32} (h : Fr [15, 245] I I') : ∀ a, 247 ≤ a → I' a = I a := fun a ha => h a (by simp; omega)
/-- a pair of calls that answer alike -/
def EQ (G : GG) (d j j' y : Nat) (as : List Value) (M : mm_M) : Prop := CI G d j (.ref 1 :: as) M (fun v N => mK N 247 = 12 ∧ CI G d j' (.ref 247 :: as) N (fun w N' => v = w ∧ PR (y + 1) N'))
end
