/-! questions are answered alike -/
section
variable {G : GG} {d y : Nat} {M : mm_M}
theorem L112 (h : PR y M) (x w : Int32) : EQ G (d + 40) 112 202 y [.int x, .int w] M := by
  obtain ⟨r, I, J, π, σ, us, ms, fe, ln, nm, tp, rfl, hA, hR, hY⟩ := h
  have hT := hA.w.t
  by_cases q : 0 ≤ x ∧ x < nI (nT π)
  · obtain ⟨t, ht, rfl⟩ := inR (by omega) q
    exact d112 hA.k ht (fun I1 hf1 => ⟨rfl, m202 (hR.k.lo (Fr15 hf1)) ht (fun I2 hf2 => ⟨rfl, PR_qq hA hR hY (by omega) hf1 hf2⟩)⟩)
  · exact d112o hA.k q ⟨rfl, m202o hR.k q ⟨rfl, PR_qq hA hR hY (by omega) Fr.rfl Fr.rfl⟩⟩
theorem L113 (h : PR y M) (x w : Int32) : EQ G (d + 40) 113 211 y [.int x, .int w] M := by
  obtain ⟨r, I, J, π, σ, us, ms, fe, ln, nm, tp, rfl, hA, hR, hY⟩ := h
  have hP := hA.w.p
  by_cases q : 0 ≤ x ∧ x < nI (nP π)
  · obtain ⟨t, ht, rfl⟩ := inR (by omega) q
    exact d113 hA.k ht ⟨rfl, m211 hR.k ht ⟨rfl, PR_qq hA hR hY (by omega) Fr.rfl Fr.rfl⟩⟩
  · exact d113o hA.k q ⟨rfl, m211o hR.k q ⟨rfl, PR_qq hA hR hY (by omega) Fr.rfl Fr.rfl⟩⟩
theorem L114 (h : PR y M) (x w : Int32) : EQ G (d + 40) 114 213 y [.int x, .int w] M := by
  obtain ⟨r, I, J, π, σ, us, ms, fe, ln, nm, tp, rfl, hA, hR, hY⟩ := h
  have hP := hA.w.p
  have hT := hA.w.t
  by_cases q : (0 ≤ x ∧ x < nI (nP π)) ∧ (0 ≤ w ∧ w < nI (nT π))
  · obtain ⟨p, hp, rfl⟩ := inR (by omega) q.1
    obtain ⟨t, ht, rfl⟩ := inR (by omega) q.2
    exact d114 hA.k hp ht (fun I1 hf1 => ⟨rfl, m213 (hR.k.lo (Fr15 hf1)) hp ht (fun I2 hf2 => ⟨rfl, PR_qq hA hR hY (by omega) hf1 hf2⟩)⟩)
  · exact d114o hA.k q ⟨rfl, m213o hR.k q ⟨rfl, PR_qq hA hR hY (by omega) Fr.rfl Fr.rfl⟩⟩
theorem L122 (h : PR y M) (x : Int32) : EQ G (d + 40) 122 236 y [.int x] M := by
  obtain ⟨r, I, J, π, σ, us, ms, fe, ln, nm, tp, rfl, hA, hR, hY⟩ := h
  have hP := hA.w.p
  by_cases q : 0 ≤ x ∧ x < nI (nP π)
  · obtain ⟨t, ht, rfl⟩ := inR (by omega) q
    exact d122 hA.k ht (fun I1 hf1 => ⟨rfl, m236 (hR.k.lo (Fr15 hf1)) ht (fun I2 hf2 => ⟨rfl, PR_qq hA hR hY (by omega) hf1 hf2⟩)⟩)
  · exact d122o hA.k q ⟨rfl, m236o hR.k q ⟨rfl, PR_qq hA hR hY (by omega) Fr.rfl Fr.rfl⟩⟩
theorem L125 (h : PR y M) (x : Int32) : EQ G (d + 40) 125 238 y [.int x] M := by
  obtain ⟨r, I, J, π, σ, us, ms, fe, ln, nm, tp, rfl, hA, hR, hY⟩ := h
  have hT := hA.w.t
  by_cases q : 0 ≤ x ∧ x < nI (nT π)
  · obtain ⟨t, ht, rfl⟩ := inR (by omega) q
    exact d125 hA.k ht (fun I1 hf1 => ⟨rfl, m238 (hR.k.lo (Fr15 hf1)) ht (fun I2 hf2 => ⟨rfl, PR_qq hA hR hY (by omega) hf1 hf2⟩)⟩)
  · exact d125o hA.k q ⟨rfl, m238o hR.k q ⟨rfl, PR_qq hA hR hY (by omega) Fr.rfl Fr.rfl⟩⟩
theorem L148 (h : PR y M) (x : Int32) : EQ G (d + 40) 148 253 y [.int x] M := by
  obtain ⟨r, I, J, π, σ, us, ms, fe, ln, nm, tp, rfl, hA, hR, hY⟩ := h
  have hP := hA.w.p
  by_cases q : 0 ≤ x ∧ x < nI (nP π)
  · obtain ⟨t, ht, rfl⟩ := inR (by omega) q
    exact d148 hA.k ht (fun I1 hf1 => ⟨rfl, m253 (hR.k.lo (Fr15 hf1)) ht (fun I2 hf2 => ⟨rfl, PR_qq hA hR hY (by omega) hf1 hf2⟩)⟩)
  · exact d148o hA.k q ⟨rfl, m253o hR.k q ⟨rfl, PR_qq hA hR hY (by omega) Fr.rfl Fr.rfl⟩⟩
theorem L143 (h : PR y M) : EQ G (d + 40) 143 259 y [] M := by
  obtain ⟨r, I, J, π, σ, us, ms, fe, ln, nm, tp, rfl, hA, hR, hY⟩ := h
  exact d143 hA.k (fun I1 hf1 => ⟨rfl, m259 (hR.k.lo (Fr15 hf1)) (fun I2 hf2 => ⟨rfl, PR_qq hA hR hY (by omega) hf1 hf2⟩)⟩)
theorem L144 (h : PR y M) : EQ G (d + 40) 144 260 y [] M := by
  obtain ⟨r, I, J, π, σ, us, ms, fe, ln, nm, tp, rfl, hA, hR, hY⟩ := h
  exact d144 hA.k (fun I1 hf1 => ⟨rfl, m260 (hR.k.lo (Fr15 hf1)) (fun I2 hf2 => ⟨rfl, PR_qq hA hR hY (by omega) hf1 hf2⟩)⟩)
theorem L145 (h : PR y M) : EQ G (d + 40) 145 261 y [] M := by
  obtain ⟨r, I, J, π, σ, us, ms, fe, ln, nm, tp, rfl, hA, hR, hY⟩ := h
  exact d145 hA.k (fun I1 hf1 => ⟨rfl, m261 (hR.k.lo (Fr15 hf1)) (fun I2 hf2 => ⟨rfl, PR_qq hA hR hY (by omega) hf1 hf2⟩)⟩)
theorem L146 (h : PR y M) : EQ G (d + 40) 146 262 y [] M := by
  obtain ⟨r, I, J, π, σ, us, ms, fe, ln, nm, tp, rfl, hA, hR, hY⟩ := h
  exact d146 hA.k (fun I1 hf1 => ⟨rfl, m262 (hR.k.lo (Fr15 hf1)) (fun I2 hf2 => ⟨rfl, PR_qq hA hR hY (by omega) hf1 hf2⟩)⟩)
theorem L147 (h : PR y M) : EQ G (d + 40) 147 263 y [] M := by
  obtain ⟨r, I, J, π, σ, us, ms, fe, ln, nm, tp, rfl, hA, hR, hY⟩ := h
  exact d147 hA.k (fun I1 hf1 => ⟨rfl, m263 (hR.k.lo (Fr15 hf1)) (fun I2 hf2 => ⟨rfl, PR_qq hA hR hY (by omega) hf1 hf2⟩)⟩)
end
/-! the counts -/
def vCnt (π : PLN) (σ : ST) (us : List ST) (fe : FE) (ln : LN) (tp : List Nat) (w : Int32) : Int32 := if w = 0 then nI (nT π) else if w = 1 then nI (nP π) else if w = 2 then nI (π.1 2 0) else if w = 3 then nI (π.1 3 0) else if w = 4 then nI (σ 0 0) else if w = 5 then nI (frF π (σ 0 0)) else if w = 6 then nI (setF (bearF π (σ 0 0)) (nT π)) else if w = 7 then nI (shodS π σ) else if w = 8 then nI (roadF π σ (nP π)) else if w = 9 then nI ln.length else if w = 10 then nI fe.length else if w = 11 then nI us.length else if w = 12 then nI tp.length else -1
section
variable {G : GG} {d : Nat} {P : Int32 → mm_M → Prop} {Pv : mm_M → Prop} {Q : Option Value → mm_M → Prop} {r : Nat → Nat} {I : Nat → Nat → Int32} {J : Nat → Nat → Int64} {π : PLN} {σ : Nat → Nat → Nat} {us : List ST} {fe : FE} {ms : Nat → Option (ST × FE)} {ln : LN} {nm : NMT} {tp : List Nat}
theorem d155 {w : Int32} (hA : CA r I J π σ us ms fe ln nm tp) (h : P (vCnt π σ us fe ln tp w) (mem r I J)) : CI G (d + 6) 155 [.ref 1, .int w] (mem r I J) P := by
  have hy := hA.k.v.1
  unfold vCnt at h
  refine e155 ?_
  simp only [mKm, mNm, mIm, mIf, mJm, mJf, mRm, sIm, sJm, rwIm, rwJm, kN, nN, rN, true_and, hA.k.p.n2, hA.k.p.n3, hA.k.r0, hA.la.1, hA.cf.1, hA.pa.1, hA.ta.1]
  refine ifb (fun q => by rw [if_pos q] at h; refine x155_68 ?_; simp only [mKm, mNm, mIm, mIf, mJm, mJf, mRm, sIm, sJm, rwIm, rwJm, kN, nN, rN, true_and, hA.k.p.n0]; exact ⟨_, rfl, h⟩) (fun q => ?_); rw [if_neg q] at h
  refine ifb (fun q => by rw [if_pos q] at h; refine x155_76 ?_; simp only [mKm, mNm, mIm, mIf, mJm, mJf, mRm, sIm, sJm, rwIm, rwJm, kN, nN, rN, true_and, hA.k.p.n1]; exact ⟨_, rfl, h⟩) (fun q => ?_); rw [if_neg q] at h
  refine ifb (fun q => by rw [if_pos q] at h; exact h) (fun q => ?_); rw [if_neg q] at h
  refine ifb (fun q => by rw [if_pos q] at h; exact h) (fun q => ?_); rw [if_neg q] at h
  refine ifb (fun q => by rw [if_pos q] at h; exact h) (fun q => ?_); rw [if_neg q] at h
  refine ifb (fun q => by rw [if_pos q] at h; refine x155_108 ?_; simp only [mKm, mNm, mIm, mIf, mJm, mJf, mRm, sIm, sJm, rwIm, rwJm, kN, nN, rN, true_and, hA.k.r0]; exact d55 hA.k.p hA.w (by omega) ⟨_, rfl, h⟩) (fun q => ?_); rw [if_neg q] at h
  refine ifb (fun q => by rw [if_pos q] at h; exact d85 hA.k h) (fun q => ?_); rw [if_neg q] at h
  refine ifb (fun q => by rw [if_pos q] at h; exact d86 hA.k h) (fun q => ?_); rw [if_neg q] at h
  refine ifb (fun q => by rw [if_pos q] at h; exact d84 hA.k h) (fun q => ?_); rw [if_neg q] at h
  refine ifb (fun q => by rw [if_pos q] at h; exact h) (fun q => ?_); rw [if_neg q] at h
  refine ifb (fun q => by rw [if_pos q] at h; exact h) (fun q => ?_); rw [if_neg q] at h
  refine ifb (fun q => by rw [if_pos q] at h; exact h) (fun q => ?_); rw [if_neg q] at h
  refine ifb (fun q => by rw [if_pos q] at h; exact h) (fun q => ?_); rw [if_neg q] at h
  exact h
theorem m271 {w : Int32} (hR : RA I J π σ us ms fe ln nm tp) (h : P (vCnt π σ us fe ln tp w) (mem r (T0 I) J)) : CI G (d + 6) 271 [.ref 247, .int w] (mem r I J) P := by
  have hk := hR.k.t0
  unfold vCnt at h
  have e0 : u2 I 247 0 0 263 0 = nI (σ 0 0) := hk.r0
  have e9 : u2 I 247 0 0 260 0 = nI ln.length := by rw [u2n (by decide)]; exact hR.lb.1
  have e10 : u2 I 247 0 0 263 43 = nI fe.length := by rw [u2n (by decide)]; exact hR.rf.1
  have e11 : u2 I 247 0 0 247 25 = nI us.length := by rw [u2i (by decide)]; exact hR.pb.1
  have e12 : u2 I 247 0 0 247 2 = nI tp.length := by rw [u2i (by decide)]; exact hR.tb.1
  have go : ∀ n : Nat, n < 4 → w = nI n → P (T0 I 253 n) (mem r (T0 I) J) → XX G (d + 5) (some .int) P271 (QI P) 72 [.ref 247, .int w] [] (mem r (u2 I 247 0 0) J) := fun n hn e hh => by
    subst e
    refine x271_72 ?_
    simp only [mKm, mNm, mIm, mIf, mJm, mJf, mRm, sIm, sJm, rwIm, rwJm, kN, nN, rN, true_and, ix (show n < 100 by omega) (by decide)]
    exact ⟨_, rfl, hh⟩
  refine e271 ?_
  simp only [mKm, mNm, mIm, mIf, mJm, mJf, mRm, sIm, sJm, rwIm, rwJm, kN, nN, rN, true_and, e0, e9, e10, e11, e12, ix0 (show 0 < 1380 by decide), ix0 (show 0 < 250 by decide)]
  refine ifb (fun q => by rw [if_pos q] at h; exact go 0 (by decide) q (by rw [hk.p.n0]; exact h)) (fun q => ?_); rw [if_neg q] at h
  refine ifb (fun q => by rw [if_pos q] at h; exact go 1 (by decide) q (by rw [hk.p.n1]; exact h)) (fun q => ?_); rw [if_neg q] at h
  refine ifb (fun q => by rw [if_pos q] at h; exact go 2 (by decide) q (by rw [hk.p.n2]; exact h)) (fun q => ?_); rw [if_neg q] at h
  refine ifb (fun q => by rw [if_pos q] at h; exact go 3 (by decide) q (by rw [hk.p.n3]; exact h)) (fun q => ?_); rw [if_neg q] at h
  refine ifb (fun q => by rw [if_pos q] at h; exact h) (fun q => ?_); rw [if_neg q] at h
  refine ifb (fun q => by rw [if_pos q] at h; exact m205 (b := 0) hk h) (fun q => ?_); rw [if_neg q] at h
  refine ifb (fun q => by rw [if_pos q] at h; exact m272 hk h) (fun q => ?_); rw [if_neg q] at h
  refine ifb (fun q => by rw [if_pos q] at h; exact m245 (b := 0) hk h) (fun q => ?_); rw [if_neg q] at h
  refine ifb (fun q => by rw [if_pos q] at h; exact m235 (b := 0) hk h) (fun q => ?_); rw [if_neg q] at h
  refine ifb (fun q => by rw [if_pos q] at h; exact h) (fun q => ?_); rw [if_neg q] at h
  refine ifb (fun q => by rw [if_pos q] at h; exact ⟨ixl (n := 43) rfl (by decide) (by decide), h⟩) (fun q => ?_); rw [if_neg q] at h
  refine ifb (fun q => by rw [if_pos q] at h; exact h) (fun q => ?_); rw [if_neg q] at h
  refine ifb (fun q => by rw [if_pos q] at h; exact h) (fun q => ?_); rw [if_neg q] at h
  exact h
theorem L155 {y : Nat} {M : mm_M} (h : PR y M) (w : Int32) : EQ G (d + 40) 155 271 y [.int w] M := by
  obtain ⟨r, I, J, π, σ, us, ms, fe, ln, nm, tp, rfl, hA, hR, hY⟩ := h
  exact d155 hA ⟨rfl, m271 hR ⟨rfl, PR_qq hA hR hY (by omega) Fr.rfl Fr.rfl⟩⟩
/-! general frames -/
theorem PR_g {I1 I2 : Nat → Nat → Int32} {J1 J2 : Nat → Nat → Int64} {y y' : Nat} (hA : CA r I J π σ us ms fe ln nm tp) (hR : RA I J π σ us ms fe ln nm tp) (hY : YB y σ us ms) (hy : y ≤ y') (h1 : ∀ a, live a ∨ 247 ≤ a → I1 a = I a) (j1 : ∀ a, a = 8 ∨ a = 11 ∨ 247 ≤ a → J1 a = J a) (h2 : ∀ a, a < 247 → I2 a = I1 a) (j2 : ∀ a, a < 247 → J2 a = J1 a) (h3 : rkeep I1 I2 J1 J2) : PR y' (mem r I2 J2) := by
  refine ⟨r, I2, J2, π, σ, us, ms, fe, ln, nm, tp, rfl, hA.q (fun a ha => ?_) ?_ ?_, hR.q hA.ma.len hA.wf.1 ⟨fun a ha => ?_, fun k hk => ?_, fun k hk => ?_, ?_, ?_⟩, hY.mono hy⟩
  · rw [h2 a (by unfold live at ha; omega)]; exact h1 a (Or.inl ha)
  · rw [j2 8 (by decide)]; exact j1 8 (by decide)
  · rw [j2 11 (by decide)]; exact j1 11 (by decide)
  · rw [h3.1 a ha]; exact h1 a (Or.inr (by simp at ha; omega))
  · rw [h3.2.1 k hk, h1 263 (Or.inr (by decide))]
  · rw [h3.2.2.1 k hk, h1 247 (Or.inr (by decide))]
  · rw [h3.2.2.2.1]; exact j1 252 (by decide)
  · rw [h3.2.2.2.2]; exact j1 256 (by decide)
def scT : List Nat := [46, 47, 48, 49, 50, 51, 52, 53, 15, 245]
theorem scT_no {a : Nat} (h : live a ∨ 247 ≤ a) : a ∉ scT := by unfold live at h; simp [scT]; omega
/-- rows of the trial on the other side -/
def FT (b : Nat) (I I' : Nat → Nat → Int32) : Prop := Fs b (T0 I) I'
theorem FT.keep {b : Nat} {I' : Nat → Nat → Int32} (hb : 1260 ≤ b) (h : FT b I I') : rkeep I I' J J := by
  refine ⟨fun a ha => ?_, fun k hk => ?_, fun k hk => ?_, rfl, rfl⟩
  · rw [h.1 a (by simp at ha ⊢; omega)]; exact u2n (by simp at ha; omega)
  · rw [h.2 k (by omega)]; unfold T0; rw [u2n (by decide)]
  · rw [h.1 247 (by decide)]; unfold T0; rw [u2i (by simp at hk; omega)]
theorem FT.lo {b : Nat} {I' : Nat → Nat → Int32} (h : FT b I I') : ∀ a, a < 247 → I' a = I a := fun a ha => by
  rw [h.1 a (by simp; omega)]; exact u2n (by omega)
theorem PR_t {I1 I2 : Nat → Nat → Int32} {y y' b : Nat} (hA : CA r I J π σ us ms fe ln nm tp) (hR : RA I J π σ us ms fe ln nm tp) (hY : YB y σ us ms) (hy : y ≤ y') (h1 : Fr scT I I1) (hb : 1260 ≤ b) (h2 : FT b I1 I2) : PR y' (mem r I2 J) :=
  PR_g hA hR hY hy (fun a ha => h1 a (scT_no ha)) (fun _ _ => rfl) h2.lo (fun _ _ => rfl) (h2.keep hb)
theorem sc_hi {I' : Nat → Nat → Int32} (h : Fr scT I I') : ∀ a, 247 ≤ a → I' a = I a := fun a ha => h a (scT_no (Or.inr ha))
theorem sl_sc {I1 I' : Nat → Nat → Int32} (h : Fr scT I I1) (h' : Fr (sl 46) I1 I') : Fr scT I I' := h.trans (h'.mono (by simp [sl, scT]))
theorem q_sc {I1 I' : Nat → Nat → Int32} (h : Fr scT I I1) (h' : Fr [15, 245] I1 I') : Fr scT I I' := h.trans (h'.mono (by simp [scT]))
/-! in how many years -/
def whV (π : PLN) (p : Nat) : Nat → ST → Nat → Int32
  | 0, _, _ => -1
  | f + 1, σ, k => if setF (fitF π σ p) (nT π) = 0 then whV π p f (yearF π σ) (k + 1) else nI k
theorem d137 {p : Nat} (hk : KS I 38 π σ) (hp : p < nP π) (hy : σ 0 0 ≤ 10000) (h : ∀ I', Fr scT I I' → P (whV π p 41 σ 0) (mem r I' J)) : CI G (d + 8) 137 [.ref 1, .int (nI p)] (mem r I J) P := by
  have hT := hk.w.t
  refine e137 ?_
  simp only [mKm, mNm, mIm, mIf, mJm, mJf, mRm, sIm, sJm, rwIm, rwJm, kN, nN, rN, true_and]
  refine d58 hk.p hk.w hp (ifp (by decide) ?_)
  simp only [mKm, mNm, mIm, mIf, mJm, mJf, mRm, sIm, sJm, rwIm, rwJm, kN, nN, rN, true_and]
  refine d75k hk (s := 46) (by decide) (by decide) (fun I1 hf1 hk1 => ?_)
  have loop : ∀ f k (τ : ST) (I2 : Nat → Nat → Int32), k + f = 41 → Fr scT I I2 → KS I2 46 π τ → τ 0 0 = σ 0 0 + k → (∀ I', Fr scT I I' → P (whV π p f τ k) (mem r I' J)) → XX G (d + 7) (some .int) P137 (QI P) 26 [.ref 1, .int (nI p), .int (nI k)] [] (mem r I2 J) := by
    intro f
    induction f with
    | zero =>
      intro k τ I2 hkf hf hk2 _ hh
      refine x137_26 (ifp (show nI 40 < nI k from nI_lt (by omega) (by omega)) ⟨_, rfl, hh I2 hf⟩)
    | succ f ih =>
      intro k τ I2 hkf hf hk2 ey hh
      refine x137_26 (ifn (show ¬ nI 40 < nI k from nI_nlt (by omega) (by decide)) ?_)
      simp only [mKm, mNm, mIm, mIf, mJm, mJf, mRm, sIm, sJm, rwIm, rwJm, kN, nN, rN, true_and]
      refine d123 hk2 (fun I3 hf3 hz => ?_)
      simp only [mKm, mNm, mIm, mIf, mJm, mJf, mRm, sIm, sJm, rwIm, rwJm, kN, nN, rN, true_and]
      have hk3 := hk2.fq hf3
      refine d124 hk3 hz hp ?_
      have hw : setF (fitF π τ p) (nT π) < 2 ^ 6 := setF_le _ hT
      unfold whV at hh
      by_cases q : setF (fitF π τ p) (nT π) = 0
      · rw [q]
        simp only [if_pos q] at hh
        refine ifp rfl ?_
        simp only [mKm, mNm, mIm, mIf, mJm, mJf, mRm, sIm, sJm, rwIm, rwJm, kN, nN, rN, true_and]
        refine d82 hk3 (by omega) (fun I4 hf4 hk4 => ?_)
        rw [nI_1]
        exact ih (k + 1) _ I4 (by omega) (sl_sc (q_sc hf hf3) hf4) hk4 (by show τ 0 0 + 1 = _; omega) hh
      · simp only [if_neg q] at hh
        exact ifn (nI_ne0 (by omega) (by omega)) ⟨_, rfl, hh I3 (q_sc hf hf3)⟩
  exact loop 41 0 σ I1 (by decide) (sl_sc Fr.rfl hf1) hk1 (by omega) h
theorem d137o {x : Int32} (hk : KS I 38 π σ) (hx : ¬ (0 ≤ x ∧ x < nI (nP π))) (h : P (-1) (mem r I J)) : CI G (d + 8) 137 [.ref 1, .int x] (mem r I J) P := by
  refine e137 ?_
  simp only [mKm, mNm, mIm, mIf, mJm, mJf, mRm, sIm, sJm, rwIm, rwJm, kN, nN, rN, true_and]
  exact d58o hk.p hx (ifn (fun z => z rfl) h)
theorem m251 {p : Nat} (hk : KR I 0 π σ) (hp : p < nP π) (hy : σ 0 0 ≤ 10000) (h : ∀ I', FT 1260 I I' → P (whV π p 41 σ 0) (mem r I' J)) : CI G (d + 8) 251 [.ref 247, .int (nI p)] (mem r I J) P := by
  have hT := hk.w.t
  refine e251 ?_
  simp only [mKm, mNm, mIm, mIf, mJm, mJf, mRm, sIm, sJm, rwIm, rwJm, kN, nN, rN, true_and]
  refine m220k (b := 0) (t := 1260) hk.t0 (by decide) (by decide) (fun I1 hf1 hk1 => ?_)
  have loop : ∀ f k (τ : ST) (I2 : Nat → Nat → Int32), k + f = 41 → FT 1260 I I2 → KR I2 1260 π τ → τ 0 0 = σ 0 0 + k → (∀ I', FT 1260 I I' → P (whV π p f τ k) (mem r I' J)) → XX G (d + 7) (some .int) P251 (QI P) 17 [.ref 247, .int (nI p), .int (nI k)] [] (mem r I2 J) := by
    intro f
    induction f with
    | zero =>
      intro k τ I2 hkf hf hk2 _ hh
      refine x251_17 (ifp (show nI 40 < nI k from nI_lt (by omega) (by omega)) ⟨_, rfl, hh I2 hf⟩)
    | succ f ih =>
      intro k τ I2 hkf hf hk2 ey hh
      refine x251_17 (ifn (show ¬ nI 40 < nI k from nI_nlt (by omega) (by decide)) ?_)
      simp only [mKm, mNm, mIm, mIf, mJm, mJf, mRm, sIm, sJm, rwIm, rwJm, kN, nN, rN, true_and]
      refine m212 hk2.p hk2.w hp (ifn (by decide) ?_)
      simp only [mKm, mNm, mIm, mIf, mJm, mJf, mRm, sIm, sJm, rwIm, rwJm, kN, nN, rN, true_and]
      refine m237 (b := 1260) hk2 hp (fun I3 hf3 => ?_)
      have hk3 := hk2.fr hf3
      have hw : setF (fitF π τ p) (nT π) < 2 ^ 6 := setF_le _ hT
      unfold whV at hh
      by_cases q : setF (fitF π τ p) (nT π) = 0
      · rw [q]
        simp only [if_pos q] at hh
        refine ifp rfl ?_
        simp only [mKm, mNm, mIm, mIf, mJm, mJf, mRm, sIm, sJm, rwIm, rwJm, kN, nN, rN, true_and]
        refine m205 (b := 1260) hk3 ?_
        simp only [mKm, mNm, mIm, mIf, mJm, mJf, mRm, sIm, sJm, rwIm, rwJm, kN, nN, rN, true_and]
        refine m232 (b := 1260) hk3 (frF_le hk3.w _) (by omega) (fun I4 hf4 hk4 => ?_)
        rw [nI_1]
        exact ih (k + 1) _ I4 (by omega) ((Fs.fr hf hf3).trans hf4) hk4 (by show τ 0 0 + 1 = _; omega) hh
      · simp only [if_neg q] at hh
        exact ifn (nI_ne0 (by omega) (by omega)) ⟨_, rfl, hh I3 (Fs.fr hf hf3)⟩
  exact loop 41 0 σ I1 (by decide) hf1 hk1 (by omega) h
theorem m251o {x : Int32} (hk : KR I 0 π σ) (hx : ¬ (0 ≤ x ∧ x < nI (nP π))) (h : ∀ I', FT 1260 I I' → P (-1) (mem r I' J)) : CI G (d + 8) 251 [.ref 247, .int x] (mem r I J) P := by
  refine e251 ?_
  simp only [mKm, mNm, mIm, mIf, mJm, mJf, mRm, sIm, sJm, rwIm, rwJm, kN, nN, rN, true_and]
  refine m220k (b := 0) (t := 1260) hk.t0 (by decide) (by decide) (fun I1 hf1 hk1 => x251_17 (ifn (by decide) ?_))
  simp only [mKm, mNm, mIm, mIf, mJm, mJf, mRm, sIm, sJm, rwIm, rwJm, kN, nN, rN, true_and]
  exact m212o hk1.p hx (ifp rfl ⟨_, rfl, h I1 hf1⟩)
theorem L137 {y : Nat} {M : mm_M} (h : PR y M) (hy : y ≤ 5000) (x : Int32) : EQ G (d + 40) 137 251 y [.int x] M := by
  obtain ⟨r, I, J, π, σ, us, ms, fe, ln, nm, tp, rfl, hA, hR, hY⟩ := h
  have hP := hA.w.p
  have h0 := hY.1
  by_cases q : 0 ≤ x ∧ x < nI (nP π)
  · obtain ⟨t, ht, rfl⟩ := inR (by omega) q
    exact d137 hA.k ht (by omega) (fun I1 hf1 => ⟨rfl, m251 (hR.k.lo (sc_hi hf1)) ht (by omega) (fun I2 hf2 => ⟨rfl, PR_t hA hR hY (by omega) hf1 (by decide) hf2⟩)⟩)
  · exact d137o hA.k q ⟨rfl, m251o hR.k q (fun I2 hf2 => ⟨rfl, PR_t hA hR hY (by omega) Fr.rfl (by decide) hf2⟩)⟩
/-! later -/
def itY (π : PLN) : Nat → ST → ST
  | 0, σ => σ
  | n + 1, σ => yearF π (itY π n σ)
theorem itY_0 (π : PLN) (σ : ST) : ∀ n, itY π n σ 0 0 = σ 0 0 + n := by
  intro n
  induction n with
  | zero => rfl
  | succ n ih => show itY π n σ 0 0 + 1 = _; omega
def latV (π : PLN) (σ : ST) (t : Nat) : Int32 := if bearF π (σ 0 0) t then nI (szF π (σ 1 t) (σ 2 t) (σ 0 0)) else -1
theorem d138 {t n : Nat} (hk : KS I 38 π σ) (ht : t < nT π) (hn : n ≤ 40) (hy : σ 0 0 ≤ 10000) (h : ∀ I', Fr scT I I' → P (latV π (itY π n σ) t) (mem r I' J)) : CI G (d + 8) 138 [.ref 1, .int (nI t), .int (nI n)] (mem r I J) P := by
  refine e138 ?_
  simp only [mKm, mNm, mIm, mIf, mJm, mJf, mRm, sIm, sJm, rwIm, rwJm, kN, nN, rN, true_and]
  refine d54 hk.p hk.w ht (ifn (by decide) (ifn (nI_pos (by omega)) (ifp (show nI n ≤ nI 40 from nI_le hn (by decide)) ?_)))
  simp only [mKm, mNm, mIm, mIf, mJm, mJf, mRm, sIm, sJm, rwIm, rwJm, kN, nN, rN, true_and]
  refine d75k hk (s := 46) (by decide) (by decide) (fun I1 hf1 hk1 => ?_)
  refine lp (n := n) (X := fun k => ∀ I', Fr scT I I' → KS I' 46 π (itY π k σ) → XX G (d + 7) (some .int) P138 (QI P) 36 [.ref 1, .int (nI t), .int (nI n), .int (nI k)] [] (mem r I' J)) (fun I2 hf2 hk2 => ?_) (fun k hkn ih I2 hf2 hk2 => ?_) I1 (sl_sc Fr.rfl hf1) hk1
  · refine x138_36 (ifp (nI_le (Nat.le_refl _) (by omega)) ?_)
    simp only [mKm, mNm, mIm, mIf, mJm, mJf, mRm, sIm, sJm, rwIm, rwJm, kN, nN, rN, true_and]
    exact d70 hk2 ht (fun I3 hf3 => ⟨_, rfl, h I3 (q_sc hf2 (hf3.mono (by simp)))⟩)
  · refine x138_36 (ifn (nI_ge hkn (by omega)) ?_)
    simp only [mKm, mNm, mIm, mIf, mJm, mJf, mRm, sIm, sJm, rwIm, rwJm, kN, nN, rN, true_and]
    refine d82 hk2 (by rw [itY_0]; omega) (fun I3 hf3 hk3 => ?_)
    rw [nI_1]
    exact ih I3 (sl_sc hf2 hf3) hk3
theorem d138o {x w : Int32} (hk : KS I 38 π σ) (hx : ¬ ((0 ≤ x ∧ x < nI (nT π)) ∧ (0 ≤ w ∧ w ≤ 40))) (h : P (-1) (mem r I J)) : CI G (d + 8) 138 [.ref 1, .int x, .int w] (mem r I J) P := by
  have hT := hk.w.t
  refine e138 ?_
  simp only [mKm, mNm, mIm, mIf, mJm, mJf, mRm, sIm, sJm, rwIm, rwJm, kN, nN, rN, true_and]
  by_cases q : 0 ≤ x ∧ x < nI (nT π)
  · obtain ⟨t, ht, rfl⟩ := inR (by omega) q
    refine d54 hk.p hk.w ht (ifn (by decide) (ifb (fun _ => h) (fun q2 => ifn (fun q3 => hx ⟨q, Int32.not_lt.mp q2, q3⟩) h)))
  · exact d54o hk.p q (ifp rfl h)
theorem m252 {t n : Nat} (hk : KR I 0 π σ) (ht : t < nT π) (hn : n ≤ 40) (hy : σ 0 0 ≤ 10000) (h : ∀ I', FT 1260 I I' → P (latV π (itY π n σ) t) (mem r I' J)) : CI G (d + 8) 252 [.ref 247, .int (nI t), .int (nI n)] (mem r I J) P := by
  have hk0 := hk.t0
  refine e252 ?_
  simp only [mKm, mNm, mIm, mIf, mJm, mJf, mRm, sIm, sJm, rwIm, rwJm, kN, nN, rN, true_and]
  refine m203 hk0.p hk0.w ht (ifn (by decide) (m201 ?_))
  rw [if_pos ⟨nI_pos' (by omega), show nI n ≤ nI 40 from nI_le hn (by decide)⟩]
  refine ifp (by decide) ?_
  simp only [mKm, mNm, mIm, mIf, mJm, mJf, mRm, sIm, sJm, rwIm, rwJm, kN, nN, rN, true_and]
  refine m220k (b := 0) (t := 1260) hk0 (by decide) (by decide) (fun I1 hf1 hk1 => ?_)
  refine lp (n := n) (X := fun k => ∀ I', FT 1260 I I' → KR I' 1260 π (itY π k σ) → XX G (d + 7) (some .int) P252 (QI P) 37 [.ref 247, .int (nI t), .int (nI n), .int (nI k)] [] (mem r I' J)) (fun I2 hf2 hk2 => ?_) (fun k hkn ih I2 hf2 hk2 => ?_) I1 hf1 hk1
  · refine x252_37 (ifp (nI_le (Nat.le_refl _) (by omega)) ?_)
    simp only [mKm, mNm, mIm, mIf, mJm, mJf, mRm, sIm, sJm, rwIm, rwJm, kN, nN, rN, true_and]
    refine m204 (b := 1260) hk2 ht ?_
    unfold latV at h
    by_cases q : bearF π (itY π n σ 0 0) t = true
    · simp only [if_pos q] at h ⊢
      refine ifn (by decide) ?_
      simp only [mKm, mNm, mIm, mIf, mJm, mJf, mRm, sIm, sJm, rwIm, rwJm, kN, nN, rN, true_and]
      exact m207 (b := 1260) hk2 ht (fun I3 hf3 => ⟨_, rfl, h I3 (Fs.fr hf2 hf3)⟩)
    · simp only [if_neg q] at h ⊢
      exact ifp trivial ⟨_, rfl, h I2 hf2⟩
  · refine x252_37 (ifn (nI_ge hkn (by omega)) ?_)
    simp only [mKm, mNm, mIm, mIf, mJm, mJf, mRm, sIm, sJm, rwIm, rwJm, kN, nN, rN, true_and]
    refine m205 (b := 1260) hk2 ?_
    simp only [mKm, mNm, mIm, mIf, mJm, mJf, mRm, sIm, sJm, rwIm, rwJm, kN, nN, rN, true_and]
    refine m232 (b := 1260) hk2 (frF_le hk2.w _) (by rw [itY_0]; omega) (fun I3 hf3 hk3 => ?_)
    rw [nI_1]
    exact ih I3 (Fs.trans hf2 hf3) hk3
theorem m252o {x w : Int32} (hk : KR I 0 π σ) (hx : ¬ ((0 ≤ x ∧ x < nI (nT π)) ∧ (0 ≤ w ∧ w ≤ 40))) (h : P (-1) (mem r (T0 I) J)) : CI G (d + 8) 252 [.ref 247, .int x, .int w] (mem r I J) P := by
  have hT := hk.w.t
  have hk0 := hk.t0
  refine e252 ?_
  simp only [mKm, mNm, mIm, mIf, mJm, mJf, mRm, sIm, sJm, rwIm, rwJm, kN, nN, rN, true_and]
  by_cases q : 0 ≤ x ∧ x < nI (nT π)
  · obtain ⟨t, ht, rfl⟩ := inR (by omega) q
    refine m203 hk0.p hk0.w ht (ifn (by decide) (m201 ?_))
    rw [if_neg (fun z => hx ⟨q, z⟩)]
    exact ifn (fun z => z rfl) h
  · exact m203o hk0.p q (ifp rfl h)
theorem L138 {y : Nat} {M : mm_M} (h : PR y M) (hy : y ≤ 5000) (x w : Int32) : EQ G (d + 40) 138 252 y [.int x, .int w] M := by
  obtain ⟨r, I, J, π, σ, us, ms, fe, ln, nm, tp, rfl, hA, hR, hY⟩ := h
  have hT := hA.w.t
  have h0 := hY.1
  by_cases q : (0 ≤ x ∧ x < nI (nT π)) ∧ (0 ≤ w ∧ w ≤ 40)
  · obtain ⟨t, ht, rfl⟩ := inR (by omega) q.1
    obtain ⟨n, hn, rfl⟩ := nI_of2 (M := 40) (n := 40) rfl (Int32.not_lt.mpr q.2.1) q.2.2
    exact d138 hA.k ht hn (by omega) (fun I1 hf1 => ⟨rfl, m252 (hR.k.lo (sc_hi hf1)) ht hn (by omega) (fun I2 hf2 => ⟨rfl, PR_t hA hR hY (by omega) hf1 (by decide) hf2⟩)⟩)
  · exact d138o hA.k q ⟨rfl, m252o hR.k q ⟨rfl, PR_qq hA hR hY (by omega) Fr.rfl Fr.rfl⟩⟩
end
