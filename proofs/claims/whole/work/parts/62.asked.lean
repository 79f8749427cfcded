/-! the first side: what is asked -/
theorem m2 : (Int8.ofInt (-2)).toInt32 = (-2 : Int32) := by decide
theorem inR {x : Int32} {N : Nat} (hN : N < 2 ^ 31) (h : 0 ≤ x ∧ x < nI N) : ∃ n : Nat, n < N ∧ x = nI n := by
  obtain ⟨n, hn, rfl⟩ := nI_of (Int32.not_lt.mpr h.1)
  exact ⟨n, (nI_ltI hn hN).mp h.2, rfl⟩
theorem inR' {n N : Nat} (h : n < N) (hN : N < 2 ^ 31) : 0 ≤ nI n ∧ nI n < nI N := ⟨nI_pos' (by omega), nI_lt h hN⟩
theorem nI_nm {n : Nat} (h : n < 2 ^ 31) : ¬ nI n = -1 := fun z => nI_pos h (by rw [z]; decide)
def SZ (I : Nat → Nat → Int32) (π : PLN) (σ : Nat → Nat → Nat) : Prop := ∀ t, t < nT π → I 245 t = if bearF π (σ 0 0) t then nI (szF π (σ 1 t) (σ 2 t) (σ 0 0)) else -1
def inC (c : Nat → Nat → Bool) (p : Nat) : Nat → Nat
  | 0 => 0
  | k + 1 => inC c p k + if p < k ∧ c p k = true then 1 else 0
def prC (c : Nat → Nat → Bool) (n : Nat) : Nat → Nat
  | 0 => 0
  | p + 1 => prC c n p + inC c p n
theorem inC_0 (c : Nat → Nat → Bool) (p : Nat) : ∀ k, k ≤ p + 1 → inC c p k = 0 := by
  intro k
  induction k with
  | zero => intro _; rfl
  | succ k ih =>
    intro h
    unfold inC
    rw [ih (by omega), if_neg (fun z => by have := z.1; omega)]
def paiC (π : PLN) (σ : Nat → Nat → Nat) (p o : Nat) : Bool := !decide (nI (setF (fitF π σ p) (nT π)) &&& nI (setF (fitF π σ o) (nT π)) = 0)
def twiC (π : PLN) (σ : Nat → Nat → Nat) (t o : Nat) : Bool := bearF π (σ 0 0) t && bearF π (σ 0 0) o && szF π (σ 1 t) (σ 2 t) (σ 0 0) == szF π (σ 1 o) (σ 2 o) (σ 0 0)
def weaF (π : PLN) (σ : Nat → Nat → Nat) (t : Nat) : Nat := setF (fun p => fitF π σ p t) (nP π)
def idlF (π : PLN) (σ : Nat → Nat → Nat) (t : Nat) : Bool := bearF π (σ 0 0) t && weaF π σ t == 0
def solF (π : PLN) (σ : Nat → Nat → Nat) (p : Nat) : Bool := pcF (setF (fitF π σ p) (nT π)) 30 == 1
/-- the best, its number, each 1 more -/
def besF (π : PLN) (σ : Nat → Nat → Nat) : Nat → Nat × Nat
  | 0 => (0, 0)
  | t + 1 => let v := if bearF π (σ 0 0) t then pcF (weaF π σ t) 30 + 1 else 0
    if (besF π σ t).2 < v then (t + 1, v) else besF π σ t
theorem bes_le (π : PLN) (σ : Nat → Nat → Nat) (hP : nP π ≤ 6) : ∀ t, (besF π σ t).1 ≤ t ∧ (besF π σ t).2 ≤ 7 := by
  intro t
  induction t with
  | zero => exact ⟨Nat.le_refl _, Nat.zero_le _⟩
  | succ t ih =>
    unfold besF
    have h6 := pc_le (weaF π σ t) (setF_le _ hP)
    dsimp only
    have hv : (if bearF π (σ 0 0) t = true then pcF (weaF π σ t) 30 + 1 else 0) ≤ 7 := by split <;> omega
    generalize (if bearF π (σ 0 0) t = true then pcF (weaF π σ t) 30 + 1 else 0) = v at hv ⊢
    by_cases q : (besF π σ t).2 < v
    · rw [if_pos q]; exact ⟨Nat.le_refl _, hv⟩
    · rw [if_neg q]; exact ⟨by omega, ih.2⟩
/-- the least lack, 1 more -/
def lakF (π : PLN) (σ : Nat → Nat → Nat) (p : Nat) : Nat → Nat
  | 0 => 0
  | t + 1 => let v := pinF π p (σ 3 p) (szF π (σ 1 t) (σ 2 t) (σ 0 0))
    if bearF π (σ 0 0) t then (if lakF π σ p t = 0 then v + 1 else min (lakF π σ p t) (v + 1)) else lakF π σ p t
theorem lak_le {π : PLN} {σ : Nat → Nat → Nat} {p : Nat} (hf : σ 3 p ≤ 40) : ∀ t, lakF π σ p t ≤ 41 := by
  intro t
  induction t with
  | zero => exact Nat.zero_le _
  | succ t ih =>
    unfold lakF
    have := pin_le (π := π) (p := p) hf (sz_le (π := π) (l := σ 1 t) (g := σ 2 t) (y := σ 0 0))
    dsimp only
    split
    · split
      · omega
      · omega
    · exact ih
theorem st_hi : ∀ s ∈ stL, s ≤ 220 := by decide +kernel
theorem sh_le {v m : Nat} (hv : v < 2 ^ 30) (hm : m < 2 ^ 30) : nI v ≤ nI m - 1 ↔ v + 1 ≤ m := by
  by_cases q : m = 0
  · subst q
    constructor
    · intro h
      have : nI v ≤ -1 := h
      exact absurd (Int32.lt_of_le_of_lt this (by decide)) (nI_pos (by omega))
    · intro h; omega
  · rw [sh_ix q, nI_leI (by omega) (by omega)]; omega
section
variable {G : GG} {d : Nat} {P : Int32 → mm_M → Prop} {Pv : mm_M → Prop} {Q : Option Value → mm_M → Prop} {r : Nat → Nat} {I : Nat → Nat → Int32} {J : Nat → Nat → Int64} {π : PLN} {σ : Nat → Nat → Nat} {s : Nat}
theorem KS.frg {I' : Nat → Nat → Int32} {l : List Nat} (hk : KS I s π σ) (hf : Fr l I I') (h1 : ∀ a ∈ [4, 5, 6, 7, 9, 10, 12, 13, 14], a ∉ l) (h2 : ∀ k, k < 8 → s + k ∉ l) : KS I' s π σ :=
  ⟨hk.st, hk.p.fr_of hf h1, hk.w, hk.c.fr_of hf h2, hk.v⟩
theorem KS.fq {I' : Nat → Nat → Int32} (hk : KS I s π σ) (hf : Fr [15, 245] I I') : KS I' s π σ :=
  hk.frg hf (by decide) (fun k hk8 => by have := hk.s38; have := st_hi s hk.st; simp; omega)
theorem SZ.bear (h : SZ I π σ) {t : Nat} (ht : t < nT π) (q : bearF π (σ 0 0) t = true) : I 245 t = nI (szF π (σ 1 t) (σ 2 t) (σ 0 0)) := by rw [h t ht, if_pos q]
theorem SZ.no (h : SZ I π σ) {t : Nat} (ht : t < nT π) (q : ¬ bearF π (σ 0 0) t = true) : I 245 t = -1 := by rw [h t ht, if_neg q]
theorem d123 (hk : KS I s π σ) (h : ∀ I', Fr [15, 245] I I' → SZ I' π σ → Pv (mem r I' J)) : CV G (d + 5) 123 [.ref 1, .ref s] (mem r I J) Pv := by
  have hT := hk.w.t
  refine e123 (lp (n := nT π) (X := fun k => ∀ I', Fr [15, 245] I I' → (∀ t, t < k → I' 245 t = if bearF π (σ 0 0) t then nI (szF π (σ 1 t) (σ 2 t) (σ 0 0)) else -1) → XX G (d + 4) none P123 (QV Pv) 2 [.ref 1, .ref s, .int (nI k)] [] (mem r I' J)) (fun I' hf hz => ?_) (fun k hkn ih I' hf hz => ?_) I Fr.rfl (fun t ht => by omega))
  · have hk' := hk.fq hf
    refine x123_2 ?_
    simp only [mKm, mNm, mIm, mIf, mJm, mJf, mRm, sIm, sJm, rwIm, rwJm, kN, nN, rN, true_and, stN hk.st, hk'.p.n0]
    exact ifp (nI_le (Nat.le_refl _) (by omega)) ⟨rfl, h I' hf hz⟩
  · have hk' := hk.fq hf
    have h6 : k < 6 := by omega
    refine x123_2 ?_
    simp only [mKm, mNm, mIm, mIf, mJm, mJf, mRm, sIm, sJm, rwIm, rwJm, kN, nN, rN, true_and, stN hk.st, hk'.p.n0]
    refine ifn (nI_ge hkn (by omega)) (d70 hk' hkn (fun I1 hf1 => ?_))
    simp only [mKm, mNm, mIm, mIf, mJm, mJf, mRm, sIm, sJm, rwIm, rwJm, kN, nN, rN, true_and, stN hk.st, ix h6 (by decide), nI_1]
    refine ih _ ((hf.trans (hf1.mono (by simp))).u2 (by decide)) (fun t ht => ?_)
    by_cases e : t = k
    · subst e; rw [u2s]
    · rw [u2i e, hf1 245 (by decide)]; exact hz t (by omega)
theorem d124 {p : Nat} (hk : KS I s π σ) (hz : SZ I π σ) (hp : p < nP π) (h : P (nI (setF (fitF π σ p) (nT π))) (mem r I J)) : CI G (d + 3) 124 [.ref 1, .ref s, .int (nI p)] (mem r I J) P := by
  have hT := hk.w.t
  have h7 : p < 6 := by have := hk.w.p; omega
  refine e124 (lp (n := nT π) (X := fun k => XX G (d + 2) (some .int) P124 (QI P) 5 [.ref 1, .ref s, .int (nI p), .int (nI (setF (fitF π σ p) k)), .int (nI k)] [] (mem r I J)) ?_ (fun k hkn ih => ?_))
  · refine x124_5 ?_
    simp only [mKm, mNm, mIm, mIf, mJm, mJf, mRm, sIm, sJm, rwIm, rwJm, kN, nN, rN, true_and, stN hk.st, hk.p.n0]
    exact ifp (nI_le (Nat.le_refl _) (by omega)) ⟨_, rfl, h⟩
  · have h6 : k < 6 := by omega
    refine x124_5 ?_
    simp only [mKm, mNm, mIm, mIf, mJm, mJf, mRm, sIm, sJm, rwIm, rwJm, kN, nN, rN, true_and, stN hk.st, hk.p.n0, ix h6 (by decide), ix h7 (by decide), nI_1, hk.r3 hp]
    refine ifn (nI_ge hkn (by omega)) ?_
    by_cases q : bearF π (σ 0 0) k = true
    · rw [hz.bear hkn q]
      have hs := sz_le (π := π) (l := σ 1 k) (g := σ 2 k) (y := σ 0 0)
      have hv := (hk.v.2.2 p hp).1
      have hl := pin_le (π := π) (p := p) hv hs
      refine ifn (nI_nm (by omega)) (d59 hk.p hk.w hp hv hs ?_)
      by_cases q2 : pinF π p (σ 3 p) (szF π (σ 1 k) (σ 2 k) (σ 0 0)) = 0
      · rw [q2]
        refine ifn (fun z => z rfl) (b124_5_62 ?_)
        rw [set_up h6 (by unfold fitF; rw [q, q2]; rfl)]
        exact ih
      · refine ifp (nI_ne0 (by omega) (by omega)) ?_
        rw [set_no (by unfold fitF; rw [q, beq_false_of_ne q2]; rfl)]
        exact ih
    · rw [hz.no hkn q]
      refine ifp rfl ?_
      rw [Bool.not_eq_true] at q
      rw [set_no (by unfold fitF; rw [q]; rfl)]
      exact ih
theorem d126 {t : Nat} (hk : KS I 38 π σ) (hb : bearF π (σ 0 0) t = true) (h : P (nI (weaF π σ t)) (mem r I J)) : CI G (d + 3) 126 [.ref 1, .int (nI (szF π (σ 1 t) (σ 2 t) (σ 0 0)))] (mem r I J) P := by
  have hP := hk.w.p
  refine e126 (lp (n := nP π) (X := fun k => XX G (d + 2) (some .int) P126 (QI P) 4 [.ref 1, .int (nI (szF π (σ 1 t) (σ 2 t) (σ 0 0))), .int (nI (setF (fun p => fitF π σ p t) k)), .int (nI k)] [] (mem r I J)) ?_ (fun k hkn ih => ?_))
  · refine x126_4 ?_
    simp only [mKm, mNm, mIm, mIf, mJm, mJf, mRm, sIm, sJm, rwIm, rwJm, kN, nN, rN, true_and, stN hk.st, hk.p.n1]
    exact ifp (nI_le (Nat.le_refl _) (by omega)) ⟨_, rfl, h⟩
  · have h6 : k < 6 := by omega
    have hs := sz_le (π := π) (l := σ 1 t) (g := σ 2 t) (y := σ 0 0)
    have hv := (hk.v.2.2 k hkn).1
    have hl := pin_le (π := π) (p := k) hv hs
    refine x126_4 ?_
    simp only [mKm, mNm, mIm, mIf, mJm, mJf, mRm, sIm, sJm, rwIm, rwJm, kN, nN, rN, true_and, stN hk.st, hk.p.n1, ix h6 (by decide), nI_1, hk.r3 hkn]
    refine ifn (nI_ge hkn (by omega)) (d59 hk.p hk.w hkn hv hs ?_)
    by_cases q2 : pinF π k (σ 3 k) (szF π (σ 1 t) (σ 2 t) (σ 0 0)) = 0
    · rw [q2]
      refine ifn (fun z => z rfl) (b126_4_45 ?_)
      rw [set_up (c := fun p => fitF π σ p t) h6 (by unfold fitF; rw [hb, q2]; rfl)]
      exact ih
    · refine ifp (nI_ne0 (by omega) (by omega)) ?_
      rw [set_no (c := fun p => fitF π σ p t) (by unfold fitF; rw [hb, beq_false_of_ne q2]; rfl)]
      exact ih
theorem d122 {p : Nat} (hk : KS I 38 π σ) (hp : p < nP π) (h : ∀ I', Fr [15, 245] I I' → P (nI (setF (fitF π σ p) (nT π))) (mem r I' J)) : CI G (d + 6) 122 [.ref 1, .int (nI p)] (mem r I J) P := by
  refine e122 ?_
  simp only [mKm, mNm, mIm, mIf, mJm, mJf, mRm, sIm, sJm, rwIm, rwJm, kN, nN, rN, true_and]
  refine d58 hk.p hk.w hp (ifp (by decide) ?_)
  simp only [mKm, mNm, mIm, mIf, mJm, mJf, mRm, sIm, sJm, rwIm, rwJm, kN, nN, rN, true_and]
  refine d123 hk (fun I1 hf1 hz => ?_)
  simp only [mKm, mNm, mIm, mIf, mJm, mJf, mRm, sIm, sJm, rwIm, rwJm, kN, nN, rN, true_and]
  exact d124 (hk.fq hf1) hz hp (h I1 hf1)
theorem d122o {x : Int32} (hk : KS I 38 π σ) (hx : ¬ (0 ≤ x ∧ x < nI (nP π))) (h : P (-1) (mem r I J)) : CI G (d + 6) 122 [.ref 1, .int x] (mem r I J) P := by
  refine e122 ?_
  simp only [mKm, mNm, mIm, mIf, mJm, mJf, mRm, sIm, sJm, rwIm, rwJm, kN, nN, rN, true_and]
  exact d58o hk.p hx (ifn (fun z => z rfl) h)
theorem d125 {t : Nat} (hk : KS I 38 π σ) (ht : t < nT π) (h : ∀ I', Fr [15, 245] I I' → P (if bearF π (σ 0 0) t then nI (weaF π σ t) else -1) (mem r I' J)) : CI G (d + 5) 125 [.ref 1, .int (nI t)] (mem r I J) P := by
  refine e125 ?_
  simp only [mKm, mNm, mIm, mIf, mJm, mJf, mRm, sIm, sJm, rwIm, rwJm, kN, nN, rN, true_and, stN hk.st]
  refine d71 hk ht ?_
  by_cases q : bearF π (σ 0 0) t = true
  · simp only [if_pos q] at h ⊢
    refine ifp (by decide) ?_
    simp only [mKm, mNm, mIm, mIf, mJm, mJf, mRm, sIm, sJm, rwIm, rwJm, kN, nN, rN, true_and, stN hk.st]
    refine d70 hk ht (fun I1 hf1 => ?_)
    rw [if_pos q]
    simp only [mKm, mNm, mIm, mIf, mJm, mJf, mRm, sIm, sJm, rwIm, rwJm, kN, nN, rN, true_and, stN hk.st]
    exact d126 (hk.fr hf1) q (h I1 (hf1.mono (by simp)))
  · simp only [if_neg q] at h ⊢
    exact ifn (fun z => z trivial) (h I Fr.rfl)
theorem d125o {x : Int32} (hk : KS I 38 π σ) (hx : ¬ (0 ≤ x ∧ x < nI (nT π))) (h : P (-1) (mem r I J)) : CI G (d + 5) 125 [.ref 1, .int x] (mem r I J) P := by
  refine e125 ?_
  simp only [mKm, mNm, mIm, mIf, mJm, mJf, mRm, sIm, sJm, rwIm, rwJm, kN, nN, rN, true_and, stN hk.st]
  exact d71o hk hx (ifn (fun z => z rfl) h)
theorem d143 (hk : KS I 38 π σ) (h : ∀ I', Fr [15, 245] I I' → P (nI (prC (paiC π σ) (nP π) (nP π))) (mem r I' J)) : CI G (d + 6) 143 [.ref 1] (mem r I J) P := by
  have hP := hk.w.p
  refine e143 ?_
  simp only [mKm, mNm, mIm, mIf, mJm, mJf, mRm, sIm, sJm, rwIm, rwJm, kN, nN, rN, true_and]
  refine d123 hk (fun I1 hf1 hz => ?_)
  have hk1 := hk.fq hf1
  refine lp (n := nP π) (X := fun p => XX G (d + 5) (some .int) P143 (QI P) 12 [.ref 1, .int (nI (prC (paiC π σ) (nP π) p)), .int (nI p), jk, jk] [] (mem r I1 J)) ?_ (fun p hpn ih => ?_)
  · refine x143_12 ?_
    simp only [mKm, mNm, mIm, mIf, mJm, mJf, mRm, sIm, sJm, rwIm, rwJm, kN, nN, rN, true_and, hk1.p.n1]
    exact ifp (nI_le (Nat.le_refl _) (by omega)) ⟨_, rfl, h I1 hf1⟩
  · refine x143_12 ?_
    simp only [mKm, mNm, mIm, mIf, mJm, mJf, mRm, sIm, sJm, rwIm, rwJm, kN, nN, rN, true_and, hk1.p.n1]
    refine ifn (nI_ge hpn (by omega)) (d124 hk1 hz hpn ?_)
    rw [nI_1]
    have key := lpA (a := p + 1) (n := nP π) (X := fun k => XX G (d + 5) (some .int) P143 (QI P) 38 [.ref 1, .int (nI (prC (paiC π σ) (nP π) p + inC (paiC π σ) p k)), .int (nI p), .int (nI (setF (fitF π σ p) (nT π))), .int (nI k)] [] (mem r I1 J)) (by omega) ?_ (fun k hk0 hkn ih2 => ?_)
    · rw [inC_0 _ _ _ (Nat.le_refl _)] at key
      exact key
    · refine x143_38 ?_
      simp only [mKm, mNm, mIm, mIf, mJm, mJf, mRm, sIm, sJm, rwIm, rwJm, kN, nN, rN, true_and, hk1.p.n1]
      rw [nI_1]
      exact ifp (nI_le (Nat.le_refl _) (by omega)) ih
    · refine x143_38 ?_
      simp only [mKm, mNm, mIm, mIf, mJm, mJf, mRm, sIm, sJm, rwIm, rwJm, kN, nN, rN, true_and, hk1.p.n1]
      refine ifn (nI_ge hkn (by omega)) (d124 hk1 hz hkn ?_)
      have e : inC (paiC π σ) p (k + 1) = inC (paiC π σ) p k + if p < k ∧ paiC π σ p k = true then 1 else 0 := rfl
      refine ifb (fun q => b143_70_76 ?_) (fun q => b143_71_76 ?_)
      · rw [Int32.add_zero, nI_1]
        rw [e, if_neg (fun z => by have := z.2; unfold paiC at this; rw [decide_eq_true q] at this; exact absurd this (by decide))] at ih2
        exact ih2
      · rw [nI_1, nI_1]
        rw [e, if_pos ⟨by omega, by unfold paiC; rw [decide_eq_false q]; rfl⟩] at ih2
        exact ih2
theorem d144 (hk : KS I 38 π σ) (h : ∀ I', Fr [15, 245] I I' → P (nI (setF (idlF π σ) (nT π))) (mem r I' J)) : CI G (d + 6) 144 [.ref 1] (mem r I J) P := by
  have hT := hk.w.t
  have hP := hk.w.p
  refine e144 ?_
  simp only [mKm, mNm, mIm, mIf, mJm, mJf, mRm, sIm, sJm, rwIm, rwJm, kN, nN, rN, true_and]
  refine d123 hk (fun I1 hf1 hz => ?_)
  have hk1 := hk.fq hf1
  refine lp (n := nT π) (X := fun t => XX G (d + 5) (some .int) P144 (QI P) 12 [.ref 1, .int (nI (setF (idlF π σ) t)), .int (nI t)] [] (mem r I1 J)) ?_ (fun t htn ih => ?_)
  · refine x144_12 ?_
    simp only [mKm, mNm, mIm, mIf, mJm, mJf, mRm, sIm, sJm, rwIm, rwJm, kN, nN, rN, true_and, hk1.p.n0]
    exact ifp (nI_le (Nat.le_refl _) (by omega)) ⟨_, rfl, h I1 hf1⟩
  · have h6 : t < 6 := by omega
    refine x144_12 ?_
    simp only [mKm, mNm, mIm, mIf, mJm, mJf, mRm, sIm, sJm, rwIm, rwJm, kN, nN, rN, true_and, hk1.p.n0, ix h6 (by decide), nI_1]
    refine ifn (nI_ge htn (by omega)) ?_
    by_cases q : bearF π (σ 0 0) t = true
    · rw [hz.bear htn q]
      have hs := sz_le (π := π) (l := σ 1 t) (g := σ 2 t) (y := σ 0 0)
      refine ifn (nI_nm (by omega)) (d126 hk1 q ?_)
      have hw : weaF π σ t < 2 ^ 6 := setF_le _ hP
      by_cases q2 : weaF π σ t = 0
      · rw [q2]
        refine ifn (fun z => z rfl) (b144_12_55 ?_)
        rw [set_up h6 (by unfold idlF; rw [q, q2]; rfl)]
        exact ih
      · refine ifp (nI_ne0 (by omega) (by omega)) ?_
        rw [set_no (by unfold idlF; rw [q, beq_false_of_ne q2]; rfl)]
        exact ih
    · rw [hz.no htn q]
      refine ifp rfl ?_
      rw [Bool.not_eq_true] at q
      rw [set_no (by unfold idlF; rw [q]; rfl)]
      exact ih
theorem d145 (hk : KS I 38 π σ) (h : ∀ I', Fr [15, 245] I I' → P (nI (setF (solF π σ) (nP π))) (mem r I' J)) : CI G (d + 6) 145 [.ref 1] (mem r I J) P := by
  have hT := hk.w.t
  have hP := hk.w.p
  refine e145 ?_
  simp only [mKm, mNm, mIm, mIf, mJm, mJf, mRm, sIm, sJm, rwIm, rwJm, kN, nN, rN, true_and]
  refine d123 hk (fun I1 hf1 hz => ?_)
  have hk1 := hk.fq hf1
  refine lp (n := nP π) (X := fun p => XX G (d + 5) (some .int) P145 (QI P) 12 [.ref 1, .int (nI (setF (solF π σ) p)), .int (nI p)] [] (mem r I1 J)) ?_ (fun p hpn ih => ?_)
  · refine x145_12 ?_
    simp only [mKm, mNm, mIm, mIf, mJm, mJf, mRm, sIm, sJm, rwIm, rwJm, kN, nN, rN, true_and, hk1.p.n1]
    exact ifp (nI_le (Nat.le_refl _) (by omega)) ⟨_, rfl, h I1 hf1⟩
  · have h6 : p < 6 := by omega
    refine x145_12 ?_
    simp only [mKm, mNm, mIm, mIf, mJm, mJf, mRm, sIm, sJm, rwIm, rwJm, kN, nN, rN, true_and, hk1.p.n1, nI_1]
    refine ifn (nI_ge hpn (by omega)) (d124 hk1 hz hpn ?_)
    have hw : setF (fitF π σ p) (nT π) < 2 ^ 6 := setF_le _ hT
    have hc := pc_le _ hw
    refine c285 hw ?_
    by_cases q2 : pcF (setF (fitF π σ p) (nT π)) 30 = 1
    · rw [q2]
      refine ifn (fun z => z rfl) (b145_12_48 ?_)
      rw [set_up h6 (by unfold solF; rw [q2]; rfl)]
      exact ih
    · refine ifp (fun z => q2 ((nI_eq (by omega) (by decide)).mp z)) ?_
      rw [set_no (by unfold solF; rw [beq_false_of_ne q2])]
      exact ih
theorem d146 (hk : KS I 38 π σ) (h : ∀ I', Fr [15, 245] I I' → P (nI (prC (twiC π σ) (nT π) (nT π))) (mem r I' J)) : CI G (d + 6) 146 [.ref 1] (mem r I J) P := by
  have hT := hk.w.t
  refine e146 ?_
  simp only [mKm, mNm, mIm, mIf, mJm, mJf, mRm, sIm, sJm, rwIm, rwJm, kN, nN, rN, true_and]
  refine d123 hk (fun I1 hf1 hz => ?_)
  have hk1 := hk.fq hf1
  refine lp (n := nT π) (X := fun p => XX G (d + 5) (some .int) P146 (QI P) 12 [.ref 1, .int (nI (prC (twiC π σ) (nT π) p)), .int (nI p), jk] [] (mem r I1 J)) ?_ (fun p hpn ih => ?_)
  · refine x146_12 ?_
    simp only [mKm, mNm, mIm, mIf, mJm, mJf, mRm, sIm, sJm, rwIm, rwJm, kN, nN, rN, true_and, hk1.p.n0]
    exact ifp (nI_le (Nat.le_refl _) (by omega)) ⟨_, rfl, h I1 hf1⟩
  · have h6 : p < 6 := by omega
    refine x146_12 ?_
    simp only [mKm, mNm, mIm, mIf, mJm, mJf, mRm, sIm, sJm, rwIm, rwJm, kN, nN, rN, true_and, hk1.p.n0]
    refine ifn (nI_ge hpn (by omega)) ?_
    rw [nI_1]
    have key := lpA (a := p + 1) (n := nT π) (X := fun k => XX G (d + 5) (some .int) P146 (QI P) 27 [.ref 1, .int (nI (prC (twiC π σ) (nT π) p + inC (twiC π σ) p k)), .int (nI p), .int (nI k)] [] (mem r I1 J)) (by omega) ?_ (fun k hk0 hkn ih2 => ?_)
    · rw [inC_0 _ _ _ (Nat.le_refl _)] at key
      exact key
    · refine x146_27 ?_
      simp only [mKm, mNm, mIm, mIf, mJm, mJf, mRm, sIm, sJm, rwIm, rwJm, kN, nN, rN, true_and, hk1.p.n0]
      rw [nI_1]
      exact ifp (nI_le (Nat.le_refl _) (by omega)) ih
    · have h7 : k < 6 := by omega
      have e : inC (twiC π σ) p (k + 1) = inC (twiC π σ) p k + if p < k ∧ twiC π σ p k = true then 1 else 0 := rfl
      have hs := sz_le (π := π) (l := σ 1 p) (g := σ 2 p) (y := σ 0 0)
      have hs2 := sz_le (π := π) (l := σ 1 k) (g := σ 2 k) (y := σ 0 0)
      have no : twiC π σ p k = false → BB G (d + 5) (some .int) P146 (QI P) S146_68_74 74 [.ref 1, .int (nI (prC (twiC π σ) (nT π) p + inC (twiC π σ) p k) + 0), .int (nI p), .int (nI (k + 1))] [] (mem r I1 J) := fun z => by
        refine b146_68_74 ?_
        rw [Int32.add_zero]
        rw [e, if_neg (fun w => by rw [z] at w; exact absurd w.2 (by decide))] at ih2
        exact ih2
      refine x146_27 ?_
      simp only [mKm, mNm, mIm, mIf, mJm, mJf, mRm, sIm, sJm, rwIm, rwJm, kN, nN, rN, true_and, hk1.p.n0, ix h6 (by decide), ix h7 (by decide)]
      rw [nI_1 k]
      refine ifn (nI_ge hkn (by omega)) ?_
      by_cases q : bearF π (σ 0 0) p = true
      · rw [hz.bear hpn q]
        refine ifn (nI_nm (by omega)) ?_
        by_cases q2 : bearF π (σ 0 0) k = true
        · rw [hz.bear hkn q2]
          by_cases q3 : szF π (σ 1 p) (σ 2 p) (σ 0 0) = szF π (σ 1 k) (σ 2 k) (σ 0 0)
          · refine ifn (fun z => z (by rw [q3])) (b146_69_74 ?_)
            rw [nI_1]
            rw [e, if_pos ⟨by omega, by unfold twiC; rw [q, q2, q3, beq_self_eq_true]; rfl⟩] at ih2
            exact ih2
          · exact ifp (fun z => q3 ((nI_eq (by omega) (by omega)).mp z)) (no (by unfold twiC; rw [beq_false_of_ne q3, Bool.and_false]))
        · rw [hz.no hkn q2]
          rw [Bool.not_eq_true] at q2
          exact ifp (nI_nm (by omega)) (no (by unfold twiC; rw [q2, Bool.and_false, Bool.false_and]))
      · rw [hz.no hpn q]
        rw [Bool.not_eq_true] at q
        exact ifp rfl (no (by unfold twiC; rw [q, Bool.false_and, Bool.false_and]))
theorem d147 (hk : KS I 38 π σ) (h : ∀ I', Fr [15, 245] I I' → P (nI (besF π σ (nT π)).1 - 1) (mem r I' J)) : CI G (d + 6) 147 [.ref 1] (mem r I J) P := by
  have hT := hk.w.t
  have hP := hk.w.p
  refine e147 ?_
  simp only [mKm, mNm, mIm, mIf, mJm, mJf, mRm, sIm, sJm, rwIm, rwJm, kN, nN, rN, true_and]
  refine d123 hk (fun I1 hf1 hz => b147_0_12 ?_)
  have hk1 := hk.fq hf1
  refine lp (n := nT π) (X := fun t => XX G (d + 5) (some .int) P147 (QI P) 14 [.ref 1, .int (nI (besF π σ t).1 - 1), .int (nI (besF π σ t).2 - 1), .int (nI t), jk] [] (mem r I1 J)) ?_ (fun t htn ih => ?_)
  · refine x147_14 ?_
    simp only [mKm, mNm, mIm, mIf, mJm, mJf, mRm, sIm, sJm, rwIm, rwJm, kN, nN, rN, true_and, hk1.p.n0]
    exact ifp (nI_le (Nat.le_refl _) (by omega)) ⟨_, rfl, h I1 hf1⟩
  · have h6 : t < 6 := by omega
    obtain ⟨hb1, hb2⟩ := bes_le π σ hP t
    have e : besF π σ (t + 1) = if (besF π σ t).2 < (if bearF π (σ 0 0) t then pcF (weaF π σ t) 30 + 1 else 0) then (t + 1, if bearF π (σ 0 0) t then pcF (weaF π σ t) 30 + 1 else 0) else besF π σ t := rfl
    refine x147_14 ?_
    simp only [mKm, mNm, mIm, mIf, mJm, mJf, mRm, sIm, sJm, rwIm, rwJm, kN, nN, rN, true_and, hk1.p.n0, ix h6 (by decide), nI_1]
    refine ifn (nI_ge htn (by omega)) ?_
    by_cases q : bearF π (σ 0 0) t = true
    · rw [hz.bear htn q]
      rw [e, if_pos q] at ih
      have hs := sz_le (π := π) (l := σ 1 t) (g := σ 2 t) (y := σ 0 0)
      have hw : weaF π σ t < 2 ^ 6 := setF_le _ hP
      have hc := pc_le _ hw
      refine ifn (nI_nm (by omega)) (d126 hk1 q (c285 hw ?_))
      rw [sh_le (by omega) (by omega)]
      refine ifb (fun q2 => b147_61_64 ?_) (fun q2 => b147_14_59 (b147_14_64 ?_))
      · rw [if_neg (by omega)] at ih
        exact ih
      · rw [if_pos (by omega)] at ih
        rw [nI_1]
        have e1 : nI (t + 1, pcF (weaF π σ t) 30 + 1).1 - 1 = nI t := nI_pred t
        have e2 : nI (t + 1, pcF (weaF π σ t) 30 + 1).2 - 1 = nI (pcF (weaF π σ t) 30) := nI_pred _
        rw [e1, e2] at ih
        exact ih
    · rw [hz.no htn q]
      rw [e, if_neg q, if_neg (by omega)] at ih
      exact ifp rfl ih
theorem d148 {p : Nat} (hk : KS I 38 π σ) (hp : p < nP π) (h : ∀ I', Fr [15, 245] I I' → P (nI (lakF π σ p (nT π)) - 1) (mem r I' J)) : CI G (d + 6) 148 [.ref 1, .int (nI p)] (mem r I J) P := by
  have hT := hk.w.t
  have h7 : p < 6 := by have := hk.w.p; omega
  refine e148 ?_
  simp only [mKm, mNm, mIm, mIf, mJm, mJf, mRm, sIm, sJm, rwIm, rwJm, kN, nN, rN, true_and]
  refine d58 hk.p hk.w hp (ifp (by decide) ?_)
  simp only [mKm, mNm, mIm, mIf, mJm, mJf, mRm, sIm, sJm, rwIm, rwJm, kN, nN, rN, true_and]
  refine d123 hk (fun I1 hf1 hz => ?_)
  have hk1 := hk.fq hf1
  have hv := (hk.v.2.2 p hp).1
  refine lp (n := nT π) (X := fun t => XX G (d + 5) (some .int) P148 (QI P) 25 [.ref 1, .int (nI p), .int (nI (lakF π σ p t) - 1), .int (nI t), jk] [] (mem r I1 J)) ?_ (fun t htn ih => ?_)
  · refine x148_25 ?_
    simp only [mKm, mNm, mIm, mIf, mJm, mJf, mRm, sIm, sJm, rwIm, rwJm, kN, nN, rN, true_and, hk1.p.n0]
    exact ifp (nI_le (Nat.le_refl _) (by omega)) ⟨_, rfl, h I1 hf1⟩
  · have h6 : t < 6 := by omega
    have hb := lak_le (π := π) hv t
    have e : lakF π σ p (t + 1) = if bearF π (σ 0 0) t then (if lakF π σ p t = 0 then pinF π p (σ 3 p) (szF π (σ 1 t) (σ 2 t) (σ 0 0)) + 1 else min (lakF π σ p t) (pinF π p (σ 3 p) (szF π (σ 1 t) (σ 2 t) (σ 0 0)) + 1)) else lakF π σ p t := rfl
    have hs := sz_le (π := π) (l := σ 1 t) (g := σ 2 t) (y := σ 0 0)
    have hl := pin_le (π := π) (p := p) hv hs
    refine x148_25 ?_
    simp only [mKm, mNm, mIm, mIf, mJm, mJf, mRm, sIm, sJm, rwIm, rwJm, kN, nN, rN, true_and, stN hk.st, hk1.p.n0, ix h6 (by decide), ix h7 (by decide), nI_1, hk1.r3 hp]
    refine ifn (nI_ge htn (by omega)) ?_
    by_cases q : bearF π (σ 0 0) t = true
    · rw [hz.bear htn q]
      rw [e, if_pos q] at ih
      refine ifn (nI_nm (by omega)) (d59 hk1.p hk1.w hp hv hs ?_)
      rw [sh_m1 (by omega)]
      refine ifb (fun q2 => ?_) (fun q2 => b148_87_88 ?_)
      · rw [if_neg q2] at ih
        rw [sh_ix q2]
        refine c287 ?_
        rw [m_min (by omega) (by omega)]
        refine b148_81_88 ?_
        rw [sh_ix (by omega), show min (lakF π σ p t) (pinF π p (σ 3 p) (szF π (σ 1 t) (σ 2 t) (σ 0 0)) + 1) - 1 = min (lakF π σ p t - 1) (pinF π p (σ 3 p) (szF π (σ 1 t) (σ 2 t) (σ 0 0))) by omega] at ih
        rw [nI_1]
        exact ih
      · rw [if_pos (Decidable.not_not.mp q2), nI_pred] at ih
        rw [nI_1]
        exact ih
    · rw [hz.no htn q]
      rw [e, if_neg q] at ih
      exact ifp rfl ih
theorem d148o {x : Int32} (hk : KS I 38 π σ) (hx : ¬ (0 ≤ x ∧ x < nI (nP π))) (h : P (-1) (mem r I J)) : CI G (d + 6) 148 [.ref 1, .int x] (mem r I J) P := by
  refine e148 ?_
  simp only [mKm, mNm, mIm, mIf, mJm, mJf, mRm, sIm, sJm, rwIm, rwJm, kN, nN, rN, true_and]
  exact d58o hk.p hx (ifn (fun z => z rfl) h)
end
