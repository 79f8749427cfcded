/-! a state of the class: what is done -/
theorem lp {X : Nat → Prop} {n : Nat} (h : X n) (hs : ∀ k, k < n → X (k + 1) → X k) : X 0 := by
  have h1 : ∀ m, m ≤ n → X (n - m) := by
    intro m
    induction m with
    | zero => intro _; exact h
    | succ m ih =>
      intro hm
      have := ih (by omega)
      exact hs (n - (m + 1)) (by omega) (by rw [show n - (m + 1) + 1 = n - m by omega]; exact this)
  have := h1 n (Nat.le_refl _)
  rwa [Nat.sub_self] at this
theorem lpA {X : Nat → Prop} {a n : Nat} (ha : a ≤ n) (h : X n) (hs : ∀ k, a ≤ k → k < n → X (k + 1) → X k) : X a := by
  have h1 := lp (X := fun k => X (a + k)) (n := n - a) (by rw [show a + (n - a) = n by omega]; exact h) (fun k hk q => hs (a + k) (by omega) (by omega) q)
  exact h1
theorem stK {s k : Nat} (hs : s ∈ stL) (h1 : 1 ≤ k) (h8 : k < 8) : kF (s + k) = 14 ∧ nF (s + k) = 6 := ((st_k s hs).2.2.2.2.1 k h8 h1).2
theorem st_dis : ∀ s ∈ stL, ∀ o ∈ stL, s ≠ o → (s + 8 ≤ o ∨ o + 8 ≤ s) := by decide +kernel
theorem st_ge {s : Nat} (hs : s ∈ stL) : 38 ≤ s := (st_k s hs).2.1
theorem st_lt {s : Nat} (hs : s ∈ stL) : s < 263 := (st_k s hs).1
def shodF (π : PLN) (σ : Nat → Nat → Nat) (p t : Nat) : Nat → Nat → Nat := u2 (u2 σ 5 p (t + 1)) 7 p (σ 7 p + rdn (π.1 5 t))
def tryF (π : PLN) (σ : Nat → Nat → Nat) (p t : Nat) : Nat → Nat → Nat := if fitF π σ p t then shodF π (u2 σ 4 p (σ 4 p + 1)) p t else u2 σ 4 p (σ 4 p + 1)
def mayShF (π : PLN) (σ : Nat → Nat → Nat) (p o : Nat) : Bool := σ 5 p != 0 && σ 6 p == 0 && σ 5 o == 0 && fitF π σ o (σ 5 p - 1)
def shareF (π : PLN) (σ : Nat → Nat → Nat) (p o : Nat) : Nat → Nat → Nat := u2 (u2 (shodF π σ o (σ 5 p - 1)) 6 p (o + 1)) 6 o (p + 1)
def graftF (σ : Nat → Nat → Nat) (t o : Nat) : Nat → Nat → Nat := u2 σ 1 t ((σ 1 t + σ 1 o) / 2)
def pruneF (σ : Nat → Nat → Nat) (t : Nat) : Nat → Nat → Nat := u2 σ 1 t (σ 1 t - 1)
def passF (π : PLN) (σ : Nat → Nat → Nat) (f : Nat) : Nat → Nat → Nat := fun a i => if a = 0 then σ 0 0 + 1 else if a = 1 then (if f ≤ stn (π.1 5 i) then σ 1 i else σ 1 i - 1) else if a = 2 then min 99 (σ 2 i + 1) else if a = 3 then (if π.1 9 i = 1 then min 40 (σ 3 i + 2) else σ 3 i) else if a = 7 then σ 7 i else 0
def yearF (π : PLN) (σ : Nat → Nat → Nat) : Nat → Nat → Nat := passF π σ (frF π (σ 0 0))
def begF (π : PLN) : Nat → Nat → Nat := fun a i => if a = 1 then π.1 6 i else if a = 2 then π.1 7 i else if a = 3 then π.1 10 i else 0
def passT (π : PLN) (σ : Nat → Nat → Nat) (f k : Nat) : Nat → Nat → Nat := fun a i => if a = 1 ∧ i < k then (if f ≤ stn (π.1 5 i) then σ 1 i else σ 1 i - 1) else if a = 2 ∧ i < k then min 99 (σ 2 i + 1) else σ a i
def passP (π : PLN) (σ : Nat → Nat → Nat) (k : Nat) : Nat → Nat → Nat := fun a i => if a = 3 ∧ i < k ∧ π.1 9 i = 1 then min 40 (σ 3 i + 2) else σ a i
theorem fit_u2 {π : PLN} {σ : Nat → Nat → Nat} {k i n p t : Nat} (h : 4 ≤ k) : fitF π (u2 σ k i n) p t = fitF π σ p t := by
  unfold fitF
  rw [u2n (show 0 ≠ k by omega), u2n (show 1 ≠ k by omega), u2n (show 2 ≠ k by omega), u2n (show 3 ≠ k by omega)]
section
variable {G : GG} {d : Nat} {P : Int32 → mm_M → Prop} {Pv : mm_M → Prop} {Q : Option Value → mm_M → Prop} {r : Nat → Nat} {I : Nat → Nat → Int32} {J : Nat → Nat → Int64} {π : PLN} {σ : Nat → Nat → Nat} {s : Nat}
theorem WSt.up (h : WSt π σ) {k i n : Nat} (h0 : k = 0 → n < 2 ^ 30) (h1 : k = 1 → n ≤ 30) (h2 : k = 2 → n ≤ 99) (h3 : k = 3 → n ≤ 40) (h4 : k = 4 → n ≤ π.1 3 0) (h5 : k = 5 → n ≤ nT π) (h6 : k = 6 → n ≤ nP π) : WSt π (u2 σ k i n) := by
  have key : ∀ a j (B : Nat), σ a j ≤ B → (k = a → n ≤ B) → u2 σ k i n a j ≤ B := by
    intro a j B hB hn
    by_cases e : a = k
    · by_cases e2 : j = i
      · rw [e, e2, u2s]; exact hn e.symm
      · rw [e, u2i e2, ← e]; exact hB
    · rw [u2n e]; exact hB
  refine ⟨?_, fun j hj => ⟨key 1 j 30 (h.2.1 j hj).1 h1, key 2 j 99 (h.2.1 j hj).2 h2⟩, fun j hj => ⟨key 3 j 40 (h.2.2 j hj).1 h3, key 4 j _ (h.2.2 j hj).2.1 h4, key 5 j _ (h.2.2 j hj).2.2.1 h5, key 6 j _ (h.2.2 j hj).2.2.2 h6⟩⟩
  have := key 0 0 (2 ^ 30 - 1) (by have := h.1; omega) (fun e => by have := h0 e; omega)
  omega
theorem KS.set (hk : KS I s π σ) {k i n : Nat} {v : Int32} (hv : v = enc k n) (hw : WSt π (u2 σ k i n)) : KS (u2 I (s + k) i v) s π (u2 σ k i n) :=
  ⟨hk.st, hk.p.fr_of (l := [s + k]) (Fr.rfl.u2 (by simp)) (fun a ha => by have := hk.s38; simp at ha ⊢; omega), hk.w, hk.c.u2 hv, hw⟩
theorem KS.congr {σ' : Nat → Nat → Nat} (hk : KS I s π σ) (h : ∀ k i, k < 8 → i < lm π k → σ' k i = σ k i) : KS I s π σ' := by
  refine ⟨hk.st, hk.p, hk.w, fun k i h1 h2 => by rw [h k i h1 h2]; exact hk.c k i h1 h2, ?_⟩
  have hv := hk.v
  refine ⟨by rw [h 0 0 (by decide) Nat.one_pos]; exact hv.1, fun i hi => ?_, fun i hi => ?_⟩
  · rw [h 1 i (by decide) hi, h 2 i (by decide) hi]; exact hv.2.1 i hi
  · rw [h 3 i (by decide) hi, h 4 i (by decide) hi, h 5 i (by decide) hi, h 6 i (by decide) hi]; exact hv.2.2 i hi
theorem d77 {p t : Nat} (hk : KS I s π σ) (hp : p < nP π) (ht : t < nT π) (h : ∀ I', Fr (sl s) I I' → KS I' s π (shodF π σ p t) → Pv (mem r I' J)) : CV G (d + 3) 77 [.ref s, .int (nI p), .int (nI t)] (mem r I J) Pv := by
  have h6 : p < 6 := by have := hk.w.p; omega
  refine e77 ?_
  simp only [mKm, mNm, mIm, mIf, mJm, mJf, mRm, sIm, sJm, rwIm, rwJm, kN, nN, rN, true_and, stN hk.st, ix h6 (by decide)]
  have hk1 : KS (u2 I (s + 5) p (nI t)) s π (u2 σ 5 p (t + 1)) := hk.set (by show _ = nI (t + 1) - 1; rw [nI_pred]) (hk.v.up (by omega) (by omega) (by omega) (by omega) (by omega) (by omega) (by omega))
  refine d60 hk1.p hk1.w ht ?_
  simp only [mKm, mNm, mIm, mIf, mJm, mJf, mRm, sIm, sJm, rwIm, rwJm, kN, nN, rN, true_and, stN hk.st, ix h6 (by decide)]
  refine b77_0_24 ⟨rfl, ?_⟩
  rw [hk1.r7 hp, nI_add, show u2 σ 5 p (t + 1) 7 p = σ 7 p by rw [u2n (by decide)]]
  exact h _ ((Fr.rfl.u2 (by simp [sl])).u2 (by simp [sl])) (hk1.set rfl (hk1.v.up (by omega) (by omega) (by omega) (by omega) (by omega) (by omega) (by omega)))
theorem d76 {p t : Nat} (hk : KS I s π σ) (hp : p < nP π) (ht : t < nT π) (hm : mayF π σ p t = true) (h : ∀ I', Fr (sl s) I I' → KS I' s π (tryF π σ p t) → P (if fitF π σ p t then 1 else 0) (mem r I' J)) : CI G (d + 5) 76 [.ref s, .int (nI p), .int (nI t)] (mem r I J) P := by
  have h6 : p < 6 := by have := hk.w.p; omega
  have hlt : σ 4 p < π.1 3 0 := by unfold mayF at hm; simp only [Bool.and_eq_true, decide_eq_true_eq] at hm; exact hm.1.1.2
  refine e76 ?_
  simp only [mKm, mNm, mIm, mIf, mJm, mJf, mRm, sIm, sJm, rwIm, rwJm, kN, nN, rN, true_and, stN hk.st]
  refine d74 hk hp ht ?_
  rw [hm, if_pos rfl]
  refine ifp (by decide) ?_
  simp only [mKm, mNm, mIm, mIf, mJm, mJf, mRm, sIm, sJm, rwIm, rwJm, kN, nN, rN, true_and, stN hk.st, ix h6 (by decide), hk.r4 hp, nI_1]
  have hk1 : KS (u2 I (s + 4) p (nI (σ 4 p + 1))) s π (u2 σ 4 p (σ 4 p + 1)) := hk.set rfl (hk.v.up (by omega) (by omega) (by omega) (by omega) (by omega) (by omega) (by omega))
  refine b76_11_21 ?_
  simp only [mKm, mNm, mIm, mIf, mJm, mJf, mRm, sIm, sJm, rwIm, rwJm, kN, nN, rN, true_and, stN hk.st]
  refine d73 hk1 hp ht (fun I1 hf1 => ?_)
  rw [fit_u2 (by decide)]
  have hk2 := hk1.fr hf1
  have hf2 : Fr (sl s) I I1 := (Fr.rfl.u2 (by simp [sl])).trans (hf1.mono (by simp [sl]))
  unfold tryF at h
  by_cases q : fitF π σ p t = true
  · rw [if_pos q]
    rw [if_pos q, if_pos q] at h
    refine ifp (by decide) ?_
    simp only [mKm, mNm, mIm, mIf, mJm, mJf, mRm, sIm, sJm, rwIm, rwJm, kN, nN, rN, true_and, stN hk.st]
    refine d77 hk2 hp ht (fun I2 hf3 hk3 => ⟨_, rfl, h I2 (hf2.trans hf3) hk3⟩)
  · rw [if_neg q]
    rw [if_neg q, if_neg q] at h
    exact ifn (fun z => z rfl) ⟨_, rfl, h I1 hf2 hk2⟩
theorem d76n {p t : Nat} (hk : KS I s π σ) (hp : p < nP π) (ht : t < nT π) (hm : mayF π σ p t = false) (h : P 0 (mem r I J)) : CI G (d + 5) 76 [.ref s, .int (nI p), .int (nI t)] (mem r I J) P := by
  refine e76 ?_
  simp only [mKm, mNm, mIm, mIf, mJm, mJf, mRm, sIm, sJm, rwIm, rwJm, kN, nN, rN, true_and, stN hk.st]
  refine d74 hk hp ht ?_
  rw [hm, if_neg (by decide)]
  exact ifn (fun z => z rfl) h
theorem d78 {p o : Nat} (hk : KS I s π σ) (hp : p < nP π) (ho : o < nP π) (hn : p ≠ o) (h : ∀ I', Fr [15] I I' → P (if mayShF π σ p o then 1 else 0) (mem r I' J)) : CI G (d + 5) 78 [.ref s, .int (nI p), .int (nI o)] (mem r I J) P := by
  have hP := hk.w.p
  have hT := hk.w.t
  have h6 : p < 6 := by omega
  have h7 : o < 6 := by omega
  have hv := hk.v.2.2 p hp
  have hv' := hk.v.2.2 o ho
  unfold mayShF at h
  refine e78 ?_
  simp only [mKm, mNm, mIm, mIf, mJm, mJf, mRm, sIm, sJm, rwIm, rwJm, kN, nN, rN, true_and, stN hk.st]
  refine d58 hk.p hk.w hp (ifn (by decide) ?_)
  simp only [mKm, mNm, mIm, mIf, mJm, mJf, mRm, sIm, sJm, rwIm, rwJm, kN, nN, rN, true_and, stN hk.st]
  refine d58 hk.p hk.w ho (ifn (by decide) (ifp (fun z => hn ((nI_eq (by omega) (by omega)).mp z)) ?_))
  simp only [mKm, mNm, mIm, mIf, mJm, mJf, mRm, sIm, sJm, rwIm, rwJm, kN, nN, rN, true_and, stN hk.st, ix h6 (by decide), ix h7 (by decide), hk.r5 hp, hk.r5 ho, hk.r6 hp, sh_m1 (show σ 5 p < 2 ^ 30 by omega), sh_m1 (show σ 5 o < 2 ^ 30 by omega), sh_m1 (show σ 6 p < 2 ^ 30 by omega)]
  refine ifb (fun q => x78_63 ⟨_, rfl, ?_⟩) (fun q => ifb (fun q2 => x78_63 ⟨_, rfl, ?_⟩) (fun q2 => ifb (fun q3 => x78_63 ⟨_, rfl, ?_⟩) (fun q3 => ?_)))
  · have h := h I Fr.rfl
    simp only [q, bne_self_eq_false, Bool.false_and] at h; exact h
  · have h := h I Fr.rfl
    rw [beq_false_of_ne q2, Bool.and_false, Bool.false_and] at h; exact h
  · have h := h I Fr.rfl
    rw [beq_false_of_ne q3, Bool.and_false, Bool.false_and] at h; exact h
  · rw [sh_ix q]
    refine d73 hk ho (by omega) (fun I1 hf => ?_)
    have h := h I1 hf
    rw [Decidable.not_not] at q2 q3
    simp only [q2, q3, beq_self_eq_true, Bool.and_true, bne_iff_ne.mpr q, Bool.true_and] at h
    by_cases e : fitF π σ o (σ 5 p - 1) = true
    · rw [if_pos e] at h ⊢
      exact ifn (by decide) h
    · rw [if_neg e] at h ⊢
      exact ifp rfl h
theorem d78o {p o : Int32} (hk : KS I s π σ) (hpt : ¬ ((0 ≤ p ∧ p < nI (nP π)) ∧ (0 ≤ o ∧ o < nI (nP π)) ∧ p ≠ o)) (h : P 0 (mem r I J)) : CI G (d + 5) 78 [.ref s, .int p, .int o] (mem r I J) P := by
  have hP := hk.w.p
  refine e78 ?_
  simp only [mKm, mNm, mIm, mIf, mJm, mJf, mRm, sIm, sJm, rwIm, rwJm, kN, nN, rN, true_and, stN hk.st]
  by_cases q : 0 ≤ p ∧ p < nI (nP π)
  · obtain ⟨n, hn, rfl⟩ := nI_of (Int32.not_lt.mpr q.1)
    refine d58 hk.p hk.w ((nI_ltI hn (by omega)).mp q.2) (ifn (by decide) ?_)
    simp only [mKm, mNm, mIm, mIf, mJm, mJf, mRm, sIm, sJm, rwIm, rwJm, kN, nN, rN, true_and, stN hk.st]
    by_cases q2 : 0 ≤ o ∧ o < nI (nP π)
    · obtain ⟨m, hm, rfl⟩ := nI_of (Int32.not_lt.mpr q2.1)
      exact d58 hk.p hk.w ((nI_ltI hm (by omega)).mp q2.2) (ifn (by decide) (ifn (fun z => hpt ⟨q, q2, z⟩) h))
    · exact d58o hk.p q2 (ifp rfl h)
  · exact d58o hk.p q (ifp rfl h)
theorem shod_v {p t : Nat} (hv : WSt π σ) (ht : t < nT π) : WSt π (shodF π σ p t) := (hv.up (by omega) (by omega) (by omega) (by omega) (by omega) (by omega) (by omega)).up (by omega) (by omega) (by omega) (by omega) (by omega) (by omega) (by omega)
theorem d79 {p o : Nat} (hk : KS I s π σ) (hp : p < nP π) (ho : o < nP π) (hm : mayShF π σ p o = true) (h : ∀ I', Fr (sl s) I I' → KS I' s π (shareF π σ p o) → Pv (mem r I' J)) : CV G (d + 5) 79 [.ref s, .int (nI p), .int (nI o)] (mem r I J) Pv := by
  have hP := hk.w.p
  have hT := hk.w.t
  have h6 : p < 6 := by omega
  have h7 : o < 6 := by omega
  have hv := hk.v.2.2 p hp
  have h5 : σ 5 p ≠ 0 := by
    unfold mayShF at hm; simp only [Bool.and_eq_true, bne_iff_ne] at hm; exact hm.1.1.1
  refine e79 ?_
  simp only [mKm, mNm, mIm, mIf, mJm, mJf, mRm, sIm, sJm, rwIm, rwJm, kN, nN, rN, true_and, stN hk.st]
  refine d58 hk.p hk.w hp (ifn (by decide) ?_)
  simp only [mKm, mNm, mIm, mIf, mJm, mJf, mRm, sIm, sJm, rwIm, rwJm, kN, nN, rN, true_and, stN hk.st]
  refine d58 hk.p hk.w ho (ifn (by decide) ?_)
  simp only [mKm, mNm, mIm, mIf, mJm, mJf, mRm, sIm, sJm, rwIm, rwJm, kN, nN, rN, true_and, stN hk.st, ix h6 (by decide), hk.r5 hp]
  rw [sh_ix h5]
  refine d77 hk ho (by omega) (fun I1 hf1 hk1 => ?_)
  simp only [mKm, mNm, mIm, mIf, mJm, mJf, mRm, sIm, sJm, rwIm, rwJm, kN, nN, rN, true_and, stN hk.st, ix h6 (by decide), ix h7 (by decide)]
  have hk2 : KS (u2 I1 (s + 6) p (nI o)) s π (u2 (shodF π σ o (σ 5 p - 1)) 6 p (o + 1)) := hk1.set (by show _ = nI (o + 1) - 1; rw [nI_pred]) (hk1.v.up (by omega) (by omega) (by omega) (by omega) (by omega) (by omega) (by omega))
  have hk3 : KS (u2 (u2 I1 (s + 6) p (nI o)) (s + 6) o (nI p)) s π (shareF π σ p o) := hk2.set (by show _ = nI (p + 1) - 1; rw [nI_pred]) (hk2.v.up (by omega) (by omega) (by omega) (by omega) (by omega) (by omega) (by omega))
  exact b79_0_47 ⟨rfl, h _ ((hf1.u2 (by simp [sl])).u2 (by simp [sl])) hk3⟩
theorem d80 {t o : Nat} (hk : KS I s π σ) (ht : t < nT π) (ho : o < nT π) (h : ∀ I', Fr (sl s) I I' → KS I' s π (graftF σ t o) → Pv (mem r I' J)) : CV G (d + 3) 80 [.ref s, .int (nI t), .int (nI o)] (mem r I J) Pv := by
  have hT := hk.w.t
  have h6 : t < 6 := by omega
  have h7 : o < 6 := by omega
  have hv := (hk.v.2.1 t ht).1
  have hv' := (hk.v.2.1 o ho).1
  refine e80 ?_
  simp only [mKm, mNm, mIm, mIf, mJm, mJf, mRm, sIm, sJm, rwIm, rwJm, kN, nN, rN, true_and, stN hk.st]
  refine d54 hk.p hk.w ht (ifn (by decide) ?_)
  simp only [mKm, mNm, mIm, mIf, mJm, mJf, mRm, sIm, sJm, rwIm, rwJm, kN, nN, rN, true_and, stN hk.st]
  refine d54 hk.p hk.w ho (ifn (by decide) ?_)
  simp only [mKm, mNm, mIm, mIf, mJm, mJf, mRm, sIm, sJm, rwIm, rwJm, kN, nN, rN, true_and, stN hk.st, ix h6 (by decide), ix h7 (by decide), hk.r1 ht, hk.r1 ho]
  rw [nI_add, show (2 : Int32) = nI 2 from rfl, pk_div (by omega) (by decide) (by decide)]
  exact b80_0_43 ⟨rfl, h _ (Fr.rfl.u2 (by simp [sl])) (hk.set rfl (hk.v.up (by omega) (by omega) (by omega) (by omega) (by omega) (by omega) (by omega)))⟩
theorem m_pred {n : Nat} (hn : n < 2 ^ 30) : (if (0 : Int32) < nI n - 1 then nI n - 1 else 0) = nI (n - 1) := m_max0 (b := 1) hn (by decide)
theorem d81 {t : Nat} (hk : KS I s π σ) (ht : t < nT π) (h : ∀ I', Fr (sl s) I I' → KS I' s π (pruneF σ t) → Pv (mem r I' J)) : CV G (d + 3) 81 [.ref s, .int (nI t)] (mem r I J) Pv := by
  have hT := hk.w.t
  have h6 : t < 6 := by omega
  have hv := (hk.v.2.1 t ht).1
  refine e81 ?_
  simp only [mKm, mNm, mIm, mIf, mJm, mJf, mRm, sIm, sJm, rwIm, rwJm, kN, nN, rN, true_and, stN hk.st]
  refine d54 hk.p hk.w ht (ifn (by decide) ?_)
  simp only [mKm, mNm, mIm, mIf, mJm, mJf, mRm, sIm, sJm, rwIm, rwJm, kN, nN, rN, true_and, stN hk.st, ix h6 (by decide), hk.r1 ht]
  refine c286 ?_
  rw [m_pred (by omega)]
  simp only [mKm, mNm, mIm, mIf, mJm, mJf, mRm, sIm, sJm, rwIm, rwJm, kN, nN, rN, true_and, stN hk.st, ix h6 (by decide)]
  exact h _ (Fr.rfl.u2 (by simp [sl])) (hk.set rfl (hk.v.up (by omega) (by omega) (by omega) (by omega) (by omega) (by omega) (by omega)))
end
