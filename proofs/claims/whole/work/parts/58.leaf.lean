/-! the other side: plan and state, what is asked of them -/
def of (k : Nat) : Nat := if k = 0 then 0 else if k = 1 then 1 else if k = 2 then 7 else if k = 3 then 13 else if k = 4 then 25 else if k = 5 then 19 else if k = 6 then 37 else 31
def nfF (π : PLN) : Nat := if nFr π = 0 then 1 else nFr π
def opF (x : Int32) : Int32 := if 0 ≤ x then 1 else if x ≤ -9 then 2 else if x = -1 then 3 else if x = -6 then 4 else if x = -7 then 5 else if x = -8 then 6 else if x = -4 then 7 else if x = -5 then 8 else if x = -2 then 9 else 10
def agF (x : Int32) : Int32 := if 0 ≤ x then x else if x ≤ -9 then -9 - x else 0
def RP (I : Nat → Nat → Int32) (π : PLN) : Prop := (I 253 0 = nI (nT π) ∧ I 253 1 = nI (nP π) ∧ I 253 2 = nI (π.1 2 0) ∧ I 253 3 = nI (π.1 3 0) ∧ I 253 4 = nI (nfF π)) ∧ (∀ i, i < nfF π → I 253 (36 + i) = nI (if nFr π = 0 then 0 else π.1 12 i)) ∧ (∀ t, t < nT π → I 253 (6 + 3 * t + 0) = nI (π.1 5 t) ∧ I 253 (6 + 3 * t + 1) = nI (π.1 6 t) ∧ I 253 (6 + 3 * t + 2) = nI (π.1 7 t)) ∧ (∀ p, p < nP π → I 253 (24 + 2 * p + 0) = nI (π.1 9 p) ∧ I 253 (24 + 2 * p + 1) = nI (π.1 10 p)) ∧ (π.2 = [] ∧ I 253 5 = -1 ∨ π.2 ≠ [] ∧ I 253 5 = 0 ∧ I 254 π.2.length = 0 ∧ ∀ i, i < π.2.length → I 254 i = opF (π.2.getD i 0) ∧ I 255 i = agF (π.2.getD i 0))
def RS (π : PLN) (I : Nat → Nat → Int32) (b : Nat) (σ : Nat → Nat → Nat) : Prop := ∀ k i, k < 8 → i < lm π k → I 263 (b + of k + i) = enc k (σ k i)
def KR (I : Nat → Nat → Int32) (b : Nat) (π : PLN) (σ : Nat → Nat → Nat) : Prop := b + 43 ≤ 1380 ∧ RP I π ∧ WP π ∧ RS π I b σ ∧ WSt π σ
def Fs (b : Nat) (I I' : Nat → Nat → Int32) : Prop := (∀ a, a ∉ [261, 262, 263] → I' a = I a) ∧ ∀ k, (k < b ∨ b + 43 ≤ k) → I' 263 k = I 263 k
theorem eS (b p : Nat) : nI b + 0 = nI (b + 0) ∧ nI b + 1 + nI p = nI (b + 1 + p) ∧ nI b + 7 + nI p = nI (b + 7 + p) ∧ nI b + 13 + nI p = nI (b + 13 + p) ∧ nI b + 19 + nI p = nI (b + 19 + p) ∧ nI b + 25 + nI p = nI (b + 25 + p) ∧ nI b + 31 + nI p = nI (b + 31 + p) ∧ nI b + 37 + nI p = nI (b + 37 + p) :=
  ⟨nI_add b 0, (congrArg (· + nI p) (nI_add b 1)).trans (nI_add _ p), (congrArg (· + nI p) (nI_add b 7)).trans (nI_add _ p), (congrArg (· + nI p) (nI_add b 13)).trans (nI_add _ p), (congrArg (· + nI p) (nI_add b 19)).trans (nI_add _ p), (congrArg (· + nI p) (nI_add b 25)).trans (nI_add _ p), (congrArg (· + nI p) (nI_add b 31)).trans (nI_add _ p), (congrArg (· + nI p) (nI_add b 37)).trans (nI_add _ p)⟩
theorem eT (t : Nat) : (6 : Int32) + 3 * nI t + 0 = nI (6 + 3 * t + 0) ∧ (6 : Int32) + 3 * nI t + 1 = nI (6 + 3 * t + 1) ∧ (6 : Int32) + 3 * nI t + 2 = nI (6 + 3 * t + 2) ∧ (24 : Int32) + 2 * nI t + 0 = nI (24 + 2 * t + 0) ∧ (24 : Int32) + 2 * nI t + 1 = nI (24 + 2 * t + 1) := by
  have h3 : ∀ c : Nat, nI 6 + nI 3 * nI t + nI c = nI (6 + 3 * t + c) := fun c => by rw [pk_mul, nI_add, nI_add]
  have h2 : ∀ c : Nat, nI 24 + nI 2 * nI t + nI c = nI (24 + 2 * t + c) := fun c => by rw [pk_mul, nI_add, nI_add]
  exact ⟨h3 0, h3 1, h3 2, h2 0, h2 1⟩
theorem ixl {n N : Nat} {x : Int32} (e : x = nI n) (h : n < N) (hN : N ≤ 65536) : vp_in x N := by rw [e]; exact (ix h hN).1
section
variable {G : GG} {d : Nat} {P : Int32 → mm_M → Prop} {Pv : mm_M → Prop} {Q : Option Value → mm_M → Prop} {r : Nat → Nat} {I : Nat → Nat → Int32} {J : Nat → Nat → Int64} {π : PLN} {σ : Nat → Nat → Nat} {b : Nat}
theorem KR.bb (h : KR I b π σ) : b + 43 ≤ 1380 := h.1
theorem KR.p (h : KR I b π σ) : RP I π := h.2.1
theorem KR.w (h : KR I b π σ) : WP π := h.2.2.1
theorem KR.c (h : KR I b π σ) : RS π I b σ := h.2.2.2.1
theorem KR.v (h : KR I b π σ) : WSt π σ := h.2.2.2.2
theorem KR.r0 (h : KR I b π σ) : I 263 (b + 0) = nI (σ 0 0) := h.c 0 0 (by decide) Nat.one_pos
theorem KR.r1 (h : KR I b π σ) {i : Nat} (hi : i < nT π) : I 263 (b + 1 + i) = nI (σ 1 i) := h.c 1 i (by decide) hi
theorem KR.r2 (h : KR I b π σ) {i : Nat} (hi : i < nT π) : I 263 (b + 7 + i) = nI (σ 2 i) := h.c 2 i (by decide) hi
theorem KR.r3 (h : KR I b π σ) {i : Nat} (hi : i < nP π) : I 263 (b + 13 + i) = nI (σ 3 i) := h.c 3 i (by decide) hi
theorem KR.r4 (h : KR I b π σ) {i : Nat} (hi : i < nP π) : I 263 (b + 25 + i) = nI (σ 4 i) := h.c 4 i (by decide) hi
theorem KR.r5 (h : KR I b π σ) {i : Nat} (hi : i < nP π) : I 263 (b + 19 + i) = nI (σ 5 i) - 1 := h.c 5 i (by decide) hi
theorem KR.r6 (h : KR I b π σ) {i : Nat} (hi : i < nP π) : I 263 (b + 37 + i) = nI (σ 6 i) - 1 := h.c 6 i (by decide) hi
theorem KR.r7 (h : KR I b π σ) {i : Nat} (hi : i < nP π) : I 263 (b + 31 + i) = nI (σ 7 i) := h.c 7 i (by decide) hi
theorem RP.n0 (h : RP I π) : I 253 0 = nI (nT π) := h.1.1
theorem RP.n1 (h : RP I π) : I 253 1 = nI (nP π) := h.1.2.1
theorem RP.n2 (h : RP I π) : I 253 2 = nI (π.1 2 0) := h.1.2.2.1
theorem RP.n3 (h : RP I π) : I 253 3 = nI (π.1 3 0) := h.1.2.2.2.1
theorem RP.n4 (h : RP I π) : I 253 4 = nI (nfF π) := h.1.2.2.2.2
theorem RP.tr (h : RP I π) {t : Nat} (ht : t < nT π) : I 253 (6 + 3 * t + 0) = nI (π.1 5 t) ∧ I 253 (6 + 3 * t + 1) = nI (π.1 6 t) ∧ I 253 (6 + 3 * t + 2) = nI (π.1 7 t) := h.2.2.1 t ht
theorem RP.pe (h : RP I π) {p : Nat} (hp : p < nP π) : I 253 (24 + 2 * p + 0) = nI (π.1 9 p) ∧ I 253 (24 + 2 * p + 1) = nI (π.1 10 p) := h.2.2.2.1 p hp
theorem RP.fr_of {I' : Nat → Nat → Int32} (h : RP I π) (e1 : I' 253 = I 253) (e2 : I' 254 = I 254) (e3 : I' 255 = I 255) : RP I' π := by
  unfold RP
  rw [e1, e2, e3]
  exact h
theorem KR.fr (h : KR I b π σ) {I' : Nat → Nat → Int32} (hf : Fr [261, 262] I I') : KR I' b π σ :=
  ⟨h.bb, h.p.fr_of (hf _ (by decide)) (hf _ (by decide)) (hf _ (by decide)), h.w, fun k i h1 h2 => by rw [hf 263 (by decide)]; exact h.c k i h1 h2, h.v⟩
theorem m166 (hp : RP I π) (h : P (nI (nT π)) (mem r I J)) : CI G (d + 1) 166 [.ref 247] (mem r I J) P := by
  refine e166 ?_
  simp only [mKm, mNm, mIm, mIf, mJm, mJf, mRm, sIm, sJm, rwIm, rwJm, kN, nN, rN, true_and, hp.n0, ix0 (show 0 < 100 by decide)]
  exact h
theorem m168 (hp : RP I π) (h : P (nI (nP π)) (mem r I J)) : CI G (d + 1) 168 [.ref 247] (mem r I J) P := by
  refine e168 ?_
  simp only [mKm, mNm, mIm, mIf, mJm, mJf, mRm, sIm, sJm, rwIm, rwJm, kN, nN, rN, true_and, hp.n1]
  exact ⟨ixl (n := 1) rfl (by decide) (by decide), h⟩
theorem m167 {t : Nat} (hp : RP I π) (hw : WP π) (ht : t < nT π) (h : P (nI (π.1 5 t)) (mem r I J)) : CI G (d + 1) 167 [.ref 247, .int (nI t), .int 0] (mem r I J) P := by
  have h6 := hw.t
  refine e167 ?_
  simp only [mKm, mNm, mIm, mIf, mJm, mJf, mRm, sIm, sJm, rwIm, rwJm, kN, nN, rN, true_and, eT, ix (show 6 + 3 * t + 0 < 100 by omega) (by decide), hp.tr ht]
  exact h
theorem m167l {t : Nat} (hp : RP I π) (hw : WP π) (ht : t < nT π) (h : P (nI (π.1 6 t)) (mem r I J)) : CI G (d + 1) 167 [.ref 247, .int (nI t), .int 1] (mem r I J) P := by
  have h6 := hw.t
  refine e167 ?_
  simp only [mKm, mNm, mIm, mIf, mJm, mJf, mRm, sIm, sJm, rwIm, rwJm, kN, nN, rN, true_and, eT, ix (show 6 + 3 * t + 1 < 100 by omega) (by decide), hp.tr ht]
  exact h
theorem m167a {t : Nat} (hp : RP I π) (hw : WP π) (ht : t < nT π) (h : P (nI (π.1 7 t)) (mem r I J)) : CI G (d + 1) 167 [.ref 247, .int (nI t), .int 2] (mem r I J) P := by
  have h6 := hw.t
  refine e167 ?_
  simp only [mKm, mNm, mIm, mIf, mJm, mJf, mRm, sIm, sJm, rwIm, rwJm, kN, nN, rN, true_and, eT, ix (show 6 + 3 * t + 2 < 100 by omega) (by decide), hp.tr ht]
  exact h
theorem m169 {p : Nat} (hp : RP I π) (hw : WP π) (ht : p < nP π) (h : P (nI (π.1 9 p)) (mem r I J)) : CI G (d + 1) 169 [.ref 247, .int (nI p), .int 0] (mem r I J) P := by
  have h6 := hw.p
  refine e169 ?_
  simp only [mKm, mNm, mIm, mIf, mJm, mJf, mRm, sIm, sJm, rwIm, rwJm, kN, nN, rN, true_and, eT, ix (show 24 + 2 * p + 0 < 100 by omega) (by decide), hp.pe ht]
  exact h
theorem m169f {p : Nat} (hp : RP I π) (hw : WP π) (ht : p < nP π) (h : P (nI (π.1 10 p)) (mem r I J)) : CI G (d + 1) 169 [.ref 247, .int (nI p), .int 1] (mem r I J) P := by
  have h6 := hw.p
  refine e169 ?_
  simp only [mKm, mNm, mIm, mIf, mJm, mJf, mRm, sIm, sJm, rwIm, rwJm, kN, nN, rN, true_and, eT, ix (show 24 + 2 * p + 1 < 100 by omega) (by decide), hp.pe ht]
  exact h
theorem m203 {t : Nat} (hp : RP I π) (hw : WP π) (ht : t < nT π) (h : P 1 (mem r I J)) : CI G (d + 2) 203 [.ref 247, .int (nI t)] (mem r I J) P := by
  have h1 := hw.t
  refine e203 (ifn (nI_pos (by omega)) ?_)
  simp only [mKm, mNm, mIm, mIf, mJm, mJf, mRm, sIm, sJm, rwIm, rwJm, kN, nN, rN, true_and]
  exact m166 hp (ifn (nI_ge ht (by omega)) h)
theorem m203o {t : Int32} (hp : RP I π) (ht : ¬ (0 ≤ t ∧ t < nI (nT π))) (h : P 0 (mem r I J)) : CI G (d + 2) 203 [.ref 247, .int t] (mem r I J) P := by
  refine e203 (ifb (fun _ => h) (fun q => ?_))
  simp only [mKm, mNm, mIm, mIf, mJm, mJf, mRm, sIm, sJm, rwIm, rwJm, kN, nN, rN, true_and]
  exact m166 hp (ifp (Int32.not_lt.mp (fun q2 => ht ⟨Int32.not_lt.mp q, q2⟩)) h)
theorem m212 {t : Nat} (hp : RP I π) (hw : WP π) (ht : t < nP π) (h : P 1 (mem r I J)) : CI G (d + 2) 212 [.ref 247, .int (nI t)] (mem r I J) P := by
  have h1 := hw.p
  refine e212 (ifn (nI_pos (by omega)) ?_)
  simp only [mKm, mNm, mIm, mIf, mJm, mJf, mRm, sIm, sJm, rwIm, rwJm, kN, nN, rN, true_and]
  exact m168 hp (ifn (nI_ge ht (by omega)) h)
theorem m212o {t : Int32} (hp : RP I π) (ht : ¬ (0 ≤ t ∧ t < nI (nP π))) (h : P 0 (mem r I J)) : CI G (d + 2) 212 [.ref 247, .int t] (mem r I J) P := by
  refine e212 (ifb (fun _ => h) (fun q => ?_))
  simp only [mKm, mNm, mIm, mIf, mJm, mJf, mRm, sIm, sJm, rwIm, rwJm, kN, nN, rN, true_and]
  exact m168 hp (ifp (Int32.not_lt.mp (fun q2 => ht ⟨Int32.not_lt.mp q, q2⟩)) h)
theorem m201 {M : mm_M} {x y z : Int32} (h : P (if y ≤ x ∧ x ≤ z then 1 else 0) M) : CI G (d + 1) 201 [.int x, .int y, .int z] M P := by
  refine e201 (ifb (fun q => ?_) (fun q => ifb (fun q2 => ?_) (fun q2 => ?_)))
  · rw [if_neg (fun w => Int32.not_lt.mpr w.1 q)] at h; exact h
  · rw [if_neg (fun w => Int32.not_lt.mpr w.2 q2)] at h; exact h
  · rw [if_pos ⟨Int32.not_lt.mp q, Int32.not_lt.mp q2⟩] at h; exact h
theorem m205 (hk : KR I b π σ) (h : P (nI (frF π (σ 0 0))) (mem r I J)) : CI G (d + 1) 205 [.ref 247, .int (nI b)] (mem r I J) P := by
  have hb := hk.bb
  have hf := hk.w.f
  have hy := hk.v.1
  have hn : 0 < nfF π ∧ nfF π ≤ 12 := by unfold nfF; split <;> omega
  have hm : σ 0 0 % nfF π < nfF π := Nat.mod_lt _ hn.1
  have e : I 253 (36 + σ 0 0 % nfF π) = nI (frF π (σ 0 0)) := by
    rw [hk.p.2.1 _ hm]
    unfold frF nfF
    by_cases q : nFr π = 0
    · rw [if_pos q, if_pos q]
    · rw [if_neg q, if_neg q, if_neg q]
  refine e205 ?_
  simp only [mKm, mNm, mIm, mIf, mJm, mJf, mRm, sIm, sJm, rwIm, rwJm, kN, nN, rN, true_and, eS b 0, ix (show b + 0 < 1380 by omega) (by decide), hk.r0, hk.p.n4]
  rw [pk_rem (by omega) hn.1 (by omega)]
  have e2 : (36 : Int32) + nI (σ 0 0 % nfF π) = nI (36 + σ 0 0 % nfF π) := nI_add 36 _
  rw [e2]
  simp only [mKm, mNm, mIm, mIf, mJm, mJf, mRm, sIm, sJm, rwIm, rwJm, kN, nN, rN, true_and, ix (show 36 + σ 0 0 % nfF π < 100 by omega) (by decide), e]
  exact ⟨ixl (n := 4) rfl (by decide) (by decide), nI_ne0 hn.1 (by omega), h⟩
theorem m206 {t f : Nat} (hp : RP I π) (hw : WP π) (ht : t < nT π) (hf : f ≤ 3) (h : P (if f ≤ stn (π.1 5 t) then 1 else 0) (mem r I J)) : CI G (d + 2) 206 [.ref 247, .int (nI t), .int (nI f)] (mem r I J) P := by
  have h4 := (hw.tr ht).1
  have key : ∀ n : Nat, n < 4 → stn (π.1 5 t) = n → ifP (nI n < nI f) (P 0 (mem r I J)) (P 1 (mem r I J)) := fun n hn e => by
    rw [e] at h
    by_cases q : f ≤ n
    · rw [if_pos q] at h; exact ifn (nI_nlt q (by omega)) h
    · rw [if_neg q] at h; exact ifp (nI_lt (by omega) (by omega)) h
  refine e206 ?_
  simp only [mKm, mNm, mIm, mIf, mJm, mJf, mRm, sIm, sJm, rwIm, rwJm, kN, nN, rN, true_and]
  refine m167 hp hw ht ?_
  rcases (show π.1 5 t = 0 ∨ π.1 5 t = 1 ∨ π.1 5 t = 2 ∨ π.1 5 t = 3 by omega) with e | e | e | e <;> rw [e]
  · exact ifn (fun z => z rfl) (key 1 (by decide) (by rw [e]; rfl))
  · exact ifp (by decide) (ifn (fun z => z rfl) (key 3 (by decide) (by rw [e]; rfl)))
  · exact ifp (by decide) (ifp (by decide) (ifn (fun z => z rfl) (key 0 (by decide) (by rw [e]; rfl))))
  · exact ifp (by decide) (ifp (by decide) (ifp (by decide) (key 2 (by decide) (by rw [e]; rfl))))
theorem m223 {t : Nat} (hp : RP I π) (hw : WP π) (ht : t < nT π) (h : P (nI (rdn (π.1 5 t))) (mem r I J)) : CI G (d + 2) 223 [.ref 247, .int (nI t)] (mem r I J) P := by
  have h4 := (hw.tr ht).1
  refine e223 ?_
  simp only [mKm, mNm, mIm, mIf, mJm, mJf, mRm, sIm, sJm, rwIm, rwJm, kN, nN, rN, true_and]
  refine m167 hp hw ht ?_
  rcases (show π.1 5 t = 0 ∨ π.1 5 t = 1 ∨ π.1 5 t = 2 ∨ π.1 5 t = 3 by omega) with e | e | e | e <;> rw [e] at h ⊢
  · exact ifn (fun z => z rfl) h
  · exact ifp (by decide) (ifn (fun z => z rfl) h)
  · exact ifp (by decide) (ifp (by decide) (ifn (fun z => z rfl) h))
  · exact ifp (by decide) (ifp (by decide) (ifp (by decide) h))
theorem m204 {t : Nat} (hk : KR I b π σ) (ht : t < nT π) (h : P (if bearF π (σ 0 0) t then 1 else 0) (mem r I J)) : CI G (d + 3) 204 [.ref 247, .int (nI b), .int (nI t)] (mem r I J) P := by
  refine e204 ?_
  simp only [mKm, mNm, mIm, mIf, mJm, mJf, mRm, sIm, sJm, rwIm, rwJm, kN, nN, rN, true_and]
  refine m205 hk ?_
  simp only [mKm, mNm, mIm, mIf, mJm, mJf, mRm, sIm, sJm, rwIm, rwJm, kN, nN, rN, true_and]
  refine m206 hk.p hk.w ht (frF_le hk.w _) ⟨?_, ?_⟩
  · split <;> decide
  · unfold bearF at h
    simp only [decide_eq_true_eq] at h
    exact h
theorem m209 {M : mm_M} {x u v : Int32} (hx : -9 < x ∧ x < -1) (h : P (op2 x u v) M) : CI G (d + 1) 209 [.int (opF x), .int u, .int v] M P := by
  have hc : x = -2 ∨ x = -3 ∨ x = -4 ∨ x = -5 ∨ x = -6 ∨ x = -7 ∨ x = -8 := by
    have h1 := Int32.lt_iff_toInt_lt.mp hx.1
    have h2 := Int32.lt_iff_toInt_lt.mp hx.2
    have e1 : (-9 : Int32).toInt = -9 := rfl
    have e2 : (-1 : Int32).toInt = -1 := rfl
    rw [e1] at h1
    rw [e2] at h2
    have key : ∀ (n : Int32) (z : Int), n.toInt = z → x.toInt = z → x = n := fun n z q1 q2 => Int32.toInt_inj.mp (q2.trans q1.symm)
    rcases (show x.toInt = -2 ∨ x.toInt = -3 ∨ x.toInt = -4 ∨ x.toInt = -5 ∨ x.toInt = -6 ∨ x.toInt = -7 ∨ x.toInt = -8 by omega) with e | e | e | e | e | e | e
    · exact Or.inl (key _ _ rfl e)
    · exact Or.inr (Or.inl (key _ _ rfl e))
    · exact Or.inr (Or.inr (Or.inl (key _ _ rfl e)))
    · exact Or.inr (Or.inr (Or.inr (Or.inl (key _ _ rfl e))))
    · exact Or.inr (Or.inr (Or.inr (Or.inr (Or.inl (key _ _ rfl e)))))
    · exact Or.inr (Or.inr (Or.inr (Or.inr (Or.inr (Or.inl (key _ _ rfl e))))))
    · exact Or.inr (Or.inr (Or.inr (Or.inr (Or.inr (Or.inr (key _ _ rfl e))))))
  refine e209 ?_
  rcases hc with rfl | rfl | rfl | rfl | rfl | rfl | rfl
  · refine ifn (by decide) (ifn (by decide) (ifn (by decide) (ifn (by decide) (ifn (by decide) (ifp (by decide) ?_)))))
    have h : P (if u = 0 ∨ v = 0 then 0 else 1) M := h
    exact ifb (fun q => by rw [if_pos (Or.inl q)] at h; exact h) (fun q => ifb (fun q2 => by rw [if_pos (Or.inr q2)] at h; exact h) (fun q2 => by rw [if_neg (fun z => z.elim q q2)] at h; exact h))
  · refine ifn (by decide) (ifn (by decide) (ifn (by decide) (ifn (by decide) (ifn (by decide) (ifn (by decide) ?_)))))
    have h : P (if u = 0 ∧ v = 0 then 0 else 1) M := h
    exact ifb (fun q => by rw [if_neg (fun z => q z.1)] at h; exact h) (fun q => ifb (fun q2 => by rw [if_pos ⟨Decidable.not_not.mp q, q2⟩] at h; exact h) (fun q2 => by rw [if_neg (fun z => q2 z.2)] at h; exact h))
  · refine ifn (by decide) (ifn (by decide) (ifn (by decide) (ifp (by decide) ?_)))
    have h : P (if u < v then 1 else 0) M := h
    exact ifb (fun q => by rw [if_neg (Int32.not_lt.mpr q)] at h; exact h) (fun q => by rw [if_pos (Int32.not_le.mp q)] at h; exact h)
  · refine ifn (by decide) (ifn (by decide) (ifn (by decide) (ifn (by decide) (ifp (by decide) ?_))))
    have h : P (if u = v then 1 else 0) M := h
    exact ifb (fun q => by rw [if_neg q] at h; exact h) (fun q => by rw [if_pos (Decidable.not_not.mp q)] at h; exact h)
  · exact ifp (by decide) h
  · exact ifn (by decide) (ifp (by decide) h)
  · exact ifn (by decide) (ifn (by decide) (ifp (by decide) h))
end
