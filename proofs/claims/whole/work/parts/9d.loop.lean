/-! the law's loop -/
def bmp (M : mm_M) : mm_M := (M.1, M.2.1, M.2.2.1, M.2.2.2.1, u2 (u2 M.2.2.2.2.1 55 100 (mR M 55 100 + 1)) 55 101 (mR M 55 101 + 6), mS M + 1, mW M + 6)
/-- the law's own rests: what it answers, what it makes -/
def EXR : Nat → Nat → List Value → mm_M → Option Value → mm_M → Prop := fun _ j a M r M1 => j = 291 ∧ ∃ b l g w, a = [.ref 1, .int b, .int l, .int g, .int w, .ref 269] ∧ (mK M 1 = 11 ∧ mK M 269 = 15 ∧ mN M 269 = 1 ∧ mK M 55 = 18 ∧ mN M 55 = 16) ∧ ((∃ v, restF b l g w = some v ∧ r = some (.int 0) ∧ M1 = sJ M 269 0 v.toInt64) ∨ (restF b l g w = none ∧ r = some (.int 1) ∧ M1 = bmp M))
section
variable {G : GG} {d y i : Nat} {P : Int32 → mm_M → Prop} {Q : Option Value → mm_M → Prop} {M : mm_M} {K F : mm_M → Prop}
theorem c291 {b l g w : Int32} (hG : G.2.2 = EXR) (hM : mK M 1 = 11 ∧ mK M 269 = 15 ∧ mN M 269 = 1 ∧ mK M 55 = 18 ∧ mN M 55 = 16) (h0 : ∀ v, restF b l g w = some v → P 0 (sJ M 269 0 v.toInt64)) (h1 : restF b l g w = none → P 1 (bmp M)) : CI G (d + 1) 291 [.ref 1, .int b, .int l, .int g, .int w, .ref 269] M P := by
  have hP : PP 291 = none := rfl
  have key : ∀ r M1, EXR d 291 [.ref 1, .int b, .int l, .int g, .int w, .ref 269] M r M1 → Cl G (d + 1) 291 [.ref 1, .int b, .int l, .int g, .int w, .ref 269] M r M1 := fun r M1 h => by
    show Ev G.1 G.2.1 ac kd PP G.2.2 (d + 1) 291 _ M r M1
    unfold Ev
    rw [hP, hG]
    exact h
  cases e : restF b l g w with
  | some v => exact ⟨0, _, key _ _ ⟨rfl, b, l, g, w, rfl, hM, Or.inl ⟨v, e, rfl, rfl⟩⟩, h0 v e⟩
  | none => exact ⟨1, _, key _ _ ⟨rfl, b, l, g, w, rfl, hM, Or.inr ⟨e, rfl, rfl⟩⟩, h1 e⟩
theorem bmp_mem {r : Nat → Nat} {I : Nat → Nat → Int32} {J : Nat → Nat → Int64} : bmp (mem r I J) = mem (u1 (u1 r 100 (r 100 + 1)) 101 (r 101 + 6)) I J := by
  have e : u2 (u2 (rF r) 55 100 (r 100 + 1)) 55 101 (r 101 + 6) = rF (u1 (u1 r 100 (r 100 + 1)) 101 (r 101 + 6)) := by
    funext x k
    unfold u2 u1 rF
    by_cases h : x = 55
    · simp only [h, if_true]
    · simp only [h, if_false]
  show (kF, nF, I, J, u2 (u2 (rF r) 55 100 (r 100 + 1)) 55 101 (r 101 + 6), 270 + r 100 + 1, 16619 + r 101 + 6) = _
  rw [e]
  rfl
theorem EQ.go {j j' : Nat} {as : List Value} (h : EQ G d j j' y as M) (hj : j < 290 ∧ inj j = false) (hj' : j' < 290 ∧ inj j' = false) (hK : ∀ N, PR (y + 1) N → mS N = mS M ∧ mW N = mW M → K N) : CI G d j (.ref 1 :: as) M (fun v1 N2 => mK N2 247 = 12 ∧ CI G d j' (.ref 247 :: as) N2 (fun v3 N4 => ifP (v1 = v3) (K N4) (F N4))) :=
  CI_mono (CI_keep hj.1 hj.2 h) (fun v N hN => ⟨hN.1.1, CI_mono (CI_keep hj'.1 hj'.2 hN.1.2) (fun w N' h' => ifp h'.1.1 (hK N' h'.1.2 ⟨h'.2.1.trans hN.2.1, h'.2.2.trans hN.2.2⟩))⟩)
theorem PR.up (h : PR y M) : PR (y + 1) M := by
  obtain ⟨r, I, J, π, σ, us, ms, fe, ln, nm, tp, e, hA, hR, hY⟩ := h
  exact ⟨r, I, J, π, σ, us, ms, fe, ln, nm, tp, e, hA, hR, hY.mono (by omega)⟩
theorem cmp_self (x : Int64) : lg_cmp x x = 0 := by
  unfold lg_cmp
  simp
theorem st31 {l4 : Int32} (hG : G.2.2 = EXR) (pr : PR y M) (p1 : vp_in (l4 + (1 : Int32)) G.1) (p2 : vp_in (l4 + (2 : Int32)) G.1) (p3 : vp_in (l4 + (3 : Int32)) G.1) (p4 : vp_in (l4 + (4 : Int32)) G.1) (hK : ∀ N, PR (y + 1) N → mS N ≤ mS M + 1 ∧ mW N ≤ mW M + 6 → XX G (d + 40) (some .boolean) P290 Q 1328 [.retAddr 300, .ref 1, .ref 247, .ref 269, .int l4, jk, jk] [] N) : XX G (d + 40) (some .boolean) P290 Q 1109 [.retAddr 300, .ref 1, .ref 247, .ref 269, .int l4, jk, jk] [] M := by
  obtain ⟨r, I, J, π, σ, us, ms, fe, ln, nm, tp, rfl, hA, hR, hY⟩ := pr
  have fin : ∀ (r' : Nat → Nat) (v : Int32) (J' : Nat → Nat → Int64), (∀ i, i < 16 → r' i = r i) → (∀ a, a ≠ 269 → J' a = J a) → PR (y + 1) (mem r' (u2 I 247 0 v) J') := fun r' v J' hr hJ => by
    have hA1 : CA r (u2 I 247 0 v) J' π σ us ms fe ln nm tp := hA.hi (fun a ha => u2n (by omega)) (fun a ha => hJ a (by omega))
    have hR1 : RA (u2 I 247 0 v) J' π σ us ms fe ln nm tp := hR.q hA.ma.len hA.wf.1 ⟨fun a ha => u2n (by simp at ha; omega), fun k _ => by rw [u2n (by decide)], fun k hk => u2i (by simp at hk; omega), hJ 252 (by decide), hJ 256 (by decide)⟩
    obtain ⟨q1, ⟨a1, a2, a3, a4, a5⟩, q3⟩ := hA1
    refine ⟨r', _, J', π, σ, us, ms, fe, ln, nm, tp, rfl, ⟨q1, ⟨a1, a2, fun i hi => by rw [hr i hi]; exact a3 i hi, fun i j hi hj e => a4 i j hi hj (by rw [← hr i hi, ← hr j hj]; exact e), fun i hi => by rw [hr i (by omega)]; exact a5 i hi⟩, q3⟩, hR1, hY.mono (by omega)⟩
  refine x290_1109 ⟨p1, p2, p3, p4, c291 (d := d + 39) hG ⟨rfl, rfl, rfl, rfl, rfl⟩ (fun v e => ⟨p1, p2, p3, p4, rfl, ?_⟩) (fun e => ⟨p1, p2, p3, p4, rfl, ?_⟩)⟩
  · rw [sJm]
    refine m265 (d := d + 38) (fun v' e' => ?_) (fun e' => by rw [e] at e'; cases e')
    have ev : v' = v := by rw [e] at e'; exact (Option.some.inj e').symm
    subst ev
    refine b290_1109_1170 ⟨rfl, e159 ⟨rfl, ifp (show u2 I 247 0 0 247 0 = 0 from u2s) (x290_1181 (ifn (fun z => z rfl) ⟨⟨rfl, vp_in_nI (n := 0) (N := 1) (by decide) (by decide)⟩, ifp ?_ (hK _ (fin r 0 _ (fun _ _ => rfl) (fun a ha => u2n ha)) ⟨Nat.le_succ _, by show 16619 + r 101 ≤ 16619 + r 101 + 6; omega⟩)⟩))⟩⟩
    show lg_cmp (u2 J 269 0 v'.toInt64 269 0) v'.toInt64 = 0
    rw [u2s]
    exact cmp_self _
  · rw [bmp_mem]
    refine m265 (d := d + 38) (fun v' e' => by rw [e] at e'; cases e') (fun e' => ?_)
    refine b290_1109_1170 ⟨rfl, e159 ⟨rfl, ifp (show u2 I 247 0 1 247 0 = 1 from u2s) (x290_1181 (ifp (by decide) (hK _ (fin _ 1 J (fun i hi => ?_) (fun _ _ => rfl)) ⟨Nat.le_refl _, Nat.le_refl _⟩)))⟩⟩
    unfold u1
    rw [if_neg (by omega), if_neg (by omega)]
theorem step {i : Nat} (hG : G.2.2 = EXR) (hL : G.1 ≤ 3584) (pr : PR y M) (hy : y ≤ 5000) (hi : i + 7 ≤ G.1) (hK : ∀ N, PR (y + 1) N → mS N ≤ mS M + 1 ∧ mW N ≤ mW M + 6 → XX G (d + 40) (some .boolean) P290 Q 1328 [.retAddr 300, .ref 1, .ref 247, .ref 269, .int (nI i), jk, jk] [] N) (hlt : ¬ (Int32.ofNat (xln G.1 300) - (7 : Int32)) < nI i) : XX G (d + 40) (some .boolean) P290 Q 23 [.retAddr 300, .ref 1, .ref 247, .ref 269, .int (nI i), jk, jk] [] M := by
  have pk : ∀ k, k < 7 → vp_in (nI i + nI k) G.1 := fun k hk => by rw [nI_add]; exact vp_in_nI (by omega) (by omega)
  have p0 : vp_in (nI i) G.1 := vp_in_nI (by omega) (by omega)
  have p1 : vp_in (nI i + (1 : Int32)) G.1 := pk 1 (by decide)
  have p2 : vp_in (nI i + (2 : Int32)) G.1 := pk 2 (by decide)
  have p3 : vp_in (nI i + (3 : Int32)) G.1 := pk 3 (by decide)
  have p4 : vp_in (nI i + (4 : Int32)) G.1 := pk 4 (by decide)
  have p5 : vp_in (nI i + (5 : Int32)) G.1 := pk 5 (by decide)
  have p6 : vp_in (nI i + (6 : Int32)) G.1 := pk 6 (by decide)
  have k1 : mK M 1 = 11 := by obtain ⟨r, I, J, π, σ, us, ms, fe, ln, nm, tp, rfl, -⟩ := pr; rfl
  have go : ∀ N, PR (y + 1) N → mS N = mS M ∧ mW N = mW M → XX G (d + 40) (some .boolean) P290 Q 1328 [.retAddr 300, .ref 1, .ref 247, .ref 269, .int (nI i), jk, jk] [] N := fun N h1 h2 => hK N h1 ⟨by omega, by omega⟩
  have hD := go M pr.up ⟨rfl, rfl⟩
  exact x290_23 (ifn hlt ⟨p0, ifb (fun _ => x290_196 ⟨p1, p2, p3, p4, p5, p6, k1, CI_mono (EQ.go (L108 pr _ _ _) ⟨by decide, by decide⟩ ⟨by decide, by decide⟩ go) (fun _ _ hN => ⟨p1, p2, p3, p4, p5, p6, hN⟩)⟩) (fun _ => ifb (fun _ => x290_343 ⟨k1, EQ.go (L110 pr) ⟨by decide, by decide⟩ ⟨by decide, by decide⟩ go⟩) (fun _ => ifb (fun _ => x290_356 ⟨k1, EQ.go (L111 (d := d + 28) pr) ⟨by decide, by decide⟩ ⟨by decide, by decide⟩ go⟩) (fun _ => ifb (fun _ => x290_369 ⟨p1, p2, k1, CI_mono (EQ.go (L112 pr _ _) ⟨by decide, by decide⟩ ⟨by decide, by decide⟩ go) (fun _ _ hN => ⟨p1, p2, hN⟩)⟩) (fun _ => ifb (fun _ => x290_406 ⟨p1, p2, k1, CI_mono (EQ.go (L113 pr _ _) ⟨by decide, by decide⟩ ⟨by decide, by decide⟩ go) (fun _ _ hN => ⟨p1, p2, hN⟩)⟩) (fun _ => ifb (fun _ => x290_443 ⟨p1, p2, k1, CI_mono (EQ.go (L114 pr _ _) ⟨by decide, by decide⟩ ⟨by decide, by decide⟩ go) (fun _ _ hN => ⟨p1, p2, hN⟩)⟩) (fun _ => ifb (fun _ => x290_480 ⟨p1, p2, k1, CI_mono (EQ.go (L115 pr _ _) ⟨by decide, by decide⟩ ⟨by decide, by decide⟩ go) (fun _ _ hN => ⟨p1, p2, hN⟩)⟩) (fun _ => ifb (fun _ => x290_517 ⟨p1, p2, k1, CI_mono (EQ.go (L116 pr _ _) ⟨by decide, by decide⟩ ⟨by decide, by decide⟩ go) (fun _ _ hN => ⟨p1, p2, hN⟩)⟩) (fun _ => ifb (fun _ => x290_554 ⟨p1, p2, k1, CI_mono (EQ.go (L117 pr _ _) ⟨by decide, by decide⟩ ⟨by decide, by decide⟩ go) (fun _ _ hN => ⟨p1, p2, hN⟩)⟩) (fun _ => ifb (fun _ => x290_591 ⟨p1, k1, CI_mono (EQ.go (L118 pr _) ⟨by decide, by decide⟩ ⟨by decide, by decide⟩ go) (fun _ _ hN => ⟨p1, hN⟩)⟩) (fun _ => ifb (fun _ => x290_616 ⟨k1, EQ.go (L119 pr hy) ⟨by decide, by decide⟩ ⟨by decide, by decide⟩ go⟩) (fun _ => ifb (fun _ => x290_629 ⟨k1, EQ.go (L120 pr) ⟨by decide, by decide⟩ ⟨by decide, by decide⟩ go⟩) (fun _ => ifb (fun _ => x290_642 ⟨p1, k1, CI_mono (EQ.go (L121 pr _) ⟨by decide, by decide⟩ ⟨by decide, by decide⟩ go) (fun _ _ hN => ⟨p1, hN⟩)⟩) (fun _ => ifb (fun _ => x290_667 ⟨p1, k1, CI_mono (EQ.go (L122 pr _) ⟨by decide, by decide⟩ ⟨by decide, by decide⟩ go) (fun _ _ hN => ⟨p1, hN⟩)⟩) (fun _ => ifb (fun _ => x290_692 ⟨p1, k1, CI_mono (EQ.go (L125 pr _) ⟨by decide, by decide⟩ ⟨by decide, by decide⟩ go) (fun _ _ hN => ⟨p1, hN⟩)⟩) (fun _ => ifb (fun _ => x290_717 ⟨p1, k1, CI_mono (EQ.go (L127 pr _) ⟨by decide, by decide⟩ ⟨by decide, by decide⟩ go) (fun _ _ hN => ⟨p1, hN⟩)⟩) (fun _ => ifb (fun _ => x290_742 ⟨p1, k1, CI_mono (EQ.go (L130 pr _) ⟨by decide, by decide⟩ ⟨by decide, by decide⟩ go) (fun _ _ hN => ⟨p1, hN⟩)⟩) (fun _ => ifb (fun _ => x290_767 ⟨p1, k1, CI_mono (EQ.go (L131 pr _) ⟨by decide, by decide⟩ ⟨by decide, by decide⟩ go) (fun _ _ hN => ⟨p1, hN⟩)⟩) (fun _ => ifb (fun _ => x290_792 ⟨p1, k1, CI_mono (EQ.go (L132 pr _) ⟨by decide, by decide⟩ ⟨by decide, by decide⟩ go) (fun _ _ hN => ⟨p1, hN⟩)⟩) (fun _ => ifb (fun _ => x290_817 ⟨p1, k1, CI_mono (EQ.go (L137 pr hy _) ⟨by decide, by decide⟩ ⟨by decide, by decide⟩ go) (fun _ _ hN => ⟨p1, hN⟩)⟩) (fun _ => ifb (fun _ => x290_842 ⟨p1, p2, k1, CI_mono (EQ.go (L138 pr hy _ _) ⟨by decide, by decide⟩ ⟨by decide, by decide⟩ go) (fun _ _ hN => ⟨p1, p2, hN⟩)⟩) (fun _ => ifb (fun _ => x290_879 ⟨p1, p2, ifb (fun q => x290_899 ⟨k1, CI_mono (EQ.go (L139 pr _ false) ⟨by decide, by decide⟩ ⟨by decide, by decide⟩ go) (fun _ _ hN => ⟨p1, p2, ifp q hN⟩)⟩) (fun q => x290_900 ⟨k1, CI_mono (EQ.go (L139 pr _ true) ⟨by decide, by decide⟩ ⟨by decide, by decide⟩ go) (fun _ _ hN => ⟨p1, p2, ifn q hN⟩)⟩)⟩) (fun _ => ifb (fun _ => x290_932 ⟨p1, k1, CI_mono (EQ.go (L140 pr _) ⟨by decide, by decide⟩ ⟨by decide, by decide⟩ go) (fun _ _ hN => ⟨p1, hN⟩)⟩) (fun _ => ifb (fun _ => ⟨k1, EQ.go (L141 pr) ⟨by decide, by decide⟩ ⟨by decide, by decide⟩ go⟩) (fun _ => ifb (fun _ => ⟨k1, EQ.go (L143 pr) ⟨by decide, by decide⟩ ⟨by decide, by decide⟩ go⟩) (fun _ => ifb (fun _ => ⟨k1, EQ.go (L144 pr) ⟨by decide, by decide⟩ ⟨by decide, by decide⟩ go⟩) (fun _ => ifb (fun _ => ⟨k1, EQ.go (L145 pr) ⟨by decide, by decide⟩ ⟨by decide, by decide⟩ go⟩) (fun _ => ifb (fun _ => ⟨k1, EQ.go (L146 pr) ⟨by decide, by decide⟩ ⟨by decide, by decide⟩ go⟩) (fun _ => ifb (fun _ => ⟨k1, EQ.go (L147 pr) ⟨by decide, by decide⟩ ⟨by decide, by decide⟩ go⟩) (fun _ => ifb (fun _ => x290_1035 ⟨p1, k1, CI_mono (EQ.go (L148 pr _) ⟨by decide, by decide⟩ ⟨by decide, by decide⟩ go) (fun _ _ hN => ⟨p1, hN⟩)⟩) (fun _ => ifb (fun _ => x290_1060 ⟨p1, p2, p3, k1, CI_mono (EQ.go (L149 pr hy _ _ _) ⟨by decide, by decide⟩ ⟨by decide, by decide⟩ go) (fun _ _ hN => ⟨p1, p2, p3, hN⟩)⟩) (fun _ => ifb (fun _ => st31 hG pr p1 p2 p3 p4 hK) (fun _ => ifb (fun _ => x290_1201 ⟨p1, p2, p3, k1, CI_mono (EQ.go (L151 pr hy _ _ _) ⟨by decide, by decide⟩ ⟨by decide, by decide⟩ go) (fun _ _ hN => ⟨p1, p2, p3, hN⟩)⟩) (fun _ => ifb (fun _ => x290_1250 ⟨p1, p2, ifb (fun q => x290_1270 ⟨k1, CI_mono (EQ.go (L154 pr _ false) ⟨by decide, by decide⟩ ⟨by decide, by decide⟩ go) (fun _ _ hN => ⟨p1, p2, ifp q hN⟩)⟩) (fun q => x290_1271 ⟨k1, CI_mono (EQ.go (L154 pr _ true) ⟨by decide, by decide⟩ ⟨by decide, by decide⟩ go) (fun _ _ hN => ⟨p1, p2, ifn q hN⟩)⟩)⟩) (fun _ => ifb (fun _ => x290_1303 ⟨p1, k1, CI_mono (EQ.go (L155 pr _) ⟨by decide, by decide⟩ ⟨by decide, by decide⟩ go) (fun _ _ hN => ⟨p1, hN⟩)⟩) (fun _ => hD)))))))))))))))))))))))))))))))))))⟩)
theorem lt7 {i L : Nat} (hL : L ≤ 3584) (hi : i ≤ 3591) : (Int32.ofNat L - (7 : Int32)) < nI i ↔ L < i + 7 := by
  by_cases h : 7 ≤ L
  · have e : Int32.ofNat L - (7 : Int32) = nI (L - 7) := by
      have : Int32.ofNat L = nI (L - 7) + nI 7 := by rw [nI_add]; show nI L = _; congr 1; omega
      rw [this]
      exact Int32.add_sub_cancel _ _
    rw [e]
    constructor
    · intro z
      have := fun q => Int32.not_le.mpr z ((nI_leI (a := i) (b := L - 7) (by omega) (by omega)).mpr q)
      exact Nat.lt_of_not_le (fun q => this (by omega))
    · intro z
      exact Int32.not_le.mp (fun q => absurd ((nI_leI (a := i) (b := L - 7) (by omega) (by omega)).mp q) (by omega))
  · have h0 : ∀ L, L < 7 → (Int32.ofNat L - (7 : Int32)).toInt < 0 := by decide
    have h1 := h0 L (by omega)
    have h2 : (0 : Int32) ≤ nI i := nI_pos' (by omega)
    have h3 := Int32.le_iff_toInt_le.mp h2
    have h4 : (0 : Int32).toInt = 0 := rfl
    rw [h4] at h3
    exact ⟨fun _ => by omega, fun _ => Int32.lt_iff_toInt_lt.mpr (by omega)⟩
theorem loop290 (hG : G.2.2 = EXR) (hL : G.1 ≤ 3584) (hQ : ∀ M, mS M ≤ 270 + 513 ∧ mW M ≤ 16619 + 6 * 513 → Q (some (.int 1)) M) : ∀ n y M, G.1 ≤ 7 * y + 7 * n → y ≤ 512 → PR y M → mS M ≤ 270 + y ∧ mW M ≤ 16619 + 6 * y → XX G (d + 40) (some .boolean) P290 Q 23 [.retAddr 300, .ref 1, .ref 247, .ref 269, .int (nI (7 * y)), jk, jk] [] M := by
  have en : ∀ y M, y ≤ 512 → mS M ≤ 270 + y ∧ mW M ≤ 16619 + 6 * y → G.1 < 7 * y + 7 → XX G (d + 40) (some .boolean) P290 Q 23 [.retAddr 300, .ref 1, .ref 247, .ref 269, .int (nI (7 * y)), jk, jk] [] M := fun y M hy hs h => x290_23 (ifp ((lt7 hL (by omega)).mpr h) (hQ M ⟨by omega, by omega⟩))
  intro n
  induction n with
  | zero => intro y M h hy _ hs; exact en y M hy hs (by omega)
  | succ n ih =>
    intro y M h hy pr hs
    by_cases q : G.1 < 7 * y + 7
    · exact en y M hy hs q
    · refine step hG hL pr (by omega) (by omega) (fun N pn hn => x290_1328 ?_) (fun z => q ((lt7 hL (by omega)).mp z))
      have e7 : nI (7 * y) + (7 : Int32) = nI (7 * (y + 1)) := nI_add (7 * y) 7
      rw [e7]
      exact ih (y + 1) N (by omega) (by omega) pn ⟨by omega, by omega⟩
theorem run290 (hG : G.2.2 = EXR) (hL : G.1 ≤ 3584) (hQ : ∀ M, mS M ≤ 270 + 513 ∧ mW M ≤ 16619 + 6 * 513 → Q (some (.int 1)) M) : XX G (d + 40) (some .boolean) P290 Q 0 [.retAddr 300, jk, jk, jk, jk, jk, jk] [] (memQ 1 Iz Jz Rz 0) :=
  x290b (d := d + 35) (fun M pr hs => loop290 hG hL hQ 512 0 M (by omega) (by decide) pr ⟨by omega, by omega⟩)
end
