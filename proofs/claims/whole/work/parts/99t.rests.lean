/-! rests, as a number or none -/
def pyF (o t b l g : Int32) : Int32 := if ¬ o = 1 then (if ¬ t = 1 then 0 else g) else (if ¬ t = 1 then -l else b)
def sy1 (b l g k : Int32) : Bool := decide (¬ pyF (k / 2) (k - k / 2 * 2) b l g < pyF (1 - k / 2) (k - k / 2 * 2) b l g)
def sy2 (b l g k : Int32) : Bool := decide (¬ pyF (k - k / 2 * 2) (k / 2) b l g < pyF (1 - (k - k / 2 * 2)) (k / 2) b l g)
def syF (b l g k : Int32) : Bool := sy1 b l g k && sy2 b l g k
/-- the first of so many that is the one asked for -/
def rsF (w : Int32) : List (Bool × Int32) → Int32 → Option Int32
  | [], n => if w = -1 then some n else none
  | x :: t, n => if x.1 = true then (if n = w then some x.2 else rsF w t (n + 1)) else rsF w t n
def r4 (b l g : Int32) : List (Bool × Int32) := [(syF b l g 0, 0), (syF b l g 1, 1), (syF b l g 2, 2), (syF b l g 3, 3)]
def okp (x : Int32) : Prop := 0 ≤ x ∧ x ≤ 9
noncomputable def restF (b l g w : Int32) : Option Int32 := @ite _ (okp b ∧ okp l ∧ okp g) (Classical.propDecidable _) (rsF w (r4 b l g) 0) none
/-- what the other side counts, and finds -/
def rnS (w : Int32) (y : Bool × Int32) (x : Int32 × Int32) : Int32 × Int32 := if y.1 = true then (x.1 + 1, if x.1 = w then y.2 else x.2) else x
def rnFo (w : Int32) : List (Bool × Int32) → Int32 × Int32 → Int32 × Int32
  | [], x => x
  | y :: t, x => rnFo w t (rnS w y x)
theorem rn_rs : ∀ (s0 s1 s2 s3 : Bool) (w : Int32), ¬ w < -1 → (∃ v, rsF w [(s0, 0), (s1, 1), (s2, 2), (s3, 3)] 0 = some v ∧ ((w < 0 ∧ v = (rnFo w [(s0, 0), (s1, 1), (s2, 2), (s3, 3)] (0, -1)).1) ∨ (¬ w < 0 ∧ ¬ (rnFo w [(s0, 0), (s1, 1), (s2, 2), (s3, 3)] (0, -1)).2 < 0 ∧ v = (rnFo w [(s0, 0), (s1, 1), (s2, 2), (s3, 3)] (0, -1)).2))) ∨ (rsF w [(s0, 0), (s1, 1), (s2, 2), (s3, 3)] 0 = none ∧ ¬ w < 0 ∧ (rnFo w [(s0, 0), (s1, 1), (s2, 2), (s3, 3)] (0, -1)).2 < 0) := by
  intro s0 s1 s2 s3 w hw
  by_cases e1 : w = -1
  · subst e1; cases s0 <;> cases s1 <;> cases s2 <;> cases s3 <;> exact Or.inl ⟨_, rfl, Or.inl ⟨by decide, by decide⟩⟩
  have hw0 : ¬ w < 0 := fun z => by
    have h1 := Int32.lt_iff_toInt_lt.mp z
    have h2 : ¬ w.toInt < (-1 : Int32).toInt := fun q => hw (Int32.lt_iff_toInt_lt.mpr q)
    have h3 : (0 : Int32).toInt = 0 := rfl
    have h4 : (-1 : Int32).toInt = -1 := rfl
    rw [h3] at h1
    rw [h4] at h2
    exact e1 (Int32.toInt_inj.mp (by rw [h4]; omega))
  by_cases g0 : w = 0
  · subst g0; cases s0 <;> cases s1 <;> cases s2 <;> cases s3 <;> first | exact Or.inl ⟨_, rfl, Or.inr ⟨by decide, by decide, by decide⟩⟩ | exact Or.inr ⟨by decide, by decide, by decide⟩
  by_cases g1 : w = 1
  · subst g1; cases s0 <;> cases s1 <;> cases s2 <;> cases s3 <;> first | exact Or.inl ⟨_, rfl, Or.inr ⟨by decide, by decide, by decide⟩⟩ | exact Or.inr ⟨by decide, by decide, by decide⟩
  by_cases g2 : w = 2
  · subst g2; cases s0 <;> cases s1 <;> cases s2 <;> cases s3 <;> first | exact Or.inl ⟨_, rfl, Or.inr ⟨by decide, by decide, by decide⟩⟩ | exact Or.inr ⟨by decide, by decide, by decide⟩
  by_cases g3 : w = 3
  · subst g3; cases s0 <;> cases s1 <;> cases s2 <;> cases s3 <;> first | exact Or.inl ⟨_, rfl, Or.inr ⟨by decide, by decide, by decide⟩⟩ | exact Or.inr ⟨by decide, by decide, by decide⟩
  have h0 : ¬ (0 : Int32) = w := fun z => g0 z.symm
  have h1 : ¬ (1 : Int32) = w := fun z => g1 z.symm
  have h2 : ¬ (2 : Int32) = w := fun z => g2 z.symm
  have h3 : ¬ (3 : Int32) = w := fun z => g3 z.symm
  have a1 : (0 : Int32) + 1 = 1 := rfl
  have a2 : (1 : Int32) + 1 = 2 := rfl
  have a3 : (2 : Int32) + 1 = 3 := rfl
  refine Or.inr ⟨?_, hw0, ?_⟩
  · cases s0 <;> cases s1 <;> cases s2 <;> cases s3 <;> simp [rsF, h0, h1, h2, h3, e1, a1, a2, a3]
  · cases s0 <;> cases s1 <;> cases s2 <;> cases s3 <;> simp [rnFo, rnS, h0, h1, h2, h3, a1, a2, a3] <;> decide
theorem rs_lt {w : Int32} (hw : w < -1) : ∀ (l : List (Bool × Int32)) (n : Int32), (∀ k, k < l.length → ¬ n + nI k = w) → rsF w l n = none := by
  intro l
  induction l with
  | nil =>
    intro n _
    unfold rsF
    rw [if_neg (fun z => by rw [z] at hw; exact absurd hw (by decide))]
  | cons x t ih =>
    intro n hn
    have h0 := hn 0 (by simp)
    have h0 : ¬ n = w := fun z => h0 (by rw [z]; exact Int32.add_zero w)
    unfold rsF
    by_cases q : x.1 = true
    · rw [if_pos q, if_neg h0]
      refine ih (n + 1) (fun k hk z => hn (k + 1) (by simp; omega) ?_)
      rw [← z, Int32.add_assoc]
      congr 1
      show nI (k + 1) = 1 + nI k
      rw [Int32.add_comm]
      exact (nI_1 k).symm
    · rw [if_neg q]
      exact ih n (fun k hk => hn k (by simp; omega))
section
variable {G : GG} {d : Nat} {P : Int32 → mm_M → Prop} {Pv : mm_M → Prop} {Q : Option Value → mm_M → Prop} {r : Nat → Nat} {I : Nat → Nat → Int32} {J : Nat → Nat → Int64} {π : PLN} {σ : Nat → Nat → Nat} {M : mm_M} {Z : Nat → List Value → List Value → mm_M → Prop} {b l g w n : Int32}
theorem c158 {o t : Int32} (h : P (pyF o t b l g) M) : CI G (d + 1) 158 [.int o, .int t, .int b, .int l, .int g] M P := by
  unfold pyF at h
  refine e158 (ifb (fun q => ?_) (fun q => ?_))
  · rw [if_pos q] at h
    exact ifb (fun q2 => by rw [if_pos q2] at h; exact h) (fun q2 => by rw [if_neg q2] at h; exact h)
  · rw [if_neg q] at h
    exact ifb (fun q2 => by rw [if_pos q2] at h; exact h) (fun q2 => by rw [if_neg q2] at h; exact h)
theorem c266 {o t : Int32} (h : P (pyF o t b l g) M) : CI G (d + 1) 266 [.int o, .int t, .int b, .int l, .int g] M P := by
  unfold pyF at h
  refine e266 (ifb (fun q => ?_) (fun q => ?_))
  · rw [if_pos q] at h
    exact ifb (fun q2 => by rw [if_pos q2] at h; exact h) (fun q2 => by rw [if_neg q2] at h; exact h)
  · rw [if_neg q] at h
    exact ifb (fun q2 => by rw [if_pos q2] at h; exact h) (fun q2 => by rw [if_neg q2] at h; exact h)
/-- a step of the class -/
theorem s156 {a : Nat} {k k1 : Int32} (hA : ZA G (d + 1) Q Z) (hL : ZL Z) (hk : ¬ 4 ≤ k) (hk1 : k + 1 = k1) (h : if syF b l g k = true then (if n = w then Q (some (.int k)) M else Z 38 [.ref a, .int b, .int l, .int g, .int w, .int (n + 1), .int k1, jk, jk, jk, jk] [] M) else Z 38 [.ref a, .int b, .int l, .int g, .int w, .int n, .int k1, jk, jk, jk, jk] [] M) : Z 38 [.ref a, .int b, .int l, .int g, .int w, .int n, .int k, jk, jk, jk, jk] [] M := by
  subst hk1
  have e1 : ∀ x, x = sy1 b l g k → ∀ y, y = sy2 b l g k → (if (x && y) = true then (if n = w then Q (some (.int k)) M else Z 38 [.ref a, .int b, .int l, .int g, .int w, .int (n + 1), .int (k + 1), jk, jk, jk, jk] [] M) else Z 38 [.ref a, .int b, .int l, .int g, .int w, .int n, .int (k + 1), jk, jk, jk, jk] [] M) := fun x hx y hy => by rw [hx, hy]; exact h
  refine z156_38 hA hL (ifn hk (z156_38_56 hA hL (c158 (c158 (ifb (fun q1 => c158 (c158 (ifb (fun q2 => ?_) (fun q2 => ?_)))) (fun q1 => c158 (c158 (ifb (fun q2 => ?_) (fun q2 => ?_)))))))))
  · exact z156_117_120 hA hL (ifp rfl (e1 false (by unfold sy1; exact (decide_eq_false (fun z => z q1)).symm) false (by unfold sy2; exact (decide_eq_false (fun z => z q2)).symm)))
  · exact z156_118_120 hA hL (ifp rfl (e1 false (by unfold sy1; exact (decide_eq_false (fun z => z q1)).symm) true (by unfold sy2; exact (decide_eq_true q2).symm)))
  · exact z156_117_120 hA hL (ifn (by decide) (ifp rfl (e1 true (by unfold sy1; exact (decide_eq_true q1).symm) false (by unfold sy2; exact (decide_eq_false (fun z => z q2)).symm))))
  · have e2 := e1 true (by unfold sy1; exact (decide_eq_true q1).symm) true (by unfold sy2; exact (decide_eq_true q2).symm)
    have e2 : if n = w then Q (some (.int k)) M else Z 38 [.ref a, .int b, .int l, .int g, .int w, .int (n + 1), .int (k + 1), jk, jk, jk, jk] [] M := e2
    refine z156_118_120 hA hL (ifn (by decide) (ifn (by decide) (ifb (fun q3 => ?_) (fun q3 => ?_))))
    · rw [if_neg q3] at e2
      exact z156_140_146 hA hL e2
    · rw [if_pos (Decidable.not_not.mp q3)] at e2
      exact e2
theorem w157 {x : Int32} (hy : okp x → P 1 M) (hn : ¬ okp x → P 0 M) : CI G (d + 1) 157 [.int x] M P :=
  e157 (ifb (fun q => hn (fun z => absurd q (Int32.not_lt.mpr z.1))) (fun q => ifb (fun q2 => hn (fun z => absurd q2 (Int32.not_lt.mpr z.2))) (fun q2 => hy ⟨Int32.not_lt.mp q, Int32.not_lt.mp q2⟩)))
/-- rests of the class: it returns what restF says, or comes to a throw -/
theorem z156 {a : Nat} (hA : ZA G (d + 1) Q Z) (hL : ZL Z) (hq : ∀ v, restF b l g w = some v → Q (some (.int v)) M) (h21 : restF b l g w = none → Z 21 [.ref a, .int b, .int l, .int g, .int w, jk, jk, jk, jk, jk, jk] [] M) (h155 : restF b l g w = none → ∀ n k, Z 155 [.ref a, .int b, .int l, .int g, .int w, .int n, .int k, jk, jk, jk, jk] [] M) : Z 0 [.ref a, .int b, .int l, .int g, .int w, jk, jk, jk, jk, jk, jk] [] M := by
  by_cases ok : okp b ∧ okp l ∧ okp g
  · have e : restF b l g w = rsF w (r4 b l g) 0 := if_pos ok
    rw [e] at hq h155
    refine z156_0 hA (w157 (fun _ => ifn (by decide) (w157 (fun _ => ifn (by decide) (w157 (fun _ => ifp (by decide) ?_) (fun z => absurd ok.2.2 z))) (fun z => absurd ok.2.1 z))) (fun z => absurd ok.1 z))
    have fin : ∀ n, (∀ v, (if w = -1 then some n else none) = some v → Q (some (.int v)) M) → ((if w = -1 then some n else none) = none → Z 155 [.ref a, .int b, .int l, .int g, .int w, .int n, .int 4, jk, jk, jk, jk] [] M) → Z 38 [.ref a, .int b, .int l, .int g, .int w, .int n, .int 4, jk, jk, jk, jk] [] M := fun n f1 f2 =>
      z156_38 hA hL (ifp (by decide) (ifb (fun q => f1 n (if_pos q)) (fun q => f2 (if_neg q))))
    have stp : ∀ (k k1 : Int32) (t : List (Bool × Int32)) (n : Int32), ¬ 4 ≤ k → k + 1 = k1 → (∀ n, (∀ v, rsF w t n = some v → Q (some (.int v)) M) → (rsF w t n = none → ∀ m j, Z 155 [.ref a, .int b, .int l, .int g, .int w, .int m, .int j, jk, jk, jk, jk] [] M) → Z 38 [.ref a, .int b, .int l, .int g, .int w, .int n, .int k1, jk, jk, jk, jk] [] M) → (∀ v, rsF w ((syF b l g k, k) :: t) n = some v → Q (some (.int v)) M) → (rsF w ((syF b l g k, k) :: t) n = none → ∀ m j, Z 155 [.ref a, .int b, .int l, .int g, .int w, .int m, .int j, jk, jk, jk, jk] [] M) → Z 38 [.ref a, .int b, .int l, .int g, .int w, .int n, .int k, jk, jk, jk, jk] [] M := fun k k1 t n hk hk1 ih f1 f2 => by
      refine s156 hA hL hk hk1 ?_
      by_cases q : syF b l g k = true
      · have eq : rsF w ((syF b l g k, k) :: t) n = if n = w then some k else rsF w t (n + 1) := by
          show (if syF b l g k = true then _ else _) = _
          rw [if_pos q]
        rw [eq] at f1 f2
        rw [if_pos q]
        by_cases q2 : n = w
        · rw [if_pos q2] at f1 ⊢
          exact f1 k rfl
        · rw [if_neg q2] at f1 f2 ⊢
          exact ih (n + 1) f1 f2
      · have eq : rsF w ((syF b l g k, k) :: t) n = rsF w t n := by
          show (if syF b l g k = true then _ else _) = _
          rw [if_neg q]
        rw [eq] at f1 f2
        rw [if_neg q]
        exact ih n f1 f2
    refine stp 0 1 [(syF b l g 1, 1), (syF b l g 2, 2), (syF b l g 3, 3)] 0 (by decide) (by decide) (fun n1 => stp 1 2 [(syF b l g 2, 2), (syF b l g 3, 3)] n1 (by decide) (by decide) (fun n2 => stp 2 3 [(syF b l g 3, 3)] n2 (by decide) (by decide) (fun n3 => stp 3 4 [] n3 (by decide) (by decide) (fun n4 f1 f2 => fin n4 f1 (fun z => f2 z n4 4))))) hq h155
  · have e : restF b l g w = none := if_neg ok
    have h21 := h21 e
    refine z156_0 hA (w157 (fun o1 => ifn (by decide) (w157 (fun o2 => ifn (by decide) (w157 (fun o3 => absurd ⟨o1, o2, o3⟩ ok) (fun _ => ifn (fun z => z rfl) h21))) (fun _ => ifp rfl h21))) (fun _ => ifp rfl h21))
/-- a step of the other side -/
theorem s265 {f k k1 : Int32} (hk : ¬ 4 ≤ k) (hk1 : k + 1 = k1) (h : ∀ n' f', (n', f') = (if syF b l g k = true then (n + 1, if n = w then k else f) else (n, f)) → XX G (d + 1) (some .int) P265 Q 52 [.ref 247, .int b, .int l, .int g, .int w, .int 1, .int n', .int f', .int k1, jk, jk, jk] [] (mem r I J)) : XX G (d + 1) (some .int) P265 Q 52 [.ref 247, .int b, .int l, .int g, .int w, .int 1, .int n, .int f, .int k, jk, jk, jk] [] (mem r I J) := by
  subst hk1
  have no : syF b l g k = false → XX G (d + 1) (some .int) P265 Q 149 [.ref 247, .int b, .int l, .int g, .int w, .int 1, .int n, .int f, .int k, .int (k / 2), .int (k - k / 2 * 2), .int 0] [] (mem r I J) := fun e => by
    have := h n f (by rw [e]; rfl)
    refine x265_149 (ifp rfl (b265_164_168 ?_))
    rw [Int32.add_zero]
    exact this
  refine x265_52 (ifn hk (ifn (by decide) (b265_52_75 (c266 (c266 (ifb (fun q1 => x265_129 (no ?_)) (fun q1 => c266 (c266 (ifb (fun q2 => x265_129 (no ?_)) (fun q2 => ?_))))))))))
  · unfold syF sy1
    rw [decide_eq_false (fun z => z q1)]
    rfl
  · unfold syF sy2
    rw [decide_eq_false (fun z => z q2), Bool.and_false]
  · have e : syF b l g k = true := by
      unfold syF sy1 sy2
      rw [decide_eq_true q1, decide_eq_true q2]
      rfl
    refine ifb (fun q3 => ?_) (fun q3 => ?_)
    · exact x265_149 (ifn (by decide) (b265_165_168 (h (n + 1) f (by rw [e, if_pos rfl, if_neg q3]))))
    · exact b265_151_153 (ifn (by decide) (b265_165_171 (h (n + 1) k (by rw [e, if_pos rfl, if_pos (Decidable.not_not.mp q3)]))))
theorem x265r {n f k m : Int32} (h1 : m = 0 → P 0 (mem r (u2 I 247 0 1) J)) (h2 : ¬ m = 0 → w < 0 → P n (mem r (u2 I 247 0 0) J)) (h3 : ¬ m = 0 → ¬ w < 0 → f < 0 → P 0 (mem r (u2 I 247 0 1) J)) (h4 : ¬ m = 0 → ¬ w < 0 → ¬ f < 0 → P f (mem r (u2 I 247 0 0) J)) : XX G d (some .int) P265 (QI P) 174 [.ref 247, .int b, .int l, .int g, .int w, .int m, .int n, .int f, .int k, jk, jk, jk] [] (mem r I J) := by
  have thr : P 0 (mem r (u2 I 247 0 1) J) → XX G d (some .int) P265 (QI P) 194 [.ref 247, .int b, .int l, .int g, .int w, .int m, .int n, .int f, .int k, jk, jk, jk] [.ref 247] (mem r I J) := fun hh => by
    refine x265_194 ?_
    simp only [mKm, mNm, mIm, mIf, mJm, mJf, mRm, sIm, sJm, rwIm, rwJm, kN, nN, rN, true_and, u2s]
    exact ifn (by decide) ⟨_, rfl, hh⟩
  refine x265_174 (ifb (fun q => thr (h1 q)) (fun q => ifb (fun q2 => ?_) (fun q2 => ifb (fun q3 => thr (h3 q q2 q3)) (fun q3 => ?_))))
  · simp only [mKm, mNm, mIm, mIf, mJm, mJf, mRm, sIm, sJm, rwIm, rwJm, kN, nN, rN, true_and, u2s]
    exact ifp (by decide) (ifn (fun z => absurd q2 (Int32.not_lt.mpr z)) ⟨_, rfl, h2 q q2⟩)
  · simp only [mKm, mNm, mIm, mIf, mJm, mJf, mRm, sIm, sJm, rwIm, rwJm, kN, nN, rN, true_and, u2s]
    exact ifp (by decide) (ifp (Int32.not_lt.mp q2) ⟨_, rfl, h4 q q2 q3⟩)
/-- rests of the other side -/
theorem m265 (hy : ∀ v, restF b l g w = some v → P v (mem r (u2 I 247 0 0) J)) (hn : restF b l g w = none → P 0 (mem r (u2 I 247 0 1) J)) : CI G (d + 2) 265 [.ref 247, .int b, .int l, .int g, .int w] (mem r I J) P := by
  have bad : restF b l g w = none → XX G (d + 1) (some .int) P265 (QI P) 40 [.ref 247, .int b, .int l, .int g, .int w, jk, jk, jk, jk, jk, jk, jk] [] (mem r I J) := fun e => x265_40 (b265_40_46 (x265_52 (ifn (by decide) (ifp rfl (x265r (fun _ => hn e) (fun z => absurd rfl z) (fun z => absurd rfl z) (fun z => absurd rfl z))))))
  have n1 : ∀ x : Int32, ¬ okp x → (if (0 : Int32) ≤ x ∧ x ≤ 9 then (1 : Int32) else 0) = 0 := fun x hx => if_neg hx
  have y1 : ∀ x : Int32, okp x → (if (0 : Int32) ≤ x ∧ x ≤ 9 then (1 : Int32) else 0) = 1 := fun x hx => if_pos hx
  refine e265 (m201 ?_)
  by_cases o1 : okp b
  · rw [y1 b o1]
    refine ifn (by decide) (m201 ?_)
    by_cases o2 : okp l
    · rw [y1 l o2]
      refine ifn (by decide) (m201 ?_)
      by_cases o3 : okp g
      · rw [y1 g o3]
        have e : restF b l g w = rsF w (r4 b l g) 0 := if_pos ⟨o1, o2, o3⟩
        have h0 : ∀ k, k < 4 → ¬ (0 : Int32) + nI k < -1 := by decide
        have hlt : w < -1 → restF b l g w = none := fun q => by
          rw [e]
          exact rs_lt q _ 0 (fun k hk z => h0 k hk (by rw [z]; exact q))
        refine ifn (by decide) (ifb (fun q => bad (hlt q)) (fun q => b265_41_46 ?_))
        · refine s265 (by decide) (show (0 : Int32) + 1 = 1 by decide) (fun n1 f1 e1 => s265 (by decide) (show (1 : Int32) + 1 = 2 by decide) (fun n2 f2 e2 => s265 (by decide) (show (2 : Int32) + 1 = 3 by decide) (fun n3 f3 e3 => s265 (by decide) (show (3 : Int32) + 1 = 4 by decide) (fun n4 f4 e4 => x265_52 (ifp (by decide) ?_)))))
          have er : (n4, f4) = rnFo w (r4 b l g) (0, -1) := by
            have s4 : (n4, f4) = rnS w (syF b l g 3, 3) (n3, f3) := e4
            have s3 : (n3, f3) = rnS w (syF b l g 2, 2) (n2, f2) := e3
            have s2 : (n2, f2) = rnS w (syF b l g 1, 1) (n1, f1) := e2
            have s1 : (n1, f1) = rnS w (syF b l g 0, 0) (0, -1) := e1
            rw [s4, s3, s2, s1]
            rfl
          have key := rn_rs (syF b l g 0) (syF b l g 1) (syF b l g 2) (syF b l g 3) w q
          rw [e] at hy hn
          have k2 : (∃ v, rsF w (r4 b l g) 0 = some v ∧ ((w < 0 ∧ v = n4) ∨ (¬ w < 0 ∧ ¬ f4 < 0 ∧ v = f4))) ∨ (rsF w (r4 b l g) 0 = none ∧ ¬ w < 0 ∧ f4 < 0) := by
            have t1 : n4 = (rnFo w (r4 b l g) (0, -1)).1 := by rw [← er]
            have t2 : f4 = (rnFo w (r4 b l g) (0, -1)).2 := by rw [← er]
            rw [t1, t2]
            exact key
          rcases k2 with ⟨v, hv, ⟨h1, rfl⟩ | ⟨h1, h2, rfl⟩⟩ | ⟨hv, h1, h2⟩
          · exact x265r (fun z => absurd z (by decide)) (fun _ _ => hy _ hv) (fun _ z => absurd h1 z) (fun _ z => absurd h1 z)
          · exact x265r (fun z => absurd z (by decide)) (fun _ z => absurd z h1) (fun _ _ z => absurd z h2) (fun _ _ _ => hy _ hv)
          · exact x265r (fun z => absurd z (by decide)) (fun _ z => absurd z h1) (fun _ _ _ => hn hv) (fun _ _ z => absurd h2 z)
      · rw [n1 g o3]
        exact ifp rfl (bad (if_neg (fun z => o3 z.2.2)))
    · rw [n1 l o2]
      exact ifp rfl (bad (if_neg (fun z => o2 z.2.1)))
  · rw [n1 b o1]
    exact ifp rfl (bad (if_neg (fun z => o1 z.1)))
end
