/-! the other side cuts all tokens -/
def poF (tp : List Nat) : Nat → Nat
  | 0 => 0
  | i + 1 => (tkF tp (poF tp i)).2.2
def soF (tp : List Nat) (i : Nat) : Nat := (tkF tp (poF tp i)).1
def plF (tp : List Nat) (i : Nat) : Nat := (tkF tp (poF tp i)).2.1
def enF (tp : List Nat) (i : Nat) : Nat := (tkF tp (poF tp i)).2.2
def rkF (tp : List Nat) (i : Nat) : List Nat := rkW tp (plF tp i) (enF tp i - plF tp i)
def nuF (tp : List Nat) (i : Nat) : Nat := eB 10 (dgW tp (plF tp i) (enF tp i - plF tp i))
def sgF (tp : List Nat) (i : Nat) : Nat := chF tp (plF tp i)
theorem po_b (tp : List Nat) : ∀ i, poF tp i ≤ tp.length := by
  intro i
  induction i with
  | zero => exact Nat.zero_le _
  | succ i ih => exact (tk_b ih).2.2.1
theorem tok_b (tp : List Nat) (i : Nat) : poF tp i ≤ plF tp i ∧ plF tp i ≤ enF tp i ∧ enF tp i ≤ tp.length ∧ (soF tp i ≠ 0 → plF tp i < enF tp i) ∧ soF tp i ≤ 4 := tk_b (po_b tp i)
def vOK (J : Nat → Nat → Int64) (tp : List Nat) (i : Nat) : Prop := (soF tp i = 1 → J 251 i = lN (eB 37 (rkF tp i))) ∧ (soF tp i = 2 → J 251 i = lN (nuF tp i)) ∧ (soF tp i = 3 → J 251 i = lN (sgF tp i))
/-- the tokens ahead of n lie in the rows -/
def MTK (I : Nat → Nat → Int32) (J : Nat → Nat → Int64) (tp : List Nat) (n : Nat) : Prop := ∀ i, i < n → I 249 i = nI (soF tp i) ∧ I 250 i = nI (plF tp i) ∧ soF tp i ≠ 0 ∧ vOK J tp i
def TKS (I : Nat → Nat → Int32) (J : Nat → Nat → Int64) (tp : List Nat) (n : Nat) : Prop := n ≤ 1000 ∧ soF tp n = 0 ∧ MTK I J tp n ∧ I 249 n = 0 ∧ I 250 n = nI (plF tp n)
def Fct (I I' : Nat → Nat → Int32) (J J' : Nat → Nat → Int64) : Prop := (∀ a, a ≠ 247 → a ≠ 249 → a ≠ 250 → I' a = I a) ∧ (∀ k, k ≠ 2 → k ≠ 3 → k ≠ 7 → k ≠ 8 → I' 247 k = I 247 k) ∧ ∀ a, a ≠ 251 → J' a = J a
section
variable {G : GG} {d : Nat} {P : Int32 → mm_M → Prop} {Pv : mm_M → Prop} {Q : Option Value → mm_M → Prop} {r : Nat → Nat} {I : Nat → Nat → Int32} {J : Nat → Nat → Int64} {π : PLN} {σ : Nat → Nat → Nat} {tp : List Nat} {y : Nat}
theorem m175 {M : mm_M} {c : Nat} (hc : c < 2 ^ 31) (h : P (bI (isG c)) M) : CI G (d + 1) 175 [.int (nI c)] M P := by
  have key : ∀ k : Nat, k < 2 ^ 31 → (nI c = nI k ↔ c = k) := fun k hk => nI_eq hc hk
  unfold isG at h
  have step : ∀ {k : Nat} {b : Bool} {A : Prop}, k < 2 ^ 31 → P (bI (c == k || b)) M → (P (bI b) M → A) → ifP (nI c = nI k) (P 1 M) A := fun {k b A} hk hh hA => by
    rw [key k hk]
    refine ifb (fun q => ?_) (fun q => hA ?_)
    · rw [q, beq_self_eq_true, Bool.true_or] at hh; exact hh
    · rw [beq_false_of_ne q, Bool.false_or] at hh; exact hh
  refine e175 (step (k := 40) (by decide) h (fun h => step (k := 41) (by decide) h (fun h => step (k := 59) (by decide) h (fun h => step (k := 61) (by decide) h (fun h => step (k := 60) (by decide) h (fun h => step (k := 43) (by decide) h (fun h => step (k := 45) (by decide) h (fun h => ?_))))))))
  rw [show (42 : Int32) = nI 42 from rfl, key 42 (by decide)]
  refine ifb (fun q => ?_) (fun q => ?_)
  · rw [beq_false_of_ne q] at h; exact h
  · rw [Decidable.not_not] at q
    rw [q] at h; exact h
theorem m173 {M : mm_M} {c : Nat} (hl : isL c = true) (h : P (nI (c - 96)) M) : CI G (d + 2) 173 [.int (nI c)] M P := by
  have hb := hl
  unfold isL at hb
  simp only [Bool.and_eq_true, decide_eq_true_eq] at hb
  refine e173 (c172 (by omega) ?_)
  rw [hl]
  refine ifn (by decide) ?_
  rw [show (96 : Int32) = nI 96 from rfl, pk_sub (by omega)]
  exact h
theorem Fct.u {I0 I' : Nat → Nat → Int32} {J0 J' : Nat → Nat → Int64} {a k : Nat} {v : Int32} (h : Fct I0 I' J0 J') (ha : a = 249 ∨ a = 250) : Fct I0 (u2 I' a k v) J0 J' := ⟨fun x x1 x2 x3 => by rw [u2n (by omega)]; exact h.1 x x1 x2 x3, fun k k1 k2 k3 k4 => by rw [u2n (by omega)]; exact h.2.1 k k1 k2 k3 k4, h.2.2⟩
theorem Fct.s {I0 I' : Nat → Nat → Int32} {J0 J' : Nat → Nat → Int64} {k : Nat} {v : Int32} (h : Fct I0 I' J0 J') (hk : k = 2 ∨ k = 3 ∨ k = 7 ∨ k = 8) : Fct I0 (u2 I' 247 k v) J0 J' := ⟨fun x x1 x2 x3 => by rw [u2n x1]; exact h.1 x x1 x2 x3, fun j k1 k2 k3 k4 => by rw [u2i (by omega)]; exact h.2.1 j k1 k2 k3 k4, h.2.2⟩
theorem Fct.j {I0 I' : Nat → Nat → Int32} {J0 J' : Nat → Nat → Int64} {k : Nat} {v : Int64} (h : Fct I0 I' J0 J') : Fct I0 I' J0 (u2 J' 251 k v) := ⟨h.1, h.2.1, fun a ha => by rw [u2n ha]; exact h.2.2 a ha⟩
/-- a token is laid -/
theorem MTK.lay {n s p : Nat} {v : Int64} (h : MTK I J tp n) (hs : soF tp n = s) (hp : plF tp n = p) (h0 : s ≠ 0) (hv : (s = 1 → v = lN (eB 37 (rkF tp n))) ∧ (s = 2 → v = lN (nuF tp n)) ∧ (s = 3 → v = lN (sgF tp n))) : MTK (u2 (u2 I 250 n (nI p)) 249 n (nI s)) (u2 J 251 n v) tp (n + 1) := fun i hi => by
  by_cases e : i = n
  · subst e
    refine ⟨by rw [u2s, hs], by rw [u2n (by decide), u2s, hp], by rw [hs]; exact h0, ?_⟩
    unfold vOK
    rw [hs, u2s]
    exact hv
  · obtain ⟨g1, g2, g3, g4⟩ := h i (by omega)
    refine ⟨by rw [u2i e, u2n (by decide)]; exact g1, by rw [u2n (by decide), u2i e]; exact g2, g3, ?_⟩
    unfold vOK
    rw [u2i e]
    exact g4
theorem m171 (ht : TB I tp) (hw : WT tp) (h : ∀ I' J' n, Fct I I' J J' → TKS I' J' tp n → I' 247 2 = 0 → I' 247 7 = 0 → I' 247 8 = 0 → Pv (mem r I' J')) : CV G (d + 4) 171 [.ref 247] (mem r I J) Pv := by
  have hl := hw.1
  have main : ∀ f k n (I1 : Nat → Nat → Int32) (J1 : Nat → Nat → Int64), k + f = tp.length → n ≤ k → tkF tp (poF tp n) = tkF tp k → Fct I I1 J J1 → I1 247 3 = nI tp.length → I1 247 2 = 0 → MTK I1 J1 tp n → XX G (d + 3) none P171 (QV Pv) 17 [.ref 247, .int (nI n), .int (nI k), jk, jk, jk, jk] [] (mem r I1 J1) := by
    intro f
    induction f using Nat.strongRecOn with
    | _ f ih =>
      intro k n I1 J1 hkf hnk htk hf1 h3 h2 hM
      have h248 : ∀ i, i < tp.length → I1 248 i = nI (chF tp i) := fun i hi => by rw [hf1.1 248 (by decide) (by decide) (by decide)]; exact ht.2 i hi
      have hn2 : n < 1002 := by omega
      by_cases q : tp.length ≤ k
      · have hk : k = tp.length := by omega
        have e : tkF tp k = (0, k, k) := by unfold tkF; rw [re_end q, if_pos q]
        refine x171_17 ?_
        have h3' : u2 I1 249 n 0 247 3 = nI tp.length := by rw [u2n (by decide)]; exact h3
        simp only [mKm, mNm, mIm, mIf, mJm, mJf, mRm, sIm, sJm, rwIm, rwJm, kN, nN, rN, true_and, h3, ix hn2 (by decide), h3']
        refine ifp (nI_le q (by omega)) (b171_279_296 ?_)
        simp only [mKm, mNm, mIm, mIf, mJm, mJf, mRm, sIm, sJm, rwIm, rwJm, kN, nN, rN, true_and]
        refine ⟨rfl, h _ J1 n ((((hf1.u (Or.inl rfl)).u (Or.inr rfl)).s (by decide)).s (by decide)) ⟨by omega, by unfold soF; rw [htk, e], fun i hi => ?_, ?_, ?_⟩ ?_ ?_ ?_⟩
        · obtain ⟨g1, g2, g3, g4⟩ := hM i hi
          refine ⟨?_, ?_, g3, g4⟩
          · rw [u2n (by decide), u2n (by decide), u2n (by decide), u2i (by omega)]; exact g1
          · rw [u2n (by decide), u2n (by decide), u2i (by omega), u2n (by decide)]; exact g2
        · rw [u2n (by decide), u2n (by decide), u2n (by decide), u2s]
        · rw [u2n (by decide), u2n (by decide), u2s]
          unfold plF; rw [htk, e, hk]
        · rw [u2i (by decide), u2i (by decide), u2n (by decide), u2n (by decide)]; exact h2
        · rw [u2i (by decide), u2s]
        · exact u2s
      · have hkl : k < tp.length := by omega
        have hc := hw.ch hkl
        have e248 := h248 k hkl
        refine x171_17 ?_
        simp only [mKm, mNm, mIm, mIf, mJm, mJf, mRm, sIm, sJm, rwIm, rwJm, kN, nN, rN, true_and, h3, ix (show k < 1000 by omega) (by decide), e248]
        refine ifn (nI_ge hkl (by omega)) ?_
        have blank : isB (chF tp k) = true → XX G (d + 3) none P171 (QV Pv) 17 [.ref 247, .int (nI n), .int (nI k + 1), jk, jk, jk, jk] [] (mem r I1 J1) := fun hb => by
          rw [nI_1]
          exact ih (f - 1) (by omega) (k + 1) n I1 J1 (by omega) (by omega) (by rw [htk, tk_blank hkl hb]) hf1 h3 h2 hM
        rw [show (10 : Int32) = nI 10 from rfl, show (32 : Int32) = nI 32 from rfl, nI_eq (by omega) (by decide), nI_eq (by omega) (by decide)]
        refine ifb (fun q1 => b171_44_47 (blank (by unfold isB; rw [q1]; rfl))) (fun q1 => ifb (fun q2 => b171_50_53 ?_) (fun q2 => b171_17_47 (blank ?_)))
        · have hnb : isB (chF tp k) = false := by unfold isB; rw [beq_false_of_ne q1, beq_false_of_ne q2]; rfl
          have hr : reF isB tp k = k := re_no hnb
          have hpl : plF tp n = k := by unfold plF; rw [htk, tk_pl, hr]
          simp only [mKm, mNm, mIm, mIf, mJm, mJf, mRm, sIm, sJm, rwIm, rwJm, kN, nN, rN, true_and, ix hn2 (by decide)]
          -- the token is laid, and on
          have lay : ∀ (k' s : Nat) (v : Int64), tkF tp k = (s, k, k') → s ≠ 0 → k < k' → k' ≤ tp.length → ((s = 1 → v = lN (eB 37 (rkW tp k (k' - k)))) ∧ (s = 2 → v = lN (eB 10 (dgW tp k (k' - k)))) ∧ (s = 3 → v = lN (chF tp k))) → XX G (d + 3) none P171 (QV Pv) 17 [.ref 247, .int (nI n + 1), .int (nI k'), jk, jk, jk, jk] [] (mem r (u2 (u2 I1 250 n (nI k)) 249 n (nI s)) (u2 J1 251 n v)) := fun k' s v e hs0 hkk hkl' hv => by
            have es : soF tp n = s := by unfold soF; rw [htk, e]
            have een : enF tp n = k' := by unfold enF; rw [htk, e]
            rw [nI_1]
            refine ih (tp.length - k') (by omega) k' (n + 1) _ _ (by omega) (by omega) (by show tkF tp (enF tp n) = _; rw [een]) (((hf1.u (Or.inr rfl)).u (Or.inl rfl)).j) (by rw [u2n (by decide), u2n (by decide)]; exact h3) (by rw [u2n (by decide), u2n (by decide)]; exact h2) (hM.lay es hpl hs0 ?_)
            unfold rkF nuF sgF
            rw [hpl, een]
            exact hv
          have h3' : u2 I1 250 n (nI k) 247 3 = nI tp.length := by rw [u2n (by decide)]; exact h3
          have h48' : ∀ i, i < tp.length → u2 I1 250 n (nI k) 248 i = nI (chF tp i) := fun i hi => by rw [u2n (by decide)]; exact h248 i hi
          refine c172 (by omega) ?_
          cases e1 : isL (chF tp k) with
          | true =>
            refine ifn (by decide) ?_
            have hrb := re_b (q := isL) (tp := tp) (k := k) (by omega)
            have hrs : k < reF isL tp k := by
              have := re_b (q := isL) (tp := tp) (k := k + 1) (by omega)
              rw [re_yes hkl e1]; omega
            have etk : tkF tp k = (if reF isL tp k - k ≤ 8 then 1 else 4, k, reF isL tp k) := by unfold tkF; rw [hr, if_neg q, if_pos e1]
            have fin : ∀ w, (reF isL tp k - k ≤ 8 → w = eB 37 (rkW tp k (reF isL tp k - k))) → XX G (d + 3) none P171 (QV Pv) 129 [.ref 247, .int (nI n), .int (nI (reF isL tp k)), .int (nI (chF tp k)), .int (nI k), .long (lN w), jk] [] (mem r (u2 I1 250 n (nI k)) J1) := fun w hwv => by
              refine x171_129 ?_
              simp only [mKm, mNm, mIm, mIf, mJm, mJf, mRm, sIm, sJm, rwIm, rwJm, kN, nN, rN, true_and, ix hn2 (by decide)]
              rw [pk_sub (by omega), show (8 : Int32) = nI 8 from rfl, nI_leI (by omega) (by decide)]
              refine ifb (fun q8 => b171_265_273 ?_) (fun q8 => b171_265_273 ?_)
              · rw [if_pos q8] at etk
                exact lay _ 1 _ etk (by decide) hrs hrb.2 ⟨fun _ => by rw [hwv q8], fun z => absurd z (by decide), fun z => absurd z (by decide)⟩
              · rw [if_neg q8] at etk
                exact lay _ 4 _ etk (by decide) hrs hrb.2 ⟨fun z => absurd z (by decide), fun z => absurd z (by decide), fun z => absurd z (by decide)⟩
            have loop : ∀ g j w, j + g = tp.length → k ≤ j → reF isL tp k = reF isL tp j → (j - k ≤ 8 → w = eB 37 (rkW tp k (j - k))) → XX G (d + 3) none P171 (QV Pv) 70 [.ref 247, .int (nI n), .int (nI j), .int (nI (chF tp k)), .int (nI k), .long (lN w), jk] [] (mem r (u2 I1 250 n (nI k)) J1) := by
              intro g
              induction g with
              | zero =>
                intro j w hj hkj hrj hwv
                refine x171_70 ?_
                simp only [mKm, mNm, mIm, mIf, mJm, mJf, mRm, sIm, sJm, rwIm, rwJm, kN, nN, rN, true_and, h3']
                refine ifp (nI_le (by omega) (by omega)) ?_
                have ej : reF isL tp j = j := re_end (by omega)
                rw [hrj, ej] at fin
                exact fin w hwv
              | succ g ihg =>
                intro j w hj hkj hrj hwv
                have hjl : j < tp.length := by omega
                have hcj := hw.ch hjl
                refine x171_70 ?_
                simp only [mKm, mNm, mIm, mIf, mJm, mJf, mRm, sIm, sJm, rwIm, rwJm, kN, nN, rN, true_and, h3', ix (show j < 1000 by omega) (by decide), h48' j hjl]
                refine ifn (nI_ge hjl (by omega)) (c172 (by omega) ?_)
                cases ej : isL (chF tp j) with
                | false =>
                  have er : reF isL tp j = j := re_no ej
                  rw [hrj, er] at fin
                  exact ifp rfl (fin w hwv)
                | true =>
                  refine ifn (by decide) ?_
                  have hrj' : reF isL tp k = reF isL tp (j + 1) := by rw [hrj, re_yes hjl ej]
                  rw [pk_sub (by omega), show (8 : Int32) = nI 8 from rfl, nI_leI (by decide) (by omega)]
                  refine ifb (fun q8 => b171_119_126 ?_) (fun q8 => ?_)
                  · rw [nI_1]
                    exact ihg (j + 1) w (by omega) (by omega) hrj' (fun z => by omega)
                  · simp only [mKm, mNm, mIm, mIf, mJm, mJf, mRm, sIm, sJm, rwIm, rwJm, kN, nN, rN, true_and, ix (show j < 1000 by omega) (by decide), h48' j hjl]
                    refine m173 ej (b171_121_126 ?_)
                    have hb := ej
                    unfold isL at hb
                    simp only [Bool.and_eq_true, decide_eq_true_eq] at hb
                    rw [nI_l (by omega), show (37 : Int64) = lN 37 from rfl, lN_mul, lN_add, nI_1]
                    refine ihg (j + 1) _ (by omega) (by omega) hrj' (fun _ => ?_)
                    rw [hwv (by omega), show j + 1 - k = (j - k) + 1 by omega]
                    show _ = eB 37 (rkW tp k (j - k) ++ [chF tp (k + (j - k)) - 96])
                    rw [eB_app, show k + (j - k) = j by omega]
            exact loop (tp.length - k) k 0 (by omega) (Nat.le_refl _) rfl (fun _ => by rw [Nat.sub_self]; rfl)
          | false =>
            refine ifp rfl (c174 (by omega) ?_)
            cases e2 : isD (chF tp k) with
            | true =>
              refine ifn (by decide) ?_
              have hrb := re_b (q := isD) (tp := tp) (k := k) (by omega)
              have hrs : k < reF isD tp k := by
                have := re_b (q := isD) (tp := tp) (k := k + 1) (by omega)
                rw [re_yes hkl e2]; omega
              have etk : tkF tp k = (if reF isD tp k - k ≤ 4 then 2 else 4, k, reF isD tp k) := by unfold tkF; rw [hr, if_neg q, if_neg (by rw [e1]; decide), if_pos e2]
              have fin : ∀ w, (reF isD tp k - k ≤ 4 → w = eB 10 (dgW tp k (reF isD tp k - k))) → XX G (d + 3) none P171 (QV Pv) 218 [.ref 247, .int (nI n), .int (nI (reF isD tp k)), .int (nI (chF tp k)), .int (nI k), .long (lN w), jk] [] (mem r (u2 I1 250 n (nI k)) J1) := fun w hwv => by
                refine x171_218 ?_
                simp only [mKm, mNm, mIm, mIf, mJm, mJf, mRm, sIm, sJm, rwIm, rwJm, kN, nN, rN, true_and, ix hn2 (by decide)]
                rw [pk_sub (by omega), show (4 : Int32) = nI 4 from rfl, nI_leI (by omega) (by decide)]
                refine ifb (fun q8 => b171_265_273 ?_) (fun q8 => b171_265_273 ?_)
                · rw [if_pos q8] at etk
                  exact lay _ 2 _ etk (by decide) hrs hrb.2 ⟨fun z => absurd z (by decide), fun _ => by rw [hwv q8], fun z => absurd z (by decide)⟩
                · rw [if_neg q8] at etk
                  exact lay _ 4 _ etk (by decide) hrs hrb.2 ⟨fun z => absurd z (by decide), fun z => absurd z (by decide), fun z => absurd z (by decide)⟩
              have loop : ∀ g j w, j + g = tp.length → k ≤ j → reF isD tp k = reF isD tp j → (j - k ≤ 4 → w = eB 10 (dgW tp k (j - k))) → XX G (d + 3) none P171 (QV Pv) 159 [.ref 247, .int (nI n), .int (nI j), .int (nI (chF tp k)), .int (nI k), .long (lN w), jk] [] (mem r (u2 I1 250 n (nI k)) J1) := by
                intro g
                induction g with
                | zero =>
                  intro j w hj hkj hrj hwv
                  refine x171_159 ?_
                  simp only [mKm, mNm, mIm, mIf, mJm, mJf, mRm, sIm, sJm, rwIm, rwJm, kN, nN, rN, true_and, h3']
                  refine ifp (nI_le (by omega) (by omega)) ?_
                  have ej : reF isD tp j = j := re_end (by omega)
                  rw [hrj, ej] at fin
                  exact fin w hwv
                | succ g ihg =>
                  intro j w hj hkj hrj hwv
                  have hjl : j < tp.length := by omega
                  have hcj := hw.ch hjl
                  refine x171_159 ?_
                  simp only [mKm, mNm, mIm, mIf, mJm, mJf, mRm, sIm, sJm, rwIm, rwJm, kN, nN, rN, true_and, h3', ix (show j < 1000 by omega) (by decide), h48' j hjl]
                  refine ifn (nI_ge hjl (by omega)) (c174 (by omega) ?_)
                  cases ej : isD (chF tp j) with
                  | false =>
                    have er : reF isD tp j = j := re_no ej
                    rw [hrj, er] at fin
                    exact ifp rfl (fin w hwv)
                  | true =>
                    refine ifn (by decide) ?_
                    have hrj' : reF isD tp k = reF isD tp (j + 1) := by rw [hrj, re_yes hjl ej]
                    rw [pk_sub (by omega), show (4 : Int32) = nI 4 from rfl, nI_leI (by decide) (by omega)]
                    refine ifb (fun q8 => b171_208_215 ?_) (fun q8 => ?_)
                    · rw [nI_1]
                      exact ihg (j + 1) w (by omega) (by omega) hrj' (fun z => by omega)
                    · simp only [mKm, mNm, mIm, mIf, mJm, mJf, mRm, sIm, sJm, rwIm, rwJm, kN, nN, rN, true_and, ix (show j < 1000 by omega) (by decide), h48' j hjl]
                      refine b171_210_212 ?_
                      have hb := ej
                      unfold isD at hb
                      simp only [Bool.and_eq_true, decide_eq_true_eq] at hb
                      rw [nI_l (by omega), show (10 : Int64) = lN 10 from rfl, show (48 : Int64) = lN 48 from rfl, lN_mul, lN_add, lN_sub (by omega), nI_1]
                      refine ihg (j + 1) _ (by omega) (by omega) hrj' (fun _ => ?_)
                      rw [hwv (by omega), show j + 1 - k = (j - k) + 1 by omega]
                      show _ = eB 10 (dgW tp k (j - k) ++ [chF tp (k + (j - k)) - 48])
                      rw [eB_app, show k + (j - k) = j by omega]; omega
              exact loop (tp.length - k) k 0 (by omega) (Nat.le_refl _) rfl (fun _ => by rw [Nat.sub_self]; rfl)
            | false =>
              have etk : tkF tp k = (if isG (chF tp k) then 3 else 4, k, k + 1) := by unfold tkF; rw [hr, if_neg q, if_neg (by rw [e1]; decide), if_neg (by rw [e2]; decide)]
              refine ifp rfl (b171_240_244 ?_)
              simp only [mKm, mNm, mIm, mIf, mJm, mJf, mRm, sIm, sJm, rwIm, rwJm, kN, nN, rN, true_and]
              refine m175 (by omega) ?_
              rw [nI_l (by omega), nI_1]
              cases e3 : isG (chF tp k) with
              | false =>
                rw [e3] at etk
                refine ifp rfl ?_
                simp only [mKm, mNm, mIm, mIf, mJm, mJf, mRm, sIm, sJm, rwIm, rwJm, kN, nN, rN, true_and, ix hn2 (by decide)]
                exact b171_260_273 (lay _ 4 _ etk (by decide) (by omega) (by omega) ⟨fun z => absurd z (by decide), fun z => absurd z (by decide), fun z => absurd z (by decide)⟩)
              | true =>
                rw [e3] at etk
                refine ifn (by decide) ?_
                simp only [mKm, mNm, mIm, mIf, mJm, mJf, mRm, sIm, sJm, rwIm, rwJm, kN, nN, rN, true_and, ix hn2 (by decide)]
                exact b171_261_273 (lay _ 3 _ etk (by decide) (by omega) (by omega) ⟨fun z => absurd z (by decide), fun z => absurd z (by decide), fun _ => rfl⟩)
        · have : chF tp k = 32 := Decidable.not_not.mp q2
          unfold isB; rw [this]; rfl
  refine e171 ?_
  simp only [mKm, mNm, mIm, mIf, mJm, mJf, mRm, sIm, sJm, rwIm, rwJm, kN, nN, rN, true_and, ht.1]
  exact main tp.length 0 0 _ J (by omega) (Nat.le_refl _) rfl ((Fct.s (k := 3) ⟨fun _ _ _ _ => rfl, fun _ _ _ _ _ => rfl, fun _ _ => rfl⟩ (by decide)).s (by decide)) (by rw [u2i (by decide), u2s]) u2s (fun i hi => by omega)
end
