/-! the other side: what stands once -/
theorem on_B1 : ∀ m, m < 16 → ∀ b, b < 4 → (decide (((nI m >>> (nI b &&& 31)) &&& 1) = 1)) = (m / 2 ^ b % 2 == 1) := by decide +kernel
theorem on_B2 : ∀ m, m < 16 → ∀ b, b < 4 → (m / 2 ^ b % 2 == 1) = true ∨ nI m ||| ((1 : Int32) <<< (nI b &&& 31)) = nI (m + 2 ^ b) := by decide +kernel
theorem on_B {m b : Nat} (hm : m < 16) (hb : b < 4) : (((nI m >>> (nI b &&& 31)) &&& 1) = 1 ↔ m / 2 ^ b % 2 = 1) ∧ (¬ m / 2 ^ b % 2 = 1 → nI m ||| ((1 : Int32) <<< (nI b &&& 31)) = nI (m + 2 ^ b)) := by
  have h1 := on_B1 m hm b hb
  have h2 := on_B2 m hm b hb
  refine ⟨?_, fun q => ?_⟩
  · rw [← decide_eq_true_iff (p := ((nI m >>> (nI b &&& 31)) &&& 1) = 1), h1]
    simp
  · rcases h2 with h2 | h2
    · exact absurd (by simpa using h2) q
    · exact h2
section
variable {G : GG} {d : Nat} {P : Int32 → mm_M → Prop} {Pv : mm_M → Prop} {Q : Option Value → mm_M → Prop} {r : Nat → Nat} {I : Nat → Nat → Int32} {J : Nat → Nat → Int64} {π : PLN} {σ : Nat → Nat → Nat} {tp : List Nat} {y i j n f N : Nat} {nm : NMT} {s : OS} {I' I2 : Nat → Nat → Int32} {J' J2 : Nat → Nat → Int64}
theorem RPO.one {b v m' : Nat} (h : RPO I J s) (hT : nT s.1 ≤ 6) (hP : nP s.1 ≤ 6) (hb : b ≤ 1) (h1 : I' 253 (52 + b) = nI v) (ro : ∀ x, x ≠ 52 + b → I' 253 x = I 253 x) (h7 : ∀ k, k ≠ 7 → k ≠ 20 → I' 247 k = I 247 k) (h20 : I' 247 20 = nI m') (ho : ∀ a, a ≠ 247 → a ≠ 253 → I' a = I a) : RPO I' J (set1 s.1 (2 + b) v, s.2.1, m') := by
  obtain ⟨⟨a1, a2, a3, a4, a5⟩, b1, b2, b3, b4, b5, b6⟩ := h
  have st : ∀ x i, x ≠ 2 + b → (set1 s.1 (2 + b) v).1 x i = s.1.1 x i := fun x i hx => if_neg hx
  have sv : ∀ i, (set1 s.1 (2 + b) v).1 (2 + b) i = v := fun i => if_pos rfl
  have eT : nT (set1 s.1 (2 + b) v) = nT s.1 := st 0 0 (by omega)
  have eP : nP (set1 s.1 (2 + b) v) = nP s.1 := st 1 0 (by omega)
  have eF : nFr (set1 s.1 (2 + b) v) = nFr s.1 := st 4 0 (by omega)
  have en : nfF (set1 s.1 (2 + b) v) = nfF s.1 := by unfold nfF; rw [eF]
  have hn12 : nfF s.1 = nfF s.1 := rfl
  refine ⟨⟨?_, ?_, ?_, ?_, ?_⟩, fun i hi => ?_, fun t ht => ?_, fun p hp => ?_, ?_, ⟨?_, fun i hi => ?_⟩, h20⟩
  · rw [ro 50 (by omega), show nT (set1 s.1 (2 + b) v, s.2.1, m').1 = nT s.1 from eT]; exact a1
  · rw [ro 51 (by omega), show nP (set1 s.1 (2 + b) v, s.2.1, m').1 = nP s.1 from eP]; exact a2
  · show I' 253 52 = nI ((set1 s.1 (2 + b) v).1 2 0)
    by_cases e : b = 0
    · subst e; rw [sv 0]; exact h1
    · rw [st 2 0 (by omega), ro 52 (by omega)]; exact a3
  · show I' 253 53 = nI ((set1 s.1 (2 + b) v).1 3 0)
    by_cases e : b = 1
    · subst e; rw [sv 0]; exact h1
    · rw [st 3 0 (by omega), ro 53 (by omega)]; exact a4
  · rw [ro 54 (by omega), show nfF (set1 s.1 (2 + b) v, s.2.1, m').1 = nfF s.1 from en]; exact a5
  · have hi : i < nfF s.1 := by rw [← en]; exact hi
    show I' 253 (86 + i) = nI (if nFr (set1 s.1 (2 + b) v) = 0 then 0 else (set1 s.1 (2 + b) v).1 12 i)
    rw [ro _ (by omega), eF, st 12 i (by omega)]; exact b1 i hi
  · have ht : t < nT s.1 := by rw [← eT]; exact ht
    show I' 253 (56 + 3 * t + 0) = nI ((set1 s.1 (2 + b) v).1 5 t) ∧ I' 253 (56 + 3 * t + 1) = nI ((set1 s.1 (2 + b) v).1 6 t) ∧ I' 253 (56 + 3 * t + 2) = nI ((set1 s.1 (2 + b) v).1 7 t)
    rw [st 5 t (by omega), st 6 t (by omega), st 7 t (by omega), ro _ (by omega), ro _ (by omega), ro _ (by omega)]; exact b2 t ht
  · have hp : p < nP s.1 := by rw [← eP]; exact hp
    show I' 253 (74 + 2 * p + 0) = nI ((set1 s.1 (2 + b) v).1 9 p) ∧ I' 253 (74 + 2 * p + 1) = nI ((set1 s.1 (2 + b) v).1 10 p)
    rw [st 9 p (by omega), st 10 p (by omega), ro _ (by omega), ro _ (by omega)]; exact b3 p hp
  · rw [ro 55 (by omega), h7 13 (by decide) (by decide), ho 254 (by decide) (by decide), ho 255 (by decide) (by decide)]; exact b4
  · rw [h7 19 (by decide) (by decide)]; exact b5.1
  · rw [ho 259 (by decide) (by decide)]; exact b5.2 i hi
theorem frP_same (hl : tp.length ≤ 1000) : ∀ n y j (π : PLN), (∀ x i, x ≠ 4 → x ≠ 12 → (frP tp n y j π).2.2.1 x i = π.1 x i) ∧ (frP tp n y j π).2.2.2 = π.2 ∧ ((frP tp n y j π).1 = 0 → nFr (frP tp n y j π).2.2 ≠ 0) := by
  intro n
  induction n with
  | zero =>
    intro y j π
    have hb4 := (flt_b hl (j := j) (k := 4) (by decide) (by decide)).1
    have hb5 := (flt_b hl (j := j) (k := 5) (by decide) (by decide)).1
    unfold frP
    refine ⟨fun _ _ _ _ => rfl, rfl, fun z => ?_⟩
    dsimp only at z
    by_cases q : 3 < nuF tp j
    · rw [if_pos q] at z; omega
    · rw [if_neg q] at z; omega
  | succ n ih =>
    intro y j π
    have st : ∀ x i, x ≠ 4 → x ≠ 12 → (setY π y (nuF tp j)).1 x i = π.1 x i := fun x i hx hx2 => by simp [setY, hx, hx2]
    have eu : frP tp (n + 1) y j π = if numP tp 0 3 j ≠ 0 then (numP tp 0 3 j, j, π) else if soF tp (j + 1) = 2 then frP tp n (y + 1) (j + 1) (setY π y (nuF tp j)) else (0, j + 1, setY π y (nuF tp j)) := rfl
    rw [eu]
    by_cases q : numP tp 0 3 j ≠ 0
    · rw [if_pos q]; exact ⟨fun _ _ _ _ => rfl, rfl, fun z => absurd z q⟩
    rw [if_neg q]
    by_cases q2 : soF tp (j + 1) = 2
    · rw [if_pos q2]
      obtain ⟨a1, a2, a3⟩ := ih (y + 1) (j + 1) (setY π y (nuF tp j))
      exact ⟨fun x i h1 h2 => (a1 x i h1 h2).trans (st x i h1 h2), a2, a3⟩
    · rw [if_neg q2]
      exact ⟨st, rfl, fun _ => Nat.succ_ne_zero _⟩
theorem RPO.on {m' : Nat} {v : Int32} (h : RPO I J s) : RPO (u2 (u2 I 247 20 (nI m')) 247 7 v) J (s.1, s.2.1, m') := by
  obtain ⟨a, b1, b2, b3, b4, b5, b6⟩ := h
  have e : ∀ a, a ≠ 247 → u2 (u2 I 247 20 (nI m')) 247 7 v a = I a := fun a ha => by rw [u2n ha, u2n ha]
  have e7 : ∀ k, k ≠ 7 → k ≠ 20 → u2 (u2 I 247 20 (nI m')) 247 7 v 247 k = I 247 k := fun k h1 h2 => by rw [u2i h1, u2i h2]
  unfold RPO
  rw [e 253 (by decide), e 254 (by decide), e 255 (by decide), e 259 (by decide), e7 13 (by decide) (by decide), e7 19 (by decide) (by decide)]
  exact ⟨a, b1, b2, b3, b4, b5, by rw [u2i (by decide), u2s]⟩
theorem RPO.fro {π' : PLN} (h : RPO I J s) (hT : nT s.1 ≤ 6) (hP : nP s.1 ≤ 6) (hf : Frr I I') (same : ∀ x i, x ≠ 4 → x ≠ 12 → π'.1 x i = s.1.1 x i) (s2 : π'.2 = s.1.2) (hn0 : nFr π' ≠ 0) (h54 : I' 253 54 = nI (nFr π')) (hr : ∀ i, i < nFr π' → I' 253 (86 + i) = nI (π'.1 12 i)) : RPO I' J (π', s.2.1, s.2.2) := by
  obtain ⟨⟨a1, a2, a3, a4, a5⟩, b1, b2, b3, b4, b5, b6⟩ := h
  have eT : nT π' = nT s.1 := same 0 0 (by decide) (by decide)
  have eP : nP π' = nP s.1 := same 1 0 (by decide) (by decide)
  have en : nfF π' = nFr π' := if_neg hn0
  have ro := hf.2.2
  refine ⟨⟨?_, ?_, ?_, ?_, ?_⟩, fun i hi => ?_, fun t ht => ?_, fun p hp => ?_, ?_, ⟨?_, fun i hi => ?_⟩, ?_⟩
  · show I' 253 50 = nI (nT π'); rw [ro 50 (by decide) (by omega), eT]; exact a1
  · show I' 253 51 = nI (nP π'); rw [ro 51 (by decide) (by omega), eP]; exact a2
  · show I' 253 52 = nI (π'.1 2 0); rw [ro 52 (by decide) (by omega), same 2 0 (by decide) (by decide)]; exact a3
  · show I' 253 53 = nI (π'.1 3 0); rw [ro 53 (by decide) (by omega), same 3 0 (by decide) (by decide)]; exact a4
  · show I' 253 54 = nI (nfF π'); rw [en]; exact h54
  · have hi : i < nfF π' := hi
    show I' 253 (86 + i) = nI (if nFr π' = 0 then 0 else π'.1 12 i)
    rw [if_neg hn0]; exact hr i (by omega)
  · have ht : t < nT s.1 := by rw [← eT]; exact ht
    show I' 253 (56 + 3 * t + 0) = nI (π'.1 5 t) ∧ I' 253 (56 + 3 * t + 1) = nI (π'.1 6 t) ∧ I' 253 (56 + 3 * t + 2) = nI (π'.1 7 t)
    rw [ro _ (by omega) (by omega), ro _ (by omega) (by omega), ro _ (by omega) (by omega), same 5 t (by decide) (by decide), same 6 t (by decide) (by decide), same 7 t (by decide) (by decide)]; exact b2 t ht
  · have hp : p < nP s.1 := by rw [← eP]; exact hp
    show I' 253 (74 + 2 * p + 0) = nI (π'.1 9 p) ∧ I' 253 (74 + 2 * p + 1) = nI (π'.1 10 p)
    rw [ro _ (by omega) (by omega), ro _ (by omega) (by omega), same 9 p (by decide) (by decide), same 10 p (by decide) (by decide)]; exact b3 p hp
  · show π'.2 = [] ∧ _ ∨ π'.2 ≠ [] ∧ _
    rw [s2, ro 55 (by decide) (by omega), hf.2.1 13 (by decide) (by decide), hf.1 254 (by decide) (by decide), hf.1 255 (by decide) (by decide)]; exact b4
  · rw [hf.2.1 19 (by decide) (by decide)]; exact b5.1
  · rw [hf.1 259 (by decide) (by decide)]; exact b5.2 i hi
  · rw [hf.2.1 20 (by decide) (by decide)]; exact b6
theorem RPO.ex {ψ : List Int32} (h : RPO I J s) (hT : nT s.1 ≤ 6) (hψ : ψ ≠ []) (h253 : I' 253 = u2 I 253 55 0 253) (h13 : I' 247 13 = nI (ψ.length + 1)) (he : I' 254 (1100 + ψ.length) = 0) (ho : ∀ i, i < ψ.length → I' 254 (1100 + i) = opF (ψ.getD i 0) ∧ I' 255 (1100 + i) = agF (ψ.getD i 0)) (h19 : I' 247 19 = I 247 19) (h20 : I' 247 20 = I 247 20) (h259 : I' 259 = I 259) : RPO I' J ((s.1.1, ψ), s.2.1, s.2.2) := by
  obtain ⟨⟨a1, a2, a3, a4, a5⟩, b1, b2, b3, b4, b5, b6⟩ := h
  have ro : ∀ x, x ≠ 55 → I' 253 x = I 253 x := fun x hx => by rw [h253, u2i hx]
  refine ⟨⟨?_, ?_, ?_, ?_, ?_⟩, fun i hi => ?_, fun t ht => ?_, fun p hp => ?_, Or.inr ⟨hψ, by rw [h253, u2s], h13, he, ho⟩, ⟨?_, fun i hi => ?_⟩, ?_⟩
  · rw [ro 50 (by decide)]; exact a1
  · rw [ro 51 (by decide)]; exact a2
  · rw [ro 52 (by decide)]; exact a3
  · rw [ro 53 (by decide)]; exact a4
  · rw [ro 54 (by decide)]; exact a5
  · rw [ro _ (by omega)]; exact b1 i hi
  · rw [ro _ (by omega), ro _ (by omega), ro _ (by omega)]; exact b2 t ht
  · rw [ro _ (by omega), ro _ (by omega)]; exact b3 p hp
  · rw [h19]; exact b5.1
  · rw [h259]; exact b5.2 i hi
  · rw [h20]; exact b6
/-- the memory at the token behind the word -/
theorem on_f {m' : Nat} : Fmr I (u2 (u2 I 247 20 (nI m')) 247 7 (nI (j + 1))) J J := (Fmr.s47 (by decide)).trans (Fmr.s47 (by decide))
theorem on_r {m' : Nat} (h : RT I J tp N j) (hs : soF tp j ≠ 0) : RT (u2 (u2 I 247 20 (nI m')) 247 7 (nI (j + 1))) J tp N (j + 1) := (h.adv hs).fr (by rw [u2n (by decide), u2n (by decide), u2n (by decide)]) (by rw [u2n (by decide), u2n (by decide), u2n (by decide)]) (by rw [u2s, u2s]) (by rw [u2i (by decide), u2i (by decide), u2i (by decide)]) rfl rfl
theorem m188 (h : RT I J tp N j) (hL : LV tp j) (hq1 : wiF tp j ≠ 1) (hq4 : wiF tp j ≠ 4) (hp : RPO I J s) (hW : WO s) (hE : HM Pv r I J tp N (lnP tp j s)) : CV G (d + 36) 188 [.ref 247] (mem r I J) Pv := by
  have hT := hW.t
  have hP := hW.p
  have hl := h.l
  have h16 := hW.2.2.1
  have hb : ∀ {k i : Nat}, 1 ≤ k → k ≤ 5 → 0 < flt tp k i ∧ flt tp k i < 2 ^ 20 := fun h1 h2 => flt_b hl h1 h2
  have a20 := hp.2.2.2.2.2.2
  unfold lnP at hE
  rw [if_neg hq1, if_neg hq4] at hE
  refine e188 ⟨rfl, m181 (fr := 5) (many := 4) h (by decide) ?_⟩
  by_cases q2 : ¬ (6 ≤ wiF tp j ∧ wiF tp j ≤ 9)
  · rw [if_pos q2] at hE
    have e : inW tp 5 4 j = false := by
      cases e : inW tp 5 4 j with
      | false => rfl
      | true => have := inW_b e; omega
    rw [e]
    have hF := FA.set (I := I) (hb (k := 1) (i := j) (by decide) (by decide))
    refine ifn (show ¬ (0 : Int32) ≤ nI 0 - 1 by decide) ⟨rfl, m179 (k := 1) h ⟨rfl, ifn hF.gt (hE.fl rfl (Fmr.s47 (by decide)) hF)⟩⟩
  rw [if_neg q2] at hE
  have q2 := Decidable.not_not.mp q2
  have hs0 : soF tp j ≠ 0 := wi_0 (by omega)
  have hL1 := hL.s hs0
  have e : inW tp 5 4 j = true := by
    cases e : inW tp 5 4 j with
    | true => rfl
    | false => have := inW_n e; omega
  have ew : nI (if inW tp 5 4 j = true then wiF tp j - 5 else 0) - 1 = nI (wiF tp j - 6) := by
    rw [if_pos e, show wiF tp j - 5 = wiF tp j - 6 + 1 by omega, nI_pred]
  rw [ew]
  obtain ⟨o1, o2⟩ := on_B h16 (show wiF tp j - 6 < 4 by omega)
  have o8 := fun q => ((on_A h16 (show wiF tp j - 6 < 4 by omega)).2 q).2.2.1
  refine ifp (nI_pos' (by omega)) ?_
  simp only [mKm, mNm, mIm, mIf, mJm, mJf, mRm, sIm, sJm, rwIm, rwJm, kN, nN, rN, true_and, a20, h.ok]
  by_cases q3 : s.2.2 / 2 ^ (wiF tp j - 6) % 2 = 1
  · rw [if_pos q3] at hE
    have hF := FA.set (I := I) (hb (k := 3) (i := j) (by decide) (by decide))
    refine ifn (fun z => z (o1.mpr q3)) (m179 (k := 3) h ⟨rfl, ifn hF.gt (hE.fl rfl (Fmr.s47 (by decide)) hF)⟩)
  rw [if_neg q3] at hE
  rw [o2 q3]
  have e7 : ∀ v, u2 I 247 20 v 247 7 = nI j := fun v => by rw [u2i (by decide)]; exact h.at
  refine ifp (fun z => q3 (o1.mp z)) (ifp (by first | exact trivial | decide) (b188_44_56 ?_))
  simp only [mKm, mNm, mIm, mIf, mJm, mJf, mRm, sIm, sJm, rwIm, rwJm, kN, nN, rN, true_and, e7, nI_1]
  have one : ∀ b, b ≤ 1 → wiF tp j = 6 + b → HM Pv r I J tp N (if numP tp b (5 + b) (j + 1) ≠ 0 then (numP tp b (5 + b) (j + 1), j, s) else (0, j + 2, set1 s.1 (2 + b) (nuF tp (j + 1)), s.2.1, s.2.2 + 2 ^ b)) → CI G (d + 35) 187 [.ref 247, .int (nI b), .int (nI (5 + b))] (mem r (u2 (u2 I 247 20 (nI (s.2.2 + 2 ^ b))) 247 7 (nI (j + 1))) J) (fun v3 N4 => (mK N4 253 = 14 ∧ vp_in (52 + nI b) (mN N4 253)) ∧ BB G (d + 35) none P188 (QV Pv) S188_44_88 88 [.ref 247, .int (nI b)] [] (sI N4 253 ((52 + nI b).toNatClampNeg) v3)) := fun b hb1 hwb hE' => by
    have r1 : RT (u2 (u2 I 247 20 (nI (s.2.2 + 2 ^ b))) 247 7 (nI (j + 1))) J tp N (j + 1) := on_r h hs0
    have g1 : Fmr I (u2 (u2 I 247 20 (nI (s.2.2 + 2 ^ b))) 247 7 (nI (j + 1))) J J := on_f
    have e52 : (52 : Int32) + nI b = nI (52 + b) := nI_add 52 b
    refine m187 (lo := b) (hi := 5 + b) r1 (by omega) (by omega) (fun q => ?_) (fun q => ?_)
    · rw [if_neg (fun z => z q)] at hE'
      have hs := num_s hl q
      simp only [mKm, mNm, mIm, mIf, mJm, mJf, mRm, sIm, sJm, rwIm, rwJm, kN, nN, rN, true_and, e52, ix (show 52 + b < 100 by omega) (by decide)]
      refine b188_44_88 ⟨rfl, hE'.1 rfl _ _ ((g1.trans (Fmr.s47 (by decide))).trans (Fmr.s53 (by omega))) ((r1.adv (by omega)).s53) (hp.one hT hP hb1 u2s (fun x hx => by rw [u2i hx, u2n (by decide), u2n (by decide), u2n (by decide)]) (fun k k1 k2 => by rw [u2n (by decide), u2i k1, u2i k1, u2i k2]) (by rw [u2n (by decide), u2i (by decide), u2i (by decide), u2s]) (fun a x1 x2 => by rw [u2n x2, u2n x1, u2n x1, u2n x1]))⟩
    · rw [if_pos q] at hE'
      have hF := FA.set (I := u2 (u2 I 247 20 (nI (s.2.2 + 2 ^ b))) 247 7 (nI (j + 1))) (num_b hl q)
      simp only [mKm, mNm, mIm, mIf, mJm, mJf, mRm, sIm, sJm, rwIm, rwJm, kN, nN, rN, true_and, e52, ix (show 52 + b < 100 by omega) (by decide)]
      exact b188_44_88 ⟨rfl, hE'.fl rfl ((g1.trans (Fmr.s47 (by decide))).trans (Fmr.s53 (by omega))) (hF.fr (by rw [u2n (by decide)]))⟩
  by_cases q6 : wiF tp j = 6
  · rw [if_pos q6] at hE
    have g := one 0 (by decide) q6 hE
    rw [q6]
    refine ifn (by decide) ?_
    first | exact g | (simp only [mKm, mNm, mIm, mIf, mJm, mJf, mRm, sIm, sJm, rwIm, rwJm, kN, nN, rN, true_and] at g; exact g)
  rw [if_neg q6] at hE
  by_cases q7 : wiF tp j = 7
  · rw [if_pos q7] at hE
    have g := one 1 (by decide) q7 hE
    rw [q7]
    refine ifn (by decide) ?_
    first | exact g | (simp only [mKm, mNm, mIm, mIf, mJm, mJf, mRm, sIm, sJm, rwIm, rwJm, kN, nN, rN, true_and] at g; exact g)
  rw [if_neg q7] at hE
  by_cases q8 : wiF tp j = 8
  · rw [if_pos q8] at hE
    have r1 : RT (u2 (u2 I 247 20 (nI (s.2.2 + 4))) 247 7 (nI (j + 1))) J tp N (j + 1) := on_r h hs0
    have g1 : Fmr I (u2 (u2 I 247 20 (nI (s.2.2 + 4))) 247 7 (nI (j + 1))) J J := on_f
    have p1 : RPO (u2 (u2 I 247 20 (nI (s.2.2 + 4))) 247 7 (nI (j + 1))) J (s.1, s.2.1, s.2.2 + 4) := hp.on
    obtain ⟨f1, f2, f3⟩ := frP_same hl 12 0 (j + 1) s.1
    rw [q8]
    refine ifp (by decide) (ifn (fun z => z (by decide)) ?_)
    have go : CV G (d + 35) 189 [.ref 247] (mem r (u2 (u2 I 247 20 (nI (s.2.2 + 4))) 247 7 (nI (j + 1))) J) (fun N2 => QV Pv none N2) := by
      refine e189 (m189l 12 0 (j + 1) _ s.1 rfl (fun z => absurd rfl z) r1 (fun i hi => absurd hi (Nat.not_lt_zero _)) (fun z I2 k1 k2 k3 k4 => ⟨rfl, ?_⟩) (fun z I2 k1 k2 => ⟨rfl, ?_⟩))
      · exact hE.1 z I2 J (g1.trans k1.mr) k2 (p1.fro hT hP k1 f1 f2 (f3 z) k3 k4)
      · exact hE.2 z I2 J (g1.trans k1.mr) k2
    first | exact go | exact ⟨rfl, go⟩
  rw [if_neg q8] at hE
  have q9 : wiF tp j = 9 := by omega
  rw [q9] at o8
  have hφ := hW.2.2.2.1 (o8 (by rw [q9] at q3; exact q3) rfl)
  have r1 : RT (u2 (u2 I 247 20 (nI (s.2.2 + 8))) 247 7 (nI (j + 1))) J tp N (j + 1) := on_r h hs0
  have g1 : Fmr I (u2 (u2 I 247 20 (nI (s.2.2 + 8))) 247 7 (nI (j + 1))) J J := on_f
  have p1 : RPO (u2 (u2 I 247 20 (nI (s.2.2 + 8))) 247 7 (nI (j + 1))) J (s.1, s.2.1, s.2.2 + 8) := hp.on
  have i13 : I 247 13 = 0 := by
    rcases hp.2.2.2.2.1 with z | z
    · exact z.2.2
    · exact absurd hφ z.1
  have e13 : u2 (u2 I 247 20 (nI (s.2.2 + 8))) 247 7 (nI (j + 1)) 247 13 = 0 := by rw [u2i (by decide), u2i (by decide)]; exact i13
  rw [q9]
  refine ifp (by decide) (ifp (by decide) ?_)
  have go : BB G (d + 35) none P188 (QV Pv) S188_103_114 114 [.ref 247, .int (nI (9 - 6))] [] (mem r (u2 (u2 (u2 I 247 20 (nI (s.2.2 + 8))) 247 7 (nI (j + 1))) 253 55 0) J) := by
    obtain ⟨f, j', ψ, e⟩ := eP_some hl 5006 0 0 (j + 1) s.1.2 (by decide) (by decide) hL1 (by have : rkE 0 = 4 := rfl; omega)
    have er : eR tp (j + 1) s = (f, j', (s.1.1, ψ), s.2.1, s.2.2 + 8) := by unfold eR; rw [e]
    rw [er] at hE
    have r2 : RT (u2 (u2 (u2 I 247 20 (nI (s.2.2 + 8))) 247 7 (nI (j + 1))) 253 55 0) J tp N (j + 1) := r1.s53
    have g2 : Fmr I (u2 (u2 (u2 I 247 20 (nI (s.2.2 + 8))) 247 7 (nI (j + 1))) 253 55 0) J J := g1.trans (Fmr.s53 (by decide))
    refine b188_103_114 ⟨rfl, (sm_all 5006 0 0 (j + 1) s.1.2 f j' ψ (by decide) (by decide) e hL1 (by rw [hφ]; exact Nat.zero_le _) (d + 35) _ J _ (by show 4 + 5 * (5 - 0) + 4 ≤ d + 35; omega) r2 ⟨by rw [u2n (by decide), hφ]; exact e13, fun k hk => by rw [hφ] at hk; exact absurd hk (Nat.not_lt_zero _)⟩ ⟨fun z I2 k1 c1 o1 => ⟨rfl, ?_⟩, fun z I2 c k1 F1 h13 hB => ⟨rfl, m196f F1 h13 (by simp [bM] at hB; omega) (fun I3 k2 F2 _ => ⟨rfl, hE.2 z I3 J ((g2.trans k1.mr).trans k2.mr) F2⟩)⟩⟩).1 (by decide)⟩
    subst z
    obtain ⟨χ, a1, a2, a3, a4, a5, -⟩ := eP_ok 5006 0 0 (j + 1) s.1.2 j' ψ (by decide) (by decide) e
    have hj := (a4 hL1).le hl
    have eψ : ψ = χ := by rw [a1, hφ]; rfl
    have ok := a5 rfl 0 [] (by decide) okS_1
    rw [List.append_nil, ← eψ] at ok
    have hne : ψ ≠ [] := fun z => by rw [z] at ok; exact okS_0 ok
    refine m196r o1.1 (by rw [eψ]; omega) ⟨rfl, ?_⟩
    refine hE.1 rfl _ J ((g2.trans k1.mr).trans (emitI (c := ψ.length)).mr) (c1.fr (by rw [u2n (by decide), u2n (by decide), u2n (by decide)]) (by rw [u2n (by decide), u2n (by decide), u2n (by decide)]) (by rw [u2i (by decide), u2n (by decide), u2n (by decide)]) (by rw [u2i (by decide), u2n (by decide), u2n (by decide)]) rfl rfl) (p1.ex hT hne ?_ u2s ?_ (fun i hi => ?_) ?_ ?_ ?_)
    · rw [u2n (by decide), u2n (by decide), u2n (by decide), k1.1 253 (by decide) (by decide) (by decide)]
    · rw [u2n (by decide), u2n (by decide), u2s]
    · have q1 : u2 (u2 (u2 I2 254 (1100 + ψ.length) 0) 255 (1100 + ψ.length) 0) 247 13 (nI (ψ.length + 1)) 254 (1100 + i) = I2 254 (1100 + i) := by rw [u2n (by decide), u2n (by decide), u2i (by omega)]
      have q2 : u2 (u2 (u2 I2 254 (1100 + ψ.length) 0) 255 (1100 + ψ.length) 0) 247 13 (nI (ψ.length + 1)) 255 (1100 + i) = I2 255 (1100 + i) := by rw [u2n (by decide), u2i (by omega), u2n (by decide)]
      rw [q1, q2]; exact o1.2 i hi
    · rw [u2i (by decide), u2n (by decide), u2n (by decide), k1.2.1 19 (by decide) (by decide) (by decide), u2n (by decide)]
    · rw [u2i (by decide), u2n (by decide), u2n (by decide), k1.2.1 20 (by decide) (by decide) (by decide), u2n (by decide)]
    · rw [u2n (by decide), u2n (by decide), u2n (by decide), k1.1 259 (by decide) (by decide) (by decide), u2n (by decide)]
  rw [show (2 : Nat) ^ (9 - 6) = 8 from rfl]
  first
    | (rw [e13]; exact ⟨(ix (show 55 < 100 by decide) (by decide)).1, go⟩)
    | (rw [e13]; exact go)
    | exact ⟨(ix (show 55 < 100 by decide) (by decide)).1, go⟩
    | exact go
end
