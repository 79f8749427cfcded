/-! the other side reads lines -/
def RPO (I : Nat → Nat → Int32) (J : Nat → Nat → Int64) (s : OS) : Prop := (I 253 50 = nI (nT s.1) ∧ I 253 51 = nI (nP s.1) ∧ I 253 52 = nI (s.1.1 2 0) ∧ I 253 53 = nI (s.1.1 3 0) ∧ I 253 54 = nI (nfF s.1)) ∧ (∀ i, i < nfF s.1 → I 253 (86 + i) = nI (if nFr s.1 = 0 then 0 else s.1.1 12 i)) ∧ (∀ t, t < nT s.1 → I 253 (56 + 3 * t + 0) = nI (s.1.1 5 t) ∧ I 253 (56 + 3 * t + 1) = nI (s.1.1 6 t) ∧ I 253 (56 + 3 * t + 2) = nI (s.1.1 7 t)) ∧ (∀ p, p < nP s.1 → I 253 (74 + 2 * p + 0) = nI (s.1.1 9 p) ∧ I 253 (74 + 2 * p + 1) = nI (s.1.1 10 p)) ∧ (s.1.2 = [] ∧ I 253 55 = -1 ∧ I 247 13 = 0 ∨ s.1.2 ≠ [] ∧ I 253 55 = 0 ∧ I 247 13 = nI (s.1.2.length + 1) ∧ I 254 (1100 + s.1.2.length) = 0 ∧ ∀ i, i < s.1.2.length → I 254 (1100 + i) = opF (s.1.2.getD i 0) ∧ I 255 (1100 + i) = agF (s.1.2.getD i 0)) ∧ (I 247 19 = nI s.2.1.length ∧ ∀ i, i < s.2.1.length → J 257 i = lN (eB 37 (nW s.2.1 i)) ∧ I 259 i = nI (nC s.2.1 i)) ∧ I 247 20 = nI s.2.2
def Fmr (I I' : Nat → Nat → Int32) (J J' : Nat → Nat → Int64) : Prop := (∀ a, a ≠ 247 → a ≠ 253 → a ≠ 254 → a ≠ 255 → a ≠ 259 → I' a = I a) ∧ (∀ k, k ≠ 7 → k ≠ 8 → k ≠ 13 → k ≠ 19 → k ≠ 20 → I' 247 k = I 247 k) ∧ (∀ k, k < 50 → I' 253 k = I 253 k) ∧ (∀ k, k < 1100 → I' 254 k = I 254 k ∧ I' 255 k = I 255 k) ∧ ∀ a, a ≠ 257 → J' a = J a
def HM (P : mm_M → Prop) (r : Nat → Nat) (I : Nat → Nat → Int32) (J : Nat → Nat → Int64) (tp : List Nat) (N : Nat) (x : Nat × Nat × OS) : Prop := (x.1 = 0 → ∀ I' J', Fmr I I' J J' → RT I' J' tp N x.2.1 → RPO I' J' x.2.2 → P (mem r I' J')) ∧ (x.1 ≠ 0 → ∀ I' J', Fmr I I' J J' → FA I' x.1 → P (mem r I' J'))
section
variable {G : GG} {d : Nat} {P : Int32 → mm_M → Prop} {Pv : mm_M → Prop} {Q : Option Value → mm_M → Prop} {r : Nat → Nat} {I : Nat → Nat → Int32} {J : Nat → Nat → Int64} {π : PLN} {σ : Nat → Nat → Nat} {tp : List Nat} {y i j n f N : Nat} {nm : NMT} {s : OS} {I' I2 : Nat → Nat → Int32} {J' J2 : Nat → Nat → Int64}
theorem Fmr.rfl' : Fmr I I J J := ⟨fun _ _ _ _ _ _ => rfl, fun _ _ _ _ _ _ => rfl, fun _ _ => rfl, fun _ _ => ⟨rfl, rfl⟩, fun _ _ => rfl⟩
theorem Fmr.trans (h : Fmr I I' J J') (h' : Fmr I' I2 J' J2) : Fmr I I2 J J2 := ⟨fun a a1 a2 a3 a4 a5 => (h'.1 a a1 a2 a3 a4 a5).trans (h.1 a a1 a2 a3 a4 a5), fun a a1 a2 a3 a4 a5 => (h'.2.1 a a1 a2 a3 a4 a5).trans (h.2.1 a a1 a2 a3 a4 a5), fun k hk => (h'.2.2.1 k hk).trans (h.2.2.1 k hk), fun k hk => ⟨((h'.2.2.2.1 k hk).1).trans (h.2.2.2.1 k hk).1, ((h'.2.2.2.1 k hk).2).trans (h.2.2.2.1 k hk).2⟩, fun a ha => (h'.2.2.2.2 a ha).trans (h.2.2.2.2 a ha)⟩
theorem Fox.mr (h : Fox I I') : Fmr I I' J J := ⟨fun a a1 a2 a3 a4 a5 => h.1 a a1 a3 a4, fun k k1 k2 k3 k4 k5 => h.2.1 k k1 k2 k3, fun k _ => by rw [h.1 253 (by decide) (by decide) (by decide)], fun k hk => h.2.2 k hk, fun _ _ => rfl⟩
theorem Fmr.s47 {k : Nat} {v : Int32} (hk : k ∈ [7, 8, 13, 19, 20]) : Fmr I (u2 I 247 k v) J J := ⟨fun a a1 _ _ _ _ => u2n a1, fun x x1 x2 x3 x4 x5 => u2i (fun z => by simp at hk; omega), fun x _ => by rw [u2n (by decide)], fun x _ => ⟨by rw [u2n (by decide)], by rw [u2n (by decide)]⟩, fun _ _ => rfl⟩
theorem Fmr.s53 {k : Nat} {v : Int32} (hk : 50 ≤ k) : Fmr I (u2 I 253 k v) J J := ⟨fun a _ a1 _ _ _ => u2n a1, fun x _ _ _ _ _ => by rw [u2n (by decide)], fun x hx => u2i (by omega), fun x _ => ⟨by rw [u2n (by decide)], by rw [u2n (by decide)]⟩, fun _ _ => rfl⟩
theorem Fmr.s59 {k : Nat} {v : Int32} : Fmr I (u2 I 259 k v) J J := ⟨fun a _ _ _ _ a1 => u2n a1, fun x _ _ _ _ _ => by rw [u2n (by decide)], fun x _ => by rw [u2n (by decide)], fun x _ => ⟨by rw [u2n (by decide)], by rw [u2n (by decide)]⟩, fun _ _ => rfl⟩
theorem Fmr.sJ {k : Nat} {v : Int64} : Fmr I I J (u2 J 257 k v) := ⟨fun _ _ _ _ _ _ => rfl, fun _ _ _ _ _ _ => rfl, fun _ _ => rfl, fun _ _ => ⟨rfl, rfl⟩, fun a ha => u2n ha⟩
theorem HM.tr {x : Nat × Nat × OS} (h : HM Pv r I J tp N x) (hf : Fmr I I' J J') : HM Pv r I' J' tp N x := ⟨fun z I2 J2 h2 => h.1 z I2 J2 (hf.trans h2), fun z I2 J2 h2 => h.2 z I2 J2 (hf.trans h2)⟩
theorem HM.fl {x : Nat × Nat × OS} {k : Nat} (h : HM Pv r I J tp N x) (e : x.1 = k) (hf : Fmr I I' J J') (h4 : FA I' k) : Pv (mem r I' J') := h.2 (by have := h4.2.1; omega) I' J' hf (by rw [e]; exact h4)
theorem RT.fm (h : RT I J tp N i) (h1 : I' 249 = I 249) (h2 : I' 250 = I 250) (h7 : I' 247 7 = I 247 7) (h8 : I' 247 8 = I 247 8) (hj : ∀ a, a ≠ 257 → J' a = J a) : RT I' J' tp N i := h.fr h1 h2 h7 h8 (hj 251 (by decide)) (hj 252 (by decide))
theorem m180 (h : RT I J tp N i) (hh : P (bI (nmB tp i)) (mem r I J)) : CI G (d + 3) 180 [.ref 247] (mem r I J) P := by
  have hi := h.ib
  have h4 := (tok_b tp i).2.2.2.2
  have hwb := wiF_b tp i
  refine e180 ?_
  simp only [mKm, mNm, mIm, mIf, mJm, mJf, mRm, sIm, sJm, rwIm, rwJm, kN, nN, rN, true_and, h.ok, h.at, ix hi (by decide), h.s]
  refine ifn (fun z => z (by first | exact rfl | exact trivial)) ?_
  by_cases q : soF tp i = 1
  · refine ifn (fun z => z (by rw [q]; rfl)) (m181 (fr := 0) (many := 25) h (by decide) ?_)
    have e : nmB tp i = (wiF tp i == 0 || decide (26 ≤ wiF tp i)) := by unfold nmB; rw [q]; rfl
    by_cases q2 : inW tp 0 25 i = true
    · have := inW_b q2
      have e2 : nmB tp i = false := by
        rw [e, beq_false_of_ne (by omega), decide_eq_false (by omega)]; rfl
      rw [e2] at hh
      rw [if_pos q2, show wiF tp i - 0 = wiF tp i - 1 + 1 by omega, nI_pred]
      exact ifp (nI_pos' (by omega)) hh
    · have := inW_n (Bool.eq_false_iff.mpr q2)
      have e2 : nmB tp i = true := by
        rw [e]
        by_cases z : wiF tp i = 0
        · rw [z]; rfl
        · rw [decide_eq_true (show 26 ≤ wiF tp i by omega), Bool.or_true]
      rw [e2] at hh
      rw [if_neg q2]
      exact ifn (by decide) hh
  · have e : nmB tp i = false := by unfold nmB; rw [beq_false_of_ne q]; rfl
    rw [e] at hh
    exact ifp (fun z => q ((nI_eq (b := 1) (by omega) (by decide)).mp z)) hh
theorem RPO.na (h : RPO I J s) : I 247 19 = nI s.2.1.length ∧ ∀ i, i < s.2.1.length → J 257 i = lN (eB 37 (nW s.2.1 i)) ∧ I 259 i = nI (nC s.2.1 i) := h.2.2.2.2.2.1
theorem m182 (h : RT I J tp N i) (hs : soF tp i = 1) (hn : I 247 19 = nI nm.length ∧ ∀ i, i < nm.length → J 257 i = lN (eB 37 (nW nm i)) ∧ I 259 i = nI (nC nm i)) (hl : nm.length ≤ 12) (hw : ∀ i, i < nm.length → wok (nW nm i)) (hy : ∀ k, k < nm.length → nW nm k = rkF tp i → P (nI (nC nm k)) (mem r I J)) (hno : ¬ NMD nm (rkF tp i) → P (-1) (mem r I J)) : CI G (d + 1) 182 [.ref 247, .int 1] (mem r I J) P := by
  have hi := h.ib
  have hv := (h.v (by omega)).1 hs
  have hwo := rk_wok hs
  refine e182 ?_
  have loop : ∀ m t, t + m = nm.length → (∀ k, k < t → nW nm k ≠ rkF tp i) → XX G d (some .int) P182 (QI P) 2 [.ref 247, .int 1, .int (nI t)] [] (mem r I J) := by
    intro m
    induction m with
    | zero =>
      intro t ht hh
      refine x182_2 (ifn (by decide) ?_)
      simp only [mKm, mNm, mIm, mIf, mJm, mJf, mRm, sIm, sJm, rwIm, rwJm, kN, nN, rN, true_and, hn.1]
      refine ifp (nI_le (by omega) (by omega)) ⟨_, rfl, hno (fun ⟨k, hk, e⟩ => hh k (by omega) e)⟩
    | succ m ih =>
      intro t ht hh
      have htl : t < nm.length := by omega
      have hJ := (hn.2 t htl).1
      have hI := (hn.2 t htl).2
      refine x182_2 (ifn (by decide) ?_)
      simp only [mKm, mNm, mIm, mIf, mJm, mJf, mRm, sIm, sJm, rwIm, rwJm, kN, nN, rN, true_and, hn.1, ix (show t < 12 by omega) (by decide), hJ]
      refine ifn (fun z => absurd ((nI_leI (by omega) (by omega)).mp z) (by omega)) (ifn (by decide) (x182_40 ?_))
      simp only [mKm, mNm, mIm, mIf, mJm, mJf, mRm, sIm, sJm, rwIm, rwJm, kN, nN, rN, true_and, h.at, ix hi (by decide), hv, hI, ix (show t < 12 by omega) (by decide), nI_1]
      have hq := nm_eq (m := 37) (by decide) (by decide) (hw t htl) hwo
      refine ifb (fun q => ih (t + 1) (by omega) (fun k hk => ?_)) (fun q => ifn (by decide) ⟨_, rfl, hy t htl (hq.mp (Decidable.not_not.mp q))⟩)
      by_cases e : k = t
      · rw [e]; exact fun z => q (hq.mpr z)
      · exact hh k (by omega)
  exact loop nm.length 0 (by omega) (fun k hk => absurd hk (Nat.not_lt_zero _))
theorem m184 {k lo hi : Nat} (h : RT I J tp N i) (hk : k < 29) (hlo : lo < 100) (hhi : hi < 100) (hy : wiF tp i = k + 1 → numP tp lo hi (i + 1) = 0 → ∀ I', Fox I I' → RT I' J tp N (i + 2) → (∀ x, x ≠ 7 → I' 247 x = I 247 x) → I' 254 = I 254 → I' 255 = I 255 → P (nI (nuF tp (i + 1))) (mem r I' J)) (hn : wiF tp i ≠ k + 1 → ∀ I', Fox I I' → FA I' (flt tp 1 i) → P 0 (mem r I' J)) (hn2 : wiF tp i = k + 1 → numP tp lo hi (i + 1) ≠ 0 → ∀ I', Fox I I' → FA I' (numP tp lo hi (i + 1)) → P 0 (mem r I' J)) : CI G (d + 4) 184 [.ref 247, .int (nI k), .int (nI lo), .int (nI hi)] (mem r I J) P := by
  have hl := h.l
  refine e184 ⟨rfl, m185 h hk (fun q => ⟨rfl, ?_⟩) (fun q => ⟨rfl, ?_⟩)⟩
  · have hs : soF tp i ≠ 0 := wi_0 (by omega)
    refine m187 (h.adv hs) hlo hhi (fun q2 => ?_) (fun q2 => ?_)
    · have hs2 := num_s hl q2
      exact hy q q2 _ (Fox.s7.trans Fox.s7) ((h.adv hs).adv (by omega)) (fun x hx => by rw [u2i hx, u2i hx]) (by rw [u2n (by decide), u2n (by decide)]) (by rw [u2n (by decide), u2n (by decide)])
    · exact hn2 q q2 _ (Fox.s7.trans Fox.s8) (FA.set (num_b hl q2))
  · have hf := FA.set (I := I) (flt_b hl (j := i) (k := 1) (by decide) (by decide))
    exact m187f hf (hn q _ Fox.s8 hf)
theorem m184f {k lo hi : Int32} (h : FA I f) (hh : P 0 (mem r I J)) : CI G (d + 4) 184 [.ref 247, .int k, .int lo, .int hi] (mem r I J) P :=
  e184 ⟨rfl, m185f h ⟨rfl, m187f h hh⟩⟩
end
