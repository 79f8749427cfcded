/-! the other side: orchard -/
def Fmz (I I' : Nat → Nat → Int32) (J J' : Nat → Nat → Int64) : Prop := (∀ a, a ≠ 247 → a ≠ 249 → a ≠ 250 → a ≠ 253 → a ≠ 254 → a ≠ 255 → a ≠ 259 → I' a = I a) ∧ (∀ k, k ∈ [18, 25] → I' 247 k = I 247 k) ∧ (∀ k, k < 50 → I' 253 k = I 253 k) ∧ (∀ k, k < 1100 → I' 254 k = I 254 k ∧ I' 255 k = I 255 k) ∧ ∀ a, a ≠ 251 → a ≠ 257 → J' a = J a
section
variable {G : GG} {d : Nat} {P : Int32 → mm_M → Prop} {Pv : mm_M → Prop} {Q : Option Value → mm_M → Prop} {r : Nat → Nat} {I : Nat → Nat → Int32} {J : Nat → Nat → Int64} {π : PLN} {σ : Nat → Nat → Nat} {tp : List Nat} {y i j n f N : Nat} {nm : NMT} {s : OS} {I' I2 : Nat → Nat → Int32} {J' J2 : Nat → Nat → Int64}
/-- the state read, copied -/
theorem RPO.rp {c : Nat} (h : RPO I J s) (h253 : ∀ k, k < 50 → I' 253 k = I 253 (50 + k)) (hc : I 247 13 = nI c) (hcb : c < 2 ^ 31) (h254 : ∀ k, k < c → I' 254 k = I 254 (1100 + k) ∧ I' 255 k = I 255 (1100 + k)) (hW : WO s) : RP I' s.1 := by
  obtain ⟨⟨a1, a2, a3, a4, a5⟩, b1, b2, b3, b4, b5, b6⟩ := h
  have hT := hW.t
  have hP := hW.p
  have hF : nfF s.1 ≤ 12 := by
    have := hW.w.2.2.2.2.2.1
    unfold nfF; split <;> omega
  have hlen := hW.w.2.2.2.2.2.2.2.2.2.2
  refine ⟨⟨?_, ?_, ?_, ?_, ?_⟩, fun i hi => ?_, fun t ht => ?_, fun p hp => ?_, ?_⟩
  · rw [h253 0 (by decide)]; exact a1
  · rw [h253 1 (by decide)]; exact a2
  · rw [h253 2 (by decide)]; exact a3
  · rw [h253 3 (by decide)]; exact a4
  · rw [h253 4 (by decide)]; exact a5
  · rw [h253 (36 + i) (by omega), show 50 + (36 + i) = 86 + i by omega]; exact b1 i hi
  · rw [h253 (6 + 3 * t + 0) (by omega), h253 (6 + 3 * t + 1) (by omega), h253 (6 + 3 * t + 2) (by omega), show 50 + (6 + 3 * t + 0) = 56 + 3 * t + 0 by omega, show 50 + (6 + 3 * t + 1) = 56 + 3 * t + 1 by omega, show 50 + (6 + 3 * t + 2) = 56 + 3 * t + 2 by omega]; exact b2 t ht
  · rw [h253 (24 + 2 * p + 0) (by omega), h253 (24 + 2 * p + 1) (by omega), show 50 + (24 + 2 * p + 0) = 74 + 2 * p + 0 by omega, show 50 + (24 + 2 * p + 1) = 74 + 2 * p + 1 by omega]; exact b3 p hp
  · rw [h253 5 (by decide)]
    rcases b4 with ⟨e1, e2, e3⟩ | ⟨e1, e2, e3, e4, e5⟩
    · exact Or.inl ⟨e1, e2⟩
    · have ec : c = s.1.2.length + 1 := (nI_eq hcb (by omega)).mp (hc.symm.trans e3)
      refine Or.inr ⟨e1, e2, ?_, fun i hi => ?_⟩
      · rw [(h254 _ (by omega)).1]; exact e4
      · rw [(h254 i (by omega)).1, (h254 i (by omega)).2]; exact e5 i hi
theorem m170 (ht : TB I tp) (hw : WT tp) (hwc : WC J)
    (h0 : (raP tp 1001 0 sz).1 = 0 → WO (raP tp 1001 0 sz).2 → ∀ I' J', (∀ a, a < 247 → I' a = I a) → (∀ a, a < 247 → J' a = J a) → J' 252 = J 252 → KR I' 0 (raP tp 1001 0 sz).2.1 (begF (raP tp 1001 0 sz).2.1) → NB I' J' (raP tp 1001 0 sz).2.2.1 → I' 263 43 = 0 → I' 260 0 = 0 → I' 247 25 = 0 → (∀ m, m < 4 → I' 264 m = 0) → I' 247 2 = 0 → P 0 (mem r I' J'))
    (h1 : (raP tp 1001 0 sz).1 ≠ 0 → ∀ I' J', Fmz I I' J J' → I' 247 2 = 0 → P (nI (raP tp 1001 0 sz).1) (mem r I' J')) : CI G (d + 38) 170 [.ref 247] (mem r I J) P := by
  refine e170 ?_
  simp only [mKm, mNm, mIm, mIf, mJm, mJf, mRm, sIm, sJm, rwIm, rwJm, kN, nN, rN, true_and]
  have tb : TB (u2 I 247 0 0) tp := by unfold TB; rw [u2i (by decide), u2n (by decide)]; exact ht
  refine m171 tb hw (fun I1 J1 n f1 t1 z2 z7 z8 => ?_)
  simp only [mKm, mNm, mIm, mIf, mJm, mJf, mRm, sIm, sJm, rwIm, rwJm, kN, nN, rN, true_and]
  refine b170_0_24 ⟨rfl, m163 (fun I2 a2 k2 v2 => ?_)⟩
  have e7 : ∀ k, k ≠ 13 → k ≠ 19 → k ≠ 20 → I2 247 k = I1 247 k := fun k q1 q2 q3 => by rw [a2 247 (by decide), u2i q3, u2i q2, u2i q1]
  have ea : ∀ a, a ≠ 247 → a ≠ 253 → I2 a = I1 a := fun a q1 q2 => by rw [a2 a q2, u2n q1, u2n q1, u2n q1]
  have ea1 : ∀ a, a ≠ 247 → a ≠ 249 → a ≠ 250 → a ≠ 253 → I2 a = I a := fun a q1 q2 q3 q4 => by rw [ea a q1 q4, f1.1 a q1 q2 q3, u2n q1]
  have hr : RT I2 J1 tp n 0 := by
    refine ⟨?_, ?_, hw, Nat.zero_le _, by rw [e7 7 (by decide) (by decide) (by decide)]; exact z7, by rw [e7 8 (by decide) (by decide) (by decide)]; exact z8⟩
    · unfold TKS MTK; rw [ea 249 (by decide) (by decide), ea 250 (by decide) (by decide)]; exact t1
    · unfold WC; rw [f1.2.2 252 (by decide)]; exact hwc
  have hp : RPO I2 J1 sz := by
    obtain ⟨w1, w2, w3, w4, w5, w6, w7⟩ := v2
    refine ⟨⟨w1, w2, w3, w4, w5⟩, fun i hi => ?_, fun t h => absurd h (Nat.not_lt_zero _), fun t h => absurd h (Nat.not_lt_zero _), Or.inl ⟨rfl, w6, ?_⟩, ⟨?_, fun t h => absurd h (Nat.not_lt_zero _)⟩, ?_⟩
    · have hi : i < 1 := hi
      have : i = 0 := by omega
      subst this
      exact w7
    · rw [a2 247 (by decide), u2i (by decide), u2i (by decide), u2s]
    · rw [a2 247 (by decide), u2i (by decide), u2s]; rfl
    · rw [a2 247 (by decide), u2s]; rfl
  refine m170l 1001 0 I2 J1 sz (by decide) (fun k hk => absurd hk (Nat.not_lt_zero _)) WO_z hr hp (fun z I3 J3 f3 q8 W3 p3 => ?_) (fun z I3 J3 f3 => ?_)
  · obtain ⟨c, hc, hcb⟩ : ∃ c, I3 247 13 = nI c ∧ c ≤ 1100 := by
      have hlen := W3.w.2.2.2.2.2.2.2.2.2.2
      rcases p3.2.2.2.2.1 with e | e
      · exact ⟨0, e.2.2, by decide⟩
      · exact ⟨_, e.2.2.1, by omega⟩
    have hn := p3.na
    have hlb := W3.nn.1
    refine c76 (fun I4 g4 b4 => c105 (c := c) (by rw [g4 247 (by decide)]; exact hc) hcb (fun I5 g5 b5 => c153 (by rw [g5 247 (by decide) (by decide), g4 247 (by decide)]; exact hn.1) hlb (fun I6 J6 g6 k6 z18 b6 j6 => ?_)))
    have r6 : RP I6 (raP tp 1001 0 sz).2.1 := by
      refine p3.rp (c := c) (fun k hk => ?_) hc (by omega) (fun k hk => ?_) W3
      · rw [g6 253 (by decide) (by decide), g5 253 (by decide) (by decide)]; exact b4 k hk
      · rw [g6 254 (by decide) (by decide), g6 255 (by decide) (by decide), (b5 k hk).1, (b5 k hk).2, g4 254 (by decide), g4 255 (by decide)]; exact ⟨rfl, rfl⟩
    refine m164 r6 W3.w (fun I7 g7 k7 kr z263 z260 z25 z264 => ?_)
    refine h0 z W3 I7 J6 (fun a ha => ?_) (fun a ha => ?_) ?_ kr ⟨?_, fun i hi => ?_⟩ z263 z260 z25 z264 ?_
    · rw [g7 a (by omega) (by omega), g6 a (by omega) (by omega), g5 a (by omega) (by omega), g4 a (by omega), f3.1 a (by omega) (by omega) (by omega) (by omega) (by omega), ea1 a (by omega) (by omega) (by omega) (by omega)]
    · rw [j6 a (by omega), f3.2.2.2.2 a (by omega), f1.2.2 a (by omega)]
    · rw [j6 252 (by decide), f3.2.2.2.2 252 (by decide), f1.2.2 252 (by decide)]
    · rw [k7 18 (by decide)]; exact z18
    · have := b6 i hi
      have := hn.2 i hi
      rw [g7 258 (by decide) (by omega), (b6 i hi).1, (b6 i hi).2, g5 259 (by decide) (by decide), g4 259 (by decide)]
      exact this
    · rw [k7 2 (by decide), k6 2 (by decide), g5 247 (by decide) (by decide), g4 247 (by decide), f3.2.1 2 (by decide) (by decide) (by decide) (by decide) (by decide), e7 2 (by decide) (by decide) (by decide)]; exact z2
  · refine h1 z I3 J3 ⟨fun a q1 q2 q3 q4 q5 q6 q7 => ?_, fun k hk => ?_, fun k hk => ?_, fun k hk => ?_, fun a q1 q2 => ?_⟩ ?_
    · rw [f3.1 a q1 q4 q5 q6 q7, ea1 a q1 q2 q3 q4]
    · have hk : k = 18 ∨ k = 25 := by simpa using hk
      rw [f3.2.1 k (by omega) (by omega) (by omega) (by omega) (by omega), e7 k (by omega) (by omega) (by omega), f1.2.1 k (by omega) (by omega) (by omega) (by omega), u2i (by omega)]
    · rw [f3.2.2.1 k hk, k2 k hk, u2n (by decide), u2n (by decide), u2n (by decide), f1.1 253 (by decide) (by decide) (by decide), u2n (by decide)]
    · rw [(f3.2.2.2.1 k hk).1, (f3.2.2.2.1 k hk).2, ea1 254 (by decide) (by decide) (by decide) (by decide), ea1 255 (by decide) (by decide) (by decide) (by decide)]; exact ⟨rfl, rfl⟩
    · rw [f3.2.2.2.2 a q2, f1.2.2 a q1]
    · rw [f3.2.1 2 (by decide) (by decide) (by decide) (by decide) (by decide), e7 2 (by decide) (by decide) (by decide)]; exact z2
end
