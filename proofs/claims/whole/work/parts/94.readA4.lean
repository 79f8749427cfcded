/-! the class reads an orchard: the whole -/
theorem WO_z : WO sz := by
  refine ⟨⟨by decide, by decide, by decide, by decide, by decide, by decide, fun i hi => absurd hi (Nat.not_lt_zero _), fun i hi => absurd hi (Nat.not_lt_zero _), fun i hi => absurd hi (Nat.not_lt_zero _), Or.inl rfl, by decide⟩, ⟨by decide, fun i hi => absurd hi (Nat.not_lt_zero _), fun i hi => absurd hi (Nat.not_lt_zero _), fun i hi => absurd hi (Nat.not_lt_zero _), fun i i' hi => absurd hi (Nat.not_lt_zero _), fun i i' hi => absurd hi (Nat.not_lt_zero _)⟩, by decide, fun _ => rfl, rfl⟩
section
variable {G : GG} {d : Nat} {P : Int32 → mm_M → Prop} {Pv : mm_M → Prop} {Q : Option Value → mm_M → Prop} {r : Nat → Nat} {I : Nat → Nat → Int32} {J : Nat → Nat → Int64} {π : PLN} {σ : Nat → Nat → Nat} {tp : List Nat} {y i j n f : Nat} {nm : NMT} {s : OS} {I' I2 : Nat → Nat → Int32} {J' J2 : Nat → Nat → Int64}
theorem n50 (h : ∀ I', Fcr I I' J J → (∀ a, a ≠ 21 → a ≠ 30 → I' a = I a) → CP (fun a => I' (a + 17)) πz → Pv (mem r I' J)) : CV G (d + 2) 50 [.ref 21] (mem r I J) Pv := by
  refine e50 ?_
  simp only [mKm, mNm, mIm, mIf, mJm, mJf, mRm, sIm, sJm, rwIm, rwJm, kN, nN, rN, true_and]
  refine b50_0_15 ?_
  simp only [mKm, mNm, mIm, mIf, mJm, mJf, mRm, sIm, sJm, rwIm, rwJm, kN, nN, rN, true_and]
  refine e6 ?_
  simp only [mKm, mNm, mIm, mIf, mJm, mJf, mRm, sIm, sJm, rwIm, rwJm, kN, nN, rN, true_and]
  have fin := h (u2 (u2 (u2 (u2 (u2 (u2 I 21 0 0) 21 1 0) 21 2 1) 21 3 3) 21 4 0) 30 2 0) ((((((Fcr.set (by decide)).trans (Fcr.set (by decide))).trans (Fcr.set (by decide))).trans (Fcr.set (by decide))).trans (Fcr.set (by decide))).trans (Fcr.set (by decide))) (fun a h1 h2 => by rw [u2n h2, u2n h1, u2n h1, u2n h1, u2n h1, u2n h1]) ⟨fun k hk => ?_, fun i hi => absurd hi (Nat.not_lt_zero _), fun i hi => absurd hi (Nat.not_lt_zero _), fun i hi => absurd hi (Nat.not_lt_zero _), u2s, fun i hi => absurd hi (Nat.not_lt_zero _)⟩
  · first | exact fin | exact ⟨rfl, fin⟩ | exact ⟨rfl, rfl, fin⟩
  · show u2 (u2 (u2 (u2 (u2 (u2 I 21 0 0) 21 1 0) 21 2 1) 21 3 3) 21 4 0) 30 2 0 21 k = _
    rw [u2n (by decide)]
    have : k = 0 ∨ k = 1 ∨ k = 2 ∨ k = 3 ∨ k = 4 := by omega
    rcases this with rfl | rfl | rfl | rfl | rfl
    · rw [u2i (by decide), u2i (by decide), u2i (by decide), u2i (by decide), u2s]; rfl
    · rw [u2i (by decide), u2i (by decide), u2i (by decide), u2s]; rfl
    · rw [u2i (by decide), u2i (by decide), u2s]; rfl
    · rw [u2i (by decide), u2s]; rfl
    · rw [u2s]; rfl
theorem n28 (ht : TA I tp) (hw : WT tp) (h0 : (raP tp 1001 0 sz).1 = 0 → ∀ I' J', Fcr I I' J J' → WO (raP tp 1001 0 sz).2 → CPO I' J' (raP tp 1001 0 sz).2 → P 0 (mem r I' J')) (h1 : (raP tp 1001 0 sz).1 ≠ 0 → (raP tp 1001 0 sz).1 < 2 ^ 20 → ∀ I' J', Fcr I I' J J' → P (nI (raP tp 1001 0 sz).1) (mem r I' J')) : CI G (d + 39) 28 [.ref 20, .ref 2] (mem r I J) P := by
  refine e28 ⟨rfl, rfl, n50 (fun I1 f1 a1 p1 => ⟨rfl, rfl, e89 ?_⟩)⟩
  simp only [mKm, mNm, mIm, mIf, mJm, mJf, mRm, sIm, sJm, rwIm, rwJm, kN, nN, rN, true_and]
  have t2 : TA (u2 (u2 (u2 I1 20 1 0) 2 8 0) 2 4 0) tp := by
    unfold TA
    rw [u2i (by decide), u2i (by decide), u2n (by decide), u2n (by decide), u2n (by decide), u2n (by decide), f1.2.1, f1.1 3 (by decide) (by omega)]
    exact ht
  have g2 : Fcr I (u2 (u2 (u2 I1 20 1 0) 2 8 0) 2 4 0) J J := (f1.trans (Fcr.set (a := 20) (k := 1) (v := 0) (by decide))).trans ⟨fun a h1 _ => by rw [u2n h1, u2n h1], by rw [u2i (by decide), u2i (by decide)], fun _ _ _ _ => rfl⟩
  refine d90 (q := 0) t2 hw (Nat.zero_le _) (by rw [u2i (by decide), u2s]; rfl) (fun I3 J3 f3 c3 => ?_)
  have ch : ∀ a, a ≠ 2 → a ≠ 20 → I3 a = I1 a := fun a h1 h2 => by rw [f3.1 a h1, u2n h1, u2n h1, u2n h2]
  have hc : CRD I3 J3 tp 0 := ⟨t2.fcl f3, hw, c3, by rw [f3.2.2.1, u2s]⟩
  have hp : CPO I3 J3 sz := by
    refine ⟨?_, fun i hi => absurd hi (Nat.not_lt_zero _), ?_⟩
    · obtain ⟨c1, -, -, -, c5, -⟩ := p1
      refine ⟨fun k hk => ?_, fun i hi => absurd hi (Nat.not_lt_zero _), fun i hi => absurd hi (Nat.not_lt_zero _), fun i hi => absurd hi (Nat.not_lt_zero _), ?_, fun i hi => absurd hi (Nat.not_lt_zero _)⟩
      · show I3 21 k = _; rw [ch 21 (by decide) (by decide)]; exact c1 k hk
      · show I3 30 2 = _; rw [ch 30 (by decide) (by decide)]; exact c5
    · rw [f3.1 20 (by decide), u2n (by decide), u2n (by decide), u2s]; rfl
  exact n28l 1001 0 0 I3 J3 sz (by decide) (Nat.le_refl _) (fun k hk => absurd hk (Nat.not_lt_zero _)) WO_z hc hp (fun z I4 J4 f4 => h0 z I4 J4 ((g2.trans f3.cr).trans f4)) (fun z z2 I4 J4 f4 => h1 z z2 I4 J4 ((g2.trans f3.cr).trans f4))
end
