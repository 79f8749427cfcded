/-! orchard on both sides -/
section
variable {G : GG} {d : Nat} {P : Int32 → mm_M → Prop} {Pv : mm_M → Prop} {Q : Option Value → mm_M → Prop} {r : Nat → Nat} {I : Nat → Nat → Int32} {J : Nat → Nat → Int64} {π : PLN} {σ : Nat → Nat → Nat} {tp : List Nat} {y i j n f N : Nat} {us : List ST} {fe : FE} {ms : Nat → Option (ST × FE)} {ln : LN} {nm : NMT} {s : OS} {I' I2 : Nat → Nat → Int32} {J' J2 : Nat → Nat → Int64}
theorem RP.lt (h : RP I π) (hw : WP π) (h3 : ∀ k, k < 50 → I' 253 k = I 253 k) (h4 : ∀ k, k < 1100 → I' 254 k = I 254 k ∧ I' 255 k = I 255 k) : RP I' π := by
  obtain ⟨⟨a1, a2, a3, a4, a5⟩, b1, b2, b3, b4⟩ := h
  have hT := hw.1
  have hP := hw.2.1
  have hF : nfF π ≤ 12 := by
    have := hw.2.2.2.2.2.1
    unfold nfF; split <;> omega
  have hlen := hw.2.2.2.2.2.2.2.2.2.2
  refine ⟨⟨?_, ?_, ?_, ?_, ?_⟩, fun i hi => ?_, fun t ht => ?_, fun p hp => ?_, ?_⟩
  · rw [h3 0 (by decide)]; exact a1
  · rw [h3 1 (by decide)]; exact a2
  · rw [h3 2 (by decide)]; exact a3
  · rw [h3 3 (by decide)]; exact a4
  · rw [h3 4 (by decide)]; exact a5
  · rw [h3 (36 + i) (by omega)]; exact b1 i hi
  · rw [h3 _ (by omega), h3 _ (by omega), h3 _ (by omega)]; exact b2 t ht
  · rw [h3 _ (by omega), h3 _ (by omega)]; exact b3 p hp
  · rw [h3 5 (by decide)]
    rcases b4 with e | ⟨e1, e2, e3, e4⟩
    · exact Or.inl e
    · refine Or.inr ⟨e1, e2, ?_, fun i hi => ?_⟩
      · rw [(h4 _ (by omega)).1]; exact e3
      · rw [(h4 i (by omega)).1, (h4 i (by omega)).2]; exact e4 i hi
theorem L110 {M : mm_M} (h : PR y M) : EQ G (d + 40) 110 170 y [] M := by
  obtain ⟨r, I, J, π, σ, us, ms, fe, ln, nm, tp, rfl, hA, hR, hY⟩ := h
  have hl := hA.ma.len
  have hfe := hA.wf.1
  refine e110 ⟨rfl, rfl, rfl, n28 hA.ta hA.wt (fun z I1 J1 f1 W1 p1 => ⟨rfl, rfl, e106 ?_⟩) (fun z zb I1 J1 f1 => ⟨rfl, rfl, e106 ?_⟩)⟩
  · have p2 : CPO (u2 I1 2 0 0) J1 (raP tp 1001 0 sz).2 := p1.fr (fun a h1 _ => u2n (by omega)) rfl rfl
    refine ⟨rfl, ifp rfl ⟨rfl, rfl, rfl, rfl, n53 p2 W1 (fun I2 J2 g2 j2 cp na => ⟨rfl, rfl, d68 (s := 38) (by decide) cp W1.w (fun I3 f3 k3 => ⟨rfl, rfl, e13 ⟨rfl, rfl, rfl, e1 ⟨rfl, rfl, rfl, n43 (fun I5 g5 z54 z58 => ⟨rfl, ?_⟩)⟩⟩⟩)⟩)⟩⟩
    have g2 : ∀ a, (a < 4 ∨ 14 < a) → I2 a = u2 I1 2 0 0 a := g2
    have j2 : ∀ a, a ≠ 8 → a ≠ 11 → J2 a = J1 a := j2
    have g5 : ∀ a, a ≠ 54 → a ≠ 58 → I5 a = u2 (u2 I3 16 0 0) 231 0 0 a := g5
    have g53 : ∀ a, a ≠ 54 → a ≠ 58 → a ≠ 16 → a ≠ 231 → I5 a = I3 a := fun a a1 a2 a3 a4 => by rw [g5 a a1 a2]; exact (u2n a4).trans (u2n a3)
    have hi : ∀ a, 247 ≤ a → I5 a = I a := fun a ha => by
      rw [g53 a (by omega) (by omega) (by omega) (by omega), f3 a (by simp [sl]; omega), g2 a (by omega), u2n (by omega), f1.1 a (by omega) (by omega)]
    have hj : ∀ a, 247 ≤ a → J2 a = J a := fun a ha => by rw [j2 a (by omega) (by omega), f1.2.2 a (by omega) (by omega) (by omega)]
    have hks : KS I5 38 (raP tp 1001 0 sz).2.1 (begF (raP tp 1001 0 sz).2.1) := ⟨k3.st, k3.p.keep (fun a h1 h2 => g53 a (by omega) (by omega) (by omega) (by omega)), k3.w, k3.c.keep (fun a h1 h2 => g53 a (by omega) (by omega) (by omega) (by omega)), k3.v⟩
    have hA5 : CA r I5 J2 (raP tp 1001 0 sz).2.1 (begF (raP tp 1001 0 sz).2.1) [] (fun _ => none) [] [] (raP tp 1001 0 sz).2.2.1 [] := by
      refine ⟨hks, ⟨z54, by decide, hA.pa.2.2.1, hA.pa.2.2.2.1, fun i hi => absurd hi (Nat.not_lt_zero _)⟩, fun m hm => z58 m hm, ⟨⟨?_, fun i hi => absurd hi (Nat.not_lt_zero _)⟩, by decide, fun i hi => absurd hi (Nat.not_lt_zero _)⟩, ⟨⟨?_, fun i hi => absurd hi (Nat.not_lt_zero _)⟩, by decide, fun i hi => absurd hi (Nat.not_lt_zero _)⟩, ⟨na, W1.nn⟩, ⟨?_, fun i hi => absurd hi (Nat.not_lt_zero _)⟩, by decide, fun i hi => absurd hi (Nat.not_lt_zero _)⟩
      · rw [g5 231 (by decide) (by decide)]; exact u2s
      · rw [g5 16 (by decide) (by decide), u2n (by decide), u2s]; rfl
      · rw [g53 2 (by decide) (by decide) (by decide) (by decide), f3 2 (by decide), g2 2 (by omega), u2s]; rfl
    have hR5 : TB I5 tp ∧ WC J2 := by
      unfold TB WC; rw [hi 247 (by decide), hi 248 (by decide), hj 252 (by decide)]; exact ⟨hR.tb, hR.wc⟩
    refine m170 hR5.1 hA.wt hR5.2 (fun _ _ I6 J6 l6 lj6 w6 kr nb z263 z260 z25 z264 zt => ⟨rfl, ?_⟩) (fun z' => absurd z z')
    refine ⟨r, I6, J6, _, _, [], fun _ => none, [], [], _, [], rfl, hA5.hi l6 lj6, ⟨kr, ⟨z25, by decide, fun i hi => absurd hi (Nat.not_lt_zero _)⟩, fun m hm => z264 m hm, ⟨z263, fun i hi => absurd hi (Nat.not_lt_zero _)⟩, ⟨z260, fun i hi => absurd hi (Nat.not_lt_zero _)⟩, nb, ⟨zt, fun i hi => absurd hi (Nat.not_lt_zero _)⟩, ?_⟩, ⟨Nat.zero_le _, fun i hi => absurd hi (Nat.not_lt_zero _), fun m x _ e => by simp at e⟩⟩
    unfold WC; rw [w6]; exact hR5.2
  · refine ⟨rfl, ifn (nI_ne0 (by omega) (by omega)) ⟨rfl, ?_⟩⟩
    have hi : ∀ a, 247 ≤ a → u2 I1 2 0 0 a = I a := fun a ha => by rw [u2n (by omega), f1.1 a (by omega) (by omega)]
    have hj : ∀ a, 247 ≤ a → J1 a = J a := fun a ha => f1.2.2 a (by omega) (by omega) (by omega)
    have hA1 : CA r (u2 I1 2 0 0) J1 π σ us ms fe ln nm [] := by
      have hA0 : CA r (fun a => if a = 2 ∨ a = 3 then u2 I1 2 0 0 a else I a) J π σ us ms fe ln nm [] := hA.tape (fun a a1 a2 => if_neg (by omega)) ⟨by show (if (2 : Nat) = 2 ∨ (2 : Nat) = 3 then u2 I1 2 0 0 2 else I 2) 0 = _; rw [if_pos (Or.inl rfl), u2s]; rfl, fun i hi => absurd hi (Nat.not_lt_zero _)⟩ ⟨by decide, fun i hi => absurd hi (Nat.not_lt_zero _)⟩
      refine hA0.q (fun a ha => ?_) (f1.2.2 8 (by decide) (by decide) (by decide)) (f1.2.2 11 (by decide) (by decide) (by decide))
      by_cases e : a = 2 ∨ a = 3
      · rw [if_pos e]
      · rw [if_neg e, u2n (by omega), f1.1 a (by omega) (by unfold live at ha; omega)]
    have hR1 : RA (u2 I1 2 0 0) J1 π σ us ms fe ln nm tp := hR.q hl hfe (rk_lo hi hj)
    refine m170 hR1.tb hA.wt hR1.wc (fun z' => absurd z' z) (fun _ I6 J6 f6 zt => ⟨rfl, ?_⟩)
    obtain ⟨q1, q2, q3, q4, q5⟩ := f6
    have q263 : I6 263 = u2 I1 2 0 0 263 := q1 263 (by decide) (by decide) (by decide) (by decide) (by decide) (by decide) (by decide)
    have k := hR1.k
    refine ⟨r, I6, J6, π, σ, us, ms, fe, ln, nm, [], rfl, hA1.hi (fun a ha => q1 a (by omega) (by omega) (by omega) (by omega) (by omega) (by omega) (by omega)) (fun a ha => q5 a (by omega) (by omega)), ⟨⟨k.1, k.p.lt k.w q3 q4, k.w, k.c.keep k.w (fun k _ _ => by rw [q263]), k.v⟩, hR1.pb.fr k.w (q2 25 (by decide)) (fun k _ _ => by rw [q263]), hR1.mb.fr k.w hl (q1 264 (by decide) (by decide) (by decide) (by decide) (by decide) (by decide) (by decide)) (fun k _ _ => by rw [q263]), hR1.rf.keep hfe (fun k _ _ => by rw [q263]), ?_, ?_, ⟨zt, fun i hi => absurd hi (Nat.not_lt_zero _)⟩, ?_⟩, hY.mono (by omega)⟩
    · unfold LB; rw [q1 260 (by decide) (by decide) (by decide) (by decide) (by decide) (by decide) (by decide)]; exact hR1.lb
    · unfold NB; rw [q2 18 (by decide), q1 258 (by decide) (by decide) (by decide) (by decide) (by decide) (by decide) (by decide), q5 256 (by decide) (by decide)]; exact hR1.nb
    · unfold WC; rw [q5 252 (by decide) (by decide)]; exact hR1.wc
end
