/-! morning on both sides -/
section
variable {G : GG} {d : Nat} {P : Int32 → mm_M → Prop} {Pv : mm_M → Prop} {Q : Option Value → mm_M → Prop} {r : Nat → Nat} {I : Nat → Nat → Int32} {J : Nat → Nat → Int64} {π : PLN} {σ : Nat → Nat → Nat} {tp : List Nat} {y i j n f N : Nat} {us : List ST} {fe : FE} {ms : Nat → Option (ST × FE)} {ln : LN} {nm : NMT} {I' I2 : Nat → Nat → Int32} {J' J2 : Nat → Nat → Int64}
theorem L111 {M : mm_M} (h : PR y M) : EQ G (d + 12) 111 199 y [] M := by
  obtain ⟨r, I, J, π, σ, us, ms, fe, ln, nm, tp, rfl, hA, hR, hY⟩ := h
  have hl := hA.ma.len
  have hfe := hA.wf.1
  have h4 : I 4 0 = nI (nT π) ∧ I 4 1 = nI (nP π) := ⟨hA.k.p.1 0 (by decide), hA.k.p.1 1 (by decide)⟩
  have base : ∀ I1 J1, Fcm I I1 J J1 → CA r (u2 I1 2 0 0) J1 π σ us ms fe ln nm [] ∧ RA (u2 I1 2 0 0) J1 π σ us ms fe ln nm tp := fun I1 J1 f1 => by
    have hi : ∀ a, 247 ≤ a → u2 I1 2 0 0 a = I a := fun a ha => by rw [u2n (by omega), f1.1 a (by omega) (by omega) (by omega)]
    have hj : ∀ a, 247 ≤ a → J1 a = J a := fun a ha => f1.2.2 a (by omega) (by omega) (by omega)
    refine ⟨?_, hR.q hl hfe (rk_lo hi hj)⟩
    have hA0 : CA r (fun a => if a = 2 ∨ a = 3 then u2 I1 2 0 0 a else I a) J π σ us ms fe ln nm [] := hA.tape (fun a a1 a2 => if_neg (by omega)) ⟨by show (if (2 : Nat) = 2 ∨ (2 : Nat) = 3 then u2 I1 2 0 0 2 else I 2) 0 = _; rw [if_pos (Or.inl rfl), u2s]; rfl, fun i hi => absurd hi (Nat.not_lt_zero _)⟩ ⟨by decide, fun i hi => absurd hi (Nat.not_lt_zero _)⟩
    refine hA0.q (fun a ha => ?_) (f1.2.2 8 (by decide) (by decide) (by decide)) (f1.2.2 11 (by decide) (by decide) (by decide))
    by_cases e : a = 2 ∨ a = 3
    · rw [if_pos e]
    · rw [if_neg e, u2n (by omega), f1.1 a (by omega) (by unfold live at ha; omega) (by unfold live at ha; omega)]
  -- behind the other side
  have fin : ∀ (I2 : Nat → Nat → Int32) (J1 : Nat → Nat → Int64) (ln0 ln' : LN), CA r I2 J1 π σ us ms fe ln' nm [] → RA I2 J1 π σ us ms fe ln0 nm tp → ∀ I6 J6, Fmo I2 I6 J1 J6 → LB I6 ln' → PR (y + 1) (mem r I6 J6) := fun I2 J1 ln0 ln' cA rA I6 J6 f6 lb => by
    obtain ⟨q1, q2, q3, q4⟩ := f6
    have q263 : I6 263 = I2 263 := q1 263 (by decide) (by decide) (by decide) (by decide)
    have k := rA.k
    refine ⟨r, I6, J6, π, σ, us, ms, fe, ln', nm, [], rfl, cA.hi (fun a ha => q1 a (by omega) (by omega) (by omega) (by omega)) (fun a ha => q3 a (by omega)), ⟨k.keep (fun a ha => q1 a (by simp at ha; omega) (by simp at ha; omega) (by simp at ha; omega) (by simp at ha; omega)) (fun k _ _ => by rw [q263]), rA.pb.fr k.w (q2 25 (by decide)) (fun k _ _ => by rw [q263]), rA.mb.fr k.w hl (q1 264 (by decide) (by decide) (by decide) (by decide)) (fun k _ _ => by rw [q263]), rA.rf.keep hfe (fun k _ _ => by rw [q263]), lb, ?_, ⟨q4, fun i hi => absurd hi (Nat.not_lt_zero _)⟩, ?_⟩, hY.mono (by omega)⟩
    · unfold NB; rw [q2 18 (by decide), q1 258 (by decide) (by decide) (by decide) (by decide), q3 256 (by decide)]; exact rA.nb
    · unfold WC; rw [q3 252 (by decide)]; exact rA.wc
  refine e111 ⟨rfl, rfl, rfl, rfl, n24 hA.ta hA.wt hA.wn hA.w.1 hA.w.2.1 h4 hA.na (fun z I1 J1 f1 W1 p1 => ⟨rfl, rfl, e106 ⟨rfl, ifn (fun q => q rfl) ⟨rfl, rfl, rfl, rfl, n15 (I := u2 I1 2 0 0) (ln := (maP tp nm 1001 0 []).2) ?_ W1.1 (fun I2 g2 la2 => ⟨rfl, ?_⟩)⟩⟩⟩) (fun z zb I1 J1 f1 => ⟨rfl, rfl, e106 ⟨rfl, ifp (nI_ne0 (by omega) (by omega)) ⟨rfl, ?_⟩⟩⟩)⟩
  · exact p1.fr (fun a _ _ => u2n (by omega))
  · obtain ⟨hA1, hR1⟩ := base I1 J1 f1
    have hR2 : RA I2 J1 π σ us ms fe ln nm tp := hR1.q hl hfe (rk_lo (fun a ha => g2 a (by omega)) (fun _ _ => rfl))
    have hA2 : CA r I2 J1 π σ us ms fe (maP tp nm 1001 0 []).2 nm [] := by
      refine ⟨⟨hA1.k.st, hA1.k.p.keep (fun a h1 h2 => g2 a (by omega)), hA1.w, hA1.k.c.keep (fun a h1 h2 => g2 a (by omega)), hA1.k.v⟩, hA1.pa.fr (fun a h1 h2 => g2 a (by omega)), hA1.ma.fr (g2 _ (by omega)) (fun a h1 h2 => g2 a (by omega)), ⟨hA1.cf.keep (fun a h1 h2 => g2 a (by omega)), hA1.wf⟩, ⟨la2, W1⟩, ⟨hA1.na, hA1.wn⟩, ?_, hA1.wt⟩
      unfold TA; rw [g2 2 (by omega), g2 3 (by omega)]; exact hA1.ta
    exact m199 hR2.tb hA.wt hR2.wc hR2.nb hA.wn hA.w.1 hA.w.2.1 (fun _ _ I6 J6 f6 lb => ⟨rfl, fin I2 J1 _ _ hA2 hR2 I6 J6 f6 lb⟩) (fun z' => absurd z z')
  · obtain ⟨hA1, hR1⟩ := base I1 J1 f1
    refine m199 hR1.tb hA.wt hR1.wc hR1.nb hA.wn hA.w.1 hA.w.2.1 (fun z' => absurd z' z) (fun _ I6 J6 f6 lb => ⟨rfl, fin _ J1 _ _ hA1 hR1 I6 J6 f6 ?_⟩)
    have hlen := hA.wl.1
    refine ⟨by rw [lb 0 (by decide)]; exact hR1.lb.1, fun i hi => ?_⟩
    rw [lb _ (by omega), lb _ (by omega), lb _ (by omega)]
    exact hR1.lb.2 i hi
end
