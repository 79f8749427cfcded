/-! the other side takes an orchard over -/
section
variable {G : GG} {d : Nat} {P : Int32 → mm_M → Prop} {Pv : mm_M → Prop} {Q : Option Value → mm_M → Prop} {r : Nat → Nat} {I : Nat → Nat → Int32} {J : Nat → Nat → Int64} {π : PLN} {σ : Nat → Nat → Nat} {tp : List Nat} {y i j n f N : Nat} {nm : NMT} {s : OS} {I' I2 : Nat → Nat → Int32} {J' J2 : Nat → Nat → Int64}
theorem m164 (hp : RP I π) (hw : WP π) (h : ∀ I', (∀ a, a ≠ 247 → (a < 260 ∨ 264 < a) → I' a = I a) → (∀ k, k ≠ 25 → I' 247 k = I 247 k) → KR I' 0 π (begF π) → I' 263 43 = 0 → I' 260 0 = 0 → I' 247 25 = 0 → (∀ m, m < 4 → I' 264 m = 0) → Pv (mem r I' J)) : CV G (d + 3) 164 [.ref 247] (mem r I J) Pv := by
  refine e164 ⟨rfl, m165 (b := 0) hp hw (by decide) (fun I1 f1 k1 => ?_)⟩
  simp only [mKm, mNm, mIm, mIf, mJm, mJf, mRm, sIm, sJm, rwIm, rwJm, kN, nN, rN, true_and, ix (show 43 < 1380 by decide) (by decide), ix (show 0 < 250 by decide) (by decide)]
  refine ⟨(ix (show 43 < 1380 by decide) (by decide)).1, (ix (show 0 < 250 by decide) (by decide)).1, b164_0_20 ?_⟩
  simp only [mKm, mNm, mIm, mIf, mJm, mJf, mRm, sIm, sJm, rwIm, rwJm, kN, nN, rN, true_and]
  have loop : ∀ m t (I2 : Nat → Nat → Int32), t + m = 4 → (∀ a, a ≠ 264 → I2 a = u2 (u2 (u2 I1 263 43 0) 260 0 0) 247 25 0 a) → (∀ k, k < t → I2 264 k = 0) → XX G (d + 2) none P164 (QV Pv) 27 [.ref 247, .int (nI t)] [] (mem r I2 J) := by
    intro m
    induction m with
    | zero =>
      intro t I2 ht h1 h2
      have e4 : t = 4 := by omega
      subst e4
      refine x164_27 (ifp (by decide) ⟨rfl, h I2 (fun a a1 a2 => ?_) (fun k hk => ?_) ?_ ?_ ?_ ?_ h2⟩)
      · rw [h1 a (by omega), u2n a1, u2n (by omega), u2n (by omega)]; exact f1.1 a (by simp; omega)
      · rw [h1 247 (by decide), u2i hk, u2n (by decide), u2n (by decide), f1.1 247 (by decide)]
      · refine k1.keep (fun a ha => ?_) (fun k _ hk => by rw [h1 263 (by decide), u2n (by decide), u2n (by decide), u2i (by omega)])
        have ha : a = 253 ∨ a = 254 ∨ a = 255 := by simpa using ha
        rw [h1 a (by omega), u2n (by omega), u2n (by omega), u2n (by omega)]
      · rw [h1 263 (by decide), u2n (by decide), u2n (by decide), u2s]
      · rw [h1 260 (by decide), u2n (by decide), u2s]
      · rw [h1 247 (by decide), u2s]
    | succ m ih =>
      intro t I2 ht h1 h2
      refine x164_27 (ifn (fun z => absurd ((nI_leI (a := 4) (by decide) (by omega)).mp z) (by omega)) ?_)
      simp only [mKm, mNm, mIm, mIf, mJm, mJf, mRm, sIm, sJm, rwIm, rwJm, kN, nN, rN, true_and, ix (show t < 4 by omega) (by decide)]
      refine b164_27_39 ?_
      rw [nI_1]
      refine ih (t + 1) _ (by omega) (fun a ha => by rw [u2n ha]; exact h1 a ha) (fun k hk => ?_)
      by_cases e : k = t
      · rw [e, u2s]; rfl
      · rw [u2i e]; exact h2 k (by omega)
  exact loop 4 0 _ rfl (fun a _ => rfl) (fun k hk => absurd hk (Nat.not_lt_zero _))
/-- what is copied -/
def CPd (I I' : Nat → Nat → Int32) (J J' : Nat → Nat → Int64) (c l : Nat) : Prop := (∀ a, a ≠ 253 → a ≠ 254 → a ≠ 255 → a ≠ 258 → I' a = I a) ∧ (∀ k, k < 50 → I' 253 k = I 253 (50 + k)) ∧ (∀ k, k < c → I' 254 k = I 254 (1100 + k) ∧ I' 255 k = I 255 (1100 + k)) ∧ (∀ k, k < l → I' 258 k = I 259 k ∧ J' 256 k = J 257 k) ∧ ∀ a, a ≠ 256 → J' a = J a
theorem c76 (hh : ∀ I', (∀ a, a ≠ 253 → I' a = I a) → (∀ k, k < 50 → I' 253 k = I 253 (50 + k)) → XX G d (some .int) P170 (QI P) 105 [.ref 247, .int 0] [] (mem r I' J)) : XX G d (some .int) P170 (QI P) 76 [.ref 247, .int 0] [] (mem r I J) := by
  have loop : ∀ m t (I2 : Nat → Nat → Int32), t + m = 50 → (∀ a, a ≠ 253 → I2 a = I a) → (∀ k, k < t → I2 253 k = I 253 (50 + k)) → (∀ k, 50 ≤ k → I2 253 k = I 253 k) → XX G d (some .int) P170 (QI P) 76 [.ref 247, .int (nI t)] [] (mem r I2 J) := by
    intro m
    induction m with
    | zero =>
      intro t I2 ht h1 h2 h3
      have e4 : t = 50 := by omega
      subst e4
      exact x170_76 (ifp (by decide) (hh I2 h1 h2))
    | succ m ih =>
      intro t I2 ht h1 h2 h3
      have e0 : (50 : Int32) + nI t = nI (50 + t) := nI_add 50 t
      refine x170_76 (ifn (fun z => absurd ((nI_leI (a := 50) (by decide) (by omega)).mp z) (by omega)) ?_)
      simp only [mKm, mNm, mIm, mIf, mJm, mJf, mRm, sIm, sJm, rwIm, rwJm, kN, nN, rN, true_and, e0, ix (show 50 + t < 100 by omega) (by decide), ix (show t < 100 by omega) (by decide)]
      refine b170_76_97 ?_
      rw [nI_1]
      refine ih (t + 1) _ (by omega) (fun a ha => by rw [u2n ha]; exact h1 a ha) (fun k hk => ?_) (fun k hk => by rw [u2i (by omega)]; exact h3 k hk)
      by_cases e : k = t
      · rw [e, u2s]; exact h3 _ (by omega)
      · rw [u2i e]; exact h2 k (by omega)
  exact loop 50 0 I rfl (fun _ _ => rfl) (fun k hk => absurd hk (Nat.not_lt_zero _)) (fun _ _ => rfl)
theorem c105 {c : Nat} (hc : I 247 13 = nI c) (hcb : c ≤ 1100) (hh : ∀ I', (∀ a, a ≠ 254 → a ≠ 255 → I' a = I a) → (∀ k, k < c → I' 254 k = I 254 (1100 + k) ∧ I' 255 k = I 255 (1100 + k)) → XX G d (some .int) P170 (QI P) 153 [.ref 247, .int 0] [] (mem r I' J)) : XX G d (some .int) P170 (QI P) 105 [.ref 247, .int 0] [] (mem r I J) := by
  have loop : ∀ m t (I2 : Nat → Nat → Int32), t + m = c → (∀ a, a ≠ 254 → a ≠ 255 → I2 a = I a) → (∀ k, k < t → I2 254 k = I 254 (1100 + k) ∧ I2 255 k = I 255 (1100 + k)) → (∀ k, 1100 ≤ k → I2 254 k = I 254 k ∧ I2 255 k = I 255 k) → XX G d (some .int) P170 (QI P) 105 [.ref 247, .int (nI t)] [] (mem r I2 J) := by
    intro m
    induction m with
    | zero =>
      intro t I2 ht h1 h2 h3
      have e13 : I2 247 13 = nI c := by rw [h1 247 (by decide) (by decide)]; exact hc
      have e4 : t = c := by omega
      subst e4
      refine x170_105 ?_
      simp only [mKm, mNm, mIm, mIf, mJm, mJf, mRm, sIm, sJm, rwIm, rwJm, kN, nN, rN, true_and, e13]
      exact ifp (by first | exact Int32.le_refl _ | exact trivial) (hh I2 h1 h2)
    | succ m ih =>
      intro t I2 ht h1 h2 h3
      have e13 : I2 247 13 = nI c := by rw [h1 247 (by decide) (by decide)]; exact hc
      have e0 : (1100 : Int32) + nI t = nI (1100 + t) := nI_add 1100 t
      refine x170_105 ?_
      simp only [mKm, mNm, mIm, mIf, mJm, mJf, mRm, sIm, sJm, rwIm, rwJm, kN, nN, rN, true_and, e13, e0, ix (show 1100 + t < 2200 by omega) (by decide), ix (show t < 2200 by omega) (by decide)]
      refine ifn (fun z => absurd ((nI_leI (by omega) (by omega)).mp z) (by omega)) (b170_105_129 ?_)
      simp only [mKm, mNm, mIm, mIf, mJm, mJf, mRm, sIm, sJm, rwIm, rwJm, kN, nN, rN, true_and, e0, ix (show 1100 + t < 2200 by omega) (by decide), ix (show t < 2200 by omega) (by decide)]
      refine b170_105_145 ?_
      rw [nI_1]
      have h3t := h3 (1100 + t) (by omega)
      refine ih (t + 1) _ (by omega) (fun a a1 a2 => by rw [u2n a2, u2n a1]; exact h1 a a1 a2) (fun k hk => ?_) (fun k hk => ?_)
      · by_cases e : k = t
        · rw [e, u2s]
          refine ⟨?_, ?_⟩
          · rw [u2n (by decide), u2s]; exact h3t.1
          · rw [u2n (by decide)]; exact h3t.2
        · have := h2 k (by omega)
          refine ⟨?_, ?_⟩
          · rw [u2n (by decide), u2i e]; exact this.1
          · rw [u2i e, u2n (by decide)]; exact this.2
      · have := h3 k hk
        refine ⟨?_, ?_⟩
        · rw [u2n (by decide), u2i (by omega)]; exact this.1
        · rw [u2i (by omega), u2n (by decide)]; exact this.2
  exact loop c 0 I (by omega) (fun _ _ _ => rfl) (fun k hk => absurd hk (Nat.not_lt_zero _)) (fun _ _ => ⟨rfl, rfl⟩)
theorem c153 {l : Nat} (hl : I 247 19 = nI l) (hlb : l ≤ 12) (hh : ∀ I' J', (∀ a, a ≠ 247 → a ≠ 258 → I' a = I a) → (∀ k, k ≠ 18 → I' 247 k = I 247 k) → I' 247 18 = nI l → (∀ k, k < l → I' 258 k = I 259 k ∧ J' 256 k = J 257 k) → (∀ a, a ≠ 256 → J' a = J a) → CV G d 164 [.ref 247] (mem r I' J') (fun N2 => P 0 N2)) : XX G d (some .int) P170 (QI P) 153 [.ref 247, .int 0] [] (mem r I J) := by
  have loop : ∀ m t (I2 : Nat → Nat → Int32) (J2 : Nat → Nat → Int64), t + m = l → (∀ a, a ≠ 258 → I2 a = I a) → (∀ k, k < t → I2 258 k = I 259 k ∧ J2 256 k = J 257 k) → (∀ a, a ≠ 256 → J2 a = J a) → XX G d (some .int) P170 (QI P) 153 [.ref 247, .int (nI t)] [] (mem r I2 J2) := by
    intro m
    induction m with
    | zero =>
      intro t I2 J2 ht h1 h2 h3
      have e19 : I2 247 19 = nI l := by rw [h1 247 (by decide)]; exact hl
      have e4 : t = l := by omega
      subst e4
      refine x170_153 ?_
      have g := hh (u2 I2 247 18 (nI t)) J2 (fun a a1 a2 => by rw [u2n a1]; exact h1 a a2) (fun k hk => by rw [u2i hk, h1 247 (by decide)]) u2s (fun k hk => by rw [u2n (by decide)]; exact h2 k hk) h3
      have g := CV_mono (P' := fun N2 => QI P (some (.int 0)) N2) g (fun N z => ⟨_, rfl, z⟩)
      simp only [mKm, mNm, mIm, mIf, mJm, mJf, mRm, sIm, sJm, rwIm, rwJm, kN, nN, rN, true_and, e19]
      exact ifp (by first | exact Int32.le_refl _ | exact trivial) g
    | succ m ih =>
      intro t I2 J2 ht h1 h2 h3
      have e19 : I2 247 19 = nI l := by rw [h1 247 (by decide)]; exact hl
      refine x170_153 ?_
      simp only [mKm, mNm, mIm, mIf, mJm, mJf, mRm, sIm, sJm, rwIm, rwJm, kN, nN, rN, true_and, e19, ix (show t < 12 by omega) (by decide)]
      refine ifn (fun z => absurd ((nI_leI (by omega) (by omega)).mp z) (by omega)) (b170_153_173 ?_)
      simp only [mKm, mNm, mIm, mIf, mJm, mJf, mRm, sIm, sJm, rwIm, rwJm, kN, nN, rN, true_and, ix (show t < 12 by omega) (by decide)]
      refine b170_153_185 ?_
      rw [nI_1]
      refine ih (t + 1) _ _ (by omega) (fun a a1 => by rw [u2n a1]; exact h1 a a1) (fun k hk => ?_) (fun a ha => by rw [u2n ha]; exact h3 a ha)
      by_cases e : k = t
      · rw [e, u2s, u2s, h1 259 (by decide), h3 257 (by decide)]; exact ⟨rfl, rfl⟩
      · rw [u2i e, u2i e]; exact h2 k (by omega)
  exact loop l 0 I J (by omega) (fun _ _ => rfl) (fun k hk => absurd hk (Nat.not_lt_zero _)) (fun _ _ => rfl)
end
