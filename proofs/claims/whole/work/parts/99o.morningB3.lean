/-! morning: a line, on the other side -/
def LBs (I : Nat → Nat → Int32) (ln : LN) : Prop := ∀ i, i < ln.length → I 260 (125 + 3 * i) = nI (lK ln i) ∧ (lK ln i ≠ 4 → I 260 (125 + 3 * i + 1) = nI (lA ln i)) ∧ (lK ln i < 3 → I 260 (125 + 3 * i + 2) = nI (lB ln i))
def Fmn (I I' : Nat → Nat → Int32) : Prop := (∀ a, a ≠ 247 → a ≠ 260 → I' a = I a) ∧ (∀ k, k ≠ 7 → k ≠ 8 → I' 247 k = I 247 k) ∧ ∀ k, k < 125 → I' 260 k = I 260 k
section
variable {G : GG} {d : Nat} {P : Int32 → mm_M → Prop} {Pv : mm_M → Prop} {Q : Option Value → mm_M → Prop} {r : Nat → Nat} {I : Nat → Nat → Int32} {J : Nat → Nat → Int64} {π : PLN} {σ : Nat → Nat → Nat} {tp : List Nat} {y i j n f N : Nat} {nm : NMT} {ln : LN} {I' I2 : Nat → Nat → Int32} {J' J2 : Nat → Nat → Int64}
theorem Fmn.rfl' : Fmn I I := ⟨fun _ _ _ => rfl, fun _ _ _ => rfl, fun _ _ => rfl⟩
theorem Fmn.trans (h : Fmn I I') (h' : Fmn I' I2) : Fmn I I2 := ⟨fun a a1 a2 => (h'.1 a a1 a2).trans (h.1 a a1 a2), fun k k1 k2 => (h'.2.1 k k1 k2).trans (h.2.1 k k1 k2), fun x x1 => (h'.2.2 x x1).trans (h.2.2 x x1)⟩
theorem Fmn.s7 {v : Int32} : Fmn I (u2 I 247 7 v) := ⟨fun a a1 _ => u2n a1, fun k k1 _ => u2i k1, fun x _ => by rw [u2n (by decide)]⟩
theorem Fmn.s8 {v : Int32} : Fmn I (u2 I 247 8 v) := ⟨fun a a1 _ => u2n a1, fun k _ k1 => u2i k1, fun x _ => by rw [u2n (by decide)]⟩
theorem Fmn.s60 {k : Nat} {v : Int32} (hk : 125 ≤ k) : Fmn I (u2 I 260 k v) := ⟨fun a _ a1 => u2n a1, fun k _ _ => by rw [u2n (by decide)], fun x x1 => u2i (by omega)⟩
theorem RT.s60 {k : Nat} {v : Int32} (h : RT I J tp N i) : RT (u2 I 260 k v) J tp N i := h.fr (by rw [u2n (by decide)]) (by rw [u2n (by decide)]) (by rw [u2n (by decide)]) (by rw [u2n (by decide)]) rfl rfl
theorem FA.s60 {k : Nat} {v : Int32} (h : FA I f) : FA (u2 I 260 k v) f := h.fr (by rw [u2n (by decide)])
theorem NB.mn (h : NB I J nm) (hf : Fmn I I') : NB I' J nm := by unfold NB; rw [hf.2.1 18 (by decide) (by decide), hf.1 258 (by decide) (by decide)]; exact h
/-- behind a fault -/
theorem fx11 {l : Int32} (hF : FA I f) (hh : P (nI f) (mem r I J)) : XX G d (some .int) P199 (QI P) 11 [.ref 247, .int l, jk, jk] [] (mem r I J) := by
  refine x199_11 ⟨rfl, ifp hF.ne ⟨rfl, ifn hF.gt ⟨rfl, _, rfl, ?_⟩⟩⟩
  show P (I 247 8) _
  rw [hF.1]; exact hh
theorem fx188 {l1 l2 l3 : Int32} (hF : FA I f) (hh : P (nI f) (mem r I J)) : BB G (d + 2) (some .int) P199 (QI P) S199_186_188 188 [.ref 247, .int l1, .int l2, .int l3] [] (mem r I J) := b199_186_188 ⟨rfl, m198f hF (fx11 hF hh)⟩
theorem fx187 {l1 l2 l3 v : Int32} {k : Nat} (hF : FA I f) (hk : k < 250) (hh : ∀ I', FA I' f → (∃ w, I' = u2 I 260 k w) → P (nI f) (mem r I' J)) : XX G (d + 2) (some .int) P199 (QI P) 187 [.ref 247, .int l1, .int l2, .int l3] [.int v, .int (nI k), .ref 260] (mem r I J) := by
  refine x199_187 ?_
  simp only [mKm, mNm, mIm, mIf, mJm, mJf, mRm, sIm, sJm, rwIm, rwJm, kN, nN, rN, true_and, ix hk (by decide)]
  have hF' : FA (u2 I 260 k v) f := hF.s60
  exact m198f hF' (fx11 hF' (hh _ hF' ⟨v, rfl⟩))
/-- a line is read, then ; -/
def NXT (G : GG) (d : Nat) (P : Int32 → mm_M → Prop) (r : Nat → Nat) (I : Nat → Nat → Int32) (J : Nat → Nat → Int64) (tp : List Nat) (N : Nat) (l : Nat) (x : Nat × Nat × LN) : Prop := (x.1 = 0 → ∀ I', Fmn I I' → RT I' J tp N x.2.1 → LBs I' x.2.2 → CV G d 198 [.ref 247, .int 59] (mem r I' J) (fun N2 => XX G d (some .int) P199 (QI P) 11 [.ref 247, .int (nI (l + 1)), jk, jk] [] N2)) ∧ (x.1 ≠ 0 → ∀ I', Fmn I I' → FA I' x.1 → P (nI x.1) (mem r I' J))
theorem LBs.fr (h : LBs I ln) (hf : ∀ i, i < 125 + 3 * ln.length → I' 260 i = I 260 i) : LBs I' ln := fun i hi => by
  rw [hf _ (by omega), hf _ (by omega), hf _ (by omega)]; exact h i hi
theorem LBs.add {k a b : Nat} (h : LBs I ln) (hf : ∀ i, i < 125 + 3 * ln.length → I' 260 i = I 260 i) (z1 : I' 260 (125 + 3 * ln.length) = nI k) (z2 : k ≠ 4 → I' 260 (125 + 3 * ln.length + 1) = nI a) (z3 : k < 3 → I' 260 (125 + 3 * ln.length + 2) = nI b) : LBs I' (ln ++ [(k, a, b)]) := fun i hi => by
  rcases ap_ln hi with ⟨hk, e1, e2, e3⟩ | ⟨hk, e1, e2, e3⟩
  · rw [e1, e2, e3]; exact (h.fr hf) i hk
  · rw [e1, e2, e3, hk]; exact ⟨z1, z2, z3⟩
end
