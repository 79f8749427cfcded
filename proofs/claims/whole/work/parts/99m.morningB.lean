/-! morning: the named, on the other side -/
section
variable {G : GG} {d : Nat} {P : Int32 → mm_M → Prop} {Pv : mm_M → Prop} {Q : Option Value → mm_M → Prop} {r : Nat → Nat} {I : Nat → Nat → Int32} {J : Nat → Nat → Int64} {π : PLN} {σ : Nat → Nat → Nat} {tp : List Nat} {y i j n f N : Nat} {nm : NMT} {ln : LN} {I' I2 : Nat → Nat → Int32} {J' J2 : Nat → Nat → Int64}
theorem m182b (h : RT I J tp N i) (hs : soF tp i = 1) (hn : NB I J nm) (hl : nm.length ≤ 12) (hw : ∀ i, i < nm.length → wok (nW nm i)) (hy : ∀ k, k < nm.length → nW nm k = rkF tp i → P (nI (nC nm k)) (mem r I J)) (hno : ¬ NMD nm (rkF tp i) → P (-1) (mem r I J)) : CI G (d + 1) 182 [.ref 247, .int 0] (mem r I J) P := by
  have hi := h.ib
  have hv := (h.v (by omega)).1 hs
  have hwo := rk_wok hs
  refine e182 ?_
  have loop : ∀ m t, t + m = nm.length → (∀ k, k < t → nW nm k ≠ rkF tp i) → XX G d (some .int) P182 (QI P) 2 [.ref 247, .int 0, .int (nI t)] [] (mem r I J) := by
    intro m
    induction m with
    | zero =>
      intro t ht hh
      refine x182_2 (ifp (by decide) ?_)
      simp only [mKm, mNm, mIm, mIf, mJm, mJf, mRm, sIm, sJm, rwIm, rwJm, kN, nN, rN, true_and, hn.1]
      refine ifp (nI_le (by omega) (by omega)) ⟨_, rfl, hno (fun ⟨k, hk, e⟩ => hh k (by omega) e)⟩
    | succ m ih =>
      intro t ht hh
      have htl : t < nm.length := by omega
      have hJ := (hn.2 t htl).1
      have hI := (hn.2 t htl).2
      refine x182_2 (ifp (by decide) ?_)
      simp only [mKm, mNm, mIm, mIf, mJm, mJf, mRm, sIm, sJm, rwIm, rwJm, kN, nN, rN, true_and, hn.1]
      refine ifn (fun z => absurd ((nI_leI (by omega) (by omega)).mp z) (by omega)) (ifp (by first | exact trivial | decide) (x182_34 ?_))
      simp only [mKm, mNm, mIm, mIf, mJm, mJf, mRm, sIm, sJm, rwIm, rwJm, kN, nN, rN, true_and, h.at, ix hi (by decide), hv, hI, hJ, ix (show t < 12 by omega) (by decide), nI_1]
      have hq := nm_eq (m := 37) (by decide) (by decide) (hw t htl) hwo
      refine ifb (fun q => ih (t + 1) (by omega) (fun k hk => ?_)) (fun q => ifp (by first | exact trivial | decide) ⟨_, rfl, hy t htl (hq.mp (Decidable.not_not.mp q))⟩)
      by_cases e : k = t
      · rw [e]; exact fun z => q (hq.mpr z)
      · exact hh k (by omega)
  exact loop nm.length 0 (by omega) (fun k hk => absurd hk (Nat.not_lt_zero _))
theorem x79f {b l v : Int32} (hF : FA I f) (hh : P 0 (mem r I J)) : XX G d (some .int) P200 (QI P) 79 [.ref 247, .int b, .int l, .int v] [] (mem r I J) := by
  refine x200_79 ?_
  simp only [mKm, mNm, mIm, mIf, mJm, mJf, mRm, sIm, sJm, rwIm, rwJm, kN, nN, rN, true_and, add0]
  exact ifn hF.gt (ifn hF.gt ⟨_, rfl, hh⟩)
theorem x62f {b l v : Int32} (hF : FA I f) (hh : P 0 (mem r I J)) : XX G d (some .int) P200 (QI P) 62 [.ref 247, .int b, .int l, .int v] [] (mem r I J) := x200_62 ⟨rfl, ifp hF.ne (x79f hF hh)⟩
theorem m200f {b l : Int32} (hF : FA I f) (hh : P 0 (mem r I J)) : CI G (d + 1) 200 [.ref 247, .int b, .int l] (mem r I J) P := e200 ⟨rfl, ifp hF.ne ⟨rfl, ifn hF.gt ⟨rfl, ifp hF.ne (x62f hF hh)⟩⟩⟩
end
