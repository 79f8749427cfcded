/-! the other side, made -/
def moR (R : Nat → Nat → Nat) : Nat → Nat → Nat := (u2 (u2 (u2 (u2 (u2 (u2 (u2 (u2 (u2 (u2 (u2 (u2 (u2 (u2 (u2 (u2 (u2 (u2 (u2 (u2 (u2 R 247 1 248) 247 4 249) 247 5 250) 247 6 251) 247 9 252) 247 10 253) 247 11 254) 247 12 255) 247 14 256) 247 15 257) 247 16 258) 247 17 259) 247 21 260) 247 22 261) 247 23 262) 247 24 263) 247 26 264) 247 27 265) 247 28 266) 247 30 267) 247 31 268)
def moJ (J : Nat → Nat → Int64) : Nat → Nat → Int64 := (u2 (u2 (u2 (u2 (u2 (u2 (u2 (u2 (u2 (u2 (u2 (u2 (u2 (u2 (u2 (u2 (u2 (u2 (u2 (u2 (u2 (u2 (u2 (u2 (u2 (u2 (u2 (u2 (u2 J 252 0 1037892) 252 1 609928) 252 2 1633) 252 3 1119812451) 252 4 310968) 252 5 30461738) 252 6 730246) 252 7 12177978) 252 8 4003641) 252 9 28071) 252 10 36016323) 252 11 14032492) 252 12 30927602) 252 13 1273225) 252 14 173192972) 252 15 122416) 252 16 49598629259) 252 17 1320124011) 252 18 30596128) 252 19 6040476) 252 20 583696626) 252 21 20983) 252 22 19741) 252 23 1891) 252 24 573) 252 25 975695) 252 26 47109344) 252 27 6040484) 252 28 204726)
section
variable {G : GG} {d : Nat} {P : mm_M → Prop} {Q : Option Value → mm_M → Prop} {I : Nat → Nat → Int32} {J : Nat → Nat → Int64} {R : Nat → Nat → Nat} {n a w k x : Nat}
theorem Zr.j {v : Int64} (h : Zr n I J R) (ha : a < n) : Zr n I (u2 J a k v) R := fun x hx => ⟨(h x hx).1, by rw [u2n (by omega)]; exact (h x hx).2.1, (h x hx).2.2⟩
theorem k162 (hz : Zr 248 I J R) (h : CV G (d + 3) 163 [.ref 247, .int 0] (memQ 269 I (moJ J) (moR R) (w + 1000 + 1002 + 1002 + 1002 + 29 + 100 + 2200 + 2200 + 12 + 12 + 12 + 12 + 250 + 4 + 1100 + 1380 + 4 + 6 + 6 + 6 + 6)) (fun N2 => mK N2 247 = 12 ∧ CV G (d + 3) 164 [.ref 247] N2 P)) : CV G (d + 4) 162 [.ref 247] (memQ 248 I J R w) P := by
  have e0 := nwQ (n := 248) (kd := 14) (len := 1000) (w := w) (w' := 1000) rfl rfl hz
  have z1 := hz.s.r (a := 247) (k := 1) (v := 248) (by decide)
  have e1 := nwQ (n := 249) (kd := 14) (len := 1002) (w := w + 1000) (w' := 1002) rfl rfl z1
  have z2 := z1.s.r (a := 247) (k := 4) (v := 249) (by decide)
  have e2 := nwQ (n := 250) (kd := 14) (len := 1002) (w := w + 1000 + 1002) (w' := 1002) rfl rfl z2
  have z3 := z2.s.r (a := 247) (k := 5) (v := 250) (by decide)
  have e3 := nwQ (n := 251) (kd := 15) (len := 1002) (w := w + 1000 + 1002 + 1002) (w' := 1002) rfl rfl z3
  have z4 := z3.s.r (a := 247) (k := 6) (v := 251) (by decide)
  have e4 := nwQ (n := 252) (kd := 15) (len := 29) (w := w + 1000 + 1002 + 1002 + 1002) (w' := 29) rfl rfl z4
  have z5 := z4.s.j (a := 252) (k := 0) (v := 1037892) (by decide)
  have z6 := z5.j (a := 252) (k := 1) (v := 609928) (by decide)
  have z7 := z6.j (a := 252) (k := 2) (v := 1633) (by decide)
  have z8 := z7.j (a := 252) (k := 3) (v := 1119812451) (by decide)
  have z9 := z8.j (a := 252) (k := 4) (v := 310968) (by decide)
  have z10 := z9.j (a := 252) (k := 5) (v := 30461738) (by decide)
  have z11 := z10.j (a := 252) (k := 6) (v := 730246) (by decide)
  have z12 := z11.j (a := 252) (k := 7) (v := 12177978) (by decide)
  have z13 := z12.j (a := 252) (k := 8) (v := 4003641) (by decide)
  have z14 := z13.j (a := 252) (k := 9) (v := 28071) (by decide)
  have z15 := z14.j (a := 252) (k := 10) (v := 36016323) (by decide)
  have z16 := z15.j (a := 252) (k := 11) (v := 14032492) (by decide)
  have z17 := z16.j (a := 252) (k := 12) (v := 30927602) (by decide)
  have z18 := z17.j (a := 252) (k := 13) (v := 1273225) (by decide)
  have z19 := z18.j (a := 252) (k := 14) (v := 173192972) (by decide)
  have z20 := z19.j (a := 252) (k := 15) (v := 122416) (by decide)
  have z21 := z20.j (a := 252) (k := 16) (v := 49598629259) (by decide)
  have z22 := z21.j (a := 252) (k := 17) (v := 1320124011) (by decide)
  have z23 := z22.j (a := 252) (k := 18) (v := 30596128) (by decide)
  have z24 := z23.j (a := 252) (k := 19) (v := 6040476) (by decide)
  have z25 := z24.j (a := 252) (k := 20) (v := 583696626) (by decide)
  have z26 := z25.j (a := 252) (k := 21) (v := 20983) (by decide)
  have z27 := z26.j (a := 252) (k := 22) (v := 19741) (by decide)
  have z28 := z27.j (a := 252) (k := 23) (v := 1891) (by decide)
  have z29 := z28.j (a := 252) (k := 24) (v := 573) (by decide)
  have z30 := z29.j (a := 252) (k := 25) (v := 975695) (by decide)
  have z31 := z30.j (a := 252) (k := 26) (v := 47109344) (by decide)
  have z32 := z31.j (a := 252) (k := 27) (v := 6040484) (by decide)
  have z33 := z32.j (a := 252) (k := 28) (v := 204726) (by decide)
  have z34 := z33.r (a := 247) (k := 9) (v := 252) (by decide)
  have e5 := nwQ (n := 253) (kd := 14) (len := 100) (w := w + 1000 + 1002 + 1002 + 1002 + 29) (w' := 100) rfl rfl z34
  have z35 := z34.s.r (a := 247) (k := 10) (v := 253) (by decide)
  have e6 := nwQ (n := 254) (kd := 14) (len := 2200) (w := w + 1000 + 1002 + 1002 + 1002 + 29 + 100) (w' := 2200) rfl rfl z35
  have z36 := z35.s.r (a := 247) (k := 11) (v := 254) (by decide)
  have e7 := nwQ (n := 255) (kd := 14) (len := 2200) (w := w + 1000 + 1002 + 1002 + 1002 + 29 + 100 + 2200) (w' := 2200) rfl rfl z36
  have z37 := z36.s.r (a := 247) (k := 12) (v := 255) (by decide)
  have e8 := nwQ (n := 256) (kd := 15) (len := 12) (w := w + 1000 + 1002 + 1002 + 1002 + 29 + 100 + 2200 + 2200) (w' := 12) rfl rfl z37
  have z38 := z37.s.r (a := 247) (k := 14) (v := 256) (by decide)
  have e9 := nwQ (n := 257) (kd := 15) (len := 12) (w := w + 1000 + 1002 + 1002 + 1002 + 29 + 100 + 2200 + 2200 + 12) (w' := 12) rfl rfl z38
  have z39 := z38.s.r (a := 247) (k := 15) (v := 257) (by decide)
  have e10 := nwQ (n := 258) (kd := 14) (len := 12) (w := w + 1000 + 1002 + 1002 + 1002 + 29 + 100 + 2200 + 2200 + 12 + 12) (w' := 12) rfl rfl z39
  have z40 := z39.s.r (a := 247) (k := 16) (v := 258) (by decide)
  have e11 := nwQ (n := 259) (kd := 14) (len := 12) (w := w + 1000 + 1002 + 1002 + 1002 + 29 + 100 + 2200 + 2200 + 12 + 12 + 12) (w' := 12) rfl rfl z40
  have z41 := z40.s.r (a := 247) (k := 17) (v := 259) (by decide)
  have e12 := nwQ (n := 260) (kd := 14) (len := 250) (w := w + 1000 + 1002 + 1002 + 1002 + 29 + 100 + 2200 + 2200 + 12 + 12 + 12 + 12) (w' := 250) rfl rfl z41
  have z42 := z41.s.r (a := 247) (k := 21) (v := 260) (by decide)
  have e13 := nwQ (n := 261) (kd := 14) (len := 4) (w := w + 1000 + 1002 + 1002 + 1002 + 29 + 100 + 2200 + 2200 + 12 + 12 + 12 + 12 + 250) (w' := 4) rfl rfl z42
  have z43 := z42.s.r (a := 247) (k := 22) (v := 261) (by decide)
  have e14 := nwQ (n := 262) (kd := 14) (len := 1100) (w := w + 1000 + 1002 + 1002 + 1002 + 29 + 100 + 2200 + 2200 + 12 + 12 + 12 + 12 + 250 + 4) (w' := 1100) rfl rfl z43
  have z44 := z43.s.r (a := 247) (k := 23) (v := 262) (by decide)
  have e15 := nwQ (n := 263) (kd := 14) (len := 1380) (w := w + 1000 + 1002 + 1002 + 1002 + 29 + 100 + 2200 + 2200 + 12 + 12 + 12 + 12 + 250 + 4 + 1100) (w' := 1380) rfl rfl z44
  have z45 := z44.s.r (a := 247) (k := 24) (v := 263) (by decide)
  have e16 := nwQ (n := 264) (kd := 16) (len := 4) (w := w + 1000 + 1002 + 1002 + 1002 + 29 + 100 + 2200 + 2200 + 12 + 12 + 12 + 12 + 250 + 4 + 1100 + 1380) (w' := 4) rfl rfl z45
  have z46 := z45.s.r (a := 247) (k := 26) (v := 264) (by decide)
  have e17 := nwQ (n := 265) (kd := 14) (len := 6) (w := w + 1000 + 1002 + 1002 + 1002 + 29 + 100 + 2200 + 2200 + 12 + 12 + 12 + 12 + 250 + 4 + 1100 + 1380 + 4) (w' := 6) rfl rfl z46
  have z47 := z46.s.r (a := 247) (k := 27) (v := 265) (by decide)
  have e18 := nwQ (n := 266) (kd := 14) (len := 6) (w := w + 1000 + 1002 + 1002 + 1002 + 29 + 100 + 2200 + 2200 + 12 + 12 + 12 + 12 + 250 + 4 + 1100 + 1380 + 4 + 6) (w' := 6) rfl rfl z47
  have z48 := z47.s.r (a := 247) (k := 28) (v := 266) (by decide)
  have e19 := nwQ (n := 267) (kd := 14) (len := 6) (w := w + 1000 + 1002 + 1002 + 1002 + 29 + 100 + 2200 + 2200 + 12 + 12 + 12 + 12 + 250 + 4 + 1100 + 1380 + 4 + 6 + 6) (w' := 6) rfl rfl z48
  have z49 := z48.s.r (a := 247) (k := 30) (v := 267) (by decide)
  have e20 := nwQ (n := 268) (kd := 14) (len := 6) (w := w + 1000 + 1002 + 1002 + 1002 + 29 + 100 + 2200 + 2200 + 12 + 12 + 12 + 12 + 250 + 4 + 1100 + 1380 + 4 + 6 + 6 + 6) (w' := 6) rfl rfl z49
  have z50 := z49.s.r (a := 247) (k := 31) (v := 268) (by decide)
  have tk : ∀ (n : Nat) (I : Nat → Nat → Int32) (J : Nat → Nat → Int64) (R : Nat → Nat → Nat) (w : Nat), 248 ≤ n → mK (memQ n I J R w) 247 = 12 := fun n I J R w hn => (qK (by omega)).trans rfl
  have t5 : ∀ (n : Nat) (I : Nat → Nat → Int32) (J : Nat → Nat → Int64) (R : Nat → Nat → Nat) (w : Nat) (k : Nat), 253 ≤ n → k < 29 → mK (memQ n I J R w) 252 = 15 ∧ vp_in (nI k) (mN (memQ n I J R w) 252) := fun n I J R w k hn hk => ⟨(qK (by omega)).trans rfl, by rw [qN (by omega)]; exact vp_in_nI hk (by decide)⟩
  refine e162 ?_
  rw [e0]
  simp only [qS, qR]
  rw [e1]
  refine ⟨by decide, ⟨tk _ _ _ _ _ (by decide), by decide⟩, ⟨tk _ _ _ _ _ (by decide), by decide⟩, ?_⟩
  simp only [qS, qR]
  refine b162_0_22 ?_
  rw [e2]
  simp only [qS, qR]
  rw [e3]
  refine ⟨⟨tk _ _ _ _ _ (by decide), by decide⟩, ⟨tk _ _ _ _ _ (by decide), by decide⟩, ?_⟩
  simp only [qS, qR]
  refine b162_0_40 ?_
  rw [e4]
  simp only [qS, qJ]
  refine ⟨t5 _ _ _ _ _ 0 (by decide) (by decide), t5 _ _ _ _ _ 1 (by decide) (by decide), ?_⟩
  refine b162_0_57 ?_
  simp only [qJ]
  refine ⟨t5 _ _ _ _ _ 2 (by decide) (by decide), t5 _ _ _ _ _ 3 (by decide) (by decide), t5 _ _ _ _ _ 4 (by decide) (by decide), ?_⟩
  refine b162_0_75 ?_
  simp only [qJ]
  refine ⟨t5 _ _ _ _ _ 5 (by decide) (by decide), t5 _ _ _ _ _ 6 (by decide) (by decide), t5 _ _ _ _ _ 7 (by decide) (by decide), ?_⟩
  refine b162_0_95 ?_
  simp only [qJ]
  refine ⟨t5 _ _ _ _ _ 8 (by decide) (by decide), t5 _ _ _ _ _ 9 (by decide) (by decide), t5 _ _ _ _ _ 10 (by decide) (by decide), ?_⟩
  refine b162_0_116 ?_
  simp only [qJ]
  refine ⟨t5 _ _ _ _ _ 11 (by decide) (by decide), t5 _ _ _ _ _ 12 (by decide) (by decide), t5 _ _ _ _ _ 13 (by decide) (by decide), ?_⟩
  refine b162_0_137 ?_
  simp only [qJ]
  refine ⟨t5 _ _ _ _ _ 14 (by decide) (by decide), t5 _ _ _ _ _ 15 (by decide) (by decide), t5 _ _ _ _ _ 16 (by decide) (by decide), ?_⟩
  refine b162_0_158 ?_
  simp only [qJ]
  refine ⟨t5 _ _ _ _ _ 17 (by decide) (by decide), t5 _ _ _ _ _ 18 (by decide) (by decide), ?_⟩
  refine b162_0_172 ?_
  simp only [qJ]
  refine ⟨t5 _ _ _ _ _ 19 (by decide) (by decide), t5 _ _ _ _ _ 20 (by decide) (by decide), t5 _ _ _ _ _ 21 (by decide) (by decide), ?_⟩
  refine b162_0_193 ?_
  simp only [qJ]
  refine ⟨t5 _ _ _ _ _ 22 (by decide) (by decide), t5 _ _ _ _ _ 23 (by decide) (by decide), t5 _ _ _ _ _ 24 (by decide) (by decide), ?_⟩
  refine b162_0_214 ?_
  simp only [qJ]
  refine ⟨t5 _ _ _ _ _ 25 (by decide) (by decide), t5 _ _ _ _ _ 26 (by decide) (by decide), t5 _ _ _ _ _ 27 (by decide) (by decide), ?_⟩
  refine b162_0_235 ?_
  simp only [qS, qJ, qR]
  rw [e5]
  refine ⟨t5 _ _ _ _ _ 28 (by decide) (by decide), ⟨tk _ _ _ _ _ (by decide), by decide⟩, ⟨tk _ _ _ _ _ (by decide), by decide⟩, ?_⟩
  simp only [qS, qR]
  refine b162_0_253 ?_
  rw [e6]
  simp only [qS, qR]
  rw [e7]
  refine ⟨⟨tk _ _ _ _ _ (by decide), by decide⟩, ⟨tk _ _ _ _ _ (by decide), by decide⟩, ?_⟩
  simp only [qS, qR]
  refine b162_0_271 ?_
  rw [e8]
  simp only [qS, qR]
  rw [e9]
  refine ⟨⟨tk _ _ _ _ _ (by decide), by decide⟩, ⟨tk _ _ _ _ _ (by decide), by decide⟩, ?_⟩
  simp only [qS, qR]
  refine b162_0_287 ?_
  rw [e10]
  simp only [qS, qR]
  rw [e11]
  refine ⟨⟨tk _ _ _ _ _ (by decide), by decide⟩, ⟨tk _ _ _ _ _ (by decide), by decide⟩, ?_⟩
  simp only [qS, qR]
  refine b162_0_303 ?_
  rw [e12]
  simp only [qS, qR]
  rw [e13]
  refine ⟨⟨tk _ _ _ _ _ (by decide), by decide⟩, ⟨tk _ _ _ _ _ (by decide), by decide⟩, ?_⟩
  simp only [qS, qR]
  refine b162_0_319 ?_
  rw [e14]
  simp only [qS, qR]
  rw [e15]
  refine ⟨⟨tk _ _ _ _ _ (by decide), by decide⟩, ⟨tk _ _ _ _ _ (by decide), by decide⟩, ?_⟩
  simp only [qS, qR]
  refine b162_0_337 ?_
  rw [e16]
  simp only [qS, qR]
  rw [e17]
  refine ⟨⟨tk _ _ _ _ _ (by decide), by decide⟩, ⟨tk _ _ _ _ _ (by decide), by decide⟩, ?_⟩
  simp only [qS, qR]
  refine b162_0_352 ?_
  rw [e18]
  simp only [qS, qR]
  rw [e19]
  refine ⟨⟨tk _ _ _ _ _ (by decide), by decide⟩, ⟨tk _ _ _ _ _ (by decide), by decide⟩, ?_⟩
  simp only [qS, qR]
  refine b162_0_368 ?_
  rw [e20]
  simp only [qS, qR]
  refine ⟨⟨tk _ _ _ _ _ (by decide), by decide⟩, tk _ _ _ _ _ (by decide), CV_mono h (fun N hN => ⟨hN.1, CV_mono hN.2 (fun N2 h2 => ⟨rfl, h2⟩)⟩)⟩
end
