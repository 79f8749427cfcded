def lnS : List Instr → Nat
  | [] => 0
  | i :: t => ln i + lnS t
theorem ckB_app {o : Nat} {ini : Bool} {cc : ByteArray} : ∀ {a c : List Instr} {pc q : Nat}, ckB o ini cc a pc = true → pc + lnS a = q → ckB o ini cc c q = true → ckB o ini cc (a ++ c) pc = true := by
  intro a
  induction a with
  | nil => intro c pc q _ h2 h3; rw [← h2] at h3; exact h3
  | cons i t ih =>
    intro c pc q h1 h2 h3
    show ckB o ini cc (i :: (t ++ c)) pc = true
    unfold ckB at h1 ⊢
    rw [Bool.and_eq_true] at h1 ⊢
    exact ⟨h1.1, ih h1.2 (by rw [← h2, lnS]; omega) h3⟩
theorem KL_0 : ckB 13 false code [.new 11, .dup, .invokespecial 107, .astore_n 1, .new 12, .dup, .invokespecial 162, .astore_n 2, .iconst 1, .newarray .long, .astore_n 3, .iconst 0, .istore 4] 0 = true := by
  have h0 : ckB 13 false code [.new 11, .dup, .invokespecial 107, .astore_n 1, .new 12, .dup, .invokespecial 162, .astore_n 2, .iconst 1, .newarray .long, .astore_n 3, .iconst 0] 0 = true := by decide +kernel
  have h1 : ckB 13 false code [.istore 4] 21 = true := by decide +kernel
  exact ckB_app h0 rfl (h1)
theorem KL_23 : ckB 13 false code [.iload 4, .aload_n 0, .arraylength, .bipush 7, .isub, .if_icmp .gt 1304, .aload_n 0, .iload 4, .iaload, .bipush 63, .iand, .tableswitch 1288 0 34 #[156, 303, 316, 329, 366, 403, 440, 477, 514, 551, 576, 589, 602, 627, 652, 677, 702, 727, 752, 777, 802, 839, 892, 917, 930, 943, 956, 969, 982, 995, 1020, 1069, 1161, 1210, 1263]] 23 = true := by
  decide +kernel
theorem KL_196 : ckB 13 false code [.aload_n 1, .aload_n 0, .iload 4, .iconst 1, .iadd, .iaload, .i2l, .bipush 32, .lshl, .aload_n 0, .iload 4, .iconst 2, .iadd, .iaload, .i2l, .jsr 4294967295, .land, .lor, .aload_n 0, .iload 4, .iconst 3, .iadd, .iaload, .i2l, .bipush 32, .lshl, .aload_n 0, .iload 4, .iconst 4, .iadd, .iaload, .i2l, .jsr 4294967295, .land, .lor, .aload_n 0, .iload 4, .iconst 5, .iadd, .iaload, .i2l, .bipush 32, .lshl, .aload_n 0, .iload 4, .bipush 6, .iadd, .iaload, .i2l, .jsr 4294967295, .land, .lor, .invokevirtual 108, .aload_n 2, .aload_n 0, .iload 4, .iconst 1, .iadd, .iaload, .i2l, .bipush 32, .lshl, .aload_n 0, .iload 4, .iconst 2, .iadd, .iaload, .i2l, .jsr 4294967295, .land, .lor, .aload_n 0, .iload 4, .iconst 3, .iadd, .iaload, .i2l, .bipush 32, .lshl, .aload_n 0, .iload 4, .iconst 4, .iadd, .iaload, .i2l, .jsr 4294967295, .land, .lor, .aload_n 0, .iload 4, .iconst 5, .iadd, .iaload, .i2l, .bipush 32, .lshl, .aload_n 0, .iload 4, .bipush 6, .iadd, .iaload, .i2l, .jsr 4294967295, .land, .lor, .invokevirtual 160, .if_icmp .eq 990, .iconst 0, .ireturn] 196 = true := by
  have h0 : ckB 13 false code [.aload_n 1, .aload_n 0, .iload 4, .iconst 1, .iadd, .iaload, .i2l, .bipush 32, .lshl, .aload_n 0, .iload 4, .iconst 2] 196 = true := by decide +kernel
  have h1 : ckB 13 false code [.iadd, .iaload, .i2l, .jsr 4294967295, .land, .lor, .aload_n 0, .iload 4, .iconst 3, .iadd, .iaload, .i2l] 211 = true := by decide +kernel
  have h2 : ckB 13 false code [.bipush 32, .lshl, .aload_n 0, .iload 4, .iconst 4, .iadd, .iaload, .i2l, .jsr 4294967295, .land, .lor, .aload_n 0] 226 = true := by decide +kernel
  have h3 : ckB 13 false code [.iload 4, .iconst 5, .iadd, .iaload, .i2l, .bipush 32, .lshl, .aload_n 0, .iload 4, .bipush 6, .iadd, .iaload] 242 = true := by decide +kernel
  have h4 : ckB 13 false code [.i2l, .jsr 4294967295, .land, .lor, .invokevirtual 108, .aload_n 2, .aload_n 0, .iload 4, .iconst 1, .iadd, .iaload, .i2l] 258 = true := by decide +kernel
  have h5 : ckB 13 false code [.bipush 32, .lshl, .aload_n 0, .iload 4, .iconst 2, .iadd, .iaload, .i2l, .jsr 4294967295, .land, .lor, .aload_n 0] 275 = true := by decide +kernel
  have h6 : ckB 13 false code [.iload 4, .iconst 3, .iadd, .iaload, .i2l, .bipush 32, .lshl, .aload_n 0, .iload 4, .iconst 4, .iadd, .iaload] 291 = true := by decide +kernel
  have h7 : ckB 13 false code [.i2l, .jsr 4294967295, .land, .lor, .aload_n 0, .iload 4, .iconst 5, .iadd, .iaload, .i2l, .bipush 32, .lshl] 306 = true := by decide +kernel
  have h8 : ckB 13 false code [.aload_n 0, .iload 4, .bipush 6, .iadd, .iaload, .i2l, .jsr 4294967295, .land, .lor, .invokevirtual 160, .if_icmp .eq 990, .iconst 0] 322 = true := by decide +kernel
  have h9 : ckB 13 false code [.ireturn] 342 = true := by decide +kernel
  exact ckB_app h0 rfl (ckB_app h1 rfl (ckB_app h2 rfl (ckB_app h3 rfl (ckB_app h4 rfl (ckB_app h5 rfl (ckB_app h6 rfl (ckB_app h7 rfl (ckB_app h8 rfl (h9)))))))))
theorem KL_343 : ckB 13 false code [.aload_n 1, .invokevirtual 110, .aload_n 2, .invokevirtual 170, .if_icmp .eq 977, .iconst 0, .ireturn] 343 = true := by
  decide +kernel
theorem KL_356 : ckB 13 false code [.aload_n 1, .invokevirtual 111, .aload_n 2, .invokevirtual 199, .if_icmp .eq 964, .iconst 0, .ireturn] 356 = true := by
  decide +kernel
theorem KL_369 : ckB 13 false code [.aload_n 1, .aload_n 0, .iload 4, .iconst 1, .iadd, .iaload, .aload_n 0, .iload 4, .iconst 2, .iadd, .iaload, .invokevirtual 112, .aload_n 2, .aload_n 0, .iload 4, .iconst 1, .iadd, .iaload, .aload_n 0, .iload 4, .iconst 2, .iadd, .iaload, .invokevirtual 202, .if_icmp .eq 927, .iconst 0, .ireturn] 369 = true := by
  have h0 : ckB 13 false code [.aload_n 1, .aload_n 0, .iload 4, .iconst 1, .iadd, .iaload, .aload_n 0, .iload 4, .iconst 2, .iadd, .iaload, .invokevirtual 112] 369 = true := by decide +kernel
  have h1 : ckB 13 false code [.aload_n 2, .aload_n 0, .iload 4, .iconst 1, .iadd, .iaload, .aload_n 0, .iload 4, .iconst 2, .iadd, .iaload, .invokevirtual 202] 385 = true := by decide +kernel
  have h2 : ckB 13 false code [.if_icmp .eq 927, .iconst 0, .ireturn] 401 = true := by decide +kernel
  exact ckB_app h0 rfl (ckB_app h1 rfl (h2))
theorem KL_406 : ckB 13 false code [.aload_n 1, .aload_n 0, .iload 4, .iconst 1, .iadd, .iaload, .aload_n 0, .iload 4, .iconst 2, .iadd, .iaload, .invokevirtual 113, .aload_n 2, .aload_n 0, .iload 4, .iconst 1, .iadd, .iaload, .aload_n 0, .iload 4, .iconst 2, .iadd, .iaload, .invokevirtual 211, .if_icmp .eq 890, .iconst 0, .ireturn] 406 = true := by
  have h0 : ckB 13 false code [.aload_n 1, .aload_n 0, .iload 4, .iconst 1, .iadd, .iaload, .aload_n 0, .iload 4, .iconst 2, .iadd, .iaload, .invokevirtual 113] 406 = true := by decide +kernel
  have h1 : ckB 13 false code [.aload_n 2, .aload_n 0, .iload 4, .iconst 1, .iadd, .iaload, .aload_n 0, .iload 4, .iconst 2, .iadd, .iaload, .invokevirtual 211] 422 = true := by decide +kernel
  have h2 : ckB 13 false code [.if_icmp .eq 890, .iconst 0, .ireturn] 438 = true := by decide +kernel
  exact ckB_app h0 rfl (ckB_app h1 rfl (h2))
theorem KL_443 : ckB 13 false code [.aload_n 1, .aload_n 0, .iload 4, .iconst 1, .iadd, .iaload, .aload_n 0, .iload 4, .iconst 2, .iadd, .iaload, .invokevirtual 114, .aload_n 2, .aload_n 0, .iload 4, .iconst 1, .iadd, .iaload, .aload_n 0, .iload 4, .iconst 2, .iadd, .iaload, .invokevirtual 213, .if_icmp .eq 853, .iconst 0, .ireturn] 443 = true := by
  have h0 : ckB 13 false code [.aload_n 1, .aload_n 0, .iload 4, .iconst 1, .iadd, .iaload, .aload_n 0, .iload 4, .iconst 2, .iadd, .iaload, .invokevirtual 114] 443 = true := by decide +kernel
  have h1 : ckB 13 false code [.aload_n 2, .aload_n 0, .iload 4, .iconst 1, .iadd, .iaload, .aload_n 0, .iload 4, .iconst 2, .iadd, .iaload, .invokevirtual 213] 459 = true := by decide +kernel
  have h2 : ckB 13 false code [.if_icmp .eq 853, .iconst 0, .ireturn] 475 = true := by decide +kernel
  exact ckB_app h0 rfl (ckB_app h1 rfl (h2))
theorem KL_480 : ckB 13 false code [.aload_n 1, .aload_n 0, .iload 4, .iconst 1, .iadd, .iaload, .aload_n 0, .iload 4, .iconst 2, .iadd, .iaload, .invokevirtual 115, .aload_n 2, .aload_n 0, .iload 4, .iconst 1, .iadd, .iaload, .aload_n 0, .iload 4, .iconst 2, .iadd, .iaload, .invokevirtual 217, .if_icmp .eq 816, .iconst 0, .ireturn] 480 = true := by
  have h0 : ckB 13 false code [.aload_n 1, .aload_n 0, .iload 4, .iconst 1, .iadd, .iaload, .aload_n 0, .iload 4, .iconst 2, .iadd, .iaload, .invokevirtual 115] 480 = true := by decide +kernel
  have h1 : ckB 13 false code [.aload_n 2, .aload_n 0, .iload 4, .iconst 1, .iadd, .iaload, .aload_n 0, .iload 4, .iconst 2, .iadd, .iaload, .invokevirtual 217] 496 = true := by decide +kernel
  have h2 : ckB 13 false code [.if_icmp .eq 816, .iconst 0, .ireturn] 512 = true := by decide +kernel
  exact ckB_app h0 rfl (ckB_app h1 rfl (h2))
theorem KL_517 : ckB 13 false code [.aload_n 1, .aload_n 0, .iload 4, .iconst 1, .iadd, .iaload, .aload_n 0, .iload 4, .iconst 2, .iadd, .iaload, .invokevirtual 116, .aload_n 2, .aload_n 0, .iload 4, .iconst 1, .iadd, .iaload, .aload_n 0, .iload 4, .iconst 2, .iadd, .iaload, .invokevirtual 224, .if_icmp .eq 779, .iconst 0, .ireturn] 517 = true := by
  have h0 : ckB 13 false code [.aload_n 1, .aload_n 0, .iload 4, .iconst 1, .iadd, .iaload, .aload_n 0, .iload 4, .iconst 2, .iadd, .iaload, .invokevirtual 116] 517 = true := by decide +kernel
  have h1 : ckB 13 false code [.aload_n 2, .aload_n 0, .iload 4, .iconst 1, .iadd, .iaload, .aload_n 0, .iload 4, .iconst 2, .iadd, .iaload, .invokevirtual 224] 533 = true := by decide +kernel
  have h2 : ckB 13 false code [.if_icmp .eq 779, .iconst 0, .ireturn] 549 = true := by decide +kernel
  exact ckB_app h0 rfl (ckB_app h1 rfl (h2))
theorem KL_554 : ckB 13 false code [.aload_n 1, .aload_n 0, .iload 4, .iconst 1, .iadd, .iaload, .aload_n 0, .iload 4, .iconst 2, .iadd, .iaload, .invokevirtual 117, .aload_n 2, .aload_n 0, .iload 4, .iconst 1, .iadd, .iaload, .aload_n 0, .iload 4, .iconst 2, .iadd, .iaload, .invokevirtual 227, .if_icmp .eq 742, .iconst 0, .ireturn] 554 = true := by
  have h0 : ckB 13 false code [.aload_n 1, .aload_n 0, .iload 4, .iconst 1, .iadd, .iaload, .aload_n 0, .iload 4, .iconst 2, .iadd, .iaload, .invokevirtual 117] 554 = true := by decide +kernel
  have h1 : ckB 13 false code [.aload_n 2, .aload_n 0, .iload 4, .iconst 1, .iadd, .iaload, .aload_n 0, .iload 4, .iconst 2, .iadd, .iaload, .invokevirtual 227] 570 = true := by decide +kernel
  have h2 : ckB 13 false code [.if_icmp .eq 742, .iconst 0, .ireturn] 586 = true := by decide +kernel
  exact ckB_app h0 rfl (ckB_app h1 rfl (h2))
theorem KL_591 : ckB 13 false code [.aload_n 1, .aload_n 0, .iload 4, .iconst 1, .iadd, .iaload, .invokevirtual 118, .aload_n 2, .aload_n 0, .iload 4, .iconst 1, .iadd, .iaload, .invokevirtual 229, .if_icmp .eq 717, .iconst 0, .ireturn] 591 = true := by
  have h0 : ckB 13 false code [.aload_n 1, .aload_n 0, .iload 4, .iconst 1, .iadd, .iaload, .invokevirtual 118, .aload_n 2, .aload_n 0, .iload 4, .iconst 1, .iadd] 591 = true := by decide +kernel
  have h1 : ckB 13 false code [.iaload, .invokevirtual 229, .if_icmp .eq 717, .iconst 0, .ireturn] 607 = true := by decide +kernel
  exact ckB_app h0 rfl (h1)
theorem KL_616 : ckB 13 false code [.aload_n 1, .invokevirtual 119, .aload_n 2, .invokevirtual 231, .if_icmp .eq 704, .iconst 0, .ireturn] 616 = true := by
  decide +kernel
theorem KL_629 : ckB 13 false code [.aload_n 1, .invokevirtual 120, .aload_n 2, .invokevirtual 233, .if_icmp .eq 691, .iconst 0, .ireturn] 629 = true := by
  decide +kernel
theorem KL_642 : ckB 13 false code [.aload_n 1, .aload_n 0, .iload 4, .iconst 1, .iadd, .iaload, .invokevirtual 121, .aload_n 2, .aload_n 0, .iload 4, .iconst 1, .iadd, .iaload, .invokevirtual 234, .if_icmp .eq 666, .iconst 0, .ireturn] 642 = true := by
  have h0 : ckB 13 false code [.aload_n 1, .aload_n 0, .iload 4, .iconst 1, .iadd, .iaload, .invokevirtual 121, .aload_n 2, .aload_n 0, .iload 4, .iconst 1, .iadd] 642 = true := by decide +kernel
  have h1 : ckB 13 false code [.iaload, .invokevirtual 234, .if_icmp .eq 666, .iconst 0, .ireturn] 658 = true := by decide +kernel
  exact ckB_app h0 rfl (h1)
theorem KL_667 : ckB 13 false code [.aload_n 1, .aload_n 0, .iload 4, .iconst 1, .iadd, .iaload, .invokevirtual 122, .aload_n 2, .aload_n 0, .iload 4, .iconst 1, .iadd, .iaload, .invokevirtual 236, .if_icmp .eq 641, .iconst 0, .ireturn] 667 = true := by
  have h0 : ckB 13 false code [.aload_n 1, .aload_n 0, .iload 4, .iconst 1, .iadd, .iaload, .invokevirtual 122, .aload_n 2, .aload_n 0, .iload 4, .iconst 1, .iadd] 667 = true := by decide +kernel
  have h1 : ckB 13 false code [.iaload, .invokevirtual 236, .if_icmp .eq 641, .iconst 0, .ireturn] 683 = true := by decide +kernel
  exact ckB_app h0 rfl (h1)
theorem KL_692 : ckB 13 false code [.aload_n 1, .aload_n 0, .iload 4, .iconst 1, .iadd, .iaload, .invokevirtual 125, .aload_n 2, .aload_n 0, .iload 4, .iconst 1, .iadd, .iaload, .invokevirtual 238, .if_icmp .eq 616, .iconst 0, .ireturn] 692 = true := by
  have h0 : ckB 13 false code [.aload_n 1, .aload_n 0, .iload 4, .iconst 1, .iadd, .iaload, .invokevirtual 125, .aload_n 2, .aload_n 0, .iload 4, .iconst 1, .iadd] 692 = true := by decide +kernel
  have h1 : ckB 13 false code [.iaload, .invokevirtual 238, .if_icmp .eq 616, .iconst 0, .ireturn] 708 = true := by decide +kernel
  exact ckB_app h0 rfl (h1)
theorem KL_717 : ckB 13 false code [.aload_n 1, .aload_n 0, .iload 4, .iconst 1, .iadd, .iaload, .invokevirtual 127, .aload_n 2, .aload_n 0, .iload 4, .iconst 1, .iadd, .iaload, .invokevirtual 240, .if_icmp .eq 591, .iconst 0, .ireturn] 717 = true := by
  have h0 : ckB 13 false code [.aload_n 1, .aload_n 0, .iload 4, .iconst 1, .iadd, .iaload, .invokevirtual 127, .aload_n 2, .aload_n 0, .iload 4, .iconst 1, .iadd] 717 = true := by decide +kernel
  have h1 : ckB 13 false code [.iaload, .invokevirtual 240, .if_icmp .eq 591, .iconst 0, .ireturn] 733 = true := by decide +kernel
  exact ckB_app h0 rfl (h1)
theorem KL_742 : ckB 13 false code [.aload_n 1, .aload_n 0, .iload 4, .iconst 1, .iadd, .iaload, .invokevirtual 130, .aload_n 2, .aload_n 0, .iload 4, .iconst 1, .iadd, .iaload, .invokevirtual 243, .if_icmp .eq 566, .iconst 0, .ireturn] 742 = true := by
  have h0 : ckB 13 false code [.aload_n 1, .aload_n 0, .iload 4, .iconst 1, .iadd, .iaload, .invokevirtual 130, .aload_n 2, .aload_n 0, .iload 4, .iconst 1, .iadd] 742 = true := by decide +kernel
  have h1 : ckB 13 false code [.iaload, .invokevirtual 243, .if_icmp .eq 566, .iconst 0, .ireturn] 758 = true := by decide +kernel
  exact ckB_app h0 rfl (h1)
theorem KL_767 : ckB 13 false code [.aload_n 1, .aload_n 0, .iload 4, .iconst 1, .iadd, .iaload, .invokevirtual 131, .aload_n 2, .aload_n 0, .iload 4, .iconst 1, .iadd, .iaload, .invokevirtual 244, .if_icmp .eq 541, .iconst 0, .ireturn] 767 = true := by
  have h0 : ckB 13 false code [.aload_n 1, .aload_n 0, .iload 4, .iconst 1, .iadd, .iaload, .invokevirtual 131, .aload_n 2, .aload_n 0, .iload 4, .iconst 1, .iadd] 767 = true := by decide +kernel
  have h1 : ckB 13 false code [.iaload, .invokevirtual 244, .if_icmp .eq 541, .iconst 0, .ireturn] 783 = true := by decide +kernel
  exact ckB_app h0 rfl (h1)
theorem KL_792 : ckB 13 false code [.aload_n 1, .aload_n 0, .iload 4, .iconst 1, .iadd, .iaload, .invokevirtual 132, .aload_n 2, .aload_n 0, .iload 4, .iconst 1, .iadd, .iaload, .invokevirtual 249, .if_icmp .eq 516, .iconst 0, .ireturn] 792 = true := by
  have h0 : ckB 13 false code [.aload_n 1, .aload_n 0, .iload 4, .iconst 1, .iadd, .iaload, .invokevirtual 132, .aload_n 2, .aload_n 0, .iload 4, .iconst 1, .iadd] 792 = true := by decide +kernel
  have h1 : ckB 13 false code [.iaload, .invokevirtual 249, .if_icmp .eq 516, .iconst 0, .ireturn] 808 = true := by decide +kernel
  exact ckB_app h0 rfl (h1)
theorem KL_817 : ckB 13 false code [.aload_n 1, .aload_n 0, .iload 4, .iconst 1, .iadd, .iaload, .invokevirtual 137, .aload_n 2, .aload_n 0, .iload 4, .iconst 1, .iadd, .iaload, .invokevirtual 251, .if_icmp .eq 491, .iconst 0, .ireturn] 817 = true := by
  have h0 : ckB 13 false code [.aload_n 1, .aload_n 0, .iload 4, .iconst 1, .iadd, .iaload, .invokevirtual 137, .aload_n 2, .aload_n 0, .iload 4, .iconst 1, .iadd] 817 = true := by decide +kernel
  have h1 : ckB 13 false code [.iaload, .invokevirtual 251, .if_icmp .eq 491, .iconst 0, .ireturn] 833 = true := by decide +kernel
  exact ckB_app h0 rfl (h1)
theorem KL_842 : ckB 13 false code [.aload_n 1, .aload_n 0, .iload 4, .iconst 1, .iadd, .iaload, .aload_n 0, .iload 4, .iconst 2, .iadd, .iaload, .invokevirtual 138, .aload_n 2, .aload_n 0, .iload 4, .iconst 1, .iadd, .iaload, .aload_n 0, .iload 4, .iconst 2, .iadd, .iaload, .invokevirtual 252, .if_icmp .eq 454, .iconst 0, .ireturn] 842 = true := by
  have h0 : ckB 13 false code [.aload_n 1, .aload_n 0, .iload 4, .iconst 1, .iadd, .iaload, .aload_n 0, .iload 4, .iconst 2, .iadd, .iaload, .invokevirtual 138] 842 = true := by decide +kernel
  have h1 : ckB 13 false code [.aload_n 2, .aload_n 0, .iload 4, .iconst 1, .iadd, .iaload, .aload_n 0, .iload 4, .iconst 2, .iadd, .iaload, .invokevirtual 252] 858 = true := by decide +kernel
  have h2 : ckB 13 false code [.if_icmp .eq 454, .iconst 0, .ireturn] 874 = true := by decide +kernel
  exact ckB_app h0 rfl (ckB_app h1 rfl (h2))
theorem KL_879 : ckB 13 false code [.aload_n 1, .aload_n 0, .iload 4, .iconst 1, .iadd, .iaload, .aload_n 0, .iload 4, .iconst 2, .iadd, .iaload, .ifCond .eq 7, .iconst 1, .goto 4] 879 = true := by
  have h0 : ckB 13 false code [.aload_n 1, .aload_n 0, .iload 4, .iconst 1, .iadd, .iaload, .aload_n 0, .iload 4, .iconst 2, .iadd, .iaload, .ifCond .eq 7] 879 = true := by decide +kernel
  have h1 : ckB 13 false code [.iconst 1, .goto 4] 895 = true := by decide +kernel
  exact ckB_app h0 rfl (h1)
theorem KL_899 : ckB 13 false code [.iconst 0, .invokevirtual 139, .aload_n 2, .aload_n 0, .iload 4, .iconst 1, .iadd, .iaload, .aload_n 0, .iload 4, .iconst 2, .iadd, .iaload, .ifCond .eq 7, .iconst 1, .goto 4] 899 = true := by
  have h0 : ckB 13 false code [.iconst 0, .invokevirtual 139, .aload_n 2, .aload_n 0, .iload 4, .iconst 1, .iadd, .iaload, .aload_n 0, .iload 4, .iconst 2, .iadd] 899 = true := by decide +kernel
  have h1 : ckB 13 false code [.iaload, .ifCond .eq 7, .iconst 1, .goto 4] 915 = true := by decide +kernel
  exact ckB_app h0 rfl (h1)
theorem KL_900 : ckB 13 false code [.invokevirtual 139, .aload_n 2, .aload_n 0, .iload 4, .iconst 1, .iadd, .iaload, .aload_n 0, .iload 4, .iconst 2, .iadd, .iaload, .ifCond .eq 7, .iconst 1, .goto 4] 900 = true := by
  have h0 : ckB 13 false code [.invokevirtual 139, .aload_n 2, .aload_n 0, .iload 4, .iconst 1, .iadd, .iaload, .aload_n 0, .iload 4, .iconst 2, .iadd, .iaload] 900 = true := by decide +kernel
  have h1 : ckB 13 false code [.ifCond .eq 7, .iconst 1, .goto 4] 916 = true := by decide +kernel
  exact ckB_app h0 rfl (h1)
theorem KL_923 : ckB 13 false code [.iconst 0, .invokevirtual 254, .if_icmp .eq 401, .iconst 0, .ireturn] 923 = true := by
  decide +kernel
theorem KL_924 : ckB 13 false code [.invokevirtual 254, .if_icmp .eq 401, .iconst 0, .ireturn] 924 = true := by
  decide +kernel
theorem KL_932 : ckB 13 false code [.aload_n 1, .aload_n 0, .iload 4, .iconst 1, .iadd, .iaload, .invokevirtual 140, .aload_n 2, .aload_n 0, .iload 4, .iconst 1, .iadd, .iaload, .invokevirtual 255, .if_icmp .eq 376, .iconst 0, .ireturn] 932 = true := by
  have h0 : ckB 13 false code [.aload_n 1, .aload_n 0, .iload 4, .iconst 1, .iadd, .iaload, .invokevirtual 140, .aload_n 2, .aload_n 0, .iload 4, .iconst 1, .iadd] 932 = true := by decide +kernel
  have h1 : ckB 13 false code [.iaload, .invokevirtual 255, .if_icmp .eq 376, .iconst 0, .ireturn] 948 = true := by decide +kernel
  exact ckB_app h0 rfl (h1)
theorem KL_957 : ckB 13 false code [.aload_n 1, .invokevirtual 141, .aload_n 2, .invokevirtual 258, .if_icmp .eq 363, .iconst 0, .ireturn] 957 = true := by
  decide +kernel
theorem KL_970 : ckB 13 false code [.aload_n 1, .invokevirtual 143, .aload_n 2, .invokevirtual 259, .if_icmp .eq 350, .iconst 0, .ireturn] 970 = true := by
  decide +kernel
theorem KL_983 : ckB 13 false code [.aload_n 1, .invokevirtual 144, .aload_n 2, .invokevirtual 260, .if_icmp .eq 337, .iconst 0, .ireturn] 983 = true := by
  decide +kernel
theorem KL_996 : ckB 13 false code [.aload_n 1, .invokevirtual 145, .aload_n 2, .invokevirtual 261, .if_icmp .eq 324, .iconst 0, .ireturn] 996 = true := by
  decide +kernel
theorem KL_1009 : ckB 13 false code [.aload_n 1, .invokevirtual 146, .aload_n 2, .invokevirtual 262, .if_icmp .eq 311, .iconst 0, .ireturn] 1009 = true := by
  decide +kernel
theorem KL_1022 : ckB 13 false code [.aload_n 1, .invokevirtual 147, .aload_n 2, .invokevirtual 263, .if_icmp .eq 298, .iconst 0, .ireturn] 1022 = true := by
  decide +kernel
theorem KL_1035 : ckB 13 false code [.aload_n 1, .aload_n 0, .iload 4, .iconst 1, .iadd, .iaload, .invokevirtual 148, .aload_n 2, .aload_n 0, .iload 4, .iconst 1, .iadd, .iaload, .invokevirtual 253, .if_icmp .eq 273, .iconst 0, .ireturn] 1035 = true := by
  have h0 : ckB 13 false code [.aload_n 1, .aload_n 0, .iload 4, .iconst 1, .iadd, .iaload, .invokevirtual 148, .aload_n 2, .aload_n 0, .iload 4, .iconst 1, .iadd] 1035 = true := by decide +kernel
  have h1 : ckB 13 false code [.iaload, .invokevirtual 253, .if_icmp .eq 273, .iconst 0, .ireturn] 1051 = true := by decide +kernel
  exact ckB_app h0 rfl (h1)
theorem KL_1060 : ckB 13 false code [.aload_n 1, .aload_n 0, .iload 4, .iconst 1, .iadd, .iaload, .aload_n 0, .iload 4, .iconst 2, .iadd, .iaload, .aload_n 0, .iload 4, .iconst 3, .iadd, .iaload, .invokevirtual 149, .aload_n 2, .aload_n 0, .iload 4, .iconst 1, .iadd, .iaload, .aload_n 0, .iload 4, .iconst 2, .iadd, .iaload, .aload_n 0, .iload 4, .iconst 3, .iadd, .iaload, .invokevirtual 264, .if_icmp .eq 224, .iconst 0, .ireturn] 1060 = true := by
  have h0 : ckB 13 false code [.aload_n 1, .aload_n 0, .iload 4, .iconst 1, .iadd, .iaload, .aload_n 0, .iload 4, .iconst 2, .iadd, .iaload, .aload_n 0] 1060 = true := by decide +kernel
  have h1 : ckB 13 false code [.iload 4, .iconst 3, .iadd, .iaload, .invokevirtual 149, .aload_n 2, .aload_n 0, .iload 4, .iconst 1, .iadd, .iaload, .aload_n 0] 1074 = true := by decide +kernel
  have h2 : ckB 13 false code [.iload 4, .iconst 2, .iadd, .iaload, .aload_n 0, .iload 4, .iconst 3, .iadd, .iaload, .invokevirtual 264, .if_icmp .eq 224, .iconst 0] 1090 = true := by decide +kernel
  have h3 : ckB 13 false code [.ireturn] 1108 = true := by decide +kernel
  exact ckB_app h0 rfl (ckB_app h1 rfl (ckB_app h2 rfl (h3)))
theorem KL_1109 : ckB 13 false code [.aload_n 1, .aload_n 0, .iload 4, .iconst 1, .iadd, .iaload, .aload_n 0, .iload 4, .iconst 2, .iadd, .iaload, .aload_n 0, .iload 4, .iconst 3, .iadd, .iaload, .aload_n 0, .iload 4, .iconst 4, .iadd, .iaload, .aload_n 3, .invokestatic 291, .istore 5, .aload_n 2, .aload_n 0, .iload 4, .iconst 1, .iadd, .iaload, .aload_n 0, .iload 4, .iconst 2, .iadd, .iaload, .aload_n 0, .iload 4, .iconst 3, .iadd, .iaload, .aload_n 0, .iload 4, .iconst 4, .iadd, .iaload, .invokevirtual 265, .istore 6, .aload_n 2, .invokevirtual 159, .iload 5, .if_icmp .eq 5, .iconst 0, .ireturn] 1109 = true := by
  have h0 : ckB 13 false code [.aload_n 1, .aload_n 0, .iload 4, .iconst 1, .iadd, .iaload, .aload_n 0, .iload 4, .iconst 2, .iadd, .iaload, .aload_n 0] 1109 = true := by decide +kernel
  have h1 : ckB 13 false code [.iload 4, .iconst 3, .iadd, .iaload, .aload_n 0, .iload 4, .iconst 4, .iadd, .iaload, .aload_n 3, .invokestatic 291, .istore 5] 1123 = true := by decide +kernel
  have h2 : ckB 13 false code [.aload_n 2, .aload_n 0, .iload 4, .iconst 1, .iadd, .iaload, .aload_n 0, .iload 4, .iconst 2, .iadd, .iaload, .aload_n 0] 1140 = true := by decide +kernel
  have h3 : ckB 13 false code [.iload 4, .iconst 3, .iadd, .iaload, .aload_n 0, .iload 4, .iconst 4, .iadd, .iaload, .invokevirtual 265, .istore 6, .aload_n 2] 1154 = true := by decide +kernel
  have h4 : ckB 13 false code [.invokevirtual 159, .iload 5, .if_icmp .eq 5, .iconst 0, .ireturn] 1171 = true := by decide +kernel
  exact ckB_app h0 rfl (ckB_app h1 rfl (ckB_app h2 rfl (ckB_app h3 rfl (h4))))
theorem KL_1181 : ckB 13 false code [.iload 5, .ifCond .ne 15, .aload_n 3, .iconst 0, .laload, .iload 6, .i2l, .lcmp, .ifCond .eq 5, .iconst 0, .ireturn] 1181 = true := by
  decide +kernel
theorem KL_1198 : ckB 13 false code [.goto 130] 1198 = true := by
  decide +kernel
theorem KL_1201 : ckB 13 false code [.aload_n 1, .aload_n 0, .iload 4, .iconst 1, .iadd, .iaload, .aload_n 0, .iload 4, .iconst 2, .iadd, .iaload, .aload_n 0, .iload 4, .iconst 3, .iadd, .iaload, .invokevirtual 151, .aload_n 2, .aload_n 0, .iload 4, .iconst 1, .iadd, .iaload, .aload_n 0, .iload 4, .iconst 2, .iadd, .iaload, .aload_n 0, .iload 4, .iconst 3, .iadd, .iaload, .invokevirtual 267, .if_icmp .eq 83, .iconst 0, .ireturn] 1201 = true := by
  have h0 : ckB 13 false code [.aload_n 1, .aload_n 0, .iload 4, .iconst 1, .iadd, .iaload, .aload_n 0, .iload 4, .iconst 2, .iadd, .iaload, .aload_n 0] 1201 = true := by decide +kernel
  have h1 : ckB 13 false code [.iload 4, .iconst 3, .iadd, .iaload, .invokevirtual 151, .aload_n 2, .aload_n 0, .iload 4, .iconst 1, .iadd, .iaload, .aload_n 0] 1215 = true := by decide +kernel
  have h2 : ckB 13 false code [.iload 4, .iconst 2, .iadd, .iaload, .aload_n 0, .iload 4, .iconst 3, .iadd, .iaload, .invokevirtual 267, .if_icmp .eq 83, .iconst 0] 1231 = true := by decide +kernel
  have h3 : ckB 13 false code [.ireturn] 1249 = true := by decide +kernel
  exact ckB_app h0 rfl (ckB_app h1 rfl (ckB_app h2 rfl (h3)))
theorem KL_1250 : ckB 13 false code [.aload_n 1, .aload_n 0, .iload 4, .iconst 1, .iadd, .iaload, .aload_n 0, .iload 4, .iconst 2, .iadd, .iaload, .ifCond .eq 7, .iconst 1, .goto 4] 1250 = true := by
  have h0 : ckB 13 false code [.aload_n 1, .aload_n 0, .iload 4, .iconst 1, .iadd, .iaload, .aload_n 0, .iload 4, .iconst 2, .iadd, .iaload, .ifCond .eq 7] 1250 = true := by decide +kernel
  have h1 : ckB 13 false code [.iconst 1, .goto 4] 1266 = true := by decide +kernel
  exact ckB_app h0 rfl (h1)
theorem KL_1270 : ckB 13 false code [.iconst 0, .invokevirtual 154, .aload_n 2, .aload_n 0, .iload 4, .iconst 1, .iadd, .iaload, .aload_n 0, .iload 4, .iconst 2, .iadd, .iaload, .ifCond .eq 7, .iconst 1, .goto 4] 1270 = true := by
  have h0 : ckB 13 false code [.iconst 0, .invokevirtual 154, .aload_n 2, .aload_n 0, .iload 4, .iconst 1, .iadd, .iaload, .aload_n 0, .iload 4, .iconst 2, .iadd] 1270 = true := by decide +kernel
  have h1 : ckB 13 false code [.iaload, .ifCond .eq 7, .iconst 1, .goto 4] 1286 = true := by decide +kernel
  exact ckB_app h0 rfl (h1)
theorem KL_1271 : ckB 13 false code [.invokevirtual 154, .aload_n 2, .aload_n 0, .iload 4, .iconst 1, .iadd, .iaload, .aload_n 0, .iload 4, .iconst 2, .iadd, .iaload, .ifCond .eq 7, .iconst 1, .goto 4] 1271 = true := by
  have h0 : ckB 13 false code [.invokevirtual 154, .aload_n 2, .aload_n 0, .iload 4, .iconst 1, .iadd, .iaload, .aload_n 0, .iload 4, .iconst 2, .iadd, .iaload] 1271 = true := by decide +kernel
  have h1 : ckB 13 false code [.ifCond .eq 7, .iconst 1, .goto 4] 1287 = true := by decide +kernel
  exact ckB_app h0 rfl (h1)
theorem KL_1294 : ckB 13 false code [.iconst 0, .invokevirtual 270, .if_icmp .eq 30, .iconst 0, .ireturn] 1294 = true := by
  decide +kernel
theorem KL_1295 : ckB 13 false code [.invokevirtual 270, .if_icmp .eq 30, .iconst 0, .ireturn] 1295 = true := by
  decide +kernel
theorem KL_1303 : ckB 13 false code [.aload_n 1, .aload_n 0, .iload 4, .iconst 1, .iadd, .iaload, .invokevirtual 155, .aload_n 2, .aload_n 0, .iload 4, .iconst 1, .iadd, .iaload, .invokevirtual 271, .if_icmp .eq 5, .iconst 0, .ireturn] 1303 = true := by
  have h0 : ckB 13 false code [.aload_n 1, .aload_n 0, .iload 4, .iconst 1, .iadd, .iaload, .invokevirtual 155, .aload_n 2, .aload_n 0, .iload 4, .iconst 1, .iadd] 1303 = true := by decide +kernel
  have h1 : ckB 13 false code [.iaload, .invokevirtual 271, .if_icmp .eq 5, .iconst 0, .ireturn] 1319 = true := by decide +kernel
  exact ckB_app h0 rfl (h1)
theorem KL_1328 : ckB 13 false code [.iinc 4 7, .goto (-1308)] 1328 = true := by
  decide +kernel
theorem KL_1334 : ckB 13 false code [.iconst 1, .ireturn] 1334 = true := by
  decide +kernel
theorem K290 : ∀ q ∈ P290, ckB 13 false code q.2 q.1 = true := List.forall_mem_cons.mpr ⟨KL_0, List.forall_mem_cons.mpr ⟨KL_23, List.forall_mem_cons.mpr ⟨KL_196, List.forall_mem_cons.mpr ⟨KL_343, List.forall_mem_cons.mpr ⟨KL_356, List.forall_mem_cons.mpr ⟨KL_369, List.forall_mem_cons.mpr ⟨KL_406, List.forall_mem_cons.mpr ⟨KL_443, List.forall_mem_cons.mpr ⟨KL_480, List.forall_mem_cons.mpr ⟨KL_517, List.forall_mem_cons.mpr ⟨KL_554, List.forall_mem_cons.mpr ⟨KL_591, List.forall_mem_cons.mpr ⟨KL_616, List.forall_mem_cons.mpr ⟨KL_629, List.forall_mem_cons.mpr ⟨KL_642, List.forall_mem_cons.mpr ⟨KL_667, List.forall_mem_cons.mpr ⟨KL_692, List.forall_mem_cons.mpr ⟨KL_717, List.forall_mem_cons.mpr ⟨KL_742, List.forall_mem_cons.mpr ⟨KL_767, List.forall_mem_cons.mpr ⟨KL_792, List.forall_mem_cons.mpr ⟨KL_817, List.forall_mem_cons.mpr ⟨KL_842, List.forall_mem_cons.mpr ⟨KL_879, List.forall_mem_cons.mpr ⟨KL_899, List.forall_mem_cons.mpr ⟨KL_900, List.forall_mem_cons.mpr ⟨KL_923, List.forall_mem_cons.mpr ⟨KL_924, List.forall_mem_cons.mpr ⟨KL_932, List.forall_mem_cons.mpr ⟨KL_957, List.forall_mem_cons.mpr ⟨KL_970, List.forall_mem_cons.mpr ⟨KL_983, List.forall_mem_cons.mpr ⟨KL_996, List.forall_mem_cons.mpr ⟨KL_1009, List.forall_mem_cons.mpr ⟨KL_1022, List.forall_mem_cons.mpr ⟨KL_1035, List.forall_mem_cons.mpr ⟨KL_1060, List.forall_mem_cons.mpr ⟨KL_1109, List.forall_mem_cons.mpr ⟨KL_1181, List.forall_mem_cons.mpr ⟨KL_1198, List.forall_mem_cons.mpr ⟨KL_1201, List.forall_mem_cons.mpr ⟨KL_1250, List.forall_mem_cons.mpr ⟨KL_1270, List.forall_mem_cons.mpr ⟨KL_1271, List.forall_mem_cons.mpr ⟨KL_1294, List.forall_mem_cons.mpr ⟨KL_1295, List.forall_mem_cons.mpr ⟨KL_1303, List.forall_mem_cons.mpr ⟨KL_1328, List.forall_mem_cons.mpr ⟨KL_1334, fun _ h => absurd h List.not_mem_nil⟩⟩⟩⟩⟩⟩⟩⟩⟩⟩⟩⟩⟩⟩⟩⟩⟩⟩⟩⟩⟩⟩⟩⟩⟩⟩⟩⟩⟩⟩⟩⟩⟩⟩⟩⟩⟩⟩⟩⟩⟩⟩⟩⟩⟩⟩⟩⟩⟩
