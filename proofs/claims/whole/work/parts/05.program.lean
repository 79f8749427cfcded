/-! the program: each method as rows of instructions by their first places -/
/-- ShoeOrchard$Felt.<init>()V -/
def P0 : List (Nat × List Instr) := [
  (0, [.aload_n 0, .invokespecial 900, .aload_n 0, .bipush 8, .newarray .int, .putfield 1, .aload_n 0, .bipush 8, .newarray .boolean, .putfield 2, .return_])]
/-- ShoeOrchard$Felt.clear()V -/
def P1 : List (Nat × List Instr) := [
  (0, [.aload_n 0, .iconst 0, .putfield 0, .return_])]
/-- ShoeOrchard$Felt.add(IZ)Z -/
def P2 : List (Nat × List Instr) := [
  (0, [.aload_n 0, .getfield 0, .bipush 8, .if_icmp .lt 5, .iconst 0, .ireturn]),
  (11, [.aload_n 0, .getfield 1, .aload_n 0, .getfield 0, .iload_n 1, .iastore, .aload_n 0, .getfield 2, .aload_n 0, .getfield 0, .iload_n 2, .bastore, .aload_n 0, .dup, .getfield 0, .iconst 1, .iadd, .putfield 0, .iconst 1, .ireturn])]
/-- ShoeOrchard$Felt.allows(I[II)Z -/
def P3 : List (Nat × List Instr) := [
  (0, [.iconst 0, .istore 4]),
  (3, [.iload 4, .aload_n 0, .getfield 0, .if_icmp .ge 84, .aload_n 0, .getfield 1, .iload 4, .iaload, .ifCond .lt 27, .aload_n 0, .getfield 1, .iload 4, .iaload, .aload_n 2, .arraylength, .if_icmp .ge 15, .aload_n 2, .aload_n 0, .getfield 1, .iload 4, .iaload, .iaload, .goto 4]),
  (46, [.iconst (-1), .istore 5, .iload 5, .iload_n 1, .isub, .invokestatic 288, .iload_n 3, .if_icmp .gt 7, .iconst 1, .goto 4]),
  (47, [.istore 5, .iload 5, .iload_n 1, .isub, .invokestatic 288, .iload_n 3, .if_icmp .gt 7, .iconst 1, .goto 4]),
  (64, [.iconst 0, .istore 6, .iload 5, .iconst (-1), .if_icmp .eq 17, .iload 6, .aload_n 0, .getfield 2, .iload 4, .baload, .if_icmp .eq 5, .iconst 0, .ireturn]),
  (65, [.istore 6, .iload 5, .iconst (-1), .if_icmp .eq 17, .iload 6, .aload_n 0, .getfield 2, .iload 4, .baload, .if_icmp .eq 5, .iconst 0, .ireturn]),
  (87, [.iinc 4 1, .goto (-87)]),
  (93, [.iconst 1, .ireturn])]
/-- ShoeOrchard$Felt.copy(LShoeOrchard$Felt;)V -/
def P4 : List (Nat × List Instr) := [
  (0, [.aload_n 1, .getfield 1, .iconst 0, .aload_n 0, .getfield 1, .iconst 0, .bipush 8, .invokestatic 900, .iconst 0, .istore_n 2]),
  (17, [.iload_n 2, .bipush 8, .if_icmp .ge 21, .aload_n 0, .getfield 2, .iload_n 2, .aload_n 1, .getfield 2, .iload_n 2, .baload, .bastore, .iinc 2 1, .goto (-21)]),
  (41, [.aload_n 0, .aload_n 1, .getfield 0, .putfield 0, .return_])]
/-- ShoeOrchard$Formula.<init>()V -/
def P5 : List (Nat × List Instr) := [
  (0, [.aload_n 0, .invokespecial 900, .aload_n 0, .sipush 1000, .newarray .int, .putfield 64, .aload_n 0, .bipush 24, .newarray .int, .putfield 65, .return_])]
/-- ShoeOrchard$Formula.clear()V -/
def P6 : List (Nat × List Instr) := [
  (0, [.aload_n 0, .iconst 0, .putfield 66, .return_])]
/-- ShoeOrchard$Formula.add(I)V -/
def P7 : List (Nat × List Instr) := [
  (0, [.aload_n 0, .getfield 66, .sipush 1000, .if_icmp .ge 23, .aload_n 0, .getfield 64, .aload_n 0, .getfield 66, .iload_n 1, .iastore, .aload_n 0, .dup, .getfield 66, .iconst 1, .iadd, .putfield 66, .return_]),
  (30, [.return_])]
/-- ShoeOrchard$Formula.copy(LShoeOrchard$Formula;)V -/
def P8 : List (Nat × List Instr) := [
  (0, [.aload_n 1, .getfield 64, .iconst 0, .aload_n 0, .getfield 64, .iconst 0, .aload_n 1, .getfield 66, .invokestatic 900, .aload_n 0, .aload_n 1, .getfield 66, .putfield 66, .return_])]
/-- ShoeOrchard$Formula.value(IIII)I -/
def P9 : List (Nat × List Instr) := [
  (0, [.iconst 0, .istore 5, .aload_n 0, .getfield 65, .iconst 0, .iload_n 1, .iastore, .iconst 0, .istore 6]),
  (13, [.iload 6, .aload_n 0, .getfield 66, .if_icmp .ge 154, .aload_n 0, .getfield 64, .iload 6, .iaload, .istore 7, .iload 7, .iconst (-1), .if_icmp .ne 38, .iload 5, .iconst 1, .if_icmp .lt 32, .aload_n 0, .getfield 65, .iload 5, .iconst 1, .isub, .aload_n 0, .getfield 65, .iload 5, .iconst 1, .isub, .iaload, .ifCond .ne 7, .iconst 1, .goto 4]),
  (67, [.iconst 0, .iastore, .goto 98]),
  (68, [.iastore, .goto 98]),
  (72, [.iload 7, .iconst (-1), .if_icmp .ge 52, .iload 7, .bipush (-9), .if_icmp .le 45, .iload 5, .iconst 2, .if_icmp .lt 39, .iinc 5 (-1), .aload_n 0, .getfield 65, .iload 5, .iconst 1, .isub, .iload 7, .aload_n 0, .getfield 65, .iload 5, .iconst 1, .isub, .iaload, .aload_n 0, .getfield 65, .iload 5, .iaload, .invokestatic 10, .iastore, .goto 43]),
  (127, [.iload 5, .bipush 24, .if_icmp .ge 36, .aload_n 0, .getfield 65, .iload 5, .iload 7, .ifCond .lt 8, .iload 7, .goto 16]),
  (150, [.bipush (-9), .iload 7, .isub, .iload_n 1, .iload_n 2, .iload_n 3, .iload 4, .invokestatic 11, .iastore, .iinc 5 1, .iinc 6 1, .goto (-157)]),
  (163, [.iastore, .iinc 5 1, .iinc 6 1, .goto (-157)]),
  (167, [.iinc 6 1, .goto (-157)]),
  (173, [.aload_n 0, .getfield 65, .iconst 0, .iaload, .ireturn])]
/-- ShoeOrchard$Formula.joined(III)I -/
def P10 : List (Nat × List Instr) := [
  (0, [.iload_n 0, .tableswitch 97 (-7) (-2) #[93, 89, 78, 67, 53, 39]]),
  (40, [.iload_n 1, .ifCond .eq 11, .iload_n 2, .ifCond .eq 7, .iconst 1, .goto 4]),
  (52, [.iconst 0, .ireturn]),
  (53, [.ireturn]),
  (54, [.iload_n 1, .ifCond .ne 7, .iload_n 2, .ifCond .eq 7, .iconst 1, .goto 4]),
  (62, [.iconst 1, .goto 4]),
  (66, [.iconst 0, .ireturn]),
  (67, [.ireturn]),
  (68, [.iload_n 1, .iload_n 2, .if_icmp .ge 7, .iconst 1, .goto 4]),
  (77, [.iconst 0, .ireturn]),
  (78, [.ireturn]),
  (79, [.iload_n 1, .iload_n 2, .if_icmp .ne 7, .iconst 1, .goto 4]),
  (88, [.iconst 0, .ireturn]),
  (89, [.ireturn]),
  (90, [.iload_n 1, .iload_n 2, .iadd, .ireturn]),
  (94, [.iload_n 1, .iload_n 2, .isub, .ireturn]),
  (98, [.iload_n 1, .iload_n 2, .imul, .ireturn])]
/-- ShoeOrchard$Formula.fact(IIIII)I -/
def P11 : List (Nat × List Instr) := [
  (0, [.iload_n 0, .tableswitch 33 0 2 #[27, 29, 31]]),
  (28, [.iload_n 1, .ireturn]),
  (30, [.iload_n 2, .ireturn]),
  (32, [.iload_n 3, .ireturn]),
  (34, [.iload 4, .ireturn])]
/-- ShoeOrchard$Lines.<init>()V -/
def P12 : List (Nat × List Instr) := [
  (0, [.aload_n 0, .invokespecial 900, .aload_n 0, .bipush 40, .newarray .int, .putfield 129, .aload_n 0, .bipush 40, .newarray .int, .putfield 130, .aload_n 0, .bipush 40, .newarray .int, .putfield 131, .return_])]
/-- ShoeOrchard$Lines.clear()V -/
def P13 : List (Nat × List Instr) := [
  (0, [.aload_n 0, .iconst 0, .putfield 128, .return_])]
/-- ShoeOrchard$Lines.add(III)V -/
def P14 : List (Nat × List Instr) := [
  (0, [.aload_n 0, .getfield 128, .bipush 40, .if_icmp .ge 43, .aload_n 0, .getfield 129, .aload_n 0, .getfield 128, .iload_n 1, .iastore, .aload_n 0, .getfield 130, .aload_n 0, .getfield 128, .iload_n 2, .iastore, .aload_n 0, .getfield 131, .aload_n 0, .getfield 128, .iload_n 3, .iastore, .aload_n 0, .dup, .getfield 128, .iconst 1, .iadd, .putfield 128, .return_]),
  (49, [.return_])]
/-- ShoeOrchard$Lines.copy(LShoeOrchard$Lines;)V -/
def P15 : List (Nat × List Instr) := [
  (0, [.aload_n 1, .getfield 129, .iconst 0, .aload_n 0, .getfield 129, .iconst 0, .bipush 40, .invokestatic 900, .aload_n 1, .getfield 130, .iconst 0, .aload_n 0, .getfield 130, .iconst 0, .bipush 40, .invokestatic 900, .aload_n 1, .getfield 131, .iconst 0, .aload_n 0, .getfield 131, .iconst 0, .bipush 40, .invokestatic 900, .aload_n 0, .aload_n 1, .getfield 128, .putfield 128, .return_])]
/-- ShoeOrchard$Lines.carryOut(ILShoeOrchard$State;)I -/
def P16 : List (Nat × List Instr) := [
  (0, [.iload_n 1, .ifCond .lt 11, .iload_n 1, .aload_n 0, .getfield 128, .if_icmp .lt 5, .iconst (-1), .ireturn]),
  (12, [.iconst (-1), .ireturn]),
  (14, [.aload_n 0, .getfield 130, .iload_n 1, .iaload, .istore_n 3, .aload_n 0, .getfield 131, .iload_n 1, .iaload, .istore 4, .aload_n 0, .getfield 129, .iload_n 1, .iaload, .tableswitch 94 0 3 #[29, 57, 78, 87]]),
  (64, [.aload_n 2, .iload_n 3, .iload 4, .invokevirtual 74, .ifCond .ne 5, .iconst (-1), .ireturn]),
  (76, [.aload_n 2, .iload_n 3, .iload 4, .invokevirtual 76, .ifCond .eq 7, .iconst 1, .goto 4]),
  (90, [.iconst 0, .ireturn]),
  (91, [.ireturn]),
  (92, [.aload_n 2, .iload_n 3, .iload 4, .invokevirtual 78, .ifCond .ne 5, .iconst (-1), .ireturn]),
  (104, [.aload_n 2, .iload_n 3, .iload 4, .invokevirtual 79, .iconst 1, .ireturn]),
  (113, [.aload_n 2, .iload_n 3, .iload 4, .invokevirtual 80, .iconst 1, .ireturn]),
  (122, [.aload_n 2, .iload_n 3, .invokevirtual 81, .iconst 1, .ireturn]),
  (129, [.aload_n 2, .invokevirtual 82, .iconst 1, .ireturn])]
/-- ShoeOrchard$Matching.<init>()V -/
def P17 : List (Nat × List Instr) := [
  (0, [.aload_n 0, .invokespecial 900, .aload_n 0, .bipush 6, .newarray .int, .putfield 193, .aload_n 0, .bipush 6, .newarray .int, .putfield 194, .aload_n 0, .bipush 6, .newarray .int, .putfield 195, .aload_n 0, .sipush 448, .newarray .int, .putfield 198, .return_])]
/-- ShoeOrchard$Matching.begin(II)V -/
def P18 : List (Nat × List Instr) := [
  (0, [.aload_n 0, .bipush 6, .iload_n 1, .invokestatic 287, .putfield 196, .aload_n 0, .bipush 6, .iload_n 2, .invokestatic 287, .putfield 197, .return_])]
/-- ShoeOrchard$Matching.solve()V -/
def P19 : List (Nat × List Instr) := [
  (0, [.aload_n 0, .getfield 198, .iconst 0, .invokestatic 284, .aload_n 0, .getfield 196, .iconst 1, .isub, .istore_n 1]),
  (15, [.iload_n 1, .ifCond .lt 44, .iconst 0, .istore_n 2]),
  (21, [.iload_n 2, .iconst 1, .aload_n 0, .getfield 197, .ishl, .if_icmp .ge 26, .aload_n 0, .getfield 198, .iload_n 1, .bipush 64, .imul, .iload_n 2, .iadd, .aload_n 0, .iload_n 1, .iload_n 2, .invokevirtual 20, .iastore, .iinc 2 1, .goto (-30)]),
  (54, [.iinc 1 (-1), .goto (-42)]),
  (60, [.aload_n 0, .aload_n 0, .getfield 198, .iconst 0, .iaload, .putfield 192, .iconst 0, .istore_n 1, .iconst 0, .istore_n 2]),
  (74, [.iload_n 2, .aload_n 0, .getfield 196, .if_icmp .ge 46, .aload_n 0, .getfield 195, .iload_n 2, .aload_n 0, .iload_n 2, .iload_n 1, .invokevirtual 22, .iastore, .iload_n 1, .aload_n 0, .getfield 195, .iload_n 2, .iaload, .iconst (-1), .if_icmp .ne 7, .iconst 0, .goto 11]),
  (109, [.iconst 1, .aload_n 0, .getfield 195, .iload_n 2, .iaload, .ishl, .ior, .istore_n 1, .iinc 2 1, .goto (-48)]),
  (117, [.ior, .istore_n 1, .iinc 2 1, .goto (-48)]),
  (125, [.return_])]
/-- ShoeOrchard$Matching.mostFrom(II)I -/
def P20 : List (Nat × List Instr) := [
  (0, [.aload_n 0, .getfield 198, .iload_n 1, .iconst 1, .iadd, .bipush 64, .imul, .iload_n 2, .iadd, .iaload, .istore_n 3, .iconst 0, .istore 4]),
  (17, [.iload 4, .aload_n 0, .getfield 197, .if_icmp .ge 22, .iload_n 3, .aload_n 0, .iload_n 1, .iload_n 2, .iload 4, .invokevirtual 21, .invokestatic 286, .istore_n 3, .iinc 4 1, .goto (-25)]),
  (45, [.iload_n 3, .ireturn])]
/-- ShoeOrchard$Matching.mostBy(III)I -/
def P21 : List (Nat × List Instr) := [
  (0, [.aload_n 0, .getfield 193, .iload_n 1, .iaload, .iload_n 2, .iconst (-1), .ixor, .iand, .iload_n 3, .ishr, .iconst 1, .iand, .ifCond .eq 7, .iconst 1, .goto 4]),
  (21, [.iconst 0, .istore 4, .iload 4, .ifCond .eq 30, .aload_n 0, .getfield 194, .iload_n 3, .iaload, .aload_n 0, .getfield 198, .iload_n 1, .iconst 1, .iadd, .bipush 64, .imul, .iload_n 2, .iconst 1, .iload_n 3, .ishl, .ior, .iadd, .iaload, .iadd, .goto 4]),
  (22, [.istore 4, .iload 4, .ifCond .eq 30, .aload_n 0, .getfield 194, .iload_n 3, .iaload, .aload_n 0, .getfield 198, .iload_n 1, .iconst 1, .iadd, .bipush 64, .imul, .iload_n 2, .iconst 1, .iload_n 3, .ishl, .ior, .iadd, .iaload, .iadd, .goto 4]),
  (56, [.iconst (-1), .ireturn]),
  (57, [.ireturn])]
/-- ShoeOrchard$Matching.firstOfMost(II)I -/
def P22 : List (Nat × List Instr) := [
  (0, [.iconst 0, .istore_n 3]),
  (2, [.iload_n 3, .aload_n 0, .getfield 197, .if_icmp .ge 32, .aload_n 0, .iload_n 1, .iload_n 2, .iload_n 3, .invokevirtual 21, .aload_n 0, .getfield 198, .iload_n 1, .bipush 64, .imul, .iload_n 2, .iadd, .iaload, .if_icmp .ne 5, .iload_n 3, .ireturn]),
  (33, [.iinc 3 1, .goto (-34)]),
  (39, [.iconst (-1), .ireturn])]
/-- ShoeOrchard$MorningReader.<init>()V -/
def P23 : List (Nat × List Instr) := [
  (0, [.aload_n 0, .invokespecial 900, .aload_n 0, .new 2, .dup, .invokespecial 12, .putfield 256, .return_])]
/-- ShoeOrchard$MorningReader.read(LShoeOrchard$Tape;LShoeOrchard$Plan;)I -/
def P24 : List (Nat × List Instr) := [
  (0, [.aload_n 0, .getfield 256, .invokevirtual 13, .aload_n 1, .invokevirtual 89, .iconst 0, .istore_n 3]),
  (13, [.iload_n 3, .sipush 1000, .if_icmp .ge 39, .aload_n 1, .getfield 641, .ifCond .eq 32, .aload_n 0, .aload_n 1, .aload_n 2, .invokevirtual 25, .ifCond .eq 12, .aload_n 1, .bipush 59, .invokevirtual 105, .ifCond .ne 8, .aload_n 1, .getfield 644, .ireturn]),
  (45, [.aload_n 1, .getfield 644, .ireturn]),
  (50, [.iinc 3 1, .goto (-40)]),
  (56, [.iconst 0, .ireturn])]
/-- ShoeOrchard$MorningReader.readLine(LShoeOrchard$Tape;LShoeOrchard$Plan;)Z -/
def P25 : List (Nat × List Instr) := [
  (0, [.aload_n 1, .ret 12, .invokevirtual 96, .istore_n 3, .iload_n 3, .iconst (-1), .if_icmp .ne 9, .aload_n 1, .iconst 1, .invokevirtual 98, .ireturn]),
  (18, [.aload_n 0, .getfield 256, .getfield 128, .bipush 40, .if_icmp .lt 9, .aload_n 1, .iconst 5, .invokevirtual 98, .ireturn]),
  (36, [.aload_n 1, .invokevirtual 90, .iconst (-1), .istore 4, .iconst (-1), .istore 5, .iload_n 3, .iconst 4, .if_icmp .eq 26, .aload_n 0, .aload_n 1, .aload_n 2, .iload_n 3, .ifCond .eq 8, .iload_n 3, .iconst 1, .if_icmp .ne 7, .iconst 1, .goto 4]),
  (63, [.iconst 1, .goto 4]),
  (67, [.iconst 0, .iconst (-1), .invokevirtual 26, .istore 4, .aload_n 1, .getfield 644, .ifCond .ne 41, .iload_n 3, .iconst 4, .if_icmp .eq 36, .iload_n 3, .iconst 3, .if_icmp .eq 31, .aload_n 0, .aload_n 1, .aload_n 2, .iload_n 3, .iconst 1, .if_icmp .ne 7, .iconst 1, .goto 4]),
  (68, [.iconst (-1), .invokevirtual 26, .istore 4, .aload_n 1, .getfield 644, .ifCond .ne 41, .iload_n 3, .iconst 4, .if_icmp .eq 36, .iload_n 3, .iconst 3, .if_icmp .eq 31, .aload_n 0, .aload_n 1, .aload_n 2, .iload_n 3, .iconst 1, .if_icmp .ne 7, .iconst 1, .goto 4]),
  (74, [.aload_n 1, .getfield 644, .ifCond .ne 41, .iload_n 3, .iconst 4, .if_icmp .eq 36, .iload_n 3, .iconst 3, .if_icmp .eq 31, .aload_n 0, .aload_n 1, .aload_n 2, .iload_n 3, .iconst 1, .if_icmp .ne 7, .iconst 1, .goto 4]),
  (103, [.iconst 0, .iload_n 3, .ifCond .ne 7, .iconst (-1), .goto 5]),
  (104, [.iload_n 3, .ifCond .ne 7, .iconst (-1), .goto 5]),
  (112, [.iload 4, .invokevirtual 26, .istore 5, .aload_n 0, .getfield 256, .iload_n 3, .iload 4, .iload 5, .invokevirtual 14, .aload_n 1, .getfield 644, .ifCond .ne 7, .iconst 1, .goto 4]),
  (114, [.invokevirtual 26, .istore 5, .aload_n 0, .getfield 256, .iload_n 3, .iload 4, .iload 5, .invokevirtual 14, .aload_n 1, .getfield 644, .ifCond .ne 7, .iconst 1, .goto 4]),
  (119, [.aload_n 0, .getfield 256, .iload_n 3, .iload 4, .iload 5, .invokevirtual 14, .aload_n 1, .getfield 644, .ifCond .ne 7, .iconst 1, .goto 4]),
  (142, [.iconst 0, .ireturn]),
  (143, [.ireturn])]
/-- ShoeOrchard$MorningReader.readNamed(LShoeOrchard$Tape;LShoeOrchard$Plan;ZI)I -/
def P26 : List (Nat × List Instr) := [
  (0, [.aload_n 1, .invokevirtual 99, .ifCond .ne 11, .aload_n 1, .iconst 1, .invokevirtual 98, .pop, .iconst (-1), .ireturn]),
  (15, [.iload_n 3, .ifCond .eq 14, .aload_n 2, .aload_n 1, .getfield 643, .invokevirtual 52, .goto 11]),
  (30, [.aload_n 2, .aload_n 1, .getfield 643, .invokevirtual 51, .istore 5, .iload 5, .iconst (-1), .if_icmp .ne 11, .aload_n 1, .iconst 2, .invokevirtual 98, .pop, .iconst (-1), .ireturn]),
  (38, [.istore 5, .iload 5, .iconst (-1), .if_icmp .ne 11, .aload_n 1, .iconst 2, .invokevirtual 98, .pop, .iconst (-1), .ireturn]),
  (54, [.iload 5, .iload 4, .if_icmp .ne 11, .aload_n 1, .iconst 3, .invokevirtual 98, .pop, .iconst (-1), .ireturn]),
  (69, [.aload_n 1, .invokevirtual 90, .iload 5, .ireturn])]
/-- ShoeOrchard$OrchardReader.<init>()V -/
def P27 : List (Nat × List Instr) := [
  (0, [.aload_n 0, .invokespecial 900, .aload_n 0, .new 7, .dup, .invokespecial 49, .putfield 320, .return_])]
/-- ShoeOrchard$OrchardReader.read(LShoeOrchard$Tape;)I -/
def P28 : List (Nat × List Instr) := [
  (0, [.aload_n 0, .getfield 320, .invokevirtual 50, .aload_n 0, .iconst 0, .putfield 321, .aload_n 1, .invokevirtual 89, .iconst 0, .istore_n 2]),
  (18, [.iload_n 2, .sipush 1000, .if_icmp .ge 38, .aload_n 1, .getfield 641, .ifCond .eq 31, .aload_n 0, .aload_n 1, .invokevirtual 29, .ifCond .eq 12, .aload_n 1, .bipush 59, .invokevirtual 105, .ifCond .ne 8, .aload_n 1, .getfield 644, .ireturn]),
  (49, [.aload_n 1, .getfield 644, .ireturn]),
  (54, [.iinc 2 1, .goto (-39)]),
  (60, [.iconst 0, .ireturn])]
/-- ShoeOrchard$OrchardReader.readLine(LShoeOrchard$Tape;)Z -/
def P29 : List (Nat × List Instr) := [
  (0, [.aload_n 1, .ret 1, .invokevirtual 96, .istore_n 2, .iload_n 2, .tableswitch 145 0 5 #[40, 46, 52, 75, 98, 121]]),
  (48, [.aload_n 0, .aload_n 1, .invokevirtual 30, .ireturn]),
  (54, [.aload_n 0, .aload_n 1, .invokevirtual 32, .ireturn]),
  (60, [.aload_n 0, .aload_n 1, .iload_n 2, .invokevirtual 33, .ifCond .eq 15, .aload_n 0, .aload_n 1, .invokevirtual 34, .ifCond .eq 7, .iconst 1, .goto 4]),
  (81, [.iconst 0, .ireturn]),
  (82, [.ireturn]),
  (83, [.aload_n 0, .aload_n 1, .iload_n 2, .invokevirtual 33, .ifCond .eq 15, .aload_n 0, .aload_n 1, .invokevirtual 35, .ifCond .eq 7, .iconst 1, .goto 4]),
  (104, [.iconst 0, .ireturn]),
  (105, [.ireturn]),
  (106, [.aload_n 0, .aload_n 1, .iload_n 2, .invokevirtual 33, .ifCond .eq 15, .aload_n 0, .aload_n 1, .invokevirtual 36, .ifCond .eq 7, .iconst 1, .goto 4]),
  (127, [.iconst 0, .ireturn]),
  (128, [.ireturn]),
  (129, [.aload_n 0, .aload_n 1, .iload_n 2, .invokevirtual 33, .ifCond .eq 16, .aload_n 0, .aload_n 1, .iconst 0, .invokevirtual 37, .ifCond .eq 7, .iconst 1, .goto 4]),
  (151, [.iconst 0, .ireturn]),
  (152, [.ireturn]),
  (153, [.aload_n 1, .iconst 1, .invokevirtual 98, .ireturn])]
/-- ShoeOrchard$OrchardReader.readTree(LShoeOrchard$Tape;)Z -/
def P30 : List (Nat × List Instr) := [
  (0, [.aload_n 0, .getfield 320, .getfield 448, .bipush 6, .if_icmp .lt 9, .aload_n 1, .iconst 5, .invokevirtual 98, .ireturn]),
  (18, [.aload_n 1, .invokevirtual 90, .aload_n 0, .getfield 320, .getfield 448, .istore_n 2, .aload_n 0, .aload_n 1, .invokevirtual 31, .ifCond .ne 5, .iconst 0, .ireturn]),
  (40, [.aload_n 0, .getfield 320, .getfield 456, .iload_n 2, .aload_n 1, .getfield 643, .lastore, .aload_n 1, .invokevirtual 90, .aload_n 0, .getfield 320, .getfield 453, .iload_n 2, .aload_n 1, .ret 3, .invokevirtual 100, .iastore, .aload_n 1, .getfield 644, .ifCond .ne 12, .aload_n 1, .ret 4, .invokevirtual 101, .ifCond .ne 5, .iconst 0, .ireturn]),
  (88, [.iconst 0, .ireturn]),
  (90, [.aload_n 0, .getfield 320, .getfield 454, .iload_n 2, .aload_n 1, .iconst 0, .bipush 30, .invokevirtual 103, .iastore, .aload_n 1, .getfield 644, .ifCond .ne 12, .aload_n 1, .ret 5, .invokevirtual 101, .ifCond .ne 5, .iconst 0, .ireturn]),
  (122, [.iconst 0, .ireturn]),
  (124, [.aload_n 0, .getfield 320, .getfield 455, .iload_n 2, .aload_n 1, .iconst 0, .bipush 20, .invokevirtual 103, .iastore, .aload_n 0, .getfield 320, .dup, .getfield 448, .iconst 1, .iadd, .putfield 448, .aload_n 1, .getfield 644, .ifCond .ne 7, .iconst 1, .goto 4]),
  (164, [.iconst 0, .ireturn]),
  (165, [.ireturn])]
/-- ShoeOrchard$OrchardReader.isNewName(LShoeOrchard$Tape;)Z -/
def P31 : List (Nat × List Instr) := [
  (0, [.aload_n 1, .invokevirtual 99, .ifCond .ne 9, .aload_n 1, .iconst 1, .invokevirtual 98, .ireturn]),
  (13, [.aload_n 0, .getfield 320, .aload_n 1, .getfield 643, .invokevirtual 51, .iconst (-1), .if_icmp .ne 18, .aload_n 0, .getfield 320, .aload_n 1, .getfield 643, .invokevirtual 52, .iconst (-1), .if_icmp .eq 9, .aload_n 1, .iconst 3, .invokevirtual 98, .ireturn]),
  (43, [.aload_n 1, .iconst 3, .invokevirtual 98, .ireturn]),
  (49, [.iconst 1, .ireturn])]
/-- ShoeOrchard$OrchardReader.readPerson(LShoeOrchard$Tape;)Z -/
def P32 : List (Nat × List Instr) := [
  (0, [.aload_n 0, .getfield 320, .getfield 449, .bipush 6, .if_icmp .lt 9, .aload_n 1, .iconst 5, .invokevirtual 98, .ireturn]),
  (18, [.aload_n 1, .invokevirtual 90, .aload_n 0, .getfield 320, .getfield 449, .istore_n 2, .aload_n 0, .aload_n 1, .invokevirtual 31, .ifCond .ne 5, .iconst 0, .ireturn]),
  (40, [.aload_n 0, .getfield 320, .getfield 459, .iload_n 2, .aload_n 1, .getfield 643, .lastore, .aload_n 1, .invokevirtual 90, .aload_n 0, .getfield 320, .getfield 457, .iload_n 2, .aload_n 1, .ret 6, .invokevirtual 100, .iastore, .aload_n 1, .getfield 644, .ifCond .ne 12, .aload_n 1, .ret 7, .invokevirtual 101, .ifCond .ne 5, .iconst 0, .ireturn]),
  (88, [.iconst 0, .ireturn]),
  (90, [.aload_n 0, .getfield 320, .getfield 458, .iload_n 2, .aload_n 1, .iconst 0, .bipush 30, .invokevirtual 103, .iastore, .aload_n 0, .getfield 320, .dup, .getfield 449, .iconst 1, .iadd, .putfield 449, .aload_n 1, .getfield 644, .ifCond .ne 7, .iconst 1, .goto 4]),
  (130, [.iconst 0, .ireturn]),
  (131, [.ireturn])]
/-- ShoeOrchard$OrchardReader.readOnce(LShoeOrchard$Tape;I)Z -/
def P33 : List (Nat × List Instr) := [
  (0, [.aload_n 0, .getfield 321, .iload_n 2, .ishr, .iconst 1, .iand, .ifCond .eq 9, .aload_n 1, .iconst 3, .invokevirtual 98, .ireturn]),
  (17, [.aload_n 0, .dup, .getfield 321, .iconst 1, .iload_n 2, .ishl, .ior, .putfield 321, .aload_n 1, .invokevirtual 90, .iconst 1, .ireturn])]
/-- ShoeOrchard$OrchardReader.readPinch(LShoeOrchard$Tape;)Z -/
def P34 : List (Nat × List Instr) := [
  (0, [.aload_n 0, .getfield 320, .aload_n 1, .iconst 0, .iconst 5, .invokevirtual 103, .putfield 450, .aload_n 1, .getfield 644, .ifCond .ne 7, .iconst 1, .goto 4]),
  (24, [.iconst 0, .ireturn]),
  (25, [.ireturn])]
/-- ShoeOrchard$OrchardReader.readNoon(LShoeOrchard$Tape;)Z -/
def P35 : List (Nat × List Instr) := [
  (0, [.aload_n 0, .getfield 320, .aload_n 1, .iconst 1, .bipush 6, .invokevirtual 103, .putfield 451, .aload_n 1, .getfield 644, .ifCond .ne 7, .iconst 1, .goto 4]),
  (25, [.iconst 0, .ireturn]),
  (26, [.ireturn])]
/-- ShoeOrchard$OrchardReader.readFrosts(LShoeOrchard$Tape;)Z -/
def P36 : List (Nat × List Instr) := [
  (0, [.iconst 0, .istore_n 2]),
  (2, [.iload_n 2, .bipush 12, .if_icmp .ge 53, .aload_n 1, .iconst 0, .iconst 3, .invokevirtual 103, .istore_n 3, .iload_n 3, .iconst (-1), .if_icmp .ne 5, .iconst 0, .ireturn]),
  (22, [.aload_n 0, .getfield 320, .getfield 460, .iload_n 2, .iload_n 3, .iastore, .aload_n 0, .getfield 320, .iload_n 2, .iconst 1, .iadd, .putfield 452, .aload_n 1, .getfield 641, .iconst 2, .if_icmp .eq 5, .iconst 1, .ireturn]),
  (52, [.iinc 2 1, .goto (-53)]),
  (58, [.aload_n 1, .aload_n 1, .getfield 642, .iconst 3, .if_icmp .le 7, .iconst 4, .goto 4]),
  (71, [.iconst 5, .invokevirtual 98, .ireturn]),
  (72, [.invokevirtual 98, .ireturn])]
/-- ShoeOrchard$OrchardReader.readE(LShoeOrchard$Tape;I)Z -/
def P37 : List (Nat × List Instr) := [
  (0, [.aload_n 0, .aload_n 1, .iload_n 2, .invokevirtual 38, .ifCond .ne 5, .iconst 0, .ireturn]),
  (11, [.iconst 0, .istore_n 3]),
  (13, [.iload_n 3, .sipush 1000, .if_icmp .ge 70, .aload_n 1, .ret 10, .invokevirtual 102, .istore 4, .iload 4, .ifCond .ne 14, .aload_n 1, .ret 11, .invokevirtual 102, .ifCond .ne 5, .iconst 1, .ireturn]),
  (44, [.aload_n 1, .invokevirtual 90, .aload_n 0, .aload_n 1, .iload_n 2, .invokevirtual 38, .ifCond .ne 5, .iconst 0, .ireturn]),
  (59, [.aload_n 0, .getfield 320, .getfield 461, .iload 4, .ifCond .eq 8, .bipush (-2), .goto 5]),
  (76, [.bipush (-3), .invokevirtual 7, .iinc 3 1, .goto (-71)]),
  (78, [.invokevirtual 7, .iinc 3 1, .goto (-71)]),
  (87, [.iconst 1, .ireturn])]
/-- ShoeOrchard$OrchardReader.readTest(LShoeOrchard$Tape;I)Z -/
def P38 : List (Nat × List Instr) := [
  (0, [.aload_n 0, .aload_n 1, .iload_n 2, .invokevirtual 39, .ifCond .ne 5, .iconst 0, .ireturn]),
  (11, [.aload_n 1, .bipush 60, .invokevirtual 104, .istore_n 3, .iload_n 3, .ifCond .ne 14, .aload_n 1, .bipush 61, .invokevirtual 104, .ifCond .ne 5, .iconst 1, .ireturn]),
  (33, [.aload_n 1, .invokevirtual 90, .aload_n 0, .aload_n 1, .iload_n 2, .invokevirtual 39, .ifCond .ne 5, .iconst 0, .ireturn]),
  (48, [.aload_n 0, .getfield 320, .getfield 461, .iload_n 3, .ifCond .eq 8, .bipush (-4), .goto 5]),
  (64, [.bipush (-5), .invokevirtual 7, .iconst 1, .ireturn]),
  (66, [.invokevirtual 7, .iconst 1, .ireturn])]
/-- ShoeOrchard$OrchardReader.readSum(LShoeOrchard$Tape;I)Z -/
def P39 : List (Nat × List Instr) := [
  (0, [.aload_n 0, .aload_n 1, .iload_n 2, .invokevirtual 40, .ifCond .ne 5, .iconst 0, .ireturn]),
  (11, [.iconst 0, .istore_n 3]),
  (13, [.iload_n 3, .sipush 1000, .if_icmp .ge 70, .aload_n 1, .bipush 43, .invokevirtual 104, .istore 4, .iload 4, .ifCond .ne 14, .aload_n 1, .bipush 45, .invokevirtual 104, .ifCond .ne 5, .iconst 1, .ireturn]),
  (44, [.aload_n 1, .invokevirtual 90, .aload_n 0, .aload_n 1, .iload_n 2, .invokevirtual 40, .ifCond .ne 5, .iconst 0, .ireturn]),
  (59, [.aload_n 0, .getfield 320, .getfield 461, .iload 4, .ifCond .eq 8, .bipush (-6), .goto 5]),
  (76, [.bipush (-7), .invokevirtual 7, .iinc 3 1, .goto (-71)]),
  (78, [.invokevirtual 7, .iinc 3 1, .goto (-71)]),
  (87, [.iconst 1, .ireturn])]
/-- ShoeOrchard$OrchardReader.readProduct(LShoeOrchard$Tape;I)Z -/
def P40 : List (Nat × List Instr) := [
  (0, [.aload_n 0, .aload_n 1, .iload_n 2, .invokevirtual 41, .ifCond .ne 5, .iconst 0, .ireturn]),
  (11, [.iconst 0, .istore_n 3]),
  (13, [.iload_n 3, .sipush 1000, .if_icmp .ge 47, .aload_n 1, .bipush 42, .invokevirtual 104, .ifCond .ne 5, .iconst 1, .ireturn]),
  (31, [.aload_n 1, .invokevirtual 90, .aload_n 0, .aload_n 1, .iload_n 2, .invokevirtual 41, .ifCond .ne 5, .iconst 0, .ireturn]),
  (46, [.aload_n 0, .getfield 320, .getfield 461, .bipush (-8), .invokevirtual 7, .iinc 3 1, .goto (-48)]),
  (64, [.iconst 1, .ireturn])]
/-- ShoeOrchard$OrchardReader.readPart(LShoeOrchard$Tape;I)Z -/
def P41 : List (Nat × List Instr) := [
  (0, [.aload_n 1, .getfield 641, .iconst 2, .if_icmp .ne 7, .iconst 1, .goto 4]),
  (12, [.iconst 0, .istore_n 3, .aload_n 1, .ret 8, .invokevirtual 102, .istore 4, .aload_n 1, .bipush 40, .invokevirtual 104, .istore 5, .aload_n 1, .ret 9, .invokevirtual 96, .istore 6, .iload_n 3, .ifCond .ne 25, .iload 4, .ifCond .ne 20, .iload 5, .ifCond .ne 15, .iload 6, .iconst (-1), .if_icmp .ne 9, .aload_n 1, .iconst 1, .invokevirtual 98, .ireturn]),
  (13, [.istore_n 3, .aload_n 1, .ret 8, .invokevirtual 102, .istore 4, .aload_n 1, .bipush 40, .invokevirtual 104, .istore 5, .aload_n 1, .ret 9, .invokevirtual 96, .istore 6, .iload_n 3, .ifCond .ne 25, .iload 4, .ifCond .ne 20, .iload 5, .ifCond .ne 15, .iload 6, .iconst (-1), .if_icmp .ne 9, .aload_n 1, .iconst 1, .invokevirtual 98, .ireturn]),
  (64, [.iload_n 2, .iconst 5, .if_icmp .lt 9, .aload_n 1, .iconst 5, .invokevirtual 98, .ireturn]),
  (75, [.iload_n 3, .ifCond .eq 10, .aload_n 1, .getfield 642, .goto 8]),
  (86, [.bipush (-9), .iload 6, .isub, .istore 7, .aload_n 1, .invokevirtual 90, .iload 5, .ifCond .eq 29, .aload_n 0, .aload_n 1, .iload_n 2, .iconst 1, .iadd, .invokevirtual 37, .ifCond .eq 16, .aload_n 1, .bipush 41, .invokevirtual 105, .ifCond .eq 7, .iconst 1, .goto 4]),
  (91, [.istore 7, .aload_n 1, .invokevirtual 90, .iload 5, .ifCond .eq 29, .aload_n 0, .aload_n 1, .iload_n 2, .iconst 1, .iadd, .invokevirtual 37, .ifCond .eq 16, .aload_n 1, .bipush 41, .invokevirtual 105, .ifCond .eq 7, .iconst 1, .goto 4]),
  (126, [.iconst 0, .ireturn]),
  (127, [.ireturn]),
  (128, [.iload 4, .ifCond .eq 19, .aload_n 0, .aload_n 1, .iload_n 2, .iconst 1, .iadd, .invokevirtual 41, .ifCond .ne 5, .iconst 0, .ireturn]),
  (146, [.iconst (-1), .istore 7, .aload_n 0, .getfield 320, .getfield 461, .iload 7, .invokevirtual 7, .iconst 1, .ireturn]),
  (149, [.aload_n 0, .getfield 320, .getfield 461, .iload 7, .invokevirtual 7, .iconst 1, .ireturn])]
/-- ShoeOrchard$Past.<init>(LShoeOrchard$Plan;)V -/
def P42 : List (Nat × List Instr) := [
  (0, [.aload_n 0, .invokespecial 900, .aload_n 0, .bipush 16, .anewarray 18, .putfield 385, .aload_n 0, .iconst 4, .anewarray 18, .putfield 386, .aload_n 0, .iconst 4, .anewarray 17, .putfield 387, .aload_n 0, .iconst 4, .newarray .boolean, .putfield 388, .iconst 0, .istore_n 2]),
  (38, [.iload_n 2, .bipush 16, .if_icmp .ge 23, .aload_n 0, .getfield 385, .iload_n 2, .new 9, .dup, .aload_n 1, .invokespecial 67, .aastore, .iinc 2 1, .goto (-23)]),
  (64, [.iconst 0, .istore_n 2]),
  (66, [.iload_n 2, .iconst 4, .if_icmp .ge 36, .aload_n 0, .getfield 386, .iload_n 2, .new 9, .dup, .aload_n 1, .invokespecial 67, .aastore, .aload_n 0, .getfield 387, .iload_n 2, .new 0, .dup, .invokespecial 0, .aastore, .iinc 2 1, .goto (-35)]),
  (104, [.return_])]
/-- ShoeOrchard$Past.forgetAll()V -/
def P43 : List (Nat × List Instr) := [
  (0, [.aload_n 0, .iconst 0, .putfield 384, .iconst 0, .istore_n 1]),
  (7, [.iload_n 1, .iconst 4, .if_icmp .ge 16, .aload_n 0, .getfield 388, .iload_n 1, .iconst 0, .bastore, .iinc 1 1, .goto (-15)]),
  (25, [.return_])]
/-- ShoeOrchard$Past.keep(LShoeOrchard$State;)V -/
def P44 : List (Nat × List Instr) := [
  (0, [.aload_n 0, .getfield 384, .bipush 16, .if_icmp .lt 7, .aload_n 0, .invokevirtual 45, .aload_n 0, .getfield 385, .aload_n 0, .getfield 384, .aaload, .aload_n 1, .invokevirtual 75, .aload_n 0, .dup, .getfield 384, .iconst 1, .iadd, .putfield 384, .return_]),
  (13, [.aload_n 0, .getfield 385, .aload_n 0, .getfield 384, .aaload, .aload_n 1, .invokevirtual 75, .aload_n 0, .dup, .getfield 384, .iconst 1, .iadd, .putfield 384, .return_])]
/-- ShoeOrchard$Past.dropOldest()V -/
def P45 : List (Nat × List Instr) := [
  (0, [.aload_n 0, .getfield 385, .iconst 0, .aaload, .astore_n 1, .iconst 1, .istore_n 2]),
  (9, [.iload_n 2, .bipush 16, .if_icmp .ge 23, .aload_n 0, .getfield 385, .iload_n 2, .iconst 1, .isub, .aload_n 0, .getfield 385, .iload_n 2, .aaload, .aastore, .iinc 2 1, .goto (-23)]),
  (35, [.aload_n 0, .getfield 385, .bipush 15, .aload_n 1, .aastore, .aload_n 0, .bipush 15, .putfield 384, .return_])]
/-- ShoeOrchard$Past.bringBack(LShoeOrchard$State;)Z -/
def P46 : List (Nat × List Instr) := [
  (0, [.aload_n 0, .getfield 384, .iconst 1, .if_icmp .ge 5, .iconst 0, .ireturn]),
  (10, [.aload_n 0, .dup, .getfield 384, .iconst 1, .isub, .putfield 384, .aload_n 1, .aload_n 0, .getfield 385, .aload_n 0, .getfield 384, .aaload, .invokevirtual 75, .iconst 1, .ireturn])]
/-- ShoeOrchard$Past.goBack(ILShoeOrchard$State;LShoeOrchard$Felt;)Z -/
def P47 : List (Nat × List Instr) := [
  (0, [.iload_n 1, .ifCond .lt 17, .iload_n 1, .iconst 4, .if_icmp .ge 12, .aload_n 0, .getfield 388, .iload_n 1, .baload, .ifCond .ne 5, .iconst 0, .ireturn]),
  (18, [.iconst 0, .ireturn]),
  (20, [.aload_n 2, .aload_n 0, .getfield 386, .iload_n 1, .aaload, .invokevirtual 75, .aload_n 3, .aload_n 0, .getfield 387, .iload_n 1, .aaload, .invokevirtual 4, .aload_n 0, .iconst 0, .putfield 384, .iconst 1, .ireturn])]
/-- ShoeOrchard$Past.lay(ILShoeOrchard$State;LShoeOrchard$Felt;)V -/
def P48 : List (Nat × List Instr) := [
  (0, [.iload_n 1, .ifCond .lt 35, .iload_n 1, .iconst 4, .if_icmp .ge 30, .aload_n 0, .getfield 386, .iload_n 1, .aaload, .aload_n 2, .invokevirtual 75, .aload_n 0, .getfield 387, .iload_n 1, .aaload, .aload_n 3, .invokevirtual 4, .aload_n 0, .getfield 388, .iload_n 1, .iconst 1, .bastore, .return_]),
  (36, [.return_])]
/-- ShoeOrchard$Plan.<init>()V -/
def P49 : List (Nat × List Instr) := [
  (0, [.aload_n 0, .invokespecial 900, .aload_n 0, .bipush 6, .newarray .int, .putfield 453, .aload_n 0, .bipush 6, .newarray .int, .putfield 454, .aload_n 0, .bipush 6, .newarray .int, .putfield 455, .aload_n 0, .bipush 6, .newarray .long, .putfield 456, .aload_n 0, .bipush 6, .newarray .int, .putfield 457, .aload_n 0, .bipush 6, .newarray .int, .putfield 458, .aload_n 0, .bipush 6, .newarray .long, .putfield 459, .aload_n 0, .bipush 12, .newarray .int, .putfield 460, .aload_n 0, .new 1, .dup, .invokespecial 5, .putfield 461, .return_])]
/-- ShoeOrchard$Plan.clear()V -/
def P50 : List (Nat × List Instr) := [
  (0, [.aload_n 0, .iconst 0, .putfield 448, .aload_n 0, .iconst 0, .putfield 449, .aload_n 0, .iconst 1, .putfield 450, .aload_n 0, .iconst 3, .putfield 451, .aload_n 0, .iconst 0, .putfield 452, .aload_n 0, .getfield 461, .invokevirtual 6, .return_])]
/-- ShoeOrchard$Plan.treeNamed(J)I -/
def P51 : List (Nat × List Instr) := [
  (0, [.iconst 0, .istore_n 3]),
  (2, [.iload_n 3, .aload_n 0, .getfield 448, .if_icmp .ge 22, .aload_n 0, .getfield 456, .iload_n 3, .laload, .lload_n 1, .lcmp, .ifCond .ne 5, .iload_n 3, .ireturn]),
  (23, [.iinc 3 1, .goto (-24)]),
  (29, [.iconst (-1), .ireturn])]
/-- ShoeOrchard$Plan.personNamed(J)I -/
def P52 : List (Nat × List Instr) := [
  (0, [.iconst 0, .istore_n 3]),
  (2, [.iload_n 3, .aload_n 0, .getfield 449, .if_icmp .ge 22, .aload_n 0, .getfield 459, .iload_n 3, .laload, .lload_n 1, .lcmp, .ifCond .ne 5, .iload_n 3, .ireturn]),
  (23, [.iinc 3 1, .goto (-24)]),
  (29, [.iconst (-1), .ireturn])]
/-- ShoeOrchard$Plan.copy(LShoeOrchard$Plan;)V -/
def P53 : List (Nat × List Instr) := [
  (0, [.aload_n 0, .aload_n 1, .getfield 448, .putfield 448, .aload_n 0, .aload_n 1, .getfield 449, .putfield 449, .aload_n 0, .aload_n 1, .getfield 450, .putfield 450, .aload_n 0, .aload_n 1, .getfield 451, .putfield 451, .aload_n 0, .aload_n 1, .getfield 452, .putfield 452, .aload_n 1, .getfield 453, .iconst 0, .aload_n 0, .getfield 453, .iconst 0, .bipush 6, .invokestatic 900, .aload_n 1, .getfield 454, .iconst 0, .aload_n 0, .getfield 454, .iconst 0, .bipush 6, .invokestatic 900, .aload_n 1, .getfield 455, .iconst 0, .aload_n 0, .getfield 455, .iconst 0, .bipush 6, .invokestatic 900, .aload_n 1, .getfield 456, .iconst 0, .aload_n 0, .getfield 456, .iconst 0, .bipush 6, .invokestatic 901, .aload_n 1, .getfield 457, .iconst 0, .aload_n 0, .getfield 457, .iconst 0, .bipush 6, .invokestatic 900, .aload_n 1, .getfield 458, .iconst 0, .aload_n 0, .getfield 458, .iconst 0, .bipush 6, .invokestatic 900, .aload_n 1, .getfield 459, .iconst 0, .aload_n 0, .getfield 459, .iconst 0, .bipush 6, .invokestatic 901, .aload_n 1, .getfield 460, .iconst 0, .aload_n 0, .getfield 460, .iconst 0, .bipush 12, .invokestatic 900, .aload_n 0, .getfield 461, .aload_n 1, .getfield 461, .invokevirtual 8, .return_])]
/-- ShoeOrchard$Plan.isTree(I)Z -/
def P54 : List (Nat × List Instr) := [
  (0, [.iload_n 1, .ifCond .lt 15, .iload_n 1, .aload_n 0, .getfield 448, .if_icmp .ge 7, .iconst 1, .goto 4]),
  (16, [.iconst 0, .ireturn]),
  (17, [.ireturn])]
/-- ShoeOrchard$Plan.frostOf(I)I -/
def P55 : List (Nat × List Instr) := [
  (0, [.aload_n 0, .getfield 452, .iconst 1, .if_icmp .lt 7, .iload_n 1, .ifCond .ge 7, .iconst 0, .goto 14]),
  (12, [.iconst 0, .goto 14]),
  (16, [.aload_n 0, .getfield 460, .iload_n 1, .aload_n 0, .getfield 452, .irem, .iaload, .ireturn]),
  (27, [.ireturn])]
/-- ShoeOrchard$Plan.standsFrost(II)Z -/
def P56 : List (Nat × List Instr) := [
  (0, [.aload_n 0, .iload_n 1, .invokevirtual 54, .ifCond .eq 21, .iload_n 2, .getstatic 200, .aload_n 0, .getfield 453, .iload_n 1, .iaload, .iaload, .if_icmp .gt 7, .iconst 1, .goto 4]),
  (26, [.iconst 0, .ireturn]),
  (27, [.ireturn])]
/-- ShoeOrchard$Plan.sizeBy(III)I -/
def P57 : List (Nat × List Instr) := [
  (0, [.aload_n 0, .getfield 461, .iload_n 1, .iload_n 2, .aload_n 0, .iload_n 3, .invokevirtual 55, .iload_n 3, .invokevirtual 9, .istore 4, .iconst 0, .bipush 40, .iload 4, .invokestatic 287, .invokestatic 286, .ireturn])]
/-- ShoeOrchard$Plan.isPerson(I)Z -/
def P58 : List (Nat × List Instr) := [
  (0, [.iload_n 1, .ifCond .lt 15, .iload_n 1, .aload_n 0, .getfield 449, .if_icmp .ge 7, .iconst 1, .goto 4]),
  (16, [.iconst 0, .ireturn]),
  (17, [.ireturn])]
/-- ShoeOrchard$Plan.pinched(III)I -/
def P59 : List (Nat × List Instr) := [
  (0, [.aload_n 0, .iload_n 1, .invokevirtual 58, .ifCond .eq 12, .aload_n 0, .getfield 457, .iload_n 1, .iaload, .goto 4]),
  (17, [.iconst 0, .istore 4, .iload_n 3, .iload_n 2, .isub, .invokestatic 288, .istore 5, .iload 4, .iconst 2, .if_icmp .ne 18, .iload 5, .iconst 2, .iload_n 3, .imul, .iload_n 2, .isub, .invokestatic 288, .invokestatic 287, .istore 5, .iload 4, .iconst 3, .if_icmp .ne 12, .aload_n 0, .getfield 450, .iconst 1, .iadd, .goto 7]),
  (18, [.istore 4, .iload_n 3, .iload_n 2, .isub, .invokestatic 288, .istore 5, .iload 4, .iconst 2, .if_icmp .ne 18, .iload 5, .iconst 2, .iload_n 3, .imul, .iload_n 2, .isub, .invokestatic 288, .invokestatic 287, .istore 5, .iload 4, .iconst 3, .if_icmp .ne 12, .aload_n 0, .getfield 450, .iconst 1, .iadd, .goto 7]),
  (49, [.iload 4, .iconst 3, .if_icmp .ne 12, .aload_n 0, .getfield 450, .iconst 1, .iadd, .goto 7]),
  (64, [.aload_n 0, .getfield 450, .istore 6, .iconst 0, .iload 5, .iload 6, .isub, .invokestatic 286, .ireturn]),
  (68, [.istore 6, .iconst 0, .iload 5, .iload 6, .isub, .invokestatic 286, .ireturn])]
/-- ShoeOrchard$Plan.roadBy(I)I -/
def P60 : List (Nat × List Instr) := [
  (0, [.aload_n 0, .iload_n 1, .invokevirtual 54, .ifCond .eq 16, .getstatic 201, .aload_n 0, .getfield 453, .iload_n 1, .iaload, .iaload, .goto 4]),
  (21, [.iconst 0, .ireturn]),
  (22, [.ireturn])]
/-- ShoeOrchard$Queue.<init>()V -/
def P61 : List (Nat × List Instr) := [
  (0, [.aload_n 0, .invokespecial 900, .aload_n 0, .bipush 6, .newarray .int, .putfield 514, .aload_n 0, .bipush 6, .newarray .int, .putfield 517, .aload_n 0, .bipush 6, .newarray .int, .putfield 518, .aload_n 0, .bipush 6, .newarray .int, .putfield 519, .aload_n 0, .bipush 6, .newarray .int, .putfield 520, .return_])]
/-- ShoeOrchard$Queue.begin(II)V -/
def P62 : List (Nat × List Instr) := [
  (0, [.aload_n 0, .iconst 0, .putfield 512, .aload_n 0, .iload_n 1, .putfield 515, .aload_n 0, .bipush 6, .iload_n 2, .invokestatic 287, .putfield 516, .return_])]
/-- ShoeOrchard$Queue.add(III)V -/
def P63 : List (Nat × List Instr) := [
  (0, [.aload_n 0, .getfield 512, .bipush 6, .if_icmp .ge 43, .aload_n 0, .getfield 517, .aload_n 0, .getfield 512, .iload_n 1, .iastore, .aload_n 0, .getfield 518, .aload_n 0, .getfield 512, .iload_n 2, .iastore, .aload_n 0, .getfield 519, .aload_n 0, .getfield 512, .iload_n 3, .iastore, .aload_n 0, .dup, .getfield 512, .iconst 1, .iadd, .putfield 512, .return_]),
  (49, [.return_])]
/-- ShoeOrchard$Queue.solve(I)V -/
def P64 : List (Nat × List Instr) := [
  (0, [.aload_n 0, .iconst (-1), .putfield 513, .aload_n 0, .iconst 0, .iconst 0, .iload_n 1, .iconst 0, .invokevirtual 65, .return_])]
/-- ShoeOrchard$Queue.goOn(IIII)V -/
def P65 : List (Nat × List Instr) := [
  (0, [.iload_n 1, .aload_n 0, .getfield 512, .if_icmp .lt 36, .iload 4, .aload_n 0, .getfield 513, .if_icmp .le 26, .aload_n 0, .iload 4, .putfield 513, .aload_n 0, .getfield 520, .iconst 0, .aload_n 0, .getfield 514, .iconst 0, .aload_n 0, .getfield 512, .invokestatic 900, .return_]),
  (40, [.return_]),
  (41, [.iload 4, .aload_n 0, .getfield 512, .iadd, .iload_n 1, .isub, .aload_n 0, .getfield 513, .if_icmp .gt 4, .return_]),
  (58, [.iconst 0, .istore 5]),
  (61, [.iload 5, .aload_n 0, .getfield 512, .if_icmp .ge 90, .iload_n 2, .iload 5, .ishr, .iconst 1, .iand, .ifCond .ne 75, .aload_n 0, .getfield 520, .iload_n 1, .aload_n 0, .getfield 517, .iload 5, .iaload, .iastore, .aload_n 0, .iload 5, .iload_n 3, .invokevirtual 66, .istore 6, .iload 6, .iconst (-1), .if_icmp .ne 7, .iload_n 3, .goto 11]),
  (111, [.iload_n 3, .iconst 1, .iload 6, .ishl, .iconst (-1), .ixor, .iand, .istore 7, .aload_n 0, .iload_n 1, .iconst 1, .iadd, .iload_n 2, .iconst 1, .iload 5, .ishl, .ior, .iload 7, .iload 6, .iconst (-1), .if_icmp .ne 8, .iload 4, .goto 7]),
  (119, [.istore 7, .aload_n 0, .iload_n 1, .iconst 1, .iadd, .iload_n 2, .iconst 1, .iload 5, .ishl, .ior, .iload 7, .iload 6, .iconst (-1), .if_icmp .ne 8, .iload 4, .goto 7]),
  (144, [.iload 4, .iconst 1, .iadd, .invokevirtual 65, .iinc 5 1, .goto (-93)]),
  (148, [.invokevirtual 65, .iinc 5 1, .goto (-93)]),
  (151, [.iinc 5 1, .goto (-93)]),
  (157, [.return_])]
/-- ShoeOrchard$Queue.treeFor(II)I -/
def P66 : List (Nat × List Instr) := [
  (0, [.aload_n 0, .getfield 518, .iload_n 1, .iaload, .istore_n 3, .iconst 0, .istore 4]),
  (10, [.iload 4, .aload_n 0, .getfield 516, .if_icmp .ge 46, .iload_n 3, .aload_n 0, .getfield 515, .if_icmp .ge 38, .iload_n 2, .iload 4, .ishr, .iconst 1, .iand, .ifCond .eq 23, .iinc 3 1, .aload_n 0, .getfield 519, .iload_n 1, .iaload, .iload 4, .ishr, .iconst 1, .iand, .ifCond .eq 6, .iload 4, .ireturn]),
  (56, [.iinc 4 1, .goto (-49)]),
  (62, [.iconst (-1), .ireturn])]
/-- ShoeOrchard$State.<init>(LShoeOrchard$Plan;)V -/
def P67 : List (Nat × List Instr) := [
  (0, [.aload_n 0, .invokespecial 900, .aload_n 0, .bipush 6, .newarray .int, .putfield 577, .aload_n 0, .bipush 6, .newarray .int, .putfield 578, .aload_n 0, .bipush 6, .newarray .int, .putfield 579, .aload_n 0, .bipush 6, .newarray .int, .putfield 580, .aload_n 0, .bipush 6, .newarray .int, .putfield 581, .aload_n 0, .bipush 6, .newarray .int, .putfield 582, .aload_n 0, .bipush 6, .newarray .int, .putfield 583, .aload_n 0, .aload_n 1, .putfield 584, .return_])]
/-- ShoeOrchard$State.begin()V -/
def P68 : List (Nat × List Instr) := [
  (0, [.aload_n 0, .iconst 0, .putfield 576, .aload_n 0, .getfield 584, .getfield 454, .iconst 0, .aload_n 0, .getfield 577, .iconst 0, .bipush 6, .invokestatic 900, .aload_n 0, .getfield 584, .getfield 455, .iconst 0, .aload_n 0, .getfield 578, .iconst 0, .bipush 6, .invokestatic 900, .aload_n 0, .getfield 584, .getfield 458, .iconst 0, .aload_n 0, .getfield 579, .iconst 0, .bipush 6, .invokestatic 900, .aload_n 0, .getfield 583, .iconst 0, .invokestatic 284, .aload_n 0, .invokevirtual 69, .return_])]
/-- ShoeOrchard$State.beginMorning()V -/
def P69 : List (Nat × List Instr) := [
  (0, [.aload_n 0, .getfield 580, .iconst 0, .invokestatic 284, .aload_n 0, .getfield 581, .iconst (-1), .invokestatic 284, .aload_n 0, .getfield 582, .iconst (-1), .invokestatic 284, .return_])]
/-- ShoeOrchard$State.sizeOf(I)I -/
def P70 : List (Nat × List Instr) := [
  (0, [.aload_n 0, .iload_n 1, .invokevirtual 71, .ifCond .eq 29, .aload_n 0, .getfield 584, .aload_n 0, .getfield 577, .iload_n 1, .iaload, .aload_n 0, .getfield 578, .iload_n 1, .iaload, .aload_n 0, .getfield 576, .invokevirtual 57, .goto 4]),
  (34, [.iconst (-1), .ireturn]),
  (35, [.ireturn])]
/-- ShoeOrchard$State.bears(I)Z -/
def P71 : List (Nat × List Instr) := [
  (0, [.aload_n 0, .getfield 584, .iload_n 1, .aload_n 0, .getfield 584, .aload_n 0, .getfield 576, .invokevirtual 55, .invokevirtual 56, .ireturn])]
/-- ShoeOrchard$State.holders(I)I -/
def P72 : List (Nat × List Instr) := [
  (0, [.iconst 0, .istore_n 2, .iconst 0, .istore_n 3]),
  (4, [.iload_n 3, .aload_n 0, .getfield 584, .getfield 449, .if_icmp .ge 29, .iload_n 2, .aload_n 0, .getfield 581, .iload_n 3, .iaload, .iload_n 1, .if_icmp .ne 9, .iconst 1, .iload_n 3, .ishl, .goto 4]),
  (32, [.iconst 0, .ior, .istore_n 2, .iinc 3 1, .goto (-34)]),
  (33, [.ior, .istore_n 2, .iinc 3 1, .goto (-34)]),
  (41, [.iload_n 2, .ireturn])]
/-- ShoeOrchard$State.suits(II)Z -/
def P73 : List (Nat × List Instr) := [
  (0, [.aload_n 0, .getfield 584, .iload_n 1, .invokevirtual 58, .ifCond .eq 11, .aload_n 0, .iload_n 2, .invokevirtual 71, .ifCond .ne 5, .iconst 0, .ireturn]),
  (19, [.iconst 0, .ireturn]),
  (21, [.aload_n 0, .getfield 584, .aload_n 0, .getfield 577, .iload_n 2, .iaload, .aload_n 0, .getfield 578, .iload_n 2, .iaload, .aload_n 0, .getfield 576, .invokevirtual 57, .istore_n 3, .aload_n 0, .getfield 584, .iload_n 1, .aload_n 0, .getfield 579, .iload_n 1, .iaload, .iload_n 3, .invokevirtual 59, .ifCond .ne 7, .iconst 1, .goto 4]),
  (67, [.iconst 0, .ireturn]),
  (68, [.ireturn])]
/-- ShoeOrchard$State.canTry(II)Z -/
def P74 : List (Nat × List Instr) := [
  (0, [.aload_n 0, .getfield 584, .iload_n 1, .invokevirtual 58, .ifCond .eq 11, .aload_n 0, .iload_n 2, .invokevirtual 71, .ifCond .ne 5, .iconst 0, .ireturn]),
  (19, [.iconst 0, .ireturn]),
  (21, [.aload_n 0, .getfield 581, .iload_n 1, .iaload, .iconst (-1), .if_icmp .ne 31, .aload_n 0, .getfield 580, .iload_n 1, .iaload, .aload_n 0, .getfield 584, .getfield 451, .if_icmp .ge 15, .aload_n 0, .iload_n 2, .invokevirtual 72, .ifCond .ne 7, .iconst 1, .goto 4]),
  (59, [.iconst 0, .ireturn]),
  (60, [.ireturn])]
/-- ShoeOrchard$State.copy(LShoeOrchard$State;)V -/
def P75 : List (Nat × List Instr) := [
  (0, [.aload_n 0, .aload_n 1, .getfield 576, .putfield 576, .aload_n 1, .getfield 577, .iconst 0, .aload_n 0, .getfield 577, .iconst 0, .bipush 6, .invokestatic 900, .aload_n 1, .getfield 578, .iconst 0, .aload_n 0, .getfield 578, .iconst 0, .bipush 6, .invokestatic 900, .aload_n 1, .getfield 579, .iconst 0, .aload_n 0, .getfield 579, .iconst 0, .bipush 6, .invokestatic 900, .aload_n 1, .getfield 580, .iconst 0, .aload_n 0, .getfield 580, .iconst 0, .bipush 6, .invokestatic 900, .aload_n 1, .getfield 581, .iconst 0, .aload_n 0, .getfield 581, .iconst 0, .bipush 6, .invokestatic 900, .aload_n 1, .getfield 582, .iconst 0, .aload_n 0, .getfield 582, .iconst 0, .bipush 6, .invokestatic 900, .aload_n 1, .getfield 583, .iconst 0, .aload_n 0, .getfield 583, .iconst 0, .bipush 6, .invokestatic 900, .return_])]
/-- ShoeOrchard$State.attempt(II)Z -/
def P76 : List (Nat × List Instr) := [
  (0, [.aload_n 0, .iload_n 1, .iload_n 2, .invokevirtual 74, .ifCond .ne 5, .iconst 0, .ireturn]),
  (11, [.aload_n 0, .getfield 580, .iload_n 1, .dup2, .iaload, .iconst 1, .iadd, .iastore, .aload_n 0, .iload_n 1, .iload_n 2, .invokevirtual 73, .ifCond .ne 5, .iconst 0, .ireturn]),
  (32, [.aload_n 0, .iload_n 1, .iload_n 2, .invokevirtual 77, .iconst 1, .ireturn])]
/-- ShoeOrchard$State.putOn(II)V -/
def P77 : List (Nat × List Instr) := [
  (0, [.aload_n 0, .getfield 581, .iload_n 1, .iload_n 2, .iastore, .aload_n 0, .getfield 583, .iload_n 1, .dup2, .iaload, .aload_n 0, .getfield 584, .iload_n 2, .invokevirtual 60, .iadd, .iastore, .return_])]
/-- ShoeOrchard$State.canJoin(II)Z -/
def P78 : List (Nat × List Instr) := [
  (0, [.aload_n 0, .getfield 584, .iload_n 1, .invokevirtual 58, .ifCond .eq 19, .aload_n 0, .getfield 584, .iload_n 2, .invokevirtual 58, .ifCond .eq 8, .iload_n 1, .iload_n 2, .if_icmp .ne 5, .iconst 0, .ireturn]),
  (27, [.iconst 0, .ireturn]),
  (29, [.aload_n 0, .getfield 581, .iload_n 1, .iaload, .iconst (-1), .if_icmp .eq 27, .aload_n 0, .getfield 582, .iload_n 1, .iaload, .iconst (-1), .if_icmp .ne 17, .aload_n 0, .getfield 581, .iload_n 2, .iaload, .iconst (-1), .if_icmp .ne 7, .iconst 1, .goto 4]),
  (63, [.iconst 0, .istore_n 3, .iload_n 3, .ifCond .eq 21, .aload_n 0, .iload_n 2, .aload_n 0, .getfield 581, .iload_n 1, .iaload, .invokevirtual 73, .ifCond .eq 7, .iconst 1, .goto 4]),
  (64, [.istore_n 3, .iload_n 3, .ifCond .eq 21, .aload_n 0, .iload_n 2, .aload_n 0, .getfield 581, .iload_n 1, .iaload, .invokevirtual 73, .ifCond .eq 7, .iconst 1, .goto 4]),
  (87, [.iconst 0, .ireturn]),
  (88, [.ireturn])]
/-- ShoeOrchard$State.join(II)V -/
def P79 : List (Nat × List Instr) := [
  (0, [.aload_n 0, .getfield 584, .iload_n 1, .invokevirtual 58, .ifCond .eq 39, .aload_n 0, .getfield 584, .iload_n 2, .invokevirtual 58, .ifCond .eq 28, .aload_n 0, .iload_n 2, .aload_n 0, .getfield 581, .iload_n 1, .iaload, .invokevirtual 77, .aload_n 0, .getfield 582, .iload_n 1, .iload_n 2, .iastore, .aload_n 0, .getfield 582, .iload_n 2, .iload_n 1, .iastore, .return_]),
  (47, [.return_])]
/-- ShoeOrchard$State.blend(II)V -/
def P80 : List (Nat × List Instr) := [
  (0, [.aload_n 0, .getfield 584, .iload_n 1, .invokevirtual 54, .ifCond .eq 35, .aload_n 0, .getfield 584, .iload_n 2, .invokevirtual 54, .ifCond .eq 24, .aload_n 0, .getfield 577, .iload_n 1, .aload_n 0, .getfield 577, .iload_n 1, .iaload, .aload_n 0, .getfield 577, .iload_n 2, .iaload, .iadd, .iconst 2, .idiv, .iastore, .return_]),
  (43, [.return_])]
/-- ShoeOrchard$State.trim(I)V -/
def P81 : List (Nat × List Instr) := [
  (0, [.aload_n 0, .getfield 584, .iload_n 1, .invokevirtual 54, .ifCond .eq 21, .aload_n 0, .getfield 577, .iload_n 1, .iconst 0, .aload_n 0, .getfield 577, .iload_n 1, .iaload, .iconst 1, .isub, .invokestatic 286, .iastore, .return_]),
  (29, [.return_])]
/-- ShoeOrchard$State.passYear()V -/
def P82 : List (Nat × List Instr) := [
  (0, [.aload_n 0, .aload_n 0, .getfield 584, .aload_n 0, .getfield 576, .invokevirtual 55, .invokevirtual 83, .return_])]
/-- ShoeOrchard$State.passYearOf(I)V -/
def P83 : List (Nat × List Instr) := [
  (0, [.iconst 0, .istore_n 2]),
  (2, [.iload_n 2, .aload_n 0, .getfield 584, .getfield 448, .if_icmp .ge 45, .aload_n 0, .getfield 584, .iload_n 2, .iload_n 1, .invokevirtual 56, .ifCond .ne 8, .aload_n 0, .iload_n 2, .invokevirtual 81, .aload_n 0, .getfield 578, .iload_n 2, .bipush 99, .aload_n 0, .getfield 578, .iload_n 2, .iaload, .iconst 1, .iadd, .invokestatic 287, .iastore, .iinc 2 1, .goto (-50)]),
  (30, [.aload_n 0, .getfield 578, .iload_n 2, .bipush 99, .aload_n 0, .getfield 578, .iload_n 2, .iaload, .iconst 1, .iadd, .invokestatic 287, .iastore, .iinc 2 1, .goto (-50)]),
  (55, [.iconst 0, .istore_n 2]),
  (57, [.iload_n 2, .aload_n 0, .getfield 584, .getfield 449, .if_icmp .ge 41, .aload_n 0, .getfield 584, .getfield 457, .iload_n 2, .iaload, .iconst 1, .if_icmp .ne 22, .aload_n 0, .getfield 579, .iload_n 2, .bipush 40, .aload_n 0, .getfield 579, .iload_n 2, .iaload, .iconst 2, .iadd, .invokestatic 287, .iastore, .iinc 2 1, .goto (-46)]),
  (100, [.iinc 2 1, .goto (-46)]),
  (106, [.aload_n 0, .invokevirtual 69, .aload_n 0, .dup, .getfield 576, .iconst 1, .iadd, .putfield 576, .return_])]
/-- ShoeOrchard$State.allRoad()I -/
def P84 : List (Nat × List Instr) := [
  (0, [.iconst 0, .istore_n 1, .iconst 0, .istore_n 2]),
  (4, [.iload_n 2, .aload_n 0, .getfield 584, .getfield 449, .if_icmp .ge 18, .iload_n 1, .aload_n 0, .getfield 583, .iload_n 2, .iaload, .iadd, .istore_n 1, .iinc 2 1, .goto (-23)]),
  (30, [.iload_n 1, .ireturn])]
/-- ShoeOrchard$State.bearingTrees()I -/
def P85 : List (Nat × List Instr) := [
  (0, [.iconst 0, .istore_n 1, .iconst 0, .istore_n 2]),
  (4, [.iload_n 2, .aload_n 0, .getfield 584, .getfield 448, .if_icmp .ge 27, .iload_n 1, .aload_n 0, .iload_n 2, .invokevirtual 71, .ifCond .eq 9, .iconst 1, .iload_n 2, .ishl, .goto 4]),
  (30, [.iconst 0, .ior, .istore_n 1, .iinc 2 1, .goto (-32)]),
  (31, [.ior, .istore_n 1, .iinc 2 1, .goto (-32)]),
  (39, [.iload_n 1, .ireturn])]
/-- ShoeOrchard$State.shodPersons()I -/
def P86 : List (Nat × List Instr) := [
  (0, [.iconst 0, .istore_n 1, .iconst 0, .istore_n 2]),
  (4, [.iload_n 2, .aload_n 0, .getfield 584, .getfield 449, .if_icmp .ge 29, .iload_n 1, .aload_n 0, .getfield 581, .iload_n 2, .iaload, .iconst (-1), .if_icmp .eq 9, .iconst 1, .iload_n 2, .ishl, .goto 4]),
  (32, [.iconst 0, .ior, .istore_n 1, .iinc 2 1, .goto (-34)]),
  (33, [.ior, .istore_n 1, .iinc 2 1, .goto (-34)]),
  (41, [.iload_n 1, .ireturn])]
/-- ShoeOrchard$Tape.<init>()V -/
def P87 : List (Nat × List Instr) := [
  (0, [.aload_n 0, .invokespecial 900, .aload_n 0, .sipush 1000, .newarray .char, .putfield 645, .return_])]
/-- ShoeOrchard$Tape.add(I)V -/
def P88 : List (Nat × List Instr) := [
  (0, [.iload_n 1, .bipush 10, .if_icmp .eq 15, .iload_n 1, .bipush 32, .if_icmp .lt 13, .iload_n 1, .bipush 126, .if_icmp .gt 7, .iconst 1, .goto 4]),
  (18, [.iconst 1, .goto 4]),
  (22, [.iconst 0, .istore_n 2, .iload_n 2, .ifCond .eq 34, .aload_n 0, .getfield 640, .sipush 1000, .if_icmp .ge 24, .aload_n 0, .getfield 645, .aload_n 0, .getfield 640, .iload_n 1, .i2c, .castore, .aload_n 0, .dup, .getfield 640, .iconst 1, .iadd, .putfield 640, .return_]),
  (23, [.istore_n 2, .iload_n 2, .ifCond .eq 34, .aload_n 0, .getfield 640, .sipush 1000, .if_icmp .ge 24, .aload_n 0, .getfield 645, .aload_n 0, .getfield 640, .iload_n 1, .i2c, .castore, .aload_n 0, .dup, .getfield 640, .iconst 1, .iadd, .putfield 640, .return_]),
  (59, [.return_])]
/-- ShoeOrchard$Tape.beginReading()V -/
def P89 : List (Nat × List Instr) := [
  (0, [.aload_n 0, .iconst 0, .putfield 648, .aload_n 0, .iconst 0, .putfield 644, .aload_n 0, .invokevirtual 90, .return_])]
/-- ShoeOrchard$Tape.next()V -/
def P90 : List (Nat × List Instr) := [
  (0, [.aload_n 0, .getfield 648, .aload_n 0, .getfield 640, .if_icmp .ge 31, .aload_n 0, .getfield 645, .aload_n 0, .getfield 648, .caload, .invokestatic 91, .ifCond .eq 16, .aload_n 0, .dup, .getfield 648, .iconst 1, .iadd, .putfield 648, .goto (-36)]),
  (39, [.aload_n 0, .aload_n 0, .getfield 648, .putfield 647, .aload_n 0, .getfield 648, .aload_n 0, .getfield 640, .if_icmp .lt 11, .aload_n 0, .iconst 0, .putfield 641, .goto 91]),
  (66, [.aload_n 0, .getfield 645, .aload_n 0, .getfield 648, .caload, .invokestatic 92, .ifCond .eq 10, .aload_n 0, .invokevirtual 93, .goto 69]),
  (88, [.aload_n 0, .getfield 645, .aload_n 0, .getfield 648, .caload, .invokestatic 94, .ifCond .eq 10, .aload_n 0, .invokevirtual 95, .goto 47]),
  (110, [.aload_n 0, .aload_n 0, .getfield 645, .aload_n 0, .getfield 648, .caload, .putfield 646, .aload_n 0, .ret 0, .aload_n 0, .getfield 646, .invokevirtual 273, .ifCond .lt 7, .iconst 3, .goto 4]),
  (140, [.iconst 4, .putfield 641, .aload_n 0, .dup, .getfield 648, .iconst 1, .iadd, .putfield 648, .return_]),
  (141, [.putfield 641, .aload_n 0, .dup, .getfield 648, .iconst 1, .iadd, .putfield 648, .return_]),
  (154, [.return_])]
/-- ShoeOrchard$Tape.isBlank(C)Z -/
def P91 : List (Nat × List Instr) := [
  (0, [.iload_n 0, .bipush 10, .if_icmp .eq 9, .iload_n 0, .bipush 32, .if_icmp .ne 7, .iconst 1, .goto 4]),
  (12, [.iconst 1, .goto 4]),
  (16, [.iconst 0, .ireturn]),
  (17, [.ireturn])]
/-- ShoeOrchard$Tape.isLetter(C)Z -/
def P92 : List (Nat × List Instr) := [
  (0, [.iload_n 0, .bipush 97, .if_icmp .lt 13, .iload_n 0, .bipush 122, .if_icmp .gt 7, .iconst 1, .goto 4]),
  (16, [.iconst 0, .ireturn]),
  (17, [.ireturn])]
/-- ShoeOrchard$Tape.readWord()V -/
def P93 : List (Nat × List Instr) := [
  (0, [.aload_n 0, .lconst 0, .putfield 643]),
  (5, [.aload_n 0, .getfield 648, .aload_n 0, .getfield 640, .if_icmp .ge 59, .aload_n 0, .getfield 645, .aload_n 0, .getfield 648, .caload, .invokestatic 92, .ifCond .eq 44, .aload_n 0, .aload_n 0, .getfield 643, .jsr 32, .lmul, .aload_n 0, .getfield 645, .aload_n 0, .getfield 648, .caload, .bipush 97, .isub, .iconst 1, .iadd, .i2l, .ladd, .putfield 643, .aload_n 0, .dup, .getfield 648, .iconst 1, .iadd, .putfield 648, .goto (-64)]),
  (72, [.aload_n 0, .aload_n 0, .getfield 648, .aload_n 0, .getfield 647, .isub, .bipush 8, .if_icmp .gt 7, .iconst 1, .goto 4]),
  (91, [.iconst 4, .putfield 641, .return_]),
  (92, [.putfield 641, .return_])]
/-- ShoeOrchard$Tape.isDigit(C)Z -/
def P94 : List (Nat × List Instr) := [
  (0, [.iload_n 0, .bipush 48, .if_icmp .lt 13, .iload_n 0, .bipush 57, .if_icmp .gt 7, .iconst 1, .goto 4]),
  (16, [.iconst 0, .ireturn]),
  (17, [.ireturn])]
/-- ShoeOrchard$Tape.readNumber()V -/
def P95 : List (Nat × List Instr) := [
  (0, [.aload_n 0, .iconst 0, .putfield 642]),
  (5, [.aload_n 0, .getfield 648, .aload_n 0, .getfield 640, .if_icmp .ge 55, .aload_n 0, .getfield 645, .aload_n 0, .getfield 648, .caload, .invokestatic 94, .ifCond .eq 40, .aload_n 0, .aload_n 0, .getfield 642, .bipush 10, .imul, .aload_n 0, .getfield 645, .aload_n 0, .getfield 648, .caload, .bipush 48, .isub, .iadd, .putfield 642, .aload_n 0, .dup, .getfield 648, .iconst 1, .iadd, .putfield 648, .goto (-60)]),
  (68, [.aload_n 0, .aload_n 0, .getfield 648, .aload_n 0, .getfield 647, .isub, .iconst 4, .if_icmp .gt 7, .iconst 2, .goto 4]),
  (86, [.iconst 4, .putfield 641, .return_]),
  (87, [.putfield 641, .return_])]
/-- ShoeOrchard$Tape.among(Ljava/lang/String;)I -/
def P96 : List (Nat × List Instr) := [
  (0, [.aload_n 0, .getfield 641, .iconst 1, .if_icmp .eq 5, .iconst (-1), .ireturn]),
  (10, [.iconst 0, .istore_n 2, .iconst 0, .istore_n 3, .iconst 0, .istore 4]),
  (17, [.iload 4, .aload_n 1, .invokevirtual 276, .if_icmp .gt 50, .iload 4, .aload_n 1, .invokevirtual 276, .if_icmp .eq 14, .aload_n 1, .iload 4, .invokevirtual 278, .bipush 32, .if_icmp .ne 24, .aload_n 0, .aload_n 1, .iload_n 3, .iload 4, .invokevirtual 97, .ifCond .eq 5, .iload_n 2, .ireturn]),
  (46, [.aload_n 0, .aload_n 1, .iload_n 3, .iload 4, .invokevirtual 97, .ifCond .eq 5, .iload_n 2, .ireturn]),
  (59, [.iinc 2 1, .iload 4, .iconst 1, .iadd, .istore_n 3, .iinc 4 1, .goto (-53)]),
  (67, [.iinc 4 1, .goto (-53)]),
  (73, [.iconst (-1), .ireturn])]
/-- ShoeOrchard$Tape.isPartOf(Ljava/lang/String;II)Z -/
def P97 : List (Nat × List Instr) := [
  (0, [.iload_n 3, .iload_n 2, .isub, .aload_n 0, .getfield 648, .aload_n 0, .getfield 647, .isub, .if_icmp .eq 5, .iconst 0, .ireturn]),
  (17, [.iconst 0, .istore 4]),
  (20, [.iload 4, .iload_n 3, .iload_n 2, .isub, .if_icmp .ge 34, .aload_n 1, .iload_n 2, .iload 4, .iadd, .invokevirtual 278, .aload_n 0, .getfield 645, .aload_n 0, .getfield 647, .iload 4, .iadd, .caload, .if_icmp .eq 5, .iconst 0, .ireturn]),
  (53, [.iinc 4 1, .goto (-36)]),
  (59, [.iconst 1, .ireturn])]
/-- ShoeOrchard$Tape.wrong(I)Z -/
def P98 : List (Nat × List Instr) := [
  (0, [.aload_n 0, .getfield 644, .ifCond .ne 16, .aload_n 0, .iload_n 1, .bipush 16, .aload_n 0, .getfield 647, .imul, .iadd, .putfield 644, .iconst 0, .ireturn]),
  (20, [.iconst 0, .ireturn])]
/-- ShoeOrchard$Tape.isName()Z -/
def P99 : List (Nat × List Instr) := [
  (0, [.aload_n 0, .getfield 641, .iconst 1, .if_icmp .ne 17, .aload_n 0, .ret 2, .invokevirtual 96, .iconst (-1), .if_icmp .ne 7, .iconst 1, .goto 4]),
  (22, [.iconst 0, .ireturn]),
  (23, [.ireturn])]
/-- ShoeOrchard$Tape.takeAmong(Ljava/lang/String;)I -/
def P100 : List (Nat × List Instr) := [
  (0, [.aload_n 0, .aload_n 1, .invokevirtual 96, .istore_n 2, .iload_n 2, .iconst (-1), .if_icmp .ne 12, .aload_n 0, .iconst 1, .invokevirtual 98, .pop, .goto 7]),
  (20, [.aload_n 0, .invokevirtual 90, .iload_n 2, .ireturn]),
  (24, [.iload_n 2, .ireturn])]
/-- ShoeOrchard$Tape.takeWord(Ljava/lang/String;)Z -/
def P101 : List (Nat × List Instr) := [
  (0, [.aload_n 0, .aload_n 1, .invokevirtual 102, .ifCond .ne 9, .aload_n 0, .iconst 1, .invokevirtual 98, .ireturn]),
  (14, [.aload_n 0, .invokevirtual 90, .iconst 1, .ireturn])]
/-- ShoeOrchard$Tape.isWord(Ljava/lang/String;)Z -/
def P102 : List (Nat × List Instr) := [
  (0, [.aload_n 0, .getfield 641, .iconst 1, .if_icmp .ne 20, .aload_n 0, .aload_n 1, .iconst 0, .aload_n 1, .invokevirtual 276, .invokevirtual 97, .ifCond .eq 7, .iconst 1, .goto 4]),
  (25, [.iconst 0, .ireturn]),
  (26, [.ireturn])]
/-- ShoeOrchard$Tape.takeNumber(II)I -/
def P103 : List (Nat × List Instr) := [
  (0, [.aload_n 0, .getfield 641, .iconst 2, .if_icmp .eq 11, .aload_n 0, .iconst 1, .invokevirtual 98, .pop, .iconst (-1), .ireturn]),
  (16, [.aload_n 0, .getfield 642, .iload_n 1, .if_icmp .lt 11, .aload_n 0, .getfield 642, .iload_n 2, .if_icmp .le 11, .aload_n 0, .iconst 4, .invokevirtual 98, .pop, .iconst (-1), .ireturn]),
  (32, [.aload_n 0, .iconst 4, .invokevirtual 98, .pop, .iconst (-1), .ireturn]),
  (40, [.aload_n 0, .getfield 642, .istore_n 3, .aload_n 0, .invokevirtual 90, .iload_n 3, .ireturn])]
/-- ShoeOrchard$Tape.isSign(C)Z -/
def P104 : List (Nat × List Instr) := [
  (0, [.aload_n 0, .getfield 641, .iconst 3, .if_icmp .ne 15, .aload_n 0, .getfield 646, .iload_n 1, .if_icmp .ne 7, .iconst 1, .goto 4]),
  (20, [.iconst 0, .ireturn]),
  (21, [.ireturn])]
/-- ShoeOrchard$Tape.takeSign(C)Z -/
def P105 : List (Nat × List Instr) := [
  (0, [.aload_n 0, .iload_n 1, .invokevirtual 104, .ifCond .ne 9, .aload_n 0, .iconst 1, .invokevirtual 98, .ireturn]),
  (14, [.aload_n 0, .invokevirtual 90, .iconst 1, .ireturn])]
/-- ShoeOrchard$Tape.clear()V -/
def P106 : List (Nat × List Instr) := [
  (0, [.aload_n 0, .iconst 0, .putfield 640, .return_])]
/-- ShoeOrchard.<init>()V -/
def P107 : List (Nat × List Instr) := [
  (0, [.aload_n 0, .invokespecial 900, .aload_n 0, .new 10, .dup, .invokespecial 87, .putfield 704, .aload_n 0, .new 7, .dup, .invokespecial 49, .putfield 705, .aload_n 0, .new 2, .dup, .invokespecial 12, .putfield 706, .aload_n 0, .new 5, .dup, .invokespecial 27, .putfield 707, .aload_n 0, .new 4, .dup, .invokespecial 23, .putfield 708, .aload_n 0, .new 9, .dup, .aload_n 0, .getfield 705, .invokespecial 67, .putfield 709, .aload_n 0, .new 9, .dup, .aload_n 0, .getfield 705, .invokespecial 67, .putfield 710, .aload_n 0, .new 6, .dup, .aload_n 0, .getfield 705, .invokespecial 42, .putfield 711, .aload_n 0, .new 0, .dup, .invokespecial 0, .putfield 712, .aload_n 0, .new 3, .dup, .invokespecial 17, .putfield 713, .aload_n 0, .new 8, .dup, .invokespecial 61, .putfield 714, .aload_n 0, .bipush 6, .newarray .int, .putfield 715, .aload_n 0, .bipush 6, .newarray .long, .putfield 716, .aload_n 0, .getfield 705, .invokevirtual 50, .aload_n 0, .getfield 709, .invokevirtual 68, .return_])]
/-- ShoeOrchard.feed(JJJ)I -/
def P108 : List (Nat × List Instr) := [
  (0, [.aload_n 0, .lload_n 1, .invokevirtual 109, .aload_n 0, .lload_n 3, .invokevirtual 109, .aload_n 0, .lload 5, .invokevirtual 109, .aload_n 0, .getfield 704, .getfield 640, .ireturn])]
/-- ShoeOrchard.feedBytes(J)V -/
def P109 : List (Nat × List Instr) := [
  (0, [.bipush 56, .istore_n 3]),
  (3, [.iload_n 3, .ifCond .lt 24, .aload_n 0, .getfield 704, .lload_n 1, .iload_n 3, .lushr, .jsr 255, .land, .l2i, .invokevirtual 88, .iinc 3 (-8), .goto (-22)]),
  (28, [.return_])]
/-- ShoeOrchard.orchard()I -/
def P110 : List (Nat × List Instr) := [
  (0, [.aload_n 0, .getfield 707, .aload_n 0, .getfield 704, .invokevirtual 28, .istore_n 1, .aload_n 0, .getfield 704, .invokevirtual 106, .iload_n 1, .ifCond .eq 5, .iload_n 1, .ireturn]),
  (25, [.aload_n 0, .getfield 705, .aload_n 0, .getfield 707, .getfield 320, .invokevirtual 53, .aload_n 0, .getfield 709, .invokevirtual 68, .aload_n 0, .getfield 706, .invokevirtual 13, .aload_n 0, .getfield 712, .invokevirtual 1, .aload_n 0, .getfield 711, .invokevirtual 43, .iconst 0, .ireturn])]
/-- ShoeOrchard.morning()I -/
def P111 : List (Nat × List Instr) := [
  (0, [.aload_n 0, .getfield 708, .aload_n 0, .getfield 704, .aload_n 0, .getfield 705, .invokevirtual 24, .istore_n 1, .aload_n 0, .getfield 704, .invokevirtual 106, .iload_n 1, .ifCond .ne 17, .aload_n 0, .getfield 706, .aload_n 0, .getfield 708, .getfield 256, .invokevirtual 15, .iload_n 1, .ireturn]),
  (41, [.iload_n 1, .ireturn])]
/-- ShoeOrchard.tree(II)I -/
def P112 : List (Nat × List Instr) := [
  (0, [.aload_n 0, .getfield 705, .iload_n 1, .invokevirtual 54, .ifCond .ne 6, .bipush (-2), .ireturn]),
  (14, [.iload_n 2, .tableswitch 81 0 4 #[33, 43, 53, 63, 72]]),
  (48, [.aload_n 0, .getfield 705, .getfield 453, .iload_n 1, .iaload, .ireturn]),
  (58, [.aload_n 0, .getfield 709, .getfield 577, .iload_n 1, .iaload, .ireturn]),
  (68, [.aload_n 0, .getfield 709, .getfield 578, .iload_n 1, .iaload, .ireturn]),
  (78, [.aload_n 0, .getfield 709, .iload_n 1, .invokevirtual 70, .ireturn]),
  (87, [.aload_n 0, .getfield 709, .iload_n 1, .invokevirtual 72, .ireturn]),
  (96, [.bipush (-2), .ireturn])]
/-- ShoeOrchard.person(II)I -/
def P113 : List (Nat × List Instr) := [
  (0, [.aload_n 0, .getfield 705, .iload_n 1, .invokevirtual 58, .ifCond .ne 6, .bipush (-2), .ireturn]),
  (14, [.iload_n 2, .tableswitch 97 0 5 #[37, 47, 57, 67, 77, 87]]),
  (52, [.aload_n 0, .getfield 705, .getfield 457, .iload_n 1, .iaload, .ireturn]),
  (62, [.aload_n 0, .getfield 709, .getfield 579, .iload_n 1, .iaload, .ireturn]),
  (72, [.aload_n 0, .getfield 709, .getfield 581, .iload_n 1, .iaload, .ireturn]),
  (82, [.aload_n 0, .getfield 709, .getfield 580, .iload_n 1, .iaload, .ireturn]),
  (92, [.aload_n 0, .getfield 709, .getfield 583, .iload_n 1, .iaload, .ireturn]),
  (102, [.aload_n 0, .getfield 709, .getfield 582, .iload_n 1, .iaload, .ireturn]),
  (112, [.bipush (-2), .ireturn])]
/-- ShoeOrchard.fits(II)Z -/
def P114 : List (Nat × List Instr) := [
  (0, [.aload_n 0, .getfield 709, .iload_n 1, .iload_n 2, .invokevirtual 73, .ireturn])]
/-- ShoeOrchard.tryOn(II)I -/
def P115 : List (Nat × List Instr) := [
  (0, [.aload_n 0, .getfield 709, .iload_n 1, .iload_n 2, .invokevirtual 74, .ifCond .ne 5, .iconst (-1), .ireturn]),
  (14, [.aload_n 0, .getfield 711, .aload_n 0, .getfield 709, .invokevirtual 44, .aload_n 0, .getfield 709, .iload_n 1, .iload_n 2, .invokevirtual 76, .ifCond .eq 7, .iconst 1, .goto 4]),
  (41, [.iconst 0, .ireturn]),
  (42, [.ireturn])]
/-- ShoeOrchard.share(II)Z -/
def P116 : List (Nat × List Instr) := [
  (0, [.aload_n 0, .getfield 709, .iload_n 1, .iload_n 2, .invokevirtual 78, .ifCond .ne 5, .iconst 0, .ireturn]),
  (14, [.aload_n 0, .getfield 711, .aload_n 0, .getfield 709, .invokevirtual 44, .aload_n 0, .getfield 709, .iload_n 1, .iload_n 2, .invokevirtual 79, .iconst 1, .ireturn])]
/-- ShoeOrchard.graft(II)I -/
def P117 : List (Nat × List Instr) := [
  (0, [.aload_n 0, .getfield 705, .iload_n 1, .invokevirtual 54, .ifCond .eq 19, .aload_n 0, .getfield 705, .iload_n 2, .invokevirtual 54, .ifCond .eq 8, .iload_n 1, .iload_n 2, .if_icmp .ne 5, .iconst (-1), .ireturn]),
  (27, [.iconst (-1), .ireturn]),
  (29, [.aload_n 0, .getfield 711, .aload_n 0, .getfield 709, .invokevirtual 44, .aload_n 0, .getfield 709, .iload_n 1, .iload_n 2, .invokevirtual 80, .aload_n 0, .getfield 709, .getfield 577, .iload_n 1, .iaload, .ireturn])]
/-- ShoeOrchard.prune(I)I -/
def P118 : List (Nat × List Instr) := [
  (0, [.aload_n 0, .getfield 705, .iload_n 1, .invokevirtual 54, .ifCond .ne 5, .iconst (-1), .ireturn]),
  (13, [.aload_n 0, .getfield 711, .aload_n 0, .getfield 709, .invokevirtual 44, .aload_n 0, .getfield 709, .iload_n 1, .invokevirtual 81, .aload_n 0, .getfield 709, .getfield 577, .iload_n 1, .iaload, .ireturn])]
/-- ShoeOrchard.year()I -/
def P119 : List (Nat × List Instr) := [
  (0, [.aload_n 0, .getfield 711, .aload_n 0, .getfield 709, .invokevirtual 44, .aload_n 0, .getfield 709, .invokevirtual 82, .aload_n 0, .getfield 709, .getfield 576, .ireturn])]
/-- ShoeOrchard.undo()Z -/
def P120 : List (Nat × List Instr) := [
  (0, [.aload_n 0, .getfield 711, .aload_n 0, .getfield 709, .invokevirtual 46, .ireturn])]
/-- ShoeOrchard.judged(I)I -/
def P121 : List (Nat × List Instr) := [
  (0, [.iload_n 1, .ifCond .lt 8, .iload_n 1, .iconst 2, .if_icmp .le 6, .bipush (-2), .ireturn]),
  (9, [.bipush (-2), .ireturn]),
  (12, [.aload_n 0, .getfield 710, .invokevirtual 68, .iconst (-1), .istore_n 2, .iconst (-1), .istore_n 3, .iconst 0, .istore 4]),
  (26, [.iload 4, .aload_n 0, .getfield 706, .getfield 128, .if_icmp .ge 51, .aload_n 0, .getfield 706, .iload 4, .aload_n 0, .getfield 710, .invokevirtual 16, .istore 5, .iload 5, .iconst (-1), .if_icmp .ne 11, .iload_n 2, .iconst (-1), .if_icmp .ne 6, .iload 4, .istore_n 2, .iload 5, .ifCond .ne 11, .iload_n 3, .iconst (-1), .if_icmp .ne 6, .iload 4, .istore_n 3, .iinc 4 1, .goto (-57)]),
  (67, [.iload 5, .ifCond .ne 11, .iload_n 3, .iconst (-1), .if_icmp .ne 6, .iload 4, .istore_n 3, .iinc 4 1, .goto (-57)]),
  (80, [.iinc 4 1, .goto (-57)]),
  (86, [.iload_n 1, .ifCond .ne 5, .iload_n 2, .ireturn]),
  (92, [.iload_n 1, .iconst 1, .if_icmp .ne 7, .iload_n 3, .goto 10]),
  (101, [.aload_n 0, .getfield 710, .invokevirtual 84, .ireturn]),
  (108, [.ireturn])]
/-- ShoeOrchard.fitted(I)I -/
def P122 : List (Nat × List Instr) := [
  (0, [.aload_n 0, .getfield 705, .iload_n 1, .invokevirtual 58, .ifCond .ne 5, .iconst (-1), .ireturn]),
  (13, [.aload_n 0, .aload_n 0, .getfield 709, .invokevirtual 123, .aload_n 0, .aload_n 0, .getfield 709, .iload_n 1, .invokevirtual 124, .ireturn])]
/-- ShoeOrchard.measure(LShoeOrchard$State;)V -/
def P123 : List (Nat × List Instr) := [
  (0, [.iconst 0, .istore_n 2]),
  (2, [.iload_n 2, .aload_n 0, .getfield 705, .getfield 448, .if_icmp .ge 20, .aload_n 0, .getfield 715, .iload_n 2, .aload_n 1, .iload_n 2, .invokevirtual 70, .iastore, .iinc 2 1, .goto (-25)]),
  (30, [.return_])]
/-- ShoeOrchard.fittingTrees(LShoeOrchard$State;I)I -/
def P124 : List (Nat × List Instr) := [
  (0, [.iconst 0, .istore_n 3, .iconst 0, .istore 4]),
  (5, [.iload 4, .aload_n 0, .getfield 705, .getfield 448, .if_icmp .ge 51, .aload_n 0, .getfield 715, .iload 4, .iaload, .iconst (-1), .if_icmp .eq 34, .aload_n 0, .getfield 705, .iload_n 2, .aload_n 1, .getfield 579, .iload_n 2, .iaload, .aload_n 0, .getfield 715, .iload 4, .iaload, .invokevirtual 59, .ifCond .ne 10, .iload_n 3, .iconst 1, .iload 4, .ishl, .ior, .istore_n 3, .iinc 4 1, .goto (-57)]),
  (59, [.iinc 4 1, .goto (-57)]),
  (65, [.iload_n 3, .ireturn])]
/-- ShoeOrchard.wearers(I)I -/
def P125 : List (Nat × List Instr) := [
  (0, [.aload_n 0, .getfield 709, .iload_n 1, .invokevirtual 71, .ifCond .ne 5, .iconst (-1), .ireturn]),
  (13, [.aload_n 0, .aload_n 0, .getfield 709, .iload_n 1, .invokevirtual 70, .invokevirtual 126, .ireturn])]
/-- ShoeOrchard.fittingPersons(I)I -/
def P126 : List (Nat × List Instr) := [
  (0, [.iconst 0, .istore_n 2, .iconst 0, .istore_n 3]),
  (4, [.iload_n 3, .aload_n 0, .getfield 705, .getfield 449, .if_icmp .ge 36, .aload_n 0, .getfield 705, .iload_n 3, .aload_n 0, .getfield 709, .getfield 579, .iload_n 3, .iaload, .iload_n 1, .invokevirtual 59, .ifCond .ne 9, .iload_n 2, .iconst 1, .iload_n 3, .ishl, .ior, .istore_n 2, .iinc 3 1, .goto (-41)]),
  (42, [.iinc 3 1, .goto (-41)]),
  (48, [.iload_n 2, .ireturn])]
/-- ShoeOrchard.shoes(I)I -/
def P127 : List (Nat × List Instr) := [
  (0, [.aload_n 0, .iload_n 1, .iconst 0, .invokevirtual 128, .ireturn])]
/-- ShoeOrchard.matched(IZ)I -/
def P128 : List (Nat × List Instr) := [
  (0, [.iload_n 1, .iconst (-1), .if_icmp .eq 17, .aload_n 0, .getfield 705, .iload_n 1, .invokevirtual 58, .ifCond .ne 6, .bipush (-2), .ireturn]),
  (19, [.aload_n 0, .aload_n 0, .getfield 709, .invokevirtual 123, .aload_n 0, .invokevirtual 129, .istore_n 3, .aload_n 0, .getfield 713, .aload_n 0, .getfield 705, .getfield 449, .aload_n 0, .getfield 705, .getfield 448, .invokevirtual 18, .iconst 0, .istore 4]),
  (56, [.iload 4, .aload_n 0, .getfield 705, .getfield 448, .if_icmp .ge 36, .aload_n 0, .getfield 713, .getfield 194, .iload 4, .iload_n 2, .ifCond .eq 15, .aload_n 0, .getfield 705, .iload 4, .invokevirtual 60, .goto 4]),
  (93, [.iconst 1, .iastore, .iinc 4 1, .goto (-42)]),
  (94, [.iastore, .iinc 4 1, .goto (-42)]),
  (101, [.iconst 0, .istore 4]),
  (104, [.iload 4, .aload_n 0, .getfield 705, .getfield 449, .if_icmp .ge 61, .aload_n 0, .getfield 709, .getfield 581, .iload 4, .iaload, .iconst (-1), .if_icmp .ne 7, .iconst 1, .goto 4]),
  (134, [.iconst 0, .istore 5, .aload_n 0, .getfield 713, .getfield 193, .iload 4, .iload 5, .ifCond .eq 18, .aload_n 0, .aload_n 0, .getfield 709, .iload 4, .invokevirtual 124, .iload_n 3, .iand, .goto 4]),
  (135, [.istore 5, .aload_n 0, .getfield 713, .getfield 193, .iload 4, .iload 5, .ifCond .eq 18, .aload_n 0, .aload_n 0, .getfield 709, .iload 4, .invokevirtual 124, .iload_n 3, .iand, .goto 4]),
  (166, [.iconst 0, .iastore, .iinc 4 1, .goto (-67)]),
  (167, [.iastore, .iinc 4 1, .goto (-67)]),
  (174, [.aload_n 0, .getfield 713, .invokevirtual 19, .iload_n 1, .iconst (-1), .if_icmp .ne 13, .aload_n 0, .getfield 713, .getfield 192, .goto 12]),
  (196, [.aload_n 0, .getfield 713, .getfield 195, .iload_n 1, .iaload, .ireturn]),
  (205, [.ireturn])]
/-- ShoeOrchard.freeTrees()I -/
def P129 : List (Nat × List Instr) := [
  (0, [.aload_n 0, .getfield 709, .invokevirtual 85, .istore_n 1, .iconst 0, .istore_n 2]),
  (10, [.iload_n 2, .aload_n 0, .getfield 705, .getfield 448, .if_icmp .ge 28, .aload_n 0, .getfield 709, .iload_n 2, .invokevirtual 72, .ifCond .eq 11, .iload_n 1, .iconst 1, .iload_n 2, .ishl, .iconst (-1), .ixor, .iand, .istore_n 1, .iinc 2 1, .goto (-33)]),
  (40, [.iinc 2 1, .goto (-33)]),
  (46, [.iload_n 1, .ireturn])]
/-- ShoeOrchard.roads(I)I -/
def P130 : List (Nat × List Instr) := [
  (0, [.aload_n 0, .iload_n 1, .iconst 1, .invokevirtual 128, .ireturn])]
/-- ShoeOrchard.order(I)I -/
def P131 : List (Nat × List Instr) := [
  (0, [.aload_n 0, .aload_n 0, .getfield 709, .invokevirtual 123, .aload_n 0, .getfield 714, .aload_n 0, .getfield 705, .getfield 451, .aload_n 0, .getfield 705, .getfield 448, .invokevirtual 62, .iconst 0, .istore_n 2]),
  (31, [.iload_n 2, .aload_n 0, .getfield 705, .getfield 449, .if_icmp .ge 48, .aload_n 0, .getfield 709, .getfield 581, .iload_n 2, .iaload, .iconst (-1), .if_icmp .ne 29, .aload_n 0, .getfield 714, .iload_n 2, .aload_n 0, .getfield 709, .getfield 580, .iload_n 2, .iaload, .aload_n 0, .aload_n 0, .getfield 709, .iload_n 2, .invokevirtual 124, .invokevirtual 63, .iinc 2 1, .goto (-53)]),
  (81, [.iinc 2 1, .goto (-53)]),
  (87, [.aload_n 0, .getfield 714, .aload_n 0, .invokevirtual 129, .invokevirtual 64, .iload_n 1, .iconst (-1), .if_icmp .ne 11, .aload_n 0, .getfield 714, .getfield 513, .ireturn]),
  (111, [.iload_n 1, .ifCond .lt 26, .iload_n 1, .aload_n 0, .getfield 714, .getfield 512, .if_icmp .ge 15, .aload_n 0, .getfield 714, .getfield 514, .iload_n 1, .iaload, .goto 5]),
  (138, [.bipush (-2), .ireturn]),
  (140, [.ireturn])]
/-- ShoeOrchard.mends(I)I -/
def P132 : List (Nat × List Instr) := [
  (0, [.aload_n 0, .getfield 705, .iload_n 1, .invokevirtual 58, .ifCond .ne 5, .iconst (-1), .ireturn]),
  (13, [.aload_n 0, .iload_n 1, .invokevirtual 133, .aload_n 0, .getfield 710, .aload_n 0, .getfield 709, .invokevirtual 75, .iconst 0, .istore_n 2]),
  (31, [.iload_n 2, .iconst 2, .if_icmp .gt 19, .aload_n 0, .iload_n 2, .invokevirtual 135, .ifCond .eq 5, .iload_n 2, .ireturn]),
  (46, [.iinc 2 1, .goto (-18)]),
  (52, [.iconst (-1), .ireturn])]
/-- ShoeOrchard.findFittingLasts(I)V -/
def P133 : List (Nat × List Instr) := [
  (0, [.iconst 0, .istore_n 2]),
  (2, [.iload_n 2, .aload_n 0, .getfield 705, .getfield 448, .if_icmp .ge 36, .aload_n 0, .getfield 716, .iload_n 2, .aload_n 0, .getfield 709, .iload_n 2, .invokevirtual 71, .ifCond .eq 12, .aload_n 0, .iload_n 1, .iload_n 2, .invokevirtual 134, .goto 4]),
  (38, [.lconst 0, .lastore, .iinc 2 1, .goto (-41)]),
  (39, [.lastore, .iinc 2 1, .goto (-41)]),
  (46, [.return_])]
/-- ShoeOrchard.lastsThatFit(II)J -/
def P134 : List (Nat × List Instr) := [
  (0, [.lconst 0, .lstore_n 3, .iconst 0, .istore 5]),
  (5, [.iload 5, .bipush 30, .if_icmp .gt 65, .aload_n 0, .getfield 705, .iload 5, .aload_n 0, .getfield 709, .getfield 578, .iload_n 2, .iaload, .aload_n 0, .getfield 709, .getfield 576, .invokevirtual 57, .istore 6, .aload_n 0, .getfield 705, .iload_n 1, .aload_n 0, .getfield 709, .getfield 579, .iload_n 1, .iaload, .iload 6, .invokevirtual 59, .ifCond .ne 10, .lload_n 3, .lconst 1, .iload 5, .lshl, .lor, .lstore_n 3, .iinc 5 1, .goto (-66)]),
  (68, [.iinc 5 1, .goto (-66)]),
  (74, [.lload_n 3, .lreturn])]
/-- ShoeOrchard.mendable(I)Z -/
def P135 : List (Nat × List Instr) := [
  (0, [.aload_n 0, .invokevirtual 136, .ifCond .eq 5, .iconst 1, .ireturn]),
  (9, [.iload_n 1, .ifCond .gt 5, .iconst 0, .ireturn]),
  (15, [.iconst 0, .istore_n 2]),
  (17, [.iload_n 2, .aload_n 0, .getfield 705, .getfield 448, .if_icmp .ge 93, .aload_n 0, .getfield 710, .getfield 577, .iload_n 2, .iaload, .istore_n 3, .iconst 0, .istore 4]),
  (41, [.iload 4, .aload_n 0, .getfield 705, .getfield 448, .if_icmp .ge 62, .iload 4, .iload_n 2, .if_icmp .ne 14, .aload_n 0, .getfield 710, .iload_n 2, .invokevirtual 81, .goto 13]),
  (70, [.aload_n 0, .getfield 710, .iload_n 2, .iload 4, .invokevirtual 80, .aload_n 0, .iload_n 1, .iconst 1, .isub, .invokevirtual 135, .istore 5, .aload_n 0, .getfield 710, .getfield 577, .iload_n 2, .iload_n 3, .iastore, .iload 5, .ifCond .eq 5, .iconst 1, .ireturn]),
  (80, [.aload_n 0, .iload_n 1, .iconst 1, .isub, .invokevirtual 135, .istore 5, .aload_n 0, .getfield 710, .getfield 577, .iload_n 2, .iload_n 3, .iastore, .iload 5, .ifCond .eq 5, .iconst 1, .ireturn]),
  (106, [.iinc 4 1, .goto (-68)]),
  (112, [.iinc 2 1, .goto (-98)]),
  (118, [.iconst 0, .ireturn])]
/-- ShoeOrchard.someLastFits()Z -/
def P136 : List (Nat × List Instr) := [
  (0, [.iconst 0, .istore_n 1]),
  (2, [.iload_n 1, .aload_n 0, .getfield 705, .getfield 448, .if_icmp .ge 34, .aload_n 0, .getfield 716, .iload_n 1, .laload, .aload_n 0, .getfield 710, .getfield 577, .iload_n 1, .iaload, .lushr, .lconst 1, .land, .lconst 0, .lcmp, .ifCond .eq 5, .iconst 1, .ireturn]),
  (38, [.iinc 1 1, .goto (-39)]),
  (44, [.iconst 0, .ireturn])]
/-- ShoeOrchard.when(I)I -/
def P137 : List (Nat × List Instr) := [
  (0, [.aload_n 0, .getfield 705, .iload_n 1, .invokevirtual 58, .ifCond .ne 5, .iconst (-1), .ireturn]),
  (13, [.aload_n 0, .getfield 710, .aload_n 0, .getfield 709, .invokevirtual 75, .iconst 0, .istore_n 2]),
  (26, [.iload_n 2, .bipush 40, .if_icmp .gt 38, .aload_n 0, .aload_n 0, .getfield 710, .invokevirtual 123, .aload_n 0, .aload_n 0, .getfield 710, .iload_n 1, .invokevirtual 124, .ifCond .eq 5, .iload_n 2, .ireturn]),
  (54, [.aload_n 0, .getfield 710, .invokevirtual 82, .iinc 2 1, .goto (-38)]),
  (67, [.iconst (-1), .ireturn])]
/-- ShoeOrchard.later(II)I -/
def P138 : List (Nat × List Instr) := [
  (0, [.aload_n 0, .getfield 705, .iload_n 1, .invokevirtual 54, .ifCond .eq 13, .iload_n 2, .ifCond .lt 9, .iload_n 2, .bipush 40, .if_icmp .le 5, .iconst (-1), .ireturn]),
  (21, [.iconst (-1), .ireturn]),
  (23, [.aload_n 0, .getfield 710, .aload_n 0, .getfield 709, .invokevirtual 75, .iconst 0, .istore_n 3]),
  (36, [.iload_n 3, .iload_n 2, .if_icmp .ge 16, .aload_n 0, .getfield 710, .invokevirtual 82, .iinc 3 1, .goto (-15)]),
  (54, [.aload_n 0, .getfield 710, .iload_n 1, .invokevirtual 70, .ireturn])]
/-- ShoeOrchard.feel(IZ)Z -/
def P139 : List (Nat × List Instr) := [
  (0, [.aload_n 0, .getfield 705, .iload_n 1, .invokevirtual 54, .ifCond .eq 19, .aload_n 0, .getfield 712, .iload_n 1, .iload_n 2, .invokevirtual 2, .ifCond .eq 7, .iconst 1, .goto 4]),
  (27, [.iconst 0, .ireturn]),
  (28, [.ireturn])]
/-- ShoeOrchard.feet(I)I -/
def P140 : List (Nat × List Instr) := [
  (0, [.iload_n 1, .ifCond .lt 8, .iload_n 1, .iconst 2, .if_icmp .le 5, .iconst (-1), .ireturn]),
  (9, [.iconst (-1), .ireturn]),
  (11, [.aload_n 0, .aload_n 0, .getfield 709, .invokevirtual 123, .iconst 0, .istore_n 2, .iconst (-1), .istore_n 3, .iconst (-1), .istore 4, .iconst 0, .istore 5]),
  (29, [.iload 5, .bipush 40, .if_icmp .gt 51, .aload_n 0, .getfield 712, .iload 5, .aload_n 0, .getfield 715, .aload_n 0, .getfield 705, .getfield 450, .invokevirtual 3, .ifCond .eq 22, .iinc 2 1, .iload_n 3, .iconst (-1), .if_icmp .ne 8, .iload 5, .goto 4]),
  (72, [.iload_n 3, .istore_n 3, .iload 5, .istore 4, .iinc 5 1, .goto (-52)]),
  (73, [.istore_n 3, .iload 5, .istore 4, .iinc 5 1, .goto (-52)]),
  (78, [.iinc 5 1, .goto (-52)]),
  (84, [.iload_n 1, .ifCond .ne 5, .iload_n 2, .ireturn]),
  (90, [.iload_n 1, .iconst 1, .if_icmp .ne 7, .iload_n 3, .goto 5]),
  (99, [.iload 4, .ireturn]),
  (101, [.ireturn])]
/-- ShoeOrchard.ask()I -/
def P141 : List (Nat × List Instr) := [
  (0, [.aload_n 0, .aload_n 0, .getfield 709, .invokevirtual 123, .iconst 0, .istore_n 1, .iconst 0, .istore_n 2]),
  (12, [.iload_n 2, .bipush 40, .if_icmp .gt 39, .iload_n 1, .aload_n 0, .getfield 712, .iload_n 2, .aload_n 0, .getfield 715, .aload_n 0, .getfield 705, .getfield 450, .invokevirtual 3, .ifCond .eq 7, .iconst 1, .goto 4]),
  (45, [.iconst 0, .iadd, .istore_n 1, .iinc 2 1, .goto (-39)]),
  (46, [.iadd, .istore_n 1, .iinc 2 1, .goto (-39)]),
  (54, [.iconst (-1), .istore_n 2, .iload_n 1, .istore_n 3, .iconst 0, .istore 4]),
  (61, [.iload 4, .aload_n 0, .getfield 705, .getfield 448, .if_icmp .ge 56, .aload_n 0, .getfield 715, .iload 4, .iaload, .iconst (-1), .if_icmp .eq 39, .aload_n 0, .aload_n 0, .getfield 715, .iload 4, .iaload, .invokevirtual 142, .istore 5, .iload 5, .iload_n 1, .iload 5, .isub, .invokestatic 286, .istore 6, .iload 6, .iload_n 3, .if_icmp .ge 9, .iload 6, .istore_n 3, .iload 4, .istore_n 2, .iinc 4 1, .goto (-62)]),
  (120, [.iinc 4 1, .goto (-62)]),
  (126, [.iload_n 2, .ireturn])]
/-- ShoeOrchard.allowedFeetFitting(I)I -/
def P142 : List (Nat × List Instr) := [
  (0, [.iconst 0, .istore_n 2, .iconst 0, .istore_n 3]),
  (4, [.iload_n 3, .bipush 40, .if_icmp .gt 50, .iload_n 1, .iload_n 3, .isub, .invokestatic 288, .aload_n 0, .getfield 705, .getfield 450, .if_icmp .gt 28, .aload_n 0, .getfield 712, .iload_n 3, .aload_n 0, .getfield 715, .aload_n 0, .getfield 705, .getfield 450, .invokevirtual 3, .ifCond .eq 6, .iinc 2 1, .iinc 3 1, .goto (-50)]),
  (51, [.iinc 3 1, .goto (-50)]),
  (57, [.iload_n 2, .ireturn])]
/-- ShoeOrchard.pairs()I -/
def P143 : List (Nat × List Instr) := [
  (0, [.aload_n 0, .aload_n 0, .getfield 709, .invokevirtual 123, .iconst 0, .istore_n 1, .iconst 0, .istore_n 2]),
  (12, [.iload_n 2, .aload_n 0, .getfield 705, .getfield 449, .if_icmp .ge 65, .aload_n 0, .aload_n 0, .getfield 709, .iload_n 2, .invokevirtual 124, .istore_n 3, .iload_n 2, .iconst 1, .iadd, .istore 4]),
  (38, [.iload 4, .aload_n 0, .getfield 705, .getfield 449, .if_icmp .ge 32, .iload_n 1, .iload_n 3, .aload_n 0, .aload_n 0, .getfield 709, .iload 4, .invokevirtual 124, .iand, .ifCond .eq 7, .iconst 1, .goto 4]),
  (70, [.iconst 0, .iadd, .istore_n 1, .iinc 4 1, .goto (-38)]),
  (71, [.iadd, .istore_n 1, .iinc 4 1, .goto (-38)]),
  (79, [.iinc 2 1, .goto (-70)]),
  (85, [.iload_n 1, .ireturn])]
/-- ShoeOrchard.idle()I -/
def P144 : List (Nat × List Instr) := [
  (0, [.aload_n 0, .aload_n 0, .getfield 709, .invokevirtual 123, .iconst 0, .istore_n 1, .iconst 0, .istore_n 2]),
  (12, [.iload_n 2, .aload_n 0, .getfield 705, .getfield 448, .if_icmp .ge 38, .aload_n 0, .getfield 715, .iload_n 2, .iaload, .iconst (-1), .if_icmp .eq 22, .aload_n 0, .aload_n 0, .getfield 715, .iload_n 2, .iaload, .invokevirtual 126, .ifCond .ne 9, .iload_n 1, .iconst 1, .iload_n 2, .ishl, .ior, .istore_n 1, .iinc 2 1, .goto (-43)]),
  (52, [.iinc 2 1, .goto (-43)]),
  (58, [.iload_n 1, .ireturn])]
/-- ShoeOrchard.sole()I -/
def P145 : List (Nat × List Instr) := [
  (0, [.aload_n 0, .aload_n 0, .getfield 709, .invokevirtual 123, .iconst 0, .istore_n 1, .iconst 0, .istore_n 2]),
  (12, [.iload_n 2, .aload_n 0, .getfield 705, .getfield 449, .if_icmp .ge 31, .aload_n 0, .aload_n 0, .getfield 709, .iload_n 2, .invokevirtual 124, .invokestatic 285, .iconst 1, .if_icmp .ne 9, .iload_n 1, .iconst 1, .iload_n 2, .ishl, .ior, .istore_n 1, .iinc 2 1, .goto (-36)]),
  (45, [.iinc 2 1, .goto (-36)]),
  (51, [.iload_n 1, .ireturn])]
/-- ShoeOrchard.twins()I -/
def P146 : List (Nat × List Instr) := [
  (0, [.aload_n 0, .aload_n 0, .getfield 709, .invokevirtual 123, .iconst 0, .istore_n 1, .iconst 0, .istore_n 2]),
  (12, [.iload_n 2, .aload_n 0, .getfield 705, .getfield 448, .if_icmp .ge 63, .iload_n 2, .iconst 1, .iadd, .istore_n 3]),
  (27, [.iload_n 3, .aload_n 0, .getfield 705, .getfield 448, .if_icmp .ge 42, .iload_n 1, .aload_n 0, .getfield 715, .iload_n 2, .iaload, .iconst (-1), .if_icmp .eq 22, .aload_n 0, .getfield 715, .iload_n 2, .iaload, .aload_n 0, .getfield 715, .iload_n 3, .iaload, .if_icmp .ne 7, .iconst 1, .goto 4]),
  (68, [.iconst 0, .iadd, .istore_n 1, .iinc 3 1, .goto (-47)]),
  (69, [.iadd, .istore_n 1, .iinc 3 1, .goto (-47)]),
  (77, [.iinc 2 1, .goto (-68)]),
  (83, [.iload_n 1, .ireturn])]
/-- ShoeOrchard.best()I -/
def P147 : List (Nat × List Instr) := [
  (0, [.aload_n 0, .aload_n 0, .getfield 709, .invokevirtual 123, .iconst (-1), .istore_n 1, .iconst (-1), .istore_n 2, .iconst 0, .istore_n 3]),
  (14, [.iload_n 3, .aload_n 0, .getfield 705, .getfield 448, .if_icmp .ge 45, .aload_n 0, .getfield 715, .iload_n 3, .iaload, .iconst (-1), .if_icmp .eq 29, .aload_n 0, .aload_n 0, .getfield 715, .iload_n 3, .iaload, .invokevirtual 126, .invokestatic 285, .istore 4, .iload 4, .iload_n 2, .if_icmp .le 8, .iload 4, .istore_n 2, .iload_n 3, .istore_n 1, .iinc 3 1, .goto (-50)]),
  (61, [.iinc 3 1, .goto (-50)]),
  (67, [.iload_n 1, .ireturn])]
/-- ShoeOrchard.lack(I)I -/
def P148 : List (Nat × List Instr) := [
  (0, [.aload_n 0, .getfield 705, .iload_n 1, .invokevirtual 58, .ifCond .ne 5, .iconst (-1), .ireturn]),
  (13, [.aload_n 0, .aload_n 0, .getfield 709, .invokevirtual 123, .iconst (-1), .istore_n 2, .iconst 0, .istore_n 3]),
  (25, [.iload_n 3, .aload_n 0, .getfield 705, .getfield 448, .if_icmp .ge 61, .aload_n 0, .getfield 715, .iload_n 3, .iaload, .iconst (-1), .if_icmp .eq 45, .aload_n 0, .getfield 705, .iload_n 1, .aload_n 0, .getfield 709, .getfield 579, .iload_n 1, .iaload, .aload_n 0, .getfield 715, .iload_n 3, .iaload, .invokevirtual 59, .istore 4, .iload_n 2, .iconst (-1), .if_icmp .ne 8, .iload 4, .goto 9]),
  (81, [.iload_n 2, .iload 4, .invokestatic 287, .istore_n 2, .iinc 3 1, .goto (-66)]),
  (87, [.istore_n 2, .iinc 3 1, .goto (-66)]),
  (88, [.iinc 3 1, .goto (-66)]),
  (94, [.iload_n 2, .ireturn])]
/-- ShoeOrchard.chance(III)I -/
def P149 : List (Nat × List Instr) := [
  (0, [.iload_n 2, .iconst 1, .if_icmp .lt 23, .iload_n 2, .bipush 6, .if_icmp .gt 17, .iload_n 3, .ifCond .lt 13, .iload_n 3, .bipush 10, .if_icmp .gt 7, .iconst 1, .goto 4]),
  (25, [.iconst 0, .istore 4, .iload 4, .ifCond .eq 14, .aload_n 0, .getfield 705, .iload_n 1, .invokevirtual 58, .ifCond .ne 5, .iconst (-1), .ireturn]),
  (26, [.istore 4, .iload 4, .ifCond .eq 14, .aload_n 0, .getfield 705, .iload_n 1, .invokevirtual 58, .ifCond .ne 5, .iconst (-1), .ireturn]),
  (44, [.iconst (-1), .ireturn]),
  (46, [.iconst 0, .istore 5, .iconst 0, .istore 6]),
  (52, [.iload 6, .iload_n 2, .if_icmp .gt 86, .aload_n 0, .getfield 710, .aload_n 0, .getfield 709, .invokevirtual 75, .iconst 0, .istore 7]),
  (72, [.iload 7, .iload_n 2, .if_icmp .ge 28, .aload_n 0, .getfield 710, .iload 7, .iload 6, .if_icmp .ge 7, .iconst 3, .goto 4]),
  (93, [.iconst 0, .invokevirtual 83, .iinc 7 1, .goto (-28)]),
  (94, [.invokevirtual 83, .iinc 7 1, .goto (-28)]),
  (103, [.aload_n 0, .aload_n 0, .getfield 710, .invokevirtual 123, .aload_n 0, .aload_n 0, .getfield 710, .iload_n 1, .invokevirtual 124, .ifCond .eq 15, .iload 5, .iload 6, .iload_n 2, .iload_n 3, .invokestatic 150, .iadd, .istore 5, .iinc 6 1, .goto (-86)]),
  (135, [.iinc 6 1, .goto (-86)]),
  (141, [.iload 5, .ireturn])]
/-- ShoeOrchard.likelihood(III)I -/
def P150 : List (Nat × List Instr) := [
  (0, [.iconst 1, .istore_n 3, .iconst 1, .istore 4, .iconst 0, .istore 5]),
  (8, [.iload 5, .bipush 6, .if_icmp .ge 56, .iload 5, .iload_n 0, .if_icmp .ge 24, .iload_n 3, .iload_n 1, .iload 5, .isub, .imul, .iload 5, .iconst 1, .iadd, .idiv, .istore_n 3, .iload 4, .iload_n 2, .imul, .istore 4, .goto 23]),
  (42, [.iload 4, .iload 5, .iload_n 1, .if_icmp .ge 10, .bipush 10, .iload_n 2, .isub, .goto 5]),
  (57, [.bipush 10, .imul, .istore 4, .iinc 5 1, .goto (-57)]),
  (59, [.imul, .istore 4, .iinc 5 1, .goto (-57)]),
  (62, [.iinc 5 1, .goto (-57)]),
  (68, [.iload_n 3, .iload 4, .imul, .ireturn])]
/-- ShoeOrchard.ages(III)I -/
def P151 : List (Nat × List Instr) := [
  (0, [.iload_n 1, .ifCond .lt 25, .iload_n 1, .sipush 9999, .if_icmp .gt 18, .iload_n 2, .iconst 1, .if_icmp .lt 13, .iload_n 2, .bipush 99, .if_icmp .gt 7, .iconst 1, .goto 4]),
  (26, [.iconst 0, .istore 4, .iload 4, .ifCond .eq 12, .iload_n 3, .ifCond .lt 8, .iload_n 3, .iconst 2, .if_icmp .le 5, .iconst (-1), .ireturn]),
  (27, [.istore 4, .iload 4, .ifCond .eq 12, .iload_n 3, .ifCond .lt 8, .iload_n 3, .iconst 2, .if_icmp .le 5, .iconst (-1), .ireturn]),
  (43, [.iconst (-1), .ireturn]),
  (45, [.aload_n 0, .iload_n 1, .i2l, .putfield 717, .aload_n 0, .getfield 710, .aload_n 0, .getfield 709, .invokevirtual 75, .iconst 0, .istore 5, .aload_n 0, .getfield 705, .getfield 448, .ifCond .le 45, .aload_n 0, .getfield 705, .getfield 449, .ifCond .le 35, .iconst 0, .istore 6]),
  (88, [.iload 6, .iload_n 2, .if_icmp .ge 26, .iload 5, .aload_n 0, .invokevirtual 152, .ifCond .eq 7, .iconst 1, .goto 4]),
  (107, [.iconst 0, .iadd, .istore 5, .iinc 6 1, .goto (-26)]),
  (108, [.iadd, .istore 5, .iinc 6 1, .goto (-26)]),
  (117, [.iload_n 3, .ifCond .ne 6, .iload 5, .ireturn]),
  (124, [.iload_n 3, .iconst 1, .if_icmp .ne 13, .aload_n 0, .getfield 710, .getfield 576, .goto 18]),
  (139, [.aload_n 0, .getfield 710, .invokevirtual 84, .aload_n 0, .getfield 709, .invokevirtual 84, .isub, .ireturn]),
  (154, [.ireturn])]
/-- ShoeOrchard.stepOfAges()Z -/
def P152 : List (Nat × List Instr) := [
  (0, [.aload_n 0, .aload_n 0, .getfield 705, .getfield 449, .invokevirtual 153, .istore_n 1, .aload_n 0, .aload_n 0, .getfield 705, .getfield 448, .invokevirtual 153, .istore_n 2, .aload_n 0, .getfield 710, .iload_n 1, .iload_n 2, .invokevirtual 74, .ifCond .eq 19, .aload_n 0, .getfield 710, .iload_n 1, .iload_n 2, .invokevirtual 76, .ifCond .eq 7, .iconst 1, .goto 4]),
  (52, [.iconst 0, .istore_n 3, .aload_n 0, .bipush 6, .invokevirtual 153, .istore 4, .iload 4, .ifCond .ne 13, .aload_n 0, .getfield 710, .invokevirtual 82, .goto 53]),
  (53, [.istore_n 3, .aload_n 0, .bipush 6, .invokevirtual 153, .istore 4, .iload 4, .ifCond .ne 13, .aload_n 0, .getfield 710, .invokevirtual 82, .goto 53]),
  (77, [.iload 4, .iconst 1, .if_icmp .ne 47, .aload_n 0, .aload_n 0, .getfield 705, .getfield 448, .invokevirtual 153, .istore 5, .aload_n 0, .aload_n 0, .getfield 705, .getfield 448, .invokevirtual 153, .istore 6, .iload 5, .iload 6, .if_icmp .eq 14, .aload_n 0, .getfield 710, .iload 5, .iload 6, .invokevirtual 80, .iload_n 3, .ireturn]),
  (127, [.iload_n 3, .ireturn])]
/-- ShoeOrchard.draw(I)I -/
def P153 : List (Nat × List Instr) := [
  (0, [.aload_n 0, .aload_n 0, .getfield 717, .jsr 1103515245, .lmul, .jsr 12345, .ladd, .jsr 2147483648, .lrem, .putfield 717, .iload_n 1, .iconst 1, .if_icmp .ge 7, .iconst 0, .goto 15]),
  (29, [.aload_n 0, .getfield 717, .jsr 65536, .ldiv, .iload_n 1, .i2l, .lrem, .l2i, .ireturn]),
  (41, [.ireturn])]
/-- ShoeOrchard.mark(IZ)Z -/
def P154 : List (Nat × List Instr) := [
  (0, [.iload_n 1, .ifCond .lt 8, .iload_n 1, .iconst 4, .if_icmp .lt 5, .iconst 0, .ireturn]),
  (9, [.iconst 0, .ireturn]),
  (11, [.iload_n 2, .ifCond .eq 20, .aload_n 0, .getfield 711, .iload_n 1, .aload_n 0, .getfield 709, .aload_n 0, .getfield 712, .invokevirtual 47, .ireturn]),
  (32, [.aload_n 0, .getfield 711, .iload_n 1, .aload_n 0, .getfield 709, .aload_n 0, .getfield 712, .invokevirtual 48, .iconst 1, .ireturn])]
/-- ShoeOrchard.count(I)I -/
def P155 : List (Nat × List Instr) := [
  (0, [.iload_n 1, .tableswitch 178 0 12 #[67, 75, 83, 91, 99, 107, 122, 130, 138, 146, 154, 162, 170]]),
  (68, [.aload_n 0, .getfield 705, .getfield 448, .ireturn]),
  (76, [.aload_n 0, .getfield 705, .getfield 449, .ireturn]),
  (84, [.aload_n 0, .getfield 705, .getfield 450, .ireturn]),
  (92, [.aload_n 0, .getfield 705, .getfield 451, .ireturn]),
  (100, [.aload_n 0, .getfield 709, .getfield 576, .ireturn]),
  (108, [.aload_n 0, .getfield 705, .aload_n 0, .getfield 709, .getfield 576, .invokevirtual 55, .ireturn]),
  (123, [.aload_n 0, .getfield 709, .invokevirtual 85, .ireturn]),
  (131, [.aload_n 0, .getfield 709, .invokevirtual 86, .ireturn]),
  (139, [.aload_n 0, .getfield 709, .invokevirtual 84, .ireturn]),
  (147, [.aload_n 0, .getfield 706, .getfield 128, .ireturn]),
  (155, [.aload_n 0, .getfield 712, .getfield 0, .ireturn]),
  (163, [.aload_n 0, .getfield 711, .getfield 384, .ireturn]),
  (171, [.aload_n 0, .getfield 704, .getfield 640, .ireturn]),
  (179, [.iconst (-1), .ireturn])]
/-- ShoeOrchard.rests(IIII)I -/
def P156 : List (Nat × List Instr) := [
  (0, [.iload_n 1, .invokestatic 157, .ifCond .eq 17, .iload_n 2, .invokestatic 157, .ifCond .eq 10, .iload_n 3, .invokestatic 157, .ifCond .ne 14, .athrow]),
  (21, [.athrow]),
  (32, [.iconst 0, .istore 5, .iconst 0, .istore 6]),
  (38, [.iload 6, .iconst 4, .if_icmp .ge 108, .iload 6, .iconst 2, .idiv, .istore 7, .iload 6, .iconst 2, .irem, .istore 8, .iload 7, .iload 8, .iload_n 1, .iload_n 2, .iload_n 3, .invokestatic 158, .iconst 1, .iload 7, .isub, .iload 8, .iload_n 1, .iload_n 2, .iload_n 3, .invokestatic 158, .if_icmp .lt 7, .iconst 1, .goto 4]),
  (85, [.iconst 0, .istore 9, .iload 8, .iload 7, .iload_n 1, .iload_n 2, .iload_n 3, .invokestatic 158, .iconst 1, .iload 8, .isub, .iload 7, .iload_n 1, .iload_n 2, .iload_n 3, .invokestatic 158, .if_icmp .lt 7, .iconst 1, .goto 4]),
  (86, [.istore 9, .iload 8, .iload 7, .iload_n 1, .iload_n 2, .iload_n 3, .invokestatic 158, .iconst 1, .iload 8, .isub, .iload 7, .iload_n 1, .iload_n 2, .iload_n 3, .invokestatic 158, .if_icmp .lt 7, .iconst 1, .goto 4]),
  (117, [.iconst 0, .istore 10, .iload 9, .ifCond .eq 21, .iload 10, .ifCond .eq 16, .iload 5, .iload 4, .if_icmp .ne 6, .iload 6, .ireturn]),
  (118, [.istore 10, .iload 9, .ifCond .eq 21, .iload 10, .ifCond .eq 16, .iload 5, .iload 4, .if_icmp .ne 6, .iload 6, .ireturn]),
  (140, [.iinc 5 1, .iinc 6 1, .goto (-108)]),
  (143, [.iinc 6 1, .goto (-108)]),
  (149, [.iload 4, .iconst (-1), .if_icmp .eq 14, .athrow]),
  (166, [.iload 5, .ireturn])]
/-- ShoeOrchard.isPay(I)Z -/
def P157 : List (Nat × List Instr) := [
  (0, [.iload_n 0, .ifCond .lt 13, .iload_n 0, .bipush 9, .if_icmp .gt 7, .iconst 1, .goto 4]),
  (14, [.iconst 0, .ireturn]),
  (15, [.ireturn])]
/-- ShoeOrchard.pay(IIIII)I -/
def P158 : List (Nat × List Instr) := [
  (0, [.iload_n 0, .iconst 1, .if_icmp .ne 15, .iload_n 1, .iconst 1, .if_icmp .ne 7, .iload_n 2, .goto 5]),
  (14, [.iload_n 3, .ineg, .ireturn]),
  (16, [.ireturn]),
  (17, [.iload_n 1, .iconst 1, .if_icmp .ne 8, .iload 4, .goto 4]),
  (27, [.iconst 0, .ireturn]),
  (28, [.ireturn])]
/-- ShoeOrchardModel.thrown()I -/
def P159 : List (Nat × List Instr) := [
  (0, [.aload_n 0, .getfield 768, .ireturn])]
/-- ShoeOrchardModel.feed(JJJ)I -/
def P160 : List (Nat × List Instr) := [
  (0, [.aload_n 0, .iconst 0, .putfield 768, .aload_n 0, .lload_n 1, .invokevirtual 161, .aload_n 0, .lload_n 3, .invokevirtual 161, .aload_n 0, .lload 5, .invokevirtual 161, .aload_n 0, .getfield 770, .ireturn])]
/-- ShoeOrchardModel.lay(J)V -/
def P161 : List (Nat × List Instr) := [
  (0, [.bipush 56, .istore_n 3]),
  (3, [.iload_n 3, .ifCond .lt 71, .lload_n 1, .iload_n 3, .lshr, .l2i, .sipush 255, .iand, .istore 4, .iload 4, .bipush 10, .if_icmp .eq 17, .iload 4, .bipush 32, .if_icmp .lt 41, .iload 4, .bipush 126, .if_icmp .gt 34, .aload_n 0, .getfield 770, .sipush 1000, .if_icmp .ge 24, .aload_n 0, .getfield 769, .aload_n 0, .getfield 770, .iload 4, .iastore, .aload_n 0, .dup, .getfield 770, .iconst 1, .iadd, .putfield 770, .iinc 3 (-8), .goto (-69)]),
  (38, [.aload_n 0, .getfield 770, .sipush 1000, .if_icmp .ge 24, .aload_n 0, .getfield 769, .aload_n 0, .getfield 770, .iload 4, .iastore, .aload_n 0, .dup, .getfield 770, .iconst 1, .iadd, .putfield 770, .iinc 3 (-8), .goto (-69)]),
  (69, [.iinc 3 (-8), .goto (-69)]),
  (75, [.return_])]
/-- ShoeOrchardModel.<init>()V -/
def P162 : List (Nat × List Instr) := [
  (0, [.aload_n 0, .invokespecial 900, .aload_n 0, .sipush 1000, .newarray .int, .putfield 769, .aload_n 0, .sipush 1002, .newarray .int, .putfield 772, .aload_n 0, .sipush 1002, .newarray .int, .putfield 773, .aload_n 0, .sipush 1002, .newarray .long, .putfield 774, .aload_n 0, .bipush 29, .newarray .long, .dup, .iconst 0, .jsr 1037892, .lastore, .dup, .iconst 1, .jsr 609928, .lastore, .dup, .iconst 2, .jsr 1633, .lastore, .dup, .iconst 3, .jsr 1119812451, .lastore, .dup, .iconst 4, .jsr 310968, .lastore, .dup, .iconst 5, .jsr 30461738, .lastore, .dup, .bipush 6, .jsr 730246, .lastore, .dup, .bipush 7, .jsr 12177978, .lastore, .dup, .bipush 8, .jsr 4003641, .lastore, .dup, .bipush 9, .jsr 28071, .lastore, .dup, .bipush 10, .jsr 36016323, .lastore, .dup, .bipush 11, .jsr 14032492, .lastore, .dup, .bipush 12, .jsr 30927602, .lastore, .dup, .bipush 13, .jsr 1273225, .lastore, .dup, .bipush 14, .jsr 173192972, .lastore, .dup, .bipush 15, .jsr 122416, .lastore, .dup, .bipush 16, .jsr 49598629259, .lastore, .dup, .bipush 17, .jsr 1320124011, .lastore, .dup, .bipush 18, .jsr 30596128, .lastore, .dup, .bipush 19, .jsr 6040476, .lastore, .dup, .bipush 20, .jsr 583696626, .lastore, .dup, .bipush 21, .jsr 20983, .lastore, .dup, .bipush 22, .jsr 19741, .lastore, .dup, .bipush 23, .jsr 1891, .lastore, .dup, .bipush 24, .jsr 573, .lastore, .dup, .bipush 25, .jsr 975695, .lastore, .dup, .bipush 26, .jsr 47109344, .lastore, .dup, .bipush 27, .jsr 6040484, .lastore, .dup, .bipush 28, .jsr 204726, .lastore, .putfield 777, .aload_n 0, .bipush 100, .newarray .int, .putfield 778, .aload_n 0, .sipush 2200, .newarray .int, .putfield 779, .aload_n 0, .sipush 2200, .newarray .int, .putfield 780, .aload_n 0, .bipush 12, .newarray .long, .putfield 782, .aload_n 0, .bipush 12, .newarray .long, .putfield 783, .aload_n 0, .bipush 12, .newarray .int, .putfield 784, .aload_n 0, .bipush 12, .newarray .int, .putfield 785, .aload_n 0, .sipush 250, .newarray .int, .putfield 789, .aload_n 0, .iconst 4, .newarray .int, .putfield 790, .aload_n 0, .sipush 1100, .newarray .int, .putfield 791, .aload_n 0, .sipush 1380, .newarray .int, .putfield 792, .aload_n 0, .iconst 4, .newarray .boolean, .putfield 794, .aload_n 0, .bipush 6, .newarray .int, .putfield 795, .aload_n 0, .bipush 6, .newarray .int, .putfield 796, .aload_n 0, .bipush 6, .newarray .int, .putfield 798, .aload_n 0, .bipush 6, .newarray .int, .putfield 799, .aload_n 0, .iconst 0, .invokevirtual 163, .aload_n 0, .invokevirtual 164, .return_])]
/-- ShoeOrchardModel.standsAsAlways(I)V -/
def P163 : List (Nat × List Instr) := [
  (0, [.iconst 0, .istore_n 2]),
  (2, [.iload_n 2, .bipush 50, .if_icmp .ge 18, .aload_n 0, .getfield 778, .iload_n 1, .iload_n 2, .iadd, .iconst 0, .iastore, .iinc 2 1, .goto (-18)]),
  (23, [.aload_n 0, .getfield 778, .iload_n 1, .iconst 2, .iadd, .iconst 1, .iastore, .aload_n 0, .getfield 778, .iload_n 1, .iconst 3, .iadd, .iconst 3, .iastore, .aload_n 0, .getfield 778, .iload_n 1, .iconst 4, .iadd, .iconst 1, .iastore, .aload_n 0, .getfield 778, .iload_n 1, .iconst 5, .iadd, .iconst (-1), .iastore, .return_])]
/-- ShoeOrchardModel.begins()V -/
def P164 : List (Nat × List Instr) := [
  (0, [.aload_n 0, .iconst 0, .invokevirtual 165, .aload_n 0, .getfield 792, .bipush 43, .iconst 0, .iastore, .aload_n 0, .getfield 789, .iconst 0, .iconst 0, .iastore, .aload_n 0, .iconst 0, .putfield 793, .iconst 0, .istore_n 1]),
  (27, [.iload_n 1, .iconst 4, .if_icmp .ge 16, .aload_n 0, .getfield 794, .iload_n 1, .iconst 0, .bastore, .iinc 1 1, .goto (-15)]),
  (45, [.return_])]
/-- ShoeOrchardModel.starts(I)V -/
def P165 : List (Nat × List Instr) := [
  (0, [.iconst 0, .istore_n 2]),
  (2, [.iload_n 2, .bipush 43, .if_icmp .ge 18, .aload_n 0, .getfield 792, .iload_n 1, .iload_n 2, .iadd, .iconst 0, .iastore, .iinc 2 1, .goto (-18)]),
  (23, [.iconst 0, .istore_n 2]),
  (25, [.iload_n 2, .aload_n 0, .invokevirtual 166, .if_icmp .ge 42, .aload_n 0, .getfield 792, .iload_n 1, .iconst 1, .iadd, .iload_n 2, .iadd, .aload_n 0, .iload_n 2, .iconst 1, .invokevirtual 167, .iastore, .aload_n 0, .getfield 792, .iload_n 1, .bipush 7, .iadd, .iload_n 2, .iadd, .aload_n 0, .iload_n 2, .iconst 2, .invokevirtual 167, .iastore, .iinc 2 1, .goto (-44)]),
  (72, [.iconst 0, .istore_n 2]),
  (74, [.iload_n 2, .bipush 6, .if_icmp .ge 62, .aload_n 0, .getfield 792, .iload_n 1, .bipush 13, .iadd, .iload_n 2, .iadd, .iload_n 2, .aload_n 0, .invokevirtual 168, .if_icmp .ge 12, .aload_n 0, .iload_n 2, .iconst 1, .invokevirtual 169, .goto 4]),
  (107, [.iconst 0, .iastore, .aload_n 0, .getfield 792, .iload_n 1, .bipush 19, .iadd, .iload_n 2, .iadd, .iconst (-1), .iastore, .aload_n 0, .getfield 792, .iload_n 1, .bipush 37, .iadd, .iload_n 2, .iadd, .iconst (-1), .iastore, .iinc 2 1, .goto (-62)]),
  (108, [.iastore, .aload_n 0, .getfield 792, .iload_n 1, .bipush 19, .iadd, .iload_n 2, .iadd, .iconst (-1), .iastore, .aload_n 0, .getfield 792, .iload_n 1, .bipush 37, .iadd, .iload_n 2, .iadd, .iconst (-1), .iastore, .iinc 2 1, .goto (-62)]),
  (139, [.return_])]
/-- ShoeOrchardModel.trees()I -/
def P166 : List (Nat × List Instr) := [
  (0, [.aload_n 0, .getfield 778, .iconst 0, .iaload, .ireturn])]
/-- ShoeOrchardModel.treeOf(II)I -/
def P167 : List (Nat × List Instr) := [
  (0, [.aload_n 0, .getfield 778, .bipush 6, .iconst 3, .iload_n 1, .imul, .iadd, .iload_n 2, .iadd, .iaload, .ireturn])]
/-- ShoeOrchardModel.persons()I -/
def P168 : List (Nat × List Instr) := [
  (0, [.aload_n 0, .getfield 778, .iconst 1, .iaload, .ireturn])]
/-- ShoeOrchardModel.personOf(II)I -/
def P169 : List (Nat × List Instr) := [
  (0, [.aload_n 0, .getfield 778, .bipush 24, .iconst 2, .iload_n 1, .imul, .iadd, .iload_n 2, .iadd, .iaload, .ireturn])]
/-- ShoeOrchardModel.orchard()I -/
def P170 : List (Nat × List Instr) := [
  (0, [.aload_n 0, .iconst 0, .putfield 768, .aload_n 0, .invokevirtual 171, .aload_n 0, .iconst 0, .putfield 781, .aload_n 0, .iconst 0, .putfield 787, .aload_n 0, .iconst 0, .putfield 788, .aload_n 0, .bipush 50, .invokevirtual 163]),
  (30, [.aload_n 0, .getfield 776, .ifCond .ne 28, .aload_n 0, .getfield 772, .aload_n 0, .getfield 775, .iaload, .ifCond .eq 16, .aload_n 0, .invokevirtual 176, .aload_n 0, .bipush 59, .invokevirtual 198, .goto (-29)]),
  (62, [.aload_n 0, .getfield 776, .ifCond .le 8, .aload_n 0, .getfield 776, .ireturn]),
  (74, [.iconst 0, .istore_n 1]),
  (76, [.iload_n 1, .bipush 50, .if_icmp .ge 24, .aload_n 0, .getfield 778, .iload_n 1, .aload_n 0, .getfield 778, .bipush 50, .iload_n 1, .iadd, .iaload, .iastore, .iinc 1 1, .goto (-24)]),
  (103, [.iconst 0, .istore_n 1]),
  (105, [.iload_n 1, .aload_n 0, .getfield 781, .if_icmp .ge 41, .aload_n 0, .getfield 779, .iload_n 1, .aload_n 0, .getfield 779, .sipush 1100, .iload_n 1, .iadd, .iaload, .iastore, .aload_n 0, .getfield 780, .iload_n 1, .aload_n 0, .getfield 780, .sipush 1100, .iload_n 1, .iadd, .iaload, .iastore, .iinc 1 1, .goto (-43)]),
  (151, [.iconst 0, .istore_n 1]),
  (153, [.iload_n 1, .aload_n 0, .getfield 787, .if_icmp .ge 33, .aload_n 0, .getfield 782, .iload_n 1, .aload_n 0, .getfield 783, .iload_n 1, .laload, .lastore, .aload_n 0, .getfield 784, .iload_n 1, .aload_n 0, .getfield 785, .iload_n 1, .iaload, .iastore, .iinc 1 1, .goto (-35)]),
  (191, [.aload_n 0, .aload_n 0, .getfield 787, .putfield 786, .aload_n 0, .invokevirtual 164, .iconst 0, .ireturn])]
/-- ShoeOrchardModel.cutAll()V -/
def P171 : List (Nat × List Instr) := [
  (0, [.aload_n 0, .aload_n 0, .getfield 770, .putfield 771, .aload_n 0, .iconst 0, .putfield 770, .iconst 0, .istore_n 1, .iconst 0, .istore_n 2]),
  (17, [.iload_n 2, .aload_n 0, .getfield 771, .if_icmp .ge 257, .aload_n 0, .getfield 769, .iload_n 2, .iaload, .istore_n 3, .iload_n 3, .bipush 10, .if_icmp .eq 9, .iload_n 3, .bipush 32, .if_icmp .ne 9, .iinc 2 1, .goto (-30)]),
  (44, [.iinc 2 1, .goto (-30)]),
  (50, [.iload_n 2, .istore 4, .lconst 0, .lstore 5, .aload_n 0, .getfield 773, .iload_n 1, .iload_n 2, .iastore, .iload_n 3, .invokestatic 172, .ifCond .eq 85]),
  (70, [.iload_n 2, .aload_n 0, .getfield 771, .if_icmp .ge 54, .aload_n 0, .getfield 769, .iload_n 2, .iaload, .invokestatic 172, .ifCond .eq 42, .iload_n 2, .iload 4, .isub, .bipush 8, .if_icmp .ge 23, .jsr 37, .lload 5, .lmul, .aload_n 0, .getfield 769, .iload_n 2, .iaload, .invokestatic 173, .i2l, .ladd, .goto 5]),
  (119, [.lload 5, .lstore 5, .iinc 2 1, .goto (-56)]),
  (121, [.lstore 5, .iinc 2 1, .goto (-56)]),
  (129, [.aload_n 0, .getfield 772, .iload_n 1, .iload_n 2, .iload 4, .isub, .bipush 8, .if_icmp .le 7, .iconst 4, .goto 4]),
  (147, [.iconst 1, .iastore, .goto 116]),
  (148, [.iastore, .goto 116]),
  (152, [.iload_n 3, .invokestatic 174, .ifCond .eq 84]),
  (159, [.iload_n 2, .aload_n 0, .getfield 771, .if_icmp .ge 54, .aload_n 0, .getfield 769, .iload_n 2, .iaload, .invokestatic 174, .ifCond .eq 42, .iload_n 2, .iload 4, .isub, .iconst 4, .if_icmp .ge 24, .jsr 10, .lload 5, .lmul, .aload_n 0, .getfield 769, .iload_n 2, .iaload, .i2l, .ladd, .jsr 48, .lsub, .goto 5]),
  (208, [.lload 5, .lstore 5, .iinc 2 1, .goto (-56)]),
  (210, [.lstore 5, .iinc 2 1, .goto (-56)]),
  (218, [.aload_n 0, .getfield 772, .iload_n 1, .iload_n 2, .iload 4, .isub, .iconst 4, .if_icmp .le 7, .iconst 4, .goto 4]),
  (235, [.iconst 2, .iastore, .goto 28]),
  (236, [.iastore, .goto 28]),
  (240, [.iload_n 3, .i2l, .lstore 5, .aload_n 0, .getfield 772, .iload_n 1, .iload_n 3, .invokestatic 175, .ifCond .eq 7, .iconst 3, .goto 4]),
  (260, [.iconst 4, .iastore, .iinc 2 1, .aload_n 0, .getfield 774, .iload_n 1, .lload 5, .lastore, .iinc 1 1, .goto (-259)]),
  (261, [.iastore, .iinc 2 1, .aload_n 0, .getfield 774, .iload_n 1, .lload 5, .lastore, .iinc 1 1, .goto (-259)]),
  (265, [.aload_n 0, .getfield 774, .iload_n 1, .lload 5, .lastore, .iinc 1 1, .goto (-259)]),
  (279, [.aload_n 0, .getfield 772, .iload_n 1, .iconst 0, .iastore, .aload_n 0, .getfield 773, .iload_n 1, .aload_n 0, .getfield 771, .iastore, .aload_n 0, .iconst 0, .putfield 775, .aload_n 0, .iconst 0, .putfield 776, .return_])]
/-- ShoeOrchardModel.isLetter(I)Z -/
def P172 : List (Nat × List Instr) := [
  (0, [.iload_n 0, .bipush 97, .if_icmp .lt 13, .iload_n 0, .bipush 122, .if_icmp .gt 7, .iconst 1, .goto 4]),
  (16, [.iconst 0, .ireturn]),
  (17, [.ireturn])]
/-- ShoeOrchardModel.rank(I)I -/
def P173 : List (Nat × List Instr) := [
  (0, [.iload_n 0, .invokestatic 172, .ifCond .eq 10, .iload_n 0, .bipush 96, .isub, .goto 7]),
  (14, [.iload_n 0, .bipush 21, .isub, .ireturn]),
  (18, [.ireturn])]
/-- ShoeOrchardModel.isDigit(I)Z -/
def P174 : List (Nat × List Instr) := [
  (0, [.iload_n 0, .bipush 48, .if_icmp .lt 13, .iload_n 0, .bipush 57, .if_icmp .gt 7, .iconst 1, .goto 4]),
  (16, [.iconst 0, .ireturn]),
  (17, [.ireturn])]
/-- ShoeOrchardModel.isSignOf(I)Z -/
def P175 : List (Nat × List Instr) := [
  (0, [.iload_n 0, .bipush 40, .if_icmp .eq 45, .iload_n 0, .bipush 41, .if_icmp .eq 39, .iload_n 0, .bipush 59, .if_icmp .eq 33, .iload_n 0, .bipush 61, .if_icmp .eq 27, .iload_n 0, .bipush 60, .if_icmp .eq 21, .iload_n 0, .bipush 43, .if_icmp .eq 15, .iload_n 0, .bipush 45, .if_icmp .eq 9, .iload_n 0, .bipush 42, .if_icmp .ne 7, .iconst 1, .goto 4]),
  (48, [.iconst 1, .goto 4]),
  (52, [.iconst 0, .ireturn]),
  (53, [.ireturn])]
/-- ShoeOrchardModel.readLine()V -/
def P176 : List (Nat × List Instr) := [
  (0, [.aload_n 0, .iconst 0, .invokevirtual 177, .ifCond .eq 87, .bipush 56, .iconst 3, .aload_n 0, .getfield 778, .bipush 50, .iaload, .imul, .iadd, .istore_n 1, .aload_n 0, .iconst 0, .bipush 6, .iconst 0, .invokevirtual 178, .aload_n 0, .bipush 14, .iconst 4, .invokevirtual 183, .istore_n 2, .aload_n 0, .iconst 1, .iconst 0, .bipush 30, .invokevirtual 184, .istore_n 3, .aload_n 0, .iconst 2, .iconst 0, .bipush 20, .invokevirtual 184, .istore 4, .aload_n 0, .getfield 776, .ifCond .ne 29, .aload_n 0, .getfield 778, .iload_n 1, .iload_n 2, .iastore, .aload_n 0, .getfield 778, .iload_n 1, .iconst 1, .iadd, .iload_n 3, .iastore, .aload_n 0, .getfield 778, .iload_n 1, .iconst 2, .iadd, .iload 4, .iastore, .goto 80]),
  (89, [.goto 80]),
  (92, [.aload_n 0, .iconst 3, .invokevirtual 177, .ifCond .eq 68, .bipush 74, .iconst 2, .aload_n 0, .getfield 778, .bipush 51, .iaload, .imul, .iadd, .istore_n 1, .aload_n 0, .iconst 1, .bipush 6, .bipush 20, .invokevirtual 178, .aload_n 0, .bipush 18, .iconst 4, .invokevirtual 183, .istore_n 2, .aload_n 0, .iconst 4, .iconst 0, .bipush 30, .invokevirtual 184, .istore_n 3, .aload_n 0, .getfield 776, .ifCond .ne 19, .aload_n 0, .getfield 778, .iload_n 1, .iload_n 2, .iastore, .aload_n 0, .getfield 778, .iload_n 1, .iconst 1, .iadd, .iload_n 3, .iastore, .goto 7]),
  (162, [.goto 7]),
  (165, [.aload_n 0, .invokevirtual 188, .return_]),
  (169, [.return_])]
/-- ShoeOrchardModel.isWord(I)Z -/
def P177 : List (Nat × List Instr) := [
  (0, [.aload_n 0, .getfield 776, .ifCond .ne 39, .aload_n 0, .getfield 772, .aload_n 0, .getfield 775, .iaload, .iconst 1, .if_icmp .ne 26, .aload_n 0, .getfield 774, .aload_n 0, .getfield 775, .laload, .aload_n 0, .getfield 777, .iload_n 1, .laload, .lcmp, .ifCond .ne 7, .iconst 1, .goto 4]),
  (43, [.iconst 0, .ireturn]),
  (44, [.ireturn])]
/-- ShoeOrchardModel.readName(III)V -/
def P178 : List (Nat × List Instr) := [
  (0, [.aload_n 0, .getfield 778, .bipush 50, .iload_n 1, .iadd, .iaload, .istore 4, .iload 4, .iload_n 2, .if_icmp .ne 9, .aload_n 0, .iconst 5, .invokevirtual 179, .return_]),
  (23, [.aload_n 0, .dup, .getfield 775, .iconst 1, .iadd, .putfield 775, .aload_n 0, .invokevirtual 180, .ifCond .ne 11, .aload_n 0, .iconst 1, .invokevirtual 179, .goto 16]),
  (48, [.aload_n 0, .iconst 1, .invokevirtual 182, .ifCond .lt 8, .aload_n 0, .iconst 3, .invokevirtual 179, .aload_n 0, .getfield 776, .ifCond .ne 67, .aload_n 0, .getfield 783, .aload_n 0, .getfield 787, .aload_n 0, .getfield 774, .aload_n 0, .getfield 775, .laload, .lastore, .aload_n 0, .getfield 785, .aload_n 0, .getfield 787, .iload_n 3, .iload 4, .iadd, .iastore, .aload_n 0, .dup, .getfield 787, .iconst 1, .iadd, .putfield 787, .aload_n 0, .dup, .getfield 775, .iconst 1, .iadd, .putfield 775, .aload_n 0, .getfield 778, .bipush 50, .iload_n 1, .iadd, .dup2, .iaload, .iconst 1, .iadd, .iastore, .return_]),
  (61, [.aload_n 0, .getfield 776, .ifCond .ne 67, .aload_n 0, .getfield 783, .aload_n 0, .getfield 787, .aload_n 0, .getfield 774, .aload_n 0, .getfield 775, .laload, .lastore, .aload_n 0, .getfield 785, .aload_n 0, .getfield 787, .iload_n 3, .iload 4, .iadd, .iastore, .aload_n 0, .dup, .getfield 787, .iconst 1, .iadd, .putfield 787, .aload_n 0, .dup, .getfield 775, .iconst 1, .iadd, .putfield 775, .aload_n 0, .getfield 778, .bipush 50, .iload_n 1, .iadd, .dup2, .iaload, .iconst 1, .iadd, .iastore, .return_]),
  (132, [.return_])]
/-- ShoeOrchardModel.wrong(I)V -/
def P179 : List (Nat × List Instr) := [
  (0, [.aload_n 0, .getfield 776, .ifCond .ne 21, .aload_n 0, .iload_n 1, .bipush 16, .aload_n 0, .getfield 773, .aload_n 0, .getfield 775, .iaload, .imul, .iadd, .putfield 776, .return_]),
  (25, [.return_])]
/-- ShoeOrchardModel.isName()Z -/
def P180 : List (Nat × List Instr) := [
  (0, [.aload_n 0, .getfield 776, .ifCond .ne 30, .aload_n 0, .getfield 772, .aload_n 0, .getfield 775, .iaload, .iconst 1, .if_icmp .ne 17, .aload_n 0, .iconst 0, .bipush 25, .invokevirtual 181, .ifCond .ge 7, .iconst 1, .goto 4]),
  (34, [.iconst 0, .ireturn]),
  (35, [.ireturn])]
/-- ShoeOrchardModel.wordHere(II)I -/
def P181 : List (Nat × List Instr) := [
  (0, [.iconst (-1), .istore_n 3, .iconst 0, .istore 4]),
  (5, [.iload 4, .iload_n 2, .if_icmp .ge 27, .aload_n 0, .iload_n 1, .iload 4, .iadd, .invokevirtual 177, .ifCond .eq 8, .iload 4, .goto 4]),
  (27, [.iload_n 3, .istore_n 3, .iinc 4 1, .goto (-27)]),
  (28, [.istore_n 3, .iinc 4 1, .goto (-27)]),
  (35, [.iload_n 3, .ireturn])]
/-- ShoeOrchardModel.nameAt(Z)I -/
def P182 : List (Nat × List Instr) := [
  (0, [.iconst 0, .istore_n 2]),
  (2, [.iload_n 2, .iload_n 1, .ifCond .eq 10, .aload_n 0, .getfield 787, .goto 7]),
  (14, [.aload_n 0, .getfield 786, .if_icmp .ge 61, .iload_n 1, .ifCond .eq 12, .aload_n 0, .getfield 783, .iload_n 2, .laload, .goto 9]),
  (18, [.if_icmp .ge 61, .iload_n 1, .ifCond .eq 12, .aload_n 0, .getfield 783, .iload_n 2, .laload, .goto 9]),
  (34, [.aload_n 0, .getfield 782, .iload_n 2, .laload, .aload_n 0, .getfield 774, .aload_n 0, .getfield 775, .laload, .lcmp, .ifCond .ne 23, .iload_n 1, .ifCond .eq 12, .aload_n 0, .getfield 785, .iload_n 2, .iaload, .goto 9]),
  (40, [.aload_n 0, .getfield 774, .aload_n 0, .getfield 775, .laload, .lcmp, .ifCond .ne 23, .iload_n 1, .ifCond .eq 12, .aload_n 0, .getfield 785, .iload_n 2, .iaload, .goto 9]),
  (66, [.aload_n 0, .getfield 784, .iload_n 2, .iaload, .ireturn]),
  (72, [.ireturn]),
  (73, [.iinc 2 1, .goto (-74)]),
  (79, [.iconst (-1), .ireturn])]
/-- ShoeOrchardModel.takeOne(II)I -/
def P183 : List (Nat × List Instr) := [
  (0, [.aload_n 0, .getfield 776, .ifCond .le 7, .iconst (-1), .goto 9]),
  (11, [.aload_n 0, .iload_n 1, .iload_n 2, .invokevirtual 181, .istore_n 3, .aload_n 0, .getfield 776, .ifCond .ne 12, .iload_n 3, .ifCond .ge 8, .aload_n 0, .iconst 1, .invokevirtual 179, .aload_n 0, .dup, .getfield 775, .aload_n 0, .getfield 776, .ifCond .le 7, .iconst 0, .goto 4]),
  (17, [.istore_n 3, .aload_n 0, .getfield 776, .ifCond .ne 12, .iload_n 3, .ifCond .ge 8, .aload_n 0, .iconst 1, .invokevirtual 179, .aload_n 0, .dup, .getfield 775, .aload_n 0, .getfield 776, .ifCond .le 7, .iconst 0, .goto 4]),
  (34, [.aload_n 0, .dup, .getfield 775, .aload_n 0, .getfield 776, .ifCond .le 7, .iconst 0, .goto 4]),
  (50, [.iconst 1, .iadd, .putfield 775, .aload_n 0, .getfield 776, .ifCond .le 7, .iconst 0, .goto 4]),
  (51, [.iadd, .putfield 775, .aload_n 0, .getfield 776, .ifCond .le 7, .iconst 0, .goto 4]),
  (66, [.iload_n 3, .ireturn]),
  (67, [.ireturn])]
/-- ShoeOrchardModel.takeAfter(III)I -/
def P184 : List (Nat × List Instr) := [
  (0, [.aload_n 0, .iload_n 1, .invokevirtual 185, .aload_n 0, .iload_n 2, .iload_n 3, .invokevirtual 187, .ireturn])]
/-- ShoeOrchardModel.takeWord(I)V -/
def P185 : List (Nat × List Instr) := [
  (0, [.aload_n 0, .iload_n 1, .invokevirtual 186, .ifCond .ne 8, .aload_n 0, .iconst 1, .invokevirtual 179, .return_]),
  (13, [.return_])]
/-- ShoeOrchardModel.hasWord(I)Z -/
def P186 : List (Nat × List Instr) := [
  (0, [.aload_n 0, .iload_n 1, .invokevirtual 177, .istore_n 2, .aload_n 0, .dup, .getfield 775, .iload_n 2, .ifCond .eq 7, .iconst 1, .goto 4]),
  (19, [.iconst 0, .iadd, .putfield 775, .iload_n 2, .ireturn]),
  (20, [.iadd, .putfield 775, .iload_n 2, .ireturn])]
/-- ShoeOrchardModel.takeNumber(II)I -/
def P187 : List (Nat × List Instr) := [
  (0, [.aload_n 0, .getfield 776, .ifCond .ne 24, .aload_n 0, .getfield 772, .aload_n 0, .getfield 775, .iaload, .iconst 2, .if_icmp .eq 11, .aload_n 0, .iconst 1, .invokevirtual 179, .goto 45]),
  (28, [.aload_n 0, .getfield 776, .ifCond .ne 38, .aload_n 0, .getfield 774, .aload_n 0, .getfield 775, .laload, .iload_n 1, .i2l, .lcmp, .ifCond .lt 18, .aload_n 0, .getfield 774, .aload_n 0, .getfield 775, .laload, .iload_n 2, .i2l, .lcmp, .ifCond .le 8, .aload_n 0, .iconst 4, .invokevirtual 179, .aload_n 0, .getfield 776, .ifCond .le 5, .iconst 0, .ireturn]),
  (65, [.aload_n 0, .iconst 4, .invokevirtual 179, .aload_n 0, .getfield 776, .ifCond .le 5, .iconst 0, .ireturn]),
  (70, [.aload_n 0, .getfield 776, .ifCond .le 5, .iconst 0, .ireturn]),
  (79, [.aload_n 0, .dup, .getfield 775, .iconst 1, .iadd, .putfield 775, .aload_n 0, .getfield 774, .aload_n 0, .getfield 775, .iconst 1, .isub, .laload, .l2i, .ireturn])]
/-- ShoeOrchardModel.readOnce()V -/
def P188 : List (Nat × List Instr) := [
  (0, [.aload_n 0, .iconst 5, .iconst 4, .invokevirtual 181, .istore_n 1, .iload_n 1, .ifCond .ge 11, .aload_n 0, .iconst 1, .invokevirtual 179, .goto 20]),
  (19, [.aload_n 0, .getfield 788, .iload_n 1, .ishr, .iconst 1, .iand, .iconst 1, .if_icmp .ne 8, .aload_n 0, .iconst 3, .invokevirtual 179, .aload_n 0, .getfield 776, .ifCond .le 4, .return_]),
  (36, [.aload_n 0, .getfield 776, .ifCond .le 4, .return_]),
  (44, [.aload_n 0, .dup, .getfield 788, .iconst 1, .iload_n 1, .ishl, .ior, .putfield 788, .aload_n 0, .dup, .getfield 775, .iconst 1, .iadd, .putfield 775, .iload_n 1, .iconst 2, .if_icmp .ge 23, .aload_n 0, .getfield 778, .bipush 52, .iload_n 1, .iadd, .aload_n 0, .iload_n 1, .iconst 5, .iload_n 1, .iadd, .invokevirtual 187, .iastore, .goto 37]),
  (91, [.iload_n 1, .iconst 2, .if_icmp .ne 10, .aload_n 0, .invokevirtual 189, .goto 25]),
  (103, [.aload_n 0, .getfield 778, .bipush 55, .aload_n 0, .getfield 781, .iastore, .aload_n 0, .iconst 0, .invokevirtual 190, .aload_n 0, .iconst 0, .iconst 0, .invokevirtual 196, .return_]),
  (125, [.return_])]
/-- ShoeOrchardModel.readFrost()V -/
def P189 : List (Nat × List Instr) := [
  (0, [.iconst 0, .istore_n 1]),
  (2, [.aload_n 0, .getfield 776, .ifCond .ne 81, .iload_n 1, .ifCond .eq 16, .aload_n 0, .getfield 772, .aload_n 0, .getfield 775, .iaload, .iconst 2, .if_icmp .ne 64, .aload_n 0, .iconst 0, .iconst 3, .invokevirtual 187, .istore_n 2, .aload_n 0, .getfield 776, .ifCond .ne 27, .iload_n 1, .bipush 12, .if_icmp .ne 21, .aload_n 0, .dup, .getfield 775, .iconst 1, .isub, .putfield 775, .aload_n 0, .iconst 5, .invokevirtual 179, .goto 23]),
  (26, [.aload_n 0, .iconst 0, .iconst 3, .invokevirtual 187, .istore_n 2, .aload_n 0, .getfield 776, .ifCond .ne 27, .iload_n 1, .bipush 12, .if_icmp .ne 21, .aload_n 0, .dup, .getfield 775, .iconst 1, .isub, .putfield 775, .aload_n 0, .iconst 5, .invokevirtual 179, .goto 23]),
  (64, [.aload_n 0, .getfield 776, .ifCond .ne 16, .aload_n 0, .getfield 778, .bipush 86, .iload_n 1, .iadd, .iload_n 2, .iastore, .iinc 1 1, .goto (-82)]),
  (84, [.goto (-82)]),
  (87, [.aload_n 0, .getfield 778, .bipush 54, .iload_n 1, .iastore, .return_])]
/-- ShoeOrchardModel.whole(I)V -/
def P190 : List (Nat × List Instr) := [
  (0, [.aload_n 0, .iload_n 1, .invokevirtual 191]),
  (5, [.aload_n 0, .bipush 23, .invokevirtual 177, .ifCond .ne 12, .aload_n 0, .bipush 24, .invokevirtual 177, .ifCond .eq 44, .aload_n 0, .bipush 23, .invokevirtual 177, .istore_n 2, .aload_n 0, .dup, .getfield 775, .iconst 1, .iadd, .putfield 775, .aload_n 0, .iload_n 1, .invokevirtual 191, .aload_n 0, .iload_n 2, .ifCond .eq 8, .bipush 9, .goto 5]),
  (23, [.aload_n 0, .bipush 23, .invokevirtual 177, .istore_n 2, .aload_n 0, .dup, .getfield 775, .iconst 1, .iadd, .putfield 775, .aload_n 0, .iload_n 1, .invokevirtual 191, .aload_n 0, .iload_n 2, .ifCond .eq 8, .bipush 9, .goto 5]),
  (55, [.bipush 10, .iconst 0, .invokevirtual 196, .goto (-56)]),
  (57, [.iconst 0, .invokevirtual 196, .goto (-56)]),
  (64, [.return_])]
/-- ShoeOrchardModel.test(I)V -/
def P191 : List (Nat × List Instr) := [
  (0, [.aload_n 0, .iload_n 1, .invokevirtual 192, .aload_n 0, .bipush 60, .invokevirtual 195, .istore_n 2, .aload_n 0, .bipush 60, .invokevirtual 197, .ifCond .ne 12, .aload_n 0, .bipush 61, .invokevirtual 197, .ifCond .eq 24, .aload_n 0, .iload_n 1, .invokevirtual 192, .aload_n 0, .iload_n 2, .ifCond .eq 8, .bipush 7, .goto 5]),
  (30, [.aload_n 0, .iload_n 1, .invokevirtual 192, .aload_n 0, .iload_n 2, .ifCond .eq 8, .bipush 7, .goto 5]),
  (45, [.bipush 8, .iconst 0, .invokevirtual 196, .return_]),
  (47, [.iconst 0, .invokevirtual 196, .return_]),
  (51, [.return_])]
/-- ShoeOrchardModel.sums(I)V -/
def P192 : List (Nat × List Instr) := [
  (0, [.aload_n 0, .iload_n 1, .invokevirtual 193]),
  (5, [.aload_n 0, .bipush 43, .invokevirtual 195, .ifCond .ne 12, .aload_n 0, .bipush 45, .invokevirtual 195, .ifCond .eq 42, .aload_n 0, .bipush 43, .invokevirtual 195, .istore_n 2, .aload_n 0, .dup, .getfield 775, .iconst 1, .iadd, .putfield 775, .aload_n 0, .iload_n 1, .invokevirtual 193, .aload_n 0, .iload_n 2, .ifCond .eq 7, .iconst 4, .goto 4]),
  (23, [.aload_n 0, .bipush 43, .invokevirtual 195, .istore_n 2, .aload_n 0, .dup, .getfield 775, .iconst 1, .iadd, .putfield 775, .aload_n 0, .iload_n 1, .invokevirtual 193, .aload_n 0, .iload_n 2, .ifCond .eq 7, .iconst 4, .goto 4]),
  (54, [.iconst 5, .iconst 0, .invokevirtual 196, .goto (-54)]),
  (55, [.iconst 0, .invokevirtual 196, .goto (-54)]),
  (62, [.return_])]
/-- ShoeOrchardModel.products(I)V -/
def P193 : List (Nat × List Instr) := [
  (0, [.aload_n 0, .iload_n 1, .invokevirtual 194]),
  (5, [.aload_n 0, .bipush 42, .invokevirtual 197, .ifCond .eq 18, .aload_n 0, .iload_n 1, .invokevirtual 194, .aload_n 0, .bipush 6, .iconst 0, .invokevirtual 196, .goto (-21)]),
  (29, [.return_])]
/-- ShoeOrchardModel.takePart(I)V -/
def P194 : List (Nat × List Instr) := [
  (0, [.aload_n 0, .getfield 776, .ifCond .le 4, .return_]),
  (8, [.aload_n 0, .getfield 772, .aload_n 0, .getfield 775, .iaload, .iconst 2, .if_icmp .ne 7, .iconst 1, .goto 4]),
  (25, [.iconst 0, .istore_n 2, .aload_n 0, .bipush 25, .iconst 4, .invokevirtual 181, .istore_n 3, .iload_n 3, .ifCond .ge 33, .iload_n 2, .ifCond .ne 29, .aload_n 0, .bipush 40, .invokevirtual 195, .ifCond .ne 20, .aload_n 0, .bipush 22, .invokevirtual 177, .ifCond .ne 11, .aload_n 0, .iconst 1, .invokevirtual 179, .goto 13]),
  (26, [.istore_n 2, .aload_n 0, .bipush 25, .iconst 4, .invokevirtual 181, .istore_n 3, .iload_n 3, .ifCond .ge 33, .iload_n 2, .ifCond .ne 29, .aload_n 0, .bipush 40, .invokevirtual 195, .ifCond .ne 20, .aload_n 0, .bipush 22, .invokevirtual 177, .ifCond .ne 11, .aload_n 0, .iconst 1, .invokevirtual 179, .goto 13]),
  (69, [.iload_n 1, .iconst 5, .if_icmp .ne 8, .aload_n 0, .iconst 5, .invokevirtual 179, .aload_n 0, .getfield 776, .ifCond .le 4, .return_]),
  (79, [.aload_n 0, .getfield 776, .ifCond .le 4, .return_]),
  (87, [.aload_n 0, .bipush 22, .invokevirtual 186, .ifCond .eq 19, .aload_n 0, .iload_n 1, .iconst 1, .iadd, .invokevirtual 194, .aload_n 0, .iconst 3, .iconst 0, .invokevirtual 196, .goto 69]),
  (112, [.aload_n 0, .bipush 40, .invokevirtual 197, .ifCond .eq 19, .aload_n 0, .iload_n 1, .iconst 1, .iadd, .invokevirtual 190, .aload_n 0, .bipush 41, .invokevirtual 198, .goto 44]),
  (137, [.aload_n 0, .iload_n 2, .ifCond .eq 7, .iconst 1, .goto 4]),
  (146, [.iconst 2, .iload_n 2, .ifCond .eq 16, .aload_n 0, .getfield 774, .aload_n 0, .getfield 775, .laload, .l2i, .goto 4]),
  (147, [.iload_n 2, .ifCond .eq 16, .aload_n 0, .getfield 774, .aload_n 0, .getfield 775, .laload, .l2i, .goto 4]),
  (164, [.iload_n 3, .invokevirtual 196, .aload_n 0, .dup, .getfield 775, .iconst 1, .iadd, .putfield 775, .return_]),
  (165, [.invokevirtual 196, .aload_n 0, .dup, .getfield 775, .iconst 1, .iadd, .putfield 775, .return_]),
  (178, [.return_])]
/-- ShoeOrchardModel.isSign(I)Z -/
def P195 : List (Nat × List Instr) := [
  (0, [.aload_n 0, .getfield 776, .ifCond .ne 35, .aload_n 0, .getfield 772, .aload_n 0, .getfield 775, .iaload, .iconst 3, .if_icmp .ne 22, .aload_n 0, .getfield 774, .aload_n 0, .getfield 775, .laload, .iload_n 1, .i2l, .lcmp, .ifCond .ne 7, .iconst 1, .goto 4]),
  (39, [.iconst 0, .ireturn]),
  (40, [.ireturn])]
/-- ShoeOrchardModel.emit(II)V -/
def P196 : List (Nat × List Instr) := [
  (0, [.aload_n 0, .getfield 779, .sipush 1100, .aload_n 0, .getfield 781, .iadd, .iload_n 1, .iastore, .aload_n 0, .getfield 780, .sipush 1100, .aload_n 0, .getfield 781, .iadd, .iload_n 2, .iastore, .aload_n 0, .dup, .getfield 781, .iconst 1, .iadd, .putfield 781, .return_])]
/-- ShoeOrchardModel.hasSign(I)Z -/
def P197 : List (Nat × List Instr) := [
  (0, [.aload_n 0, .iload_n 1, .invokevirtual 195, .istore_n 2, .aload_n 0, .dup, .getfield 775, .iload_n 2, .ifCond .eq 7, .iconst 1, .goto 4]),
  (19, [.iconst 0, .iadd, .putfield 775, .iload_n 2, .ireturn]),
  (20, [.iadd, .putfield 775, .iload_n 2, .ireturn])]
/-- ShoeOrchardModel.takeSign(I)V -/
def P198 : List (Nat × List Instr) := [
  (0, [.aload_n 0, .iload_n 1, .invokevirtual 195, .ifCond .eq 16, .aload_n 0, .dup, .getfield 775, .iconst 1, .iadd, .putfield 775, .goto 8]),
  (21, [.aload_n 0, .iconst 1, .invokevirtual 179, .return_]),
  (26, [.return_])]
/-- ShoeOrchardModel.morning()I -/
def P199 : List (Nat × List Instr) := [
  (0, [.aload_n 0, .iconst 0, .putfield 768, .aload_n 0, .invokevirtual 171, .iconst 0, .istore_n 1]),
  (11, [.aload_n 0, .getfield 776, .ifCond .ne 185, .aload_n 0, .getfield 772, .aload_n 0, .getfield 775, .iaload, .ifCond .eq 173, .aload_n 0, .bipush 9, .iconst 5, .invokevirtual 181, .istore_n 2, .iload_n 2, .ifCond .ge 11, .aload_n 0, .iconst 1, .invokevirtual 179, .goto 144]),
  (50, [.iload_n 1, .bipush 40, .if_icmp .ne 11, .aload_n 0, .iconst 5, .invokevirtual 179, .goto 130]),
  (64, [.aload_n 0, .dup, .getfield 775, .iconst 1, .iadd, .putfield 775, .bipush 125, .iconst 3, .iload_n 1, .imul, .iadd, .istore_n 3, .aload_n 0, .getfield 789, .iload_n 3, .iload_n 2, .iastore, .aload_n 0, .getfield 789, .iload_n 3, .iconst 1, .iadd, .iload_n 2, .iconst 4, .if_icmp .ne 7, .iconst 0, .goto 20]),
  (104, [.aload_n 0, .iload_n 2, .iconst 2, .if_icmp .ge 8, .bipush 20, .goto 4]),
  (115, [.iconst 0, .bipush (-2), .invokevirtual 200, .iastore, .aload_n 0, .getfield 789, .iload_n 3, .iconst 2, .iadd, .iload_n 2, .ifCond .ne 13, .aload_n 0, .iconst 0, .bipush (-2), .invokevirtual 200, .goto 47]),
  (116, [.bipush (-2), .invokevirtual 200, .iastore, .aload_n 0, .getfield 789, .iload_n 3, .iconst 2, .iadd, .iload_n 2, .ifCond .ne 13, .aload_n 0, .iconst 0, .bipush (-2), .invokevirtual 200, .goto 47]),
  (121, [.iastore, .aload_n 0, .getfield 789, .iload_n 3, .iconst 2, .iadd, .iload_n 2, .ifCond .ne 13, .aload_n 0, .iconst 0, .bipush (-2), .invokevirtual 200, .goto 47]),
  (143, [.iload_n 2, .iconst 1, .if_icmp .ne 20, .aload_n 0, .bipush 20, .aload_n 0, .getfield 789, .iload_n 3, .iconst 1, .iadd, .iaload, .invokevirtual 200, .goto 25]),
  (165, [.iload_n 2, .iconst 2, .if_icmp .ne 19, .aload_n 0, .iconst 0, .aload_n 0, .getfield 789, .iload_n 3, .iconst 1, .iadd, .iaload, .invokevirtual 200, .goto 4]),
  (186, [.iconst 0, .iastore, .iinc 1 1, .aload_n 0, .bipush 59, .invokevirtual 198, .goto (-186)]),
  (187, [.iastore, .iinc 1 1, .aload_n 0, .bipush 59, .invokevirtual 198, .goto (-186)]),
  (191, [.aload_n 0, .bipush 59, .invokevirtual 198, .goto (-186)]),
  (200, [.aload_n 0, .getfield 776, .ifCond .le 8, .aload_n 0, .getfield 776, .ireturn]),
  (212, [.aload_n 0, .getfield 789, .iconst 0, .iload_n 1, .iastore, .iconst 0, .istore_n 2]),
  (221, [.iload_n 2, .iconst 3, .iload_n 1, .imul, .if_icmp .ge 26, .aload_n 0, .getfield 789, .iconst 1, .iload_n 2, .iadd, .aload_n 0, .getfield 789, .bipush 125, .iload_n 2, .iadd, .iaload, .iastore, .iinc 2 1, .goto (-27)]),
  (251, [.iconst 0, .ireturn])]
/-- ShoeOrchardModel.takeTold(II)I -/
def P200 : List (Nat × List Instr) := [
  (0, [.aload_n 0, .getfield 776, .ifCond .ne 15, .aload_n 0, .invokevirtual 180, .ifCond .ne 8, .aload_n 0, .iconst 1, .invokevirtual 179, .aload_n 0, .getfield 776, .ifCond .le 7, .iconst (-1), .goto 10]),
  (19, [.aload_n 0, .getfield 776, .ifCond .le 7, .iconst (-1), .goto 10]),
  (30, [.aload_n 0, .iconst 0, .invokevirtual 182, .iload_n 1, .isub, .istore_n 3, .aload_n 0, .getfield 776, .ifCond .ne 20, .iload_n 3, .iconst 0, .iconst 5, .invokestatic 201, .ifCond .ne 11, .aload_n 0, .iconst 2, .invokevirtual 179, .goto 20]),
  (37, [.istore_n 3, .aload_n 0, .getfield 776, .ifCond .ne 20, .iload_n 3, .iconst 0, .iconst 5, .invokestatic 201, .ifCond .ne 11, .aload_n 0, .iconst 2, .invokevirtual 179, .goto 20]),
  (62, [.aload_n 0, .getfield 776, .ifCond .ne 13, .iload_n 3, .iload_n 2, .if_icmp .ne 8, .aload_n 0, .iconst 3, .invokevirtual 179, .aload_n 0, .dup, .getfield 775, .aload_n 0, .getfield 776, .ifCond .le 7, .iconst 0, .goto 4]),
  (79, [.aload_n 0, .dup, .getfield 775, .aload_n 0, .getfield 776, .ifCond .le 7, .iconst 0, .goto 4]),
  (95, [.iconst 1, .iadd, .putfield 775, .aload_n 0, .getfield 776, .ifCond .le 7, .iconst 0, .goto 4]),
  (96, [.iadd, .putfield 775, .aload_n 0, .getfield 776, .ifCond .le 7, .iconst 0, .goto 4]),
  (111, [.iload_n 3, .ireturn]),
  (112, [.ireturn])]
/-- ShoeOrchardModel.within(III)Z -/
def P201 : List (Nat × List Instr) := [
  (0, [.iload_n 0, .iload_n 1, .if_icmp .lt 12, .iload_n 0, .iload_n 2, .if_icmp .gt 7, .iconst 1, .goto 4]),
  (14, [.iconst 0, .ireturn]),
  (15, [.ireturn])]
/-- ShoeOrchardModel.tree(II)I -/
def P202 : List (Nat × List Instr) := [
  (0, [.aload_n 0, .iconst 0, .putfield 768, .aload_n 0, .iload_n 1, .invokevirtual 203, .ifCond .eq 12, .iload_n 2, .iconst 0, .iconst 4, .invokestatic 201, .ifCond .ne 6, .bipush (-2), .ireturn]),
  (22, [.bipush (-2), .ireturn]),
  (25, [.iload_n 2, .tableswitch 76 0 3 #[30, 37, 46, 56]]),
  (56, [.aload_n 0, .iload_n 1, .iconst 0, .invokevirtual 167, .ireturn]),
  (63, [.aload_n 0, .getfield 792, .iconst 1, .iload_n 1, .iadd, .iaload, .ireturn]),
  (72, [.aload_n 0, .getfield 792, .bipush 7, .iload_n 1, .iadd, .iaload, .ireturn]),
  (82, [.aload_n 0, .iconst 0, .iload_n 1, .invokevirtual 204, .ifCond .eq 12, .aload_n 0, .iconst 0, .iload_n 1, .invokevirtual 207, .goto 4]),
  (100, [.iconst (-1), .ireturn]),
  (101, [.ireturn]),
  (102, [.aload_n 0, .iconst 0, .iload_n 1, .invokevirtual 210, .ireturn])]
/-- ShoeOrchardModel.isTree(I)Z -/
def P203 : List (Nat × List Instr) := [
  (0, [.iload_n 1, .ifCond .lt 15, .iload_n 1, .aload_n 0, .invokevirtual 166, .if_icmp .ge 7, .iconst 1, .goto 4]),
  (16, [.iconst 0, .ireturn]),
  (17, [.ireturn])]
/-- ShoeOrchardModel.doesBear(II)Z -/
def P204 : List (Nat × List Instr) := [
  (0, [.aload_n 0, .iload_n 2, .aload_n 0, .iload_n 1, .invokevirtual 205, .invokevirtual 206, .ireturn])]
/-- ShoeOrchardModel.frostOf(I)I -/
def P205 : List (Nat × List Instr) := [
  (0, [.aload_n 0, .getfield 778, .bipush 36, .aload_n 0, .getfield 792, .iload_n 1, .iconst 0, .iadd, .iaload, .aload_n 0, .getfield 778, .iconst 4, .iaload, .irem, .iadd, .iaload, .ireturn])]
/-- ShoeOrchardModel.stands(II)Z -/
def P206 : List (Nat × List Instr) := [
  (0, [.aload_n 0, .iload_n 1, .iconst 0, .invokevirtual 167, .istore_n 3, .iload_n 2, .iload_n 3, .ifCond .ne 7, .iconst 1, .goto 22]),
  (16, [.iload_n 3, .iconst 1, .if_icmp .ne 7, .iconst 3, .goto 13]),
  (25, [.iload_n 3, .iconst 2, .if_icmp .ne 7, .iconst 0, .goto 4]),
  (34, [.iconst 2, .if_icmp .gt 7, .iconst 1, .goto 4]),
  (35, [.if_icmp .gt 7, .iconst 1, .goto 4]),
  (42, [.iconst 0, .ireturn]),
  (43, [.ireturn])]
/-- ShoeOrchardModel.sizeOf(II)I -/
def P207 : List (Nat × List Instr) := [
  (0, [.aload_n 0, .getfield 790, .iconst 0, .aload_n 0, .getfield 792, .iload_n 1, .iconst 1, .iadd, .iload_n 2, .iadd, .iaload, .iastore, .aload_n 0, .getfield 790, .iconst 1, .aload_n 0, .getfield 792, .iload_n 1, .bipush 7, .iadd, .iload_n 2, .iadd, .iaload, .iastore, .aload_n 0, .getfield 790, .iconst 2, .aload_n 0, .iload_n 1, .invokevirtual 205, .iastore, .aload_n 0, .getfield 790, .iconst 3, .aload_n 0, .getfield 792, .iload_n 1, .iconst 0, .iadd, .iaload, .iastore, .aload_n 0, .getfield 778, .iconst 5, .iaload, .ifCond .ge 12, .aload_n 0, .getfield 790, .iconst 0, .iaload, .goto 13]),
  (76, [.aload_n 0, .aload_n 0, .getfield 778, .iconst 5, .iaload, .invokevirtual 208, .istore_n 3, .iload_n 3, .ifCond .ge 7, .iconst 0, .goto 15]),
  (86, [.istore_n 3, .iload_n 3, .ifCond .ge 7, .iconst 0, .goto 15]),
  (95, [.iload_n 3, .bipush 40, .if_icmp .le 8, .bipush 40, .goto 4]),
  (106, [.iload_n 3, .ireturn]),
  (107, [.ireturn])]
/-- ShoeOrchardModel.worthAt(I)I -/
def P208 : List (Nat × List Instr) := [
  (0, [.iconst 0, .istore_n 2, .iload_n 1, .istore_n 3]),
  (4, [.aload_n 0, .getfield 779, .iload_n 3, .iaload, .ifCond .eq 130, .aload_n 0, .getfield 779, .iload_n 3, .iaload, .istore 4, .iload 4, .iconst 1, .if_icmp .eq 9, .iload 4, .iconst 2, .if_icmp .ne 41, .aload_n 0, .getfield 791, .iload_n 2, .iload 4, .iconst 1, .if_icmp .ne 12, .aload_n 0, .getfield 780, .iload_n 3, .iaload, .goto 14]),
  (33, [.aload_n 0, .getfield 791, .iload_n 2, .iload 4, .iconst 1, .if_icmp .ne 12, .aload_n 0, .getfield 780, .iload_n 3, .iaload, .goto 14]),
  (53, [.aload_n 0, .getfield 790, .aload_n 0, .getfield 780, .iload_n 3, .iaload, .iaload, .iastore, .iinc 2 1, .goto 66]),
  (64, [.iastore, .iinc 2 1, .goto 66]),
  (71, [.iload 4, .iconst 3, .if_icmp .ne 30, .aload_n 0, .getfield 791, .iload_n 2, .iconst 1, .isub, .aload_n 0, .getfield 791, .iload_n 2, .iconst 1, .isub, .iaload, .ifCond .ne 7, .iconst 1, .goto 4]),
  (99, [.iconst 0, .iastore, .goto 33]),
  (100, [.iastore, .goto 33]),
  (104, [.iinc 2 (-1), .aload_n 0, .getfield 791, .iload_n 2, .iconst 1, .isub, .iload 4, .aload_n 0, .getfield 791, .iload_n 2, .iconst 1, .isub, .iaload, .aload_n 0, .getfield 791, .iload_n 2, .iaload, .invokestatic 209, .iastore, .iinc 3 1, .goto (-133)]),
  (134, [.iinc 3 1, .goto (-133)]),
  (140, [.aload_n 0, .getfield 791, .iconst 0, .iaload, .ireturn])]
/-- ShoeOrchardModel.both(III)I -/
def P209 : List (Nat × List Instr) := [
  (0, [.iload_n 0, .tableswitch 87 4 9 #[39, 43, 47, 51, 62, 73]]),
  (40, [.iload_n 1, .iload_n 2, .iadd, .ireturn]),
  (44, [.iload_n 1, .iload_n 2, .isub, .ireturn]),
  (48, [.iload_n 1, .iload_n 2, .imul, .ireturn]),
  (52, [.iload_n 1, .iload_n 2, .if_icmp .ge 7, .iconst 1, .goto 4]),
  (61, [.iconst 0, .ireturn]),
  (62, [.ireturn]),
  (63, [.iload_n 1, .iload_n 2, .if_icmp .ne 7, .iconst 1, .goto 4]),
  (72, [.iconst 0, .ireturn]),
  (73, [.ireturn]),
  (74, [.iload_n 1, .ifCond .eq 11, .iload_n 2, .ifCond .eq 7, .iconst 1, .goto 4]),
  (86, [.iconst 0, .ireturn]),
  (87, [.ireturn]),
  (88, [.iload_n 1, .ifCond .ne 7, .iload_n 2, .ifCond .eq 7, .iconst 1, .goto 4]),
  (96, [.iconst 1, .goto 4]),
  (100, [.iconst 0, .ireturn]),
  (101, [.ireturn])]
/-- ShoeOrchardModel.haveOf(II)I -/
def P210 : List (Nat × List Instr) := [
  (0, [.iconst 0, .istore_n 3, .iconst 0, .istore 4]),
  (5, [.iload 4, .aload_n 0, .invokevirtual 168, .if_icmp .ge 36, .iload_n 3, .aload_n 0, .getfield 792, .iload_n 1, .bipush 19, .iadd, .iload 4, .iadd, .iaload, .iload_n 2, .if_icmp .ne 10, .iconst 1, .iload 4, .ishl, .goto 4]),
  (38, [.iconst 0, .ior, .istore_n 3, .iinc 4 1, .goto (-39)]),
  (39, [.ior, .istore_n 3, .iinc 4 1, .goto (-39)]),
  (47, [.iload_n 3, .ireturn])]
/-- ShoeOrchardModel.person(II)I -/
def P211 : List (Nat × List Instr) := [
  (0, [.aload_n 0, .iconst 0, .putfield 768, .aload_n 0, .iload_n 1, .invokevirtual 212, .ifCond .eq 12, .iload_n 2, .iconst 0, .iconst 5, .invokestatic 201, .ifCond .ne 6, .bipush (-2), .ireturn]),
  (22, [.bipush (-2), .ireturn]),
  (25, [.iload_n 2, .tableswitch 81 0 4 #[34, 41, 51, 61, 71]]),
  (60, [.aload_n 0, .iload_n 1, .iconst 0, .invokevirtual 169, .ireturn]),
  (67, [.aload_n 0, .getfield 792, .bipush 13, .iload_n 1, .iadd, .iaload, .ireturn]),
  (77, [.aload_n 0, .getfield 792, .bipush 19, .iload_n 1, .iadd, .iaload, .ireturn]),
  (87, [.aload_n 0, .getfield 792, .bipush 25, .iload_n 1, .iadd, .iaload, .ireturn]),
  (97, [.aload_n 0, .getfield 792, .bipush 31, .iload_n 1, .iadd, .iaload, .ireturn]),
  (107, [.aload_n 0, .getfield 792, .bipush 37, .iload_n 1, .iadd, .iaload, .ireturn])]
/-- ShoeOrchardModel.isPerson(I)Z -/
def P212 : List (Nat × List Instr) := [
  (0, [.iload_n 1, .ifCond .lt 15, .iload_n 1, .aload_n 0, .invokevirtual 168, .if_icmp .ge 7, .iconst 1, .goto 4]),
  (16, [.iconst 0, .ireturn]),
  (17, [.ireturn])]
/-- ShoeOrchardModel.fits(II)Z -/
def P213 : List (Nat × List Instr) := [
  (0, [.aload_n 0, .iconst 0, .putfield 768, .aload_n 0, .iload_n 1, .invokevirtual 212, .ifCond .eq 25, .aload_n 0, .iload_n 2, .invokevirtual 203, .ifCond .eq 17, .aload_n 0, .iconst 0, .iload_n 1, .iload_n 2, .invokevirtual 214, .ifCond .eq 7, .iconst 1, .goto 4]),
  (35, [.iconst 0, .ireturn]),
  (36, [.ireturn])]
/-- ShoeOrchardModel.doesFit(III)Z -/
def P214 : List (Nat × List Instr) := [
  (0, [.aload_n 0, .iload_n 1, .iload_n 3, .invokevirtual 204, .ifCond .eq 22, .aload_n 0, .iload_n 1, .iload_n 2, .aload_n 0, .iload_n 1, .iload_n 3, .invokevirtual 207, .invokevirtual 215, .ifCond .ne 7, .iconst 1, .goto 4]),
  (28, [.iconst 0, .ireturn]),
  (29, [.ireturn])]
/-- ShoeOrchardModel.pinchBy(III)I -/
def P215 : List (Nat × List Instr) := [
  (0, [.aload_n 0, .iload_n 2, .iconst 0, .invokevirtual 169, .istore 4, .aload_n 0, .getfield 792, .iload_n 1, .bipush 13, .iadd, .iload_n 2, .iadd, .iaload, .istore 5, .iload_n 3, .iload 5, .invokestatic 216, .aload_n 0, .getfield 778, .iconst 2, .iaload, .isub, .iload 4, .iconst 3, .if_icmp .ne 7, .iconst 1, .goto 4]),
  (44, [.iconst 0, .isub, .istore 6, .iconst 2, .iload_n 3, .imul, .iload 5, .invokestatic 216, .aload_n 0, .getfield 778, .iconst 2, .iaload, .isub, .istore 7, .iload 4, .iconst 2, .if_icmp .ne 15, .iload 7, .iload 6, .if_icmp .ge 8, .iload 7, .goto 5]),
  (45, [.isub, .istore 6, .iconst 2, .iload_n 3, .imul, .iload 5, .invokestatic 216, .aload_n 0, .getfield 778, .iconst 2, .iaload, .isub, .istore 7, .iload 4, .iconst 2, .if_icmp .ne 15, .iload 7, .iload 6, .if_icmp .ge 8, .iload 7, .goto 5]),
  (83, [.iload 6, .istore 6, .iload 6, .ifCond .ge 7, .iconst 0, .goto 5]),
  (85, [.istore 6, .iload 6, .ifCond .ge 7, .iconst 0, .goto 5]),
  (96, [.iload 6, .ireturn]),
  (98, [.ireturn])]
/-- ShoeOrchardModel.apart(II)I -/
def P216 : List (Nat × List Instr) := [
  (0, [.iload_n 0, .iload_n 1, .if_icmp .ge 9, .iload_n 1, .iload_n 0, .isub, .goto 6]),
  (11, [.iload_n 0, .iload_n 1, .isub, .ireturn]),
  (14, [.ireturn])]
/-- ShoeOrchardModel.tryOn(II)I -/
def P217 : List (Nat × List Instr) := [
  (0, [.aload_n 0, .iconst 0, .putfield 768, .aload_n 0, .iload_n 1, .invokevirtual 212, .ifCond .eq 21, .aload_n 0, .iload_n 2, .invokevirtual 203, .ifCond .eq 13, .aload_n 0, .iconst 0, .iload_n 1, .iload_n 2, .invokevirtual 218, .ifCond .ne 5, .iconst (-1), .ireturn]),
  (31, [.iconst (-1), .ireturn]),
  (33, [.aload_n 0, .invokevirtual 219, .aload_n 0, .iconst 0, .iload_n 1, .iload_n 2, .invokevirtual 221, .ifCond .eq 7, .iconst 1, .goto 4]),
  (51, [.iconst 0, .ireturn]),
  (52, [.ireturn])]
/-- ShoeOrchardModel.mayTry(III)Z -/
def P218 : List (Nat × List Instr) := [
  (0, [.aload_n 0, .getfield 792, .iload_n 1, .bipush 19, .iadd, .iload_n 2, .iadd, .iaload, .ifCond .ge 45, .aload_n 0, .getfield 792, .iload_n 1, .bipush 25, .iadd, .iload_n 2, .iadd, .iaload, .aload_n 0, .getfield 778, .iconst 3, .iaload, .if_icmp .ge 25, .aload_n 0, .iload_n 1, .iload_n 3, .invokevirtual 204, .ifCond .eq 16, .aload_n 0, .iload_n 1, .iload_n 3, .invokevirtual 210, .ifCond .ne 7, .iconst 1, .goto 4]),
  (56, [.iconst 0, .ireturn]),
  (57, [.ireturn])]
/-- ShoeOrchardModel.keeps()V -/
def P219 : List (Nat × List Instr) := [
  (0, [.aload_n 0, .getfield 793, .bipush 16, .if_icmp .ne 47, .iconst 1, .istore_n 1]),
  (11, [.iload_n 1, .bipush 16, .if_icmp .ge 29, .aload_n 0, .bipush 60, .iconst 5, .iload_n 1, .iadd, .imul, .bipush 60, .iconst 5, .iload_n 1, .iadd, .iconst 1, .isub, .imul, .bipush 43, .invokevirtual 220, .iinc 1 1, .goto (-29)]),
  (43, [.aload_n 0, .dup, .getfield 793, .iconst 1, .isub, .putfield 793, .aload_n 0, .iconst 0, .bipush 60, .iconst 5, .aload_n 0, .getfield 793, .iadd, .imul, .bipush 43, .invokevirtual 220, .aload_n 0, .dup, .getfield 793, .iconst 1, .iadd, .putfield 793, .return_]),
  (53, [.aload_n 0, .iconst 0, .bipush 60, .iconst 5, .aload_n 0, .getfield 793, .iadd, .imul, .bipush 43, .invokevirtual 220, .aload_n 0, .dup, .getfield 793, .iconst 1, .iadd, .putfield 793, .return_])]
/-- ShoeOrchardModel.copies(III)V -/
def P220 : List (Nat × List Instr) := [
  (0, [.iconst 0, .istore 4]),
  (3, [.iload 4, .iload_n 3, .if_icmp .ge 27, .aload_n 0, .getfield 792, .iload_n 2, .iload 4, .iadd, .aload_n 0, .getfield 792, .iload_n 1, .iload 4, .iadd, .iaload, .iastore, .iinc 4 1, .goto (-27)]),
  (33, [.return_])]
/-- ShoeOrchardModel.tries(III)Z -/
def P221 : List (Nat × List Instr) := [
  (0, [.aload_n 0, .iload_n 1, .iload_n 2, .iload_n 3, .invokevirtual 214, .istore 4, .aload_n 0, .getfield 792, .iload_n 1, .bipush 25, .iadd, .iload_n 2, .iadd, .dup2, .iaload, .iconst 1, .iadd, .iastore, .iload 4, .ifCond .eq 10, .aload_n 0, .iload_n 1, .iload_n 2, .iload_n 3, .invokevirtual 222, .iload 4, .ireturn]),
  (36, [.iload 4, .ireturn])]
/-- ShoeOrchardModel.isShodBy(III)V -/
def P222 : List (Nat × List Instr) := [
  (0, [.aload_n 0, .getfield 792, .iload_n 1, .bipush 19, .iadd, .iload_n 2, .iadd, .iload_n 3, .iastore, .aload_n 0, .getfield 792, .iload_n 1, .bipush 31, .iadd, .iload_n 2, .iadd, .dup2, .iaload, .aload_n 0, .iload_n 3, .invokevirtual 223, .iadd, .iastore, .return_])]
/-- ShoeOrchardModel.roadBy(I)I -/
def P223 : List (Nat × List Instr) := [
  (0, [.aload_n 0, .iload_n 1, .iconst 0, .invokevirtual 167, .istore_n 2, .iload_n 2, .ifCond .ne 7, .iconst 3, .goto 22]),
  (15, [.iload_n 2, .iconst 1, .if_icmp .ne 7, .iconst 2, .goto 13]),
  (24, [.iload_n 2, .iconst 2, .if_icmp .ne 7, .iconst 0, .goto 4]),
  (33, [.iconst 1, .ireturn]),
  (34, [.ireturn])]
/-- ShoeOrchardModel.share(II)Z -/
def P224 : List (Nat × List Instr) := [
  (0, [.aload_n 0, .iconst 0, .putfield 768, .aload_n 0, .iload_n 1, .invokevirtual 212, .ifCond .eq 26, .aload_n 0, .iload_n 2, .invokevirtual 212, .ifCond .eq 18, .iload_n 1, .iload_n 2, .if_icmp .eq 13, .aload_n 0, .iconst 0, .iload_n 1, .iload_n 2, .invokevirtual 225, .ifCond .ne 5, .iconst 0, .ireturn]),
  (36, [.iconst 0, .ireturn]),
  (38, [.aload_n 0, .invokevirtual 219, .aload_n 0, .iconst 0, .iload_n 1, .iload_n 2, .invokevirtual 226, .iconst 1, .ireturn])]
/-- ShoeOrchardModel.mayShare(III)Z -/
def P225 : List (Nat × List Instr) := [
  (0, [.aload_n 0, .getfield 792, .iload_n 1, .bipush 19, .iadd, .iload_n 2, .iadd, .iaload, .istore 4, .iload 4, .ifCond .lt 46, .aload_n 0, .getfield 792, .iload_n 1, .bipush 37, .iadd, .iload_n 2, .iadd, .iaload, .ifCond .ge 32, .aload_n 0, .getfield 792, .iload_n 1, .bipush 19, .iadd, .iload_n 3, .iadd, .iaload, .ifCond .ge 18, .aload_n 0, .iload_n 1, .iload_n 3, .iload 4, .invokevirtual 214, .ifCond .eq 7, .iconst 1, .goto 4]),
  (61, [.iconst 0, .ireturn]),
  (62, [.ireturn])]
/-- ShoeOrchardModel.shares(III)V -/
def P226 : List (Nat × List Instr) := [
  (0, [.aload_n 0, .iload_n 1, .iload_n 3, .aload_n 0, .getfield 792, .iload_n 1, .bipush 19, .iadd, .iload_n 2, .iadd, .iaload, .invokevirtual 222, .aload_n 0, .getfield 792, .iload_n 1, .bipush 37, .iadd, .iload_n 2, .iadd, .iload_n 3, .iastore, .aload_n 0, .getfield 792, .iload_n 1, .bipush 37, .iadd, .iload_n 3, .iadd, .iload_n 2, .iastore, .return_])]
/-- ShoeOrchardModel.graft(II)I -/
def P227 : List (Nat × List Instr) := [
  (0, [.aload_n 0, .iconst 0, .putfield 768, .aload_n 0, .iload_n 1, .invokevirtual 203, .ifCond .eq 16, .aload_n 0, .iload_n 2, .invokevirtual 203, .ifCond .eq 8, .iload_n 1, .iload_n 2, .if_icmp .ne 5, .iconst (-1), .ireturn]),
  (26, [.iconst (-1), .ireturn]),
  (28, [.aload_n 0, .invokevirtual 219, .aload_n 0, .iconst 0, .iload_n 1, .iload_n 2, .invokevirtual 228, .aload_n 0, .getfield 792, .iconst 1, .iload_n 1, .iadd, .iaload, .ireturn])]
/-- ShoeOrchardModel.grafts(III)V -/
def P228 : List (Nat × List Instr) := [
  (0, [.aload_n 0, .getfield 792, .iload_n 1, .iconst 1, .iadd, .iload_n 2, .iadd, .aload_n 0, .getfield 792, .iload_n 1, .iconst 1, .iadd, .iload_n 2, .iadd, .iaload, .aload_n 0, .getfield 792, .iload_n 1, .iconst 1, .iadd, .iload_n 3, .iadd, .iaload, .iadd, .iconst 2, .idiv, .iastore, .return_])]
/-- ShoeOrchardModel.prune(I)I -/
def P229 : List (Nat × List Instr) := [
  (0, [.aload_n 0, .iconst 0, .putfield 768, .aload_n 0, .iload_n 1, .invokevirtual 203, .ifCond .ne 5, .iconst (-1), .ireturn]),
  (15, [.aload_n 0, .invokevirtual 219, .aload_n 0, .iconst 0, .iload_n 1, .invokevirtual 230, .aload_n 0, .getfield 792, .iconst 1, .iload_n 1, .iadd, .iaload, .ireturn])]
/-- ShoeOrchardModel.prunes(II)V -/
def P230 : List (Nat × List Instr) := [
  (0, [.aload_n 0, .getfield 792, .iload_n 1, .iconst 1, .iadd, .iload_n 2, .iadd, .dup2, .iaload, .aload_n 0, .getfield 792, .iload_n 1, .iconst 1, .iadd, .iload_n 2, .iadd, .iaload, .ifCond .le 7, .iconst 1, .goto 4]),
  (28, [.iconst 0, .isub, .iastore, .return_]),
  (29, [.isub, .iastore, .return_])]
/-- ShoeOrchardModel.year()I -/
def P231 : List (Nat × List Instr) := [
  (0, [.aload_n 0, .iconst 0, .putfield 768, .aload_n 0, .invokevirtual 219, .aload_n 0, .iconst 0, .aload_n 0, .iconst 0, .invokevirtual 205, .invokevirtual 232, .aload_n 0, .getfield 792, .iconst 0, .iaload, .ireturn])]
/-- ShoeOrchardModel.passes(II)V -/
def P232 : List (Nat × List Instr) := [
  (0, [.iconst 0, .istore_n 3]),
  (2, [.iload_n 3, .aload_n 0, .invokevirtual 166, .if_icmp .ge 59, .aload_n 0, .iload_n 3, .iload_n 2, .invokevirtual 206, .ifCond .ne 9, .aload_n 0, .iload_n 1, .iload_n 3, .invokevirtual 230, .aload_n 0, .getfield 792, .iload_n 1, .bipush 7, .iadd, .iload_n 3, .iadd, .dup2, .iaload, .aload_n 0, .getfield 792, .iload_n 1, .bipush 7, .iadd, .iload_n 3, .iadd, .iaload, .bipush 99, .if_icmp .ge 7, .iconst 1, .goto 4]),
  (25, [.aload_n 0, .getfield 792, .iload_n 1, .bipush 7, .iadd, .iload_n 3, .iadd, .dup2, .iaload, .aload_n 0, .getfield 792, .iload_n 1, .bipush 7, .iadd, .iload_n 3, .iadd, .iaload, .bipush 99, .if_icmp .ge 7, .iconst 1, .goto 4]),
  (57, [.iconst 0, .iadd, .iastore, .iinc 3 1, .goto (-61)]),
  (58, [.iadd, .iastore, .iinc 3 1, .goto (-61)]),
  (66, [.iconst 0, .istore_n 3]),
  (68, [.iload_n 3, .aload_n 0, .invokevirtual 168, .if_icmp .ge 99, .aload_n 0, .getfield 792, .iload_n 1, .bipush 13, .iadd, .iload_n 3, .iadd, .iaload, .aload_n 0, .iload_n 3, .iconst 0, .invokevirtual 169, .iconst 1, .if_icmp .ne 7, .iconst 2, .goto 4]),
  (101, [.iconst 0, .iadd, .istore 4, .aload_n 0, .getfield 792, .iload_n 1, .bipush 13, .iadd, .iload_n 3, .iadd, .iload 4, .bipush 40, .if_icmp .le 8, .bipush 40, .goto 5]),
  (102, [.iadd, .istore 4, .aload_n 0, .getfield 792, .iload_n 1, .bipush 13, .iadd, .iload_n 3, .iadd, .iload 4, .bipush 40, .if_icmp .le 8, .bipush 40, .goto 5]),
  (127, [.iload 4, .iastore, .aload_n 0, .getfield 792, .iload_n 1, .bipush 19, .iadd, .iload_n 3, .iadd, .iconst (-1), .iastore, .aload_n 0, .getfield 792, .iload_n 1, .bipush 25, .iadd, .iload_n 3, .iadd, .iconst 0, .iastore, .aload_n 0, .getfield 792, .iload_n 1, .bipush 37, .iadd, .iload_n 3, .iadd, .iconst (-1), .iastore, .iinc 3 1, .goto (-101)]),
  (129, [.iastore, .aload_n 0, .getfield 792, .iload_n 1, .bipush 19, .iadd, .iload_n 3, .iadd, .iconst (-1), .iastore, .aload_n 0, .getfield 792, .iload_n 1, .bipush 25, .iadd, .iload_n 3, .iadd, .iconst 0, .iastore, .aload_n 0, .getfield 792, .iload_n 1, .bipush 37, .iadd, .iload_n 3, .iadd, .iconst (-1), .iastore, .iinc 3 1, .goto (-101)]),
  (172, [.aload_n 0, .getfield 792, .iload_n 1, .iconst 0, .iadd, .dup2, .iaload, .iconst 1, .iadd, .iastore, .return_])]
/-- ShoeOrchardModel.undo()Z -/
def P233 : List (Nat × List Instr) := [
  (0, [.aload_n 0, .iconst 0, .putfield 768, .aload_n 0, .getfield 793, .ifCond .ne 5, .iconst 0, .ireturn]),
  (14, [.aload_n 0, .dup, .getfield 793, .iconst 1, .isub, .putfield 793, .aload_n 0, .bipush 60, .iconst 5, .aload_n 0, .getfield 793, .iadd, .imul, .iconst 0, .bipush 43, .invokevirtual 220, .iconst 1, .ireturn])]
/-- ShoeOrchardModel.judged(I)I -/
def P234 : List (Nat × List Instr) := [
  (0, [.aload_n 0, .iconst 0, .putfield 768, .iload_n 1, .iconst 0, .iconst 2, .invokestatic 201, .ifCond .ne 6, .bipush (-2), .ireturn]),
  (17, [.aload_n 0, .sipush 1260, .invokevirtual 165, .iconst (-1), .istore_n 2, .iconst (-1), .istore_n 3, .iconst 0, .istore 4]),
  (31, [.iload 4, .aload_n 0, .getfield 789, .iconst 0, .iaload, .if_icmp .ge 231, .aload_n 0, .getfield 789, .iconst 1, .iconst 3, .iload 4, .imul, .iadd, .iaload, .istore 5, .aload_n 0, .getfield 789, .iconst 2, .iconst 3, .iload 4, .imul, .iadd, .iaload, .istore 6, .aload_n 0, .getfield 789, .iconst 3, .iconst 3, .iload 4, .imul, .iadd, .iaload, .istore 7, .iload 5, .ifCond .ne 17, .aload_n 0, .sipush 1260, .iload 6, .iload 7, .invokevirtual 218, .goto 28]),
  (100, [.iload 5, .iconst 1, .if_icmp .ne 17, .aload_n 0, .sipush 1260, .iload 6, .iload 7, .invokevirtual 225, .ifCond .eq 7, .iconst 1, .goto 4]),
  (120, [.iconst 1, .goto 4]),
  (124, [.iconst 0, .istore 8, .iload 8, .ifCond .ne 12, .iload_n 2, .ifCond .ge 8, .iload 4, .goto 4]),
  (125, [.istore 8, .iload 8, .ifCond .ne 12, .iload_n 2, .ifCond .ge 8, .iload 4, .goto 4]),
  (141, [.iload_n 2, .istore_n 2, .iload 8, .ifCond .eq 36, .iload 5, .ifCond .ne 31, .aload_n 0, .sipush 1260, .iload 6, .iload 7, .invokevirtual 221, .ifCond .ne 12, .iload_n 3, .ifCond .ge 8, .iload 4, .goto 4]),
  (142, [.istore_n 2, .iload 8, .ifCond .eq 36, .iload 5, .ifCond .ne 31, .aload_n 0, .sipush 1260, .iload 6, .iload 7, .invokevirtual 221, .ifCond .ne 12, .iload_n 3, .ifCond .ge 8, .iload 4, .goto 4]),
  (176, [.iload_n 3, .istore_n 3, .goto 86]),
  (177, [.istore_n 3, .goto 86]),
  (181, [.iload 8, .ifCond .eq 23, .iload 5, .iconst 1, .if_icmp .ne 17, .aload_n 0, .sipush 1260, .iload 6, .iload 7, .invokevirtual 226, .goto 61]),
  (206, [.iload 5, .iconst 2, .if_icmp .ne 17, .aload_n 0, .sipush 1260, .iload 6, .iload 7, .invokevirtual 228, .goto 41]),
  (226, [.iload 5, .iconst 3, .if_icmp .ne 15, .aload_n 0, .sipush 1260, .iload 6, .invokevirtual 230, .goto 23]),
  (244, [.iload 5, .iconst 4, .if_icmp .ne 17, .aload_n 0, .sipush 1260, .aload_n 0, .sipush 1260, .invokevirtual 205, .invokevirtual 232, .iinc 4 1, .goto (-236)]),
  (264, [.iinc 4 1, .goto (-236)]),
  (270, [.iload_n 1, .ifCond .ne 7, .iload_n 2, .goto 19]),
  (278, [.iload_n 1, .iconst 1, .if_icmp .ne 7, .iload_n 3, .goto 10]),
  (287, [.aload_n 0, .sipush 1260, .invokevirtual 235, .ireturn]),
  (294, [.ireturn])]
/-- ShoeOrchardModel.roadOfAll(I)I -/
def P235 : List (Nat × List Instr) := [
  (0, [.iconst 0, .istore_n 2, .iconst 0, .istore_n 3]),
  (4, [.iload_n 3, .aload_n 0, .invokevirtual 168, .if_icmp .ge 23, .iload_n 2, .aload_n 0, .getfield 792, .iload_n 1, .bipush 31, .iadd, .iload_n 3, .iadd, .iaload, .iadd, .istore_n 2, .iinc 3 1, .goto (-25)]),
  (32, [.iload_n 2, .ireturn])]
/-- ShoeOrchardModel.fitted(I)I -/
def P236 : List (Nat × List Instr) := [
  (0, [.aload_n 0, .iconst 0, .putfield 768, .aload_n 0, .iload_n 1, .invokevirtual 212, .ifCond .eq 12, .aload_n 0, .iconst 0, .iload_n 1, .invokevirtual 237, .goto 4]),
  (22, [.iconst (-1), .ireturn]),
  (23, [.ireturn])]
/-- ShoeOrchardModel.fittedOf(II)I -/
def P237 : List (Nat × List Instr) := [
  (0, [.iconst 0, .istore_n 3, .iconst 0, .istore 4]),
  (5, [.iload 4, .aload_n 0, .invokevirtual 166, .if_icmp .ge 31, .iload_n 3, .aload_n 0, .iload_n 1, .iload_n 2, .iload 4, .invokevirtual 214, .ifCond .eq 10, .iconst 1, .iload 4, .ishl, .goto 4]),
  (33, [.iconst 0, .ior, .istore_n 3, .iinc 4 1, .goto (-34)]),
  (34, [.ior, .istore_n 3, .iinc 4 1, .goto (-34)]),
  (42, [.iload_n 3, .ireturn])]
/-- ShoeOrchardModel.wearers(I)I -/
def P238 : List (Nat × List Instr) := [
  (0, [.aload_n 0, .iconst 0, .putfield 768, .aload_n 0, .iload_n 1, .invokevirtual 203, .ifCond .eq 20, .aload_n 0, .iconst 0, .iload_n 1, .invokevirtual 204, .ifCond .eq 11, .aload_n 0, .iload_n 1, .invokevirtual 239, .goto 4]),
  (30, [.iconst (-1), .ireturn]),
  (31, [.ireturn])]
/-- ShoeOrchardModel.wearersOf(I)I -/
def P239 : List (Nat × List Instr) := [
  (0, [.iconst 0, .istore_n 2, .iconst 0, .istore_n 3]),
  (4, [.iload_n 3, .aload_n 0, .invokevirtual 168, .if_icmp .ge 29, .iload_n 2, .aload_n 0, .iconst 0, .iload_n 3, .iload_n 1, .invokevirtual 214, .ifCond .eq 9, .iconst 1, .iload_n 3, .ishl, .goto 4]),
  (29, [.iconst 0, .ior, .istore_n 2, .iinc 3 1, .goto (-31)]),
  (30, [.ior, .istore_n 2, .iinc 3 1, .goto (-31)]),
  (38, [.iload_n 2, .ireturn])]
/-- ShoeOrchardModel.shoes(I)I -/
def P240 : List (Nat × List Instr) := [
  (0, [.aload_n 0, .iconst 0, .putfield 768, .aload_n 0, .iload_n 1, .iconst 0, .invokevirtual 241, .ireturn])]
/-- ShoeOrchardModel.dealtTo(IZ)I -/
def P241 : List (Nat × List Instr) := [
  (0, [.iload_n 1, .iconst (-1), .if_icmp .eq 14, .aload_n 0, .iload_n 1, .invokevirtual 212, .ifCond .ne 6, .bipush (-2), .ireturn]),
  (16, [.aload_n 0, .iconst (-1), .putfield 797, .aload_n 0, .iconst 0, .iconst 0, .iconst 0, .iload_n 2, .invokevirtual 242, .iload_n 1, .iconst (-1), .if_icmp .ne 10, .aload_n 0, .getfield 797, .goto 9]),
  (41, [.aload_n 0, .getfield 796, .iload_n 1, .iaload, .ireturn]),
  (47, [.ireturn])]
/-- ShoeOrchardModel.deals(IIIZ)V -/
def P242 : List (Nat × List Instr) := [
  (0, [.iload_n 1, .aload_n 0, .invokevirtual 168, .if_icmp .ne 47, .iload_n 3, .aload_n 0, .getfield 797, .if_icmp .le 38, .aload_n 0, .iload_n 3, .putfield 797, .iconst 0, .istore 5]),
  (24, [.iload 5, .bipush 6, .if_icmp .ge 23, .aload_n 0, .getfield 796, .iload 5, .aload_n 0, .getfield 795, .iload 5, .iaload, .iastore, .iinc 5 1, .goto (-24)]),
  (51, [.return_]),
  (52, [.iconst 0, .istore 5]),
  (55, [.iload 5, .aload_n 0, .invokevirtual 166, .if_icmp .ge 91, .aload_n 0, .getfield 792, .bipush 19, .iload_n 1, .iadd, .iaload, .ifCond .ge 79, .iload_n 2, .iload 5, .ishr, .iconst 1, .iand, .ifCond .ne 64, .aload_n 0, .iconst 0, .iload 5, .invokevirtual 210, .ifCond .ne 54, .aload_n 0, .iconst 0, .iload_n 1, .iload 5, .invokevirtual 214, .ifCond .eq 43, .aload_n 0, .getfield 795, .iload_n 1, .iload 5, .iastore, .aload_n 0, .iload_n 1, .iconst 1, .iadd, .iload_n 2, .iconst 1, .iload 5, .ishl, .ior, .iload_n 3, .iload 4, .ifCond .eq 12, .aload_n 0, .iload 5, .invokevirtual 223, .goto 4]),
  (139, [.iconst 1, .iadd, .iload 4, .invokevirtual 242, .iinc 5 1, .goto (-94)]),
  (140, [.iadd, .iload 4, .invokevirtual 242, .iinc 5 1, .goto (-94)]),
  (146, [.iinc 5 1, .goto (-94)]),
  (152, [.aload_n 0, .getfield 795, .iload_n 1, .iconst (-1), .iastore, .aload_n 0, .iload_n 1, .iconst 1, .iadd, .iload_n 2, .iload_n 3, .iload 4, .invokevirtual 242, .return_])]
/-- ShoeOrchardModel.roads(I)I -/
def P243 : List (Nat × List Instr) := [
  (0, [.aload_n 0, .iconst 0, .putfield 768, .aload_n 0, .iload_n 1, .iconst 1, .invokevirtual 241, .ireturn])]
/-- ShoeOrchardModel.order(I)I -/
def P244 : List (Nat × List Instr) := [
  (0, [.aload_n 0, .iconst 0, .putfield 768, .iconst 1, .aload_n 0, .invokevirtual 168, .ishl, .iconst 1, .isub, .aload_n 0, .iconst 0, .invokevirtual 245, .iconst (-1), .ixor, .iand, .istore_n 2, .aload_n 0, .iload_n 2, .invokestatic 246, .putfield 800, .iload_n 1, .iconst (-1), .aload_n 0, .getfield 800, .iconst 1, .isub, .invokestatic 201, .ifCond .ne 6, .bipush (-2), .ireturn]),
  (47, [.aload_n 0, .iconst (-1), .putfield 801, .aload_n 0, .iconst 0, .iload_n 2, .invokevirtual 247, .iload_n 1, .iconst (-1), .if_icmp .ne 10, .aload_n 0, .getfield 801, .goto 9]),
  (70, [.aload_n 0, .getfield 799, .iload_n 1, .iaload, .ireturn]),
  (76, [.ireturn])]
/-- ShoeOrchardModel.shodOf(I)I -/
def P245 : List (Nat × List Instr) := [
  (0, [.iconst 0, .istore_n 2, .iconst 0, .istore_n 3]),
  (4, [.iload_n 3, .aload_n 0, .invokevirtual 168, .if_icmp .ge 33, .iload_n 2, .aload_n 0, .getfield 792, .iload_n 1, .bipush 19, .iadd, .iload_n 3, .iadd, .iaload, .ifCond .lt 9, .iconst 1, .iload_n 3, .ishl, .goto 4]),
  (33, [.iconst 0, .ior, .istore_n 2, .iinc 3 1, .goto (-35)]),
  (34, [.ior, .istore_n 2, .iinc 3 1, .goto (-35)]),
  (42, [.iload_n 2, .ireturn])]
/-- ShoeOrchardModel.bits(I)I -/
def P246 : List (Nat × List Instr) := [
  (0, [.iconst 0, .istore_n 1, .iconst 0, .istore_n 2]),
  (4, [.iload_n 2, .bipush 30, .if_icmp .ge 17, .iload_n 1, .iload_n 0, .iload_n 2, .ishr, .iconst 1, .iand, .iadd, .istore_n 1, .iinc 2 1, .goto (-17)]),
  (24, [.iload_n 1, .ireturn])]
/-- ShoeOrchardModel.orders(II)V -/
def P247 : List (Nat × List Instr) := [
  (0, [.iload_n 2, .ifCond .ne 114, .aload_n 0, .iconst 0, .sipush 1260, .bipush 43, .invokevirtual 220, .iconst 0, .istore_n 3]),
  (16, [.iload_n 3, .iload_n 1, .if_icmp .ge 19, .aload_n 0, .aload_n 0, .getfield 798, .iload_n 3, .iaload, .invokevirtual 248, .iinc 3 1, .goto (-18)]),
  (37, [.aload_n 0, .sipush 1260, .invokevirtual 245, .invokestatic 246, .aload_n 0, .iconst 0, .invokevirtual 245, .invokestatic 246, .isub, .istore_n 3, .iconst 0, .istore 4]),
  (60, [.iload 4, .iload_n 1, .if_icmp .ge 31, .iload_n 3, .aload_n 0, .getfield 801, .if_icmp .le 23, .aload_n 0, .getfield 799, .iload 4, .aload_n 0, .getfield 798, .iload 4, .iaload, .iastore, .iinc 4 1, .goto (-31)]),
  (94, [.aload_n 0, .iload_n 3, .aload_n 0, .getfield 801, .if_icmp .le 7, .iload_n 3, .goto 7]),
  (107, [.aload_n 0, .getfield 801, .putfield 801, .return_]),
  (111, [.putfield 801, .return_]),
  (115, [.iconst 0, .istore_n 3]),
  (117, [.iload_n 3, .aload_n 0, .invokevirtual 168, .if_icmp .ge 39, .iload_n 2, .iload_n 3, .ishr, .iconst 1, .iand, .iconst 1, .if_icmp .ne 24, .aload_n 0, .getfield 798, .iload_n 1, .iload_n 3, .iastore, .aload_n 0, .iload_n 1, .iconst 1, .iadd, .iload_n 2, .iconst 1, .iload_n 3, .ishl, .iconst (-1), .ixor, .iand, .invokevirtual 247, .iinc 3 1, .goto (-41)]),
  (155, [.iinc 3 1, .goto (-41)]),
  (161, [.return_])]
/-- ShoeOrchardModel.goesOut(I)V -/
def P248 : List (Nat × List Instr) := [
  (0, [.iconst 0, .istore_n 2]),
  (2, [.iload_n 2, .aload_n 0, .invokevirtual 166, .if_icmp .ge 31, .aload_n 0, .sipush 1260, .iload_n 1, .iload_n 2, .invokevirtual 218, .ifCond .eq 13, .aload_n 0, .sipush 1260, .iload_n 1, .iload_n 2, .invokevirtual 221, .pop, .iinc 2 1, .goto (-33)]),
  (32, [.iinc 2 1, .goto (-33)]),
  (38, [.return_])]
/-- ShoeOrchardModel.mends(I)I -/
def P249 : List (Nat × List Instr) := [
  (0, [.aload_n 0, .iconst 0, .putfield 768, .aload_n 0, .iconst 0, .sipush 1260, .bipush 43, .invokevirtual 220, .iconst 0, .istore_n 2]),
  (17, [.iload_n 2, .iconst 2, .if_icmp .gt 31, .aload_n 0, .iload_n 1, .invokevirtual 212, .ifCond .eq 23, .aload_n 0, .sipush 1260, .iload_n 1, .iload_n 2, .invokevirtual 250, .ifCond .eq 5, .iload_n 2, .ireturn]),
  (44, [.iinc 2 1, .goto (-30)]),
  (50, [.iconst (-1), .ireturn])]
/-- ShoeOrchardModel.isMended(III)Z -/
def P250 : List (Nat × List Instr) := [
  (0, [.aload_n 0, .iload_n 1, .iload_n 2, .invokevirtual 237, .ifCond .eq 5, .iconst 1, .ireturn]),
  (11, [.iconst 0, .istore 4, .iconst 0, .istore 5]),
  (17, [.iload 5, .bipush 36, .if_icmp .ge 113, .iload_n 3, .ifCond .le 109, .iload 4, .ifCond .ne 104, .iload 5, .bipush 6, .idiv, .istore 6, .iload 5, .bipush 6, .irem, .istore 7, .aload_n 0, .iload 6, .invokevirtual 203, .ifCond .eq 75, .aload_n 0, .iload 7, .invokevirtual 203, .ifCond .eq 66, .aload_n 0, .getfield 792, .iload_n 1, .iconst 1, .iadd, .iload 6, .iadd, .iaload, .istore 8, .iload 6, .iload 7, .if_icmp .ne 13, .aload_n 0, .iload_n 1, .iload 6, .invokevirtual 230, .goto 12]),
  (95, [.aload_n 0, .iload_n 1, .iload 6, .iload 7, .invokevirtual 228, .aload_n 0, .iload_n 1, .iload_n 2, .iload_n 3, .iconst 1, .isub, .invokevirtual 250, .istore 4, .aload_n 0, .getfield 792, .iload_n 1, .iconst 1, .iadd, .iload 6, .iadd, .iload 8, .iastore, .iinc 5 1, .goto (-114)]),
  (104, [.aload_n 0, .iload_n 1, .iload_n 2, .iload_n 3, .iconst 1, .isub, .invokevirtual 250, .istore 4, .aload_n 0, .getfield 792, .iload_n 1, .iconst 1, .iadd, .iload 6, .iadd, .iload 8, .iastore, .iinc 5 1, .goto (-114)]),
  (128, [.iinc 5 1, .goto (-114)]),
  (134, [.iload 4, .ireturn])]
/-- ShoeOrchardModel.when(I)I -/
def P251 : List (Nat × List Instr) := [
  (0, [.aload_n 0, .iconst 0, .putfield 768, .aload_n 0, .iconst 0, .sipush 1260, .bipush 43, .invokevirtual 220, .iconst 0, .istore_n 2]),
  (17, [.iload_n 2, .bipush 40, .if_icmp .gt 44, .aload_n 0, .iload_n 1, .invokevirtual 212, .ifCond .eq 36, .aload_n 0, .sipush 1260, .iload_n 1, .invokevirtual 237, .ifCond .eq 5, .iload_n 2, .ireturn]),
  (44, [.aload_n 0, .sipush 1260, .aload_n 0, .sipush 1260, .invokevirtual 205, .invokevirtual 232, .iinc 2 1, .goto (-44)]),
  (64, [.iconst (-1), .ireturn])]
/-- ShoeOrchardModel.later(II)I -/
def P252 : List (Nat × List Instr) := [
  (0, [.aload_n 0, .iconst 0, .putfield 768, .aload_n 0, .iload_n 1, .invokevirtual 203, .ifCond .eq 13, .iload_n 2, .iconst 0, .bipush 40, .invokestatic 201, .ifCond .ne 5, .iconst (-1), .ireturn]),
  (23, [.iconst (-1), .ireturn]),
  (25, [.aload_n 0, .iconst 0, .sipush 1260, .bipush 43, .invokevirtual 220, .iconst 0, .istore_n 3]),
  (37, [.iload_n 3, .iload_n 2, .if_icmp .ge 23, .aload_n 0, .sipush 1260, .aload_n 0, .sipush 1260, .invokevirtual 205, .invokevirtual 232, .iinc 3 1, .goto (-22)]),
  (62, [.aload_n 0, .sipush 1260, .iload_n 1, .invokevirtual 204, .ifCond .eq 14, .aload_n 0, .sipush 1260, .iload_n 1, .invokevirtual 207, .goto 4]),
  (84, [.iconst (-1), .ireturn]),
  (85, [.ireturn])]
/-- ShoeOrchardModel.lack(I)I -/
def P253 : List (Nat × List Instr) := [
  (0, [.aload_n 0, .iconst 0, .putfield 768, .iconst (-1), .istore_n 2, .iconst 0, .istore_n 3]),
  (9, [.iload_n 3, .aload_n 0, .invokevirtual 166, .if_icmp .ge 57, .aload_n 0, .iload_n 1, .invokevirtual 212, .ifCond .eq 49, .aload_n 0, .iconst 0, .iload_n 1, .aload_n 0, .iconst 0, .iload_n 3, .invokevirtual 207, .invokevirtual 215, .istore 4, .aload_n 0, .iconst 0, .iload_n 3, .invokevirtual 204, .ifCond .eq 18, .iload_n 2, .ifCond .lt 9, .iload 4, .iload_n 2, .if_icmp .ge 8, .iload 4, .goto 4]),
  (58, [.iload 4, .goto 4]),
  (63, [.iload_n 2, .istore_n 2, .iinc 3 1, .goto (-59)]),
  (64, [.istore_n 2, .iinc 3 1, .goto (-59)]),
  (71, [.iload_n 2, .ireturn])]
/-- ShoeOrchardModel.feel(IZ)Z -/
def P254 : List (Nat × List Instr) := [
  (0, [.aload_n 0, .iconst 0, .putfield 768, .aload_n 0, .iload_n 1, .invokevirtual 203, .ifCond .eq 15, .aload_n 0, .getfield 792, .bipush 43, .iaload, .bipush 8, .if_icmp .ne 5, .iconst 0, .ireturn]),
  (25, [.iconst 0, .ireturn]),
  (27, [.bipush 44, .iconst 2, .aload_n 0, .getfield 792, .bipush 43, .iaload, .imul, .iadd, .istore_n 3, .aload_n 0, .getfield 792, .iload_n 3, .iload_n 1, .iastore, .aload_n 0, .getfield 792, .iload_n 3, .iconst 1, .iadd, .iload_n 2, .ifCond .eq 7, .iconst 1, .goto 4]),
  (62, [.iconst 0, .iastore, .aload_n 0, .getfield 792, .bipush 43, .dup2, .iaload, .iconst 1, .iadd, .iastore, .iconst 1, .ireturn]),
  (63, [.iastore, .aload_n 0, .getfield 792, .bipush 43, .dup2, .iaload, .iconst 1, .iadd, .iastore, .iconst 1, .ireturn])]
/-- ShoeOrchardModel.feet(I)I -/
def P255 : List (Nat × List Instr) := [
  (0, [.aload_n 0, .iconst 0, .putfield 768, .iload_n 1, .iconst 0, .iconst 2, .invokestatic 201, .ifCond .ne 5, .iconst (-1), .ireturn]),
  (16, [.iconst 0, .istore_n 2, .iconst (-1), .istore_n 3, .iconst (-1), .istore 4, .iconst 0, .istore 5]),
  (26, [.iload 5, .bipush 40, .if_icmp .gt 60, .aload_n 0, .iload 5, .invokevirtual 256, .istore 6, .iload_n 2, .iload 6, .ifCond .eq 7, .iconst 1, .goto 4]),
  (51, [.iconst 0, .iadd, .istore_n 2, .iload 6, .ifCond .eq 12, .iload_n 3, .ifCond .ge 8, .iload 5, .goto 4]),
  (52, [.iadd, .istore_n 2, .iload 6, .ifCond .eq 12, .iload_n 3, .ifCond .ge 8, .iload 5, .goto 4]),
  (68, [.iload_n 3, .istore_n 3, .iload 6, .ifCond .eq 8, .iload 5, .goto 5]),
  (69, [.istore_n 3, .iload 6, .ifCond .eq 8, .iload 5, .goto 5]),
  (80, [.iload 4, .istore 4, .iinc 5 1, .goto (-61)]),
  (82, [.istore 4, .iinc 5 1, .goto (-61)]),
  (90, [.iload_n 1, .ifCond .ne 7, .iload_n 2, .goto 14]),
  (98, [.iload_n 1, .iconst 1, .if_icmp .ne 7, .iload_n 3, .goto 5]),
  (107, [.iload 4, .ireturn]),
  (109, [.ireturn])]
/-- ShoeOrchardModel.isFelt(I)Z -/
def P256 : List (Nat × List Instr) := [
  (0, [.iconst 1, .istore_n 2, .iconst 0, .istore_n 3]),
  (4, [.iload_n 3, .aload_n 0, .getfield 792, .bipush 43, .iaload, .if_icmp .ge 75, .bipush 44, .iconst 2, .iload_n 3, .imul, .iadd, .istore 4, .iload_n 2, .ifCond .eq 55, .aload_n 0, .iconst 0, .aload_n 0, .getfield 792, .iload 4, .iaload, .invokevirtual 204, .ifCond .eq 36, .aload_n 0, .aload_n 0, .getfield 792, .iload 4, .iaload, .iload_n 1, .invokevirtual 257, .aload_n 0, .getfield 792, .iload 4, .iconst 1, .iadd, .iaload, .iconst 1, .if_icmp .ne 7, .iconst 1, .goto 4]),
  (71, [.iconst 0, .if_icmp .ne 7, .iconst 1, .goto 4]),
  (72, [.if_icmp .ne 7, .iconst 1, .goto 4]),
  (75, [.iconst 1, .goto 4]),
  (79, [.iconst 0, .istore_n 2, .iinc 3 1, .goto (-80)]),
  (80, [.istore_n 2, .iinc 3 1, .goto (-80)]),
  (87, [.iload_n 2, .ireturn])]
/-- ShoeOrchardModel.fitsFeet(II)Z -/
def P257 : List (Nat × List Instr) := [
  (0, [.aload_n 0, .iconst 0, .iload_n 1, .invokevirtual 207, .iload_n 2, .invokestatic 216, .aload_n 0, .getfield 778, .iconst 2, .iaload, .if_icmp .gt 7, .iconst 1, .goto 4]),
  (23, [.iconst 0, .ireturn]),
  (24, [.ireturn])]
/-- ShoeOrchardModel.ask()I -/
def P258 : List (Nat × List Instr) := [
  (0, [.aload_n 0, .iconst 0, .putfield 768, .iconst 0, .istore_n 1, .iconst 0, .istore_n 2]),
  (9, [.iload_n 2, .bipush 40, .if_icmp .gt 25, .iload_n 1, .aload_n 0, .iload_n 2, .invokevirtual 256, .ifCond .eq 7, .iconst 1, .goto 4]),
  (28, [.iconst 0, .iadd, .istore_n 1, .iinc 2 1, .goto (-25)]),
  (29, [.iadd, .istore_n 1, .iinc 2 1, .goto (-25)]),
  (37, [.iconst (-1), .istore_n 2, .iload_n 1, .istore_n 3, .iconst 0, .istore 4]),
  (44, [.iload 4, .aload_n 0, .invokevirtual 166, .if_icmp .ge 125, .iconst 0, .istore 5, .iconst 0, .istore 6]),
  (59, [.iload 6, .bipush 40, .if_icmp .gt 39, .iload 5, .aload_n 0, .iload 6, .invokevirtual 256, .ifCond .eq 18, .aload_n 0, .iload 4, .iload 6, .invokevirtual 257, .ifCond .eq 7, .iconst 1, .goto 4]),
  (92, [.iconst 0, .iadd, .istore 5, .iinc 6 1, .goto (-40)]),
  (93, [.iadd, .istore 5, .iinc 6 1, .goto (-40)]),
  (102, [.iload 5, .iload_n 1, .iload 5, .isub, .if_icmp .le 8, .iload 5, .goto 7]),
  (116, [.iload_n 1, .iload 5, .isub, .istore 6, .aload_n 0, .iconst 0, .iload 4, .invokevirtual 204, .ifCond .eq 13, .iload 6, .iload_n 3, .if_icmp .ge 7, .iconst 1, .goto 4]),
  (120, [.istore 6, .aload_n 0, .iconst 0, .iload 4, .invokevirtual 204, .ifCond .eq 13, .iload 6, .iload_n 3, .if_icmp .ge 7, .iconst 1, .goto 4]),
  (142, [.iconst 0, .istore 7, .iload 7, .ifCond .eq 8, .iload 4, .goto 4]),
  (143, [.istore 7, .iload 7, .ifCond .eq 8, .iload 4, .goto 4]),
  (155, [.iload_n 2, .istore_n 2, .iload 7, .ifCond .eq 8, .iload 6, .goto 4]),
  (156, [.istore_n 2, .iload 7, .ifCond .eq 8, .iload 6, .goto 4]),
  (167, [.iload_n 3, .istore_n 3, .iinc 4 1, .goto (-128)]),
  (168, [.istore_n 3, .iinc 4 1, .goto (-128)]),
  (175, [.iload_n 2, .ireturn])]
/-- ShoeOrchardModel.pairs()I -/
def P259 : List (Nat × List Instr) := [
  (0, [.aload_n 0, .iconst 0, .putfield 768, .iconst 0, .istore_n 1, .iconst 0, .istore_n 2]),
  (9, [.iload_n 2, .aload_n 0, .invokevirtual 168, .if_icmp .ge 51, .iload_n 2, .iconst 1, .iadd, .istore_n 3]),
  (21, [.iload_n 3, .aload_n 0, .invokevirtual 168, .if_icmp .ge 33, .iload_n 1, .aload_n 0, .iconst 0, .iload_n 2, .invokevirtual 237, .aload_n 0, .iconst 0, .iload_n 3, .invokevirtual 237, .iand, .ifCond .eq 7, .iconst 1, .goto 4]),
  (50, [.iconst 0, .iadd, .istore_n 1, .iinc 3 1, .goto (-35)]),
  (51, [.iadd, .istore_n 1, .iinc 3 1, .goto (-35)]),
  (59, [.iinc 2 1, .goto (-53)]),
  (65, [.iload_n 1, .ireturn])]
/-- ShoeOrchardModel.idle()I -/
def P260 : List (Nat × List Instr) := [
  (0, [.aload_n 0, .iconst 0, .putfield 768, .iconst 0, .istore_n 1, .iconst 0, .istore_n 2]),
  (9, [.iload_n 2, .aload_n 0, .invokevirtual 166, .if_icmp .ge 36, .iload_n 1, .aload_n 0, .iconst 0, .iload_n 2, .invokevirtual 204, .ifCond .eq 17, .aload_n 0, .iload_n 2, .invokevirtual 239, .ifCond .ne 9, .iconst 1, .iload_n 2, .ishl, .goto 4]),
  (41, [.iconst 0, .ior, .istore_n 1, .iinc 2 1, .goto (-38)]),
  (42, [.ior, .istore_n 1, .iinc 2 1, .goto (-38)]),
  (50, [.iload_n 1, .ireturn])]
/-- ShoeOrchardModel.sole()I -/
def P261 : List (Nat × List Instr) := [
  (0, [.aload_n 0, .iconst 0, .putfield 768, .iconst 0, .istore_n 1, .iconst 0, .istore_n 2]),
  (9, [.iload_n 2, .aload_n 0, .invokevirtual 168, .if_icmp .ge 32, .iload_n 1, .aload_n 0, .iconst 0, .iload_n 2, .invokevirtual 237, .invokestatic 246, .iconst 1, .if_icmp .ne 9, .iconst 1, .iload_n 2, .ishl, .goto 4]),
  (37, [.iconst 0, .ior, .istore_n 1, .iinc 2 1, .goto (-34)]),
  (38, [.ior, .istore_n 1, .iinc 2 1, .goto (-34)]),
  (46, [.iload_n 1, .ireturn])]
/-- ShoeOrchardModel.twins()I -/
def P262 : List (Nat × List Instr) := [
  (0, [.aload_n 0, .iconst 0, .putfield 768, .iconst 0, .istore_n 1, .iconst 0, .istore_n 2]),
  (9, [.iload_n 2, .aload_n 0, .invokevirtual 166, .if_icmp .ge 68, .iload_n 2, .iconst 1, .iadd, .istore_n 3]),
  (21, [.iload_n 3, .aload_n 0, .invokevirtual 166, .if_icmp .ge 50, .iload_n 1, .aload_n 0, .iconst 0, .iload_n 2, .invokevirtual 204, .ifCond .eq 31, .aload_n 0, .iconst 0, .iload_n 3, .invokevirtual 204, .ifCond .eq 22, .aload_n 0, .iconst 0, .iload_n 2, .invokevirtual 207, .aload_n 0, .iconst 0, .iload_n 3, .invokevirtual 207, .if_icmp .ne 7, .iconst 1, .goto 4]),
  (67, [.iconst 0, .iadd, .istore_n 1, .iinc 3 1, .goto (-52)]),
  (68, [.iadd, .istore_n 1, .iinc 3 1, .goto (-52)]),
  (76, [.iinc 2 1, .goto (-70)]),
  (82, [.iload_n 1, .ireturn])]
/-- ShoeOrchardModel.best()I -/
def P263 : List (Nat × List Instr) := [
  (0, [.aload_n 0, .iconst 0, .putfield 768, .iconst (-1), .istore_n 1, .iconst (-1), .istore_n 2, .iconst 0, .istore_n 3]),
  (11, [.iload_n 3, .aload_n 0, .invokevirtual 166, .if_icmp .ge 57, .aload_n 0, .iconst 0, .iload_n 3, .invokevirtual 204, .ifCond .eq 14, .aload_n 0, .iload_n 3, .invokevirtual 239, .invokestatic 246, .goto 4]),
  (39, [.iconst (-1), .istore 4, .iload 4, .iload_n 2, .if_icmp .le 7, .iload_n 3, .goto 4]),
  (40, [.istore 4, .iload 4, .iload_n 2, .if_icmp .le 7, .iload_n 3, .goto 4]),
  (52, [.iload_n 1, .istore_n 1, .iload 4, .iload_n 2, .if_icmp .le 8, .iload 4, .goto 4]),
  (53, [.istore_n 1, .iload 4, .iload_n 2, .if_icmp .le 8, .iload 4, .goto 4]),
  (65, [.iload_n 2, .istore_n 2, .iinc 3 1, .goto (-59)]),
  (66, [.istore_n 2, .iinc 3 1, .goto (-59)]),
  (73, [.iload_n 1, .ireturn])]
/-- ShoeOrchardModel.chance(III)I -/
def P264 : List (Nat × List Instr) := [
  (0, [.aload_n 0, .iconst 0, .putfield 768, .aload_n 0, .iload_n 1, .invokevirtual 212, .ifCond .eq 23, .iload_n 2, .iconst 1, .bipush 6, .invokestatic 201, .ifCond .eq 13, .iload_n 3, .iconst 0, .bipush 10, .invokestatic 201, .ifCond .ne 5, .iconst (-1), .ireturn]),
  (33, [.iconst (-1), .ireturn]),
  (35, [.lconst 1, .lstore 4, .lconst 0, .lstore 6, .iconst 0, .istore 8]),
  (44, [.iload 8, .iload_n 2, .if_icmp .ge 17, .lload 4, .jsr 10, .lmul, .lstore 4, .iinc 8 1, .goto (-17)]),
  (64, [.iconst 0, .istore 8]),
  (67, [.iload 8, .iconst 1, .iload_n 2, .ishl, .if_icmp .ge 114, .aload_n 0, .iconst 0, .sipush 1260, .bipush 43, .invokevirtual 220, .lconst 1, .lstore 9, .iconst 0, .istore 11]),
  (91, [.iload 11, .iload_n 2, .if_icmp .ge 64, .iload 8, .iload 11, .ishr, .iconst 1, .iand, .iconst 1, .if_icmp .ne 7, .iconst 1, .goto 4]),
  (112, [.iconst 0, .istore 12, .lload 9, .iload 12, .ifCond .eq 8, .iload_n 3, .i2l, .goto 8]),
  (113, [.istore 12, .lload 9, .iload 12, .ifCond .eq 8, .iload_n 3, .i2l, .goto 8]),
  (127, [.bipush 10, .iload_n 3, .isub, .i2l, .lmul, .lstore 9, .aload_n 0, .sipush 1260, .iload 12, .ifCond .eq 7, .iconst 3, .goto 4]),
  (132, [.lmul, .lstore 9, .aload_n 0, .sipush 1260, .iload 12, .ifCond .eq 7, .iconst 3, .goto 4]),
  (148, [.iconst 0, .invokevirtual 232, .iinc 11 1, .goto (-64)]),
  (149, [.invokevirtual 232, .iinc 11 1, .goto (-64)]),
  (158, [.lload 6, .aload_n 0, .sipush 1260, .iload_n 1, .invokevirtual 237, .ifCond .eq 8, .lload 9, .goto 4]),
  (176, [.lconst 0, .ladd, .lstore 6, .iinc 8 1, .goto (-116)]),
  (177, [.ladd, .lstore 6, .iinc 8 1, .goto (-116)]),
  (186, [.lload 6, .jsr 1000000, .lmul, .lload 4, .ldiv, .l2i, .ireturn])]
/-- ShoeOrchardModel.rests(IIII)I -/
def P265 : List (Nat × List Instr) := [
  (0, [.iload_n 1, .iconst 0, .bipush 9, .invokestatic 201, .ifCond .eq 33, .iload_n 2, .iconst 0, .bipush 9, .invokestatic 201, .ifCond .eq 23, .iload_n 3, .iconst 0, .bipush 9, .invokestatic 201, .ifCond .eq 13, .iload 4, .iconst (-1), .if_icmp .lt 7, .iconst 1, .goto 4]),
  (40, [.iconst 0, .istore 5, .iconst 0, .istore 6, .iconst (-1), .istore 7, .iconst 0, .istore 8]),
  (41, [.istore 5, .iconst 0, .istore 6, .iconst (-1), .istore 7, .iconst 0, .istore 8]),
  (52, [.iload 8, .iconst 4, .if_icmp .ge 119, .iload 5, .ifCond .eq 114, .iload 8, .iconst 2, .idiv, .istore 9, .iload 8, .iconst 2, .irem, .istore 10, .iconst 1, .iload 9, .isub, .iload 10, .iload_n 1, .iload_n 2, .iload_n 3, .invokestatic 266, .iload 9, .iload 10, .iload_n 1, .iload_n 2, .iload_n 3, .invokestatic 266, .if_icmp .gt 32, .iconst 1, .iload 10, .isub, .iload 9, .iload_n 1, .iload_n 2, .iload_n 3, .invokestatic 266, .iload 10, .iload 9, .iload_n 1, .iload_n 2, .iload_n 3, .invokestatic 266, .if_icmp .gt 7, .iconst 1, .goto 4]),
  (129, [.iconst 0, .istore 11, .iload 11, .ifCond .eq 15, .iload 6, .iload 4, .if_icmp .ne 8, .iload 8, .goto 5]),
  (130, [.istore 11, .iload 11, .ifCond .eq 15, .iload 6, .iload 4, .if_icmp .ne 8, .iload 8, .goto 5]),
  (149, [.iload 7, .istore 7, .iload 6, .iload 11, .ifCond .eq 7, .iconst 1, .goto 4]),
  (151, [.istore 7, .iload 6, .iload 11, .ifCond .eq 7, .iconst 1, .goto 4]),
  (164, [.iconst 0, .iadd, .istore 6, .iinc 8 1, .goto (-119)]),
  (165, [.iadd, .istore 6, .iinc 8 1, .goto (-119)]),
  (174, [.aload_n 0, .iload 5, .ifCond .eq 17, .iload 4, .ifCond .lt 8, .iload 7, .ifCond .lt 7, .iconst 0, .goto 4]),
  (190, [.iconst 0, .goto 4]),
  (194, [.iconst 1, .putfield 768, .aload_n 0, .getfield 768, .ifCond .le 7, .iconst 0, .goto 15]),
  (195, [.putfield 768, .aload_n 0, .getfield 768, .ifCond .le 7, .iconst 0, .goto 15]),
  (209, [.iload 4, .ifCond .ge 8, .iload 6, .goto 5]),
  (219, [.iload 7, .ireturn]),
  (221, [.ireturn])]
/-- ShoeOrchardModel.getsBy(IIIII)I -/
def P266 : List (Nat × List Instr) := [
  (0, [.iload_n 0, .iconst 1, .if_icmp .ne 17, .iload_n 1, .iconst 1, .if_icmp .ne 7, .iload_n 2, .goto 19]),
  (14, [.iload_n 3, .ineg, .goto 14]),
  (19, [.iload_n 1, .iconst 1, .if_icmp .ne 8, .iload 4, .goto 4]),
  (29, [.iconst 0, .ireturn]),
  (30, [.ireturn])]
/-- ShoeOrchardModel.ages(III)I -/
def P267 : List (Nat × List Instr) := [
  (0, [.aload_n 0, .iconst 0, .putfield 768, .iload_n 1, .iconst 0, .sipush 9999, .invokestatic 201, .ifCond .eq 22, .iload_n 2, .iconst 1, .bipush 99, .invokestatic 201, .ifCond .eq 12, .iload_n 3, .iconst 0, .iconst 2, .invokestatic 201, .ifCond .ne 5, .iconst (-1), .ireturn]),
  (35, [.iconst (-1), .ireturn]),
  (37, [.aload_n 0, .iconst 0, .sipush 1320, .bipush 43, .invokevirtual 220, .aload_n 0, .iload_n 1, .i2l, .putfield 802, .iconst 0, .istore 4, .iconst 0, .istore 5]),
  (59, [.iload 5, .iload_n 2, .if_icmp .ge 40, .aload_n 0, .invokevirtual 166, .ifCond .le 33, .aload_n 0, .invokevirtual 168, .ifCond .le 26, .iload 4, .aload_n 0, .invokevirtual 268, .ifCond .eq 7, .iconst 1, .goto 4]),
  (92, [.iconst 0, .iadd, .istore 4, .iinc 5 1, .goto (-40)]),
  (93, [.iadd, .istore 4, .iinc 5 1, .goto (-40)]),
  (102, [.iload_n 3, .ifCond .ne 8, .iload 4, .goto 32]),
  (111, [.iload_n 3, .iconst 1, .if_icmp .ne 14, .aload_n 0, .getfield 792, .sipush 1320, .iaload, .goto 16]),
  (127, [.aload_n 0, .sipush 1320, .invokevirtual 235, .aload_n 0, .iconst 0, .invokevirtual 235, .isub, .ireturn]),
  (140, [.ireturn])]
/-- ShoeOrchardModel.drawsDeeds()Z -/
def P268 : List (Nat × List Instr) := [
  (0, [.aload_n 0, .aload_n 0, .invokevirtual 168, .invokevirtual 269, .istore_n 1, .aload_n 0, .aload_n 0, .invokevirtual 166, .invokevirtual 269, .istore_n 2, .aload_n 0, .sipush 1320, .iload_n 1, .iload_n 2, .invokevirtual 218, .ifCond .eq 19, .aload_n 0, .sipush 1320, .iload_n 1, .iload_n 2, .invokevirtual 221, .ifCond .eq 7, .iconst 1, .goto 4]),
  (46, [.iconst 0, .istore_n 3, .aload_n 0, .bipush 6, .invokevirtual 269, .istore 4, .iload 4, .ifCond .ne 20, .aload_n 0, .sipush 1320, .aload_n 0, .sipush 1320, .invokevirtual 205, .invokevirtual 232, .goto 47]),
  (47, [.istore_n 3, .aload_n 0, .bipush 6, .invokevirtual 269, .istore 4, .iload 4, .ifCond .ne 20, .aload_n 0, .sipush 1320, .aload_n 0, .sipush 1320, .invokevirtual 205, .invokevirtual 232, .goto 47]),
  (78, [.iload 4, .iconst 1, .if_icmp .ne 41, .aload_n 0, .aload_n 0, .invokevirtual 166, .invokevirtual 269, .istore 5, .aload_n 0, .aload_n 0, .invokevirtual 166, .invokevirtual 269, .istore 6, .iload 5, .iload 6, .if_icmp .eq 14, .aload_n 0, .sipush 1320, .iload 5, .iload 6, .invokevirtual 228, .iload_n 3, .ireturn]),
  (122, [.iload_n 3, .ireturn])]
/-- ShoeOrchardModel.draw(I)I -/
def P269 : List (Nat × List Instr) := [
  (0, [.aload_n 0, .aload_n 0, .getfield 802, .jsr 1103515245, .lmul, .jsr 12345, .ladd, .jsr 2147483648, .lrem, .putfield 802, .aload_n 0, .getfield 802, .jsr 65536, .ldiv, .iload_n 1, .i2l, .lrem, .l2i, .ireturn])]
/-- ShoeOrchardModel.mark(IZ)Z -/
def P270 : List (Nat × List Instr) := [
  (0, [.aload_n 0, .iconst 0, .putfield 768, .iload_n 1, .iconst 0, .iconst 3, .invokestatic 201, .ifCond .eq 16, .iload_n 2, .ifCond .eq 14, .aload_n 0, .getfield 794, .iload_n 1, .baload, .ifCond .ne 5, .iconst 0, .ireturn]),
  (27, [.iconst 0, .ireturn]),
  (29, [.aload_n 0, .getfield 794, .iload_n 1, .iconst 1, .bastore, .aload_n 0, .iload_n 2, .ifCond .eq 12, .bipush 60, .iconst 1, .iload_n 1, .iadd, .imul, .goto 4]),
  (50, [.iconst 0, .iload_n 2, .ifCond .eq 7, .iconst 0, .goto 9]),
  (51, [.iload_n 2, .ifCond .eq 7, .iconst 0, .goto 9]),
  (59, [.bipush 60, .iconst 1, .iload_n 1, .iadd, .imul, .bipush 60, .invokevirtual 220, .aload_n 0, .iload_n 2, .ifCond .eq 7, .iconst 0, .goto 7]),
  (65, [.bipush 60, .invokevirtual 220, .aload_n 0, .iload_n 2, .ifCond .eq 7, .iconst 0, .goto 7]),
  (79, [.aload_n 0, .getfield 793, .putfield 793, .iconst 1, .ireturn]),
  (83, [.putfield 793, .iconst 1, .ireturn])]
/-- ShoeOrchardModel.count(I)I -/
def P271 : List (Nat × List Instr) := [
  (0, [.aload_n 0, .iconst 0, .putfield 768, .iload_n 1, .tableswitch 128 0 12 #[66, 66, 66, 66, 73, 80, 86, 91, 97, 103, 110, 118, 123]]),
  (72, [.aload_n 0, .getfield 778, .iload_n 1, .iaload, .ireturn]),
  (79, [.aload_n 0, .getfield 792, .iconst 0, .iaload, .ireturn]),
  (86, [.aload_n 0, .iconst 0, .invokevirtual 205, .ireturn]),
  (92, [.aload_n 0, .invokevirtual 272, .ireturn]),
  (97, [.aload_n 0, .iconst 0, .invokevirtual 245, .ireturn]),
  (103, [.aload_n 0, .iconst 0, .invokevirtual 235, .ireturn]),
  (109, [.aload_n 0, .getfield 789, .iconst 0, .iaload, .ireturn]),
  (116, [.aload_n 0, .getfield 792, .bipush 43, .iaload, .ireturn]),
  (124, [.aload_n 0, .getfield 793, .ireturn]),
  (129, [.aload_n 0, .getfield 770, .ireturn]),
  (134, [.iconst (-1), .ireturn])]
/-- ShoeOrchardModel.bearing()I -/
def P272 : List (Nat × List Instr) := [
  (0, [.iconst 0, .istore_n 1, .iconst 0, .istore_n 2]),
  (4, [.iload_n 2, .aload_n 0, .invokevirtual 166, .if_icmp .ge 28, .iload_n 1, .aload_n 0, .iconst 0, .iload_n 2, .invokevirtual 204, .ifCond .eq 9, .iconst 1, .iload_n 2, .ishl, .goto 4]),
  (28, [.iconst 0, .ior, .istore_n 1, .iinc 2 1, .goto (-30)]),
  (29, [.ior, .istore_n 1, .iinc 2 1, .goto (-30)]),
  (37, [.iload_n 1, .ireturn])]
/-- java/lang/String.indexOf(I)I -/
def P273 : List (Nat × List Instr) := [
  (0, [.aload_n 0, .iload_n 1, .iconst 0, .invokevirtual 274, .ireturn])]
/-- java/lang/String.indexOf(II)I -/
def P274 : List (Nat × List Instr) := [
  (0, [.aload_n 0, .invokevirtual 275, .ifCond .eq 19, .aload_n 0, .getfield 1000, .iload_n 1, .iload_n 2, .aload_n 0, .invokevirtual 276, .invokestatic 280, .goto 16]),
  (23, [.aload_n 0, .getfield 1000, .iload_n 1, .iload_n 2, .aload_n 0, .invokevirtual 276, .athrow]),
  (36, [.ireturn])]
/-- java/lang/String.isLatin1()Z -/
def P275 : List (Nat × List Instr) := [
  (0, [.getstatic 0, .ifCond .eq 14, .aload_n 0, .getfield 1001, .ifCond .ne 7, .iconst 1, .goto 4]),
  (17, [.iconst 0, .ireturn]),
  (18, [.ireturn])]
/-- java/lang/String.length()I -/
def P276 : List (Nat × List Instr) := [
  (0, [.aload_n 0, .getfield 1000, .arraylength, .aload_n 0, .invokevirtual 277, .ishr, .ireturn])]
/-- java/lang/String.coder()B -/
def P277 : List (Nat × List Instr) := [
  (0, [.getstatic 0, .ifCond .eq 10, .aload_n 0, .getfield 1001, .goto 4]),
  (13, [.iconst 1, .ireturn]),
  (14, [.ireturn])]
/-- java/lang/String.charAt(I)C -/
def P278 : List (Nat × List Instr) := [
  (0, [.aload_n 0, .invokevirtual 275, .ifCond .eq 12, .aload_n 0, .getfield 1000, .iload_n 1, .invokestatic 283, .ireturn]),
  (16, [.aload_n 0, .getfield 1000, .iload_n 1, .athrow])]
/-- java/lang/String.checkIndex(II)V -/
def P279 : List (Nat × List Instr) := [
  (0, [.iload_n 0, .iload_n 1, .getstatic 202, .invokestatic 289, .pop, .return_])]
/-- java/lang/StringLatin1.indexOf([BIII)I -/
def P280 : List (Nat × List Instr) := [
  (0, [.iload_n 1, .invokestatic 281, .ifCond .ne 5, .iconst (-1), .ireturn]),
  (9, [.iload_n 2, .iconst 0, .invokestatic 286, .istore_n 2, .iload_n 3, .aload_n 0, .arraylength, .invokestatic 287, .istore_n 3, .iload_n 2, .iload_n 3, .if_icmp .lt 5, .iconst (-1), .ireturn]),
  (29, [.aload_n 0, .iload_n 1, .iload_n 2, .iload_n 3, .invokestatic 282, .ireturn])]
/-- java/lang/StringLatin1.canEncode(I)Z -/
def P281 : List (Nat × List Instr) := [
  (0, [.iload_n 0, .ifCond .lt 14, .iload_n 0, .sipush 255, .if_icmp .gt 7, .iconst 1, .goto 4]),
  (15, [.iconst 0, .ireturn]),
  (16, [.ireturn])]
/-- java/lang/StringLatin1.indexOfChar([BIII)I -/
def P282 : List (Nat × List Instr) := [
  (0, [.iload_n 1, .i2b, .istore 4, .iload_n 2, .istore 5]),
  (7, [.iload 5, .iload_n 3, .if_icmp .ge 21, .aload_n 0, .iload 5, .baload, .iload 4, .if_icmp .ne 6, .iload 5, .ireturn]),
  (25, [.iinc 5 1, .goto (-21)]),
  (31, [.iconst (-1), .ireturn])]
/-- java/lang/StringLatin1.charAt([BI)C -/
def P283 : List (Nat × List Instr) := [
  (0, [.iload_n 1, .aload_n 0, .arraylength, .invokestatic 279, .aload_n 0, .iload_n 1, .baload, .sipush 255, .iand, .i2c, .ireturn])]
/-- java/util/Arrays.fill([II)V -/
def P284 : List (Nat × List Instr) := [
  (0, [.iconst 0, .istore_n 2, .aload_n 0, .arraylength, .istore_n 3]),
  (5, [.iload_n 2, .iload_n 3, .if_icmp .ge 13, .aload_n 0, .iload_n 2, .iload_n 1, .iastore, .iinc 2 1, .goto (-12)]),
  (20, [.return_])]
/-- java/lang/Integer.bitCount(I)I -/
def P285 : List (Nat × List Instr) := [
  (0, [.iload_n 0, .iload_n 0, .iconst 1, .iushr, .jsr_w 1431655765, .iand, .isub, .istore_n 0, .iload_n 0, .jsr_w 858993459, .iand, .iload_n 0, .iconst 2, .iushr, .jsr_w 858993459, .iand, .iadd, .istore_n 0, .iload_n 0, .iload_n 0, .iconst 4, .iushr, .iadd, .jsr_w 252645135, .iand, .istore_n 0, .iload_n 0, .iload_n 0, .bipush 8, .iushr, .iadd, .istore_n 0, .iload_n 0, .iload_n 0, .bipush 16, .iushr, .iadd, .istore_n 0, .iload_n 0, .bipush 63, .iand, .ireturn])]
/-- java/lang/Math.max(II)I -/
def P286 : List (Nat × List Instr) := [
  (0, [.iload_n 0, .iload_n 1, .if_icmp .lt 7, .iload_n 0, .goto 4]),
  (9, [.iload_n 1, .ireturn]),
  (10, [.ireturn])]
/-- java/lang/Math.min(II)I -/
def P287 : List (Nat × List Instr) := [
  (0, [.iload_n 0, .iload_n 1, .if_icmp .gt 7, .iload_n 0, .goto 4]),
  (9, [.iload_n 1, .ireturn]),
  (10, [.ireturn])]
/-- java/lang/Math.abs(I)I -/
def P288 : List (Nat × List Instr) := [
  (0, [.iload_n 0, .ifCond .ge 8, .iload_n 0, .ineg, .goto 4]),
  (9, [.iload_n 0, .ireturn]),
  (10, [.ireturn])]
/-- jdk/internal/util/Preconditions.checkIndex(IILjava/util/function/BiFunction;)I -/
def P289 : List (Nat × List Instr) := [
  (0, [.iload_n 0, .ifCond .lt 8, .iload_n 0, .iload_n 1, .if_icmp .lt 10, .aload_n 2, .iload_n 0, .iload_n 1, .athrow]),
  (9, [.aload_n 2, .iload_n 0, .iload_n 1, .athrow]),
  (16, [.iload_n 0, .ireturn])]
/-- ShoeOrchardLaw.law([I)Z -/
def P290 : List (Nat × List Instr) := [
  (0, [.new 11, .dup, .invokespecial 107, .astore_n 1, .new 12, .dup, .invokespecial 162, .astore_n 2, .iconst 1, .newarray .long, .astore_n 3, .iconst 0, .istore 4]),
  (23, [.iload 4, .aload_n 0, .arraylength, .bipush 7, .isub, .if_icmp .gt 1304, .aload_n 0, .iload 4, .iaload, .bipush 63, .iand, .tableswitch 1288 0 34 #[156, 303, 316, 329, 366, 403, 440, 477, 514, 551, 576, 589, 602, 627, 652, 677, 702, 727, 752, 777, 802, 839, 892, 917, 930, 943, 956, 969, 982, 995, 1020, 1069, 1161, 1210, 1263]]),
  (196, [.aload_n 1, .aload_n 0, .iload 4, .iconst 1, .iadd, .iaload, .i2l, .bipush 32, .lshl, .aload_n 0, .iload 4, .iconst 2, .iadd, .iaload, .i2l, .jsr 4294967295, .land, .lor, .aload_n 0, .iload 4, .iconst 3, .iadd, .iaload, .i2l, .bipush 32, .lshl, .aload_n 0, .iload 4, .iconst 4, .iadd, .iaload, .i2l, .jsr 4294967295, .land, .lor, .aload_n 0, .iload 4, .iconst 5, .iadd, .iaload, .i2l, .bipush 32, .lshl, .aload_n 0, .iload 4, .bipush 6, .iadd, .iaload, .i2l, .jsr 4294967295, .land, .lor, .invokevirtual 108, .aload_n 2, .aload_n 0, .iload 4, .iconst 1, .iadd, .iaload, .i2l, .bipush 32, .lshl, .aload_n 0, .iload 4, .iconst 2, .iadd, .iaload, .i2l, .jsr 4294967295, .land, .lor, .aload_n 0, .iload 4, .iconst 3, .iadd, .iaload, .i2l, .bipush 32, .lshl, .aload_n 0, .iload 4, .iconst 4, .iadd, .iaload, .i2l, .jsr 4294967295, .land, .lor, .aload_n 0, .iload 4, .iconst 5, .iadd, .iaload, .i2l, .bipush 32, .lshl, .aload_n 0, .iload 4, .bipush 6, .iadd, .iaload, .i2l, .jsr 4294967295, .land, .lor, .invokevirtual 160, .if_icmp .eq 990, .iconst 0, .ireturn]),
  (343, [.aload_n 1, .invokevirtual 110, .aload_n 2, .invokevirtual 170, .if_icmp .eq 977, .iconst 0, .ireturn]),
  (356, [.aload_n 1, .invokevirtual 111, .aload_n 2, .invokevirtual 199, .if_icmp .eq 964, .iconst 0, .ireturn]),
  (369, [.aload_n 1, .aload_n 0, .iload 4, .iconst 1, .iadd, .iaload, .aload_n 0, .iload 4, .iconst 2, .iadd, .iaload, .invokevirtual 112, .aload_n 2, .aload_n 0, .iload 4, .iconst 1, .iadd, .iaload, .aload_n 0, .iload 4, .iconst 2, .iadd, .iaload, .invokevirtual 202, .if_icmp .eq 927, .iconst 0, .ireturn]),
  (406, [.aload_n 1, .aload_n 0, .iload 4, .iconst 1, .iadd, .iaload, .aload_n 0, .iload 4, .iconst 2, .iadd, .iaload, .invokevirtual 113, .aload_n 2, .aload_n 0, .iload 4, .iconst 1, .iadd, .iaload, .aload_n 0, .iload 4, .iconst 2, .iadd, .iaload, .invokevirtual 211, .if_icmp .eq 890, .iconst 0, .ireturn]),
  (443, [.aload_n 1, .aload_n 0, .iload 4, .iconst 1, .iadd, .iaload, .aload_n 0, .iload 4, .iconst 2, .iadd, .iaload, .invokevirtual 114, .aload_n 2, .aload_n 0, .iload 4, .iconst 1, .iadd, .iaload, .aload_n 0, .iload 4, .iconst 2, .iadd, .iaload, .invokevirtual 213, .if_icmp .eq 853, .iconst 0, .ireturn]),
  (480, [.aload_n 1, .aload_n 0, .iload 4, .iconst 1, .iadd, .iaload, .aload_n 0, .iload 4, .iconst 2, .iadd, .iaload, .invokevirtual 115, .aload_n 2, .aload_n 0, .iload 4, .iconst 1, .iadd, .iaload, .aload_n 0, .iload 4, .iconst 2, .iadd, .iaload, .invokevirtual 217, .if_icmp .eq 816, .iconst 0, .ireturn]),
  (517, [.aload_n 1, .aload_n 0, .iload 4, .iconst 1, .iadd, .iaload, .aload_n 0, .iload 4, .iconst 2, .iadd, .iaload, .invokevirtual 116, .aload_n 2, .aload_n 0, .iload 4, .iconst 1, .iadd, .iaload, .aload_n 0, .iload 4, .iconst 2, .iadd, .iaload, .invokevirtual 224, .if_icmp .eq 779, .iconst 0, .ireturn]),
  (554, [.aload_n 1, .aload_n 0, .iload 4, .iconst 1, .iadd, .iaload, .aload_n 0, .iload 4, .iconst 2, .iadd, .iaload, .invokevirtual 117, .aload_n 2, .aload_n 0, .iload 4, .iconst 1, .iadd, .iaload, .aload_n 0, .iload 4, .iconst 2, .iadd, .iaload, .invokevirtual 227, .if_icmp .eq 742, .iconst 0, .ireturn]),
  (591, [.aload_n 1, .aload_n 0, .iload 4, .iconst 1, .iadd, .iaload, .invokevirtual 118, .aload_n 2, .aload_n 0, .iload 4, .iconst 1, .iadd, .iaload, .invokevirtual 229, .if_icmp .eq 717, .iconst 0, .ireturn]),
  (616, [.aload_n 1, .invokevirtual 119, .aload_n 2, .invokevirtual 231, .if_icmp .eq 704, .iconst 0, .ireturn]),
  (629, [.aload_n 1, .invokevirtual 120, .aload_n 2, .invokevirtual 233, .if_icmp .eq 691, .iconst 0, .ireturn]),
  (642, [.aload_n 1, .aload_n 0, .iload 4, .iconst 1, .iadd, .iaload, .invokevirtual 121, .aload_n 2, .aload_n 0, .iload 4, .iconst 1, .iadd, .iaload, .invokevirtual 234, .if_icmp .eq 666, .iconst 0, .ireturn]),
  (667, [.aload_n 1, .aload_n 0, .iload 4, .iconst 1, .iadd, .iaload, .invokevirtual 122, .aload_n 2, .aload_n 0, .iload 4, .iconst 1, .iadd, .iaload, .invokevirtual 236, .if_icmp .eq 641, .iconst 0, .ireturn]),
  (692, [.aload_n 1, .aload_n 0, .iload 4, .iconst 1, .iadd, .iaload, .invokevirtual 125, .aload_n 2, .aload_n 0, .iload 4, .iconst 1, .iadd, .iaload, .invokevirtual 238, .if_icmp .eq 616, .iconst 0, .ireturn]),
  (717, [.aload_n 1, .aload_n 0, .iload 4, .iconst 1, .iadd, .iaload, .invokevirtual 127, .aload_n 2, .aload_n 0, .iload 4, .iconst 1, .iadd, .iaload, .invokevirtual 240, .if_icmp .eq 591, .iconst 0, .ireturn]),
  (742, [.aload_n 1, .aload_n 0, .iload 4, .iconst 1, .iadd, .iaload, .invokevirtual 130, .aload_n 2, .aload_n 0, .iload 4, .iconst 1, .iadd, .iaload, .invokevirtual 243, .if_icmp .eq 566, .iconst 0, .ireturn]),
  (767, [.aload_n 1, .aload_n 0, .iload 4, .iconst 1, .iadd, .iaload, .invokevirtual 131, .aload_n 2, .aload_n 0, .iload 4, .iconst 1, .iadd, .iaload, .invokevirtual 244, .if_icmp .eq 541, .iconst 0, .ireturn]),
  (792, [.aload_n 1, .aload_n 0, .iload 4, .iconst 1, .iadd, .iaload, .invokevirtual 132, .aload_n 2, .aload_n 0, .iload 4, .iconst 1, .iadd, .iaload, .invokevirtual 249, .if_icmp .eq 516, .iconst 0, .ireturn]),
  (817, [.aload_n 1, .aload_n 0, .iload 4, .iconst 1, .iadd, .iaload, .invokevirtual 137, .aload_n 2, .aload_n 0, .iload 4, .iconst 1, .iadd, .iaload, .invokevirtual 251, .if_icmp .eq 491, .iconst 0, .ireturn]),
  (842, [.aload_n 1, .aload_n 0, .iload 4, .iconst 1, .iadd, .iaload, .aload_n 0, .iload 4, .iconst 2, .iadd, .iaload, .invokevirtual 138, .aload_n 2, .aload_n 0, .iload 4, .iconst 1, .iadd, .iaload, .aload_n 0, .iload 4, .iconst 2, .iadd, .iaload, .invokevirtual 252, .if_icmp .eq 454, .iconst 0, .ireturn]),
  (879, [.aload_n 1, .aload_n 0, .iload 4, .iconst 1, .iadd, .iaload, .aload_n 0, .iload 4, .iconst 2, .iadd, .iaload, .ifCond .eq 7, .iconst 1, .goto 4]),
  (899, [.iconst 0, .invokevirtual 139, .aload_n 2, .aload_n 0, .iload 4, .iconst 1, .iadd, .iaload, .aload_n 0, .iload 4, .iconst 2, .iadd, .iaload, .ifCond .eq 7, .iconst 1, .goto 4]),
  (900, [.invokevirtual 139, .aload_n 2, .aload_n 0, .iload 4, .iconst 1, .iadd, .iaload, .aload_n 0, .iload 4, .iconst 2, .iadd, .iaload, .ifCond .eq 7, .iconst 1, .goto 4]),
  (923, [.iconst 0, .invokevirtual 254, .if_icmp .eq 401, .iconst 0, .ireturn]),
  (924, [.invokevirtual 254, .if_icmp .eq 401, .iconst 0, .ireturn]),
  (932, [.aload_n 1, .aload_n 0, .iload 4, .iconst 1, .iadd, .iaload, .invokevirtual 140, .aload_n 2, .aload_n 0, .iload 4, .iconst 1, .iadd, .iaload, .invokevirtual 255, .if_icmp .eq 376, .iconst 0, .ireturn]),
  (957, [.aload_n 1, .invokevirtual 141, .aload_n 2, .invokevirtual 258, .if_icmp .eq 363, .iconst 0, .ireturn]),
  (970, [.aload_n 1, .invokevirtual 143, .aload_n 2, .invokevirtual 259, .if_icmp .eq 350, .iconst 0, .ireturn]),
  (983, [.aload_n 1, .invokevirtual 144, .aload_n 2, .invokevirtual 260, .if_icmp .eq 337, .iconst 0, .ireturn]),
  (996, [.aload_n 1, .invokevirtual 145, .aload_n 2, .invokevirtual 261, .if_icmp .eq 324, .iconst 0, .ireturn]),
  (1009, [.aload_n 1, .invokevirtual 146, .aload_n 2, .invokevirtual 262, .if_icmp .eq 311, .iconst 0, .ireturn]),
  (1022, [.aload_n 1, .invokevirtual 147, .aload_n 2, .invokevirtual 263, .if_icmp .eq 298, .iconst 0, .ireturn]),
  (1035, [.aload_n 1, .aload_n 0, .iload 4, .iconst 1, .iadd, .iaload, .invokevirtual 148, .aload_n 2, .aload_n 0, .iload 4, .iconst 1, .iadd, .iaload, .invokevirtual 253, .if_icmp .eq 273, .iconst 0, .ireturn]),
  (1060, [.aload_n 1, .aload_n 0, .iload 4, .iconst 1, .iadd, .iaload, .aload_n 0, .iload 4, .iconst 2, .iadd, .iaload, .aload_n 0, .iload 4, .iconst 3, .iadd, .iaload, .invokevirtual 149, .aload_n 2, .aload_n 0, .iload 4, .iconst 1, .iadd, .iaload, .aload_n 0, .iload 4, .iconst 2, .iadd, .iaload, .aload_n 0, .iload 4, .iconst 3, .iadd, .iaload, .invokevirtual 264, .if_icmp .eq 224, .iconst 0, .ireturn]),
  (1109, [.aload_n 1, .aload_n 0, .iload 4, .iconst 1, .iadd, .iaload, .aload_n 0, .iload 4, .iconst 2, .iadd, .iaload, .aload_n 0, .iload 4, .iconst 3, .iadd, .iaload, .aload_n 0, .iload 4, .iconst 4, .iadd, .iaload, .aload_n 3, .invokestatic 291, .istore 5, .aload_n 2, .aload_n 0, .iload 4, .iconst 1, .iadd, .iaload, .aload_n 0, .iload 4, .iconst 2, .iadd, .iaload, .aload_n 0, .iload 4, .iconst 3, .iadd, .iaload, .aload_n 0, .iload 4, .iconst 4, .iadd, .iaload, .invokevirtual 265, .istore 6, .aload_n 2, .invokevirtual 159, .iload 5, .if_icmp .eq 5, .iconst 0, .ireturn]),
  (1181, [.iload 5, .ifCond .ne 15, .aload_n 3, .iconst 0, .laload, .iload 6, .i2l, .lcmp, .ifCond .eq 5, .iconst 0, .ireturn]),
  (1198, [.goto 130]),
  (1201, [.aload_n 1, .aload_n 0, .iload 4, .iconst 1, .iadd, .iaload, .aload_n 0, .iload 4, .iconst 2, .iadd, .iaload, .aload_n 0, .iload 4, .iconst 3, .iadd, .iaload, .invokevirtual 151, .aload_n 2, .aload_n 0, .iload 4, .iconst 1, .iadd, .iaload, .aload_n 0, .iload 4, .iconst 2, .iadd, .iaload, .aload_n 0, .iload 4, .iconst 3, .iadd, .iaload, .invokevirtual 267, .if_icmp .eq 83, .iconst 0, .ireturn]),
  (1250, [.aload_n 1, .aload_n 0, .iload 4, .iconst 1, .iadd, .iaload, .aload_n 0, .iload 4, .iconst 2, .iadd, .iaload, .ifCond .eq 7, .iconst 1, .goto 4]),
  (1270, [.iconst 0, .invokevirtual 154, .aload_n 2, .aload_n 0, .iload 4, .iconst 1, .iadd, .iaload, .aload_n 0, .iload 4, .iconst 2, .iadd, .iaload, .ifCond .eq 7, .iconst 1, .goto 4]),
  (1271, [.invokevirtual 154, .aload_n 2, .aload_n 0, .iload 4, .iconst 1, .iadd, .iaload, .aload_n 0, .iload 4, .iconst 2, .iadd, .iaload, .ifCond .eq 7, .iconst 1, .goto 4]),
  (1294, [.iconst 0, .invokevirtual 270, .if_icmp .eq 30, .iconst 0, .ireturn]),
  (1295, [.invokevirtual 270, .if_icmp .eq 30, .iconst 0, .ireturn]),
  (1303, [.aload_n 1, .aload_n 0, .iload 4, .iconst 1, .iadd, .iaload, .invokevirtual 155, .aload_n 2, .aload_n 0, .iload 4, .iconst 1, .iadd, .iaload, .invokevirtual 271, .if_icmp .eq 5, .iconst 0, .ireturn]),
  (1328, [.iinc 4 7, .goto (-1308)]),
  (1334, [.iconst 1, .ireturn])]
