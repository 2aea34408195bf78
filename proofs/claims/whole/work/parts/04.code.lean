/-- RegionStack$Row.get(I)I -/
def cd_0 : List AI := [
  (.iload_n 1, [], 0), (.ifCond .lt 21, [12], 0), (.iload_n 1, [], 0), (.aload_n 0, [], 0), (.getfield 7, [3, 0, 2], 0), (.arraylength, [], 0),
  (.if_icmp .ge 12, [12], 0), (.aload_n 0, [], 0), (.getfield 7, [3, 0, 2], 0), (.iload_n 1, [], 0), (.iaload, [], 0), (.goto 4, [13], 0),
  (.iconst 0, [], 0), (.ireturn, [], 0)
]
def bp_0 : List Nat := [0, 1, 4, 5, 6, 9, 10, 13, 14, 17, 18, 19, 22, 23, 24]
/-- RegionStack$Row.set(II)V -/
def cd_1 : List AI := [
  (.iload_n 1, [], 0), (.ifCond .lt 19, [12], 0), (.iload_n 1, [], 0), (.aload_n 0, [], 0), (.getfield 7, [3, 0, 2], 0), (.arraylength, [], 0),
  (.if_icmp .ge 10, [12], 0), (.aload_n 0, [], 0), (.getfield 7, [3, 0, 2], 0), (.iload_n 1, [], 0), (.iload_n 2, [], 0), (.iastore, [], 0),
  (.return_, [], 0)
]
def bp_1 : List Nat := [0, 1, 4, 5, 6, 9, 10, 13, 14, 17, 18, 19, 20, 21]
/-- RegionStack$Row.fill(I)V -/
def cd_2 : List AI := [
  (.iconst 0, [], 0), (.istore_n 2, [], 0), (.iload_n 2, [], 0), (.aload_n 0, [], 0), (.getfield 7, [3, 0, 2], 0), (.arraylength, [], 0),
  (.if_icmp .ge 16, [14], 0), (.aload_n 0, [], 0), (.getfield 7, [3, 0, 2], 0), (.iload_n 2, [], 0), (.iload_n 1, [], 0), (.iastore, [], 0),
  (.iinc 2 1, [], 0), (.goto (-19), [2], 0), (.return_, [], 0)
]
def bp_2 : List Nat := [0, 1, 2, 3, 4, 7, 8, 11, 12, 15, 16, 17, 18, 21, 24, 25]
/-- RegionStack.isWithin(III)Z -/
def cd_3 : List AI := [
  (.iload_n 0, [], 0), (.iload_n 1, [], 0), (.if_icmp .lt 12, [8], 0), (.iload_n 0, [], 0), (.iload_n 2, [], 0), (.if_icmp .gt 7, [8], 0),
  (.iconst 1, [], 0), (.goto 4, [9], 0), (.iconst 0, [], 0), (.ireturn, [], 0)
]
def bp_3 : List Nat := [0, 1, 2, 5, 6, 7, 10, 11, 14, 15, 16]
/-- RegionStack.isLetter(I)Z -/
def cd_4 : List AI := [
  (.iload_n 0, [], 0), (.bipush 97, [], 0), (.bipush 100, [], 0), (.invokestatic 38, [3, 3, 0, 1], 0), (.ireturn, [], 0)
]
def bp_4 : List Nat := [0, 1, 3, 5, 8, 9]
/-- RegionStack.isFigure(I)Z -/
def cd_5 : List AI := [
  (.iload_n 0, [], 0), (.bipush 48, [], 0), (.bipush 57, [], 0), (.invokestatic 38, [3, 3, 0, 1], 0), (.ireturn, [], 0)
]
def bp_5 : List Nat := [0, 1, 3, 5, 8, 9]
/-- RegionStack.bearsName(I)Z -/
def cd_6 : List AI := [
  (.iload_n 0, [], 0), (.bipush 108, [], 0), (.if_icmp .eq 9, [6], 0), (.iload_n 0, [], 0), (.bipush 64, [], 0), (.if_icmp .ne 7, [8], 0),
  (.iconst 1, [], 0), (.goto 4, [9], 0), (.iconst 0, [], 0), (.ireturn, [], 0)
]
def bp_6 : List Nat := [0, 1, 3, 6, 7, 9, 12, 13, 16, 17, 18]
/-- RegionStack.isNameFor(II)Z -/
def cd_7 : List AI := [
  (.iload_n 0, [], 0), (.bipush 108, [], 0), (.if_icmp .ne 10, [6], 0), (.iload_n 1, [], 0), (.invokestatic 174, [4, 1, 0, 1], 0), (.goto 11, [10], 0),
  (.iload_n 1, [], 0), (.bipush 48, [], 0), (.bipush 50, [], 0), (.invokestatic 38, [3, 3, 0, 1], 0), (.ireturn, [], 0)
]
def bp_7 : List Nat := [0, 1, 3, 6, 7, 10, 13, 14, 16, 18, 21, 22]
/-- RegionStack.termsIn(I)I -/
def cd_8 : List AI := [
  (.iload_n 0, [], 0), (.lookupswitch 73 #[(42, 67), (43, 69), (45, 67), (63, 71), (64, 67), (108, 69), (110, 67)], [8, 2, 4, 2, 6, 2, 4, 2], 0), (.iconst 1, [], 0), (.ireturn, [], 0), (.iconst 2, [], 0), (.ireturn, [], 0),
  (.iconst 3, [], 0), (.ireturn, [], 0), (.iload_n 0, [], 0), (.bipush 120, [], 0), (.if_icmp .eq 17, [17], 0), (.iload_n 0, [], 0),
  (.invokestatic 177, [5, 1, 0, 1], 0), (.ifCond .ne 10, [17], 0), (.iload_n 0, [], 0), (.invokestatic 174, [4, 1, 0, 1], 0), (.ifCond .eq 7, [19], 0), (.iconst 0, [], 0),
  (.goto 4, [20], 0), (.iconst (-1), [], 0), (.ireturn, [], 0)
]
def bp_8 : List Nat := [0, 1, 68, 69, 70, 71, 72, 73, 74, 75, 77, 80, 81, 84, 87, 88, 91, 94, 95, 98, 99, 100]
/-- RegionStackModel.in(III)Z -/
def cd_9 : List AI := [
  (.iload_n 0, [], 0), (.iload_n 1, [], 0), (.if_icmp .lt 12, [8], 0), (.iload_n 0, [], 0), (.iload_n 2, [], 0), (.if_icmp .gt 7, [8], 0),
  (.iconst 1, [], 0), (.goto 4, [9], 0), (.iconst 0, [], 0), (.ireturn, [], 0)
]
def bp_9 : List Nat := [0, 1, 2, 5, 6, 7, 10, 11, 14, 15, 16]
/-- RegionStackModel.isBody(I)Z -/
def cd_10 : List AI := [
  (.iload_n 0, [], 0), (.iconst 0, [], 0), (.iconst 2, [], 0), (.invokestatic 95, [9, 3, 0, 1], 0), (.ireturn, [], 0)
]
def bp_10 : List Nat := [0, 1, 2, 3, 6, 7]
/-- RegionStackModel.kindOfSign(I)I -/
def cd_11 : List AI := [
  (.iload_n 0, [], 0), (.bipush 48, [], 0), (.bipush 57, [], 0), (.invokestatic 95, [9, 3, 0, 1], 0), (.ifCond .eq 5, [7], 0), (.iconst 0, [], 0),
  (.ireturn, [], 0), (.iload_n 0, [], 0), (.bipush 97, [], 0), (.bipush 100, [], 0), (.invokestatic 95, [9, 3, 0, 1], 0), (.ifCond .eq 5, [14], 0),
  (.iconst 2, [], 0), (.ireturn, [], 0), (.iload_n 0, [], 0), (.lookupswitch 93 #[(42, 77), (43, 81), (45, 79), (63, 84), (64, 90), (108, 87), (110, 75), (120, 73)], [32, 20, 24, 22, 26, 30, 28, 18, 16], 0), (.iconst 1, [], 0), (.ireturn, [], 0),
  (.iconst 3, [], 0), (.ireturn, [], 0), (.iconst 4, [], 0), (.ireturn, [], 0), (.iconst 5, [], 0), (.ireturn, [], 0),
  (.bipush 6, [], 0), (.ireturn, [], 0), (.bipush 7, [], 0), (.ireturn, [], 0), (.bipush 8, [], 0), (.ireturn, [], 0),
  (.bipush 9, [], 0), (.ireturn, [], 0), (.bipush (-6), [], 0), (.ireturn, [], 0)
]
def bp_11 : List Nat := [0, 1, 3, 5, 8, 11, 12, 13, 14, 16, 18, 21, 24, 25, 26, 27, 100, 101, 102, 103, 104, 105, 106, 107, 108, 110, 111, 113, 114, 116, 117, 119, 120, 122, 123]
/-- RegionStackModel.inner(I)I -/
def cd_12 : List AI := [
  (.iload_n 0, [], 0), (.iconst 3, [], 0), (.if_icmp .ge 7, [5], 0), (.iconst 0, [], 0), (.goto 30, [19], 0), (.iload_n 0, [], 0),
  (.bipush 6, [], 0), (.if_icmp .lt 9, [11], 0), (.iload_n 0, [], 0), (.bipush 9, [], 0), (.if_icmp .ne 7, [13], 0), (.iconst 1, [], 0),
  (.goto 14, [19], 0), (.iload_n 0, [], 0), (.bipush 7, [], 0), (.if_icmp .ne 7, [18], 0), (.iconst 3, [], 0), (.goto 4, [19], 0),
  (.iconst 2, [], 0), (.ireturn, [], 0)
]
def bp_12 : List Nat := [0, 1, 2, 5, 6, 9, 10, 12, 15, 16, 18, 21, 22, 25, 26, 28, 31, 32, 35, 36, 37]
/-- RegionStackModel.nodeOf(II)I -/
def cd_13 : List AI := [
  (.bipush 42, [], 0), (.iload_n 1, [], 0), (.imul, [], 0), (.iload_n 2, [], 0), (.iadd, [], 0), (.bipush 40, [], 0),
  (.iload_n 1, [], 0), (.imul, [], 0), (.isub, [], 0), (.ireturn, [], 0)
]
def bp_13 : List Nat := [0, 2, 3, 4, 5, 6, 8, 9, 10, 11, 12]
/-- RegionStackModel.bodyOfCall(I)I -/
def cd_14 : List AI := [
  (.aload_n 0, [], 0), (.getfield 19, [9, 3, 2], 3), (.iload_n 1, [], 0), (.iconst 1, [], 0), (.iadd, [], 0), (.iaload, [], 0),
  (.bipush 48, [], 0), (.isub, [], 0), (.ireturn, [], 0)
]
def bp_14 : List Nat := [0, 1, 4, 5, 6, 7, 8, 10, 11, 12]
/-- RegionStack$Program.bodyAt(I)LRegionStack$Body; -/
def cd_15 : List AI := [
  (.iload_n 1, [], 0), (.ifCond .lt 21, [12], 0), (.iload_n 1, [], 0), (.aload_n 0, [], 0), (.getfield 11, [2, 0, 2], 0), (.arraylength, [], 0),
  (.if_icmp .ge 12, [12], 0), (.aload_n 0, [], 0), (.getfield 11, [2, 0, 2], 0), (.iload_n 1, [], 0), (.aaload, [], 0), (.goto 4, [13], 0),
  (.aconst_null, [], 0), (.areturn, [], 0)
]
def bp_15 : List Nat := [0, 1, 4, 5, 6, 9, 10, 13, 14, 17, 18, 19, 22, 23, 24]
/-- RegionStack$Text.hasPlace(I)Z -/
def cd_16 : List AI := [
  (.iload_n 1, [], 0), (.ifCond .lt 15, [8], 0), (.iload_n 1, [], 0), (.aload_n 0, [], 0), (.getfield 20, [7, 1, 0], 1), (.if_icmp .ge 7, [8], 0),
  (.iconst 1, [], 0), (.goto 4, [9], 0), (.iconst 0, [], 0), (.ireturn, [], 0)
]
def bp_16 : List Nat := [0, 1, 4, 5, 6, 9, 12, 13, 16, 17, 18]
/-- RegionStack$Text.bothKinds()I -/
def cd_17 : List AI := [
  (.bipush 10, [], 0), (.aload_n 0, [], 0), (.getfield 24, [7, 2, 0], 2), (.imul, [], 0), (.aload_n 0, [], 0), (.getfield 27, [7, 3, 0], 3),
  (.iadd, [], 0), (.ireturn, [], 0)
]
def bp_17 : List Nat := [0, 2, 3, 6, 7, 8, 11, 12, 13]
/-- RegionStack$Term.isPart(I)Z -/
def cd_18 : List AI := [
  (.aload_n 0, [], 0), (.getfield 27, [6, 2, 2], 2), (.iload_n 1, [], 0), (.invokevirtual 48, [0, 2, 3, 1], 0), (.ifCond .eq 7, [7], 0), (.iconst 1, [], 0),
  (.goto 4, [8], 0), (.iconst 0, [], 0), (.ireturn, [], 0)
]
def bp_18 : List Nat := [0, 1, 4, 5, 8, 11, 12, 15, 16, 17]
/-- RegionStack$Term.innerAt(II)I -/
def cd_19 : List AI := [
  (.aload_n 0, [], 0), (.getfield 33, [6, 4, 2], 4), (.iconst 3, [], 0), (.iload_n 1, [], 0), (.imul, [], 0), (.iload_n 2, [], 0),
  (.iadd, [], 0), (.invokevirtual 48, [0, 2, 3, 1], 0), (.ireturn, [], 0)
]
def bp_19 : List Nat := [0, 1, 4, 5, 6, 7, 8, 9, 12, 13]
/-- RegionStack$Term.binderAt(I)I -/
def cd_20 : List AI := [
  (.aload_n 0, [], 0), (.getfield 42, [6, 7, 2], 7), (.iload_n 1, [], 0), (.invokevirtual 48, [0, 2, 3, 1], 0), (.ireturn, [], 0)
]
def bp_20 : List Nat := [0, 1, 4, 5, 8, 9]
/-- RegionStack$Term.innerKind(II)I -/
def cd_21 : List AI := [
  (.aload_n 0, [], 0), (.getfield 23, [6, 1, 2], 1), (.aload_n 0, [], 0), (.getfield 33, [6, 4, 2], 4), (.iconst 3, [], 0), (.iload_n 1, [], 0),
  (.imul, [], 0), (.iload_n 2, [], 0), (.iadd, [], 0), (.invokevirtual 48, [0, 2, 3, 1], 0), (.invokevirtual 48, [0, 2, 3, 1], 0), (.ireturn, [], 0)
]
def bp_21 : List Nat := [0, 1, 4, 5, 8, 9, 10, 11, 12, 13, 16, 19, 20]
/-- RegionStack$Store.lookInto(I)I -/
def cd_22 : List AI := [
  (.aload_n 0, [], 0), (.getfield 14, [5, 0, 2], 0), (.iload_n 1, [], 0), (.invokevirtual 67, [0, 2, 3, 1], 0), (.ireturn, [], 0)
]
def bp_22 : List Nat := [0, 1, 4, 5, 8, 9]
/-- RegionStackModel.rootOf(I)I -/
def cd_23 : List AI := [
  (.iload_n 1, [], 0), (.istore_n 2, [], 0), (.aload_n 0, [], 0), (.getfield 37, [9, 9, 2], 9), (.iload_n 2, [], 0), (.iaload, [], 0),
  (.iload_n 2, [], 0), (.if_icmp .eq 13, [14], 0), (.aload_n 0, [], 0), (.getfield 37, [9, 9, 2], 9), (.iload_n 2, [], 0), (.iaload, [], 0),
  (.istore_n 2, [], 0), (.goto (-17), [2], 0), (.iload_n 2, [], 0), (.ireturn, [], 0)
]
def bp_23 : List Nat := [0, 1, 2, 3, 6, 7, 8, 9, 12, 13, 16, 17, 18, 19, 22, 23, 24]
/-- RegionStackModel.unite(II)V -/
def cd_24 : List AI := [
  (.aload_n 0, [], 0), (.getfield 37, [9, 9, 2], 9), (.aload_n 0, [], 0), (.iload_n 1, [], 0), (.invokevirtual 134, [23, 2, 9, 1], 0), (.aload_n 0, [], 0),
  (.iload_n 2, [], 0), (.invokevirtual 134, [23, 2, 9, 1], 0), (.iastore, [], 0), (.return_, [], 0)
]
def bp_24 : List Nat := [0, 1, 4, 5, 6, 9, 10, 11, 14, 15, 16]
/-- RegionStack.<init>()V -/
def cd_25 : List AI := [
  (.aload_n 0, [], 0), (.invokespecial 3, [], 0), (.aload_n 0, [], 0), (.new 9, [], 0), (.dup, [], 0), (.invokespecial 11, [112, 1, 4, 0], 0),
  (.putfield 12, [8, 1, 2], 1), (.aload_n 0, [], 0), (.aload_n 0, [], 0), (.getfield 12, [8, 1, 2], 1), (.getfield 16, [4, 0, 2], 0), (.putfield 20, [8, 0, 2], 0),
  (.aload_n 0, [], 0), (.bipush 6, [], 0), (.anewarray 21, [], 0), (.putfield 23, [8, 2, 2], 2), (.iconst 0, [], 0), (.istore_n 1, [], 0),
  (.iload_n 1, [], 0), (.aload_n 0, [], 0), (.getfield 23, [8, 2, 2], 2), (.arraylength, [], 0), (.if_icmp .ge 22, [32], 0), (.aload_n 0, [], 0),
  (.getfield 23, [8, 2, 2], 2), (.iload_n 1, [], 0), (.new 21, [], 0), (.dup, [], 0), (.invokespecial 27, [138, 1, 7, 0], 0), (.aastore, [], 0),
  (.iinc 1 1, [], 0), (.goto (-25), [18], 0), (.aload_n 0, [], 0), (.iconst 2, [], 0), (.newarray .boolean, [], 0), (.putfield 28, [8, 3, 2], 3),
  (.return_, [], 0)
]
def bp_25 : List Nat := [0, 1, 4, 5, 8, 9, 12, 15, 16, 17, 20, 23, 26, 27, 29, 32, 35, 36, 37, 38, 39, 42, 43, 46, 47, 50, 51, 54, 55, 58, 59, 62, 65, 66, 67, 69, 72, 73]
/-- RegionStack.body(III)I -/
def cd_26 : List AI := [
  (.aload_n 0, [], 0), (.getfield 20, [8, 0, 2], 0), (.iload_n 1, [], 0), (.invokevirtual 32, [15, 2, 2, 2], 0), (.astore 4, [], 0), (.aload 4, [], 0),
  (.ifnonnull 5, [9], 0), (.iconst (-1), [], 0), (.ireturn, [], 0), (.iload_n 2, [], 0), (.iconst 0, [], 0), (.iconst 1, [], 0),
  (.invokestatic 38, [3, 3, 0, 1], 0), (.ifCond .eq 12, [19], 0), (.iload_n 3, [], 0), (.iconst 0, [], 0), (.iconst 1, [], 0), (.invokestatic 38, [3, 3, 0, 1], 0),
  (.ifCond .ne 6, [21], 0), (.bipush (-2), [], 0), (.ireturn, [], 0), (.aload 4, [], 0), (.getfield 42, [1, 1, 2], 1), (.invokevirtual 48, [17, 1, 7, 1], 0),
  (.istore 5, [], 0), (.aload 4, [], 0), (.getfield 42, [1, 1, 2], 1), (.iload_n 2, [], 0), (.putfield 52, [7, 2, 0], 2), (.aload 4, [], 0),
  (.getfield 42, [1, 1, 2], 1), (.iload_n 3, [], 0), (.putfield 56, [7, 3, 0], 3), (.aload_n 0, [], 0), (.getfield 20, [8, 0, 2], 0), (.invokevirtual 59, [103, 1, 2, 0], 0),
  (.iload 5, [], 0), (.ireturn, [], 0)
]
def bp_26 : List Nat := [0, 1, 4, 5, 8, 10, 12, 15, 16, 17, 18, 19, 20, 23, 26, 27, 28, 29, 32, 35, 37, 38, 40, 43, 46, 48, 50, 53, 54, 57, 59, 62, 63, 66, 67, 70, 73, 75, 76]
/-- RegionStack.say(II)I -/
def cd_27 : List AI := [
  (.aload_n 0, [], 0), (.getfield 20, [8, 0, 2], 0), (.iload_n 1, [], 0), (.invokevirtual 32, [15, 2, 2, 2], 0), (.astore_n 3, [], 0), (.aload_n 3, [], 0),
  (.ifnonnull 5, [9], 0), (.iconst (-1), [], 0), (.ireturn, [], 0), (.iload_n 2, [], 0), (.bipush 33, [], 0), (.bipush 126, [], 0),
  (.invokestatic 38, [3, 3, 0, 1], 0), (.ifCond .ne 6, [16], 0), (.bipush (-2), [], 0), (.ireturn, [], 0), (.aload_n 3, [], 0), (.getfield 42, [1, 1, 2], 1),
  (.getfield 62, [7, 1, 0], 1), (.bipush 40, [], 0), (.if_icmp .lt 6, [23], 0), (.bipush (-4), [], 0), (.ireturn, [], 0), (.aload_n 3, [], 0),
  (.getfield 42, [1, 1, 2], 1), (.getfield 65, [7, 0, 2], 0), (.aload_n 3, [], 0), (.getfield 42, [1, 1, 2], 1), (.getfield 62, [7, 1, 0], 1), (.iload_n 2, [], 0),
  (.invokevirtual 69, [1, 3, 3, 0], 0), (.aload_n 3, [], 0), (.getfield 42, [1, 1, 2], 1), (.dup, [], 0), (.getfield 62, [7, 1, 0], 1), (.iconst 1, [], 0),
  (.iadd, [], 0), (.putfield 62, [7, 1, 0], 1), (.aload_n 0, [], 0), (.aload_n 3, [], 0), (.invokevirtual 75, [43, 2, 8, 0], 0), (.aload_n 3, [], 0),
  (.getfield 42, [1, 1, 2], 1), (.getfield 62, [7, 1, 0], 1), (.ireturn, [], 0)
]
def bp_27 : List Nat := [0, 1, 4, 5, 8, 9, 10, 13, 14, 15, 16, 18, 20, 23, 26, 28, 29, 30, 33, 36, 38, 41, 43, 44, 45, 48, 51, 52, 55, 58, 59, 62, 63, 66, 67, 70, 71, 72, 75, 76, 77, 80, 81, 84, 87, 88]
/-- RegionStack.wipe(I)I -/
def cd_28 : List AI := [
  (.aload_n 0, [], 0), (.getfield 20, [8, 0, 2], 0), (.iload_n 1, [], 0), (.invokevirtual 32, [15, 2, 2, 2], 0), (.astore_n 2, [], 0), (.aload_n 2, [], 0),
  (.ifnonnull 5, [9], 0), (.iconst (-1), [], 0), (.ireturn, [], 0), (.aload_n 2, [], 0), (.getfield 42, [1, 1, 2], 1), (.getfield 62, [7, 1, 0], 1),
  (.istore_n 3, [], 0), (.aload_n 2, [], 0), (.getfield 42, [1, 1, 2], 1), (.iconst 0, [], 0), (.putfield 62, [7, 1, 0], 1), (.aload_n 0, [], 0),
  (.aload_n 2, [], 0), (.invokevirtual 75, [43, 2, 8, 0], 0), (.iload_n 3, [], 0), (.ireturn, [], 0)
]
def bp_28 : List Nat := [0, 1, 4, 5, 8, 9, 10, 13, 14, 15, 16, 19, 22, 23, 24, 27, 28, 31, 32, 33, 36, 37, 38]
/-- RegionStack.fault(I)I -/
def cd_29 : List AI := [
  (.aload_n 0, [], 0), (.getfield 20, [8, 0, 2], 0), (.iload_n 1, [], 0), (.invokevirtual 32, [15, 2, 2, 2], 0), (.astore_n 2, [], 0), (.aload_n 2, [], 0),
  (.ifnonnull 7, [9], 0), (.iconst (-1), [], 0), (.goto 10, [12], 0), (.aload_n 2, [], 0), (.getfield 79, [1, 0, 2], 0), (.getfield 83, [6, 9, 0], 9),
  (.ireturn, [], 0)
]
def bp_29 : List Nat := [0, 1, 4, 5, 8, 9, 10, 13, 14, 17, 18, 21, 24, 25]
/-- RegionStack.parts(II)I -/
def cd_30 : List AI := [
  (.aload_n 0, [], 0), (.getfield 20, [8, 0, 2], 0), (.iload_n 1, [], 0), (.invokevirtual 32, [15, 2, 2, 2], 0), (.astore_n 3, [], 0), (.aload_n 3, [], 0),
  (.ifnonnull 5, [9], 0), (.iconst (-1), [], 0), (.ireturn, [], 0), (.iload_n 2, [], 0), (.iconst 0, [], 0), (.iconst 1, [], 0),
  (.invokestatic 38, [3, 3, 0, 1], 0), (.ifCond .ne 6, [16], 0), (.bipush (-2), [], 0), (.ireturn, [], 0), (.aload_n 3, [], 0), (.getfield 79, [1, 0, 2], 0),
  (.getfield 83, [6, 9, 0], 9), (.bipush (-6), [], 0), (.if_icmp .eq 6, [23], 0), (.bipush (-5), [], 0), (.ireturn, [], 0), (.iload_n 2, [], 0),
  (.ifCond .ne 13, [29], 0), (.aload_n 3, [], 0), (.getfield 79, [1, 0, 2], 0), (.getfield 88, [6, 10, 0], 10), (.goto 14, [34], 0), (.aload_n 0, [], 0),
  (.getfield 20, [8, 0, 2], 0), (.aload_n 3, [], 0), (.getfield 79, [1, 0, 2], 0), (.invokevirtual 91, [105, 2, 2, 1], 0), (.ireturn, [], 0)
]
def bp_30 : List Nat := [0, 1, 4, 5, 8, 9, 10, 13, 14, 15, 16, 17, 18, 21, 24, 26, 27, 28, 31, 34, 36, 39, 41, 42, 43, 46, 47, 50, 53, 56, 57, 60, 61, 64, 67, 68]
/-- RegionStack.kind(II)I -/
def cd_31 : List AI := [
  (.aload_n 0, [], 0), (.getfield 20, [8, 0, 2], 0), (.iload_n 1, [], 0), (.invokevirtual 32, [15, 2, 2, 2], 0), (.astore_n 3, [], 0), (.aload_n 3, [], 0),
  (.ifnonnull 5, [9], 0), (.iconst (-1), [], 0), (.ireturn, [], 0), (.aload_n 3, [], 0), (.getfield 42, [1, 1, 2], 1), (.iload_n 2, [], 0),
  (.invokevirtual 95, [16, 2, 7, 1], 0), (.ifCond .ne 6, [16], 0), (.bipush (-2), [], 0), (.ireturn, [], 0), (.aload_n 3, [], 0), (.getfield 79, [1, 0, 2], 0),
  (.getfield 83, [6, 9, 0], 9), (.bipush (-6), [], 0), (.if_icmp .eq 6, [23], 0), (.bipush (-5), [], 0), (.ireturn, [], 0), (.aload_n 3, [], 0),
  (.getfield 79, [1, 0, 2], 0), (.iload_n 2, [], 0), (.invokevirtual 99, [18, 2, 6, 1], 0), (.ifCond .eq 17, [34], 0), (.aload_n 3, [], 0), (.getfield 79, [1, 0, 2], 0),
  (.getfield 102, [6, 1, 2], 1), (.iload_n 2, [], 0), (.invokevirtual 105, [0, 2, 3, 1], 0), (.goto 5, [35], 0), (.bipush (-6), [], 0), (.ireturn, [], 0)
]
def bp_31 : List Nat := [0, 1, 4, 5, 8, 9, 10, 13, 14, 15, 16, 19, 20, 23, 26, 28, 29, 30, 33, 36, 38, 41, 43, 44, 45, 48, 49, 52, 55, 56, 59, 62, 63, 66, 69, 71, 72]
/-- RegionStack.well()I -/
def cd_32 : List AI := [
  (.aload_n 0, [], 0), (.getfield 20, [8, 0, 2], 0), (.invokevirtual 109, [107, 1, 2, 1], 0), (.ifCond .eq 7, [6], 0), (.iconst 1, [], 0), (.goto 4, [7], 0),
  (.iconst 0, [], 0), (.ireturn, [], 0)
]
def bp_32 : List Nat := [0, 1, 4, 7, 10, 11, 14, 15, 16]
/-- RegionStack.tells(II)I -/
def cd_33 : List AI := [
  (.aload_n 0, [], 0), (.getfield 20, [8, 0, 2], 0), (.iload_n 1, [], 0), (.invokevirtual 32, [15, 2, 2, 2], 0), (.astore_n 3, [], 0), (.aload_n 3, [], 0),
  (.ifnonnull 5, [9], 0), (.iconst (-1), [], 0), (.ireturn, [], 0), (.iload_n 2, [], 0), (.iconst 0, [], 0), (.iconst 2, [], 0),
  (.invokestatic 38, [3, 3, 0, 1], 0), (.ifCond .ne 6, [16], 0), (.bipush (-2), [], 0), (.ireturn, [], 0), (.aload_n 0, [], 0), (.getfield 20, [8, 0, 2], 0),
  (.invokevirtual 109, [107, 1, 2, 1], 0), (.ifCond .ne 6, [22], 0), (.bipush (-5), [], 0), (.ireturn, [], 0), (.iload_n 2, [], 0), (.ifCond .ne 16, [31], 0),
  (.aload_n 3, [], 0), (.getfield 113, [1, 6, 1], 6), (.ifCond .eq 7, [29], 0), (.iconst 1, [], 0), (.goto 4, [30], 0), (.iconst 0, [], 0),
  (.ireturn, [], 0), (.iload_n 2, [], 0), (.iconst 1, [], 0), (.if_icmp .ne 10, [37], 0), (.aload_n 3, [], 0), (.getfield 117, [1, 7, 0], 7),
  (.goto 7, [39], 0), (.aload_n 3, [], 0), (.getfield 120, [1, 8, 0], 8), (.ireturn, [], 0)
]
def bp_33 : List Nat := [0, 1, 4, 5, 8, 9, 10, 13, 14, 15, 16, 17, 18, 21, 24, 26, 27, 28, 31, 34, 37, 39, 40, 41, 44, 45, 48, 51, 52, 55, 56, 57, 58, 59, 62, 63, 66, 69, 70, 73, 74]
/-- RegionStack.region(II)I -/
def cd_34 : List AI := [
  (.aload_n 0, [], 0), (.getfield 20, [8, 0, 2], 0), (.iload_n 1, [], 0), (.invokevirtual 32, [15, 2, 2, 2], 0), (.astore_n 3, [], 0), (.aload_n 3, [], 0),
  (.ifnonnull 5, [9], 0), (.iconst (-1), [], 0), (.ireturn, [], 0), (.aload_n 3, [], 0), (.getfield 42, [1, 1, 2], 1), (.iload_n 2, [], 0),
  (.invokevirtual 95, [16, 2, 7, 1], 0), (.ifCond .ne 6, [16], 0), (.bipush (-2), [], 0), (.ireturn, [], 0), (.aload_n 0, [], 0), (.getfield 20, [8, 0, 2], 0),
  (.invokevirtual 109, [107, 1, 2, 1], 0), (.ifCond .ne 6, [22], 0), (.bipush (-5), [], 0), (.ireturn, [], 0), (.aload_n 3, [], 0), (.getfield 123, [1, 3, 2], 3),
  (.iload_n 2, [], 0), (.invokevirtual 105, [0, 2, 3, 1], 0), (.ireturn, [], 0)
]
def bp_34 : List Nat := [0, 1, 4, 5, 8, 9, 10, 13, 14, 15, 16, 19, 20, 23, 26, 28, 29, 30, 33, 36, 39, 41, 42, 43, 46, 47, 50, 51]
/-- RegionStack.home(II)I -/
def cd_35 : List AI := [
  (.aload_n 0, [], 0), (.getfield 20, [8, 0, 2], 0), (.iload_n 1, [], 0), (.invokevirtual 32, [15, 2, 2, 2], 0), (.astore_n 3, [], 0), (.aload_n 3, [], 0),
  (.ifnonnull 5, [9], 0), (.iconst (-1), [], 0), (.ireturn, [], 0), (.aload_n 0, [], 0), (.getfield 20, [8, 0, 2], 0), (.invokevirtual 109, [107, 1, 2, 1], 0),
  (.ifCond .ne 6, [15], 0), (.bipush (-5), [], 0), (.ireturn, [], 0), (.aload_n 3, [], 0), (.iload_n 2, [], 0), (.invokevirtual 126, [89, 2, 1, 1], 0),
  (.ifCond .eq 14, [24], 0), (.aload_n 3, [], 0), (.getfield 129, [1, 5, 2], 5), (.iload_n 2, [], 0), (.invokevirtual 105, [0, 2, 3, 1], 0), (.goto 5, [25], 0),
  (.bipush (-2), [], 0), (.ireturn, [], 0)
]
def bp_35 : List Nat := [0, 1, 4, 5, 8, 9, 10, 13, 14, 15, 16, 19, 22, 25, 27, 28, 29, 30, 33, 36, 37, 40, 41, 44, 47, 49, 50]
/-- RegionStack.touches(III)I -/
def cd_36 : List AI := [
  (.aload_n 0, [], 0), (.getfield 20, [8, 0, 2], 0), (.iload_n 1, [], 0), (.invokevirtual 32, [15, 2, 2, 2], 0), (.astore 4, [], 0), (.aload 4, [], 0),
  (.ifnonnull 5, [9], 0), (.iconst (-1), [], 0), (.ireturn, [], 0), (.iload_n 2, [], 0), (.iconst 0, [], 0), (.bipush 99, [], 0),
  (.invokestatic 38, [3, 3, 0, 1], 0), (.ifCond .eq 12, [19], 0), (.iload_n 3, [], 0), (.iconst 0, [], 0), (.iconst 2, [], 0), (.invokestatic 38, [3, 3, 0, 1], 0),
  (.ifCond .ne 6, [21], 0), (.bipush (-2), [], 0), (.ireturn, [], 0), (.aload_n 0, [], 0), (.getfield 20, [8, 0, 2], 0), (.invokevirtual 109, [107, 1, 2, 1], 0),
  (.ifCond .ne 6, [27], 0), (.bipush (-5), [], 0), (.ireturn, [], 0), (.aload 4, [], 0), (.aload_n 0, [], 0), (.getfield 20, [8, 0, 2], 0),
  (.iload_n 2, [], 0), (.iload_n 3, [], 0), (.invokevirtual 132, [97, 4, 1, 1], 0), (.ireturn, [], 0)
]
def bp_36 : List Nat := [0, 1, 4, 5, 8, 10, 12, 15, 16, 17, 18, 19, 21, 24, 27, 28, 29, 30, 33, 36, 38, 39, 40, 43, 46, 49, 51, 52, 54, 55, 58, 59, 60, 63, 64]
/-- RegionStack.run(III)I -/
def cd_37 : List AI := [
  (.aload_n 0, [], 0), (.iload_n 1, [], 0), (.iload_n 2, [], 0), (.iload_n 3, [], 0), (.iconst 0, [], 0), (.bipush 7, [], 0),
  (.invokestatic 38, [3, 3, 0, 1], 0), (.invokevirtual 136, [45, 4, 8, 1], 0), (.istore 4, [], 0), (.iload 4, [], 0), (.ifCond .ne 14, [16], 0), (.aload_n 0, [], 0),
  (.getfield 12, [8, 1, 2], 1), (.iload_n 3, [], 0), (.invokevirtual 140, [113, 2, 4, 1], 0), (.goto 5, [17], 0), (.iload 4, [], 0), (.ireturn, [], 0)
]
def bp_37 : List Nat := [0, 1, 2, 3, 4, 5, 7, 10, 13, 15, 17, 20, 21, 24, 25, 28, 31, 33, 34]
/-- RegionStack.words(III)I -/
def cd_38 : List AI := [
  (.aload_n 0, [], 0), (.iload_n 1, [], 0), (.iload_n 2, [], 0), (.iload_n 3, [], 0), (.iconst 0, [], 0), (.iconst 1, [], 0),
  (.invokestatic 38, [3, 3, 0, 1], 0), (.invokevirtual 136, [45, 4, 8, 1], 0), (.istore 4, [], 0), (.iload 4, [], 0), (.ifCond .eq 6, [13], 0), (.iload 4, [], 0),
  (.ireturn, [], 0), (.iload_n 3, [], 0), (.ifCond .ne 16, [20], 0), (.aload_n 0, [], 0), (.getfield 12, [8, 1, 2], 1), (.getfield 143, [4, 1, 2], 1),
  (.getfield 147, [5, 11, 0], 11), (.goto 13, [24], 0), (.aload_n 0, [], 0), (.getfield 12, [8, 1, 2], 1), (.getfield 143, [4, 1, 2], 1), (.getfield 152, [5, 12, 0], 12),
  (.ireturn, [], 0)
]
def bp_38 : List Nat := [0, 1, 2, 3, 4, 5, 6, 9, 12, 14, 16, 19, 21, 22, 23, 26, 27, 30, 33, 36, 39, 40, 43, 46, 49, 50]
/-- RegionStack.mixed(II)I -/
def cd_39 : List AI := [
  (.aload_n 0, [], 0), (.iload_n 1, [], 0), (.iload_n 2, [], 0), (.iconst 1, [], 0), (.invokevirtual 136, [45, 4, 8, 1], 0), (.istore_n 3, [], 0),
  (.iload_n 3, [], 0), (.ifCond .eq 5, [10], 0), (.iload_n 3, [], 0), (.ireturn, [], 0), (.aload_n 0, [], 0), (.getfield 12, [8, 1, 2], 1),
  (.getfield 143, [4, 1, 2], 1), (.getfield 147, [5, 11, 0], 11), (.aload_n 0, [], 0), (.getfield 12, [8, 1, 2], 1), (.getfield 143, [4, 1, 2], 1), (.getfield 152, [5, 12, 0], 12),
  (.invokestatic 155, [46, 2, 0, 1], 0), (.ireturn, [], 0)
]
def bp_39 : List Nat := [0, 1, 2, 3, 4, 7, 8, 9, 12, 13, 14, 15, 18, 21, 24, 25, 28, 31, 34, 37, 38]
/-- RegionStack.image(I)I -/
def cd_40 : List AI := [
  (.iload_n 1, [], 0), (.iconst 0, [], 0), (.iconst 1, [], 0), (.invokestatic 38, [3, 3, 0, 1], 0), (.ifCond .ne 6, [7], 0), (.bipush (-2), [], 0),
  (.ireturn, [], 0), (.iconst 0, [], 0), (.istore_n 2, [], 0), (.iload_n 2, [], 0), (.iconst 3, [], 0), (.if_icmp .ge 44, [32], 0),
  (.aload_n 0, [], 0), (.iload_n 1, [], 0), (.iload_n 2, [], 0), (.invokevirtual 159, [44, 3, 8, 2], 0), (.astore_n 3, [], 0), (.aload_n 0, [], 0),
  (.getfield 20, [8, 0, 2], 0), (.iload_n 2, [], 0), (.invokevirtual 32, [15, 2, 2, 2], 0), (.astore 4, [], 0), (.aload_n 3, [], 0), (.ifnull 17, [30], 0),
  (.aload 4, [], 0), (.ifnull 12, [30], 0), (.aload_n 3, [], 0), (.aload 4, [], 0), (.getfield 42, [1, 1, 2], 1), (.invokevirtual 163, [139, 2, 7, 0], 0),
  (.iinc 2 1, [], 0), (.goto (-43), [9], 0), (.aload_n 0, [], 0), (.getfield 28, [8, 3, 2], 3), (.iload_n 1, [], 0), (.iconst 1, [], 0),
  (.bastore, [], 0), (.iconst 1, [], 0), (.ireturn, [], 0)
]
def bp_40 : List Nat := [0, 1, 2, 3, 6, 9, 11, 12, 13, 14, 15, 16, 19, 20, 21, 22, 25, 26, 27, 30, 31, 34, 36, 37, 40, 42, 45, 46, 48, 51, 54, 57, 60, 61, 64, 65, 66, 67, 68, 69]
/-- RegionStack.restore(I)I -/
def cd_41 : List AI := [
  (.iload_n 1, [], 0), (.iconst 0, [], 0), (.iconst 1, [], 0), (.invokestatic 38, [3, 3, 0, 1], 0), (.ifCond .ne 6, [7], 0), (.bipush (-2), [], 0),
  (.ireturn, [], 0), (.aload_n 0, [], 0), (.getfield 28, [8, 3, 2], 3), (.iload_n 1, [], 0), (.baload, [], 0), (.ifCond .ne 6, [14], 0),
  (.bipush (-3), [], 0), (.ireturn, [], 0), (.iconst 0, [], 0), (.istore_n 2, [], 0), (.iload_n 2, [], 0), (.iconst 3, [], 0),
  (.if_icmp .ge 52, [42], 0), (.aload_n 0, [], 0), (.iload_n 1, [], 0), (.iload_n 2, [], 0), (.invokevirtual 159, [44, 3, 8, 2], 0), (.astore_n 3, [], 0),
  (.aload_n 0, [], 0), (.getfield 20, [8, 0, 2], 0), (.iload_n 2, [], 0), (.invokevirtual 32, [15, 2, 2, 2], 0), (.astore 4, [], 0), (.aload_n 3, [], 0),
  (.ifnull 25, [40], 0), (.aload 4, [], 0), (.ifnull 20, [40], 0), (.aload 4, [], 0), (.getfield 42, [1, 1, 2], 1), (.aload_n 3, [], 0),
  (.invokevirtual 163, [139, 2, 7, 0], 0), (.aload 4, [], 0), (.getfield 79, [1, 0, 2], 0), (.invokevirtual 167, [133, 1, 6, 0], 0), (.iinc 2 1, [], 0), (.goto (-51), [16], 0),
  (.aload_n 0, [], 0), (.getfield 20, [8, 0, 2], 0), (.invokevirtual 59, [103, 1, 2, 0], 0), (.iconst 1, [], 0), (.ireturn, [], 0)
]
def bp_41 : List Nat := [0, 1, 2, 3, 6, 9, 11, 12, 13, 16, 17, 18, 21, 23, 24, 25, 26, 27, 28, 31, 32, 33, 34, 37, 38, 39, 42, 43, 46, 48, 49, 52, 54, 57, 59, 62, 63, 66, 68, 71, 74, 77, 80, 81, 84, 87, 88, 89]
/-- RegionStack.told(I)I -/
def cd_42 : List AI := [
  (.aload_n 0, [], 0), (.getfield 20, [8, 0, 2], 0), (.iload_n 1, [], 0), (.invokevirtual 32, [15, 2, 2, 2], 0), (.astore_n 2, [], 0), (.aload_n 2, [], 0),
  (.ifnull 11, [11], 0), (.aload_n 2, [], 0), (.getfield 42, [1, 1, 2], 1), (.getfield 62, [7, 1, 0], 1), (.ireturn, [], 0), (.iload_n 1, [], 0),
  (.bipush 10, [], 0), (.bipush 12, [], 0), (.invokestatic 38, [3, 3, 0, 1], 0), (.ifCond .eq 32, [31], 0), (.aload_n 0, [], 0), (.getfield 20, [8, 0, 2], 0),
  (.iload_n 1, [], 0), (.bipush 10, [], 0), (.isub, [], 0), (.invokevirtual 32, [15, 2, 2, 2], 0), (.astore_n 3, [], 0), (.aload_n 3, [], 0),
  (.ifnonnull 8, [27], 0), (.bipush (-2), [], 0), (.goto 10, [30], 0), (.aload_n 3, [], 0), (.getfield 42, [1, 1, 2], 1), (.invokevirtual 48, [17, 1, 7, 1], 0),
  (.ireturn, [], 0), (.iload_n 1, [], 0), (.bipush 100, [], 0), (.if_icmp .ge 6, [36], 0), (.bipush (-2), [], 0), (.ireturn, [], 0),
  (.aload_n 0, [], 0), (.getfield 20, [8, 0, 2], 0), (.iload_n 1, [], 0), (.bipush 100, [], 0), (.idiv, [], 0), (.iconst 1, [], 0),
  (.isub, [], 0), (.invokevirtual 32, [15, 2, 2, 2], 0), (.astore_n 3, [], 0), (.aload_n 3, [], 0), (.ifnull 17, [54], 0), (.aload_n 3, [], 0),
  (.getfield 42, [1, 1, 2], 1), (.iload_n 1, [], 0), (.bipush 100, [], 0), (.irem, [], 0), (.invokevirtual 95, [16, 2, 7, 1], 0), (.ifCond .ne 6, [56], 0),
  (.bipush (-2), [], 0), (.ireturn, [], 0), (.aload_n 3, [], 0), (.getfield 42, [1, 1, 2], 1), (.getfield 65, [7, 0, 2], 0), (.iload_n 1, [], 0),
  (.bipush 100, [], 0), (.irem, [], 0), (.invokevirtual 105, [0, 2, 3, 1], 0), (.ireturn, [], 0)
]
def bp_42 : List Nat := [0, 1, 4, 5, 8, 9, 10, 13, 14, 17, 20, 21, 22, 24, 26, 29, 32, 33, 36, 37, 39, 40, 43, 44, 45, 48, 50, 53, 54, 57, 60, 61, 62, 64, 67, 69, 70, 71, 74, 75, 77, 78, 79, 80, 83, 84, 85, 88, 89, 92, 93, 95, 96, 99, 102, 104, 105, 106, 109, 112, 113, 115, 116, 119, 120]
/-- RegionStack.textChanged(LRegionStack$Body;)V -/
def cd_43 : List AI := [
  (.aload_n 1, [], 0), (.getfield 79, [1, 0, 2], 0), (.invokevirtual 167, [133, 1, 6, 0], 0), (.aload_n 0, [], 0), (.getfield 20, [8, 0, 2], 0), (.invokevirtual 59, [103, 1, 2, 0], 0),
  (.return_, [], 0)
]
def bp_43 : List Nat := [0, 1, 4, 7, 8, 11, 14, 15]
/-- RegionStack.keptText(II)LRegionStack$Text; -/
def cd_44 : List AI := [
  (.iload_n 1, [], 0), (.iconst 3, [], 0), (.imul, [], 0), (.iload_n 2, [], 0), (.iadd, [], 0), (.istore_n 3, [], 0),
  (.iload_n 3, [], 0), (.ifCond .lt 21, [18], 0), (.iload_n 3, [], 0), (.aload_n 0, [], 0), (.getfield 23, [8, 2, 2], 2), (.arraylength, [], 0),
  (.if_icmp .ge 12, [18], 0), (.aload_n 0, [], 0), (.getfield 23, [8, 2, 2], 2), (.iload_n 3, [], 0), (.aaload, [], 0), (.goto 4, [19], 0),
  (.aconst_null, [], 0), (.areturn, [], 0)
]
def bp_44 : List Nat := [0, 1, 2, 3, 4, 5, 6, 7, 10, 11, 12, 15, 16, 19, 20, 23, 24, 25, 28, 29, 30]
/-- RegionStack.refusalOfRun(IIZ)I -/
def cd_45 : List AI := [
  (.aload_n 0, [], 0), (.getfield 20, [8, 0, 2], 0), (.iload_n 1, [], 0), (.invokevirtual 32, [15, 2, 2, 2], 0), (.ifnonnull 5, [7], 0), (.iconst (-1), [], 0),
  (.ireturn, [], 0), (.iload_n 2, [], 0), (.iconst 0, [], 0), (.sipush 999, [], 0), (.invokestatic 38, [3, 3, 0, 1], 0), (.ifCond .eq 7, [14], 0),
  (.iload_n 3, [], 0), (.ifCond .ne 6, [16], 0), (.bipush (-2), [], 0), (.ireturn, [], 0), (.aload_n 0, [], 0), (.getfield 20, [8, 0, 2], 0),
  (.invokevirtual 109, [107, 1, 2, 1], 0), (.ifCond .ne 6, [22], 0), (.bipush (-5), [], 0), (.ireturn, [], 0), (.aload_n 0, [], 0), (.getfield 12, [8, 1, 2], 1),
  (.iload_n 1, [], 0), (.iload_n 2, [], 0), (.invokevirtual 170, [114, 3, 4, 1], 0), (.ifCond .eq 7, [30], 0), (.iconst 0, [], 0), (.goto 5, [31], 0),
  (.bipush (-3), [], 0), (.ireturn, [], 0)
]
def bp_45 : List Nat := [0, 1, 4, 5, 8, 11, 12, 13, 14, 15, 18, 21, 24, 25, 28, 30, 31, 32, 35, 38, 41, 43, 44, 45, 48, 49, 50, 53, 56, 57, 60, 62, 63]
/-- RegionStack.quotientBits(II)I -/
def cd_46 : List AI := [
  (.iload_n 0, [], 0), (.ifCond .le 7, [4], 0), (.iload_n 1, [], 0), (.ifCond .gt 5, [6], 0), (.iconst 0, [], 0), (.ireturn, [], 0),
  (.iload_n 0, [], 0), (.i2l, [], 0), (.lstore_n 2, [], 0), (.iload_n 1, [], 0), (.i2l, [], 0), (.lstore 4, [], 0),
  (.bipush 127, [], 0), (.istore 6, [], 0), (.iconst 0, [], 0), (.istore 7, [], 0), (.iload 7, [], 0), (.bipush 32, [], 0),
  (.if_icmp .ge 25, [30], 0), (.lload_n 2, [], 0), (.lload 4, [], 0), (.lcmp, [], 0), (.ifCond .ge 18, [30], 0), (.lload_n 2, [], 0),
  (.ldc2_w 180, [], 2), (.lmul, [], 0), (.lstore_n 2, [], 0), (.iinc 6 (-1), [], 0), (.iinc 7 1, [], 0), (.goto (-26), [16], 0),
  (.iconst 0, [], 0), (.istore 7, [], 0), (.iload 7, [], 0), (.bipush 32, [], 0), (.if_icmp .ge 31, [48], 0), (.lload_n 2, [], 0),
  (.ldc2_w 180, [], 2), (.lload 4, [], 0), (.lmul, [], 0), (.lcmp, [], 0), (.ifCond .lt 20, [48], 0), (.lload 4, [], 0),
  (.ldc2_w 180, [], 2), (.lmul, [], 0), (.lstore 4, [], 0), (.iinc 6 1, [], 0), (.iinc 7 1, [], 0), (.goto (-32), [32], 0),
  (.lload_n 2, [], 0), (.bipush 23, [], 0), (.lshl, [], 0), (.lstore 7, [], 0), (.lload 7, [], 0), (.lload 4, [], 0),
  (.ldiv, [], 0), (.lstore 9, [], 0), (.ldc2_w 180, [], 2), (.lload 7, [], 0), (.lload 4, [], 0), (.lrem, [], 0),
  (.lmul, [], 0), (.lstore 11, [], 0), (.lload 11, [], 0), (.lload 4, [], 0), (.lcmp, [], 0), (.ifCond .gt 20, [76], 0),
  (.lload 11, [], 0), (.lload 4, [], 0), (.lcmp, [], 0), (.ifCond .ne 18, [80], 0), (.lload 9, [], 0), (.lconst 1, [], 1),
  (.land, [], 0), (.lconst 1, [], 1), (.lcmp, [], 0), (.ifCond .ne 9, [80], 0), (.lload 9, [], 0), (.lconst 1, [], 1),
  (.ladd, [], 0), (.lstore 9, [], 0), (.iload 6, [], 0), (.i2l, [], 0), (.bipush 23, [], 0), (.lshl, [], 0),
  (.lload 9, [], 0), (.ldc2_w 182, [], 8388608), (.lsub, [], 0), (.ladd, [], 0), (.l2i, [], 0), (.ireturn, [], 0)
]
def bp_46 : List Nat := [0, 1, 4, 5, 8, 9, 10, 11, 12, 13, 14, 15, 17, 19, 21, 22, 24, 26, 28, 31, 32, 34, 35, 38, 39, 42, 43, 44, 47, 50, 53, 54, 56, 58, 60, 63, 64, 67, 69, 70, 71, 74, 76, 79, 80, 82, 85, 88, 91, 92, 94, 95, 97, 99, 101, 102, 104, 107, 109, 111, 112, 113, 115, 117, 119, 120, 123, 125, 127, 128, 131, 133, 134, 135, 136, 137, 140, 142, 143, 144, 146, 148, 149, 151, 152, 154, 157, 158, 159, 160, 161]
/-- RegionStackModel.<init>()V -/
def cd_47 : List AI := [
  (.aload_n 0, [], 0), (.invokespecial 1, [], 0), (.aload_n 0, [], 0), (.iconst 3, [], 0), (.newarray .int, [], 0), (.putfield 7, [9, 0, 2], 0),
  (.aload_n 0, [], 0), (.iconst 3, [], 0), (.newarray .int, [], 0), (.putfield 13, [9, 1, 2], 1), (.aload_n 0, [], 0), (.iconst 3, [], 0),
  (.newarray .int, [], 0), (.putfield 16, [9, 2, 2], 2), (.aload_n 0, [], 0), (.bipush 120, [], 0), (.newarray .int, [], 0), (.putfield 19, [9, 3, 2], 3),
  (.aload_n 0, [], 0), (.bipush 120, [], 0), (.newarray .int, [], 0), (.putfield 22, [9, 4, 2], 4), (.aload_n 0, [], 0), (.bipush 120, [], 0),
  (.newarray .int, [], 0), (.putfield 25, [9, 5, 2], 5), (.aload_n 0, [], 0), (.bipush 120, [], 0), (.newarray .int, [], 0), (.putfield 28, [9, 6, 2], 6),
  (.aload_n 0, [], 0), (.bipush 120, [], 0), (.newarray .int, [], 0), (.putfield 31, [9, 7, 2], 7), (.aload_n 0, [], 0), (.bipush 120, [], 0),
  (.newarray .int, [], 0), (.putfield 34, [9, 8, 2], 8), (.aload_n 0, [], 0), (.bipush 126, [], 0), (.newarray .int, [], 0), (.putfield 37, [9, 9, 2], 9),
  (.aload_n 0, [], 0), (.iconst 3, [], 0), (.newarray .boolean, [], 0), (.putfield 40, [9, 10, 2], 10), (.aload_n 0, [], 0), (.bipush 120, [], 0),
  (.newarray .int, [], 0), (.putfield 44, [9, 11, 2], 11), (.aload_n 0, [], 0), (.sipush 132, [], 0), (.newarray .int, [], 0), (.putfield 47, [9, 12, 2], 12),
  (.aload_n 0, [], 0), (.iconst 3, [], 0), (.newarray .int, [], 0), (.putfield 50, [9, 13, 2], 13), (.aload_n 0, [], 0), (.iconst 3, [], 0),
  (.newarray .int, [], 0), (.putfield 53, [9, 14, 2], 14), (.aload_n 0, [], 0), (.sipush 600, [], 0), (.newarray .int, [], 0), (.putfield 56, [9, 15, 2], 15),
  (.aload_n 0, [], 0), (.sipush 600, [], 0), (.newarray .int, [], 0), (.putfield 59, [9, 16, 2], 16), (.aload_n 0, [], 0), (.sipush 600, [], 0),
  (.newarray .int, [], 0), (.putfield 62, [9, 17, 2], 17), (.aload_n 0, [], 0), (.sipush 600, [], 0), (.newarray .int, [], 0), (.putfield 65, [9, 18, 2], 18),
  (.aload_n 0, [], 0), (.bipush 16, [], 0), (.newarray .int, [], 0), (.putfield 68, [9, 20, 2], 20), (.aload_n 0, [], 0), (.bipush 16, [], 0),
  (.newarray .int, [], 0), (.putfield 71, [9, 21, 2], 21), (.aload_n 0, [], 0), (.sipush 640, [], 0), (.newarray .int, [], 0), (.putfield 74, [9, 22, 2], 22),
  (.aload_n 0, [], 0), (.sipush 704, [], 0), (.newarray .int, [], 0), (.putfield 77, [9, 23, 2], 23), (.aload_n 0, [], 0), (.sipush 302, [], 0),
  (.newarray .int, [], 0), (.putfield 80, [9, 25, 2], 25), (.aload_n 0, [], 0), (.sipush 700, [], 0), (.newarray .int, [], 0), (.putfield 83, [9, 26, 2], 26),
  (.aload_n 0, [], 0), (.sipush 700, [], 0), (.newarray .boolean, [], 0), (.putfield 86, [9, 27, 2], 27), (.aload_n 0, [], 0), (.sipush 260, [], 0),
  (.newarray .int, [], 0), (.putfield 89, [9, 41, 2], 41), (.aload_n 0, [], 0), (.iconst 2, [], 0), (.newarray .boolean, [], 0), (.putfield 92, [9, 42, 2], 42),
  (.return_, [], 0)
]
def bp_47 : List Nat := [0, 1, 4, 5, 6, 8, 11, 12, 13, 15, 18, 19, 20, 22, 25, 26, 28, 30, 33, 34, 36, 38, 41, 42, 44, 46, 49, 50, 52, 54, 57, 58, 60, 62, 65, 66, 68, 70, 73, 74, 76, 78, 81, 82, 83, 85, 88, 89, 91, 93, 96, 97, 100, 102, 105, 106, 107, 109, 112, 113, 114, 116, 119, 120, 123, 125, 128, 129, 132, 134, 137, 138, 141, 143, 146, 147, 150, 152, 155, 156, 158, 160, 163, 164, 166, 168, 171, 172, 175, 177, 180, 181, 184, 186, 189, 190, 193, 195, 198, 199, 202, 204, 207, 208, 211, 213, 216, 217, 220, 222, 225, 226, 227, 229, 232, 233]
/-- RegionStackModel.body(III)I -/
def cd_48 : List AI := [
  (.iload_n 1, [], 0), (.invokestatic 99, [10, 1, 0, 1], 0), (.ifCond .ne 5, [5], 0), (.iconst (-1), [], 0), (.ireturn, [], 0), (.iload_n 2, [], 0),
  (.iconst 0, [], 0), (.iconst 1, [], 0), (.invokestatic 95, [9, 3, 0, 1], 0), (.ifCond .eq 12, [15], 0), (.iload_n 3, [], 0), (.iconst 0, [], 0),
  (.iconst 1, [], 0), (.invokestatic 95, [9, 3, 0, 1], 0), (.ifCond .ne 6, [17], 0), (.bipush (-2), [], 0), (.ireturn, [], 0), (.bipush 10, [], 0),
  (.aload_n 0, [], 0), (.getfield 7, [9, 0, 2], 0), (.iload_n 1, [], 0), (.iaload, [], 0), (.imul, [], 0), (.aload_n 0, [], 0),
  (.getfield 13, [9, 1, 2], 1), (.iload_n 1, [], 0), (.iaload, [], 0), (.iadd, [], 0), (.istore 4, [], 0), (.aload_n 0, [], 0),
  (.getfield 7, [9, 0, 2], 0), (.iload_n 1, [], 0), (.iload_n 2, [], 0), (.iastore, [], 0), (.aload_n 0, [], 0), (.getfield 13, [9, 1, 2], 1),
  (.iload_n 1, [], 0), (.iload_n 3, [], 0), (.iastore, [], 0), (.iload 4, [], 0), (.ireturn, [], 0)
]
def bp_48 : List Nat := [0, 1, 4, 7, 8, 9, 10, 11, 12, 15, 18, 19, 20, 21, 24, 27, 29, 30, 32, 33, 36, 37, 38, 39, 40, 43, 44, 45, 46, 48, 49, 52, 53, 54, 55, 56, 59, 60, 61, 62, 64, 65]
/-- RegionStackModel.say(II)I -/
def cd_49 : List AI := [
  (.iload_n 1, [], 0), (.invokestatic 99, [10, 1, 0, 1], 0), (.ifCond .ne 5, [5], 0), (.iconst (-1), [], 0), (.ireturn, [], 0), (.iload_n 2, [], 0),
  (.bipush 33, [], 0), (.bipush 126, [], 0), (.invokestatic 95, [9, 3, 0, 1], 0), (.ifCond .ne 6, [12], 0), (.bipush (-2), [], 0), (.ireturn, [], 0),
  (.aload_n 0, [], 0), (.getfield 16, [9, 2, 2], 2), (.iload_n 1, [], 0), (.iaload, [], 0), (.bipush 40, [], 0), (.if_icmp .ne 6, [20], 0),
  (.bipush (-4), [], 0), (.ireturn, [], 0), (.aload_n 0, [], 0), (.getfield 19, [9, 3, 2], 3), (.bipush 40, [], 0), (.iload_n 1, [], 0),
  (.imul, [], 0), (.aload_n 0, [], 0), (.getfield 16, [9, 2, 2], 2), (.iload_n 1, [], 0), (.iaload, [], 0), (.iadd, [], 0),
  (.iload_n 2, [], 0), (.iastore, [], 0), (.aload_n 0, [], 0), (.getfield 16, [9, 2, 2], 2), (.iload_n 1, [], 0), (.dup2, [], 0),
  (.iaload, [], 0), (.iconst 1, [], 0), (.iadd, [], 0), (.iastore, [], 0), (.aload_n 0, [], 0), (.getfield 16, [9, 2, 2], 2),
  (.iload_n 1, [], 0), (.iaload, [], 0), (.ireturn, [], 0)
]
def bp_49 : List Nat := [0, 1, 4, 7, 8, 9, 10, 12, 14, 17, 20, 22, 23, 24, 27, 28, 29, 31, 34, 36, 37, 38, 41, 43, 44, 45, 46, 49, 50, 51, 52, 53, 54, 55, 58, 59, 60, 61, 62, 63, 64, 65, 68, 69, 70, 71]
/-- RegionStackModel.wipe(I)I -/
def cd_50 : List AI := [
  (.iload_n 1, [], 0), (.invokestatic 99, [10, 1, 0, 1], 0), (.ifCond .ne 5, [5], 0), (.iconst (-1), [], 0), (.ireturn, [], 0), (.aload_n 0, [], 0),
  (.getfield 16, [9, 2, 2], 2), (.iload_n 1, [], 0), (.iaload, [], 0), (.istore_n 2, [], 0), (.aload_n 0, [], 0), (.getfield 16, [9, 2, 2], 2),
  (.iload_n 1, [], 0), (.iconst 0, [], 0), (.iastore, [], 0), (.iload_n 2, [], 0), (.ireturn, [], 0)
]
def bp_50 : List Nat := [0, 1, 4, 7, 8, 9, 10, 13, 14, 15, 16, 17, 20, 21, 22, 23, 24, 25]
/-- RegionStackModel.read(I)I -/
def cd_51 : List AI := [
  (.iconst 1, [], 0), (.istore_n 2, [], 0), (.iconst 0, [], 0), (.istore_n 3, [], 0), (.iconst 0, [], 0), (.istore 4, [], 0),
  (.iload 4, [], 0), (.aload_n 0, [], 0), (.getfield 16, [9, 2, 2], 2), (.iload_n 1, [], 0), (.iaload, [], 0), (.if_icmp .ge 146, [87], 0),
  (.bipush 40, [], 0), (.iload_n 1, [], 0), (.imul, [], 0), (.iload 4, [], 0), (.iadd, [], 0), (.istore 5, [], 0),
  (.aload_n 0, [], 0), (.getfield 19, [9, 3, 2], 3), (.iload 5, [], 0), (.iaload, [], 0), (.istore 6, [], 0), (.aload_n 0, [], 0),
  (.getfield 22, [9, 4, 2], 4), (.iload 5, [], 0), (.bipush (-6), [], 0), (.iastore, [], 0), (.iload_n 2, [], 0), (.ifCond .ne 6, [32], 0),
  (.iload 4, [], 0), (.ireturn, [], 0), (.iload_n 3, [], 0), (.ifCond .le 44, [54], 0), (.iload_n 3, [], 0), (.iconst 1, [], 0),
  (.if_icmp .ne 15, [42], 0), (.iload 6, [], 0), (.bipush 97, [], 0), (.bipush 100, [], 0), (.invokestatic 95, [9, 3, 0, 1], 0), (.goto 12, [46], 0),
  (.iload 6, [], 0), (.bipush 48, [], 0), (.bipush 50, [], 0), (.invokestatic 95, [9, 3, 0, 1], 0), (.istore 7, [], 0), (.iload 7, [], 0),
  (.ifCond .ne 6, [51], 0), (.iload 4, [], 0), (.ireturn, [], 0), (.iconst 0, [], 0), (.istore_n 3, [], 0), (.goto 61, [85], 0),
  (.iload 6, [], 0), (.invokestatic 103, [11, 1, 0, 1], 0), (.istore 7, [], 0), (.iload 7, [], 0), (.ifCond .ge 6, [61], 0), (.iload 4, [], 0),
  (.ireturn, [], 0), (.aload_n 0, [], 0), (.getfield 22, [9, 4, 2], 4), (.iload 5, [], 0), (.iload 7, [], 0), (.iastore, [], 0),
  (.iload 7, [], 0), (.bipush 8, [], 0), (.if_icmp .ne 7, [71], 0), (.iconst 1, [], 0), (.goto 15, [77], 0), (.iload 7, [], 0),
  (.bipush 9, [], 0), (.if_icmp .ne 7, [76], 0), (.iconst 2, [], 0), (.goto 4, [77], 0), (.iconst 0, [], 0), (.istore_n 3, [], 0),
  (.iload_n 2, [], 0), (.iload 7, [], 0), (.invokestatic 107, [12, 1, 0, 1], 0), (.iconst 1, [], 0), (.isub, [], 0), (.iadd, [], 0),
  (.istore_n 2, [], 0), (.iinc 4 1, [], 0), (.goto (-151), [6], 0), (.iload_n 2, [], 0), (.ifCond .gt 7, [91], 0), (.iload_n 3, [], 0),
  (.ifCond .le 10, [96], 0), (.aload_n 0, [], 0), (.getfield 16, [9, 2, 2], 2), (.iload_n 1, [], 0), (.iaload, [], 0), (.ireturn, [], 0),
  (.aload_n 0, [], 0), (.getfield 16, [9, 2, 2], 2), (.iload_n 1, [], 0), (.iaload, [], 0), (.iconst 1, [], 0), (.isub, [], 0),
  (.istore 4, [], 0), (.iload 4, [], 0), (.ifCond .lt 157, [184], 0), (.bipush 40, [], 0), (.iload_n 1, [], 0), (.imul, [], 0),
  (.iload 4, [], 0), (.iadd, [], 0), (.istore 5, [], 0), (.aload_n 0, [], 0), (.getfield 22, [9, 4, 2], 4), (.iload 5, [], 0),
  (.iaload, [], 0), (.istore 6, [], 0), (.iload 6, [], 0), (.ifCond .lt 128, [182], 0), (.iload 6, [], 0), (.invokestatic 107, [12, 1, 0, 1], 0),
  (.istore 7, [], 0), (.iload 6, [], 0), (.bipush 8, [], 0), (.if_icmp .eq 10, [127], 0), (.iload 6, [], 0), (.bipush 9, [], 0),
  (.if_icmp .ne 10, [131], 0), (.iload 5, [], 0), (.iconst 2, [], 0), (.iadd, [], 0), (.goto 7, [134], 0), (.iload 5, [], 0),
  (.iconst 1, [], 0), (.iadd, [], 0), (.istore 8, [], 0), (.aload_n 0, [], 0), (.getfield 25, [9, 5, 2], 5), (.iload 5, [], 0),
  (.iload 8, [], 0), (.iastore, [], 0), (.iload 7, [], 0), (.ifCond .le 13, [147], 0), (.aload_n 0, [], 0), (.getfield 34, [9, 8, 2], 8),
  (.iload 8, [], 0), (.iaload, [], 0), (.goto 5, [148], 0), (.iload 8, [], 0), (.istore 8, [], 0), (.aload_n 0, [], 0),
  (.getfield 28, [9, 6, 2], 6), (.iload 5, [], 0), (.iload 8, [], 0), (.iastore, [], 0), (.iload 7, [], 0), (.iconst 1, [], 0),
  (.if_icmp .le 13, [162], 0), (.aload_n 0, [], 0), (.getfield 34, [9, 8, 2], 8), (.iload 8, [], 0), (.iaload, [], 0), (.goto 5, [163], 0),
  (.iload 8, [], 0), (.istore 8, [], 0), (.aload_n 0, [], 0), (.getfield 31, [9, 7, 2], 7), (.iload 5, [], 0), (.iload 8, [], 0),
  (.iastore, [], 0), (.aload_n 0, [], 0), (.getfield 34, [9, 8, 2], 8), (.iload 5, [], 0), (.iload 7, [], 0), (.iconst 2, [], 0),
  (.if_icmp .le 13, [180], 0), (.aload_n 0, [], 0), (.getfield 34, [9, 8, 2], 8), (.iload 8, [], 0), (.iaload, [], 0), (.goto 5, [181], 0),
  (.iload 8, [], 0), (.iastore, [], 0), (.iinc 4 (-1), [], 0), (.goto (-156), [103], 0), (.bipush (-6), [], 0), (.ireturn, [], 0)
]
def bp_51 : List Nat := [0, 1, 2, 3, 4, 5, 7, 9, 10, 13, 14, 15, 18, 20, 21, 22, 24, 25, 27, 28, 31, 33, 34, 36, 37, 40, 42, 44, 45, 46, 49, 51, 52, 53, 56, 57, 58, 61, 63, 65, 67, 70, 73, 75, 77, 79, 82, 84, 86, 89, 91, 92, 93, 94, 97, 99, 102, 104, 106, 109, 111, 112, 113, 116, 118, 120, 121, 123, 125, 128, 129, 132, 134, 136, 139, 140, 143, 144, 145, 146, 148, 151, 152, 153, 154, 155, 158, 161, 162, 165, 166, 169, 170, 173, 174, 175, 176, 177, 180, 181, 182, 183, 184, 186, 188, 191, 193, 194, 195, 197, 198, 200, 201, 204, 206, 207, 209, 211, 214, 216, 219, 221, 223, 225, 228, 230, 232, 235, 237, 238, 239, 242, 244, 245, 246, 248, 249, 252, 254, 256, 257, 259, 262, 263, 266, 268, 269, 272, 274, 276, 277, 280, 282, 284, 285, 287, 288, 291, 292, 295, 297, 298, 301, 303, 305, 306, 309, 311, 313, 314, 315, 318, 320, 322, 323, 326, 327, 330, 332, 333, 336, 338, 339, 342, 345, 347, 348]
/-- RegionStackModel.fault(I)I -/
def cd_52 : List AI := [
  (.iload_n 1, [], 0), (.invokestatic 99, [10, 1, 0, 1], 0), (.ifCond .eq 11, [7], 0), (.aload_n 0, [], 0), (.iload_n 1, [], 0), (.invokevirtual 110, [51, 2, 9, 1], 0),
  (.goto 4, [8], 0), (.iconst (-1), [], 0), (.ireturn, [], 0)
]
def bp_52 : List Nat := [0, 1, 4, 7, 8, 9, 12, 15, 16, 17]
/-- RegionStackModel.binder(II)I -/
def cd_53 : List AI := [
  (.bipush (-6), [], 0), (.istore_n 3, [], 0), (.bipush 40, [], 0), (.iload_n 1, [], 0), (.imul, [], 0), (.istore 4, [], 0),
  (.iload 4, [], 0), (.iload_n 2, [], 0), (.if_icmp .ge 80, [50], 0), (.aload_n 0, [], 0), (.getfield 22, [9, 4, 2], 4), (.iload 4, [], 0),
  (.iaload, [], 0), (.bipush 8, [], 0), (.if_icmp .ne 47, [40], 0), (.aload_n 0, [], 0), (.getfield 19, [9, 3, 2], 3), (.iload 4, [], 0),
  (.iconst 1, [], 0), (.iadd, [], 0), (.iaload, [], 0), (.aload_n 0, [], 0), (.getfield 19, [9, 3, 2], 3), (.iload_n 2, [], 0),
  (.iaload, [], 0), (.if_icmp .ne 29, [40], 0), (.aload_n 0, [], 0), (.getfield 28, [9, 6, 2], 6), (.iload 4, [], 0), (.iaload, [], 0),
  (.iload_n 2, [], 0), (.if_icmp .gt 18, [40], 0), (.iload_n 2, [], 0), (.aload_n 0, [], 0), (.getfield 34, [9, 8, 2], 8), (.iload 4, [], 0),
  (.iaload, [], 0), (.if_icmp .ge 7, [40], 0), (.iconst 1, [], 0), (.goto 4, [41], 0), (.iconst 0, [], 0), (.istore 5, [], 0),
  (.iload 5, [], 0), (.ifCond .eq 8, [46], 0), (.iload 4, [], 0), (.goto 4, [47], 0), (.iload_n 3, [], 0), (.istore_n 3, [], 0),
  (.iinc 4 1, [], 0), (.goto (-80), [6], 0), (.iload_n 3, [], 0), (.ireturn, [], 0)
]
def bp_53 : List Nat := [0, 2, 3, 5, 6, 7, 9, 11, 12, 15, 16, 19, 21, 22, 24, 27, 28, 31, 33, 34, 35, 36, 37, 40, 41, 42, 45, 46, 49, 51, 52, 53, 56, 57, 58, 61, 63, 64, 67, 68, 71, 72, 74, 76, 79, 81, 84, 85, 86, 89, 92, 93, 94]
/-- RegionStackModel.kindAt(II)I -/
def cd_54 : List AI := [
  (.iload_n 2, [], 0), (.istore_n 3, [], 0), (.aload_n 0, [], 0), (.getfield 22, [9, 4, 2], 4), (.iload_n 3, [], 0), (.iaload, [], 0),
  (.tableswitch 108 1 9 #[54, 82, 52, 108, 108, 108, 72, 72, 61], [42, 9, 27, 7, 42, 42, 42, 21, 21, 14], 0), (.iconst 1, [], 0), (.ireturn, [], 0), (.aload_n 0, [], 0), (.getfield 7, [9, 0, 2], 0), (.iload_n 1, [], 0),
  (.iaload, [], 0), (.ireturn, [], 0), (.aload_n 0, [], 0), (.getfield 13, [9, 1, 2], 1), (.aload_n 0, [], 0), (.iload_n 3, [], 0),
  (.invokevirtual 113, [14, 2, 9, 1], 0), (.iaload, [], 0), (.ireturn, [], 0), (.aload_n 0, [], 0), (.getfield 28, [9, 6, 2], 6), (.iload_n 3, [], 0),
  (.iaload, [], 0), (.istore_n 3, [], 0), (.goto (-85), [2], 0), (.aload_n 0, [], 0), (.iload_n 1, [], 0), (.iload_n 3, [], 0),
  (.invokevirtual 116, [53, 3, 9, 1], 0), (.istore 4, [], 0), (.iload 4, [], 0), (.ifCond .ge 5, [36], 0), (.iconst 0, [], 0), (.ireturn, [], 0),
  (.aload_n 0, [], 0), (.getfield 25, [9, 5, 2], 5), (.iload 4, [], 0), (.iaload, [], 0), (.istore_n 3, [], 0), (.goto (-111), [2], 0),
  (.iconst 0, [], 0), (.ireturn, [], 0)
]
def bp_54 : List Nat := [0, 1, 2, 3, 6, 7, 8, 60, 61, 62, 63, 66, 67, 68, 69, 70, 73, 74, 75, 78, 79, 80, 81, 84, 85, 86, 87, 90, 91, 92, 93, 96, 98, 100, 103, 104, 105, 106, 109, 111, 112, 113, 116, 117, 118]
/-- RegionStackModel.isIll(II)Z -/
def cd_55 : List AI := [
  (.aload_n 0, [], 0), (.getfield 22, [9, 4, 2], 4), (.iload_n 2, [], 0), (.iaload, [], 0), (.invokestatic 107, [12, 1, 0, 1], 0), (.ifCond .le 17, [14], 0),
  (.aload_n 0, [], 0), (.iload_n 1, [], 0), (.aload_n 0, [], 0), (.getfield 25, [9, 5, 2], 5), (.iload_n 2, [], 0), (.iaload, [], 0),
  (.invokevirtual 120, [54, 3, 9, 1], 0), (.goto 4, [15], 0), (.iconst 0, [], 0), (.istore_n 3, [], 0), (.iload_n 2, [], 0), (.bipush 40, [], 0),
  (.iload_n 1, [], 0), (.imul, [], 0), (.if_icmp .ne 22, [32], 0), (.aload_n 0, [], 0), (.iload_n 1, [], 0), (.iload_n 2, [], 0),
  (.invokevirtual 120, [54, 3, 9, 1], 0), (.aload_n 0, [], 0), (.getfield 13, [9, 1, 2], 1), (.iload_n 1, [], 0), (.iaload, [], 0), (.if_icmp .eq 7, [32], 0),
  (.iconst 1, [], 0), (.goto 4, [33], 0), (.iconst 0, [], 0), (.istore 4, [], 0), (.aload_n 0, [], 0), (.getfield 22, [9, 4, 2], 4),
  (.iload_n 2, [], 0), (.iaload, [], 0), (.tableswitch 196 2 9 #[48, 68, 84, 68, 99, 130, 196, 171], [123, 39, 50, 59, 50, 67, 85, 123, 109], 0), (.iload 4, [], 0), (.ifCond .ne 12, [46], 0), (.aload_n 0, [], 0),
  (.iload_n 1, [], 0), (.iload_n 2, [], 0), (.invokevirtual 116, [53, 3, 9, 1], 0), (.ifCond .ge 7, [48], 0), (.iconst 1, [], 0), (.goto 4, [49], 0),
  (.iconst 0, [], 0), (.ireturn, [], 0), (.iload 4, [], 0), (.ifCond .ne 8, [55], 0), (.iload_n 3, [], 0), (.iconst 1, [], 0),
  (.if_icmp .ne 7, [57], 0), (.iconst 1, [], 0), (.goto 4, [58], 0), (.iconst 0, [], 0), (.ireturn, [], 0), (.iload 4, [], 0),
  (.ifCond .ne 7, [63], 0), (.iload_n 3, [], 0), (.ifCond .ne 7, [65], 0), (.iconst 1, [], 0), (.goto 4, [66], 0), (.iconst 0, [], 0),
  (.ireturn, [], 0), (.iload 4, [], 0), (.ifCond .ne 23, [81], 0), (.iload_n 3, [], 0), (.iconst 1, [], 0), (.if_icmp .eq 18, [81], 0),
  (.aload_n 0, [], 0), (.iload_n 1, [], 0), (.aload_n 0, [], 0), (.getfield 28, [9, 6, 2], 6), (.iload_n 2, [], 0), (.iaload, [], 0),
  (.invokevirtual 120, [54, 3, 9, 1], 0), (.iconst 1, [], 0), (.if_icmp .ne 7, [83], 0), (.iconst 1, [], 0), (.goto 4, [84], 0), (.iconst 0, [], 0),
  (.ireturn, [], 0), (.iload 4, [], 0), (.ifCond .ne 33, [105], 0), (.iload_n 3, [], 0), (.iconst 1, [], 0), (.if_icmp .eq 28, [105], 0),
  (.aload_n 0, [], 0), (.iload_n 1, [], 0), (.aload_n 0, [], 0), (.getfield 28, [9, 6, 2], 6), (.iload_n 2, [], 0), (.iaload, [], 0),
  (.invokevirtual 120, [54, 3, 9, 1], 0), (.aload_n 0, [], 0), (.iload_n 1, [], 0), (.aload_n 0, [], 0), (.getfield 31, [9, 7, 2], 7), (.iload_n 2, [], 0),
  (.iaload, [], 0), (.invokevirtual 120, [54, 3, 9, 1], 0), (.if_icmp .eq 7, [107], 0), (.iconst 1, [], 0), (.goto 4, [108], 0), (.iconst 0, [], 0),
  (.ireturn, [], 0), (.iload 4, [], 0), (.ifCond .ne 17, [119], 0), (.iload_n 3, [], 0), (.aload_n 0, [], 0), (.getfield 7, [9, 0, 2], 0),
  (.aload_n 0, [], 0), (.iload_n 2, [], 0), (.invokevirtual 113, [14, 2, 9, 1], 0), (.iaload, [], 0), (.if_icmp .eq 7, [121], 0), (.iconst 1, [], 0),
  (.goto 4, [122], 0), (.iconst 0, [], 0), (.ireturn, [], 0), (.iload 4, [], 0), (.ireturn, [], 0)
]
def bp_55 : List Nat := [0, 1, 4, 5, 6, 9, 12, 13, 14, 15, 18, 19, 20, 23, 26, 27, 28, 29, 31, 32, 33, 36, 37, 38, 39, 42, 43, 46, 47, 48, 51, 52, 55, 56, 58, 59, 62, 63, 64, 112, 114, 117, 118, 119, 120, 123, 126, 127, 130, 131, 132, 134, 137, 138, 139, 142, 143, 146, 147, 148, 150, 153, 154, 157, 158, 161, 162, 163, 165, 168, 169, 170, 173, 174, 175, 176, 179, 180, 181, 184, 185, 188, 189, 192, 193, 194, 196, 199, 200, 201, 204, 205, 206, 207, 210, 211, 212, 215, 216, 217, 218, 221, 222, 223, 226, 229, 230, 233, 234, 235, 237, 240, 241, 242, 245, 246, 247, 250, 251, 254, 255, 258, 259, 260, 262, 263]
/-- RegionStackModel.illOne(I)I -/
def cd_56 : List AI := [
  (.iconst 0, [], 0), (.istore_n 2, [], 0), (.iload_n 2, [], 0), (.aload_n 0, [], 0), (.getfield 16, [9, 2, 2], 2), (.iload_n 1, [], 0),
  (.iaload, [], 0), (.if_icmp .ge 39, [30], 0), (.aload_n 0, [], 0), (.getfield 22, [9, 4, 2], 4), (.bipush 40, [], 0), (.iload_n 1, [], 0),
  (.imul, [], 0), (.iload_n 2, [], 0), (.iadd, [], 0), (.iaload, [], 0), (.ifCond .lt 19, [28], 0), (.aload_n 0, [], 0),
  (.iload_n 1, [], 0), (.bipush 40, [], 0), (.iload_n 1, [], 0), (.imul, [], 0), (.iload_n 2, [], 0), (.iadd, [], 0),
  (.invokevirtual 123, [55, 3, 9, 1], 0), (.ifCond .eq 5, [28], 0), (.iload_n 2, [], 0), (.ireturn, [], 0), (.iinc 2 1, [], 0), (.goto (-43), [2], 0),
  (.bipush (-6), [], 0), (.ireturn, [], 0)
]
def bp_56 : List Nat := [0, 1, 2, 3, 4, 7, 8, 9, 12, 13, 16, 18, 19, 20, 21, 22, 23, 26, 27, 28, 30, 31, 32, 33, 34, 37, 40, 41, 42, 45, 48, 50, 51]
/-- RegionStackModel.parts(II)I -/
def cd_57 : List AI := [
  (.iload_n 1, [], 0), (.invokestatic 99, [10, 1, 0, 1], 0), (.ifCond .ne 5, [5], 0), (.iconst (-1), [], 0), (.ireturn, [], 0), (.iload_n 2, [], 0),
  (.iconst 0, [], 0), (.iconst 1, [], 0), (.invokestatic 95, [9, 3, 0, 1], 0), (.ifCond .ne 6, [12], 0), (.bipush (-2), [], 0), (.ireturn, [], 0),
  (.aload_n 0, [], 0), (.iload_n 1, [], 0), (.invokevirtual 110, [51, 2, 9, 1], 0), (.ifCond .lt 6, [18], 0), (.bipush (-5), [], 0), (.ireturn, [], 0),
  (.iconst 0, [], 0), (.istore_n 3, [], 0), (.iconst 0, [], 0), (.istore 4, [], 0), (.iload 4, [], 0), (.aload_n 0, [], 0),
  (.getfield 16, [9, 2, 2], 2), (.iload_n 1, [], 0), (.iaload, [], 0), (.if_icmp .ge 32, [45], 0), (.iload_n 3, [], 0), (.aload_n 0, [], 0),
  (.getfield 22, [9, 4, 2], 4), (.bipush 40, [], 0), (.iload_n 1, [], 0), (.imul, [], 0), (.iload 4, [], 0), (.iadd, [], 0),
  (.iaload, [], 0), (.ifCond .lt 7, [40], 0), (.iconst 1, [], 0), (.goto 4, [41], 0), (.iconst 0, [], 0), (.iadd, [], 0),
  (.istore_n 3, [], 0), (.iinc 4 1, [], 0), (.goto (-37), [22], 0), (.iload_n 2, [], 0), (.ifCond .ne 7, [49], 0), (.iload_n 3, [], 0),
  (.goto 8, [52], 0), (.aload_n 0, [], 0), (.iload_n 1, [], 0), (.invokevirtual 127, [56, 2, 9, 1], 0), (.ireturn, [], 0)
]
def bp_57 : List Nat := [0, 1, 4, 7, 8, 9, 10, 11, 12, 15, 18, 20, 21, 22, 23, 26, 29, 31, 32, 33, 34, 35, 37, 39, 40, 43, 44, 45, 48, 49, 50, 53, 55, 56, 57, 59, 60, 61, 64, 65, 68, 69, 70, 71, 74, 77, 78, 81, 82, 85, 86, 87, 90, 91]
/-- RegionStackModel.kind(II)I -/
def cd_58 : List AI := [
  (.iload_n 1, [], 0), (.invokestatic 99, [10, 1, 0, 1], 0), (.ifCond .ne 5, [5], 0), (.iconst (-1), [], 0), (.ireturn, [], 0), (.iload_n 2, [], 0),
  (.iconst 0, [], 0), (.aload_n 0, [], 0), (.getfield 16, [9, 2, 2], 2), (.iload_n 1, [], 0), (.iaload, [], 0), (.iconst 1, [], 0),
  (.isub, [], 0), (.invokestatic 95, [9, 3, 0, 1], 0), (.ifCond .ne 6, [17], 0), (.bipush (-2), [], 0), (.ireturn, [], 0), (.aload_n 0, [], 0),
  (.iload_n 1, [], 0), (.invokevirtual 110, [51, 2, 9, 1], 0), (.ifCond .lt 6, [23], 0), (.bipush (-5), [], 0), (.ireturn, [], 0), (.aload_n 0, [], 0),
  (.getfield 22, [9, 4, 2], 4), (.bipush 40, [], 0), (.iload_n 1, [], 0), (.imul, [], 0), (.iload_n 2, [], 0), (.iadd, [], 0),
  (.iaload, [], 0), (.ifCond .ge 8, [34], 0), (.bipush (-6), [], 0), (.goto 14, [42], 0), (.aload_n 0, [], 0), (.iload_n 1, [], 0),
  (.bipush 40, [], 0), (.iload_n 1, [], 0), (.imul, [], 0), (.iload_n 2, [], 0), (.iadd, [], 0), (.invokevirtual 120, [54, 3, 9, 1], 0),
  (.ireturn, [], 0)
]
def bp_58 : List Nat := [0, 1, 4, 7, 8, 9, 10, 11, 12, 15, 16, 17, 18, 19, 22, 25, 27, 28, 29, 30, 33, 36, 38, 39, 40, 43, 45, 46, 47, 48, 49, 50, 53, 55, 58, 59, 60, 62, 63, 64, 65, 66, 69, 70]
/-- RegionStackModel.isWell()Z -/
def cd_59 : List AI := [
  (.iconst 1, [], 0), (.istore_n 1, [], 0), (.iconst 0, [], 0), (.istore_n 2, [], 0), (.iload_n 2, [], 0), (.iconst 3, [], 0),
  (.if_icmp .ge 35, [23], 0), (.iload_n 1, [], 0), (.ifCond .eq 23, [19], 0), (.aload_n 0, [], 0), (.iload_n 2, [], 0), (.invokevirtual 110, [51, 2, 9, 1], 0),
  (.ifCond .ge 15, [19], 0), (.aload_n 0, [], 0), (.iload_n 2, [], 0), (.invokevirtual 127, [56, 2, 9, 1], 0), (.ifCond .ge 7, [19], 0), (.iconst 1, [], 0),
  (.goto 4, [20], 0), (.iconst 0, [], 0), (.istore_n 1, [], 0), (.iinc 2 1, [], 0), (.goto (-34), [4], 0), (.iload_n 1, [], 0),
  (.ireturn, [], 0)
]
def bp_59 : List Nat := [0, 1, 2, 3, 4, 5, 6, 9, 10, 13, 14, 15, 18, 21, 22, 23, 26, 29, 30, 33, 34, 35, 38, 41, 42, 43]
/-- RegionStackModel.well()I -/
def cd_60 : List AI := [
  (.aload_n 0, [], 0), (.invokevirtual 130, [59, 1, 9, 1], 0), (.ifCond .eq 7, [5], 0), (.iconst 1, [], 0), (.goto 4, [6], 0), (.iconst 0, [], 0),
  (.ireturn, [], 0)
]
def bp_60 : List Nat := [0, 1, 4, 7, 8, 11, 12, 13]
/-- RegionStackModel.uniteAll(I)V -/
def cd_61 : List AI := [
  (.iconst 0, [], 0), (.istore_n 2, [], 0), (.iload_n 2, [], 0), (.bipush 42, [], 0), (.if_icmp .ge 26, [20], 0), (.aload_n 0, [], 0),
  (.getfield 37, [9, 9, 2], 9), (.bipush 42, [], 0), (.iload_n 1, [], 0), (.imul, [], 0), (.iload_n 2, [], 0), (.iadd, [], 0),
  (.bipush 42, [], 0), (.iload_n 1, [], 0), (.imul, [], 0), (.iload_n 2, [], 0), (.iadd, [], 0), (.iastore, [], 0),
  (.iinc 2 1, [], 0), (.goto (-26), [2], 0), (.bipush 40, [], 0), (.iload_n 1, [], 0), (.imul, [], 0), (.istore_n 2, [], 0),
  (.iload_n 2, [], 0), (.bipush 40, [], 0), (.iload_n 1, [], 0), (.imul, [], 0), (.aload_n 0, [], 0), (.getfield 16, [9, 2, 2], 2),
  (.iload_n 1, [], 0), (.iaload, [], 0), (.iadd, [], 0), (.if_icmp .ge 235, [143], 0), (.aload_n 0, [], 0), (.getfield 22, [9, 4, 2], 4),
  (.iload_n 2, [], 0), (.iaload, [], 0), (.ifCond .lt 220, [141], 0), (.aload_n 0, [], 0), (.iload_n 1, [], 0), (.iload_n 2, [], 0),
  (.invokevirtual 120, [54, 3, 9, 1], 0), (.iconst 1, [], 0), (.if_icmp .ne 210, [141], 0), (.aload_n 0, [], 0), (.iload_n 1, [], 0), (.iload_n 2, [], 0),
  (.invokevirtual 137, [13, 3, 9, 1], 0), (.istore_n 3, [], 0), (.aload_n 0, [], 0), (.getfield 22, [9, 4, 2], 4), (.iload_n 2, [], 0), (.iaload, [], 0),
  (.tableswitch 174 1 9 #[49, 64, 174, 174, 174, 174, 88, 123, 142], [128, 55, 64, 128, 128, 128, 128, 78, 99, 110], 0), (.aload_n 0, [], 0), (.iload_n 3, [], 0), (.bipush 42, [], 0), (.iload_n 1, [], 0), (.imul, [], 0),
  (.bipush 40, [], 0), (.iadd, [], 0), (.invokevirtual 140, [24, 3, 9, 0], 0), (.goto 113, [128], 0), (.aload_n 0, [], 0), (.iload_n 3, [], 0),
  (.aload_n 0, [], 0), (.iload_n 1, [], 0), (.aload_n 0, [], 0), (.getfield 25, [9, 5, 2], 5), (.aload_n 0, [], 0), (.iload_n 1, [], 0),
  (.iload_n 2, [], 0), (.invokevirtual 116, [53, 3, 9, 1], 0), (.iaload, [], 0), (.invokevirtual 137, [13, 3, 9, 1], 0), (.invokevirtual 140, [24, 3, 9, 0], 0), (.goto 89, [128], 0),
  (.aload_n 0, [], 0), (.iload_n 3, [], 0), (.aload_n 0, [], 0), (.iload_n 1, [], 0), (.aload_n 0, [], 0), (.getfield 28, [9, 6, 2], 6),
  (.iload_n 2, [], 0), (.iaload, [], 0), (.invokevirtual 137, [13, 3, 9, 1], 0), (.invokevirtual 140, [24, 3, 9, 0], 0), (.aload_n 0, [], 0), (.iload_n 3, [], 0),
  (.aload_n 0, [], 0), (.iload_n 1, [], 0), (.aload_n 0, [], 0), (.getfield 31, [9, 7, 2], 7), (.iload_n 2, [], 0), (.iaload, [], 0),
  (.invokevirtual 137, [13, 3, 9, 1], 0), (.invokevirtual 140, [24, 3, 9, 0], 0), (.goto 54, [128], 0), (.aload_n 0, [], 0), (.iload_n 3, [], 0), (.aload_n 0, [], 0),
  (.iload_n 1, [], 0), (.aload_n 0, [], 0), (.getfield 28, [9, 6, 2], 6), (.iload_n 2, [], 0), (.iaload, [], 0), (.invokevirtual 137, [13, 3, 9, 1], 0),
  (.invokevirtual 140, [24, 3, 9, 0], 0), (.goto 35, [128], 0), (.aload_n 0, [], 0), (.getfield 40, [9, 10, 2], 10), (.aload_n 0, [], 0), (.iload_n 2, [], 0),
  (.invokevirtual 113, [14, 2, 9, 1], 0), (.baload, [], 0), (.ifCond .eq 22, [128], 0), (.aload_n 0, [], 0), (.iload_n 3, [], 0), (.aload_n 0, [], 0),
  (.iload_n 1, [], 0), (.aload_n 0, [], 0), (.getfield 25, [9, 5, 2], 5), (.iload_n 2, [], 0), (.iaload, [], 0), (.invokevirtual 137, [13, 3, 9, 1], 0),
  (.invokevirtual 140, [24, 3, 9, 0], 0), (.goto 3, [128], 0), (.iload_n 2, [], 0), (.bipush 40, [], 0), (.iload_n 1, [], 0), (.imul, [], 0),
  (.if_icmp .ne 15, [141], 0), (.aload_n 0, [], 0), (.iload_n 3, [], 0), (.bipush 42, [], 0), (.iload_n 1, [], 0), (.imul, [], 0),
  (.bipush 41, [], 0), (.iadd, [], 0), (.invokevirtual 140, [24, 3, 9, 0], 0), (.iinc 2 1, [], 0), (.goto (-244), [24], 0), (.return_, [], 0)
]
def bp_61 : List Nat := [0, 1, 2, 3, 5, 8, 9, 12, 14, 15, 16, 17, 18, 20, 21, 22, 23, 24, 25, 28, 31, 33, 34, 35, 36, 37, 39, 40, 41, 42, 45, 46, 47, 48, 51, 52, 55, 56, 57, 60, 61, 62, 63, 66, 67, 70, 71, 72, 73, 76, 77, 78, 81, 82, 83, 132, 133, 134, 136, 137, 138, 140, 141, 144, 147, 148, 149, 150, 151, 152, 155, 156, 157, 158, 161, 162, 165, 168, 171, 172, 173, 174, 175, 176, 179, 180, 181, 184, 187, 188, 189, 190, 191, 192, 195, 196, 197, 200, 203, 206, 207, 208, 209, 210, 211, 214, 215, 216, 219, 222, 225, 226, 229, 230, 231, 234, 235, 238, 239, 240, 241, 242, 243, 246, 247, 248, 251, 254, 257, 258, 260, 261, 262, 265, 266, 267, 269, 270, 271, 273, 274, 277, 280, 283, 284]
/-- RegionStackModel.layRegions()Z -/
def cd_62 : List AI := [
  (.aload_n 0, [], 0), (.invokevirtual 130, [59, 1, 9, 1], 0), (.ifCond .ne 5, [5], 0), (.iconst 0, [], 0), (.ireturn, [], 0), (.iconst 0, [], 0),
  (.istore_n 1, [], 0), (.iload_n 1, [], 0), (.iconst 3, [], 0), (.if_icmp .ge 16, [17], 0), (.aload_n 0, [], 0), (.getfield 40, [9, 10, 2], 10),
  (.iload_n 1, [], 0), (.iconst 0, [], 0), (.bastore, [], 0), (.iinc 1 1, [], 0), (.goto (-15), [7], 0), (.iconst 1, [], 0),
  (.istore_n 1, [], 0), (.iload_n 1, [], 0), (.ifCond .eq 117, [89], 0), (.iconst 0, [], 0), (.istore_n 1, [], 0), (.iconst 0, [], 0),
  (.istore_n 2, [], 0), (.iload_n 2, [], 0), (.iconst 3, [], 0), (.if_icmp .ge 14, [33], 0), (.aload_n 0, [], 0), (.iload_n 2, [], 0),
  (.invokevirtual 144, [61, 2, 9, 0], 0), (.iinc 2 1, [], 0), (.goto (-13), [25], 0), (.iconst 0, [], 0), (.istore_n 2, [], 0), (.iload_n 2, [], 0),
  (.iconst 3, [], 0), (.if_icmp .ge 87, [88], 0), (.aload_n 0, [], 0), (.getfield 7, [9, 0, 2], 0), (.iload_n 2, [], 0), (.iaload, [], 0),
  (.iconst 1, [], 0), (.if_icmp .ne 42, [67], 0), (.aload_n 0, [], 0), (.getfield 13, [9, 1, 2], 1), (.iload_n 2, [], 0), (.iaload, [], 0),
  (.iconst 1, [], 0), (.if_icmp .ne 32, [67], 0), (.aload_n 0, [], 0), (.bipush 42, [], 0), (.iload_n 2, [], 0), (.imul, [], 0),
  (.bipush 40, [], 0), (.iadd, [], 0), (.invokevirtual 134, [23, 2, 9, 1], 0), (.aload_n 0, [], 0), (.bipush 42, [], 0), (.iload_n 2, [], 0),
  (.imul, [], 0), (.bipush 41, [], 0), (.iadd, [], 0), (.invokevirtual 134, [23, 2, 9, 1], 0), (.if_icmp .ne 7, [67], 0), (.iconst 1, [], 0),
  (.goto 4, [68], 0), (.iconst 0, [], 0), (.istore_n 3, [], 0), (.iload_n 1, [], 0), (.ifCond .ne 13, [77], 0), (.iload_n 3, [], 0),
  (.aload_n 0, [], 0), (.getfield 40, [9, 10, 2], 10), (.iload_n 2, [], 0), (.baload, [], 0), (.if_icmp .eq 7, [79], 0), (.iconst 1, [], 0),
  (.goto 4, [80], 0), (.iconst 0, [], 0), (.istore_n 1, [], 0), (.aload_n 0, [], 0), (.getfield 40, [9, 10, 2], 10), (.iload_n 2, [], 0),
  (.iload_n 3, [], 0), (.bastore, [], 0), (.iinc 2 1, [], 0), (.goto (-86), [35], 0), (.goto (-115), [19], 0), (.iconst 0, [], 0),
  (.istore_n 2, [], 0), (.iload_n 2, [], 0), (.iconst 3, [], 0), (.if_icmp .ge 19, [102], 0), (.aload_n 0, [], 0), (.iload_n 2, [], 0),
  (.invokevirtual 148, [63, 2, 9, 0], 0), (.aload_n 0, [], 0), (.iload_n 2, [], 0), (.invokevirtual 151, [65, 2, 9, 0], 0), (.iinc 2 1, [], 0), (.goto (-18), [91], 0),
  (.aload_n 0, [], 0), (.invokevirtual 154, [67, 1, 9, 0], 0), (.iconst 1, [], 0), (.ireturn, [], 0)
]
def bp_62 : List Nat := [0, 1, 4, 7, 8, 9, 10, 11, 12, 13, 16, 17, 20, 21, 22, 23, 26, 29, 30, 31, 32, 35, 36, 37, 38, 39, 40, 41, 44, 45, 46, 49, 52, 55, 56, 57, 58, 59, 62, 63, 66, 67, 68, 69, 72, 73, 76, 77, 78, 79, 82, 83, 85, 86, 87, 89, 90, 93, 94, 96, 97, 98, 100, 101, 104, 107, 108, 111, 112, 113, 114, 117, 118, 119, 122, 123, 124, 127, 128, 131, 132, 133, 134, 137, 138, 139, 140, 143, 146, 149, 150, 151, 152, 153, 156, 157, 158, 161, 162, 163, 166, 169, 172, 173, 176, 177, 178]
/-- RegionStackModel.numberAll(I)V -/
def cd_63 : List AI := [
  (.iconst 2, [], 0), (.istore_n 2, [], 0), (.iconst 0, [], 0), (.istore_n 3, [], 0), (.iload_n 3, [], 0), (.bipush 40, [], 0),
  (.if_icmp .ge 257, [152], 0), (.bipush 40, [], 0), (.iload_n 1, [], 0), (.imul, [], 0), (.iload_n 3, [], 0), (.iadd, [], 0),
  (.istore 4, [], 0), (.aload_n 0, [], 0), (.getfield 44, [9, 11, 2], 11), (.iload 4, [], 0), (.bipush (-6), [], 0), (.iastore, [], 0),
  (.iload_n 3, [], 0), (.aload_n 0, [], 0), (.getfield 16, [9, 2, 2], 2), (.iload_n 1, [], 0), (.iaload, [], 0), (.if_icmp .ge 224, [150], 0),
  (.aload_n 0, [], 0), (.getfield 22, [9, 4, 2], 4), (.iload 4, [], 0), (.iaload, [], 0), (.ifCond .lt 214, [150], 0), (.aload_n 0, [], 0),
  (.iload_n 1, [], 0), (.iload 4, [], 0), (.invokevirtual 120, [54, 3, 9, 1], 0), (.iconst 1, [], 0), (.if_icmp .ne 203, [150], 0), (.aload_n 0, [], 0),
  (.bipush 42, [], 0), (.iload_n 1, [], 0), (.imul, [], 0), (.iload_n 3, [], 0), (.iadd, [], 0), (.invokevirtual 134, [23, 2, 9, 1], 0),
  (.istore 5, [], 0), (.aload_n 0, [], 0), (.getfield 7, [9, 0, 2], 0), (.iload_n 1, [], 0), (.iaload, [], 0), (.iconst 1, [], 0),
  (.if_icmp .ne 30, [64], 0), (.iload 5, [], 0), (.aload_n 0, [], 0), (.bipush 42, [], 0), (.iload_n 1, [], 0), (.imul, [], 0),
  (.bipush 40, [], 0), (.iadd, [], 0), (.invokevirtual 134, [23, 2, 9, 1], 0), (.if_icmp .ne 14, [64], 0), (.aload_n 0, [], 0), (.getfield 44, [9, 11, 2], 11),
  (.iload 4, [], 0), (.iconst 0, [], 0), (.iastore, [], 0), (.goto 154, [150], 0), (.iload 5, [], 0), (.aload_n 0, [], 0),
  (.bipush 42, [], 0), (.iload_n 1, [], 0), (.imul, [], 0), (.bipush 41, [], 0), (.iadd, [], 0), (.invokevirtual 134, [23, 2, 9, 1], 0),
  (.if_icmp .ne 14, [79], 0), (.aload_n 0, [], 0), (.getfield 44, [9, 11, 2], 11), (.iload 4, [], 0), (.iconst 1, [], 0), (.iastore, [], 0),
  (.goto 127, [150], 0), (.iconst 0, [], 0), (.istore 6, [], 0), (.iload 6, [], 0), (.iload_n 3, [], 0), (.if_icmp .ge 70, [122], 0),
  (.aload_n 0, [], 0), (.getfield 44, [9, 11, 2], 11), (.iload 4, [], 0), (.aload_n 0, [], 0), (.getfield 44, [9, 11, 2], 11), (.bipush 40, [], 0),
  (.iload_n 1, [], 0), (.imul, [], 0), (.iload 6, [], 0), (.iadd, [], 0), (.iaload, [], 0), (.iconst 1, [], 0),
  (.if_icmp .le 34, [115], 0), (.aload_n 0, [], 0), (.bipush 42, [], 0), (.iload_n 1, [], 0), (.imul, [], 0), (.iload 6, [], 0),
  (.iadd, [], 0), (.invokevirtual 134, [23, 2, 9, 1], 0), (.iload 5, [], 0), (.if_icmp .ne 18, [115], 0), (.aload_n 0, [], 0), (.getfield 44, [9, 11, 2], 11),
  (.bipush 40, [], 0), (.iload_n 1, [], 0), (.imul, [], 0), (.iload 6, [], 0), (.iadd, [], 0), (.iaload, [], 0),
  (.goto 10, [119], 0), (.aload_n 0, [], 0), (.getfield 44, [9, 11, 2], 11), (.iload 4, [], 0), (.iaload, [], 0), (.iastore, [], 0),
  (.iinc 6 1, [], 0), (.goto (-70), [81], 0), (.iload_n 2, [], 0), (.aload_n 0, [], 0), (.getfield 44, [9, 11, 2], 11), (.iload 4, [], 0),
  (.iaload, [], 0), (.ifCond .ge 7, [130], 0), (.iconst 1, [], 0), (.goto 4, [131], 0), (.iconst 0, [], 0), (.iadd, [], 0),
  (.istore_n 2, [], 0), (.aload_n 0, [], 0), (.getfield 44, [9, 11, 2], 11), (.iload 4, [], 0), (.aload_n 0, [], 0), (.getfield 44, [9, 11, 2], 11),
  (.iload 4, [], 0), (.iaload, [], 0), (.ifCond .ge 9, [145], 0), (.iload_n 2, [], 0), (.iconst 1, [], 0), (.isub, [], 0),
  (.goto 10, [149], 0), (.aload_n 0, [], 0), (.getfield 44, [9, 11, 2], 11), (.iload 4, [], 0), (.iaload, [], 0), (.iastore, [], 0),
  (.iinc 3 1, [], 0), (.goto (-257), [4], 0), (.aload_n 0, [], 0), (.getfield 50, [9, 13, 2], 13), (.iload_n 1, [], 0), (.iload_n 2, [], 0),
  (.iconst 2, [], 0), (.isub, [], 0), (.iastore, [], 0), (.return_, [], 0)
]
def bp_63 : List Nat := [0, 1, 2, 3, 4, 5, 7, 10, 12, 13, 14, 15, 16, 18, 19, 22, 24, 26, 27, 28, 29, 32, 33, 34, 37, 38, 41, 43, 44, 47, 48, 49, 51, 54, 55, 58, 59, 61, 62, 63, 64, 65, 68, 70, 71, 74, 75, 76, 77, 80, 82, 83, 85, 86, 87, 89, 90, 93, 96, 97, 100, 102, 103, 104, 107, 109, 110, 112, 113, 114, 116, 117, 120, 123, 124, 127, 129, 130, 131, 134, 135, 137, 139, 140, 143, 144, 147, 149, 150, 153, 155, 156, 157, 159, 160, 161, 162, 165, 166, 168, 169, 170, 172, 173, 176, 178, 181, 182, 185, 187, 188, 189, 191, 192, 193, 196, 197, 200, 202, 203, 204, 207, 210, 211, 212, 215, 217, 218, 221, 222, 225, 226, 227, 228, 229, 232, 234, 235, 238, 240, 241, 244, 245, 246, 247, 250, 251, 254, 256, 257, 258, 261, 264, 265, 268, 269, 270, 271, 272, 273, 274]
/-- RegionStackModel.touchesOne(II)Z -/
def cd_64 : List AI := [
  (.aload_n 0, [], 0), (.getfield 22, [9, 4, 2], 4), (.iload_n 1, [], 0), (.iaload, [], 0), (.iconst 4, [], 0), (.if_icmp .eq 14, [12], 0),
  (.aload_n 0, [], 0), (.getfield 22, [9, 4, 2], 4), (.iload_n 1, [], 0), (.iaload, [], 0), (.bipush 9, [], 0), (.if_icmp .ne 7, [14], 0),
  (.iconst 1, [], 0), (.goto 4, [15], 0), (.iconst 0, [], 0), (.istore_n 3, [], 0), (.aload_n 0, [], 0), (.getfield 22, [9, 4, 2], 4),
  (.iload_n 1, [], 0), (.iaload, [], 0), (.ifCond .lt 36, [40], 0), (.aload_n 0, [], 0), (.getfield 44, [9, 11, 2], 11), (.iload_n 1, [], 0),
  (.iaload, [], 0), (.iload_n 2, [], 0), (.if_icmp .eq 22, [38], 0), (.iload_n 3, [], 0), (.ifCond .eq 22, [40], 0), (.aload_n 0, [], 0),
  (.getfield 44, [9, 11, 2], 11), (.aload_n 0, [], 0), (.getfield 25, [9, 5, 2], 5), (.iload_n 1, [], 0), (.iaload, [], 0), (.iaload, [], 0),
  (.iload_n 2, [], 0), (.if_icmp .ne 7, [40], 0), (.iconst 1, [], 0), (.goto 4, [41], 0), (.iconst 0, [], 0), (.ireturn, [], 0)
]
def bp_64 : List Nat := [0, 1, 4, 5, 6, 7, 10, 11, 14, 15, 16, 18, 21, 22, 25, 26, 27, 28, 31, 32, 33, 36, 37, 40, 41, 42, 43, 46, 47, 50, 51, 54, 55, 58, 59, 60, 61, 62, 65, 66, 69, 70, 71]
/-- RegionStackModel.layHomes(I)V -/
def cd_65 : List AI := [
  (.iconst 2, [], 0), (.istore_n 2, [], 0), (.iload_n 2, [], 0), (.iconst 2, [], 0), (.aload_n 0, [], 0), (.getfield 50, [9, 13, 2], 13),
  (.iload_n 1, [], 0), (.iaload, [], 0), (.iadd, [], 0), (.if_icmp .ge 122, [74], 0), (.bipush (-6), [], 0), (.istore_n 3, [], 0),
  (.bipush (-6), [], 0), (.istore 4, [], 0), (.bipush 40, [], 0), (.iload_n 1, [], 0), (.imul, [], 0), (.istore 5, [], 0),
  (.iload 5, [], 0), (.bipush 40, [], 0), (.iload_n 1, [], 0), (.imul, [], 0), (.aload_n 0, [], 0), (.getfield 16, [9, 2, 2], 2),
  (.iload_n 1, [], 0), (.iaload, [], 0), (.iadd, [], 0), (.if_icmp .ge 34, [43], 0), (.aload_n 0, [], 0), (.iload 5, [], 0),
  (.iload_n 2, [], 0), (.invokevirtual 157, [64, 3, 9, 1], 0), (.ifCond .eq 18, [41], 0), (.iload_n 3, [], 0), (.ifCond .ge 8, [37], 0), (.iload 5, [], 0),
  (.goto 4, [38], 0), (.iload_n 3, [], 0), (.istore_n 3, [], 0), (.iload 5, [], 0), (.istore 4, [], 0), (.iinc 5 1, [], 0),
  (.goto (-44), [18], 0), (.bipush 40, [], 0), (.iload_n 1, [], 0), (.imul, [], 0), (.istore 5, [], 0), (.iload 5, [], 0),
  (.iload_n 3, [], 0), (.if_icmp .gt 44, [72], 0), (.aload_n 0, [], 0), (.getfield 22, [9, 4, 2], 4), (.iload 5, [], 0), (.iaload, [], 0),
  (.ifCond .lt 28, [70], 0), (.aload_n 0, [], 0), (.getfield 34, [9, 8, 2], 8), (.iload 5, [], 0), (.iaload, [], 0), (.iload 4, [], 0),
  (.if_icmp .le 16, [70], 0), (.aload_n 0, [], 0), (.getfield 47, [9, 12, 2], 12), (.bipush 44, [], 0), (.iload_n 1, [], 0), (.imul, [], 0),
  (.iload_n 2, [], 0), (.iadd, [], 0), (.iload 5, [], 0), (.iastore, [], 0), (.iinc 5 1, [], 0), (.goto (-44), [47], 0),
  (.iinc 2 1, [], 0), (.goto (-128), [2], 0), (.return_, [], 0)
]
def bp_65 : List Nat := [0, 1, 2, 3, 4, 5, 8, 9, 10, 11, 14, 16, 17, 19, 21, 23, 24, 25, 27, 29, 31, 32, 33, 34, 37, 38, 39, 40, 43, 44, 46, 47, 50, 53, 54, 57, 59, 62, 63, 64, 66, 68, 71, 74, 76, 77, 78, 80, 82, 83, 86, 87, 90, 92, 93, 96, 97, 100, 102, 103, 105, 108, 109, 112, 114, 115, 116, 117, 118, 120, 121, 124, 127, 130, 133, 134]
/-- RegionStackModel.does(IIZ)Z -/
def cd_66 : List AI := [
  (.aload_n 0, [], 0), (.getfield 22, [9, 4, 2], 4), (.iload_n 1, [], 0), (.iaload, [], 0), (.iload_n 3, [], 0), (.ifCond .eq 7, [8], 0),
  (.iconst 4, [], 0), (.goto 4, [9], 0), (.iconst 3, [], 0), (.if_icmp .ne 32, [27], 0), (.aload_n 0, [], 0), (.getfield 44, [9, 11, 2], 11),
  (.iload_n 3, [], 0), (.ifCond .eq 12, [19], 0), (.aload_n 0, [], 0), (.getfield 25, [9, 5, 2], 5), (.iload_n 1, [], 0), (.iaload, [], 0),
  (.goto 4, [20], 0), (.iload_n 1, [], 0), (.iaload, [], 0), (.iload_n 2, [], 0), (.if_icmp .ne 7, [25], 0), (.iconst 1, [], 0),
  (.goto 4, [26], 0), (.iconst 0, [], 0), (.ireturn, [], 0), (.aload_n 0, [], 0), (.getfield 22, [9, 4, 2], 4), (.iload_n 1, [], 0),
  (.iaload, [], 0), (.bipush 9, [], 0), (.if_icmp .eq 5, [35], 0), (.iconst 0, [], 0), (.ireturn, [], 0), (.aload_n 0, [], 0),
  (.getfield 53, [9, 14, 2], 14), (.aload_n 0, [], 0), (.iload_n 1, [], 0), (.invokevirtual 113, [14, 2, 9, 1], 0), (.iaload, [], 0), (.istore 4, [], 0),
  (.iload 4, [], 0), (.iload_n 3, [], 0), (.ifCond .eq 7, [47], 0), (.iconst 2, [], 0), (.goto 4, [48], 0), (.iconst 1, [], 0),
  (.iand, [], 0), (.ifCond .eq 22, [61], 0), (.aload_n 0, [], 0), (.getfield 44, [9, 11, 2], 11), (.aload_n 0, [], 0), (.getfield 25, [9, 5, 2], 5),
  (.iload_n 1, [], 0), (.iaload, [], 0), (.iaload, [], 0), (.iload_n 2, [], 0), (.if_icmp .ne 7, [61], 0), (.iconst 1, [], 0),
  (.goto 4, [62], 0), (.iconst 0, [], 0), (.istore 5, [], 0), (.iload 5, [], 0), (.ifCond .ne 29, [79], 0), (.iload 4, [], 0),
  (.iload_n 3, [], 0), (.ifCond .eq 8, [70], 0), (.bipush 8, [], 0), (.goto 4, [71], 0), (.iconst 4, [], 0), (.iand, [], 0),
  (.ifCond .eq 17, [81], 0), (.aload_n 0, [], 0), (.getfield 44, [9, 11, 2], 11), (.iload_n 1, [], 0), (.iaload, [], 0), (.iload_n 2, [], 0),
  (.if_icmp .ne 7, [81], 0), (.iconst 1, [], 0), (.goto 4, [82], 0), (.iconst 0, [], 0), (.ireturn, [], 0)
]
def bp_66 : List Nat := [0, 1, 4, 5, 6, 7, 10, 11, 14, 15, 18, 19, 22, 23, 26, 27, 30, 31, 32, 35, 36, 37, 38, 41, 42, 45, 46, 47, 48, 51, 52, 53, 55, 58, 59, 60, 61, 64, 65, 66, 69, 70, 72, 74, 75, 78, 79, 82, 83, 84, 87, 88, 91, 92, 95, 96, 97, 98, 99, 102, 103, 106, 107, 109, 111, 114, 116, 117, 120, 122, 125, 126, 127, 130, 131, 134, 135, 136, 137, 140, 141, 144, 145, 146]
/-- RegionStackModel.layEffects()V -/
def cd_67 : List AI := [
  (.iconst 0, [], 0), (.istore_n 1, [], 0), (.iload_n 1, [], 0), (.iconst 3, [], 0), (.if_icmp .ge 16, [12], 0), (.aload_n 0, [], 0),
  (.getfield 53, [9, 14, 2], 14), (.iload_n 1, [], 0), (.iconst 0, [], 0), (.iastore, [], 0), (.iinc 1 1, [], 0), (.goto (-15), [2], 0),
  (.iconst 1, [], 0), (.istore_n 1, [], 0), (.iload_n 1, [], 0), (.ifCond .eq 227, [146], 0), (.iconst 0, [], 0), (.istore_n 1, [], 0),
  (.iconst 0, [], 0), (.istore_n 2, [], 0), (.iload_n 2, [], 0), (.iconst 3, [], 0), (.if_icmp .ge 215, [145], 0), (.iconst 0, [], 0),
  (.istore_n 3, [], 0), (.bipush 40, [], 0), (.iload_n 2, [], 0), (.imul, [], 0), (.istore 4, [], 0), (.iload 4, [], 0),
  (.bipush 40, [], 0), (.iload_n 2, [], 0), (.imul, [], 0), (.aload_n 0, [], 0), (.getfield 16, [9, 2, 2], 2), (.iload_n 2, [], 0),
  (.iaload, [], 0), (.iadd, [], 0), (.if_icmp .ge 158, [126], 0), (.aload_n 0, [], 0), (.getfield 40, [9, 10, 2], 10), (.iload_n 2, [], 0),
  (.baload, [], 0), (.ifCond .eq 7, [46], 0), (.iconst 0, [], 0), (.goto 4, [47], 0), (.iconst 1, [], 0), (.istore 5, [], 0),
  (.aload_n 0, [], 0), (.getfield 7, [9, 0, 2], 0), (.iload_n 2, [], 0), (.iaload, [], 0), (.iconst 1, [], 0), (.if_icmp .ne 7, [56], 0),
  (.iconst 1, [], 0), (.goto 4, [57], 0), (.iconst 0, [], 0), (.istore 6, [], 0), (.aload_n 0, [], 0), (.getfield 13, [9, 1, 2], 1),
  (.iload_n 2, [], 0), (.iaload, [], 0), (.iconst 1, [], 0), (.if_icmp .ne 7, [66], 0), (.iconst 1, [], 0), (.goto 4, [67], 0),
  (.iconst 0, [], 0), (.istore 7, [], 0), (.iload_n 3, [], 0), (.iload 6, [], 0), (.ifCond .eq 18, [79], 0), (.aload_n 0, [], 0),
  (.iload 4, [], 0), (.iconst 0, [], 0), (.iconst 0, [], 0), (.invokevirtual 160, [66, 4, 9, 1], 0), (.ifCond .eq 7, [79], 0), (.iconst 1, [], 0),
  (.goto 4, [80], 0), (.iconst 0, [], 0), (.ior, [], 0), (.istore_n 3, [], 0), (.iload_n 3, [], 0), (.iload 6, [], 0),
  (.ifCond .eq 18, [93], 0), (.aload_n 0, [], 0), (.iload 4, [], 0), (.iconst 0, [], 0), (.iconst 1, [], 0), (.invokevirtual 160, [66, 4, 9, 1], 0),
  (.ifCond .eq 7, [93], 0), (.iconst 2, [], 0), (.goto 4, [94], 0), (.iconst 0, [], 0), (.ior, [], 0), (.istore_n 3, [], 0),
  (.iload_n 3, [], 0), (.iload 7, [], 0), (.ifCond .eq 19, [107], 0), (.aload_n 0, [], 0), (.iload 4, [], 0), (.iload 5, [], 0),
  (.iconst 0, [], 0), (.invokevirtual 160, [66, 4, 9, 1], 0), (.ifCond .eq 7, [107], 0), (.iconst 4, [], 0), (.goto 4, [108], 0), (.iconst 0, [], 0),
  (.ior, [], 0), (.istore_n 3, [], 0), (.iload_n 3, [], 0), (.iload 7, [], 0), (.ifCond .eq 20, [121], 0), (.aload_n 0, [], 0),
  (.iload 4, [], 0), (.iload 5, [], 0), (.iconst 1, [], 0), (.invokevirtual 160, [66, 4, 9, 1], 0), (.ifCond .eq 8, [121], 0), (.bipush 8, [], 0),
  (.goto 4, [122], 0), (.iconst 0, [], 0), (.ior, [], 0), (.istore_n 3, [], 0), (.iinc 4 1, [], 0), (.goto (-168), [29], 0),
  (.iload_n 1, [], 0), (.ifCond .ne 13, [134], 0), (.iload_n 3, [], 0), (.aload_n 0, [], 0), (.getfield 53, [9, 14, 2], 14), (.iload_n 2, [], 0),
  (.iaload, [], 0), (.if_icmp .eq 7, [136], 0), (.iconst 1, [], 0), (.goto 4, [137], 0), (.iconst 0, [], 0), (.istore_n 1, [], 0),
  (.aload_n 0, [], 0), (.getfield 53, [9, 14, 2], 14), (.iload_n 2, [], 0), (.iload_n 3, [], 0), (.iastore, [], 0), (.iinc 2 1, [], 0),
  (.goto (-214), [20], 0), (.goto (-225), [14], 0), (.return_, [], 0)
]
def bp_67 : List Nat := [0, 1, 2, 3, 4, 7, 8, 11, 12, 13, 14, 17, 20, 21, 22, 23, 26, 27, 28, 29, 30, 31, 32, 35, 36, 37, 39, 40, 41, 43, 45, 47, 48, 49, 50, 53, 54, 55, 56, 59, 60, 63, 64, 65, 68, 69, 72, 73, 75, 76, 79, 80, 81, 82, 85, 86, 89, 90, 92, 93, 96, 97, 98, 99, 102, 103, 106, 107, 109, 110, 112, 115, 116, 118, 119, 120, 123, 126, 127, 130, 131, 132, 133, 134, 136, 139, 140, 142, 143, 144, 147, 150, 151, 154, 155, 156, 157, 158, 160, 163, 164, 166, 168, 169, 172, 175, 176, 179, 180, 181, 182, 183, 185, 188, 189, 191, 193, 194, 197, 200, 202, 205, 206, 207, 208, 211, 214, 215, 218, 219, 220, 223, 224, 225, 228, 229, 232, 233, 234, 235, 238, 239, 240, 241, 244, 247, 250, 251]
/-- RegionStackModel.tells(II)I -/
def cd_68 : List AI := [
  (.iload_n 1, [], 0), (.invokestatic 99, [10, 1, 0, 1], 0), (.ifCond .ne 5, [5], 0), (.iconst (-1), [], 0), (.ireturn, [], 0), (.iload_n 2, [], 0),
  (.iconst 0, [], 0), (.iconst 2, [], 0), (.invokestatic 95, [9, 3, 0, 1], 0), (.ifCond .ne 6, [12], 0), (.bipush (-2), [], 0), (.ireturn, [], 0),
  (.aload_n 0, [], 0), (.invokevirtual 164, [62, 1, 9, 1], 0), (.ifCond .ne 6, [17], 0), (.bipush (-5), [], 0), (.ireturn, [], 0), (.iload_n 2, [], 0),
  (.ifCond .ne 20, [28], 0), (.aload_n 0, [], 0), (.getfield 40, [9, 10, 2], 10), (.iload_n 1, [], 0), (.baload, [], 0), (.ifCond .eq 7, [26], 0),
  (.iconst 1, [], 0), (.goto 27, [40], 0), (.iconst 0, [], 0), (.goto 23, [40], 0), (.iload_n 2, [], 0), (.iconst 1, [], 0),
  (.if_icmp .ne 12, [36], 0), (.aload_n 0, [], 0), (.getfield 53, [9, 14, 2], 14), (.iload_n 1, [], 0), (.iaload, [], 0), (.goto 9, [40], 0),
  (.aload_n 0, [], 0), (.getfield 50, [9, 13, 2], 13), (.iload_n 1, [], 0), (.iaload, [], 0), (.ireturn, [], 0)
]
def bp_68 : List Nat := [0, 1, 4, 7, 8, 9, 10, 11, 12, 15, 18, 20, 21, 22, 25, 28, 30, 31, 32, 35, 36, 39, 40, 41, 44, 45, 48, 49, 52, 53, 54, 57, 58, 61, 62, 63, 66, 67, 70, 71, 72, 73]
/-- RegionStackModel.region(II)I -/
def cd_69 : List AI := [
  (.iload_n 1, [], 0), (.invokestatic 99, [10, 1, 0, 1], 0), (.ifCond .ne 5, [5], 0), (.iconst (-1), [], 0), (.ireturn, [], 0), (.iload_n 2, [], 0),
  (.iconst 0, [], 0), (.aload_n 0, [], 0), (.getfield 16, [9, 2, 2], 2), (.iload_n 1, [], 0), (.iaload, [], 0), (.iconst 1, [], 0),
  (.isub, [], 0), (.invokestatic 95, [9, 3, 0, 1], 0), (.ifCond .ne 6, [17], 0), (.bipush (-2), [], 0), (.ireturn, [], 0), (.aload_n 0, [], 0),
  (.invokevirtual 164, [62, 1, 9, 1], 0), (.ifCond .eq 17, [29], 0), (.aload_n 0, [], 0), (.getfield 44, [9, 11, 2], 11), (.bipush 40, [], 0), (.iload_n 1, [], 0),
  (.imul, [], 0), (.iload_n 2, [], 0), (.iadd, [], 0), (.iaload, [], 0), (.goto 5, [30], 0), (.bipush (-5), [], 0),
  (.ireturn, [], 0)
]
def bp_69 : List Nat := [0, 1, 4, 7, 8, 9, 10, 11, 12, 15, 16, 17, 18, 19, 22, 25, 27, 28, 29, 32, 35, 36, 39, 41, 42, 43, 44, 45, 46, 49, 51, 52]
/-- RegionStackModel.home(II)I -/
def cd_70 : List AI := [
  (.iload_n 1, [], 0), (.invokestatic 99, [10, 1, 0, 1], 0), (.ifCond .ne 5, [5], 0), (.iconst (-1), [], 0), (.ireturn, [], 0), (.aload_n 0, [], 0),
  (.invokevirtual 164, [62, 1, 9, 1], 0), (.ifCond .ne 6, [10], 0), (.bipush (-5), [], 0), (.ireturn, [], 0), (.iload_n 2, [], 0), (.iconst 2, [], 0),
  (.iconst 1, [], 0), (.aload_n 0, [], 0), (.getfield 50, [9, 13, 2], 13), (.iload_n 1, [], 0), (.iaload, [], 0), (.iadd, [], 0),
  (.invokestatic 95, [9, 3, 0, 1], 0), (.ifCond .eq 22, [33], 0), (.aload_n 0, [], 0), (.getfield 47, [9, 12, 2], 12), (.bipush 44, [], 0), (.iload_n 1, [], 0),
  (.imul, [], 0), (.iload_n 2, [], 0), (.iadd, [], 0), (.iaload, [], 0), (.bipush 40, [], 0), (.iload_n 1, [], 0),
  (.imul, [], 0), (.isub, [], 0), (.goto 5, [34], 0), (.bipush (-2), [], 0), (.ireturn, [], 0)
]
def bp_70 : List Nat := [0, 1, 4, 7, 8, 9, 10, 13, 16, 18, 19, 20, 21, 22, 23, 26, 27, 28, 29, 32, 35, 36, 39, 41, 42, 43, 44, 45, 46, 48, 49, 50, 51, 54, 56, 57]
/-- RegionStackModel.touches(III)I -/
def cd_71 : List AI := [
  (.iload_n 1, [], 0), (.invokestatic 99, [10, 1, 0, 1], 0), (.ifCond .ne 5, [5], 0), (.iconst (-1), [], 0), (.ireturn, [], 0), (.iload_n 2, [], 0),
  (.iconst 0, [], 0), (.bipush 99, [], 0), (.invokestatic 95, [9, 3, 0, 1], 0), (.ifCond .eq 12, [15], 0), (.iload_n 3, [], 0), (.iconst 0, [], 0),
  (.iconst 2, [], 0), (.invokestatic 95, [9, 3, 0, 1], 0), (.ifCond .ne 6, [17], 0), (.bipush (-2), [], 0), (.ireturn, [], 0), (.aload_n 0, [], 0),
  (.invokevirtual 164, [62, 1, 9, 1], 0), (.ifCond .ne 6, [22], 0), (.bipush (-5), [], 0), (.ireturn, [], 0), (.iconst 0, [], 0), (.istore 4, [], 0),
  (.bipush 40, [], 0), (.iload_n 1, [], 0), (.imul, [], 0), (.istore 5, [], 0), (.iload 5, [], 0), (.bipush 40, [], 0),
  (.iload_n 1, [], 0), (.imul, [], 0), (.aload_n 0, [], 0), (.getfield 16, [9, 2, 2], 2), (.iload_n 1, [], 0), (.iaload, [], 0),
  (.iadd, [], 0), (.if_icmp .ge 56, [65], 0), (.iload 4, [], 0), (.iload_n 3, [], 0), (.ifCond .ne 16, [47], 0), (.aload_n 0, [], 0),
  (.iload 5, [], 0), (.iload_n 2, [], 0), (.invokevirtual 157, [64, 3, 9, 1], 0), (.ifCond .eq 30, [60], 0), (.goto 23, [58], 0), (.aload_n 0, [], 0),
  (.iload 5, [], 0), (.iload_n 2, [], 0), (.iload_n 3, [], 0), (.iconst 2, [], 0), (.if_icmp .ne 7, [55], 0), (.iconst 1, [], 0),
  (.goto 4, [56], 0), (.iconst 0, [], 0), (.invokevirtual 160, [66, 4, 9, 1], 0), (.ifCond .eq 7, [60], 0), (.iconst 1, [], 0), (.goto 4, [61], 0),
  (.iconst 0, [], 0), (.iadd, [], 0), (.istore 4, [], 0), (.iinc 5 1, [], 0), (.goto (-66), [28], 0), (.iload 4, [], 0),
  (.ireturn, [], 0)
]
def bp_71 : List Nat := [0, 1, 4, 7, 8, 9, 10, 11, 13, 16, 19, 20, 21, 22, 25, 28, 30, 31, 32, 35, 38, 40, 41, 42, 44, 46, 47, 48, 50, 52, 54, 55, 56, 57, 60, 61, 62, 63, 66, 68, 69, 72, 73, 75, 76, 79, 82, 85, 86, 88, 89, 90, 91, 94, 95, 98, 99, 102, 105, 106, 109, 110, 111, 113, 116, 119, 121, 122]
/-- RegionStackModel.openOne()I -/
def cd_72 : List AI := [
  (.aload_n 0, [], 0), (.getfield 83, [9, 26, 2], 26), (.aload_n 0, [], 0), (.getfield 167, [9, 28, 0], 28), (.iconst 0, [], 0), (.iastore, [], 0),
  (.aload_n 0, [], 0), (.getfield 86, [9, 27, 2], 27), (.aload_n 0, [], 0), (.getfield 167, [9, 28, 0], 28), (.iconst 0, [], 0), (.bastore, [], 0),
  (.aload_n 0, [], 0), (.dup, [], 0), (.getfield 167, [9, 28, 0], 28), (.iconst 1, [], 0), (.iadd, [], 0), (.putfield 167, [9, 28, 0], 28),
  (.aload_n 0, [], 0), (.dup, [], 0), (.getfield 171, [9, 35, 0], 35), (.iconst 1, [], 0), (.iadd, [], 0), (.putfield 171, [9, 35, 0], 35),
  (.aload_n 0, [], 0), (.aload_n 0, [], 0), (.getfield 167, [9, 28, 0], 28), (.aload_n 0, [], 0), (.getfield 174, [9, 34, 0], 34), (.if_icmp .le 10, [33], 0),
  (.aload_n 0, [], 0), (.getfield 167, [9, 28, 0], 28), (.goto 7, [35], 0), (.aload_n 0, [], 0), (.getfield 174, [9, 34, 0], 34), (.putfield 174, [9, 34, 0], 34),
  (.aload_n 0, [], 0), (.getfield 167, [9, 28, 0], 28), (.iconst 1, [], 0), (.isub, [], 0), (.ireturn, [], 0)
]
def bp_72 : List Nat := [0, 1, 4, 5, 8, 9, 10, 11, 14, 15, 18, 19, 20, 21, 22, 25, 26, 27, 30, 31, 32, 35, 36, 37, 40, 41, 42, 45, 46, 49, 52, 53, 56, 59, 60, 63, 66, 67, 70, 71, 72, 73]
/-- RegionStackModel.closeOne()V -/
def cd_73 : List AI := [
  (.aload_n 0, [], 0), (.dup, [], 0), (.getfield 167, [9, 28, 0], 28), (.iconst 1, [], 0), (.isub, [], 0), (.putfield 167, [9, 28, 0], 28),
  (.aload_n 0, [], 0), (.dup, [], 0), (.getfield 177, [9, 32, 0], 32), (.aload_n 0, [], 0), (.getfield 83, [9, 26, 2], 26), (.aload_n 0, [], 0),
  (.getfield 167, [9, 28, 0], 28), (.iaload, [], 0), (.isub, [], 0), (.putfield 177, [9, 32, 0], 32), (.aload_n 0, [], 0), (.dup, [], 0),
  (.getfield 180, [9, 38, 0], 38), (.aload_n 0, [], 0), (.getfield 86, [9, 27, 2], 27), (.aload_n 0, [], 0), (.getfield 167, [9, 28, 0], 28), (.baload, [], 0),
  (.ifCond .eq 17, [33], 0), (.iconst 2, [], 0), (.aload_n 0, [], 0), (.getfield 83, [9, 26, 2], 26), (.aload_n 0, [], 0), (.getfield 167, [9, 28, 0], 28),
  (.iaload, [], 0), (.imul, [], 0), (.goto 12, [38], 0), (.aload_n 0, [], 0), (.getfield 83, [9, 26, 2], 26), (.aload_n 0, [], 0),
  (.getfield 167, [9, 28, 0], 28), (.iaload, [], 0), (.isub, [], 0), (.putfield 180, [9, 38, 0], 38), (.return_, [], 0)
]
def bp_73 : List Nat := [0, 1, 2, 5, 6, 7, 10, 11, 12, 15, 16, 19, 20, 23, 24, 25, 28, 29, 30, 33, 34, 37, 38, 41, 42, 45, 46, 47, 50, 51, 54, 55, 56, 59, 60, 63, 64, 67, 68, 69, 72, 73]
/-- RegionStackModel.put(II)I -/
def cd_74 : List AI := [
  (.aload_n 0, [], 0), (.dup, [], 0), (.getfield 183, [9, 31, 0], 31), (.iconst 1, [], 0), (.iadd, [], 0), (.putfield 183, [9, 31, 0], 31),
  (.aload_n 0, [], 0), (.getfield 183, [9, 31, 0], 31), (.sipush 300, [], 0), (.if_icmp .le 5, [12], 0), (.iconst 0, [], 0), (.ireturn, [], 0),
  (.aload_n 0, [], 0), (.getfield 80, [9, 25, 2], 25), (.aload_n 0, [], 0), (.getfield 183, [9, 31, 0], 31), (.iload_n 2, [], 0), (.iastore, [], 0),
  (.iload_n 2, [], 0), (.bipush 9, [], 0), (.if_icmp .le 44, [46], 0), (.aload_n 0, [], 0), (.getfield 86, [9, 27, 2], 27), (.iload_n 1, [], 0),
  (.baload, [], 0), (.ifCond .ne 35, [46], 0), (.aload_n 0, [], 0), (.getfield 86, [9, 27, 2], 27), (.iload_n 1, [], 0), (.iconst 1, [], 0),
  (.bastore, [], 0), (.aload_n 0, [], 0), (.dup, [], 0), (.getfield 186, [9, 36, 0], 36), (.iconst 1, [], 0), (.iadd, [], 0),
  (.putfield 186, [9, 36, 0], 36), (.aload_n 0, [], 0), (.dup, [], 0), (.getfield 180, [9, 38, 0], 38), (.aload_n 0, [], 0), (.getfield 83, [9, 26, 2], 26),
  (.iload_n 1, [], 0), (.iaload, [], 0), (.iadd, [], 0), (.putfield 180, [9, 38, 0], 38), (.aload_n 0, [], 0), (.getfield 83, [9, 26, 2], 26),
  (.iload_n 1, [], 0), (.dup2, [], 0), (.iaload, [], 0), (.iconst 1, [], 0), (.iadd, [], 0), (.iastore, [], 0),
  (.aload_n 0, [], 0), (.dup, [], 0), (.getfield 180, [9, 38, 0], 38), (.aload_n 0, [], 0), (.getfield 86, [9, 27, 2], 27), (.iload_n 1, [], 0),
  (.baload, [], 0), (.ifCond .eq 7, [64], 0), (.iconst 2, [], 0), (.goto 4, [65], 0), (.iconst 1, [], 0), (.iadd, [], 0),
  (.putfield 180, [9, 38, 0], 38), (.aload_n 0, [], 0), (.dup, [], 0), (.getfield 189, [9, 40, 0], 40), (.iload_n 2, [], 0), (.bipush 9, [], 0),
  (.if_icmp .le 7, [75], 0), (.iconst 2, [], 0), (.goto 4, [76], 0), (.iconst 1, [], 0), (.iadd, [], 0), (.putfield 189, [9, 40, 0], 40),
  (.aload_n 0, [], 0), (.dup, [], 0), (.getfield 177, [9, 32, 0], 32), (.iconst 1, [], 0), (.iadd, [], 0), (.putfield 177, [9, 32, 0], 32),
  (.aload_n 0, [], 0), (.aload_n 0, [], 0), (.getfield 177, [9, 32, 0], 32), (.aload_n 0, [], 0), (.getfield 192, [9, 33, 0], 33), (.if_icmp .le 10, [93], 0),
  (.aload_n 0, [], 0), (.getfield 177, [9, 32, 0], 32), (.goto 7, [95], 0), (.aload_n 0, [], 0), (.getfield 192, [9, 33, 0], 33), (.putfield 192, [9, 33, 0], 33),
  (.aload_n 0, [], 0), (.aload_n 0, [], 0), (.getfield 180, [9, 38, 0], 38), (.aload_n 0, [], 0), (.getfield 195, [9, 39, 0], 39), (.if_icmp .le 10, [105], 0),
  (.aload_n 0, [], 0), (.getfield 180, [9, 38, 0], 38), (.goto 7, [107], 0), (.aload_n 0, [], 0), (.getfield 195, [9, 39, 0], 39), (.putfield 195, [9, 39, 0], 39),
  (.aload_n 0, [], 0), (.getfield 183, [9, 31, 0], 31), (.ireturn, [], 0)
]
def bp_74 : List Nat := [0, 1, 2, 5, 6, 7, 10, 11, 14, 17, 20, 21, 22, 23, 26, 27, 30, 31, 32, 33, 35, 38, 39, 42, 43, 44, 47, 48, 51, 52, 53, 54, 55, 56, 59, 60, 61, 64, 65, 66, 69, 70, 73, 74, 75, 76, 79, 80, 83, 84, 85, 86, 87, 88, 89, 90, 91, 94, 95, 98, 99, 100, 103, 104, 107, 108, 109, 112, 113, 114, 117, 118, 120, 123, 124, 127, 128, 129, 132, 133, 134, 137, 138, 139, 142, 143, 144, 147, 148, 151, 154, 155, 158, 161, 162, 165, 168, 169, 170, 173, 174, 177, 180, 181, 184, 187, 188, 191, 194, 195, 198, 199]
/-- RegionStackModel.begin(IIII)I -/
def cd_75 : List AI := [
  (.aload_n 0, [], 0), (.getfield 68, [9, 20, 2], 20), (.aload_n 0, [], 0), (.getfield 198, [9, 24, 0], 24), (.iload_n 1, [], 0), (.iastore, [], 0),
  (.aload_n 0, [], 0), (.getfield 71, [9, 21, 2], 21), (.aload_n 0, [], 0), (.getfield 198, [9, 24, 0], 24), (.iload_n 2, [], 0), (.iastore, [], 0),
  (.aload_n 0, [], 0), (.getfield 77, [9, 23, 2], 23), (.bipush 44, [], 0), (.aload_n 0, [], 0), (.getfield 198, [9, 24, 0], 24), (.imul, [], 0),
  (.iload_n 3, [], 0), (.iastore, [], 0), (.aload_n 0, [], 0), (.getfield 77, [9, 23, 2], 23), (.bipush 44, [], 0), (.aload_n 0, [], 0),
  (.getfield 198, [9, 24, 0], 24), (.imul, [], 0), (.iconst 1, [], 0), (.iadd, [], 0), (.iload 4, [], 0), (.iastore, [], 0),
  (.aload_n 0, [], 0), (.dup, [], 0), (.getfield 198, [9, 24, 0], 24), (.iconst 1, [], 0), (.iadd, [], 0), (.putfield 198, [9, 24, 0], 24),
  (.aload_n 0, [], 0), (.getfield 198, [9, 24, 0], 24), (.iconst 1, [], 0), (.isub, [], 0), (.ireturn, [], 0)
]
def bp_75 : List Nat := [0, 1, 4, 5, 8, 9, 10, 11, 14, 15, 18, 19, 20, 21, 24, 26, 27, 30, 31, 32, 33, 34, 37, 39, 40, 43, 44, 45, 46, 48, 49, 50, 51, 54, 55, 56, 59, 60, 63, 64, 65, 66]
/-- RegionStackModel.start(II)V -/
def cd_76 : List AI := [
  (.aload_n 0, [], 0), (.getfield 56, [9, 15, 2], 15), (.aload_n 0, [], 0), (.getfield 201, [9, 19, 0], 19), (.iload_n 1, [], 0), (.iastore, [], 0),
  (.aload_n 0, [], 0), (.getfield 59, [9, 16, 2], 16), (.aload_n 0, [], 0), (.getfield 201, [9, 19, 0], 19), (.iload_n 2, [], 0), (.iastore, [], 0),
  (.aload_n 0, [], 0), (.getfield 62, [9, 17, 2], 17), (.aload_n 0, [], 0), (.getfield 201, [9, 19, 0], 19), (.iconst 0, [], 0), (.iastore, [], 0),
  (.aload_n 0, [], 0), (.dup, [], 0), (.getfield 201, [9, 19, 0], 19), (.iconst 1, [], 0), (.iadd, [], 0), (.putfield 201, [9, 19, 0], 19),
  (.return_, [], 0)
]
def bp_76 : List Nat := [0, 1, 4, 5, 8, 9, 10, 11, 14, 15, 18, 19, 20, 21, 24, 25, 28, 29, 30, 31, 32, 35, 36, 37, 40, 41]
/-- RegionStackModel.turnHomes(IIZ)V -/
def cd_77 : List AI := [
  (.aload_n 0, [], 0), (.getfield 68, [9, 20, 2], 20), (.iload_n 1, [], 0), (.iaload, [], 0), (.istore 4, [], 0), (.iconst 2, [], 0),
  (.istore 5, [], 0), (.iload 5, [], 0), (.iconst 2, [], 0), (.aload_n 0, [], 0), (.getfield 50, [9, 13, 2], 13), (.iload 4, [], 0),
  (.iaload, [], 0), (.iadd, [], 0), (.if_icmp .ge 70, [52], 0), (.aload_n 0, [], 0), (.getfield 47, [9, 12, 2], 12), (.bipush 44, [], 0),
  (.iload 4, [], 0), (.imul, [], 0), (.iload 5, [], 0), (.iadd, [], 0), (.iaload, [], 0), (.iload_n 2, [], 0),
  (.if_icmp .ne 26, [38], 0), (.iload_n 3, [], 0), (.ifCond .eq 22, [38], 0), (.aload_n 0, [], 0), (.getfield 77, [9, 23, 2], 23), (.bipush 44, [], 0),
  (.iload_n 1, [], 0), (.imul, [], 0), (.iload 5, [], 0), (.iadd, [], 0), (.aload_n 0, [], 0), (.invokevirtual 204, [72, 1, 9, 1], 0),
  (.iastore, [], 0), (.goto 24, [50], 0), (.aload_n 0, [], 0), (.getfield 47, [9, 12, 2], 12), (.bipush 44, [], 0), (.iload 4, [], 0),
  (.imul, [], 0), (.iload 5, [], 0), (.iadd, [], 0), (.iaload, [], 0), (.iload_n 2, [], 0), (.if_icmp .ne 7, [50], 0),
  (.aload_n 0, [], 0), (.invokevirtual 208, [73, 1, 9, 0], 0), (.iinc 5 1, [], 0), (.goto (-78), [7], 0), (.return_, [], 0)
]
def bp_77 : List Nat := [0, 1, 4, 5, 6, 8, 9, 11, 13, 14, 15, 18, 20, 21, 22, 25, 26, 29, 31, 33, 34, 36, 37, 38, 39, 42, 43, 46, 47, 50, 52, 53, 54, 56, 57, 58, 61, 62, 65, 66, 69, 71, 73, 74, 76, 77, 78, 79, 82, 83, 86, 89, 92, 93]
/-- RegionStackModel.finish(II)V -/
def cd_78 : List AI := [
  (.aload_n 0, [], 0), (.iload_n 1, [], 0), (.iload_n 2, [], 0), (.iconst 0, [], 0), (.invokevirtual 211, [77, 4, 9, 0], 0), (.aload_n 0, [], 0),
  (.dup, [], 0), (.getfield 201, [9, 19, 0], 19), (.iconst 1, [], 0), (.isub, [], 0), (.putfield 201, [9, 19, 0], 19), (.return_, [], 0)
]
def bp_78 : List Nat := [0, 1, 2, 3, 4, 7, 8, 9, 12, 13, 14, 17, 18]
/-- RegionStackModel.goOn(III)V -/
def cd_79 : List AI := [
  (.aload_n 0, [], 0), (.getfield 68, [9, 20, 2], 20), (.iload_n 1, [], 0), (.iaload, [], 0), (.istore 4, [], 0), (.aload_n 0, [], 0),
  (.getfield 62, [9, 17, 2], 17), (.iload_n 3, [], 0), (.iconst 3, [], 0), (.iastore, [], 0), (.aload_n 0, [], 0), (.getfield 22, [9, 4, 2], 4),
  (.iload_n 2, [], 0), (.iaload, [], 0), (.tableswitch 224 3 8 #[39, 76, 98, 128, 159, 189], [122, 15, 37, 49, 65, 84, 100], 0), (.aload_n 0, [], 0), (.aload_n 0, [], 0), (.aload_n 0, [], 0),
  (.getfield 77, [9, 23, 2], 23), (.bipush 44, [], 0), (.iload_n 1, [], 0), (.imul, [], 0), (.aload_n 0, [], 0), (.getfield 44, [9, 11, 2], 11),
  (.iload_n 2, [], 0), (.iaload, [], 0), (.iadd, [], 0), (.iaload, [], 0), (.aload_n 0, [], 0), (.getfield 215, [9, 29, 0], 29),
  (.invokevirtual 218, [74, 3, 9, 1], 0), (.putfield 215, [9, 29, 0], 29), (.aload_n 0, [], 0), (.iload_n 1, [], 0), (.iload_n 2, [], 0), (.invokevirtual 221, [78, 3, 9, 0], 0),
  (.goto 281, [195], 0), (.aload_n 0, [], 0), (.aload_n 0, [], 0), (.getfield 80, [9, 25, 2], 25), (.aload_n 0, [], 0), (.getfield 215, [9, 29, 0], 29),
  (.iaload, [], 0), (.putfield 215, [9, 29, 0], 29), (.aload_n 0, [], 0), (.iload_n 1, [], 0), (.iload_n 2, [], 0), (.invokevirtual 221, [78, 3, 9, 0], 0),
  (.goto 259, [195], 0), (.aload_n 0, [], 0), (.aload_n 0, [], 0), (.getfield 215, [9, 29, 0], 29), (.ifCond .le 12, [58], 0), (.aload_n 0, [], 0),
  (.getfield 215, [9, 29, 0], 29), (.iconst 1, [], 0), (.isub, [], 0), (.goto 4, [59], 0), (.iconst 0, [], 0), (.putfield 215, [9, 29, 0], 29),
  (.aload_n 0, [], 0), (.iload_n 1, [], 0), (.iload_n 2, [], 0), (.invokevirtual 221, [78, 3, 9, 0], 0), (.goto 229, [195], 0), (.aload_n 0, [], 0),
  (.getfield 65, [9, 18, 2], 18), (.iload_n 3, [], 0), (.aload_n 0, [], 0), (.getfield 215, [9, 29, 0], 29), (.iastore, [], 0), (.aload_n 0, [], 0),
  (.getfield 62, [9, 17, 2], 17), (.iload_n 3, [], 0), (.iconst 2, [], 0), (.iastore, [], 0), (.aload_n 0, [], 0), (.iload_n 1, [], 0),
  (.aload_n 0, [], 0), (.getfield 28, [9, 6, 2], 6), (.iload_n 2, [], 0), (.iaload, [], 0), (.invokevirtual 224, [76, 3, 9, 0], 0), (.goto 198, [195], 0),
  (.aload_n 0, [], 0), (.iload_n 1, [], 0), (.aload_n 0, [], 0), (.getfield 215, [9, 29, 0], 29), (.ifCond .eq 12, [94], 0), (.aload_n 0, [], 0),
  (.getfield 28, [9, 6, 2], 6), (.iload_n 2, [], 0), (.iaload, [], 0), (.goto 9, [98], 0), (.aload_n 0, [], 0), (.getfield 31, [9, 7, 2], 7),
  (.iload_n 2, [], 0), (.iaload, [], 0), (.invokevirtual 224, [76, 3, 9, 0], 0), (.goto 168, [195], 0), (.aload_n 0, [], 0), (.getfield 74, [9, 22, 2], 22),
  (.bipush 40, [], 0), (.iload_n 1, [], 0), (.imul, [], 0), (.iload_n 2, [], 0), (.iadd, [], 0), (.bipush 40, [], 0),
  (.iload 4, [], 0), (.imul, [], 0), (.isub, [], 0), (.aload_n 0, [], 0), (.getfield 215, [9, 29, 0], 29), (.iastore, [], 0),
  (.aload_n 0, [], 0), (.iload_n 1, [], 0), (.aload_n 0, [], 0), (.getfield 28, [9, 6, 2], 6), (.iload_n 2, [], 0), (.iaload, [], 0),
  (.invokevirtual 224, [76, 3, 9, 0], 0), (.goto 133, [195], 0), (.aload_n 0, [], 0), (.dup, [], 0), (.getfield 227, [9, 37, 0], 37), (.iconst 1, [], 0),
  (.iadd, [], 0), (.putfield 227, [9, 37, 0], 37), (.aload_n 0, [], 0), (.getfield 198, [9, 24, 0], 24), (.bipush 13, [], 0), (.if_icmp .ge 107, [192], 0),
  (.aload_n 0, [], 0), (.iload_n 2, [], 0), (.invokevirtual 113, [14, 2, 9, 1], 0), (.istore 5, [], 0), (.aload_n 0, [], 0), (.getfield 7, [9, 0, 2], 0),
  (.iload 5, [], 0), (.iaload, [], 0), (.iconst 1, [], 0), (.if_icmp .ne 27, [157], 0), (.aload_n 0, [], 0), (.getfield 77, [9, 23, 2], 23),
  (.bipush 44, [], 0), (.iload_n 1, [], 0), (.imul, [], 0), (.aload_n 0, [], 0), (.getfield 44, [9, 11, 2], 11), (.aload_n 0, [], 0),
  (.getfield 25, [9, 5, 2], 5), (.iload_n 2, [], 0), (.iaload, [], 0), (.iaload, [], 0), (.iadd, [], 0), (.iaload, [], 0),
  (.goto 4, [158], 0), (.iconst 0, [], 0), (.istore 6, [], 0), (.aload_n 0, [], 0), (.getfield 13, [9, 1, 2], 1), (.iload 5, [], 0),
  (.iaload, [], 0), (.iconst 1, [], 0), (.if_icmp .ne 22, [177], 0), (.aload_n 0, [], 0), (.getfield 77, [9, 23, 2], 23), (.bipush 44, [], 0),
  (.iload_n 1, [], 0), (.imul, [], 0), (.aload_n 0, [], 0), (.getfield 44, [9, 11, 2], 11), (.iload_n 2, [], 0), (.iaload, [], 0),
  (.iadd, [], 0), (.iaload, [], 0), (.goto 4, [178], 0), (.iconst 0, [], 0), (.istore 7, [], 0), (.aload_n 0, [], 0),
  (.aload_n 0, [], 0), (.iload 5, [], 0), (.aload_n 0, [], 0), (.getfield 215, [9, 29, 0], 29), (.iload 6, [], 0), (.iload 7, [], 0),
  (.invokevirtual 230, [75, 5, 9, 1], 0), (.bipush 40, [], 0), (.iload 5, [], 0), (.imul, [], 0), (.invokevirtual 224, [76, 3, 9, 0], 0), (.goto 10, [195], 0),
  (.aload_n 0, [], 0), (.sipush 4000, [], 0), (.putfield 234, [9, 30, 0], 30), (.return_, [], 0)
]
def bp_79 : List Nat := [0, 1, 4, 5, 6, 8, 9, 12, 13, 14, 15, 16, 19, 20, 21, 60, 61, 62, 63, 66, 68, 69, 70, 71, 74, 75, 76, 77, 78, 79, 82, 85, 88, 89, 90, 91, 94, 97, 98, 99, 102, 103, 106, 107, 110, 111, 112, 113, 116, 119, 120, 121, 124, 127, 128, 131, 132, 133, 136, 137, 140, 141, 142, 143, 146, 149, 150, 153, 154, 155, 158, 159, 160, 163, 164, 165, 166, 167, 168, 169, 172, 173, 174, 177, 180, 181, 182, 183, 186, 189, 190, 193, 194, 195, 198, 199, 202, 203, 204, 207, 210, 211, 214, 216, 217, 218, 219, 220, 222, 224, 225, 226, 227, 230, 231, 232, 233, 234, 237, 238, 239, 242, 245, 246, 247, 250, 251, 252, 255, 256, 259, 261, 264, 265, 266, 269, 271, 272, 275, 277, 278, 279, 282, 283, 286, 288, 289, 290, 291, 294, 295, 298, 299, 300, 301, 302, 303, 306, 307, 309, 310, 313, 315, 316, 317, 320, 321, 324, 326, 327, 328, 329, 332, 333, 334, 335, 336, 339, 340, 342, 343, 344, 346, 347, 350, 352, 354, 357, 359, 361, 362, 365, 368, 369, 372, 375, 376]
/-- RegionStackModel.step()V -/
def cd_80 : List AI := [
  (.aload_n 0, [], 0), (.getfield 201, [9, 19, 0], 19), (.iconst 1, [], 0), (.isub, [], 0), (.istore_n 1, [], 0), (.aload_n 0, [], 0),
  (.getfield 56, [9, 15, 2], 15), (.iload_n 1, [], 0), (.iaload, [], 0), (.istore_n 2, [], 0), (.aload_n 0, [], 0), (.getfield 59, [9, 16, 2], 16),
  (.iload_n 1, [], 0), (.iaload, [], 0), (.istore_n 3, [], 0), (.aload_n 0, [], 0), (.getfield 62, [9, 17, 2], 17), (.iload_n 1, [], 0),
  (.iaload, [], 0), (.istore 4, [], 0), (.iload 4, [], 0), (.iconst 1, [], 0), (.if_icmp .ne 11, [29], 0), (.aload_n 0, [], 0),
  (.iload_n 2, [], 0), (.iload_n 3, [], 0), (.iload_n 1, [], 0), (.invokevirtual 237, [79, 4, 9, 0], 0), (.return_, [], 0), (.iload 4, [], 0),
  (.iconst 1, [], 0), (.if_icmp .le 59, [64], 0), (.iload 4, [], 0), (.iconst 2, [], 0), (.if_icmp .ne 25, [47], 0), (.aload_n 0, [], 0),
  (.aload_n 0, [], 0), (.getfield 65, [9, 18, 2], 18), (.iload_n 1, [], 0), (.iaload, [], 0), (.aload_n 0, [], 0), (.getfield 215, [9, 29, 0], 29),
  (.iadd, [], 0), (.sipush 1000, [], 0), (.irem, [], 0), (.putfield 215, [9, 29, 0], 29), (.goto 24, [59], 0), (.aload_n 0, [], 0),
  (.getfield 22, [9, 4, 2], 4), (.iload_n 3, [], 0), (.iaload, [], 0), (.bipush 9, [], 0), (.if_icmp .ne 13, [59], 0), (.aload_n 0, [], 0),
  (.dup, [], 0), (.getfield 198, [9, 24, 0], 24), (.iconst 1, [], 0), (.isub, [], 0), (.putfield 198, [9, 24, 0], 24), (.aload_n 0, [], 0),
  (.iload_n 2, [], 0), (.iload_n 3, [], 0), (.invokevirtual 221, [78, 3, 9, 0], 0), (.return_, [], 0), (.aload_n 0, [], 0), (.dup, [], 0),
  (.getfield 234, [9, 30, 0], 30), (.iconst 1, [], 0), (.iadd, [], 0), (.putfield 234, [9, 30, 0], 30), (.aload_n 0, [], 0), (.iload_n 2, [], 0),
  (.iload_n 3, [], 0), (.iconst 1, [], 0), (.invokevirtual 211, [77, 4, 9, 0], 0), (.aload_n 0, [], 0), (.getfield 62, [9, 17, 2], 17), (.iload_n 1, [], 0),
  (.iconst 1, [], 0), (.iastore, [], 0), (.aload_n 0, [], 0), (.getfield 22, [9, 4, 2], 4), (.iload_n 3, [], 0), (.iaload, [], 0),
  (.invokestatic 107, [12, 1, 0, 1], 0), (.ifCond .le 15, [94], 0), (.aload_n 0, [], 0), (.iload_n 2, [], 0), (.aload_n 0, [], 0), (.getfield 25, [9, 5, 2], 5),
  (.iload_n 3, [], 0), (.iaload, [], 0), (.invokevirtual 224, [76, 3, 9, 0], 0), (.return_, [], 0), (.aload_n 0, [], 0), (.getfield 68, [9, 20, 2], 20),
  (.iload_n 2, [], 0), (.iaload, [], 0), (.istore 5, [], 0), (.aload_n 0, [], 0), (.aload_n 0, [], 0), (.getfield 22, [9, 4, 2], 4),
  (.iload_n 3, [], 0), (.iaload, [], 0), (.ifCond .ne 15, [112], 0), (.aload_n 0, [], 0), (.getfield 19, [9, 3, 2], 3), (.iload_n 3, [], 0),
  (.iaload, [], 0), (.bipush 48, [], 0), (.isub, [], 0), (.goto 45, [138], 0), (.aload_n 0, [], 0), (.getfield 22, [9, 4, 2], 4),
  (.iload_n 3, [], 0), (.iaload, [], 0), (.iconst 1, [], 0), (.if_icmp .ne 12, [123], 0), (.aload_n 0, [], 0), (.getfield 71, [9, 21, 2], 21),
  (.iload_n 2, [], 0), (.iaload, [], 0), (.goto 26, [138], 0), (.aload_n 0, [], 0), (.getfield 74, [9, 22, 2], 22), (.bipush 40, [], 0),
  (.iload_n 2, [], 0), (.imul, [], 0), (.aload_n 0, [], 0), (.iload 5, [], 0), (.iload_n 3, [], 0), (.invokevirtual 116, [53, 3, 9, 1], 0),
  (.iadd, [], 0), (.bipush 40, [], 0), (.iload 5, [], 0), (.imul, [], 0), (.isub, [], 0), (.iaload, [], 0),
  (.putfield 215, [9, 29, 0], 29), (.aload_n 0, [], 0), (.iload_n 2, [], 0), (.iload_n 3, [], 0), (.invokevirtual 221, [78, 3, 9, 0], 0), (.return_, [], 0)
]
def bp_80 : List Nat := [0, 1, 4, 5, 6, 7, 8, 11, 12, 13, 14, 15, 18, 19, 20, 21, 22, 25, 26, 27, 29, 31, 32, 35, 36, 37, 38, 39, 42, 43, 45, 46, 49, 51, 52, 55, 56, 57, 60, 61, 62, 63, 66, 67, 70, 71, 74, 77, 78, 81, 82, 83, 85, 88, 89, 90, 93, 94, 95, 98, 99, 100, 101, 104, 105, 106, 107, 110, 111, 112, 115, 116, 117, 118, 119, 122, 123, 126, 127, 128, 129, 130, 133, 134, 135, 138, 141, 142, 143, 144, 147, 148, 149, 152, 153, 154, 157, 158, 159, 161, 162, 163, 166, 167, 168, 171, 172, 175, 176, 177, 179, 180, 183, 184, 187, 188, 189, 190, 193, 194, 197, 198, 199, 202, 203, 206, 208, 209, 210, 211, 213, 214, 217, 218, 220, 222, 223, 224, 225, 228, 229, 230, 231, 234, 235]
/-- RegionStackModel.barOfRun(II)I -/
def cd_81 : List AI := [
  (.aload_n 0, [], 0), (.invokevirtual 164, [62, 1, 9, 1], 0), (.ifCond .ne 6, [5], 0), (.bipush (-5), [], 0), (.ireturn, [], 0), (.aload_n 0, [], 0),
  (.iconst 0, [], 0), (.putfield 201, [9, 19, 0], 19), (.aload_n 0, [], 0), (.iconst 0, [], 0), (.putfield 198, [9, 24, 0], 24), (.aload_n 0, [], 0),
  (.iconst 0, [], 0), (.putfield 167, [9, 28, 0], 28), (.aload_n 0, [], 0), (.iconst 0, [], 0), (.putfield 234, [9, 30, 0], 30), (.aload_n 0, [], 0),
  (.iconst 0, [], 0), (.putfield 183, [9, 31, 0], 31), (.aload_n 0, [], 0), (.iconst 0, [], 0), (.putfield 177, [9, 32, 0], 32), (.aload_n 0, [], 0),
  (.iconst 0, [], 0), (.putfield 192, [9, 33, 0], 33), (.aload_n 0, [], 0), (.iconst 0, [], 0), (.putfield 174, [9, 34, 0], 34), (.aload_n 0, [], 0),
  (.iconst 0, [], 0), (.putfield 171, [9, 35, 0], 35), (.aload_n 0, [], 0), (.iconst 0, [], 0), (.putfield 186, [9, 36, 0], 36), (.aload_n 0, [], 0),
  (.iconst 0, [], 0), (.putfield 227, [9, 37, 0], 37), (.aload_n 0, [], 0), (.iconst 0, [], 0), (.putfield 180, [9, 38, 0], 38), (.aload_n 0, [], 0),
  (.iconst 0, [], 0), (.putfield 195, [9, 39, 0], 39), (.aload_n 0, [], 0), (.iconst 0, [], 0), (.putfield 189, [9, 40, 0], 40), (.aload_n 0, [], 0),
  (.getfield 7, [9, 0, 2], 0), (.iload_n 1, [], 0), (.iaload, [], 0), (.iconst 1, [], 0), (.if_icmp .ne 10, [56], 0), (.aload_n 0, [], 0),
  (.invokevirtual 204, [72, 1, 9, 1], 0), (.goto 4, [57], 0), (.iconst 0, [], 0), (.istore_n 3, [], 0), (.aload_n 0, [], 0), (.getfield 7, [9, 0, 2], 0),
  (.iload_n 1, [], 0), (.iaload, [], 0), (.iconst 1, [], 0), (.if_icmp .ne 12, [69], 0), (.aload_n 0, [], 0), (.iload_n 3, [], 0),
  (.iload_n 2, [], 0), (.invokevirtual 218, [74, 3, 9, 1], 0), (.goto 4, [70], 0), (.iload_n 2, [], 0), (.istore 4, [], 0), (.aload_n 0, [], 0),
  (.getfield 13, [9, 1, 2], 1), (.iload_n 1, [], 0), (.iaload, [], 0), (.iconst 1, [], 0), (.if_icmp .ne 19, [85], 0), (.aload_n 0, [], 0),
  (.getfield 40, [9, 10, 2], 10), (.iload_n 1, [], 0), (.baload, [], 0), (.ifCond .ne 10, [85], 0), (.aload_n 0, [], 0), (.invokevirtual 204, [72, 1, 9, 1], 0),
  (.goto 4, [86], 0), (.iload_n 3, [], 0), (.istore 5, [], 0), (.aload_n 0, [], 0), (.aload_n 0, [], 0), (.iload_n 1, [], 0),
  (.iload 4, [], 0), (.iload_n 3, [], 0), (.iload 5, [], 0), (.invokevirtual 230, [75, 5, 9, 1], 0), (.bipush 40, [], 0), (.iload_n 1, [], 0),
  (.imul, [], 0), (.invokevirtual 224, [76, 3, 9, 0], 0), (.aload_n 0, [], 0), (.getfield 201, [9, 19, 0], 19), (.ifCond .le 30, [112], 0), (.aload_n 0, [], 0),
  (.getfield 234, [9, 30, 0], 30), (.sipush 3001, [], 0), (.if_icmp .ge 20, [112], 0), (.aload_n 0, [], 0), (.getfield 183, [9, 31, 0], 31), (.sipush 301, [], 0),
  (.if_icmp .ge 10, [112], 0), (.aload_n 0, [], 0), (.invokevirtual 241, [80, 1, 9, 0], 0), (.goto (-31), [98], 0), (.aload_n 0, [], 0), (.getfield 234, [9, 30, 0], 30),
  (.sipush 3000, [], 0), (.if_icmp .gt 13, [120], 0), (.aload_n 0, [], 0), (.getfield 183, [9, 31, 0], 31), (.sipush 300, [], 0), (.if_icmp .le 8, [122], 0),
  (.bipush (-3), [], 0), (.goto 4, [123], 0), (.iconst 0, [], 0), (.ireturn, [], 0)
]
def bp_81 : List Nat := [0, 1, 4, 7, 9, 10, 11, 12, 15, 16, 17, 20, 21, 22, 25, 26, 27, 30, 31, 32, 35, 36, 37, 40, 41, 42, 45, 46, 47, 50, 51, 52, 55, 56, 57, 60, 61, 62, 65, 66, 67, 70, 71, 72, 75, 76, 77, 80, 81, 84, 85, 86, 87, 90, 91, 94, 97, 98, 99, 100, 103, 104, 105, 106, 109, 110, 111, 112, 115, 118, 119, 121, 122, 125, 126, 127, 128, 131, 132, 135, 136, 137, 140, 141, 144, 147, 148, 150, 151, 152, 153, 155, 156, 158, 161, 163, 164, 165, 168, 169, 172, 175, 176, 179, 182, 185, 186, 189, 192, 195, 196, 199, 202, 203, 206, 209, 212, 213, 216, 219, 222, 224, 227, 228, 229]
/-- RegionStackModel.run(III)I -/
def cd_82 : List AI := [
  (.iload_n 1, [], 0), (.invokestatic 99, [10, 1, 0, 1], 0), (.ifCond .ne 5, [5], 0), (.iconst (-1), [], 0), (.ireturn, [], 0), (.iload_n 2, [], 0),
  (.iconst 0, [], 0), (.sipush 999, [], 0), (.invokestatic 95, [9, 3, 0, 1], 0), (.ifCond .eq 13, [15], 0), (.iload_n 3, [], 0), (.iconst 0, [], 0),
  (.bipush 7, [], 0), (.invokestatic 95, [9, 3, 0, 1], 0), (.ifCond .ne 6, [17], 0), (.bipush (-2), [], 0), (.ireturn, [], 0), (.aload_n 0, [], 0),
  (.iload_n 1, [], 0), (.iload_n 2, [], 0), (.invokevirtual 244, [81, 3, 9, 1], 0), (.istore 4, [], 0), (.iload 4, [], 0), (.ifCond .ge 6, [26], 0),
  (.iload 4, [], 0), (.ireturn, [], 0), (.iload_n 3, [], 0), (.tableswitch 90 0 5 #[38, 65, 70, 75, 80, 85], [58, 28, 43, 46, 49, 52, 55], 0), (.aload_n 0, [], 0), (.getfield 13, [9, 1, 2], 1),
  (.iload_n 1, [], 0), (.iaload, [], 0), (.iconst 1, [], 0), (.if_icmp .ne 15, [40], 0), (.aload_n 0, [], 0), (.getfield 80, [9, 25, 2], 25),
  (.aload_n 0, [], 0), (.getfield 215, [9, 29, 0], 29), (.iaload, [], 0), (.goto 7, [42], 0), (.aload_n 0, [], 0), (.getfield 215, [9, 29, 0], 29),
  (.ireturn, [], 0), (.aload_n 0, [], 0), (.getfield 234, [9, 30, 0], 30), (.ireturn, [], 0), (.aload_n 0, [], 0), (.getfield 183, [9, 31, 0], 31),
  (.ireturn, [], 0), (.aload_n 0, [], 0), (.getfield 192, [9, 33, 0], 33), (.ireturn, [], 0), (.aload_n 0, [], 0), (.getfield 174, [9, 34, 0], 34),
  (.ireturn, [], 0), (.aload_n 0, [], 0), (.getfield 171, [9, 35, 0], 35), (.ireturn, [], 0), (.iload_n 3, [], 0), (.bipush 6, [], 0),
  (.if_icmp .ne 10, [64], 0), (.aload_n 0, [], 0), (.getfield 186, [9, 36, 0], 36), (.goto 7, [66], 0), (.aload_n 0, [], 0), (.getfield 227, [9, 37, 0], 37),
  (.ireturn, [], 0)
]
def bp_82 : List Nat := [0, 1, 4, 7, 8, 9, 10, 11, 14, 17, 20, 21, 22, 24, 27, 30, 32, 33, 34, 35, 36, 39, 41, 43, 46, 48, 49, 50, 88, 89, 92, 93, 94, 95, 98, 99, 102, 103, 106, 107, 110, 111, 114, 115, 116, 119, 120, 121, 124, 125, 126, 129, 130, 131, 134, 135, 136, 139, 140, 141, 143, 146, 147, 150, 153, 154, 157, 158]
/-- RegionStackModel.words(III)I -/
def cd_83 : List AI := [
  (.iload_n 1, [], 0), (.invokestatic 99, [10, 1, 0, 1], 0), (.ifCond .ne 5, [5], 0), (.iconst (-1), [], 0), (.ireturn, [], 0), (.iload_n 2, [], 0),
  (.iconst 0, [], 0), (.sipush 999, [], 0), (.invokestatic 95, [9, 3, 0, 1], 0), (.ifCond .eq 12, [15], 0), (.iload_n 3, [], 0), (.iconst 0, [], 0),
  (.iconst 1, [], 0), (.invokestatic 95, [9, 3, 0, 1], 0), (.ifCond .ne 6, [17], 0), (.bipush (-2), [], 0), (.ireturn, [], 0), (.aload_n 0, [], 0),
  (.iload_n 1, [], 0), (.iload_n 2, [], 0), (.invokevirtual 244, [81, 3, 9, 1], 0), (.istore 4, [], 0), (.iload 4, [], 0), (.ifCond .ge 8, [26], 0),
  (.iload 4, [], 0), (.goto 18, [33], 0), (.iload_n 3, [], 0), (.ifCond .ne 10, [31], 0), (.aload_n 0, [], 0), (.getfield 195, [9, 39, 0], 39),
  (.goto 7, [33], 0), (.aload_n 0, [], 0), (.getfield 189, [9, 40, 0], 40), (.ireturn, [], 0)
]
def bp_83 : List Nat := [0, 1, 4, 7, 8, 9, 10, 11, 14, 17, 20, 21, 22, 23, 26, 29, 31, 32, 33, 34, 35, 38, 40, 42, 45, 47, 50, 51, 54, 55, 58, 61, 62, 65, 66]
/-- RegionStackModel.mixed(II)I -/
def cd_84 : List AI := [
  (.iload_n 1, [], 0), (.invokestatic 99, [10, 1, 0, 1], 0), (.ifCond .ne 5, [5], 0), (.iconst (-1), [], 0), (.ireturn, [], 0), (.iload_n 2, [], 0),
  (.iconst 0, [], 0), (.sipush 999, [], 0), (.invokestatic 95, [9, 3, 0, 1], 0), (.ifCond .ne 6, [12], 0), (.bipush (-2), [], 0), (.ireturn, [], 0),
  (.aload_n 0, [], 0), (.iload_n 1, [], 0), (.iload_n 2, [], 0), (.invokevirtual 244, [81, 3, 9, 1], 0), (.istore_n 3, [], 0), (.iload_n 3, [], 0),
  (.ifCond .lt 10, [22], 0), (.aload_n 0, [], 0), (.getfield 189, [9, 40, 0], 40), (.ifCond .ne 5, [24], 0), (.iload_n 3, [], 0), (.ireturn, [], 0),
  (.aload_n 0, [], 0), (.getfield 195, [9, 39, 0], 39), (.aload_n 0, [], 0), (.getfield 189, [9, 40, 0], 40), (.idiv, [], 0), (.istore 4, [], 0),
  (.aload_n 0, [], 0), (.getfield 195, [9, 39, 0], 39), (.aload_n 0, [], 0), (.getfield 189, [9, 40, 0], 40), (.irem, [], 0), (.istore 5, [], 0),
  (.iconst 0, [], 0), (.istore 6, [], 0), (.iload 4, [], 0), (.ldc 247, [], 8388608), (.if_icmp .ge 38, [61], 0), (.iload 5, [], 0),
  (.iconst 2, [], 0), (.imul, [], 0), (.istore 5, [], 0), (.iconst 2, [], 0), (.iload 4, [], 0), (.imul, [], 0),
  (.iload 5, [], 0), (.aload_n 0, [], 0), (.getfield 189, [9, 40, 0], 40), (.idiv, [], 0), (.iadd, [], 0), (.istore 4, [], 0),
  (.iload 5, [], 0), (.aload_n 0, [], 0), (.getfield 189, [9, 40, 0], 40), (.irem, [], 0), (.istore 5, [], 0), (.iinc 6 (-1), [], 0),
  (.goto (-39), [38], 0), (.iconst 2, [], 0), (.iload 5, [], 0), (.imul, [], 0), (.aload_n 0, [], 0), (.getfield 189, [9, 40, 0], 40),
  (.if_icmp .gt 22, [78], 0), (.iconst 2, [], 0), (.iload 5, [], 0), (.imul, [], 0), (.aload_n 0, [], 0), (.getfield 189, [9, 40, 0], 40),
  (.if_icmp .ne 14, [79], 0), (.iload 4, [], 0), (.iconst 2, [], 0), (.irem, [], 0), (.iconst 1, [], 0), (.if_icmp .ne 6, [79], 0),
  (.iinc 4 1, [], 0), (.iload 4, [], 0), (.ldc 248, [], 16777216), (.if_icmp .ne 12, [87], 0), (.iload 4, [], 0), (.iconst 2, [], 0),
  (.idiv, [], 0), (.istore 4, [], 0), (.iinc 6 1, [], 0), (.iload 6, [], 0), (.bipush 23, [], 0), (.iadd, [], 0),
  (.bipush 127, [], 0), (.iadd, [], 0), (.ldc 247, [], 8388608), (.imul, [], 0), (.iload 4, [], 0), (.iadd, [], 0),
  (.ldc 247, [], 8388608), (.isub, [], 0), (.ireturn, [], 0)
]
def bp_84 : List Nat := [0, 1, 4, 7, 8, 9, 10, 11, 14, 17, 20, 22, 23, 24, 25, 26, 29, 30, 31, 34, 35, 38, 41, 42, 43, 44, 47, 48, 51, 52, 54, 55, 58, 59, 62, 63, 65, 66, 68, 70, 72, 75, 77, 78, 79, 81, 82, 84, 85, 87, 88, 91, 92, 93, 95, 97, 98, 101, 102, 104, 107, 110, 111, 113, 114, 115, 118, 121, 122, 124, 125, 126, 129, 132, 134, 135, 136, 137, 140, 143, 145, 147, 150, 152, 153, 154, 156, 159, 161, 163, 164, 166, 167, 169, 170, 172, 173, 175, 176, 177]
/-- RegionStackModel.image(I)I -/
def cd_85 : List AI := [
  (.iload_n 1, [], 0), (.iconst 0, [], 0), (.iconst 1, [], 0), (.invokestatic 95, [9, 3, 0, 1], 0), (.ifCond .ne 6, [7], 0), (.bipush (-2), [], 0),
  (.ireturn, [], 0), (.sipush 130, [], 0), (.iload_n 1, [], 0), (.imul, [], 0), (.istore_n 2, [], 0), (.iconst 0, [], 0),
  (.istore_n 3, [], 0), (.iload_n 3, [], 0), (.iconst 3, [], 0), (.if_icmp .ge 56, [52], 0), (.aload_n 0, [], 0), (.getfield 89, [9, 41, 2], 41),
  (.iload_n 2, [], 0), (.iload_n 3, [], 0), (.iadd, [], 0), (.aload_n 0, [], 0), (.getfield 7, [9, 0, 2], 0), (.iload_n 3, [], 0),
  (.iaload, [], 0), (.iastore, [], 0), (.aload_n 0, [], 0), (.getfield 89, [9, 41, 2], 41), (.iload_n 2, [], 0), (.iconst 3, [], 0),
  (.iadd, [], 0), (.iload_n 3, [], 0), (.iadd, [], 0), (.aload_n 0, [], 0), (.getfield 13, [9, 1, 2], 1), (.iload_n 3, [], 0),
  (.iaload, [], 0), (.iastore, [], 0), (.aload_n 0, [], 0), (.getfield 89, [9, 41, 2], 41), (.iload_n 2, [], 0), (.bipush 6, [], 0),
  (.iadd, [], 0), (.iload_n 3, [], 0), (.iadd, [], 0), (.aload_n 0, [], 0), (.getfield 16, [9, 2, 2], 2), (.iload_n 3, [], 0),
  (.iaload, [], 0), (.iastore, [], 0), (.iinc 3 1, [], 0), (.goto (-55), [13], 0), (.iconst 0, [], 0), (.istore_n 3, [], 0),
  (.iload_n 3, [], 0), (.bipush 120, [], 0), (.if_icmp .ge 26, [71], 0), (.aload_n 0, [], 0), (.getfield 89, [9, 41, 2], 41), (.iload_n 2, [], 0),
  (.bipush 9, [], 0), (.iadd, [], 0), (.iload_n 3, [], 0), (.iadd, [], 0), (.aload_n 0, [], 0), (.getfield 19, [9, 3, 2], 3),
  (.iload_n 3, [], 0), (.iaload, [], 0), (.iastore, [], 0), (.iinc 3 1, [], 0), (.goto (-26), [54], 0), (.aload_n 0, [], 0),
  (.getfield 92, [9, 42, 2], 42), (.iload_n 1, [], 0), (.iconst 1, [], 0), (.bastore, [], 0), (.iconst 1, [], 0), (.ireturn, [], 0)
]
def bp_85 : List Nat := [0, 1, 2, 3, 6, 9, 11, 12, 15, 16, 17, 18, 19, 20, 21, 22, 25, 26, 29, 30, 31, 32, 33, 36, 37, 38, 39, 40, 43, 44, 45, 46, 47, 48, 49, 52, 53, 54, 55, 56, 59, 60, 62, 63, 64, 65, 66, 69, 70, 71, 72, 75, 78, 79, 80, 81, 83, 86, 87, 90, 91, 93, 94, 95, 96, 97, 100, 101, 102, 103, 106, 109, 110, 113, 114, 115, 116, 117, 118]
/-- RegionStackModel.restore(I)I -/
def cd_86 : List AI := [
  (.iload_n 1, [], 0), (.iconst 0, [], 0), (.iconst 1, [], 0), (.invokestatic 95, [9, 3, 0, 1], 0), (.ifCond .ne 6, [7], 0), (.bipush (-2), [], 0),
  (.ireturn, [], 0), (.aload_n 0, [], 0), (.getfield 92, [9, 42, 2], 42), (.iload_n 1, [], 0), (.baload, [], 0), (.ifCond .ne 6, [14], 0),
  (.bipush (-3), [], 0), (.ireturn, [], 0), (.sipush 130, [], 0), (.iload_n 1, [], 0), (.imul, [], 0), (.istore_n 2, [], 0),
  (.iconst 0, [], 0), (.istore_n 3, [], 0), (.iload_n 3, [], 0), (.iconst 3, [], 0), (.if_icmp .ge 56, [59], 0), (.aload_n 0, [], 0),
  (.getfield 7, [9, 0, 2], 0), (.iload_n 3, [], 0), (.aload_n 0, [], 0), (.getfield 89, [9, 41, 2], 41), (.iload_n 2, [], 0), (.iload_n 3, [], 0),
  (.iadd, [], 0), (.iaload, [], 0), (.iastore, [], 0), (.aload_n 0, [], 0), (.getfield 13, [9, 1, 2], 1), (.iload_n 3, [], 0),
  (.aload_n 0, [], 0), (.getfield 89, [9, 41, 2], 41), (.iload_n 2, [], 0), (.iconst 3, [], 0), (.iadd, [], 0), (.iload_n 3, [], 0),
  (.iadd, [], 0), (.iaload, [], 0), (.iastore, [], 0), (.aload_n 0, [], 0), (.getfield 16, [9, 2, 2], 2), (.iload_n 3, [], 0),
  (.aload_n 0, [], 0), (.getfield 89, [9, 41, 2], 41), (.iload_n 2, [], 0), (.bipush 6, [], 0), (.iadd, [], 0), (.iload_n 3, [], 0),
  (.iadd, [], 0), (.iaload, [], 0), (.iastore, [], 0), (.iinc 3 1, [], 0), (.goto (-55), [20], 0), (.iconst 0, [], 0),
  (.istore_n 3, [], 0), (.iload_n 3, [], 0), (.bipush 120, [], 0), (.if_icmp .ge 26, [78], 0), (.aload_n 0, [], 0), (.getfield 19, [9, 3, 2], 3),
  (.iload_n 3, [], 0), (.aload_n 0, [], 0), (.getfield 89, [9, 41, 2], 41), (.iload_n 2, [], 0), (.bipush 9, [], 0), (.iadd, [], 0),
  (.iload_n 3, [], 0), (.iadd, [], 0), (.iaload, [], 0), (.iastore, [], 0), (.iinc 3 1, [], 0), (.goto (-26), [61], 0),
  (.iconst 1, [], 0), (.ireturn, [], 0)
]
def bp_86 : List Nat := [0, 1, 2, 3, 6, 9, 11, 12, 13, 16, 17, 18, 21, 23, 24, 27, 28, 29, 30, 31, 32, 33, 34, 37, 38, 41, 42, 43, 46, 47, 48, 49, 50, 51, 52, 55, 56, 57, 60, 61, 62, 63, 64, 65, 66, 67, 68, 71, 72, 73, 76, 77, 79, 80, 81, 82, 83, 84, 87, 90, 91, 92, 93, 95, 98, 99, 102, 103, 104, 107, 108, 110, 111, 112, 113, 114, 115, 118, 121, 122, 123]
/-- RegionStackModel.told(I)I -/
def cd_87 : List AI := [
  (.iload_n 1, [], 0), (.bipush 100, [], 0), (.if_icmp .lt 49, [33], 0), (.iload_n 1, [], 0), (.bipush 100, [], 0), (.idiv, [], 0),
  (.iconst 1, [], 0), (.isub, [], 0), (.istore_n 2, [], 0), (.iload_n 1, [], 0), (.bipush 100, [], 0), (.irem, [], 0),
  (.istore_n 3, [], 0), (.iload_n 2, [], 0), (.invokestatic 99, [10, 1, 0, 1], 0), (.ifCond .eq 27, [31], 0), (.iload_n 3, [], 0), (.aload_n 0, [], 0),
  (.getfield 16, [9, 2, 2], 2), (.iload_n 2, [], 0), (.iaload, [], 0), (.if_icmp .ge 17, [31], 0), (.aload_n 0, [], 0), (.getfield 19, [9, 3, 2], 3),
  (.bipush 40, [], 0), (.iload_n 2, [], 0), (.imul, [], 0), (.iload_n 3, [], 0), (.iadd, [], 0), (.iaload, [], 0),
  (.goto 5, [32], 0), (.bipush (-2), [], 0), (.ireturn, [], 0), (.iload_n 1, [], 0), (.bipush 10, [], 0), (.if_icmp .lt 37, [57], 0),
  (.iload_n 1, [], 0), (.bipush 13, [], 0), (.if_icmp .ge 28, [55], 0), (.bipush 10, [], 0), (.aload_n 0, [], 0), (.getfield 7, [9, 0, 2], 0),
  (.iload_n 1, [], 0), (.bipush 10, [], 0), (.isub, [], 0), (.iaload, [], 0), (.imul, [], 0), (.aload_n 0, [], 0),
  (.getfield 13, [9, 1, 2], 1), (.iload_n 1, [], 0), (.bipush 10, [], 0), (.isub, [], 0), (.iaload, [], 0), (.iadd, [], 0),
  (.goto 5, [56], 0), (.bipush (-2), [], 0), (.ireturn, [], 0), (.iload_n 1, [], 0), (.invokestatic 99, [10, 1, 0, 1], 0), (.ifCond .eq 12, [65], 0),
  (.aload_n 0, [], 0), (.getfield 16, [9, 2, 2], 2), (.iload_n 1, [], 0), (.iaload, [], 0), (.goto 5, [66], 0), (.bipush (-2), [], 0),
  (.ireturn, [], 0)
]
def bp_87 : List Nat := [0, 1, 3, 6, 7, 9, 10, 11, 12, 13, 14, 16, 17, 18, 19, 22, 25, 26, 27, 30, 31, 32, 35, 36, 39, 41, 42, 43, 44, 45, 46, 49, 51, 52, 53, 55, 58, 59, 61, 64, 66, 67, 70, 71, 73, 74, 75, 76, 77, 80, 81, 83, 84, 85, 86, 89, 91, 92, 93, 96, 99, 100, 103, 104, 105, 108, 110, 111]
/-- RegionStack$Body.<init>()V -/
def cd_88 : List AI := [
  (.aload_n 0, [], 0), (.invokespecial 3, [], 0), (.aload_n 0, [], 0), (.new 9, [], 0), (.dup, [], 0), (.invokespecial 11, [131, 1, 6, 0], 0),
  (.putfield 12, [1, 0, 2], 0), (.aload_n 0, [], 0), (.aload_n 0, [], 0), (.getfield 12, [1, 0, 2], 0), (.getfield 18, [6, 0, 2], 0), (.putfield 22, [1, 1, 2], 1),
  (.aload_n 0, [], 0), (.new 23, [], 0), (.dup, [], 0), (.bipush 42, [], 0), (.invokespecial 25, [111, 2, 3, 0], 0), (.putfield 28, [1, 2, 2], 2),
  (.aload_n 0, [], 0), (.new 23, [], 0), (.dup, [], 0), (.bipush 40, [], 0), (.invokespecial 25, [111, 2, 3, 0], 0), (.putfield 32, [1, 3, 2], 3),
  (.aload_n 0, [], 0), (.new 23, [], 0), (.dup, [], 0), (.bipush 40, [], 0), (.invokespecial 25, [111, 2, 3, 0], 0), (.putfield 35, [1, 4, 2], 4),
  (.aload_n 0, [], 0), (.new 23, [], 0), (.dup, [], 0), (.bipush 42, [], 0), (.invokespecial 25, [111, 2, 3, 0], 0), (.putfield 38, [1, 5, 2], 5),
  (.return_, [], 0)
]
def bp_88 : List Nat := [0, 1, 4, 5, 8, 9, 12, 15, 16, 17, 20, 23, 26, 27, 30, 31, 33, 36, 39, 40, 43, 44, 46, 49, 52, 53, 56, 57, 59, 62, 65, 66, 69, 70, 72, 75, 78, 79]
/-- RegionStack$Body.hasOwn(I)Z -/
def cd_89 : List AI := [
  (.iload_n 1, [], 0), (.iconst 2, [], 0), (.if_icmp .lt 17, [11], 0), (.iload_n 1, [], 0), (.iconst 2, [], 0), (.aload_n 0, [], 0),
  (.getfield 41, [1, 8, 0], 8), (.iadd, [], 0), (.if_icmp .ge 7, [11], 0), (.iconst 1, [], 0), (.goto 4, [12], 0), (.iconst 0, [], 0),
  (.ireturn, [], 0)
]
def bp_89 : List Nat := [0, 1, 2, 5, 6, 7, 8, 11, 12, 15, 16, 19, 20, 21]
/-- RegionStack$Body.joinParts(LRegionStack$Program;)V -/
def cd_90 : List AI := [
  (.iconst 0, [], 0), (.istore_n 2, [], 0), (.iload_n 2, [], 0), (.bipush 42, [], 0), (.if_icmp .ge 18, [12], 0), (.aload_n 0, [], 0),
  (.getfield 28, [1, 2, 2], 2), (.iload_n 2, [], 0), (.iload_n 2, [], 0), (.invokevirtual 45, [1, 3, 3, 0], 0), (.iinc 2 1, [], 0), (.goto (-18), [2], 0),
  (.iconst 0, [], 0), (.istore_n 2, [], 0), (.iload_n 2, [], 0), (.aload_n 0, [], 0), (.getfield 22, [1, 1, 2], 1), (.getfield 49, [7, 1, 0], 1),
  (.if_icmp .ge 30, [32], 0), (.aload_n 0, [], 0), (.getfield 12, [1, 0, 2], 0), (.getfield 54, [6, 1, 2], 1), (.iload_n 2, [], 0), (.invokevirtual 57, [0, 2, 3, 1], 0),
  (.iconst 1, [], 0), (.if_icmp .ne 9, [30], 0), (.aload_n 0, [], 0), (.aload_n 1, [], 0), (.iload_n 2, [], 0), (.invokevirtual 61, [91, 3, 1, 0], 0),
  (.iinc 2 1, [], 0), (.goto (-35), [14], 0), (.aload_n 0, [], 0), (.getfield 22, [1, 1, 2], 1), (.getfield 65, [7, 3, 0], 3), (.iconst 1, [], 0),
  (.if_icmp .ne 10, [41], 0), (.aload_n 0, [], 0), (.iconst 0, [], 0), (.bipush 41, [], 0), (.invokevirtual 68, [92, 3, 1, 0], 0), (.aload_n 0, [], 0),
  (.aload_n 0, [], 0), (.getfield 28, [1, 2, 2], 2), (.bipush 40, [], 0), (.invokevirtual 57, [0, 2, 3, 1], 0), (.aload_n 0, [], 0), (.getfield 28, [1, 2, 2], 2),
  (.bipush 41, [], 0), (.invokevirtual 57, [0, 2, 3, 1], 0), (.if_icmp .ne 7, [53], 0), (.iconst 1, [], 0), (.goto 4, [54], 0), (.iconst 0, [], 0),
  (.putfield 71, [1, 6, 1], 6), (.return_, [], 0)
]
def bp_90 : List Nat := [0, 1, 2, 3, 5, 8, 9, 12, 13, 14, 17, 20, 23, 24, 25, 26, 27, 30, 33, 36, 37, 40, 43, 44, 47, 48, 51, 52, 53, 54, 57, 60, 63, 64, 67, 70, 71, 74, 75, 76, 78, 81, 82, 83, 86, 88, 91, 92, 95, 97, 100, 103, 104, 107, 108, 111, 112]
/-- RegionStack$Body.joinPart(LRegionStack$Program;I)V -/
def cd_91 : List AI := [
  (.aload_n 0, [], 0), (.getfield 12, [1, 0, 2], 0), (.getfield 75, [6, 2, 2], 2), (.iload_n 2, [], 0), (.invokevirtual 57, [0, 2, 3, 1], 0), (.lookupswitch 154 #[(63, 79), (64, 110), (108, 62), (110, 49), (120, 52)], [60, 21, 38, 12, 6, 7], 0),
  (.goto 126, [71], 0), (.aload_n 0, [], 0), (.iload_n 2, [], 0), (.bipush 40, [], 0), (.invokevirtual 68, [92, 3, 1, 0], 0), (.goto 116, [71], 0),
  (.aload_n 0, [], 0), (.iload_n 2, [], 0), (.aload_n 0, [], 0), (.getfield 12, [1, 0, 2], 0), (.iload_n 2, [], 0), (.iconst 1, [], 0),
  (.invokevirtual 78, [19, 3, 6, 1], 0), (.invokevirtual 68, [92, 3, 1, 0], 0), (.goto 99, [71], 0), (.aload_n 0, [], 0), (.iload_n 2, [], 0), (.aload_n 0, [], 0),
  (.getfield 12, [1, 0, 2], 0), (.iload_n 2, [], 0), (.iconst 1, [], 0), (.invokevirtual 78, [19, 3, 6, 1], 0), (.invokevirtual 68, [92, 3, 1, 0], 0), (.aload_n 0, [], 0),
  (.iload_n 2, [], 0), (.aload_n 0, [], 0), (.getfield 12, [1, 0, 2], 0), (.iload_n 2, [], 0), (.iconst 2, [], 0), (.invokevirtual 78, [19, 3, 6, 1], 0),
  (.invokevirtual 68, [92, 3, 1, 0], 0), (.goto 68, [71], 0), (.aload_n 1, [], 0), (.aload_n 0, [], 0), (.getfield 12, [1, 0, 2], 0), (.getfield 82, [6, 3, 2], 3),
  (.iload_n 2, [], 0), (.invokevirtual 57, [0, 2, 3, 1], 0), (.invokevirtual 85, [15, 2, 2, 2], 0), (.astore_n 3, [], 0), (.aload_n 3, [], 0), (.ifnull 48, [71], 0),
  (.aload_n 3, [], 0), (.getfield 71, [1, 6, 1], 6), (.ifCond .eq 41, [71], 0), (.aload_n 0, [], 0), (.iload_n 2, [], 0), (.aload_n 0, [], 0),
  (.getfield 12, [1, 0, 2], 0), (.iload_n 2, [], 0), (.iconst 0, [], 0), (.invokevirtual 78, [19, 3, 6, 1], 0), (.invokevirtual 68, [92, 3, 1, 0], 0), (.goto 24, [71], 0),
  (.aload_n 0, [], 0), (.iload_n 2, [], 0), (.aload_n 0, [], 0), (.getfield 12, [1, 0, 2], 0), (.aload_n 0, [], 0), (.getfield 12, [1, 0, 2], 0),
  (.iload_n 2, [], 0), (.invokevirtual 91, [20, 2, 6, 1], 0), (.iconst 0, [], 0), (.invokevirtual 78, [19, 3, 6, 1], 0), (.invokevirtual 68, [92, 3, 1, 0], 0), (.return_, [], 0)
]
def bp_91 : List Nat := [0, 1, 4, 7, 8, 11, 60, 63, 64, 65, 67, 70, 73, 74, 75, 76, 79, 80, 81, 84, 87, 90, 91, 92, 93, 96, 97, 98, 101, 104, 105, 106, 107, 110, 111, 112, 115, 118, 121, 122, 123, 126, 129, 130, 133, 136, 137, 138, 141, 142, 145, 148, 149, 150, 151, 154, 155, 156, 159, 162, 165, 166, 167, 168, 171, 172, 175, 176, 179, 180, 183, 186, 187]
/-- RegionStack$Body.join(II)V -/
def cd_92 : List AI := [
  (.aload_n 0, [], 0), (.getfield 28, [1, 2, 2], 2), (.iload_n 1, [], 0), (.invokevirtual 57, [0, 2, 3, 1], 0), (.istore_n 3, [], 0), (.aload_n 0, [], 0),
  (.getfield 28, [1, 2, 2], 2), (.iload_n 2, [], 0), (.invokevirtual 57, [0, 2, 3, 1], 0), (.istore 4, [], 0), (.iconst 0, [], 0), (.istore 5, [], 0),
  (.iload 5, [], 0), (.bipush 42, [], 0), (.if_icmp .ge 33, [28], 0), (.aload_n 0, [], 0), (.getfield 28, [1, 2, 2], 2), (.iload 5, [], 0),
  (.invokevirtual 57, [0, 2, 3, 1], 0), (.iload 4, [], 0), (.if_icmp .ne 13, [26], 0), (.aload_n 0, [], 0), (.getfield 28, [1, 2, 2], 2), (.iload 5, [], 0),
  (.iload_n 3, [], 0), (.invokevirtual 45, [1, 3, 3, 0], 0), (.iinc 5 1, [], 0), (.goto (-34), [12], 0), (.return_, [], 0)
]
def bp_92 : List Nat := [0, 1, 4, 5, 8, 9, 10, 13, 14, 17, 19, 20, 22, 24, 26, 29, 30, 33, 35, 38, 40, 43, 44, 47, 49, 50, 53, 56, 59, 60]
/-- RegionStack$Body.numberParts()V -/
def cd_93 : List AI := [
  (.aload_n 0, [], 0), (.iconst 0, [], 0), (.putfield 41, [1, 8, 0], 8), (.iconst 0, [], 0), (.istore_n 1, [], 0), (.iload_n 1, [], 0),
  (.aload_n 0, [], 0), (.getfield 22, [1, 1, 2], 1), (.getfield 49, [7, 1, 0], 1), (.if_icmp .ge 52, [34], 0), (.aload_n 0, [], 0), (.getfield 12, [1, 0, 2], 0),
  (.getfield 54, [6, 1, 2], 1), (.iload_n 1, [], 0), (.invokevirtual 57, [0, 2, 3, 1], 0), (.iconst 1, [], 0), (.if_icmp .ne 7, [19], 0), (.iconst 1, [], 0),
  (.goto 4, [20], 0), (.iconst 0, [], 0), (.istore_n 2, [], 0), (.aload_n 0, [], 0), (.getfield 32, [1, 3, 2], 3), (.iload_n 1, [], 0),
  (.iload_n 2, [], 0), (.ifCond .eq 11, [30], 0), (.aload_n 0, [], 0), (.iload_n 1, [], 0), (.invokevirtual 94, [94, 2, 1, 1], 0), (.goto 5, [31], 0),
  (.bipush (-6), [], 0), (.invokevirtual 45, [1, 3, 3, 0], 0), (.iinc 1 1, [], 0), (.goto (-57), [5], 0), (.iconst 0, [], 0), (.istore_n 1, [], 0),
  (.iload_n 1, [], 0), (.aload_n 0, [], 0), (.getfield 22, [1, 1, 2], 1), (.getfield 49, [7, 1, 0], 1), (.if_icmp .ge 65, [70], 0), (.aload_n 0, [], 0),
  (.getfield 12, [1, 0, 2], 0), (.getfield 75, [6, 2, 2], 2), (.iload_n 1, [], 0), (.invokevirtual 57, [0, 2, 3, 1], 0), (.invokestatic 97, [8, 1, 0, 1], 0), (.ifCond .le 7, [50], 0),
  (.iconst 1, [], 0), (.goto 4, [51], 0), (.iconst 0, [], 0), (.istore_n 2, [], 0), (.aload_n 0, [], 0), (.getfield 35, [1, 4, 2], 4),
  (.iload_n 1, [], 0), (.iload_n 2, [], 0), (.ifCond .eq 22, [66], 0), (.aload_n 0, [], 0), (.getfield 32, [1, 3, 2], 3), (.aload_n 0, [], 0),
  (.getfield 12, [1, 0, 2], 0), (.iload_n 1, [], 0), (.iconst 0, [], 0), (.invokevirtual 78, [19, 3, 6, 1], 0), (.invokevirtual 57, [0, 2, 3, 1], 0), (.goto 5, [67], 0),
  (.bipush (-6), [], 0), (.invokevirtual 45, [1, 3, 3, 0], 0), (.iinc 1 1, [], 0), (.goto (-70), [36], 0), (.return_, [], 0)
]
def bp_93 : List Nat := [0, 1, 2, 5, 6, 7, 8, 9, 12, 15, 18, 19, 22, 25, 26, 29, 30, 33, 34, 37, 38, 39, 40, 43, 44, 45, 48, 49, 50, 53, 56, 58, 61, 64, 67, 68, 69, 70, 71, 74, 77, 80, 81, 84, 87, 88, 91, 94, 97, 98, 101, 102, 103, 104, 107, 108, 109, 112, 113, 116, 117, 120, 121, 122, 125, 128, 131, 133, 136, 139, 142, 143]
/-- RegionStack$Body.findNumber(I)I -/
def cd_94 : List AI := [
  (.aload_n 0, [], 0), (.getfield 28, [1, 2, 2], 2), (.iload_n 1, [], 0), (.invokevirtual 57, [0, 2, 3, 1], 0), (.istore_n 2, [], 0), (.iload_n 2, [], 0),
  (.aload_n 0, [], 0), (.getfield 28, [1, 2, 2], 2), (.bipush 40, [], 0), (.invokevirtual 57, [0, 2, 3, 1], 0), (.if_icmp .ne 5, [13], 0), (.iconst 0, [], 0),
  (.ireturn, [], 0), (.iload_n 2, [], 0), (.aload_n 0, [], 0), (.getfield 28, [1, 2, 2], 2), (.bipush 41, [], 0), (.invokevirtual 57, [0, 2, 3, 1], 0),
  (.if_icmp .ne 5, [21], 0), (.iconst 1, [], 0), (.ireturn, [], 0), (.iconst 0, [], 0), (.istore_n 3, [], 0), (.iload_n 3, [], 0),
  (.iload_n 1, [], 0), (.if_icmp .ge 43, [45], 0), (.aload_n 0, [], 0), (.getfield 32, [1, 3, 2], 3), (.iload_n 3, [], 0), (.invokevirtual 57, [0, 2, 3, 1], 0),
  (.bipush (-6), [], 0), (.if_icmp .eq 24, [43], 0), (.aload_n 0, [], 0), (.getfield 28, [1, 2, 2], 2), (.iload_n 3, [], 0), (.invokevirtual 57, [0, 2, 3, 1], 0),
  (.iload_n 2, [], 0), (.if_icmp .ne 12, [43], 0), (.aload_n 0, [], 0), (.getfield 32, [1, 3, 2], 3), (.iload_n 3, [], 0), (.invokevirtual 57, [0, 2, 3, 1], 0),
  (.ireturn, [], 0), (.iinc 3 1, [], 0), (.goto (-42), [23], 0), (.aload_n 0, [], 0), (.dup, [], 0), (.getfield 41, [1, 8, 0], 8),
  (.iconst 1, [], 0), (.iadd, [], 0), (.putfield 41, [1, 8, 0], 8), (.iconst 2, [], 0), (.aload_n 0, [], 0), (.getfield 41, [1, 8, 0], 8),
  (.iadd, [], 0), (.iconst 1, [], 0), (.isub, [], 0), (.ireturn, [], 0)
]
def bp_94 : List Nat := [0, 1, 4, 5, 8, 9, 10, 11, 14, 16, 19, 22, 23, 24, 25, 26, 29, 31, 34, 37, 38, 39, 40, 41, 42, 43, 46, 47, 50, 51, 54, 56, 59, 60, 63, 64, 67, 68, 71, 72, 75, 76, 79, 80, 83, 86, 87, 88, 91, 92, 93, 96, 97, 98, 101, 102, 103, 104, 105]
/-- RegionStack$Body.findEffect(LRegionStack$Program;)I -/
def cd_95 : List AI := [
  (.aload_n 0, [], 0), (.getfield 71, [1, 6, 1], 6), (.ifCond .eq 7, [5], 0), (.iconst 0, [], 0), (.goto 4, [6], 0), (.iconst 1, [], 0),
  (.istore_n 2, [], 0), (.iconst 0, [], 0), (.istore_n 3, [], 0), (.iconst 0, [], 0), (.istore 4, [], 0), (.iload 4, [], 0),
  (.aload_n 0, [], 0), (.getfield 22, [1, 1, 2], 1), (.getfield 49, [7, 1, 0], 1), (.if_icmp .ge 86, [66], 0), (.iload_n 3, [], 0), (.aload_n 0, [], 0),
  (.aload_n 1, [], 0), (.iload 4, [], 0), (.iconst 0, [], 0), (.invokevirtual 100, [99, 4, 1, 1], 0), (.ifCond .eq 7, [25], 0), (.iconst 1, [], 0),
  (.goto 4, [26], 0), (.iconst 0, [], 0), (.ior, [], 0), (.istore_n 3, [], 0), (.iload_n 3, [], 0), (.aload_n 0, [], 0),
  (.aload_n 1, [], 0), (.iload 4, [], 0), (.iconst 0, [], 0), (.invokevirtual 104, [100, 4, 1, 1], 0), (.ifCond .eq 7, [37], 0), (.iconst 2, [], 0),
  (.goto 4, [38], 0), (.iconst 0, [], 0), (.ior, [], 0), (.istore_n 3, [], 0), (.iload_n 3, [], 0), (.aload_n 0, [], 0),
  (.aload_n 1, [], 0), (.iload 4, [], 0), (.iload_n 2, [], 0), (.invokevirtual 100, [99, 4, 1, 1], 0), (.ifCond .eq 7, [49], 0), (.iconst 4, [], 0),
  (.goto 4, [50], 0), (.iconst 0, [], 0), (.ior, [], 0), (.istore_n 3, [], 0), (.iload_n 3, [], 0), (.aload_n 0, [], 0),
  (.aload_n 1, [], 0), (.iload 4, [], 0), (.iload_n 2, [], 0), (.invokevirtual 104, [100, 4, 1, 1], 0), (.ifCond .eq 8, [61], 0), (.bipush 8, [], 0),
  (.goto 4, [62], 0), (.iconst 0, [], 0), (.ior, [], 0), (.istore_n 3, [], 0), (.iinc 4 1, [], 0), (.goto (-92), [11], 0),
  (.iload_n 3, [], 0), (.ireturn, [], 0)
]
def bp_95 : List Nat := [0, 1, 4, 7, 8, 11, 12, 13, 14, 15, 16, 18, 20, 21, 24, 27, 30, 31, 32, 33, 35, 36, 39, 42, 43, 46, 47, 48, 49, 50, 51, 52, 54, 55, 58, 61, 62, 65, 66, 67, 68, 69, 70, 71, 73, 74, 77, 80, 81, 84, 85, 86, 87, 88, 89, 90, 92, 93, 96, 99, 101, 104, 105, 106, 107, 110, 113, 114, 115]
/-- RegionStack$Body.findHomes()V -/
def cd_96 : List AI := [
  (.iconst 2, [], 0), (.istore_n 1, [], 0), (.iload_n 1, [], 0), (.iconst 2, [], 0), (.aload_n 0, [], 0), (.getfield 41, [1, 8, 0], 8),
  (.iadd, [], 0), (.if_icmp .ge 69, [42], 0), (.bipush (-6), [], 0), (.istore_n 2, [], 0), (.iconst 0, [], 0), (.istore_n 3, [], 0),
  (.iload_n 3, [], 0), (.aload_n 0, [], 0), (.getfield 22, [1, 1, 2], 1), (.getfield 49, [7, 1, 0], 1), (.if_icmp .ge 38, [35], 0), (.aload_n 0, [], 0),
  (.iload_n 3, [], 0), (.iload_n 1, [], 0), (.invokevirtual 107, [98, 3, 1, 1], 0), (.ifCond .eq 23, [33], 0), (.iload_n 2, [], 0), (.bipush (-6), [], 0),
  (.if_icmp .ne 7, [27], 0), (.iload_n 3, [], 0), (.goto 12, [32], 0), (.aload_n 0, [], 0), (.getfield 12, [1, 0, 2], 0), (.iload_n 2, [], 0),
  (.iload_n 3, [], 0), (.invokevirtual 111, [132, 3, 6, 1], 0), (.istore_n 2, [], 0), (.iinc 3 1, [], 0), (.goto (-43), [12], 0), (.aload_n 0, [], 0),
  (.getfield 38, [1, 5, 2], 5), (.iload_n 1, [], 0), (.iload_n 2, [], 0), (.invokevirtual 45, [1, 3, 3, 0], 0), (.iinc 1 1, [], 0), (.goto (-73), [2], 0),
  (.return_, [], 0)
]
def bp_96 : List Nat := [0, 1, 2, 3, 4, 5, 8, 9, 12, 14, 15, 16, 17, 18, 19, 22, 25, 28, 29, 30, 31, 34, 37, 38, 40, 43, 44, 47, 48, 51, 52, 53, 56, 57, 60, 63, 64, 67, 68, 69, 72, 75, 78, 79]
/-- RegionStack$Body.countOf(LRegionStack$Program;II)I -/
def cd_97 : List AI := [
  (.iconst 0, [], 0), (.istore 4, [], 0), (.iconst 0, [], 0), (.istore 5, [], 0), (.iload 5, [], 0), (.aload_n 0, [], 0),
  (.getfield 22, [1, 1, 2], 1), (.getfield 49, [7, 1, 0], 1), (.if_icmp .ge 64, [41], 0), (.iload_n 3, [], 0), (.ifCond .ne 13, [16], 0), (.aload_n 0, [], 0),
  (.iload 5, [], 0), (.iload_n 2, [], 0), (.invokevirtual 107, [98, 3, 1, 1], 0), (.goto 27, [30], 0), (.iload_n 3, [], 0), (.iconst 1, [], 0),
  (.if_icmp .ne 14, [25], 0), (.aload_n 0, [], 0), (.aload_n 1, [], 0), (.iload 5, [], 0), (.iload_n 2, [], 0), (.invokevirtual 100, [99, 4, 1, 1], 0),
  (.goto 11, [30], 0), (.aload_n 0, [], 0), (.aload_n 1, [], 0), (.iload 5, [], 0), (.iload_n 2, [], 0), (.invokevirtual 104, [100, 4, 1, 1], 0),
  (.istore 6, [], 0), (.iload 4, [], 0), (.iload 6, [], 0), (.ifCond .eq 7, [36], 0), (.iconst 1, [], 0), (.goto 4, [37], 0),
  (.iconst 0, [], 0), (.iadd, [], 0), (.istore 4, [], 0), (.iinc 5 1, [], 0), (.goto (-70), [4], 0), (.iload 4, [], 0),
  (.ireturn, [], 0)
]
def bp_97 : List Nat := [0, 1, 3, 4, 6, 8, 9, 12, 15, 18, 19, 22, 23, 25, 26, 29, 32, 33, 34, 37, 38, 39, 41, 42, 45, 48, 49, 50, 52, 53, 56, 58, 60, 62, 65, 66, 69, 70, 71, 73, 76, 79, 81, 82]
/-- RegionStack$Body.touchesIt(II)Z -/
def cd_98 : List AI := [
  (.aload_n 0, [], 0), (.getfield 12, [1, 0, 2], 0), (.getfield 75, [6, 2, 2], 2), (.iload_n 1, [], 0), (.invokevirtual 57, [0, 2, 3, 1], 0), (.istore_n 3, [], 0),
  (.iload_n 3, [], 0), (.bipush 42, [], 0), (.if_icmp .eq 9, [12], 0), (.iload_n 3, [], 0), (.bipush 64, [], 0), (.if_icmp .ne 7, [14], 0),
  (.iconst 1, [], 0), (.goto 4, [15], 0), (.iconst 0, [], 0), (.istore 4, [], 0), (.aload_n 0, [], 0), (.getfield 32, [1, 3, 2], 3),
  (.iload_n 1, [], 0), (.invokevirtual 57, [0, 2, 3, 1], 0), (.iload_n 2, [], 0), (.if_icmp .eq 20, [30], 0), (.iload 4, [], 0), (.ifCond .eq 19, [32], 0),
  (.aload_n 0, [], 0), (.getfield 35, [1, 4, 2], 4), (.iload_n 1, [], 0), (.invokevirtual 57, [0, 2, 3, 1], 0), (.iload_n 2, [], 0), (.if_icmp .ne 7, [32], 0),
  (.iconst 1, [], 0), (.goto 4, [33], 0), (.iconst 0, [], 0), (.ireturn, [], 0)
]
def bp_98 : List Nat := [0, 1, 4, 7, 8, 11, 12, 13, 15, 18, 19, 21, 24, 25, 28, 29, 31, 32, 35, 36, 39, 40, 43, 45, 48, 49, 52, 53, 56, 57, 60, 61, 64, 65, 66]
/-- RegionStack$Body.putsInto(LRegionStack$Program;II)Z -/
def cd_99 : List AI := [
  (.aload_n 0, [], 0), (.getfield 12, [1, 0, 2], 0), (.getfield 75, [6, 2, 2], 2), (.iload_n 2, [], 0), (.invokevirtual 57, [0, 2, 3, 1], 0), (.istore 4, [], 0),
  (.iload 4, [], 0), (.bipush 110, [], 0), (.if_icmp .ne 21, [19], 0), (.aload_n 0, [], 0), (.getfield 32, [1, 3, 2], 3), (.iload_n 2, [], 0),
  (.invokevirtual 57, [0, 2, 3, 1], 0), (.iload_n 3, [], 0), (.if_icmp .ne 7, [17], 0), (.iconst 1, [], 0), (.goto 4, [18], 0), (.iconst 0, [], 0),
  (.ireturn, [], 0), (.iload 4, [], 0), (.bipush 64, [], 0), (.if_icmp .ne 19, [32], 0), (.aload_n 0, [], 0), (.aload_n 1, [], 0),
  (.iload_n 2, [], 0), (.iload_n 3, [], 0), (.iconst 1, [], 0), (.iconst 4, [], 0), (.invokevirtual 114, [101, 6, 1, 1], 0), (.ifCond .eq 7, [32], 0),
  (.iconst 1, [], 0), (.goto 4, [33], 0), (.iconst 0, [], 0), (.ireturn, [], 0)
]
def bp_99 : List Nat := [0, 1, 4, 7, 8, 11, 13, 15, 17, 20, 21, 24, 25, 28, 29, 32, 33, 36, 37, 38, 40, 42, 45, 46, 47, 48, 49, 50, 51, 54, 57, 58, 61, 62, 63]
/-- RegionStack$Body.looksInto(LRegionStack$Program;II)Z -/
def cd_100 : List AI := [
  (.aload_n 0, [], 0), (.getfield 12, [1, 0, 2], 0), (.getfield 75, [6, 2, 2], 2), (.iload_n 2, [], 0), (.invokevirtual 57, [0, 2, 3, 1], 0), (.istore 4, [], 0),
  (.iload 4, [], 0), (.bipush 42, [], 0), (.if_icmp .ne 21, [19], 0), (.aload_n 0, [], 0), (.getfield 35, [1, 4, 2], 4), (.iload_n 2, [], 0),
  (.invokevirtual 57, [0, 2, 3, 1], 0), (.iload_n 3, [], 0), (.if_icmp .ne 7, [17], 0), (.iconst 1, [], 0), (.goto 4, [18], 0), (.iconst 0, [], 0),
  (.ireturn, [], 0), (.iload 4, [], 0), (.bipush 64, [], 0), (.if_icmp .ne 20, [32], 0), (.aload_n 0, [], 0), (.aload_n 1, [], 0),
  (.iload_n 2, [], 0), (.iload_n 3, [], 0), (.iconst 2, [], 0), (.bipush 8, [], 0), (.invokevirtual 114, [101, 6, 1, 1], 0), (.ifCond .eq 7, [32], 0),
  (.iconst 1, [], 0), (.goto 4, [33], 0), (.iconst 0, [], 0), (.ireturn, [], 0)
]
def bp_100 : List Nat := [0, 1, 4, 7, 8, 11, 13, 15, 17, 20, 21, 24, 25, 28, 29, 32, 33, 36, 37, 38, 40, 42, 45, 46, 47, 48, 49, 50, 52, 55, 58, 59, 62, 63, 64]
/-- RegionStack$Body.callDoes(LRegionStack$Program;IIII)Z -/
def cd_101 : List AI := [
  (.aload_n 1, [], 0), (.aload_n 0, [], 0), (.getfield 12, [1, 0, 2], 0), (.getfield 82, [6, 3, 2], 3), (.iload_n 2, [], 0), (.invokevirtual 57, [0, 2, 3, 1], 0),
  (.invokevirtual 85, [15, 2, 2, 2], 0), (.astore 6, [], 0), (.aload 6, [], 0), (.ifnonnull 5, [12], 0), (.iconst 0, [], 0), (.ireturn, [], 0),
  (.aload 6, [], 0), (.getfield 118, [1, 7, 0], 7), (.istore 7, [], 0), (.iload 7, [], 0), (.iload 4, [], 0), (.iand, [], 0),
  (.ifCond .eq 15, [25], 0), (.aload_n 0, [], 0), (.getfield 35, [1, 4, 2], 4), (.iload_n 2, [], 0), (.invokevirtual 57, [0, 2, 3, 1], 0), (.iload_n 3, [], 0),
  (.if_icmp .eq 23, [35], 0), (.iload 7, [], 0), (.iload 5, [], 0), (.iand, [], 0), (.ifCond .eq 19, [37], 0), (.aload_n 0, [], 0),
  (.getfield 32, [1, 3, 2], 3), (.iload_n 2, [], 0), (.invokevirtual 57, [0, 2, 3, 1], 0), (.iload_n 3, [], 0), (.if_icmp .ne 7, [37], 0), (.iconst 1, [], 0),
  (.goto 4, [38], 0), (.iconst 0, [], 0), (.ireturn, [], 0)
]
def bp_101 : List Nat := [0, 1, 2, 5, 8, 9, 12, 15, 17, 19, 22, 23, 24, 26, 29, 31, 33, 35, 36, 39, 40, 43, 44, 47, 48, 51, 53, 55, 56, 59, 60, 63, 64, 67, 68, 71, 72, 75, 76, 77]
/-- RegionStack$Program.<init>()V -/
def cd_102 : List AI := [
  (.aload_n 0, [], 0), (.invokespecial 3, [], 0), (.aload_n 0, [], 0), (.iconst 3, [], 0), (.anewarray 9, [], 0), (.putfield 11, [2, 0, 2], 0),
  (.aload_n 0, [], 0), (.bipush (-6), [], 0), (.putfield 17, [2, 2, 0], 2), (.iconst 0, [], 0), (.istore_n 1, [], 0), (.iload_n 1, [], 0),
  (.aload_n 0, [], 0), (.getfield 11, [2, 0, 2], 0), (.arraylength, [], 0), (.if_icmp .ge 22, [25], 0), (.aload_n 0, [], 0), (.getfield 11, [2, 0, 2], 0),
  (.iload_n 1, [], 0), (.new 9, [], 0), (.dup, [], 0), (.invokespecial 21, [88, 1, 1, 0], 0), (.aastore, [], 0), (.iinc 1 1, [], 0),
  (.goto (-25), [11], 0), (.return_, [], 0)
]
def bp_102 : List Nat := [0, 1, 4, 5, 6, 9, 12, 13, 15, 18, 19, 20, 21, 22, 25, 26, 29, 30, 33, 34, 37, 38, 41, 42, 45, 48, 49]
/-- RegionStack$Program.kindsChanged()V -/
def cd_103 : List AI := [
  (.aload_n 0, [], 0), (.dup, [], 0), (.getfield 22, [2, 1, 0], 1), (.iconst 1, [], 0), (.iadd, [], 0), (.putfield 22, [2, 1, 0], 1),
  (.iconst 0, [], 0), (.istore_n 1, [], 0), (.iload_n 1, [], 0), (.aload_n 0, [], 0), (.getfield 11, [2, 0, 2], 0), (.arraylength, [], 0),
  (.if_icmp .ge 73, [48], 0), (.aload_n 0, [], 0), (.getfield 11, [2, 0, 2], 0), (.iload_n 1, [], 0), (.aaload, [], 0), (.getfield 25, [1, 0, 2], 0),
  (.astore_n 2, [], 0), (.iconst 0, [], 0), (.istore_n 3, [], 0), (.aload_n 2, [], 0), (.getfield 29, [6, 9, 0], 9), (.bipush (-6), [], 0),
  (.if_icmp .ne 46, [46], 0), (.iload_n 3, [], 0), (.aload_n 2, [], 0), (.getfield 34, [6, 0, 2], 0), (.getfield 38, [7, 1, 0], 1), (.if_icmp .ge 35, [46], 0),
  (.aload_n 2, [], 0), (.getfield 43, [6, 1, 2], 1), (.iload_n 3, [], 0), (.aload_n 2, [], 0), (.iload_n 3, [], 0), (.invokevirtual 47, [18, 2, 6, 1], 0),
  (.ifCond .eq 12, [42], 0), (.aload_n 0, [], 0), (.aload_n 2, [], 0), (.iload_n 3, [], 0), (.invokevirtual 51, [104, 3, 2, 1], 0), (.goto 4, [43], 0),
  (.iconst 0, [], 0), (.invokevirtual 55, [1, 3, 3, 0], 0), (.iinc 3 1, [], 0), (.goto (-49), [21], 0), (.iinc 1 1, [], 0), (.goto (-76), [8], 0),
  (.return_, [], 0)
]
def bp_103 : List Nat := [0, 1, 2, 5, 6, 7, 10, 11, 12, 13, 14, 17, 18, 21, 22, 25, 26, 27, 30, 31, 32, 33, 34, 37, 39, 42, 43, 44, 47, 50, 53, 54, 57, 58, 59, 60, 63, 66, 67, 68, 69, 72, 75, 76, 79, 82, 85, 88, 91, 92]
/-- RegionStack$Program.findKind(LRegionStack$Term;I)I -/
def cd_104 : List AI := [
  (.iload_n 2, [], 0), (.istore_n 3, [], 0), (.iconst 0, [], 0), (.istore 4, [], 0), (.iload 4, [], 0), (.bipush 40, [], 0),
  (.if_icmp .ge 144, [75], 0), (.aload_n 1, [], 0), (.getfield 34, [6, 0, 2], 0), (.getfield 61, [7, 0, 2], 0), (.iload_n 3, [], 0), (.invokevirtual 64, [0, 2, 3, 1], 0),
  (.istore 5, [], 0), (.iload 5, [], 0), (.bipush 110, [], 0), (.if_icmp .ne 5, [18], 0), (.iconst 1, [], 0), (.ireturn, [], 0),
  (.iload 5, [], 0), (.bipush 120, [], 0), (.if_icmp .ne 11, [25], 0), (.aload_n 1, [], 0), (.getfield 34, [6, 0, 2], 0), (.getfield 68, [7, 2, 0], 2),
  (.ireturn, [], 0), (.iload 5, [], 0), (.bipush 64, [], 0), (.if_icmp .ne 35, [43], 0), (.aload_n 0, [], 0), (.aload_n 1, [], 0),
  (.getfield 71, [6, 3, 2], 3), (.iload_n 3, [], 0), (.invokevirtual 64, [0, 2, 3, 1], 0), (.invokevirtual 74, [15, 2, 2, 2], 0), (.astore 6, [], 0), (.aload 6, [], 0),
  (.ifnonnull 7, [39], 0), (.iconst 0, [], 0), (.goto 11, [42], 0), (.aload 6, [], 0), (.getfield 78, [1, 1, 2], 1), (.getfield 79, [7, 3, 0], 3),
  (.ireturn, [], 0), (.aload_n 1, [], 0), (.iload_n 3, [], 0), (.invokevirtual 82, [20, 2, 6, 1], 0), (.istore 6, [], 0), (.iload 5, [], 0),
  (.bipush 63, [], 0), (.if_icmp .eq 10, [53], 0), (.iload 5, [], 0), (.bipush 108, [], 0), (.if_icmp .ne 13, [59], 0), (.aload_n 1, [], 0),
  (.iload_n 3, [], 0), (.iconst 1, [], 0), (.invokevirtual 85, [19, 3, 6, 1], 0), (.istore_n 3, [], 0), (.goto 31, [73], 0), (.iload 5, [], 0),
  (.invokestatic 89, [4, 1, 0, 1], 0), (.ifCond .eq 21, [71], 0), (.iload 6, [], 0), (.bipush (-6), [], 0), (.if_icmp .eq 14, [71], 0), (.aload_n 1, [], 0),
  (.iload 6, [], 0), (.iconst 0, [], 0), (.invokevirtual 85, [19, 3, 6, 1], 0), (.istore_n 3, [], 0), (.goto 5, [73], 0), (.iconst 0, [], 0),
  (.ireturn, [], 0), (.iinc 4 1, [], 0), (.goto (-145), [4], 0), (.iconst 0, [], 0), (.ireturn, [], 0)
]
def bp_104 : List Nat := [0, 1, 2, 3, 5, 7, 9, 12, 13, 16, 19, 20, 23, 25, 27, 29, 32, 33, 34, 36, 38, 41, 42, 45, 48, 49, 51, 53, 56, 57, 58, 61, 62, 65, 68, 70, 72, 75, 76, 79, 81, 84, 87, 88, 89, 90, 93, 95, 97, 99, 102, 104, 106, 109, 110, 111, 112, 115, 116, 119, 121, 124, 127, 129, 131, 134, 135, 137, 138, 141, 142, 145, 146, 147, 150, 153, 154, 155]
/-- RegionStack$Program.firstIll(LRegionStack$Term;)I -/
def cd_105 : List AI := [
  (.iconst 0, [], 0), (.istore_n 2, [], 0), (.iload_n 2, [], 0), (.aload_n 1, [], 0), (.getfield 34, [6, 0, 2], 0), (.getfield 38, [7, 1, 0], 1),
  (.if_icmp .ge 28, [20], 0), (.aload_n 1, [], 0), (.iload_n 2, [], 0), (.invokevirtual 47, [18, 2, 6, 1], 0), (.ifCond .eq 14, [18], 0), (.aload_n 0, [], 0),
  (.aload_n 1, [], 0), (.iload_n 2, [], 0), (.invokevirtual 92, [106, 3, 2, 1], 0), (.ifCond .eq 5, [18], 0), (.iload_n 2, [], 0), (.ireturn, [], 0),
  (.iinc 2 1, [], 0), (.goto (-33), [2], 0), (.bipush (-6), [], 0), (.ireturn, [], 0)
]
def bp_105 : List Nat := [0, 1, 2, 3, 4, 7, 10, 13, 14, 15, 18, 21, 22, 23, 24, 27, 30, 31, 32, 35, 38, 40, 41]
/-- RegionStack$Program.isIll(LRegionStack$Term;I)Z -/
def cd_106 : List AI := [
  (.iload_n 2, [], 0), (.ifCond .ne 23, [12], 0), (.aload_n 1, [], 0), (.getfield 43, [6, 1, 2], 1), (.iconst 0, [], 0), (.invokevirtual 64, [0, 2, 3, 1], 0),
  (.aload_n 1, [], 0), (.getfield 34, [6, 0, 2], 0), (.getfield 79, [7, 3, 0], 3), (.if_icmp .eq 5, [12], 0), (.iconst 1, [], 0), (.ireturn, [], 0),
  (.aload_n 1, [], 0), (.getfield 34, [6, 0, 2], 0), (.getfield 61, [7, 0, 2], 0), (.iload_n 2, [], 0), (.invokevirtual 64, [0, 2, 3, 1], 0), (.istore_n 3, [], 0),
  (.iload_n 3, [], 0), (.lookupswitch 186 #[(42, 98), (43, 74), (45, 59), (63, 114), (64, 144), (110, 59)], [92, 43, 29, 20, 53, 71, 20], 0), (.aload_n 1, [], 0), (.iload_n 2, [], 0), (.iconst 0, [], 0), (.invokevirtual 96, [21, 3, 6, 1], 0),
  (.ifCond .eq 7, [27], 0), (.iconst 1, [], 0), (.goto 4, [28], 0), (.iconst 0, [], 0), (.ireturn, [], 0), (.aload_n 1, [], 0),
  (.iload_n 2, [], 0), (.iconst 0, [], 0), (.invokevirtual 96, [21, 3, 6, 1], 0), (.ifCond .ne 12, [39], 0), (.aload_n 1, [], 0), (.iload_n 2, [], 0),
  (.iconst 1, [], 0), (.invokevirtual 96, [21, 3, 6, 1], 0), (.ifCond .eq 7, [41], 0), (.iconst 1, [], 0), (.goto 4, [42], 0), (.iconst 0, [], 0),
  (.ireturn, [], 0), (.aload_n 1, [], 0), (.iload_n 2, [], 0), (.iconst 0, [], 0), (.invokevirtual 96, [21, 3, 6, 1], 0), (.iconst 1, [], 0),
  (.if_icmp .eq 7, [51], 0), (.iconst 1, [], 0), (.goto 4, [52], 0), (.iconst 0, [], 0), (.ireturn, [], 0), (.aload_n 1, [], 0),
  (.iload_n 2, [], 0), (.iconst 0, [], 0), (.invokevirtual 96, [21, 3, 6, 1], 0), (.ifCond .ne 18, [67], 0), (.aload_n 1, [], 0), (.iload_n 2, [], 0),
  (.iconst 1, [], 0), (.invokevirtual 96, [21, 3, 6, 1], 0), (.aload_n 1, [], 0), (.iload_n 2, [], 0), (.iconst 2, [], 0), (.invokevirtual 96, [21, 3, 6, 1], 0),
  (.if_icmp .eq 7, [69], 0), (.iconst 1, [], 0), (.goto 4, [70], 0), (.iconst 0, [], 0), (.ireturn, [], 0), (.aload_n 0, [], 0),
  (.aload_n 1, [], 0), (.getfield 71, [6, 3, 2], 3), (.iload_n 2, [], 0), (.invokevirtual 64, [0, 2, 3, 1], 0), (.invokevirtual 74, [15, 2, 2, 2], 0), (.astore 4, [], 0),
  (.aload 4, [], 0), (.ifnull 20, [88], 0), (.aload_n 1, [], 0), (.iload_n 2, [], 0), (.iconst 0, [], 0), (.invokevirtual 96, [21, 3, 6, 1], 0),
  (.aload 4, [], 0), (.getfield 78, [1, 1, 2], 1), (.getfield 68, [7, 2, 0], 2), (.if_icmp .eq 7, [90], 0), (.iconst 1, [], 0), (.goto 4, [91], 0),
  (.iconst 0, [], 0), (.ireturn, [], 0), (.iload_n 3, [], 0), (.invokestatic 89, [4, 1, 0, 1], 0), (.ifCond .eq 17, [102], 0), (.aload_n 1, [], 0),
  (.iload_n 2, [], 0), (.invokevirtual 82, [20, 2, 6, 1], 0), (.bipush (-6), [], 0), (.if_icmp .ne 7, [102], 0), (.iconst 1, [], 0), (.goto 4, [103], 0),
  (.iconst 0, [], 0), (.ireturn, [], 0)
]
def bp_106 : List Nat := [0, 1, 4, 5, 8, 9, 12, 13, 16, 19, 22, 23, 24, 25, 28, 31, 32, 35, 36, 37, 96, 97, 98, 99, 102, 105, 106, 109, 110, 111, 112, 113, 114, 117, 120, 121, 122, 123, 126, 129, 130, 133, 134, 135, 136, 137, 138, 141, 142, 145, 146, 149, 150, 151, 152, 153, 154, 157, 160, 161, 162, 163, 166, 167, 168, 169, 172, 175, 176, 179, 180, 181, 182, 183, 186, 187, 190, 193, 195, 197, 200, 201, 202, 203, 206, 208, 211, 214, 217, 218, 221, 222, 223, 224, 227, 230, 231, 232, 235, 237, 240, 241, 244, 245, 246]
/-- RegionStack$Program.settle()Z -/
def cd_107 : List AI := [
  (.aload_n 0, [], 0), (.getfield 17, [2, 2, 0], 2), (.aload_n 0, [], 0), (.getfield 22, [2, 1, 0], 1), (.if_icmp .ne 8, [8], 0), (.aload_n 0, [], 0),
  (.getfield 99, [2, 3, 1], 3), (.ireturn, [], 0), (.aload_n 0, [], 0), (.aload_n 0, [], 0), (.getfield 22, [2, 1, 0], 1), (.putfield 17, [2, 2, 0], 2),
  (.aload_n 0, [], 0), (.aload_n 0, [], 0), (.invokevirtual 103, [108, 1, 2, 1], 0), (.putfield 99, [2, 3, 1], 3), (.aload_n 0, [], 0), (.getfield 99, [2, 3, 1], 3),
  (.ifCond .eq 63, [51], 0), (.aload_n 0, [], 0), (.invokevirtual 107, [109, 1, 2, 0], 0), (.iconst 0, [], 0), (.istore_n 1, [], 0), (.iload_n 1, [], 0),
  (.aload_n 0, [], 0), (.getfield 11, [2, 0, 2], 0), (.arraylength, [], 0), (.if_icmp .ge 18, [35], 0), (.aload_n 0, [], 0), (.getfield 11, [2, 0, 2], 0),
  (.iload_n 1, [], 0), (.aaload, [], 0), (.invokevirtual 110, [93, 1, 1, 0], 0), (.iinc 1 1, [], 0), (.goto (-21), [23], 0), (.aload_n 0, [], 0),
  (.invokevirtual 113, [110, 1, 2, 0], 0), (.iconst 0, [], 0), (.istore_n 1, [], 0), (.iload_n 1, [], 0), (.aload_n 0, [], 0), (.getfield 11, [2, 0, 2], 0),
  (.arraylength, [], 0), (.if_icmp .ge 18, [51], 0), (.aload_n 0, [], 0), (.getfield 11, [2, 0, 2], 0), (.iload_n 1, [], 0), (.aaload, [], 0),
  (.invokevirtual 116, [96, 1, 1, 0], 0), (.iinc 1 1, [], 0), (.goto (-21), [39], 0), (.aload_n 0, [], 0), (.getfield 99, [2, 3, 1], 3), (.ireturn, [], 0)
]
def bp_107 : List Nat := [0, 1, 4, 5, 8, 11, 12, 15, 16, 17, 18, 21, 24, 25, 26, 29, 32, 33, 36, 39, 40, 43, 44, 45, 46, 47, 50, 51, 54, 55, 58, 59, 60, 63, 66, 69, 70, 73, 74, 75, 76, 77, 80, 81, 84, 85, 88, 89, 90, 93, 96, 99, 100, 103, 104]
/-- RegionStack$Program.areAllWell()Z -/
def cd_108 : List AI := [
  (.iconst 0, [], 0), (.istore_n 1, [], 0), (.iload_n 1, [], 0), (.aload_n 0, [], 0), (.getfield 11, [2, 0, 2], 0), (.arraylength, [], 0),
  (.if_icmp .ge 40, [26], 0), (.aload_n 0, [], 0), (.getfield 11, [2, 0, 2], 0), (.iload_n 1, [], 0), (.aaload, [], 0), (.getfield 25, [1, 0, 2], 0),
  (.astore_n 2, [], 0), (.aload_n 2, [], 0), (.getfield 29, [6, 9, 0], 9), (.bipush (-6), [], 0), (.if_icmp .ne 13, [22], 0), (.aload_n 0, [], 0),
  (.aload_n 2, [], 0), (.invokevirtual 119, [105, 2, 2, 1], 0), (.bipush (-6), [], 0), (.if_icmp .eq 5, [24], 0), (.iconst 0, [], 0), (.ireturn, [], 0),
  (.iinc 1 1, [], 0), (.goto (-43), [2], 0), (.iconst 1, [], 0), (.ireturn, [], 0)
]
def bp_108 : List Nat := [0, 1, 2, 3, 4, 7, 8, 11, 12, 15, 16, 17, 20, 21, 22, 25, 27, 30, 31, 32, 35, 37, 40, 41, 42, 45, 48, 49, 50]
/-- RegionStack$Program.findPasses()V -/
def cd_109 : List AI := [
  (.iconst 0, [], 0), (.istore_n 1, [], 0), (.iload_n 1, [], 0), (.aload_n 0, [], 0), (.getfield 11, [2, 0, 2], 0), (.arraylength, [], 0),
  (.if_icmp .ge 19, [15], 0), (.aload_n 0, [], 0), (.getfield 11, [2, 0, 2], 0), (.iload_n 1, [], 0), (.aaload, [], 0), (.iconst 0, [], 0),
  (.putfield 123, [1, 6, 1], 6), (.iinc 1 1, [], 0), (.goto (-22), [2], 0), (.iconst 1, [], 0), (.istore_n 1, [], 0), (.iconst 0, [], 0),
  (.istore_n 2, [], 0), (.iload_n 2, [], 0), (.iconst 3, [], 0), (.if_icmp .gt 73, [58], 0), (.iload_n 1, [], 0), (.ifCond .eq 69, [58], 0),
  (.iconst 0, [], 0), (.istore_n 1, [], 0), (.iconst 0, [], 0), (.istore_n 3, [], 0), (.iload_n 3, [], 0), (.aload_n 0, [], 0),
  (.getfield 11, [2, 0, 2], 0), (.arraylength, [], 0), (.if_icmp .ge 50, [56], 0), (.aload_n 0, [], 0), (.getfield 11, [2, 0, 2], 0), (.iload_n 3, [], 0),
  (.aaload, [], 0), (.astore 4, [], 0), (.aload 4, [], 0), (.getfield 123, [1, 6, 1], 6), (.istore 5, [], 0), (.aload 4, [], 0),
  (.aload_n 0, [], 0), (.invokevirtual 126, [90, 2, 1, 0], 0), (.iload_n 1, [], 0), (.ifCond .ne 13, [50], 0), (.aload 4, [], 0), (.getfield 123, [1, 6, 1], 6),
  (.iload 5, [], 0), (.if_icmp .eq 7, [52], 0), (.iconst 1, [], 0), (.goto 4, [53], 0), (.iconst 0, [], 0), (.istore_n 1, [], 0),
  (.iinc 3 1, [], 0), (.goto (-53), [28], 0), (.iinc 2 1, [], 0), (.goto (-72), [19], 0), (.return_, [], 0)
]
def bp_109 : List Nat := [0, 1, 2, 3, 4, 7, 8, 11, 12, 15, 16, 17, 18, 21, 24, 27, 28, 29, 30, 31, 32, 33, 36, 37, 40, 41, 42, 43, 44, 45, 46, 49, 50, 53, 54, 57, 58, 59, 61, 63, 66, 68, 70, 71, 74, 75, 78, 80, 83, 85, 88, 89, 92, 93, 94, 97, 100, 103, 106, 107]
/-- RegionStack$Program.findEffects()V -/
def cd_110 : List AI := [
  (.iconst 0, [], 0), (.istore_n 1, [], 0), (.iload_n 1, [], 0), (.aload_n 0, [], 0), (.getfield 11, [2, 0, 2], 0), (.arraylength, [], 0),
  (.if_icmp .ge 19, [15], 0), (.aload_n 0, [], 0), (.getfield 11, [2, 0, 2], 0), (.iload_n 1, [], 0), (.aaload, [], 0), (.iconst 0, [], 0),
  (.putfield 130, [1, 7, 0], 7), (.iinc 1 1, [], 0), (.goto (-22), [2], 0), (.iconst 1, [], 0), (.istore_n 1, [], 0), (.iconst 0, [], 0),
  (.istore_n 2, [], 0), (.iload_n 2, [], 0), (.bipush 12, [], 0), (.if_icmp .gt 78, [60], 0), (.iload_n 1, [], 0), (.ifCond .eq 74, [60], 0),
  (.iconst 0, [], 0), (.istore_n 1, [], 0), (.iconst 0, [], 0), (.istore_n 3, [], 0), (.iload_n 3, [], 0), (.aload_n 0, [], 0),
  (.getfield 11, [2, 0, 2], 0), (.arraylength, [], 0), (.if_icmp .ge 55, [58], 0), (.aload_n 0, [], 0), (.getfield 11, [2, 0, 2], 0), (.iload_n 3, [], 0),
  (.aaload, [], 0), (.astore 4, [], 0), (.aload 4, [], 0), (.getfield 130, [1, 7, 0], 7), (.istore 5, [], 0), (.aload 4, [], 0),
  (.aload 4, [], 0), (.aload_n 0, [], 0), (.invokevirtual 133, [95, 2, 1, 1], 0), (.putfield 130, [1, 7, 0], 7), (.iload_n 1, [], 0), (.ifCond .ne 13, [52], 0),
  (.aload 4, [], 0), (.getfield 130, [1, 7, 0], 7), (.iload 5, [], 0), (.if_icmp .eq 7, [54], 0), (.iconst 1, [], 0), (.goto 4, [55], 0),
  (.iconst 0, [], 0), (.istore_n 1, [], 0), (.iinc 3 1, [], 0), (.goto (-58), [28], 0), (.iinc 2 1, [], 0), (.goto (-78), [19], 0),
  (.return_, [], 0)
]
def bp_110 : List Nat := [0, 1, 2, 3, 4, 7, 8, 11, 12, 15, 16, 17, 18, 21, 24, 27, 28, 29, 30, 31, 32, 34, 37, 38, 41, 42, 43, 44, 45, 46, 47, 50, 51, 54, 55, 58, 59, 60, 62, 64, 67, 69, 71, 73, 74, 77, 80, 81, 84, 86, 89, 91, 94, 95, 98, 99, 100, 103, 106, 109, 112, 113]
/-- RegionStack$Row.<init>(I)V -/
def cd_111 : List AI := [
  (.aload_n 0, [], 0), (.invokespecial 1, [], 0), (.aload_n 0, [], 0), (.iload_n 1, [], 0), (.ifCond .le 7, [7], 0), (.iload_n 1, [], 0),
  (.goto 4, [8], 0), (.iconst 0, [], 0), (.newarray .int, [], 0), (.putfield 7, [3, 0, 2], 0), (.return_, [], 0)
]
def bp_111 : List Nat := [0, 1, 4, 5, 6, 9, 10, 13, 14, 16, 19, 20]
/-- RegionStack$Runner.<init>()V -/
def cd_112 : List AI := [
  (.aload_n 0, [], 0), (.invokespecial 3, [], 0), (.aload_n 0, [], 0), (.new 9, [], 0), (.dup, [], 0), (.invokespecial 11, [102, 1, 2, 0], 0),
  (.putfield 12, [4, 0, 2], 0), (.aload_n 0, [], 0), (.new 18, [], 0), (.dup, [], 0), (.invokespecial 20, [126, 1, 5, 0], 0), (.putfield 21, [4, 1, 2], 1),
  (.aload_n 0, [], 0), (.new 25, [], 0), (.dup, [], 0), (.sipush 520, [], 0), (.invokespecial 27, [111, 2, 3, 0], 0), (.putfield 30, [4, 2, 2], 2),
  (.aload_n 0, [], 0), (.new 25, [], 0), (.dup, [], 0), (.sipush 520, [], 0), (.invokespecial 27, [111, 2, 3, 0], 0), (.putfield 34, [4, 3, 2], 3),
  (.aload_n 0, [], 0), (.new 25, [], 0), (.dup, [], 0), (.sipush 520, [], 0), (.invokespecial 27, [111, 2, 3, 0], 0), (.putfield 37, [4, 4, 2], 4),
  (.aload_n 0, [], 0), (.new 25, [], 0), (.dup, [], 0), (.sipush 520, [], 0), (.invokespecial 27, [111, 2, 3, 0], 0), (.putfield 40, [4, 5, 2], 5),
  (.aload_n 0, [], 0), (.new 25, [], 0), (.dup, [], 0), (.bipush 13, [], 0), (.invokespecial 27, [111, 2, 3, 0], 0), (.putfield 43, [4, 6, 2], 6),
  (.aload_n 0, [], 0), (.new 25, [], 0), (.dup, [], 0), (.bipush 13, [], 0), (.invokespecial 27, [111, 2, 3, 0], 0), (.putfield 46, [4, 7, 2], 7),
  (.aload_n 0, [], 0), (.new 25, [], 0), (.dup, [], 0), (.sipush 520, [], 0), (.invokespecial 27, [111, 2, 3, 0], 0), (.putfield 49, [4, 8, 2], 8),
  (.aload_n 0, [], 0), (.new 25, [], 0), (.dup, [], 0), (.sipush 546, [], 0), (.invokespecial 27, [111, 2, 3, 0], 0), (.putfield 52, [4, 9, 2], 9),
  (.aload_n 0, [], 0), (.bipush (-6), [], 0), (.putfield 55, [4, 15, 0], 15), (.return_, [], 0)
]
def bp_112 : List Nat := [0, 1, 4, 5, 8, 9, 12, 15, 16, 19, 20, 23, 26, 27, 30, 31, 34, 37, 40, 41, 44, 45, 48, 51, 54, 55, 58, 59, 62, 65, 68, 69, 72, 73, 76, 79, 82, 83, 86, 87, 89, 92, 95, 96, 99, 100, 102, 105, 108, 109, 112, 113, 116, 119, 122, 123, 126, 127, 130, 133, 136, 137, 139, 142, 143]
/-- RegionStack$Runner.tallyOf(I)I -/
def cd_113 : List AI := [
  (.iload_n 1, [], 0), (.tableswitch 93 0 6 #[43, 48, 53, 61, 69, 77, 85], [28, 2, 5, 8, 12, 16, 20, 24], 0), (.aload_n 0, [], 0), (.getfield 59, [4, 11, 0], 11), (.ireturn, [], 0), (.aload_n 0, [], 0),
  (.getfield 62, [4, 12, 0], 12), (.ireturn, [], 0), (.aload_n 0, [], 0), (.getfield 21, [4, 1, 2], 1), (.getfield 65, [5, 6, 0], 6), (.ireturn, [], 0),
  (.aload_n 0, [], 0), (.getfield 21, [4, 1, 2], 1), (.getfield 68, [5, 7, 0], 7), (.ireturn, [], 0), (.aload_n 0, [], 0), (.getfield 21, [4, 1, 2], 1),
  (.getfield 71, [5, 8, 0], 8), (.ireturn, [], 0), (.aload_n 0, [], 0), (.getfield 21, [4, 1, 2], 1), (.getfield 74, [5, 9, 0], 9), (.ireturn, [], 0),
  (.aload_n 0, [], 0), (.getfield 21, [4, 1, 2], 1), (.getfield 77, [5, 10, 0], 10), (.ireturn, [], 0), (.aload_n 0, [], 0), (.getfield 80, [4, 13, 0], 13),
  (.ireturn, [], 0)
]
def bp_113 : List Nat := [0, 1, 44, 45, 48, 49, 50, 53, 54, 55, 58, 61, 62, 63, 66, 69, 70, 71, 74, 77, 78, 79, 82, 85, 86, 87, 90, 93, 94, 95, 98, 99]
/-- RegionStack$Runner.goThrough(II)Z -/
def cd_114 : List AI := [
  (.aload_n 0, [], 0), (.getfield 55, [4, 15, 0], 15), (.aload_n 0, [], 0), (.getfield 12, [4, 0, 2], 0), (.getfield 83, [2, 1, 0], 1), (.if_icmp .ne 24, [17], 0),
  (.aload_n 0, [], 0), (.getfield 86, [4, 16, 0], 16), (.iload_n 1, [], 0), (.if_icmp .ne 16, [17], 0), (.aload_n 0, [], 0), (.getfield 89, [4, 17, 0], 17),
  (.iload_n 2, [], 0), (.if_icmp .ne 8, [17], 0), (.aload_n 0, [], 0), (.getfield 92, [4, 14, 1], 14), (.ireturn, [], 0), (.aload_n 0, [], 0),
  (.getfield 12, [4, 0, 2], 0), (.iload_n 1, [], 0), (.invokevirtual 96, [15, 2, 2, 2], 0), (.astore_n 3, [], 0), (.aload_n 3, [], 0), (.ifnonnull 5, [26], 0),
  (.iconst 0, [], 0), (.ireturn, [], 0), (.aload_n 0, [], 0), (.aload_n 3, [], 0), (.iload_n 1, [], 0), (.iload_n 2, [], 0),
  (.invokevirtual 100, [115, 4, 4, 0], 0), (.iconst 0, [], 0), (.istore 4, [], 0), (.iload 4, [], 0), (.sipush 9003, [], 0), (.if_icmp .ge 27, [46], 0),
  (.aload_n 0, [], 0), (.getfield 104, [4, 10, 0], 10), (.ifCond .le 20, [46], 0), (.aload_n 0, [], 0), (.getfield 92, [4, 14, 1], 14), (.ifCond .eq 13, [46], 0),
  (.aload_n 0, [], 0), (.invokevirtual 107, [119, 1, 4, 0], 0), (.iinc 4 1, [], 0), (.goto (-29), [33], 0), (.aload_n 0, [], 0), (.aload_n 0, [], 0),
  (.getfield 92, [4, 14, 1], 14), (.ifCond .eq 14, [55], 0), (.aload_n 0, [], 0), (.getfield 104, [4, 10, 0], 10), (.ifCond .ne 7, [55], 0), (.iconst 1, [], 0),
  (.goto 4, [56], 0), (.iconst 0, [], 0), (.putfield 92, [4, 14, 1], 14), (.aload_n 3, [], 0), (.getfield 110, [1, 1, 2], 1), (.getfield 116, [7, 3, 0], 3),
  (.iconst 1, [], 0), (.if_icmp .ne 18, [69], 0), (.aload_n 0, [], 0), (.aload_n 0, [], 0), (.getfield 21, [4, 1, 2], 1), (.aload_n 0, [], 0),
  (.getfield 59, [4, 11, 0], 11), (.invokevirtual 121, [22, 2, 5, 1], 0), (.putfield 59, [4, 11, 0], 11), (.aload_n 0, [], 0), (.aload_n 0, [], 0), (.getfield 12, [4, 0, 2], 0),
  (.getfield 83, [2, 1, 0], 1), (.putfield 55, [4, 15, 0], 15), (.aload_n 0, [], 0), (.iload_n 1, [], 0), (.putfield 86, [4, 16, 0], 16), (.aload_n 0, [], 0),
  (.iload_n 2, [], 0), (.putfield 89, [4, 17, 0], 17), (.aload_n 0, [], 0), (.getfield 92, [4, 14, 1], 14), (.ireturn, [], 0)
]
def bp_114 : List Nat := [0, 1, 4, 5, 8, 11, 14, 15, 18, 19, 22, 23, 26, 27, 30, 31, 34, 35, 36, 39, 40, 43, 44, 45, 48, 49, 50, 51, 52, 53, 54, 57, 58, 60, 62, 65, 68, 69, 72, 75, 76, 79, 82, 83, 86, 89, 92, 93, 94, 97, 100, 101, 104, 107, 108, 111, 112, 115, 116, 119, 122, 123, 126, 127, 128, 131, 132, 135, 138, 141, 142, 143, 146, 149, 152, 153, 154, 157, 158, 159, 162, 163, 166, 167]
/-- RegionStack$Runner.begin(LRegionStack$Body;II)V -/
def cd_115 : List AI := [
  (.aload_n 0, [], 0), (.getfield 21, [4, 1, 2], 1), (.invokevirtual 125, [127, 1, 5, 0], 0), (.aload_n 0, [], 0), (.iconst 0, [], 0), (.putfield 104, [4, 10, 0], 10),
  (.aload_n 0, [], 0), (.iconst 0, [], 0), (.putfield 59, [4, 11, 0], 11), (.aload_n 0, [], 0), (.iconst 0, [], 0), (.putfield 62, [4, 12, 0], 12),
  (.aload_n 0, [], 0), (.iconst 0, [], 0), (.putfield 80, [4, 13, 0], 13), (.aload_n 0, [], 0), (.iconst 1, [], 0), (.putfield 92, [4, 14, 1], 14),
  (.aload_n 0, [], 0), (.getfield 43, [4, 6, 2], 6), (.iconst 0, [], 0), (.iload_n 2, [], 0), (.invokevirtual 128, [1, 3, 3, 0], 0), (.aload_n 0, [], 0),
  (.getfield 46, [4, 7, 2], 7), (.iconst 0, [], 0), (.iload_n 3, [], 0), (.invokevirtual 128, [1, 3, 3, 0], 0), (.aload_n 1, [], 0), (.getfield 110, [1, 1, 2], 1),
  (.getfield 132, [7, 2, 0], 2), (.iconst 1, [], 0), (.if_icmp .ne 38, [51], 0), (.aload_n 0, [], 0), (.getfield 21, [4, 1, 2], 1), (.invokevirtual 135, [128, 1, 5, 1], 0),
  (.istore 4, [], 0), (.aload_n 0, [], 0), (.iconst 0, [], 0), (.iconst 0, [], 0), (.iload 4, [], 0), (.invokevirtual 139, [116, 4, 4, 0], 0),
  (.aload_n 0, [], 0), (.getfield 46, [4, 7, 2], 7), (.iconst 0, [], 0), (.aload_n 0, [], 0), (.getfield 21, [4, 1, 2], 1), (.iload 4, [], 0),
  (.iload_n 3, [], 0), (.invokevirtual 143, [130, 3, 5, 1], 0), (.invokevirtual 128, [1, 3, 3, 0], 0), (.aload_n 1, [], 0), (.getfield 110, [1, 1, 2], 1), (.getfield 116, [7, 3, 0], 3),
  (.iconst 1, [], 0), (.if_icmp .ne 23, [66], 0), (.aload_n 1, [], 0), (.getfield 147, [1, 6, 1], 6), (.ifCond .ne 16, [66], 0), (.aload_n 0, [], 0),
  (.iconst 0, [], 0), (.iconst 1, [], 0), (.aload_n 0, [], 0), (.getfield 21, [4, 1, 2], 1), (.invokevirtual 135, [128, 1, 5, 1], 0), (.invokevirtual 139, [116, 4, 4, 0], 0),
  (.aload_n 0, [], 0), (.iconst 0, [], 0), (.iconst 0, [], 0), (.invokevirtual 150, [118, 3, 4, 0], 0), (.return_, [], 0)
]
def bp_115 : List Nat := [0, 1, 4, 7, 8, 9, 12, 13, 14, 17, 18, 19, 22, 23, 24, 27, 28, 29, 32, 33, 36, 37, 38, 41, 42, 45, 46, 47, 50, 51, 54, 57, 58, 61, 62, 65, 68, 70, 71, 72, 73, 75, 78, 79, 82, 83, 84, 87, 89, 90, 93, 96, 97, 100, 103, 104, 107, 108, 111, 114, 115, 116, 117, 118, 121, 124, 127, 128, 129, 130, 133, 134]
/-- RegionStack$Runner.setRegion(III)V -/
def cd_116 : List AI := [
  (.iload_n 2, [], 0), (.ifCond .lt 17, [11], 0), (.aload_n 0, [], 0), (.getfield 52, [4, 9, 2], 9), (.iload_n 1, [], 0), (.bipush 42, [], 0),
  (.imul, [], 0), (.iload_n 2, [], 0), (.iadd, [], 0), (.iload_n 3, [], 0), (.invokevirtual 128, [1, 3, 3, 0], 0), (.return_, [], 0)
]
def bp_116 : List Nat := [0, 1, 4, 5, 8, 9, 11, 12, 13, 14, 15, 18, 19]
/-- RegionStack$Runner.regionFor(II)I -/
def cd_117 : List AI := [
  (.iload_n 2, [], 0), (.ifCond .lt 19, [11], 0), (.aload_n 0, [], 0), (.getfield 52, [4, 9, 2], 9), (.iload_n 1, [], 0), (.bipush 42, [], 0),
  (.imul, [], 0), (.iload_n 2, [], 0), (.iadd, [], 0), (.invokevirtual 153, [0, 2, 3, 1], 0), (.goto 5, [12], 0), (.bipush (-6), [], 0),
  (.ireturn, [], 0)
]
def bp_117 : List Nat := [0, 1, 4, 5, 8, 9, 11, 12, 13, 14, 17, 20, 22, 23]
/-- RegionStack$Runner.push(II)V -/
def cd_118 : List AI := [
  (.aload_n 0, [], 0), (.getfield 37, [4, 4, 2], 4), (.aload_n 0, [], 0), (.getfield 104, [4, 10, 0], 10), (.iload_n 1, [], 0), (.invokevirtual 128, [1, 3, 3, 0], 0),
  (.aload_n 0, [], 0), (.getfield 30, [4, 2, 2], 2), (.aload_n 0, [], 0), (.getfield 104, [4, 10, 0], 10), (.iload_n 2, [], 0), (.invokevirtual 128, [1, 3, 3, 0], 0),
  (.aload_n 0, [], 0), (.getfield 34, [4, 3, 2], 3), (.aload_n 0, [], 0), (.getfield 104, [4, 10, 0], 10), (.iconst 0, [], 0), (.invokevirtual 128, [1, 3, 3, 0], 0),
  (.aload_n 0, [], 0), (.dup, [], 0), (.getfield 104, [4, 10, 0], 10), (.iconst 1, [], 0), (.iadd, [], 0), (.putfield 104, [4, 10, 0], 10),
  (.return_, [], 0)
]
def bp_118 : List Nat := [0, 1, 4, 5, 8, 9, 12, 13, 16, 17, 20, 21, 24, 25, 28, 29, 32, 33, 36, 37, 38, 41, 42, 43, 46, 47]
/-- RegionStack$Runner.takeTurn()V -/
def cd_119 : List AI := [
  (.aload_n 0, [], 0), (.getfield 104, [4, 10, 0], 10), (.iconst 1, [], 0), (.isub, [], 0), (.istore_n 1, [], 0), (.aload_n 0, [], 0),
  (.getfield 37, [4, 4, 2], 4), (.iload_n 1, [], 0), (.invokevirtual 153, [0, 2, 3, 1], 0), (.istore_n 2, [], 0), (.aload_n 0, [], 0), (.getfield 30, [4, 2, 2], 2),
  (.iload_n 1, [], 0), (.invokevirtual 153, [0, 2, 3, 1], 0), (.istore_n 3, [], 0), (.aload_n 0, [], 0), (.getfield 34, [4, 3, 2], 3), (.iload_n 1, [], 0),
  (.invokevirtual 153, [0, 2, 3, 1], 0), (.istore 4, [], 0), (.aload_n 0, [], 0), (.getfield 12, [4, 0, 2], 0), (.aload_n 0, [], 0), (.getfield 43, [4, 6, 2], 6),
  (.iload_n 2, [], 0), (.invokevirtual 153, [0, 2, 3, 1], 0), (.invokevirtual 96, [15, 2, 2, 2], 0), (.astore 5, [], 0), (.aload 5, [], 0), (.ifnonnull 9, [34], 0),
  (.aload_n 0, [], 0), (.iconst 0, [], 0), (.putfield 92, [4, 14, 1], 14), (.return_, [], 0), (.aload_n 0, [], 0), (.getfield 34, [4, 3, 2], 3),
  (.iload_n 1, [], 0), (.iload 4, [], 0), (.iconst 1, [], 0), (.iadd, [], 0), (.invokevirtual 128, [1, 3, 3, 0], 0), (.iload 4, [], 0),
  (.ifCond .ne 14, [49], 0), (.aload_n 0, [], 0), (.aload 5, [], 0), (.iload_n 2, [], 0), (.iload_n 3, [], 0), (.invokevirtual 156, [120, 4, 4, 0], 0),
  (.goto 65, [80], 0), (.iload 4, [], 0), (.iconst 1, [], 0), (.if_icmp .ne 14, [58], 0), (.aload_n 0, [], 0), (.aload 5, [], 0),
  (.iload_n 2, [], 0), (.iload_n 3, [], 0), (.invokevirtual 159, [123, 4, 4, 0], 0), (.goto 48, [80], 0), (.aload 5, [], 0), (.getfield 110, [1, 1, 2], 1),
  (.getfield 162, [7, 0, 2], 0), (.iload_n 3, [], 0), (.invokevirtual 153, [0, 2, 3, 1], 0), (.bipush 43, [], 0), (.if_icmp .ne 24, [76], 0), (.aload_n 0, [], 0),
  (.aload_n 0, [], 0), (.getfield 40, [4, 5, 2], 5), (.iload_n 1, [], 0), (.invokevirtual 153, [0, 2, 3, 1], 0), (.aload_n 0, [], 0), (.getfield 59, [4, 11, 0], 11),
  (.iadd, [], 0), (.sipush 1000, [], 0), (.irem, [], 0), (.putfield 59, [4, 11, 0], 11), (.aload_n 0, [], 0), (.aload 5, [], 0),
  (.iload_n 3, [], 0), (.invokevirtual 165, [122, 3, 4, 0], 0), (.return_, [], 0)
]
def bp_119 : List Nat := [0, 1, 4, 5, 6, 7, 8, 11, 12, 15, 16, 17, 20, 21, 24, 25, 26, 29, 30, 33, 35, 36, 39, 40, 43, 44, 47, 50, 52, 54, 57, 58, 59, 62, 63, 64, 67, 68, 70, 71, 72, 75, 77, 80, 81, 83, 84, 85, 88, 91, 93, 94, 97, 98, 100, 101, 102, 105, 108, 110, 113, 116, 117, 120, 122, 125, 126, 127, 130, 131, 134, 135, 138, 139, 142, 143, 146, 147, 149, 150, 153, 154]
/-- RegionStack$Runner.enter(LRegionStack$Body;II)V -/
def cd_120 : List AI := [
  (.aload_n 0, [], 0), (.dup, [], 0), (.getfield 62, [4, 12, 0], 12), (.iconst 1, [], 0), (.iadd, [], 0), (.putfield 62, [4, 12, 0], 12),
  (.aload_n 0, [], 0), (.getfield 62, [4, 12, 0], 12), (.sipush 3000, [], 0), (.if_icmp .le 9, [14], 0), (.aload_n 0, [], 0), (.iconst 0, [], 0),
  (.putfield 92, [4, 14, 1], 14), (.return_, [], 0), (.iconst 2, [], 0), (.istore 4, [], 0), (.iload 4, [], 0), (.iconst 2, [], 0),
  (.aload_n 1, [], 0), (.getfield 169, [1, 8, 0], 8), (.iadd, [], 0), (.if_icmp .ge 36, [37], 0), (.aload_n 1, [], 0), (.getfield 172, [1, 5, 2], 5),
  (.iload 4, [], 0), (.invokevirtual 153, [0, 2, 3, 1], 0), (.iload_n 3, [], 0), (.if_icmp .ne 17, [35], 0), (.aload_n 0, [], 0), (.iload_n 2, [], 0),
  (.iload 4, [], 0), (.aload_n 0, [], 0), (.getfield 21, [4, 1, 2], 1), (.invokevirtual 135, [128, 1, 5, 1], 0), (.invokevirtual 139, [116, 4, 4, 0], 0), (.iinc 4 1, [], 0),
  (.goto (-41), [16], 0), (.aload_n 1, [], 0), (.getfield 110, [1, 1, 2], 1), (.getfield 162, [7, 0, 2], 0), (.iload_n 3, [], 0), (.invokevirtual 153, [0, 2, 3, 1], 0),
  (.invokestatic 175, [8, 1, 0, 1], 0), (.ifCond .le 20, [53], 0), (.aload_n 0, [], 0), (.iload_n 2, [], 0), (.aload_n 1, [], 0), (.getfield 178, [1, 0, 2], 0),
  (.iload_n 3, [], 0), (.iconst 0, [], 0), (.invokevirtual 182, [19, 3, 6, 1], 0), (.invokevirtual 150, [118, 3, 4, 0], 0), (.goto 23, [65], 0), (.aload_n 0, [], 0),
  (.aload_n 0, [], 0), (.aload_n 1, [], 0), (.getfield 178, [1, 0, 2], 0), (.iload_n 2, [], 0), (.iload_n 3, [], 0), (.invokevirtual 187, [121, 4, 4, 1], 0),
  (.putfield 59, [4, 11, 0], 11), (.aload_n 0, [], 0), (.aload_n 1, [], 0), (.iload_n 3, [], 0), (.invokevirtual 165, [122, 3, 4, 0], 0), (.return_, [], 0)
]
def bp_120 : List Nat := [0, 1, 2, 5, 6, 7, 10, 11, 14, 17, 20, 21, 22, 25, 26, 27, 29, 31, 32, 33, 36, 37, 40, 41, 44, 46, 49, 50, 53, 54, 55, 57, 58, 61, 64, 67, 70, 73, 74, 77, 80, 81, 84, 87, 90, 91, 92, 93, 96, 97, 98, 101, 104, 107, 108, 109, 110, 113, 114, 115, 118, 121, 122, 123, 124, 127, 128]
/-- RegionStack$Runner.valueOf(LRegionStack$Term;II)I -/
def cd_121 : List AI := [
  (.aload_n 1, [], 0), (.getfield 191, [6, 0, 2], 0), (.getfield 162, [7, 0, 2], 0), (.iload_n 3, [], 0), (.invokevirtual 153, [0, 2, 3, 1], 0), (.istore 4, [], 0),
  (.iload 4, [], 0), (.bipush 120, [], 0), (.if_icmp .ne 12, [14], 0), (.aload_n 0, [], 0), (.getfield 46, [4, 7, 2], 7), (.iload_n 2, [], 0),
  (.invokevirtual 153, [0, 2, 3, 1], 0), (.ireturn, [], 0), (.iload 4, [], 0), (.invokestatic 192, [4, 1, 0, 1], 0), (.ifCond .eq 21, [28], 0), (.aload_n 0, [], 0),
  (.getfield 49, [4, 8, 2], 8), (.iload_n 2, [], 0), (.bipush 40, [], 0), (.imul, [], 0), (.aload_n 1, [], 0), (.iload_n 3, [], 0),
  (.invokevirtual 196, [20, 2, 6, 1], 0), (.iadd, [], 0), (.invokevirtual 153, [0, 2, 3, 1], 0), (.ireturn, [], 0), (.iload 4, [], 0), (.bipush 48, [], 0),
  (.isub, [], 0), (.ireturn, [], 0)
]
def bp_121 : List Nat := [0, 1, 4, 7, 8, 11, 13, 15, 17, 20, 21, 24, 25, 28, 29, 31, 34, 37, 38, 41, 42, 44, 45, 46, 47, 50, 51, 54, 55, 57, 59, 60, 61]
/-- RegionStack$Runner.leave(LRegionStack$Body;I)V -/
def cd_122 : List AI := [
  (.iconst 2, [], 0), (.istore_n 3, [], 0), (.iload_n 3, [], 0), (.iconst 2, [], 0), (.aload_n 1, [], 0), (.getfield 169, [1, 8, 0], 8),
  (.iadd, [], 0), (.if_icmp .ge 28, [19], 0), (.aload_n 1, [], 0), (.getfield 172, [1, 5, 2], 5), (.iload_n 3, [], 0), (.invokevirtual 153, [0, 2, 3, 1], 0),
  (.iload_n 2, [], 0), (.if_icmp .ne 10, [17], 0), (.aload_n 0, [], 0), (.getfield 21, [4, 1, 2], 1), (.invokevirtual 199, [129, 1, 5, 0], 0), (.iinc 3 1, [], 0),
  (.goto (-32), [2], 0), (.aload_n 0, [], 0), (.dup, [], 0), (.getfield 104, [4, 10, 0], 10), (.iconst 1, [], 0), (.isub, [], 0),
  (.putfield 104, [4, 10, 0], 10), (.return_, [], 0)
]
def bp_122 : List Nat := [0, 1, 2, 3, 4, 5, 8, 9, 12, 13, 16, 17, 20, 21, 24, 25, 28, 31, 34, 37, 38, 39, 42, 43, 44, 47, 48]
/-- RegionStack$Runner.goOn(LRegionStack$Body;II)V -/
def cd_123 : List AI := [
  (.aload_n 1, [], 0), (.getfield 110, [1, 1, 2], 1), (.getfield 162, [7, 0, 2], 0), (.iload_n 3, [], 0), (.invokevirtual 153, [0, 2, 3, 1], 0), (.lookupswitch 226 #[(42, 83), (43, 130), (45, 107), (63, 164), (108, 192), (110, 57)], [96, 20, 45, 32, 63, 77, 6], 0),
  (.aload_n 0, [], 0), (.aload_n 0, [], 0), (.iload_n 2, [], 0), (.aload_n 1, [], 0), (.getfield 202, [1, 3, 2], 3), (.iload_n 3, [], 0),
  (.invokevirtual 153, [0, 2, 3, 1], 0), (.invokevirtual 205, [117, 3, 4, 1], 0), (.invokevirtual 208, [124, 2, 4, 0], 0), (.aload_n 0, [], 0), (.aload_n 1, [], 0), (.iload_n 3, [], 0),
  (.invokevirtual 165, [122, 3, 4, 0], 0), (.goto 153, [101], 0), (.aload_n 0, [], 0), (.aload_n 0, [], 0), (.getfield 21, [4, 1, 2], 1), (.aload_n 0, [], 0),
  (.getfield 59, [4, 11, 0], 11), (.invokevirtual 121, [22, 2, 5, 1], 0), (.putfield 59, [4, 11, 0], 11), (.aload_n 0, [], 0), (.aload_n 1, [], 0), (.iload_n 3, [], 0),
  (.invokevirtual 165, [122, 3, 4, 0], 0), (.goto 129, [101], 0), (.aload_n 0, [], 0), (.iconst 0, [], 0), (.aload_n 0, [], 0), (.getfield 59, [4, 11, 0], 11),
  (.iconst 1, [], 0), (.isub, [], 0), (.invokestatic 211, [0], 0), (.putfield 59, [4, 11, 0], 11), (.aload_n 0, [], 0), (.aload_n 1, [], 0),
  (.iload_n 3, [], 0), (.invokevirtual 165, [122, 3, 4, 0], 0), (.goto 106, [101], 0), (.aload_n 0, [], 0), (.getfield 40, [4, 5, 2], 5), (.aload_n 0, [], 0),
  (.getfield 104, [4, 10, 0], 10), (.iconst 1, [], 0), (.isub, [], 0), (.aload_n 0, [], 0), (.getfield 59, [4, 11, 0], 11), (.invokevirtual 128, [1, 3, 3, 0], 0),
  (.aload_n 0, [], 0), (.iload_n 2, [], 0), (.aload_n 1, [], 0), (.getfield 178, [1, 0, 2], 0), (.iload_n 3, [], 0), (.iconst 1, [], 0),
  (.invokevirtual 182, [19, 3, 6, 1], 0), (.invokevirtual 150, [118, 3, 4, 0], 0), (.goto 72, [101], 0), (.aload_n 0, [], 0), (.iload_n 2, [], 0), (.aload_n 1, [], 0),
  (.getfield 178, [1, 0, 2], 0), (.iload_n 3, [], 0), (.aload_n 0, [], 0), (.getfield 59, [4, 11, 0], 11), (.ifCond .eq 7, [73], 0), (.iconst 1, [], 0),
  (.goto 4, [74], 0), (.iconst 2, [], 0), (.invokevirtual 182, [19, 3, 6, 1], 0), (.invokevirtual 150, [118, 3, 4, 0], 0), (.goto 44, [101], 0), (.aload_n 0, [], 0),
  (.getfield 49, [4, 8, 2], 8), (.iload_n 2, [], 0), (.bipush 40, [], 0), (.imul, [], 0), (.iload_n 3, [], 0), (.iadd, [], 0),
  (.aload_n 0, [], 0), (.getfield 59, [4, 11, 0], 11), (.invokevirtual 128, [1, 3, 3, 0], 0), (.aload_n 0, [], 0), (.iload_n 2, [], 0), (.aload_n 1, [], 0),
  (.getfield 178, [1, 0, 2], 0), (.iload_n 3, [], 0), (.iconst 1, [], 0), (.invokevirtual 182, [19, 3, 6, 1], 0), (.invokevirtual 150, [118, 3, 4, 0], 0), (.goto 10, [101], 0),
  (.aload_n 0, [], 0), (.aload_n 1, [], 0), (.iload_n 2, [], 0), (.iload_n 3, [], 0), (.invokevirtual 216, [125, 4, 4, 0], 0), (.return_, [], 0)
]
def bp_123 : List Nat := [0, 1, 4, 7, 8, 11, 68, 69, 70, 71, 72, 75, 76, 79, 82, 85, 86, 87, 88, 91, 94, 95, 96, 99, 100, 103, 106, 109, 110, 111, 112, 115, 118, 119, 120, 121, 124, 125, 126, 129, 132, 133, 134, 135, 138, 141, 142, 145, 146, 149, 150, 151, 152, 155, 158, 159, 160, 161, 164, 165, 166, 169, 172, 175, 176, 177, 178, 181, 182, 183, 186, 189, 190, 193, 194, 197, 200, 203, 204, 207, 208, 210, 211, 212, 213, 214, 217, 220, 221, 222, 223, 226, 227, 228, 231, 234, 237, 238, 239, 240, 241, 244, 245]
/-- RegionStack$Runner.makeBox(I)V -/
def cd_124 : List AI := [
  (.aload_n 0, [], 0), (.getfield 21, [4, 1, 2], 1), (.getfield 65, [5, 6, 0], 6), (.sipush 300, [], 0), (.if_icmp .lt 11, [9], 0), (.aload_n 0, [], 0),
  (.iconst 0, [], 0), (.putfield 92, [4, 14, 1], 14), (.goto 19, [17], 0), (.aload_n 0, [], 0), (.aload_n 0, [], 0), (.getfield 21, [4, 1, 2], 1),
  (.iload_n 1, [], 0), (.aload_n 0, [], 0), (.getfield 59, [4, 11, 0], 11), (.invokevirtual 143, [130, 3, 5, 1], 0), (.putfield 59, [4, 11, 0], 11), (.return_, [], 0)
]
def bp_124 : List Nat := [0, 1, 4, 7, 10, 13, 14, 15, 18, 21, 22, 23, 26, 27, 28, 31, 34, 37, 38]
/-- RegionStack$Runner.callBody(LRegionStack$Body;II)V -/
def cd_125 : List AI := [
  (.iload_n 2, [], 0), (.iconst 1, [], 0), (.iadd, [], 0), (.istore 4, [], 0), (.iload 4, [], 0), (.bipush 12, [], 0),
  (.if_icmp .le 9, [11], 0), (.aload_n 0, [], 0), (.iconst 0, [], 0), (.putfield 92, [4, 14, 1], 14), (.return_, [], 0), (.aload_n 0, [], 0),
  (.dup, [], 0), (.getfield 80, [4, 13, 0], 13), (.iconst 1, [], 0), (.iadd, [], 0), (.putfield 80, [4, 13, 0], 13), (.aload_n 0, [], 0),
  (.iload 4, [], 0), (.iconst 0, [], 0), (.aload_n 0, [], 0), (.iload_n 2, [], 0), (.aload_n 1, [], 0), (.getfield 219, [1, 4, 2], 4),
  (.iload_n 3, [], 0), (.invokevirtual 153, [0, 2, 3, 1], 0), (.invokevirtual 205, [117, 3, 4, 1], 0), (.invokevirtual 139, [116, 4, 4, 0], 0), (.aload_n 0, [], 0), (.iload 4, [], 0),
  (.iconst 1, [], 0), (.aload_n 0, [], 0), (.iload_n 2, [], 0), (.aload_n 1, [], 0), (.getfield 202, [1, 3, 2], 3), (.iload_n 3, [], 0),
  (.invokevirtual 153, [0, 2, 3, 1], 0), (.invokevirtual 205, [117, 3, 4, 1], 0), (.invokevirtual 139, [116, 4, 4, 0], 0), (.aload_n 0, [], 0), (.getfield 43, [4, 6, 2], 6), (.iload 4, [], 0),
  (.aload_n 1, [], 0), (.getfield 178, [1, 0, 2], 0), (.getfield 222, [6, 3, 2], 3), (.iload_n 3, [], 0), (.invokevirtual 153, [0, 2, 3, 1], 0), (.invokevirtual 128, [1, 3, 3, 0], 0),
  (.aload_n 0, [], 0), (.getfield 46, [4, 7, 2], 7), (.iload 4, [], 0), (.aload_n 0, [], 0), (.getfield 59, [4, 11, 0], 11), (.invokevirtual 128, [1, 3, 3, 0], 0),
  (.aload_n 0, [], 0), (.iload 4, [], 0), (.iconst 0, [], 0), (.invokevirtual 150, [118, 3, 4, 0], 0), (.return_, [], 0)
]
def bp_125 : List Nat := [0, 1, 2, 3, 5, 7, 9, 12, 13, 14, 17, 18, 19, 20, 23, 24, 25, 28, 29, 31, 32, 33, 34, 35, 38, 39, 42, 45, 48, 49, 51, 52, 53, 54, 55, 58, 59, 62, 65, 68, 69, 72, 74, 75, 78, 81, 82, 85, 88, 89, 92, 94, 95, 98, 101, 102, 104, 105, 108, 109]
/-- RegionStack$Store.<init>()V -/
def cd_126 : List AI := [
  (.aload_n 0, [], 0), (.invokespecial 3, [], 0), (.aload_n 0, [], 0), (.new 9, [], 0), (.dup, [], 0), (.sipush 300, [], 0),
  (.invokespecial 11, [111, 2, 3, 0], 0), (.putfield 14, [5, 0, 2], 0), (.aload_n 0, [], 0), (.new 9, [], 0), (.dup, [], 0), (.sipush 546, [], 0),
  (.invokespecial 11, [111, 2, 3, 0], 0), (.putfield 20, [5, 1, 2], 1), (.aload_n 0, [], 0), (.new 9, [], 0), (.dup, [], 0), (.sipush 546, [], 0),
  (.invokespecial 11, [111, 2, 3, 0], 0), (.putfield 23, [5, 2, 2], 2), (.return_, [], 0)
]
def bp_126 : List Nat := [0, 1, 4, 5, 8, 9, 12, 15, 18, 19, 22, 23, 26, 29, 32, 33, 36, 37, 40, 43, 46, 47]
/-- RegionStack$Store.clear()V -/
def cd_127 : List AI := [
  (.aload_n 0, [], 0), (.iconst 0, [], 0), (.putfield 26, [5, 3, 0], 3), (.aload_n 0, [], 0), (.iconst 0, [], 0), (.putfield 30, [5, 4, 0], 4),
  (.aload_n 0, [], 0), (.iconst 0, [], 0), (.putfield 33, [5, 5, 0], 5), (.aload_n 0, [], 0), (.iconst 0, [], 0), (.putfield 36, [5, 6, 0], 6),
  (.aload_n 0, [], 0), (.iconst 0, [], 0), (.putfield 39, [5, 7, 0], 7), (.aload_n 0, [], 0), (.iconst 0, [], 0), (.putfield 42, [5, 8, 0], 8),
  (.aload_n 0, [], 0), (.iconst 0, [], 0), (.putfield 45, [5, 9, 0], 9), (.aload_n 0, [], 0), (.iconst 0, [], 0), (.putfield 48, [5, 10, 0], 10),
  (.aload_n 0, [], 0), (.iconst 0, [], 0), (.putfield 51, [5, 11, 0], 11), (.aload_n 0, [], 0), (.iconst 0, [], 0), (.putfield 54, [5, 12, 0], 12),
  (.return_, [], 0)
]
def bp_127 : List Nat := [0, 1, 2, 5, 6, 7, 10, 11, 12, 15, 16, 17, 20, 21, 22, 25, 26, 27, 30, 31, 32, 35, 36, 37, 40, 41, 42, 45, 46, 47, 50, 51]
/-- RegionStack$Store.openRegion()I -/
def cd_128 : List AI := [
  (.aload_n 0, [], 0), (.getfield 26, [5, 3, 0], 3), (.istore_n 1, [], 0), (.aload_n 0, [], 0), (.getfield 20, [5, 1, 2], 1), (.iload_n 1, [], 0),
  (.iconst 0, [], 0), (.invokevirtual 57, [1, 3, 3, 0], 0), (.aload_n 0, [], 0), (.getfield 23, [5, 2, 2], 2), (.iload_n 1, [], 0), (.iconst 1, [], 0),
  (.invokevirtual 57, [1, 3, 3, 0], 0), (.aload_n 0, [], 0), (.dup, [], 0), (.getfield 26, [5, 3, 0], 3), (.iconst 1, [], 0), (.iadd, [], 0),
  (.putfield 26, [5, 3, 0], 3), (.aload_n 0, [], 0), (.dup, [], 0), (.getfield 45, [5, 9, 0], 9), (.iconst 1, [], 0), (.iadd, [], 0),
  (.putfield 45, [5, 9, 0], 9), (.aload_n 0, [], 0), (.aload_n 0, [], 0), (.getfield 42, [5, 8, 0], 8), (.aload_n 0, [], 0), (.getfield 26, [5, 3, 0], 3),
  (.invokestatic 61, [0], 0), (.putfield 42, [5, 8, 0], 8), (.iload_n 1, [], 0), (.ireturn, [], 0)
]
def bp_128 : List Nat := [0, 1, 4, 5, 6, 9, 10, 11, 14, 15, 18, 19, 20, 23, 24, 25, 28, 29, 30, 33, 34, 35, 38, 39, 40, 43, 44, 45, 48, 49, 52, 55, 58, 59, 60]
/-- RegionStack$Store.closeLast()V -/
def cd_129 : List AI := [
  (.aload_n 0, [], 0), (.getfield 26, [5, 3, 0], 3), (.ifCond .le 57, [33], 0), (.aload_n 0, [], 0), (.dup, [], 0), (.getfield 26, [5, 3, 0], 3),
  (.iconst 1, [], 0), (.isub, [], 0), (.putfield 26, [5, 3, 0], 3), (.aload_n 0, [], 0), (.getfield 20, [5, 1, 2], 1), (.aload_n 0, [], 0),
  (.getfield 26, [5, 3, 0], 3), (.invokevirtual 67, [0, 2, 3, 1], 0), (.istore_n 1, [], 0), (.aload_n 0, [], 0), (.dup, [], 0), (.getfield 30, [5, 4, 0], 4),
  (.iload_n 1, [], 0), (.isub, [], 0), (.putfield 30, [5, 4, 0], 4), (.aload_n 0, [], 0), (.dup, [], 0), (.getfield 33, [5, 5, 0], 5),
  (.iload_n 1, [], 0), (.aload_n 0, [], 0), (.getfield 23, [5, 2, 2], 2), (.aload_n 0, [], 0), (.getfield 26, [5, 3, 0], 3), (.invokevirtual 67, [0, 2, 3, 1], 0),
  (.imul, [], 0), (.isub, [], 0), (.putfield 33, [5, 5, 0], 5), (.return_, [], 0)
]
def bp_129 : List Nat := [0, 1, 4, 7, 8, 9, 12, 13, 14, 17, 18, 21, 22, 25, 28, 29, 30, 31, 34, 35, 36, 39, 40, 41, 44, 45, 46, 49, 50, 53, 56, 57, 58, 61, 62]
/-- RegionStack$Store.putBox(II)I -/
def cd_130 : List AI := [
  (.aload_n 0, [], 0), (.getfield 36, [5, 6, 0], 6), (.istore_n 3, [], 0), (.aload_n 0, [], 0), (.getfield 14, [5, 0, 2], 0), (.iload_n 3, [], 0),
  (.iload_n 2, [], 0), (.invokevirtual 57, [1, 3, 3, 0], 0), (.aload_n 0, [], 0), (.dup, [], 0), (.getfield 36, [5, 6, 0], 6), (.iconst 1, [], 0),
  (.iadd, [], 0), (.putfield 36, [5, 6, 0], 6), (.iload_n 2, [], 0), (.bipush 10, [], 0), (.if_icmp .ge 7, [19], 0), (.iconst 1, [], 0),
  (.goto 4, [20], 0), (.iconst 2, [], 0), (.istore 4, [], 0), (.aload_n 0, [], 0), (.dup, [], 0), (.getfield 54, [5, 12, 0], 12),
  (.iload 4, [], 0), (.iadd, [], 0), (.putfield 54, [5, 12, 0], 12), (.aload_n 0, [], 0), (.getfield 20, [5, 1, 2], 1), (.iload_n 1, [], 0),
  (.invokevirtual 67, [0, 2, 3, 1], 0), (.istore 5, [], 0), (.iload 4, [], 0), (.iconst 2, [], 0), (.if_icmp .ne 47, [60], 0), (.aload_n 0, [], 0),
  (.getfield 23, [5, 2, 2], 2), (.iload_n 1, [], 0), (.invokevirtual 67, [0, 2, 3, 1], 0), (.iconst 1, [], 0), (.if_icmp .ne 35, [60], 0), (.aload_n 0, [], 0),
  (.getfield 23, [5, 2, 2], 2), (.iload_n 1, [], 0), (.iconst 2, [], 0), (.invokevirtual 57, [1, 3, 3, 0], 0), (.aload_n 0, [], 0), (.dup, [], 0),
  (.getfield 48, [5, 10, 0], 10), (.iconst 1, [], 0), (.iadd, [], 0), (.putfield 48, [5, 10, 0], 10), (.aload_n 0, [], 0), (.dup, [], 0),
  (.getfield 33, [5, 5, 0], 5), (.iload 5, [], 0), (.iconst 1, [], 0), (.imul, [], 0), (.iadd, [], 0), (.putfield 33, [5, 5, 0], 5),
  (.aload_n 0, [], 0), (.getfield 20, [5, 1, 2], 1), (.iload_n 1, [], 0), (.iload 5, [], 0), (.iconst 1, [], 0), (.iadd, [], 0),
  (.invokevirtual 57, [1, 3, 3, 0], 0), (.aload_n 0, [], 0), (.dup, [], 0), (.getfield 30, [5, 4, 0], 4), (.iconst 1, [], 0), (.iadd, [], 0),
  (.putfield 30, [5, 4, 0], 4), (.aload_n 0, [], 0), (.dup, [], 0), (.getfield 33, [5, 5, 0], 5), (.aload_n 0, [], 0), (.getfield 23, [5, 2, 2], 2),
  (.iload_n 1, [], 0), (.invokevirtual 67, [0, 2, 3, 1], 0), (.iadd, [], 0), (.putfield 33, [5, 5, 0], 5), (.aload_n 0, [], 0), (.aload_n 0, [], 0),
  (.getfield 39, [5, 7, 0], 7), (.aload_n 0, [], 0), (.getfield 30, [5, 4, 0], 4), (.invokestatic 61, [0], 0), (.putfield 39, [5, 7, 0], 7), (.aload_n 0, [], 0),
  (.aload_n 0, [], 0), (.getfield 51, [5, 11, 0], 11), (.aload_n 0, [], 0), (.getfield 33, [5, 5, 0], 5), (.invokestatic 61, [0], 0), (.putfield 51, [5, 11, 0], 11),
  (.iload_n 3, [], 0), (.ireturn, [], 0)
]
def bp_130 : List Nat := [0, 1, 4, 5, 6, 9, 10, 11, 14, 15, 16, 19, 20, 21, 24, 25, 27, 30, 31, 34, 35, 37, 38, 39, 42, 44, 45, 48, 49, 52, 53, 56, 58, 60, 61, 64, 65, 68, 69, 72, 73, 76, 77, 80, 81, 82, 85, 86, 87, 90, 91, 92, 95, 96, 97, 100, 102, 103, 104, 105, 108, 109, 112, 113, 115, 116, 117, 120, 121, 122, 125, 126, 127, 130, 131, 132, 135, 136, 139, 140, 143, 144, 147, 148, 149, 152, 153, 156, 159, 162, 163, 164, 167, 168, 171, 174, 177, 178, 179]
/-- RegionStack$Term.<init>()V -/
def cd_131 : List AI := [
  (.aload_n 0, [], 0), (.invokespecial 3, [], 0), (.aload_n 0, [], 0), (.new 9, [], 0), (.dup, [], 0), (.invokespecial 11, [138, 1, 7, 0], 0),
  (.putfield 12, [6, 0, 2], 0), (.aload_n 0, [], 0), (.new 18, [], 0), (.dup, [], 0), (.bipush 40, [], 0), (.invokespecial 20, [111, 2, 3, 0], 0),
  (.putfield 23, [6, 1, 2], 1), (.aload_n 0, [], 0), (.new 18, [], 0), (.dup, [], 0), (.bipush 40, [], 0), (.invokespecial 20, [111, 2, 3, 0], 0),
  (.putfield 27, [6, 2, 2], 2), (.aload_n 0, [], 0), (.new 18, [], 0), (.dup, [], 0), (.bipush 40, [], 0), (.invokespecial 20, [111, 2, 3, 0], 0),
  (.putfield 30, [6, 3, 2], 3), (.aload_n 0, [], 0), (.new 18, [], 0), (.dup, [], 0), (.bipush 120, [], 0), (.invokespecial 20, [111, 2, 3, 0], 0),
  (.putfield 33, [6, 4, 2], 4), (.aload_n 0, [], 0), (.new 18, [], 0), (.dup, [], 0), (.bipush 40, [], 0), (.invokespecial 20, [111, 2, 3, 0], 0),
  (.putfield 36, [6, 5, 2], 5), (.aload_n 0, [], 0), (.new 18, [], 0), (.dup, [], 0), (.bipush 40, [], 0), (.invokespecial 20, [111, 2, 3, 0], 0),
  (.putfield 39, [6, 6, 2], 6), (.aload_n 0, [], 0), (.new 18, [], 0), (.dup, [], 0), (.bipush 40, [], 0), (.invokespecial 20, [111, 2, 3, 0], 0),
  (.putfield 42, [6, 7, 2], 7), (.aload_n 0, [], 0), (.new 18, [], 0), (.dup, [], 0), (.bipush 40, [], 0), (.invokespecial 20, [111, 2, 3, 0], 0),
  (.putfield 45, [6, 8, 2], 8), (.return_, [], 0)
]
def bp_131 : List Nat := [0, 1, 4, 5, 8, 9, 12, 15, 16, 19, 20, 22, 25, 28, 29, 32, 33, 35, 38, 41, 42, 45, 46, 48, 51, 54, 55, 58, 59, 61, 64, 67, 68, 71, 72, 74, 77, 80, 81, 84, 85, 87, 90, 93, 94, 97, 98, 100, 103, 106, 107, 110, 111, 113, 116, 119, 120]
/-- RegionStack$Term.leastAround(II)I -/
def cd_132 : List AI := [
  (.iload_n 1, [], 0), (.istore_n 3, [], 0), (.iconst 0, [], 0), (.istore 4, [], 0), (.iload 4, [], 0), (.bipush 40, [], 0),
  (.if_icmp .ge 34, [22], 0), (.iload_n 3, [], 0), (.ifCond .le 30, [22], 0), (.iload_n 2, [], 0), (.aload_n 0, [], 0), (.getfield 39, [6, 6, 2], 6),
  (.iload_n 3, [], 0), (.invokevirtual 48, [0, 2, 3, 1], 0), (.if_icmp .lt 18, [22], 0), (.aload_n 0, [], 0), (.getfield 36, [6, 5, 2], 5), (.iload_n 3, [], 0),
  (.invokevirtual 48, [0, 2, 3, 1], 0), (.istore_n 3, [], 0), (.iinc 4 1, [], 0), (.goto (-35), [4], 0), (.iload_n 3, [], 0), (.ireturn, [], 0)
]
def bp_132 : List Nat := [0, 1, 2, 3, 5, 7, 9, 12, 13, 16, 17, 18, 21, 22, 25, 28, 29, 32, 33, 36, 37, 40, 43, 44, 45]
/-- RegionStack$Term.read()V -/
def cd_133 : List AI := [
  (.aload_n 0, [], 0), (.iconst 0, [], 0), (.putfield 52, [6, 10, 0], 10), (.aload_n 0, [], 0), (.aload_n 0, [], 0), (.invokevirtual 56, [134, 1, 6, 1], 0),
  (.putfield 60, [6, 9, 0], 9), (.aload_n 0, [], 0), (.getfield 60, [6, 9, 0], 9), (.bipush (-6), [], 0), (.if_icmp .ne 11, [15], 0), (.aload_n 0, [], 0),
  (.invokevirtual 63, [135, 1, 6, 0], 0), (.aload_n 0, [], 0), (.invokevirtual 66, [136, 1, 6, 0], 0), (.return_, [], 0)
]
def bp_133 : List Nat := [0, 1, 2, 5, 6, 7, 10, 13, 14, 17, 19, 22, 23, 26, 27, 30, 31]
/-- RegionStack$Term.findFault()I -/
def cd_134 : List AI := [
  (.aload_n 0, [], 0), (.getfield 27, [6, 2, 2], 2), (.iconst 0, [], 0), (.invokevirtual 69, [2, 2, 3, 0], 0), (.iconst 1, [], 0), (.istore_n 1, [], 0),
  (.iconst 0, [], 0), (.istore_n 2, [], 0), (.iload_n 2, [], 0), (.aload_n 0, [], 0), (.getfield 12, [6, 0, 2], 0), (.getfield 72, [7, 1, 0], 1),
  (.if_icmp .ge 95, [60], 0), (.iload_n 1, [], 0), (.ifCond .le 91, [60], 0), (.aload_n 0, [], 0), (.getfield 12, [6, 0, 2], 0), (.getfield 75, [7, 0, 2], 0),
  (.iload_n 2, [], 0), (.invokevirtual 48, [0, 2, 3, 1], 0), (.istore_n 3, [], 0), (.iload_n 3, [], 0), (.invokestatic 78, [8, 1, 0, 1], 0), (.istore 4, [], 0),
  (.iload 4, [], 0), (.ifCond .ge 5, [28], 0), (.iload_n 2, [], 0), (.ireturn, [], 0), (.aload_n 0, [], 0), (.getfield 27, [6, 2, 2], 2),
  (.iload_n 2, [], 0), (.iload_n 3, [], 0), (.invokevirtual 81, [1, 3, 3, 0], 0), (.iinc 2 1, [], 0), (.iload_n 3, [], 0), (.invokestatic 85, [6, 1, 0, 1], 0),
  (.ifCond .eq 37, [53], 0), (.iload_n 2, [], 0), (.aload_n 0, [], 0), (.getfield 12, [6, 0, 2], 0), (.getfield 72, [7, 1, 0], 1), (.if_icmp .ge 23, [52], 0),
  (.iload_n 3, [], 0), (.aload_n 0, [], 0), (.getfield 12, [6, 0, 2], 0), (.getfield 75, [7, 0, 2], 0), (.iload_n 2, [], 0), (.invokevirtual 48, [0, 2, 3, 1], 0),
  (.invokestatic 89, [7, 2, 0, 1], 0), (.ifCond .ne 5, [52], 0), (.iload_n 2, [], 0), (.ireturn, [], 0), (.iinc 2 1, [], 0), (.iload_n 1, [], 0),
  (.iload 4, [], 0), (.iconst 1, [], 0), (.isub, [], 0), (.iadd, [], 0), (.istore_n 1, [], 0), (.goto (-100), [8], 0),
  (.iload_n 1, [], 0), (.ifCond .le 11, [66], 0), (.aload_n 0, [], 0), (.getfield 12, [6, 0, 2], 0), (.getfield 72, [7, 1, 0], 1), (.ireturn, [], 0),
  (.iload_n 2, [], 0), (.aload_n 0, [], 0), (.getfield 12, [6, 0, 2], 0), (.getfield 72, [7, 1, 0], 1), (.if_icmp .ge 7, [73], 0), (.iload_n 2, [], 0),
  (.goto 5, [74], 0), (.bipush (-6), [], 0), (.ireturn, [], 0)
]
def bp_134 : List Nat := [0, 1, 4, 5, 8, 9, 10, 11, 12, 13, 14, 17, 20, 23, 24, 27, 28, 31, 34, 35, 38, 39, 40, 43, 45, 47, 50, 51, 52, 53, 56, 57, 58, 61, 64, 65, 68, 71, 72, 73, 76, 79, 82, 83, 84, 87, 90, 91, 94, 97, 100, 101, 102, 105, 106, 108, 109, 110, 111, 112, 115, 116, 119, 120, 123, 126, 127, 128, 129, 132, 135, 138, 139, 142, 144, 145]
/-- RegionStack$Term.linkParts()V -/
def cd_135 : List AI := [
  (.iconst 0, [], 0), (.istore_n 1, [], 0), (.aload_n 0, [], 0), (.getfield 12, [6, 0, 2], 0), (.getfield 72, [7, 1, 0], 1), (.iconst 1, [], 0),
  (.isub, [], 0), (.istore_n 2, [], 0), (.iload_n 2, [], 0), (.ifCond .lt 144, [81], 0), (.aload_n 0, [], 0), (.getfield 27, [6, 2, 2], 2),
  (.iload_n 2, [], 0), (.invokevirtual 48, [0, 2, 3, 1], 0), (.istore_n 3, [], 0), (.iload_n 3, [], 0), (.ifCond .ne 6, [18], 0), (.goto 122, [79], 0),
  (.iload_n 2, [], 0), (.iload_n 3, [], 0), (.invokestatic 85, [6, 1, 0, 1], 0), (.ifCond .eq 7, [24], 0), (.iconst 2, [], 0), (.goto 4, [25], 0),
  (.iconst 1, [], 0), (.iadd, [], 0), (.istore 4, [], 0), (.iload_n 3, [], 0), (.invokestatic 78, [8, 1, 0, 1], 0), (.istore 5, [], 0),
  (.iconst 0, [], 0), (.istore 6, [], 0), (.iload 6, [], 0), (.iload 5, [], 0), (.if_icmp .ge 58, [62], 0), (.iinc 1 (-1), [], 0),
  (.aload_n 0, [], 0), (.getfield 45, [6, 8, 2], 8), (.iload_n 1, [], 0), (.invokevirtual 48, [0, 2, 3, 1], 0), (.istore 7, [], 0), (.aload_n 0, [], 0),
  (.getfield 33, [6, 4, 2], 4), (.iconst 3, [], 0), (.iload_n 2, [], 0), (.imul, [], 0), (.iload 6, [], 0), (.iadd, [], 0),
  (.iload 7, [], 0), (.invokevirtual 81, [1, 3, 3, 0], 0), (.aload_n 0, [], 0), (.getfield 36, [6, 5, 2], 5), (.iload 7, [], 0), (.iload_n 2, [], 0),
  (.invokevirtual 81, [1, 3, 3, 0], 0), (.aload_n 0, [], 0), (.getfield 39, [6, 6, 2], 6), (.iload 7, [], 0), (.invokevirtual 48, [0, 2, 3, 1], 0), (.istore 4, [], 0),
  (.iinc 6 1, [], 0), (.goto (-59), [32], 0), (.aload_n 0, [], 0), (.getfield 39, [6, 6, 2], 6), (.iload_n 2, [], 0), (.iload 4, [], 0),
  (.invokevirtual 81, [1, 3, 3, 0], 0), (.aload_n 0, [], 0), (.getfield 45, [6, 8, 2], 8), (.iload_n 1, [], 0), (.iload_n 2, [], 0), (.invokevirtual 81, [1, 3, 3, 0], 0),
  (.iinc 1 1, [], 0), (.aload_n 0, [], 0), (.dup, [], 0), (.getfield 52, [6, 10, 0], 10), (.iconst 1, [], 0), (.iadd, [], 0),
  (.putfield 52, [6, 10, 0], 10), (.iinc 2 (-1), [], 0), (.goto (-142), [8], 0), (.aload_n 0, [], 0), (.getfield 36, [6, 5, 2], 5), (.iconst 0, [], 0),
  (.bipush (-6), [], 0), (.invokevirtual 81, [1, 3, 3, 0], 0), (.return_, [], 0)
]
def bp_135 : List Nat := [0, 1, 2, 3, 6, 9, 10, 11, 12, 13, 16, 17, 20, 21, 24, 25, 26, 29, 32, 33, 34, 37, 40, 41, 44, 45, 46, 48, 49, 52, 54, 55, 57, 59, 61, 64, 67, 68, 71, 72, 75, 77, 78, 81, 82, 83, 84, 86, 87, 89, 92, 93, 96, 98, 99, 102, 103, 106, 108, 111, 113, 116, 119, 120, 123, 124, 126, 129, 130, 133, 134, 135, 138, 141, 142, 143, 146, 147, 148, 151, 154, 157, 158, 161, 162, 164, 167, 168]
/-- RegionStack$Term.findNames()V -/
def cd_136 : List AI := [
  (.iconst 0, [], 0), (.istore_n 1, [], 0), (.iload_n 1, [], 0), (.aload_n 0, [], 0), (.getfield 12, [6, 0, 2], 0), (.getfield 72, [7, 1, 0], 1),
  (.if_icmp .ge 78, [44], 0), (.aload_n 0, [], 0), (.getfield 27, [6, 2, 2], 2), (.iload_n 1, [], 0), (.invokevirtual 48, [0, 2, 3, 1], 0), (.istore_n 2, [], 0),
  (.aload_n 0, [], 0), (.getfield 42, [6, 7, 2], 7), (.iload_n 1, [], 0), (.iload_n 2, [], 0), (.invokestatic 93, [4, 1, 0, 1], 0), (.ifCond .eq 11, [22], 0),
  (.aload_n 0, [], 0), (.iload_n 1, [], 0), (.invokevirtual 96, [137, 2, 6, 1], 0), (.goto 5, [23], 0), (.bipush (-6), [], 0), (.invokevirtual 81, [1, 3, 3, 0], 0),
  (.aload_n 0, [], 0), (.getfield 30, [6, 3, 2], 3), (.iload_n 1, [], 0), (.iload_n 2, [], 0), (.bipush 64, [], 0), (.if_icmp .ne 22, [40], 0),
  (.aload_n 0, [], 0), (.getfield 12, [6, 0, 2], 0), (.getfield 75, [7, 0, 2], 0), (.iload_n 1, [], 0), (.iconst 1, [], 0), (.iadd, [], 0),
  (.invokevirtual 48, [0, 2, 3, 1], 0), (.bipush 48, [], 0), (.isub, [], 0), (.goto 5, [41], 0), (.bipush (-6), [], 0), (.invokevirtual 81, [1, 3, 3, 0], 0),
  (.iinc 1 1, [], 0), (.goto (-83), [2], 0), (.return_, [], 0)
]
def bp_136 : List Nat := [0, 1, 2, 3, 4, 7, 10, 13, 14, 17, 18, 21, 22, 23, 26, 27, 28, 31, 34, 35, 36, 39, 42, 44, 47, 48, 51, 52, 53, 55, 58, 59, 62, 65, 66, 67, 68, 71, 73, 74, 77, 79, 82, 85, 88, 89]
/-- RegionStack$Term.findBinder(I)I -/
def cd_137 : List AI := [
  (.aload_n 0, [], 0), (.getfield 12, [6, 0, 2], 0), (.getfield 75, [7, 0, 2], 0), (.iload_n 1, [], 0), (.invokevirtual 48, [0, 2, 3, 1], 0), (.istore_n 2, [], 0),
  (.iload_n 1, [], 0), (.istore_n 3, [], 0), (.aload_n 0, [], 0), (.getfield 36, [6, 5, 2], 5), (.iload_n 1, [], 0), (.invokevirtual 48, [0, 2, 3, 1], 0),
  (.istore 4, [], 0), (.iconst 0, [], 0), (.istore 5, [], 0), (.iload 5, [], 0), (.bipush 40, [], 0), (.if_icmp .ge 89, [59], 0),
  (.iload 4, [], 0), (.ifCond .lt 84, [59], 0), (.aload_n 0, [], 0), (.getfield 12, [6, 0, 2], 0), (.getfield 75, [7, 0, 2], 0), (.iload 4, [], 0),
  (.invokevirtual 48, [0, 2, 3, 1], 0), (.bipush 108, [], 0), (.if_icmp .ne 25, [38], 0), (.aload_n 0, [], 0), (.getfield 12, [6, 0, 2], 0), (.getfield 75, [7, 0, 2], 0),
  (.iload 4, [], 0), (.iconst 1, [], 0), (.iadd, [], 0), (.invokevirtual 48, [0, 2, 3, 1], 0), (.iload_n 2, [], 0), (.if_icmp .ne 7, [38], 0),
  (.iconst 1, [], 0), (.goto 4, [39], 0), (.iconst 0, [], 0), (.istore 6, [], 0), (.iload 6, [], 0), (.ifCond .eq 17, [50], 0),
  (.aload_n 0, [], 0), (.iload 4, [], 0), (.iconst 1, [], 0), (.invokevirtual 99, [19, 3, 6, 1], 0), (.iload_n 3, [], 0), (.if_icmp .ne 6, [50], 0),
  (.iload 4, [], 0), (.ireturn, [], 0), (.iload 4, [], 0), (.istore_n 3, [], 0), (.aload_n 0, [], 0), (.getfield 36, [6, 5, 2], 5),
  (.iload 4, [], 0), (.invokevirtual 48, [0, 2, 3, 1], 0), (.istore 4, [], 0), (.iinc 5 1, [], 0), (.goto (-90), [15], 0), (.bipush (-6), [], 0),
  (.ireturn, [], 0)
]
def bp_137 : List Nat := [0, 1, 4, 7, 8, 11, 12, 13, 14, 15, 18, 19, 22, 24, 25, 27, 29, 31, 34, 36, 39, 40, 43, 46, 48, 51, 53, 56, 57, 60, 63, 65, 66, 67, 70, 71, 74, 75, 78, 79, 81, 83, 86, 87, 89, 90, 93, 94, 97, 99, 100, 102, 103, 104, 107, 109, 112, 114, 117, 120, 122, 123]
/-- RegionStack$Text.<init>()V -/
def cd_138 : List AI := [
  (.aload_n 0, [], 0), (.invokespecial 3, [], 0), (.aload_n 0, [], 0), (.new 9, [], 0), (.dup, [], 0), (.bipush 40, [], 0),
  (.invokespecial 11, [111, 2, 3, 0], 0), (.putfield 14, [7, 0, 2], 0), (.return_, [], 0)
]
def bp_138 : List Nat := [0, 1, 4, 5, 8, 9, 11, 14, 17, 18]
/-- RegionStack$Text.takeFrom(LRegionStack$Text;)V -/
def cd_139 : List AI := [
  (.iconst 0, [], 0), (.istore_n 2, [], 0), (.iload_n 2, [], 0), (.bipush 40, [], 0), (.if_icmp .ge 25, [15], 0), (.aload_n 0, [], 0),
  (.getfield 14, [7, 0, 2], 0), (.iload_n 2, [], 0), (.aload_n 1, [], 0), (.getfield 14, [7, 0, 2], 0), (.iload_n 2, [], 0), (.invokevirtual 30, [0, 2, 3, 1], 0),
  (.invokevirtual 34, [1, 3, 3, 0], 0), (.iinc 2 1, [], 0), (.goto (-25), [2], 0), (.aload_n 0, [], 0), (.aload_n 1, [], 0), (.getfield 20, [7, 1, 0], 1),
  (.putfield 20, [7, 1, 0], 1), (.aload_n 0, [], 0), (.aload_n 1, [], 0), (.getfield 24, [7, 2, 0], 2), (.putfield 24, [7, 2, 0], 2), (.aload_n 0, [], 0),
  (.aload_n 1, [], 0), (.getfield 27, [7, 3, 0], 3), (.putfield 27, [7, 3, 0], 3), (.return_, [], 0)
]
def bp_139 : List Nat := [0, 1, 2, 3, 5, 8, 9, 12, 13, 14, 17, 18, 21, 24, 27, 30, 31, 32, 35, 38, 39, 40, 43, 46, 47, 48, 51, 54, 55]
/-- RegionStackLaw.law([I)Z -/
def cd_140 : List AI := [
  (.new 7, [], 0), (.dup, [], 0), (.invokespecial 9, [25, 1, 8, 0], 0), (.astore_n 1, [], 0), (.new 10, [], 0), (.dup, [], 0),
  (.invokespecial 12, [47, 1, 9, 0], 0), (.astore_n 2, [], 0), (.iconst 0, [], 0), (.istore_n 3, [], 0), (.iload_n 3, [], 0), (.aload_n 0, [], 0),
  (.arraylength, [], 0), (.iconst 4, [], 0), (.isub, [], 0), (.if_icmp .gt 630, [453], 0), (.aload_n 0, [], 0), (.iload_n 3, [], 0),
  (.iaload, [], 0), (.bipush 31, [], 0), (.iand, [1], 0), (.tableswitch 615 0 16 #[84, 127, 160, 183, 206, 239, 272, 285, 318, 351, 384, 427, 470, 513, 546, 569, 592], [451, 22, 59, 86, 103, 120, 147, 174, 181, 208, 235, 262, 299, 336, 373, 400, 417, 434], 0), (.aload_n 1, [], 0), (.aload_n 0, [], 0),
  (.iload_n 3, [], 0), (.iconst 1, [], 0), (.iadd, [], 0), (.iaload, [], 0), (.aload_n 0, [], 0), (.iload_n 3, [], 0),
  (.iconst 2, [], 0), (.iadd, [], 0), (.iaload, [], 0), (.aload_n 0, [], 0), (.iload_n 3, [], 0), (.iconst 3, [], 0),
  (.iadd, [], 0), (.iaload, [], 0), (.invokevirtual 13, [26, 4, 8, 1], 0), (.aload_n 2, [], 0), (.aload_n 0, [], 0), (.iload_n 3, [], 0),
  (.iconst 1, [], 0), (.iadd, [], 0), (.iaload, [], 0), (.aload_n 0, [], 0), (.iload_n 3, [], 0), (.iconst 2, [], 0),
  (.iadd, [], 0), (.iaload, [], 0), (.aload_n 0, [], 0), (.iload_n 3, [], 0), (.iconst 3, [], 0), (.iadd, [], 0),
  (.iaload, [], 0), (.invokevirtual 17, [48, 4, 9, 1], 0), (.if_icmp .eq 493, [451], 0), (.iconst 0, [], 0), (.ireturn, [], 0), (.aload_n 1, [], 0),
  (.aload_n 0, [], 0), (.iload_n 3, [], 0), (.iconst 1, [], 0), (.iadd, [], 0), (.iaload, [], 0), (.aload_n 0, [], 0),
  (.iload_n 3, [], 0), (.iconst 2, [], 0), (.iadd, [], 0), (.iaload, [], 0), (.invokevirtual 18, [27, 3, 8, 1], 0), (.aload_n 2, [], 0),
  (.aload_n 0, [], 0), (.iload_n 3, [], 0), (.iconst 1, [], 0), (.iadd, [], 0), (.iaload, [], 0), (.aload_n 0, [], 0),
  (.iload_n 3, [], 0), (.iconst 2, [], 0), (.iadd, [], 0), (.iaload, [], 0), (.invokevirtual 22, [49, 3, 9, 1], 0), (.if_icmp .eq 460, [451], 0),
  (.iconst 0, [], 0), (.ireturn, [], 0), (.aload_n 1, [], 0), (.aload_n 0, [], 0), (.iload_n 3, [], 0), (.iconst 1, [], 0),
  (.iadd, [], 0), (.iaload, [], 0), (.invokevirtual 23, [28, 2, 8, 1], 0), (.aload_n 2, [], 0), (.aload_n 0, [], 0), (.iload_n 3, [], 0),
  (.iconst 1, [], 0), (.iadd, [], 0), (.iaload, [], 0), (.invokevirtual 27, [50, 2, 9, 1], 0), (.if_icmp .eq 437, [451], 0), (.iconst 0, [], 0),
  (.ireturn, [], 0), (.aload_n 1, [], 0), (.aload_n 0, [], 0), (.iload_n 3, [], 0), (.iconst 1, [], 0), (.iadd, [], 0),
  (.iaload, [], 0), (.invokevirtual 28, [29, 2, 8, 1], 0), (.aload_n 2, [], 0), (.aload_n 0, [], 0), (.iload_n 3, [], 0), (.iconst 1, [], 0),
  (.iadd, [], 0), (.iaload, [], 0), (.invokevirtual 31, [52, 2, 9, 1], 0), (.if_icmp .eq 414, [451], 0), (.iconst 0, [], 0), (.ireturn, [], 0),
  (.aload_n 1, [], 0), (.aload_n 0, [], 0), (.iload_n 3, [], 0), (.iconst 1, [], 0), (.iadd, [], 0), (.iaload, [], 0),
  (.aload_n 0, [], 0), (.iload_n 3, [], 0), (.iconst 2, [], 0), (.iadd, [], 0), (.iaload, [], 0), (.invokevirtual 32, [30, 3, 8, 1], 0),
  (.aload_n 2, [], 0), (.aload_n 0, [], 0), (.iload_n 3, [], 0), (.iconst 1, [], 0), (.iadd, [], 0), (.iaload, [], 0),
  (.aload_n 0, [], 0), (.iload_n 3, [], 0), (.iconst 2, [], 0), (.iadd, [], 0), (.iaload, [], 0), (.invokevirtual 35, [57, 3, 9, 1], 0),
  (.if_icmp .eq 381, [451], 0), (.iconst 0, [], 0), (.ireturn, [], 0), (.aload_n 1, [], 0), (.aload_n 0, [], 0), (.iload_n 3, [], 0),
  (.iconst 1, [], 0), (.iadd, [], 0), (.iaload, [], 0), (.aload_n 0, [], 0), (.iload_n 3, [], 0), (.iconst 2, [], 0),
  (.iadd, [], 0), (.iaload, [], 0), (.invokevirtual 36, [31, 3, 8, 1], 0), (.aload_n 2, [], 0), (.aload_n 0, [], 0), (.iload_n 3, [], 0),
  (.iconst 1, [], 0), (.iadd, [], 0), (.iaload, [], 0), (.aload_n 0, [], 0), (.iload_n 3, [], 0), (.iconst 2, [], 0),
  (.iadd, [], 0), (.iaload, [], 0), (.invokevirtual 39, [58, 3, 9, 1], 0), (.if_icmp .eq 348, [451], 0), (.iconst 0, [], 0), (.ireturn, [], 0),
  (.aload_n 1, [], 0), (.invokevirtual 40, [32, 1, 8, 1], 0), (.aload_n 2, [], 0), (.invokevirtual 44, [60, 1, 9, 1], 0), (.if_icmp .eq 335, [451], 0), (.iconst 0, [], 0),
  (.ireturn, [], 0), (.aload_n 1, [], 0), (.aload_n 0, [], 0), (.iload_n 3, [], 0), (.iconst 1, [], 0), (.iadd, [], 0),
  (.iaload, [], 0), (.aload_n 0, [], 0), (.iload_n 3, [], 0), (.iconst 2, [], 0), (.iadd, [], 0), (.iaload, [], 0),
  (.invokevirtual 45, [33, 3, 8, 1], 0), (.aload_n 2, [], 0), (.aload_n 0, [], 0), (.iload_n 3, [], 0), (.iconst 1, [], 0), (.iadd, [], 0),
  (.iaload, [], 0), (.aload_n 0, [], 0), (.iload_n 3, [], 0), (.iconst 2, [], 0), (.iadd, [], 0), (.iaload, [], 0),
  (.invokevirtual 48, [68, 3, 9, 1], 0), (.if_icmp .eq 302, [451], 0), (.iconst 0, [], 0), (.ireturn, [], 0), (.aload_n 1, [], 0), (.aload_n 0, [], 0),
  (.iload_n 3, [], 0), (.iconst 1, [], 0), (.iadd, [], 0), (.iaload, [], 0), (.aload_n 0, [], 0), (.iload_n 3, [], 0),
  (.iconst 2, [], 0), (.iadd, [], 0), (.iaload, [], 0), (.invokevirtual 49, [34, 3, 8, 1], 0), (.aload_n 2, [], 0), (.aload_n 0, [], 0),
  (.iload_n 3, [], 0), (.iconst 1, [], 0), (.iadd, [], 0), (.iaload, [], 0), (.aload_n 0, [], 0), (.iload_n 3, [], 0),
  (.iconst 2, [], 0), (.iadd, [], 0), (.iaload, [], 0), (.invokevirtual 52, [69, 3, 9, 1], 0), (.if_icmp .eq 269, [451], 0), (.iconst 0, [], 0),
  (.ireturn, [], 0), (.aload_n 1, [], 0), (.aload_n 0, [], 0), (.iload_n 3, [], 0), (.iconst 1, [], 0), (.iadd, [], 0),
  (.iaload, [], 0), (.aload_n 0, [], 0), (.iload_n 3, [], 0), (.iconst 2, [], 0), (.iadd, [], 0), (.iaload, [], 0),
  (.invokevirtual 53, [35, 3, 8, 1], 0), (.aload_n 2, [], 0), (.aload_n 0, [], 0), (.iload_n 3, [], 0), (.iconst 1, [], 0), (.iadd, [], 0),
  (.iaload, [], 0), (.aload_n 0, [], 0), (.iload_n 3, [], 0), (.iconst 2, [], 0), (.iadd, [], 0), (.iaload, [], 0),
  (.invokevirtual 56, [70, 3, 9, 1], 0), (.if_icmp .eq 236, [451], 0), (.iconst 0, [], 0), (.ireturn, [], 0), (.aload_n 1, [], 0), (.aload_n 0, [], 0),
  (.iload_n 3, [], 0), (.iconst 1, [], 0), (.iadd, [], 0), (.iaload, [], 0), (.aload_n 0, [], 0), (.iload_n 3, [], 0),
  (.iconst 2, [], 0), (.iadd, [], 0), (.iaload, [], 0), (.aload_n 0, [], 0), (.iload_n 3, [], 0), (.iconst 3, [], 0),
  (.iadd, [], 0), (.iaload, [], 0), (.invokevirtual 57, [36, 4, 8, 1], 0), (.aload_n 2, [], 0), (.aload_n 0, [], 0), (.iload_n 3, [], 0),
  (.iconst 1, [], 0), (.iadd, [], 0), (.iaload, [], 0), (.aload_n 0, [], 0), (.iload_n 3, [], 0), (.iconst 2, [], 0),
  (.iadd, [], 0), (.iaload, [], 0), (.aload_n 0, [], 0), (.iload_n 3, [], 0), (.iconst 3, [], 0), (.iadd, [], 0),
  (.iaload, [], 0), (.invokevirtual 60, [71, 4, 9, 1], 0), (.if_icmp .eq 193, [451], 0), (.iconst 0, [], 0), (.ireturn, [], 0), (.aload_n 1, [], 0),
  (.aload_n 0, [], 0), (.iload_n 3, [], 0), (.iconst 1, [], 0), (.iadd, [], 0), (.iaload, [], 0), (.aload_n 0, [], 0),
  (.iload_n 3, [], 0), (.iconst 2, [], 0), (.iadd, [], 0), (.iaload, [], 0), (.aload_n 0, [], 0), (.iload_n 3, [], 0),
  (.iconst 3, [], 0), (.iadd, [], 0), (.iaload, [], 0), (.invokevirtual 61, [37, 4, 8, 1], 0), (.aload_n 2, [], 0), (.aload_n 0, [], 0),
  (.iload_n 3, [], 0), (.iconst 1, [], 0), (.iadd, [], 0), (.iaload, [], 0), (.aload_n 0, [], 0), (.iload_n 3, [], 0),
  (.iconst 2, [], 0), (.iadd, [], 0), (.iaload, [], 0), (.aload_n 0, [], 0), (.iload_n 3, [], 0), (.iconst 3, [], 0),
  (.iadd, [], 0), (.iaload, [], 0), (.invokevirtual 64, [82, 4, 9, 1], 0), (.if_icmp .eq 150, [451], 0), (.iconst 0, [], 0), (.ireturn, [], 0),
  (.aload_n 1, [], 0), (.aload_n 0, [], 0), (.iload_n 3, [], 0), (.iconst 1, [], 0), (.iadd, [], 0), (.iaload, [], 0),
  (.aload_n 0, [], 0), (.iload_n 3, [], 0), (.iconst 2, [], 0), (.iadd, [], 0), (.iaload, [], 0), (.aload_n 0, [], 0),
  (.iload_n 3, [], 0), (.iconst 3, [], 0), (.iadd, [], 0), (.iaload, [], 0), (.invokevirtual 65, [38, 4, 8, 1], 0), (.aload_n 2, [], 0),
  (.aload_n 0, [], 0), (.iload_n 3, [], 0), (.iconst 1, [], 0), (.iadd, [], 0), (.iaload, [], 0), (.aload_n 0, [], 0),
  (.iload_n 3, [], 0), (.iconst 2, [], 0), (.iadd, [], 0), (.iaload, [], 0), (.aload_n 0, [], 0), (.iload_n 3, [], 0),
  (.iconst 3, [], 0), (.iadd, [], 0), (.iaload, [], 0), (.invokevirtual 68, [83, 4, 9, 1], 0), (.if_icmp .eq 107, [451], 0), (.iconst 0, [], 0),
  (.ireturn, [], 0), (.aload_n 1, [], 0), (.aload_n 0, [], 0), (.iload_n 3, [], 0), (.iconst 1, [], 0), (.iadd, [], 0),
  (.iaload, [], 0), (.aload_n 0, [], 0), (.iload_n 3, [], 0), (.iconst 2, [], 0), (.iadd, [], 0), (.iaload, [], 0),
  (.invokevirtual 69, [39, 3, 8, 1], 0), (.aload_n 2, [], 0), (.aload_n 0, [], 0), (.iload_n 3, [], 0), (.iconst 1, [], 0), (.iadd, [], 0),
  (.iaload, [], 0), (.aload_n 0, [], 0), (.iload_n 3, [], 0), (.iconst 2, [], 0), (.iadd, [], 0), (.iaload, [], 0),
  (.invokevirtual 72, [84, 3, 9, 1], 0), (.if_icmp .eq 74, [451], 0), (.iconst 0, [], 0), (.ireturn, [], 0), (.aload_n 1, [], 0), (.aload_n 0, [], 0),
  (.iload_n 3, [], 0), (.iconst 1, [], 0), (.iadd, [], 0), (.iaload, [], 0), (.invokevirtual 73, [40, 2, 8, 1], 0), (.aload_n 2, [], 0),
  (.aload_n 0, [], 0), (.iload_n 3, [], 0), (.iconst 1, [], 0), (.iadd, [], 0), (.iaload, [], 0), (.invokevirtual 76, [85, 2, 9, 1], 0),
  (.if_icmp .eq 51, [451], 0), (.iconst 0, [], 0), (.ireturn, [], 0), (.aload_n 1, [], 0), (.aload_n 0, [], 0), (.iload_n 3, [], 0),
  (.iconst 1, [], 0), (.iadd, [], 0), (.iaload, [], 0), (.invokevirtual 77, [41, 2, 8, 1], 0), (.aload_n 2, [], 0), (.aload_n 0, [], 0),
  (.iload_n 3, [], 0), (.iconst 1, [], 0), (.iadd, [], 0), (.iaload, [], 0), (.invokevirtual 80, [86, 2, 9, 1], 0), (.if_icmp .eq 28, [451], 0),
  (.iconst 0, [], 0), (.ireturn, [], 0), (.aload_n 1, [], 0), (.aload_n 0, [], 0), (.iload_n 3, [], 0), (.iconst 1, [], 0),
  (.iadd, [], 0), (.iaload, [], 0), (.invokevirtual 81, [42, 2, 8, 1], 0), (.aload_n 2, [], 0), (.aload_n 0, [], 0), (.iload_n 3, [], 0),
  (.iconst 1, [], 0), (.iadd, [], 0), (.iaload, [], 0), (.invokevirtual 84, [87, 2, 9, 1], 0), (.if_icmp .eq 5, [451], 0), (.iconst 0, [], 0),
  (.ireturn, [], 0), (.iinc 3 4, [], 0), (.goto (-632), [10], 0), (.iconst 1, [], 0), (.ireturn, [], 0)
]
def bp_140 : List Nat := [0, 3, 4, 7, 8, 11, 12, 15, 16, 17, 18, 19, 20, 21, 22, 23, 26, 27, 28, 29, 31, 32, 116, 117, 118, 119, 120, 121, 122, 123, 124, 125, 126, 127, 128, 129, 130, 131, 132, 135, 136, 137, 138, 139, 140, 141, 142, 143, 144, 145, 146, 147, 148, 149, 150, 151, 154, 157, 158, 159, 160, 161, 162, 163, 164, 165, 166, 167, 168, 169, 170, 173, 174, 175, 176, 177, 178, 179, 180, 181, 182, 183, 184, 187, 190, 191, 192, 193, 194, 195, 196, 197, 198, 201, 202, 203, 204, 205, 206, 207, 210, 213, 214, 215, 216, 217, 218, 219, 220, 221, 224, 225, 226, 227, 228, 229, 230, 233, 236, 237, 238, 239, 240, 241, 242, 243, 244, 245, 246, 247, 248, 249, 252, 253, 254, 255, 256, 257, 258, 259, 260, 261, 262, 263, 266, 269, 270, 271, 272, 273, 274, 275, 276, 277, 278, 279, 280, 281, 282, 285, 286, 287, 288, 289, 290, 291, 292, 293, 294, 295, 296, 299, 302, 303, 304, 305, 308, 309, 312, 315, 316, 317, 318, 319, 320, 321, 322, 323, 324, 325, 326, 327, 328, 331, 332, 333, 334, 335, 336, 337, 338, 339, 340, 341, 342, 345, 348, 349, 350, 351, 352, 353, 354, 355, 356, 357, 358, 359, 360, 361, 364, 365, 366, 367, 368, 369, 370, 371, 372, 373, 374, 375, 378, 381, 382, 383, 384, 385, 386, 387, 388, 389, 390, 391, 392, 393, 394, 397, 398, 399, 400, 401, 402, 403, 404, 405, 406, 407, 408, 411, 414, 415, 416, 417, 418, 419, 420, 421, 422, 423, 424, 425, 426, 427, 428, 429, 430, 431, 432, 435, 436, 437, 438, 439, 440, 441, 442, 443, 444, 445, 446, 447, 448, 449, 450, 451, 454, 457, 458, 459, 460, 461, 462, 463, 464, 465, 466, 467, 468, 469, 470, 471, 472, 473, 474, 475, 478, 479, 480, 481, 482, 483, 484, 485, 486, 487, 488, 489, 490, 491, 492, 493, 494, 497, 500, 501, 502, 503, 504, 505, 506, 507, 508, 509, 510, 511, 512, 513, 514, 515, 516, 517, 518, 521, 522, 523, 524, 525, 526, 527, 528, 529, 530, 531, 532, 533, 534, 535, 536, 537, 540, 543, 544, 545, 546, 547, 548, 549, 550, 551, 552, 553, 554, 555, 556, 559, 560, 561, 562, 563, 564, 565, 566, 567, 568, 569, 570, 573, 576, 577, 578, 579, 580, 581, 582, 583, 584, 587, 588, 589, 590, 591, 592, 593, 596, 599, 600, 601, 602, 603, 604, 605, 606, 607, 610, 611, 612, 613, 614, 615, 616, 619, 622, 623, 624, 625, 626, 627, 628, 629, 630, 633, 634, 635, 636, 637, 638, 639, 642, 645, 646, 647, 650, 653, 654, 655]
def cdL : List (List AI) := [cd_0, cd_1, cd_2, cd_3, cd_4, cd_5, cd_6, cd_7, cd_8, cd_9, cd_10, cd_11, cd_12, cd_13, cd_14, cd_15, cd_16, cd_17, cd_18, cd_19, cd_20, cd_21, cd_22, cd_23, cd_24, cd_25, cd_26, cd_27, cd_28, cd_29, cd_30, cd_31, cd_32, cd_33, cd_34, cd_35, cd_36, cd_37, cd_38, cd_39, cd_40, cd_41, cd_42, cd_43, cd_44, cd_45, cd_46, cd_47, cd_48, cd_49, cd_50, cd_51, cd_52, cd_53, cd_54, cd_55, cd_56, cd_57, cd_58, cd_59, cd_60, cd_61, cd_62, cd_63, cd_64, cd_65, cd_66, cd_67, cd_68, cd_69, cd_70, cd_71, cd_72, cd_73, cd_74, cd_75, cd_76, cd_77, cd_78, cd_79, cd_80, cd_81, cd_82, cd_83, cd_84, cd_85, cd_86, cd_87, cd_88, cd_89, cd_90, cd_91, cd_92, cd_93, cd_94, cd_95, cd_96, cd_97, cd_98, cd_99, cd_100, cd_101, cd_102, cd_103, cd_104, cd_105, cd_106, cd_107, cd_108, cd_109, cd_110, cd_111, cd_112, cd_113, cd_114, cd_115, cd_116, cd_117, cd_118, cd_119, cd_120, cd_121, cd_122, cd_123, cd_124, cd_125, cd_126, cd_127, cd_128, cd_129, cd_130, cd_131, cd_132, cd_133, cd_134, cd_135, cd_136, cd_137, cd_138, cd_139, cd_140]
def bpL : List (List Nat) := [bp_0, bp_1, bp_2, bp_3, bp_4, bp_5, bp_6, bp_7, bp_8, bp_9, bp_10, bp_11, bp_12, bp_13, bp_14, bp_15, bp_16, bp_17, bp_18, bp_19, bp_20, bp_21, bp_22, bp_23, bp_24, bp_25, bp_26, bp_27, bp_28, bp_29, bp_30, bp_31, bp_32, bp_33, bp_34, bp_35, bp_36, bp_37, bp_38, bp_39, bp_40, bp_41, bp_42, bp_43, bp_44, bp_45, bp_46, bp_47, bp_48, bp_49, bp_50, bp_51, bp_52, bp_53, bp_54, bp_55, bp_56, bp_57, bp_58, bp_59, bp_60, bp_61, bp_62, bp_63, bp_64, bp_65, bp_66, bp_67, bp_68, bp_69, bp_70, bp_71, bp_72, bp_73, bp_74, bp_75, bp_76, bp_77, bp_78, bp_79, bp_80, bp_81, bp_82, bp_83, bp_84, bp_85, bp_86, bp_87, bp_88, bp_89, bp_90, bp_91, bp_92, bp_93, bp_94, bp_95, bp_96, bp_97, bp_98, bp_99, bp_100, bp_101, bp_102, bp_103, bp_104, bp_105, bp_106, bp_107, bp_108, bp_109, bp_110, bp_111, bp_112, bp_113, bp_114, bp_115, bp_116, bp_117, bp_118, bp_119, bp_120, bp_121, bp_122, bp_123, bp_124, bp_125, bp_126, bp_127, bp_128, bp_129, bp_130, bp_131, bp_132, bp_133, bp_134, bp_135, bp_136, bp_137, bp_138, bp_139, bp_140]
