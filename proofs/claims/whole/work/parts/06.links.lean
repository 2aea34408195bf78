theorem gx_eq {α : Type} {d : α} {l : List α} {n : Nat} {a : α} (h : nth l n = some a) : gx d l n = a := by simp [gx, h]
def lw_at (i : Nat) (w : Cond) : Bool := decide (lw_tbl[i]? = some w)
theorem lw_mem {i : Nat} {w : Cond} (h : lw_at i w = true) : w ∈ lw_tbl := List.mem_of_getElem? (of_decide_eq_true h)
def fq (c k : Nat) : String × String × String × Bool := (kc (c - 1)).2.1 k
def tyq (q : Nat) (d : String) : Bool := match q with
  | 0 => decide (d = "I")
  | 1 => decide (d = "Z")
  | _ => !decide (d = "I") && !decide (d = "Z")
theorem lkf_ok : lkf.all (fun e => lw_at e.2.2.2.2.2 (.fieldLink (cn e.1) e.2.1 (kc (e.2.2.1 - 1)).1 (fq e.2.2.1 e.2.2.2.1).2.1 (fq e.2.2.1 e.2.2.2.1).2.2.1) && decide (e.2.2.2.1 < (kc (e.2.2.1 - 1)).2.2) && decide (0 < e.2.2.1) && decide (e.2.2.1 < 10) && tyq e.2.2.2.2.1 (fq e.2.2.1 e.2.2.2.1).2.2.1 && decide ((fq e.2.2.1 e.2.2.2.1).1 = (kc (e.2.2.1 - 1)).1)) = true := by decide +kernel
theorem lkm_ok : lkm.all (fun e => lw_at e.2.2.2 (.methodLink (cn e.1) e.2.1 (nm e.2.2.1))) = true := by decide +kernel
theorem lkn_ok : lkn.all (fun e => lw_at e.2.2.2 (.methodLinkNest (cn e.1) e.2.1 (nm e.2.2.1) "RegionStack")) = true := by decide +kernel
theorem lkx_ok : lkx.all (fun e => lw_at e.2.2 (.methodLink (cn e.1) e.2.1 Lib.Math.max.name)) = true := by decide +kernel
theorem lkc_ok : lkc.all (fun e => lw_at e.2.2.2 (.constant (cn e.1) e.2.1 (Int32.ofInt e.2.2.1)) && decide (-2147483648 ≤ e.2.2.1) && decide (e.2.2.1 ≤ 2147483647)) = true := by decide +kernel
theorem lkl_ok : lkl.all (fun e => lw_at e.2.2.2 (.constantLong (cn e.1) e.2.1 (Int64.ofInt e.2.2.1)) && decide (-2147483648 ≤ e.2.2.1) && decide (e.2.2.1 ≤ 2147483647)) = true := by decide +kernel
def plq (y : Nat) : Nat × Nat × Nat × Nat := gx (0, 0, 0, 0) plL y
def plOk (y : Nat) : Bool := lw_at (plq y).1 (.code (nm y) (byt y) (nl y) (rt y)) && lw_at (plq y).2.1 (.initialized (nm y).cls) && lw_at (plq y).2.2.1 (if isS y then .static (nm y) else .instanceMethod (nm y)) && (isS y || decide ((nm y).name = "<init>") || lw_at (plq y).2.2.2 (.selects (nm y).cls (nm y) (nm y))) && plainName (nm y).cls && decide ((nm y).cls ≠ "java/lang/invoke/MethodHandle" ∧ (nm y).cls ≠ "java/lang/invoke/VarHandle" ∧ (parseMethodDescriptor (nm y).desc).map (fun d => d.parameters.length) = some (np y)) && decide (nl y ≤ 13) && decide ((nm y).cls = cn (oc y)) && decide (np y + (if isS y then 0 else 1) ≤ nl y)
theorem pl_ok : (List.range 140).all plOk = true := by decide +kernel
theorem lw_good : lw_tbl.all goodWord = true := by decide +kernel
theorem lw_math : lw_tbl.any (fun w => decide (w = .static Lib.Math.max.name)) && lw_tbl.any (fun w => decide (w = .initialized "java/lang/Math")) && lw_tbl.any (fun w => decide (w = .code Lib.Math.max.name Lib.Math.max.code 2 (some .int))) = true := by decide +kernel
def inWs (c : Nat) (ps : List Nat) : Bool := (u_ws (kc c).1 (kc c).2.1 (kc c).2.2).zip ps |>.all (fun q => lw_at q.2 q.1)
theorem lay_0 : ∀ w ∈ u_ws (kc 0).1 (kc 0).2.1 (kc 0).2.2, w ∈ lw_tbl := by
  have h : (u_ws (kc 0).1 (kc 0).2.1 (kc 0).2.2) = [224, 226, 228, 230, 232, 234, 236, 238, 240].filterMap (fun i => lw_tbl[i]?) := by decide +kernel
  intro w hw; rw [h] at hw; obtain ⟨i, -, hi⟩ := List.mem_filterMap.mp hw; exact List.mem_of_getElem? hi
theorem nmq_0 : ∀ a, a < (kc 0).2.2 → ∀ b, b < (kc 0).2.2 → a ≠ b → ((kc 0).2.1 a).2.1 ≠ ((kc 0).2.1 b).2.1 := by decide +kernel
theorem lay_1 : ∀ w ∈ u_ws (kc 1).1 (kc 1).2.1 (kc 1).2.2, w ∈ lw_tbl := by
  have h : (u_ws (kc 1).1 (kc 1).2.1 (kc 1).2.2) = [248, 250, 252, 254].filterMap (fun i => lw_tbl[i]?) := by decide +kernel
  intro w hw; rw [h] at hw; obtain ⟨i, -, hi⟩ := List.mem_filterMap.mp hw; exact List.mem_of_getElem? hi
theorem nmq_1 : ∀ a, a < (kc 1).2.2 → ∀ b, b < (kc 1).2.2 → a ≠ b → ((kc 1).2.1 a).2.1 ≠ ((kc 1).2.1 b).2.1 := by decide +kernel
theorem lay_2 : ∀ w ∈ u_ws (kc 2).1 (kc 2).2.1 (kc 2).2.2, w ∈ lw_tbl := by
  have h : (u_ws (kc 2).1 (kc 2).2.1 (kc 2).2.2) = [114].filterMap (fun i => lw_tbl[i]?) := by decide +kernel
  intro w hw; rw [h] at hw; obtain ⟨i, -, hi⟩ := List.mem_filterMap.mp hw; exact List.mem_of_getElem? hi
theorem nmq_2 : ∀ a, a < (kc 2).2.2 → ∀ b, b < (kc 2).2.2 → a ≠ b → ((kc 2).2.1 a).2.1 ≠ ((kc 2).2.1 b).2.1 := by decide +kernel
theorem lay_3 : ∀ w ∈ u_ws (kc 3).1 (kc 3).2.1 (kc 3).2.2, w ∈ lw_tbl := by
  have h : (u_ws (kc 3).1 (kc 3).2.1 (kc 3).2.2) = [334, 336, 338, 340, 342, 344, 346, 348, 350, 352, 354, 356, 358, 360, 362, 364, 366, 368].filterMap (fun i => lw_tbl[i]?) := by decide +kernel
  intro w hw; rw [h] at hw; obtain ⟨i, -, hi⟩ := List.mem_filterMap.mp hw; exact List.mem_of_getElem? hi
theorem nmq_3 : ∀ a, a < (kc 3).2.2 → ∀ b, b < (kc 3).2.2 → a ≠ b → ((kc 3).2.1 a).2.1 ≠ ((kc 3).2.1 b).2.1 := by decide +kernel
theorem lay_4 : ∀ w ∈ u_ws (kc 4).1 (kc 4).2.1 (kc 4).2.2, w ∈ lw_tbl := by
  have h : (u_ws (kc 4).1 (kc 4).2.1 (kc 4).2.2) = [285, 287, 289, 291, 293, 295, 297, 299, 301, 303, 305, 307, 309].filterMap (fun i => lw_tbl[i]?) := by decide +kernel
  intro w hw; rw [h] at hw; obtain ⟨i, -, hi⟩ := List.mem_filterMap.mp hw; exact List.mem_of_getElem? hi
theorem nmq_4 : ∀ a, a < (kc 4).2.2 → ∀ b, b < (kc 4).2.2 → a ≠ b → ((kc 4).2.1 a).2.1 ≠ ((kc 4).2.1 b).2.1 := by decide +kernel
theorem lay_5 : ∀ w ∈ u_ws (kc 5).1 (kc 5).2.1 (kc 5).2.2, w ∈ lw_tbl := by
  have h : (u_ws (kc 5).1 (kc 5).2.1 (kc 5).2.2) = [172, 174, 176, 178, 180, 182, 184, 186, 188, 190, 192].filterMap (fun i => lw_tbl[i]?) := by decide +kernel
  intro w hw; rw [h] at hw; obtain ⟨i, -, hi⟩ := List.mem_filterMap.mp hw; exact List.mem_of_getElem? hi
theorem nmq_5 : ∀ a, a < (kc 5).2.2 → ∀ b, b < (kc 5).2.2 → a ≠ b → ((kc 5).2.1 a).2.1 ≠ ((kc 5).2.1 b).2.1 := by decide +kernel
theorem lay_6 : ∀ w ∈ u_ws (kc 6).1 (kc 6).2.1 (kc 6).2.2, w ∈ lw_tbl := by
  have h : (u_ws (kc 6).1 (kc 6).2.1 (kc 6).2.2) = [137, 139, 141, 143].filterMap (fun i => lw_tbl[i]?) := by decide +kernel
  intro w hw; rw [h] at hw; obtain ⟨i, -, hi⟩ := List.mem_filterMap.mp hw; exact List.mem_of_getElem? hi
theorem nmq_6 : ∀ a, a < (kc 6).2.2 → ∀ b, b < (kc 6).2.2 → a ≠ b → ((kc 6).2.1 a).2.1 ≠ ((kc 6).2.1 b).2.1 := by decide +kernel
theorem lay_7 : ∀ w ∈ u_ws (kc 7).1 (kc 7).2.1 (kc 7).2.2, w ∈ lw_tbl := by
  have h : (u_ws (kc 7).1 (kc 7).2.1 (kc 7).2.2) = [378, 380, 382, 384].filterMap (fun i => lw_tbl[i]?) := by decide +kernel
  intro w hw; rw [h] at hw; obtain ⟨i, -, hi⟩ := List.mem_filterMap.mp hw; exact List.mem_of_getElem? hi
theorem nmq_7 : ∀ a, a < (kc 7).2.2 → ∀ b, b < (kc 7).2.2 → a ≠ b → ((kc 7).2.1 a).2.1 ≠ ((kc 7).2.1 b).2.1 := by decide +kernel
theorem lay_8 : ∀ w ∈ u_ws (kc 8).1 (kc 8).2.1 (kc 8).2.2, w ∈ lw_tbl := by
  have h : (u_ws (kc 8).1 (kc 8).2.1 (kc 8).2.2) = [795, 797, 799, 801, 803, 805, 807, 809, 811, 813, 815, 817, 819, 821, 823, 825, 827, 829, 831, 833, 835, 837, 839, 841, 843, 845, 847, 849, 851, 853, 855, 857, 859, 861, 863, 865, 867, 869, 871, 873, 875, 877, 879].filterMap (fun i => lw_tbl[i]?) := by decide +kernel
  intro w hw; rw [h] at hw; obtain ⟨i, -, hi⟩ := List.mem_filterMap.mp hw; exact List.mem_of_getElem? hi
theorem nmq_8 : ∀ a, a < (kc 8).2.2 → ∀ b, b < (kc 8).2.2 → a ≠ b → ((kc 8).2.1 a).2.1 ≠ ((kc 8).2.1 b).2.1 := by decide +kernel
def tyL : List (Nat → FieldType) := [tyX0, tyX1, tyX2, tyX3, tyX4, tyX5, tyX6, tyX7, tyX8]
def ty0 (c : Nat) : Nat → FieldType := gx (fun _ => .int) tyL c
theorem tyq_0 : ∀ k, k < (kc 0).2.2 → parseFieldDescriptor ((kc 0).2.1 k).2.2.1 = some (ty0 0 k) := by decide +kernel
theorem tyq_1 : ∀ k, k < (kc 1).2.2 → parseFieldDescriptor ((kc 1).2.1 k).2.2.1 = some (ty0 1 k) := by decide +kernel
theorem tyq_2 : ∀ k, k < (kc 2).2.2 → parseFieldDescriptor ((kc 2).2.1 k).2.2.1 = some (ty0 2 k) := by decide +kernel
theorem tyq_3 : ∀ k, k < (kc 3).2.2 → parseFieldDescriptor ((kc 3).2.1 k).2.2.1 = some (ty0 3 k) := by decide +kernel
theorem tyq_4 : ∀ k, k < (kc 4).2.2 → parseFieldDescriptor ((kc 4).2.1 k).2.2.1 = some (ty0 4 k) := by decide +kernel
theorem tyq_5 : ∀ k, k < (kc 5).2.2 → parseFieldDescriptor ((kc 5).2.1 k).2.2.1 = some (ty0 5 k) := by decide +kernel
theorem tyq_6 : ∀ k, k < (kc 6).2.2 → parseFieldDescriptor ((kc 6).2.1 k).2.2.1 = some (ty0 6 k) := by decide +kernel
theorem tyq_7 : ∀ k, k < (kc 7).2.2 → parseFieldDescriptor ((kc 7).2.1 k).2.2.1 = some (ty0 7 k) := by decide +kernel
theorem tyq_8 : ∀ k, k < (kc 8).2.2 → parseFieldDescriptor ((kc 8).2.1 k).2.2.1 = some (ty0 8 k) := by decide +kernel
theorem lay_all {c : Nat} (hc : c < 9) : ∀ w ∈ u_ws (kc c).1 (kc c).2.1 (kc c).2.2, w ∈ lw_tbl := by
  match c, hc with
  | 0, _ => exact lay_0
  | 1, _ => exact lay_1
  | 2, _ => exact lay_2
  | 3, _ => exact lay_3
  | 4, _ => exact lay_4
  | 5, _ => exact lay_5
  | 6, _ => exact lay_6
  | 7, _ => exact lay_7
  | 8, _ => exact lay_8
  | c + 9, h => exact absurd h (by omega)
theorem nmq_all {c : Nat} (hc : c < 9) : ∀ a, a < (kc c).2.2 → ∀ b, b < (kc c).2.2 → a ≠ b → ((kc c).2.1 a).2.1 ≠ ((kc c).2.1 b).2.1 := by
  match c, hc with
  | 0, _ => exact nmq_0
  | 1, _ => exact nmq_1
  | 2, _ => exact nmq_2
  | 3, _ => exact nmq_3
  | 4, _ => exact nmq_4
  | 5, _ => exact nmq_5
  | 6, _ => exact nmq_6
  | 7, _ => exact nmq_7
  | 8, _ => exact nmq_8
  | c + 9, h => exact absurd h (by omega)
theorem tyq_all {c : Nat} (hc : c < 9) : ∀ k, k < (kc c).2.2 → parseFieldDescriptor ((kc c).2.1 k).2.2.1 = some (ty0 c k) := by
  match c, hc with
  | 0, _ => exact tyq_0
  | 1, _ => exact tyq_1
  | 2, _ => exact tyq_2
  | 3, _ => exact tyq_3
  | 4, _ => exact tyq_4
  | 5, _ => exact tyq_5
  | 6, _ => exact tyq_6
  | 7, _ => exact tyq_7
  | 8, _ => exact tyq_8
  | c + 9, h => exact absurd h (by omega)
theorem kc_at {c : Nat} (hc : c < 9) : vwCl[c]? = some (kc c) := by
  match c, hc with
  | 0, _ => rfl
  | 1, _ => rfl
  | 2, _ => rfl
  | 3, _ => rfl
  | 4, _ => rfl
  | 5, _ => rfl
  | 6, _ => rfl
  | 7, _ => rfl
  | 8, _ => rfl
  | c + 9, h => exact absurd h (by omega)
theorem chk_all {y : Nat} (hy : y < 141) (hn : y ∉ inL) : chkM (oc y) (byt y) (bp y) 0 (cd y) = true := by
  match y, hy, hn with
  | 0, _, _ => exact chk_0
  | 1, _, _ => exact chk_1
  | 2, _, _ => exact chk_2
  | 3, _, _ => exact chk_3
  | 4, _, _ => exact chk_4
  | 5, _, _ => exact chk_5
  | 6, _, _ => exact chk_6
  | 7, _, _ => exact chk_7
  | 8, _, _ => exact chk_8
  | 9, _, _ => exact chk_9
  | 10, _, _ => exact chk_10
  | 11, _, _ => exact chk_11
  | 12, _, _ => exact chk_12
  | 13, _, _ => exact chk_13
  | 14, _, _ => exact chk_14
  | 15, _, _ => exact chk_15
  | 16, _, _ => exact chk_16
  | 17, _, _ => exact chk_17
  | 18, _, _ => exact chk_18
  | 19, _, _ => exact chk_19
  | 20, _, _ => exact chk_20
  | 21, _, _ => exact chk_21
  | 22, _, _ => exact chk_22
  | 23, _, _ => exact chk_23
  | 24, _, _ => exact chk_24
  | 25, _, h => exact absurd (by decide) h
  | 26, _, _ => exact chk_26
  | 27, _, _ => exact chk_27
  | 28, _, _ => exact chk_28
  | 29, _, _ => exact chk_29
  | 30, _, _ => exact chk_30
  | 31, _, _ => exact chk_31
  | 32, _, _ => exact chk_32
  | 33, _, _ => exact chk_33
  | 34, _, _ => exact chk_34
  | 35, _, _ => exact chk_35
  | 36, _, _ => exact chk_36
  | 37, _, _ => exact chk_37
  | 38, _, _ => exact chk_38
  | 39, _, _ => exact chk_39
  | 40, _, _ => exact chk_40
  | 41, _, _ => exact chk_41
  | 42, _, _ => exact chk_42
  | 43, _, _ => exact chk_43
  | 44, _, _ => exact chk_44
  | 45, _, _ => exact chk_45
  | 46, _, _ => exact chk_46
  | 47, _, h => exact absurd (by decide) h
  | 48, _, _ => exact chk_48
  | 49, _, _ => exact chk_49
  | 50, _, _ => exact chk_50
  | 51, _, _ => exact chk_51
  | 52, _, _ => exact chk_52
  | 53, _, _ => exact chk_53
  | 54, _, _ => exact chk_54
  | 55, _, _ => exact chk_55
  | 56, _, _ => exact chk_56
  | 57, _, _ => exact chk_57
  | 58, _, _ => exact chk_58
  | 59, _, _ => exact chk_59
  | 60, _, _ => exact chk_60
  | 61, _, _ => exact chk_61
  | 62, _, _ => exact chk_62
  | 63, _, _ => exact chk_63
  | 64, _, _ => exact chk_64
  | 65, _, _ => exact chk_65
  | 66, _, _ => exact chk_66
  | 67, _, _ => exact chk_67
  | 68, _, _ => exact chk_68
  | 69, _, _ => exact chk_69
  | 70, _, _ => exact chk_70
  | 71, _, _ => exact chk_71
  | 72, _, _ => exact chk_72
  | 73, _, _ => exact chk_73
  | 74, _, _ => exact chk_74
  | 75, _, _ => exact chk_75
  | 76, _, _ => exact chk_76
  | 77, _, _ => exact chk_77
  | 78, _, _ => exact chk_78
  | 79, _, _ => exact chk_79
  | 80, _, _ => exact chk_80
  | 81, _, _ => exact chk_81
  | 82, _, _ => exact chk_82
  | 83, _, _ => exact chk_83
  | 84, _, _ => exact chk_84
  | 85, _, _ => exact chk_85
  | 86, _, _ => exact chk_86
  | 87, _, _ => exact chk_87
  | 88, _, h => exact absurd (by decide) h
  | 89, _, _ => exact chk_89
  | 90, _, _ => exact chk_90
  | 91, _, _ => exact chk_91
  | 92, _, _ => exact chk_92
  | 93, _, _ => exact chk_93
  | 94, _, _ => exact chk_94
  | 95, _, _ => exact chk_95
  | 96, _, _ => exact chk_96
  | 97, _, _ => exact chk_97
  | 98, _, _ => exact chk_98
  | 99, _, _ => exact chk_99
  | 100, _, _ => exact chk_100
  | 101, _, _ => exact chk_101
  | 102, _, h => exact absurd (by decide) h
  | 103, _, _ => exact chk_103
  | 104, _, _ => exact chk_104
  | 105, _, _ => exact chk_105
  | 106, _, _ => exact chk_106
  | 107, _, _ => exact chk_107
  | 108, _, _ => exact chk_108
  | 109, _, _ => exact chk_109
  | 110, _, _ => exact chk_110
  | 111, _, h => exact absurd (by decide) h
  | 112, _, h => exact absurd (by decide) h
  | 113, _, _ => exact chk_113
  | 114, _, _ => exact chk_114
  | 115, _, _ => exact chk_115
  | 116, _, _ => exact chk_116
  | 117, _, _ => exact chk_117
  | 118, _, _ => exact chk_118
  | 119, _, _ => exact chk_119
  | 120, _, _ => exact chk_120
  | 121, _, _ => exact chk_121
  | 122, _, _ => exact chk_122
  | 123, _, _ => exact chk_123
  | 124, _, _ => exact chk_124
  | 125, _, _ => exact chk_125
  | 126, _, h => exact absurd (by decide) h
  | 127, _, _ => exact chk_127
  | 128, _, _ => exact chk_128
  | 129, _, _ => exact chk_129
  | 130, _, _ => exact chk_130
  | 131, _, h => exact absurd (by decide) h
  | 132, _, _ => exact chk_132
  | 133, _, _ => exact chk_133
  | 134, _, _ => exact chk_134
  | 135, _, _ => exact chk_135
  | 136, _, _ => exact chk_136
  | 137, _, _ => exact chk_137
  | 138, _, h => exact absurd (by decide) h
  | 139, _, _ => exact chk_139
  | 140, _, _ => exact chk_140
  | y + 141, h, _ => exact absurd h (by omega)
