theorem gx_eq {α : Type} {d : α} {l : List α} {n : Nat} {a : α} (h : nth l n = some a) : gx d l n = a := by simp [gx, h]
def lw_at (i : Nat) (w : Cond) : Bool := decide (lw_tbl[i]? = some w)
theorem lw_mem {i : Nat} {w : Cond} (h : lw_at i w = true) : w ∈ lw_tbl := List.mem_of_getElem? (of_decide_eq_true h)
def fq (c k : Nat) : String × String × String × Bool := (kc (c - 1)).2.1 k
def tyq (q : Nat) (d : String) : Bool := match q with
  | 0 => decide (d = "I")
  | 1 => decide (d = "Z")
  | _ => !decide (d = "I") && !decide (d = "Z")
theorem lkf_ok : lkf.all (fun e => lw_at e.2.2.2.2.2 (.fieldLink (cn e.1) e.2.1 (kc (e.2.2.1 - 1)).1 (fq e.2.2.1 e.2.2.2.1).2.1 (fq e.2.2.1 e.2.2.2.1).2.2.1) && decide (e.2.2.2.1 < (kc (e.2.2.1 - 1)).2.2) && decide (0 < e.2.2.1) && decide (e.2.2.1 < 10) && tyq e.2.2.2.2.1 (fq e.2.2.1 e.2.2.2.1).2.2.1 && decide ((fq e.2.2.1 e.2.2.2.1).1 = (kc (e.2.2.1 - 1)).1) && (decide (e.2.2.2.2.1 = 2) || !(fq e.2.2.1 e.2.2.2.1).2.2.2)) = true := by decide +kernel
theorem lkm_ok : lkm.all (fun e => lw_at e.2.2.2 (.methodLink (cn e.1) e.2.1 (nm e.2.2.1))) = true := by decide +kernel
theorem lkn_ok : lkn.all (fun e => lw_at e.2.2.2 (.methodLinkNest (cn e.1) e.2.1 (nm e.2.2.1) "RegionStack")) = true := by decide +kernel
theorem lkx_ok : lkx.all (fun e => lw_at e.2.2 (.methodLink (cn e.1) e.2.1 Lib.Math.max.name)) = true := by decide +kernel
theorem lkc_ok : lkc.all (fun e => lw_at e.2.2.2 (.constant (cn e.1) e.2.1 (Int32.ofInt e.2.2.1)) && decide (-2147483648 ≤ e.2.2.1) && decide (e.2.2.1 ≤ 2147483647)) = true := by decide +kernel
theorem lkl_ok : lkl.all (fun e => lw_at e.2.2.2 (.constantLong (cn e.1) e.2.1 (Int64.ofInt e.2.2.1)) && decide (-2147483648 ≤ e.2.2.1) && decide (e.2.2.1 ≤ 2147483647)) = true := by decide +kernel
def plq (y : Nat) : Nat × Nat × Nat × Nat := gx (0, 0, 0, 0) plL y
def plOk (y : Nat) : Bool := lw_at (plq y).2.1 (.initialized (nm y).cls) && lw_at (plq y).2.2.1 (if isS y then .static (nm y) else .instanceMethod (nm y)) && (isS y || decide ((nm y).name = "<init>") || lw_at (plq y).2.2.2 (.selects (nm y).cls (nm y) (nm y))) && plainName (nm y).cls && decide ((nm y).cls ≠ "java/lang/invoke/MethodHandle" ∧ (nm y).cls ≠ "java/lang/invoke/VarHandle" ∧ (parseMethodDescriptor (nm y).desc).map (fun d => d.parameters.length) = some (np y)) && decide (nl y ≤ 13) && decide ((nm y).cls = cn (oc y)) && decide (np y + (if isS y then 0 else 1) ≤ nl y)
theorem pl_ok : (List.range 140).all plOk = true := by decide +kernel
theorem cn_kc : (List.range 9).all (fun c => decide (cn c = (kc c).1)) = true := by decide +kernel
def rtOk (y : Nat) : Bool := (cd y).all (fun ins => match ins.1 with
  | .ireturn => (match rt y with
    | some .int => true
    | some .boolean => true
    | _ => false)
  | .areturn => (match rt y with
    | some (.object _) => true
    | _ => false)
  | .return_ => (match rt y with
    | none => true
    | _ => false)
  | .lreturn => false
  | _ => true)
theorem rt_ok : (List.range 140).all rtOk = true := by decide +kernel
set_option maxRecDepth 100000 in
theorem pc_0 : lw_tbl[414]? = some (.code (nm 0) (byt 0) (nl 0) (rt 0)) := rfl
set_option maxRecDepth 100000 in
theorem pc_1 : lw_tbl[435]? = some (.code (nm 1) (byt 1) (nl 1) (rt 1)) := rfl
set_option maxRecDepth 100000 in
theorem pc_2 : lw_tbl[456]? = some (.code (nm 2) (byt 2) (nl 2) (rt 2)) := rfl
set_option maxRecDepth 100000 in
theorem pc_3 : lw_tbl[398]? = some (.code (nm 3) (byt 3) (nl 3) (rt 3)) := rfl
set_option maxRecDepth 100000 in
theorem pc_4 : lw_tbl[431]? = some (.code (nm 4) (byt 4) (nl 4) (rt 4)) := rfl
set_option maxRecDepth 100000 in
theorem pc_5 : lw_tbl[462]? = some (.code (nm 5) (byt 5) (nl 5) (rt 5)) := rfl
set_option maxRecDepth 100000 in
theorem pc_6 : lw_tbl[467]? = some (.code (nm 6) (byt 6) (nl 6) (rt 6)) := rfl
set_option maxRecDepth 100000 in
theorem pc_7 : lw_tbl[470]? = some (.code (nm 7) (byt 7) (nl 7) (rt 7)) := rfl
set_option maxRecDepth 100000 in
theorem pc_8 : lw_tbl[459]? = some (.code (nm 8) (byt 8) (nl 8) (rt 8)) := rfl
set_option maxRecDepth 100000 in
theorem pc_9 : lw_tbl[891]? = some (.code (nm 9) (byt 9) (nl 9) (rt 9)) := rfl
set_option maxRecDepth 100000 in
theorem pc_10 : lw_tbl[888]? = some (.code (nm 10) (byt 10) (nl 10) (rt 10)) := rfl
set_option maxRecDepth 100000 in
theorem pc_11 : lw_tbl[910]? = some (.code (nm 11) (byt 11) (nl 11) (rt 11)) := rfl
set_option maxRecDepth 100000 in
theorem pc_12 : lw_tbl[913]? = some (.code (nm 12) (byt 12) (nl 12) (rt 12)) := rfl
set_option maxRecDepth 100000 in
theorem pc_13 : lw_tbl[965]? = some (.code (nm 13) (byt 13) (nl 13) (rt 13)) := rfl
set_option maxRecDepth 100000 in
theorem pc_14 : lw_tbl[933]? = some (.code (nm 14) (byt 14) (nl 14) (rt 14)) := rfl
set_option maxRecDepth 100000 in
theorem pc_15 : lw_tbl[395]? = some (.code (nm 15) (byt 15) (nl 15) (rt 15)) := rfl
set_option maxRecDepth 100000 in
theorem pc_16 : lw_tbl[516]? = some (.code (nm 16) (byt 16) (nl 16) (rt 16)) := rfl
set_option maxRecDepth 100000 in
theorem pc_17 : lw_tbl[402]? = some (.code (nm 17) (byt 17) (nl 17) (rt 17)) := rfl
set_option maxRecDepth 100000 in
theorem pc_18 : lw_tbl[410]? = some (.code (nm 18) (byt 18) (nl 18) (rt 18)) := rfl
set_option maxRecDepth 100000 in
theorem pc_19 : lw_tbl[428]? = some (.code (nm 19) (byt 19) (nl 19) (rt 19)) := rfl
set_option maxRecDepth 100000 in
theorem pc_20 : lw_tbl[424]? = some (.code (nm 20) (byt 20) (nl 20) (rt 20)) := rfl
set_option maxRecDepth 100000 in
theorem pc_21 : lw_tbl[508]? = some (.code (nm 21) (byt 21) (nl 21) (rt 21)) := rfl
set_option maxRecDepth 100000 in
theorem pc_22 : lw_tbl[701]? = some (.code (nm 22) (byt 22) (nl 22) (rt 22)) := rfl
set_option maxRecDepth 100000 in
theorem pc_23 : lw_tbl[973]? = some (.code (nm 23) (byt 23) (nl 23) (rt 23)) := rfl
set_option maxRecDepth 100000 in
theorem pc_24 : lw_tbl[969]? = some (.code (nm 24) (byt 24) (nl 24) (rt 24)) := rfl
set_option maxRecDepth 100000 in
theorem pc_25 : lw_tbl[72]? = some (.code (nm 25) (byt 25) (nl 25) (rt 25)) := rfl
set_option maxRecDepth 100000 in
theorem pc_26 : lw_tbl[391]? = some (.code (nm 26) (byt 26) (nl 26) (rt 26)) := rfl
set_option maxRecDepth 100000 in
theorem pc_27 : lw_tbl[439]? = some (.code (nm 27) (byt 27) (nl 27) (rt 27)) := rfl
set_option maxRecDepth 100000 in
theorem pc_28 : lw_tbl[488]? = some (.code (nm 28) (byt 28) (nl 28) (rt 28)) := rfl
set_option maxRecDepth 100000 in
theorem pc_29 : lw_tbl[492]? = some (.code (nm 29) (byt 29) (nl 29) (rt 29)) := rfl
set_option maxRecDepth 100000 in
theorem pc_30 : lw_tbl[496]? = some (.code (nm 30) (byt 30) (nl 30) (rt 30)) := rfl
set_option maxRecDepth 100000 in
theorem pc_31 : lw_tbl[512]? = some (.code (nm 31) (byt 31) (nl 31) (rt 31)) := rfl
set_option maxRecDepth 100000 in
theorem pc_32 : lw_tbl[522]? = some (.code (nm 32) (byt 32) (nl 32) (rt 32)) := rfl
set_option maxRecDepth 100000 in
theorem pc_33 : lw_tbl[597]? = some (.code (nm 33) (byt 33) (nl 33) (rt 33)) := rfl
set_option maxRecDepth 100000 in
theorem pc_34 : lw_tbl[601]? = some (.code (nm 34) (byt 34) (nl 34) (rt 34)) := rfl
set_option maxRecDepth 100000 in
theorem pc_35 : lw_tbl[605]? = some (.code (nm 35) (byt 35) (nl 35) (rt 35)) := rfl
set_option maxRecDepth 100000 in
theorem pc_36 : lw_tbl[613]? = some (.code (nm 36) (byt 36) (nl 36) (rt 36)) := rfl
set_option maxRecDepth 100000 in
theorem pc_37 : lw_tbl[621]? = some (.code (nm 37) (byt 37) (nl 37) (rt 37)) := rfl
set_option maxRecDepth 100000 in
theorem pc_38 : lw_tbl[714]? = some (.code (nm 38) (byt 38) (nl 38) (rt 38)) := rfl
set_option maxRecDepth 100000 in
theorem pc_39 : lw_tbl[718]? = some (.code (nm 39) (byt 39) (nl 39) (rt 39)) := rfl
set_option maxRecDepth 100000 in
theorem pc_40 : lw_tbl[727]? = some (.code (nm 40) (byt 40) (nl 40) (rt 40)) := rfl
set_option maxRecDepth 100000 in
theorem pc_41 : lw_tbl[741]? = some (.code (nm 41) (byt 41) (nl 41) (rt 41)) := rfl
set_option maxRecDepth 100000 in
theorem pc_42 : lw_tbl[745]? = some (.code (nm 42) (byt 42) (nl 42) (rt 42)) := rfl
set_option maxRecDepth 100000 in
theorem pc_43 : lw_tbl[444]? = some (.code (nm 43) (byt 43) (nl 43) (rt 43)) := rfl
set_option maxRecDepth 100000 in
theorem pc_44 : lw_tbl[731]? = some (.code (nm 44) (byt 44) (nl 44) (rt 44)) := rfl
set_option maxRecDepth 100000 in
theorem pc_45 : lw_tbl[625]? = some (.code (nm 45) (byt 45) (nl 45) (rt 45)) := rfl
set_option maxRecDepth 100000 in
theorem pc_46 : lw_tbl[721]? = some (.code (nm 46) (byt 46) (nl 46) (rt 46)) := rfl
set_option maxRecDepth 100000 in
theorem pc_47 : lw_tbl[750]? = some (.code (nm 47) (byt 47) (nl 47) (rt 47)) := rfl
set_option maxRecDepth 100000 in
theorem pc_48 : lw_tbl[885]? = some (.code (nm 48) (byt 48) (nl 48) (rt 48)) := rfl
set_option maxRecDepth 100000 in
theorem pc_49 : lw_tbl[895]? = some (.code (nm 49) (byt 49) (nl 49) (rt 49)) := rfl
set_option maxRecDepth 100000 in
theorem pc_50 : lw_tbl[899]? = some (.code (nm 50) (byt 50) (nl 50) (rt 50)) := rfl
set_option maxRecDepth 100000 in
theorem pc_51 : lw_tbl[907]? = some (.code (nm 51) (byt 51) (nl 51) (rt 51)) := rfl
set_option maxRecDepth 100000 in
theorem pc_52 : lw_tbl[903]? = some (.code (nm 52) (byt 52) (nl 52) (rt 52)) := rfl
set_option maxRecDepth 100000 in
theorem pc_53 : lw_tbl[937]? = some (.code (nm 53) (byt 53) (nl 53) (rt 53)) := rfl
set_option maxRecDepth 100000 in
theorem pc_54 : lw_tbl[929]? = some (.code (nm 54) (byt 54) (nl 54) (rt 54)) := rfl
set_option maxRecDepth 100000 in
theorem pc_55 : lw_tbl[925]? = some (.code (nm 55) (byt 55) (nl 55) (rt 55)) := rfl
set_option maxRecDepth 100000 in
theorem pc_56 : lw_tbl[921]? = some (.code (nm 56) (byt 56) (nl 56) (rt 56)) := rfl
set_option maxRecDepth 100000 in
theorem pc_57 : lw_tbl[917]? = some (.code (nm 57) (byt 57) (nl 57) (rt 57)) := rfl
set_option maxRecDepth 100000 in
theorem pc_58 : lw_tbl[941]? = some (.code (nm 58) (byt 58) (nl 58) (rt 58)) := rfl
set_option maxRecDepth 100000 in
theorem pc_59 : lw_tbl[949]? = some (.code (nm 59) (byt 59) (nl 59) (rt 59)) := rfl
set_option maxRecDepth 100000 in
theorem pc_60 : lw_tbl[945]? = some (.code (nm 60) (byt 60) (nl 60) (rt 60)) := rfl
set_option maxRecDepth 100000 in
theorem pc_61 : lw_tbl[961]? = some (.code (nm 61) (byt 61) (nl 61) (rt 61)) := rfl
set_option maxRecDepth 100000 in
theorem pc_62 : lw_tbl[957]? = some (.code (nm 62) (byt 62) (nl 62) (rt 62)) := rfl
set_option maxRecDepth 100000 in
theorem pc_63 : lw_tbl[977]? = some (.code (nm 63) (byt 63) (nl 63) (rt 63)) := rfl
set_option maxRecDepth 100000 in
theorem pc_64 : lw_tbl[985]? = some (.code (nm 64) (byt 64) (nl 64) (rt 64)) := rfl
set_option maxRecDepth 100000 in
theorem pc_65 : lw_tbl[981]? = some (.code (nm 65) (byt 65) (nl 65) (rt 65)) := rfl
set_option maxRecDepth 100000 in
theorem pc_66 : lw_tbl[993]? = some (.code (nm 66) (byt 66) (nl 66) (rt 66)) := rfl
set_option maxRecDepth 100000 in
theorem pc_67 : lw_tbl[989]? = some (.code (nm 67) (byt 67) (nl 67) (rt 67)) := rfl
set_option maxRecDepth 100000 in
theorem pc_68 : lw_tbl[953]? = some (.code (nm 68) (byt 68) (nl 68) (rt 68)) := rfl
set_option maxRecDepth 100000 in
theorem pc_69 : lw_tbl[997]? = some (.code (nm 69) (byt 69) (nl 69) (rt 69)) := rfl
set_option maxRecDepth 100000 in
theorem pc_70 : lw_tbl[1001]? = some (.code (nm 70) (byt 70) (nl 70) (rt 70)) := rfl
set_option maxRecDepth 100000 in
theorem pc_71 : lw_tbl[1005]? = some (.code (nm 71) (byt 71) (nl 71) (rt 71)) := rfl
set_option maxRecDepth 100000 in
theorem pc_72 : lw_tbl[1017]? = some (.code (nm 72) (byt 72) (nl 72) (rt 72)) := rfl
set_option maxRecDepth 100000 in
theorem pc_73 : lw_tbl[1049]? = some (.code (nm 73) (byt 73) (nl 73) (rt 73)) := rfl
set_option maxRecDepth 100000 in
theorem pc_74 : lw_tbl[1021]? = some (.code (nm 74) (byt 74) (nl 74) (rt 74)) := rfl
set_option maxRecDepth 100000 in
theorem pc_75 : lw_tbl[1025]? = some (.code (nm 75) (byt 75) (nl 75) (rt 75)) := rfl
set_option maxRecDepth 100000 in
theorem pc_76 : lw_tbl[1029]? = some (.code (nm 76) (byt 76) (nl 76) (rt 76)) := rfl
set_option maxRecDepth 100000 in
theorem pc_77 : lw_tbl[1045]? = some (.code (nm 77) (byt 77) (nl 77) (rt 77)) := rfl
set_option maxRecDepth 100000 in
theorem pc_78 : lw_tbl[1041]? = some (.code (nm 78) (byt 78) (nl 78) (rt 78)) := rfl
set_option maxRecDepth 100000 in
theorem pc_79 : lw_tbl[1037]? = some (.code (nm 79) (byt 79) (nl 79) (rt 79)) := rfl
set_option maxRecDepth 100000 in
theorem pc_80 : lw_tbl[1033]? = some (.code (nm 80) (byt 80) (nl 80) (rt 80)) := rfl
set_option maxRecDepth 100000 in
theorem pc_81 : lw_tbl[1013]? = some (.code (nm 81) (byt 81) (nl 81) (rt 81)) := rfl
set_option maxRecDepth 100000 in
theorem pc_82 : lw_tbl[1009]? = some (.code (nm 82) (byt 82) (nl 82) (rt 82)) := rfl
set_option maxRecDepth 100000 in
theorem pc_83 : lw_tbl[1053]? = some (.code (nm 83) (byt 83) (nl 83) (rt 83)) := rfl
set_option maxRecDepth 100000 in
theorem pc_84 : lw_tbl[1057]? = some (.code (nm 84) (byt 84) (nl 84) (rt 84)) := rfl
set_option maxRecDepth 100000 in
theorem pc_85 : lw_tbl[1063]? = some (.code (nm 85) (byt 85) (nl 85) (rt 85)) := rfl
set_option maxRecDepth 100000 in
theorem pc_86 : lw_tbl[1067]? = some (.code (nm 86) (byt 86) (nl 86) (rt 86)) := rfl
set_option maxRecDepth 100000 in
theorem pc_87 : lw_tbl[1071]? = some (.code (nm 87) (byt 87) (nl 87) (rt 87)) := rfl
set_option maxRecDepth 100000 in
theorem pc_88 : lw_tbl[93]? = some (.code (nm 88) (byt 88) (nl 88) (rt 88)) := rfl
set_option maxRecDepth 100000 in
theorem pc_89 : lw_tbl[609]? = some (.code (nm 89) (byt 89) (nl 89) (rt 89)) := rfl
set_option maxRecDepth 100000 in
theorem pc_90 : lw_tbl[539]? = some (.code (nm 90) (byt 90) (nl 90) (rt 90)) := rfl
set_option maxRecDepth 100000 in
theorem pc_91 : lw_tbl[545]? = some (.code (nm 91) (byt 91) (nl 91) (rt 91)) := rfl
set_option maxRecDepth 100000 in
theorem pc_92 : lw_tbl[549]? = some (.code (nm 92) (byt 92) (nl 92) (rt 92)) := rfl
set_option maxRecDepth 100000 in
theorem pc_93 : lw_tbl[556]? = some (.code (nm 93) (byt 93) (nl 93) (rt 93)) := rfl
set_option maxRecDepth 100000 in
theorem pc_94 : lw_tbl[560]? = some (.code (nm 94) (byt 94) (nl 94) (rt 94)) := rfl
set_option maxRecDepth 100000 in
theorem pc_95 : lw_tbl[569]? = some (.code (nm 95) (byt 95) (nl 95) (rt 95)) := rfl
set_option maxRecDepth 100000 in
theorem pc_96 : lw_tbl[585]? = some (.code (nm 96) (byt 96) (nl 96) (rt 96)) := rfl
set_option maxRecDepth 100000 in
theorem pc_97 : lw_tbl[617]? = some (.code (nm 97) (byt 97) (nl 97) (rt 97)) := rfl
set_option maxRecDepth 100000 in
theorem pc_98 : lw_tbl[589]? = some (.code (nm 98) (byt 98) (nl 98) (rt 98)) := rfl
set_option maxRecDepth 100000 in
theorem pc_99 : lw_tbl[573]? = some (.code (nm 99) (byt 99) (nl 99) (rt 99)) := rfl
set_option maxRecDepth 100000 in
theorem pc_100 : lw_tbl[581]? = some (.code (nm 100) (byt 100) (nl 100) (rt 100)) := rfl
set_option maxRecDepth 100000 in
theorem pc_101 : lw_tbl[577]? = some (.code (nm 101) (byt 101) (nl 101) (rt 101)) := rfl
set_option maxRecDepth 100000 in
theorem pc_102 : lw_tbl[86]? = some (.code (nm 102) (byt 102) (nl 102) (rt 102)) := rfl
set_option maxRecDepth 100000 in
theorem pc_103 : lw_tbl[406]? = some (.code (nm 103) (byt 103) (nl 103) (rt 103)) := rfl
set_option maxRecDepth 100000 in
theorem pc_104 : lw_tbl[418]? = some (.code (nm 104) (byt 104) (nl 104) (rt 104)) := rfl
set_option maxRecDepth 100000 in
theorem pc_105 : lw_tbl[500]? = some (.code (nm 105) (byt 105) (nl 105) (rt 105)) := rfl
set_option maxRecDepth 100000 in
theorem pc_106 : lw_tbl[504]? = some (.code (nm 106) (byt 106) (nl 106) (rt 106)) := rfl
set_option maxRecDepth 100000 in
theorem pc_107 : lw_tbl[526]? = some (.code (nm 107) (byt 107) (nl 107) (rt 107)) := rfl
set_option maxRecDepth 100000 in
theorem pc_108 : lw_tbl[530]? = some (.code (nm 108) (byt 108) (nl 108) (rt 108)) := rfl
set_option maxRecDepth 100000 in
theorem pc_109 : lw_tbl[535]? = some (.code (nm 109) (byt 109) (nl 109) (rt 109)) := rfl
set_option maxRecDepth 100000 in
theorem pc_110 : lw_tbl[565]? = some (.code (nm 110) (byt 110) (nl 110) (rt 110)) := rfl
set_option maxRecDepth 100000 in
theorem pc_111 : lw_tbl[111]? = some (.code (nm 111) (byt 111) (nl 111) (rt 111)) := rfl
set_option maxRecDepth 100000 in
theorem pc_112 : lw_tbl[80]? = some (.code (nm 112) (byt 112) (nl 112) (rt 112)) := rfl
set_option maxRecDepth 100000 in
theorem pc_113 : lw_tbl[710]? = some (.code (nm 113) (byt 113) (nl 113) (rt 113)) := rfl
set_option maxRecDepth 100000 in
theorem pc_114 : lw_tbl[629]? = some (.code (nm 114) (byt 114) (nl 114) (rt 114)) := rfl
set_option maxRecDepth 100000 in
theorem pc_115 : lw_tbl[634]? = some (.code (nm 115) (byt 115) (nl 115) (rt 115)) := rfl
set_option maxRecDepth 100000 in
theorem pc_116 : lw_tbl[651]? = some (.code (nm 116) (byt 116) (nl 116) (rt 116)) := rfl
set_option maxRecDepth 100000 in
theorem pc_117 : lw_tbl[693]? = some (.code (nm 117) (byt 117) (nl 117) (rt 117)) := rfl
set_option maxRecDepth 100000 in
theorem pc_118 : lw_tbl[660]? = some (.code (nm 118) (byt 118) (nl 118) (rt 118)) := rfl
set_option maxRecDepth 100000 in
theorem pc_119 : lw_tbl[664]? = some (.code (nm 119) (byt 119) (nl 119) (rt 119)) := rfl
set_option maxRecDepth 100000 in
theorem pc_120 : lw_tbl[669]? = some (.code (nm 120) (byt 120) (nl 120) (rt 120)) := rfl
set_option maxRecDepth 100000 in
theorem pc_121 : lw_tbl[675]? = some (.code (nm 121) (byt 121) (nl 121) (rt 121)) := rfl
set_option maxRecDepth 100000 in
theorem pc_122 : lw_tbl[681]? = some (.code (nm 122) (byt 122) (nl 122) (rt 122)) := rfl
set_option maxRecDepth 100000 in
theorem pc_123 : lw_tbl[689]? = some (.code (nm 123) (byt 123) (nl 123) (rt 123)) := rfl
set_option maxRecDepth 100000 in
theorem pc_124 : lw_tbl[697]? = some (.code (nm 124) (byt 124) (nl 124) (rt 124)) := rfl
set_option maxRecDepth 100000 in
theorem pc_125 : lw_tbl[706]? = some (.code (nm 125) (byt 125) (nl 125) (rt 125)) := rfl
set_option maxRecDepth 100000 in
theorem pc_126 : lw_tbl[261]? = some (.code (nm 126) (byt 126) (nl 126) (rt 126)) := rfl
set_option maxRecDepth 100000 in
theorem pc_127 : lw_tbl[638]? = some (.code (nm 127) (byt 127) (nl 127) (rt 127)) := rfl
set_option maxRecDepth 100000 in
theorem pc_128 : lw_tbl[643]? = some (.code (nm 128) (byt 128) (nl 128) (rt 128)) := rfl
set_option maxRecDepth 100000 in
theorem pc_129 : lw_tbl[685]? = some (.code (nm 129) (byt 129) (nl 129) (rt 129)) := rfl
set_option maxRecDepth 100000 in
theorem pc_130 : lw_tbl[655]? = some (.code (nm 130) (byt 130) (nl 130) (rt 130)) := rfl
set_option maxRecDepth 100000 in
theorem pc_131 : lw_tbl[99]? = some (.code (nm 131) (byt 131) (nl 131) (rt 131)) := rfl
set_option maxRecDepth 100000 in
theorem pc_132 : lw_tbl[593]? = some (.code (nm 132) (byt 132) (nl 132) (rt 132)) := rfl
set_option maxRecDepth 100000 in
theorem pc_133 : lw_tbl[448]? = some (.code (nm 133) (byt 133) (nl 133) (rt 133)) := rfl
set_option maxRecDepth 100000 in
theorem pc_134 : lw_tbl[452]? = some (.code (nm 134) (byt 134) (nl 134) (rt 134)) := rfl
set_option maxRecDepth 100000 in
theorem pc_135 : lw_tbl[474]? = some (.code (nm 135) (byt 135) (nl 135) (rt 135)) := rfl
set_option maxRecDepth 100000 in
theorem pc_136 : lw_tbl[478]? = some (.code (nm 136) (byt 136) (nl 136) (rt 136)) := rfl
set_option maxRecDepth 100000 in
theorem pc_137 : lw_tbl[483]? = some (.code (nm 137) (byt 137) (nl 137) (rt 137)) := rfl
set_option maxRecDepth 100000 in
theorem pc_138 : lw_tbl[105]? = some (.code (nm 138) (byt 138) (nl 138) (rt 138)) := rfl
set_option maxRecDepth 100000 in
theorem pc_139 : lw_tbl[735]? = some (.code (nm 139) (byt 139) (nl 139) (rt 139)) := rfl
theorem pc_all {y : Nat} (hy : y < 140) : (Cond.code (nm y) (byt y) (nl y) (rt y)) ∈ lw_tbl := by
  match y, hy with
  | 0, _ => exact List.mem_of_getElem? pc_0
  | 1, _ => exact List.mem_of_getElem? pc_1
  | 2, _ => exact List.mem_of_getElem? pc_2
  | 3, _ => exact List.mem_of_getElem? pc_3
  | 4, _ => exact List.mem_of_getElem? pc_4
  | 5, _ => exact List.mem_of_getElem? pc_5
  | 6, _ => exact List.mem_of_getElem? pc_6
  | 7, _ => exact List.mem_of_getElem? pc_7
  | 8, _ => exact List.mem_of_getElem? pc_8
  | 9, _ => exact List.mem_of_getElem? pc_9
  | 10, _ => exact List.mem_of_getElem? pc_10
  | 11, _ => exact List.mem_of_getElem? pc_11
  | 12, _ => exact List.mem_of_getElem? pc_12
  | 13, _ => exact List.mem_of_getElem? pc_13
  | 14, _ => exact List.mem_of_getElem? pc_14
  | 15, _ => exact List.mem_of_getElem? pc_15
  | 16, _ => exact List.mem_of_getElem? pc_16
  | 17, _ => exact List.mem_of_getElem? pc_17
  | 18, _ => exact List.mem_of_getElem? pc_18
  | 19, _ => exact List.mem_of_getElem? pc_19
  | 20, _ => exact List.mem_of_getElem? pc_20
  | 21, _ => exact List.mem_of_getElem? pc_21
  | 22, _ => exact List.mem_of_getElem? pc_22
  | 23, _ => exact List.mem_of_getElem? pc_23
  | 24, _ => exact List.mem_of_getElem? pc_24
  | 25, _ => exact List.mem_of_getElem? pc_25
  | 26, _ => exact List.mem_of_getElem? pc_26
  | 27, _ => exact List.mem_of_getElem? pc_27
  | 28, _ => exact List.mem_of_getElem? pc_28
  | 29, _ => exact List.mem_of_getElem? pc_29
  | 30, _ => exact List.mem_of_getElem? pc_30
  | 31, _ => exact List.mem_of_getElem? pc_31
  | 32, _ => exact List.mem_of_getElem? pc_32
  | 33, _ => exact List.mem_of_getElem? pc_33
  | 34, _ => exact List.mem_of_getElem? pc_34
  | 35, _ => exact List.mem_of_getElem? pc_35
  | 36, _ => exact List.mem_of_getElem? pc_36
  | 37, _ => exact List.mem_of_getElem? pc_37
  | 38, _ => exact List.mem_of_getElem? pc_38
  | 39, _ => exact List.mem_of_getElem? pc_39
  | 40, _ => exact List.mem_of_getElem? pc_40
  | 41, _ => exact List.mem_of_getElem? pc_41
  | 42, _ => exact List.mem_of_getElem? pc_42
  | 43, _ => exact List.mem_of_getElem? pc_43
  | 44, _ => exact List.mem_of_getElem? pc_44
  | 45, _ => exact List.mem_of_getElem? pc_45
  | 46, _ => exact List.mem_of_getElem? pc_46
  | 47, _ => exact List.mem_of_getElem? pc_47
  | 48, _ => exact List.mem_of_getElem? pc_48
  | 49, _ => exact List.mem_of_getElem? pc_49
  | 50, _ => exact List.mem_of_getElem? pc_50
  | 51, _ => exact List.mem_of_getElem? pc_51
  | 52, _ => exact List.mem_of_getElem? pc_52
  | 53, _ => exact List.mem_of_getElem? pc_53
  | 54, _ => exact List.mem_of_getElem? pc_54
  | 55, _ => exact List.mem_of_getElem? pc_55
  | 56, _ => exact List.mem_of_getElem? pc_56
  | 57, _ => exact List.mem_of_getElem? pc_57
  | 58, _ => exact List.mem_of_getElem? pc_58
  | 59, _ => exact List.mem_of_getElem? pc_59
  | 60, _ => exact List.mem_of_getElem? pc_60
  | 61, _ => exact List.mem_of_getElem? pc_61
  | 62, _ => exact List.mem_of_getElem? pc_62
  | 63, _ => exact List.mem_of_getElem? pc_63
  | 64, _ => exact List.mem_of_getElem? pc_64
  | 65, _ => exact List.mem_of_getElem? pc_65
  | 66, _ => exact List.mem_of_getElem? pc_66
  | 67, _ => exact List.mem_of_getElem? pc_67
  | 68, _ => exact List.mem_of_getElem? pc_68
  | 69, _ => exact List.mem_of_getElem? pc_69
  | 70, _ => exact List.mem_of_getElem? pc_70
  | 71, _ => exact List.mem_of_getElem? pc_71
  | 72, _ => exact List.mem_of_getElem? pc_72
  | 73, _ => exact List.mem_of_getElem? pc_73
  | 74, _ => exact List.mem_of_getElem? pc_74
  | 75, _ => exact List.mem_of_getElem? pc_75
  | 76, _ => exact List.mem_of_getElem? pc_76
  | 77, _ => exact List.mem_of_getElem? pc_77
  | 78, _ => exact List.mem_of_getElem? pc_78
  | 79, _ => exact List.mem_of_getElem? pc_79
  | 80, _ => exact List.mem_of_getElem? pc_80
  | 81, _ => exact List.mem_of_getElem? pc_81
  | 82, _ => exact List.mem_of_getElem? pc_82
  | 83, _ => exact List.mem_of_getElem? pc_83
  | 84, _ => exact List.mem_of_getElem? pc_84
  | 85, _ => exact List.mem_of_getElem? pc_85
  | 86, _ => exact List.mem_of_getElem? pc_86
  | 87, _ => exact List.mem_of_getElem? pc_87
  | 88, _ => exact List.mem_of_getElem? pc_88
  | 89, _ => exact List.mem_of_getElem? pc_89
  | 90, _ => exact List.mem_of_getElem? pc_90
  | 91, _ => exact List.mem_of_getElem? pc_91
  | 92, _ => exact List.mem_of_getElem? pc_92
  | 93, _ => exact List.mem_of_getElem? pc_93
  | 94, _ => exact List.mem_of_getElem? pc_94
  | 95, _ => exact List.mem_of_getElem? pc_95
  | 96, _ => exact List.mem_of_getElem? pc_96
  | 97, _ => exact List.mem_of_getElem? pc_97
  | 98, _ => exact List.mem_of_getElem? pc_98
  | 99, _ => exact List.mem_of_getElem? pc_99
  | 100, _ => exact List.mem_of_getElem? pc_100
  | 101, _ => exact List.mem_of_getElem? pc_101
  | 102, _ => exact List.mem_of_getElem? pc_102
  | 103, _ => exact List.mem_of_getElem? pc_103
  | 104, _ => exact List.mem_of_getElem? pc_104
  | 105, _ => exact List.mem_of_getElem? pc_105
  | 106, _ => exact List.mem_of_getElem? pc_106
  | 107, _ => exact List.mem_of_getElem? pc_107
  | 108, _ => exact List.mem_of_getElem? pc_108
  | 109, _ => exact List.mem_of_getElem? pc_109
  | 110, _ => exact List.mem_of_getElem? pc_110
  | 111, _ => exact List.mem_of_getElem? pc_111
  | 112, _ => exact List.mem_of_getElem? pc_112
  | 113, _ => exact List.mem_of_getElem? pc_113
  | 114, _ => exact List.mem_of_getElem? pc_114
  | 115, _ => exact List.mem_of_getElem? pc_115
  | 116, _ => exact List.mem_of_getElem? pc_116
  | 117, _ => exact List.mem_of_getElem? pc_117
  | 118, _ => exact List.mem_of_getElem? pc_118
  | 119, _ => exact List.mem_of_getElem? pc_119
  | 120, _ => exact List.mem_of_getElem? pc_120
  | 121, _ => exact List.mem_of_getElem? pc_121
  | 122, _ => exact List.mem_of_getElem? pc_122
  | 123, _ => exact List.mem_of_getElem? pc_123
  | 124, _ => exact List.mem_of_getElem? pc_124
  | 125, _ => exact List.mem_of_getElem? pc_125
  | 126, _ => exact List.mem_of_getElem? pc_126
  | 127, _ => exact List.mem_of_getElem? pc_127
  | 128, _ => exact List.mem_of_getElem? pc_128
  | 129, _ => exact List.mem_of_getElem? pc_129
  | 130, _ => exact List.mem_of_getElem? pc_130
  | 131, _ => exact List.mem_of_getElem? pc_131
  | 132, _ => exact List.mem_of_getElem? pc_132
  | 133, _ => exact List.mem_of_getElem? pc_133
  | 134, _ => exact List.mem_of_getElem? pc_134
  | 135, _ => exact List.mem_of_getElem? pc_135
  | 136, _ => exact List.mem_of_getElem? pc_136
  | 137, _ => exact List.mem_of_getElem? pc_137
  | 138, _ => exact List.mem_of_getElem? pc_138
  | 139, _ => exact List.mem_of_getElem? pc_139
  | y + 140, h => exact absurd h (by omega)
theorem lw_m2 : Jvm.Cond.initialized "java/lang/Math" ∈ lw_tbl := List.mem_of_getElem? (i := 67) (by decide +kernel)
theorem lw_m1 : Jvm.Cond.static Lib.Math.max.name ∈ lw_tbl := List.mem_of_getElem? (i := 646) (by decide +kernel)
set_option maxRecDepth 100000 in
theorem lw_m3 : Jvm.Cond.code Lib.Math.max.name Lib.Math.max.code 2 (some .int) ∈ lw_tbl := List.mem_of_getElem? (i := 647) (by decide +kernel)
def inWs (c : Nat) (ps : List Nat) : Bool := (u_ws (kc c).1 (kc c).2.1 (kc c).2.2).zip ps |>.all (fun q => lw_at q.2 q.1)
theorem lay_0 : ∀ w ∈ u_ws (kc 0).1 (kc 0).2.1 (kc 0).2.2, w ∈ lw_tbl := by
  have h : (u_ws (kc 0).1 (kc 0).2.1 (kc 0).2.2) = [224, 226, 228, 230, 232, 234, 236, 238, 240].filterMap (fun i => lw_tbl[i]?) := by decide +kernel
  intro w hw; rw [h] at hw; obtain ⟨i, -, hi⟩ := List.mem_filterMap.mp hw; exact List.mem_of_getElem? hi
theorem nmq_0 : ∀ a, a < (kc 0).2.2 → ∀ b, b < (kc 0).2.2 → a ≠ b → ((kc 0).2.1 a).2.1 ≠ ((kc 0).2.1 b).2.1 := by decide +kernel
theorem lay_1 : ∀ w ∈ u_ws (kc 1).1 (kc 1).2.1 (kc 1).2.2, w ∈ lw_tbl := by
  have h : (u_ws (kc 1).1 (kc 1).2.1 (kc 1).2.2) = [248, 250, 252, 254].filterMap (fun i => lw_tbl[i]?) := by decide +kernel
  intro w hw; rw [h] at hw; obtain ⟨i, -, hi⟩ := List.mem_filterMap.mp hw; exact List.mem_of_getElem? hi
theorem nmq_1 : ∀ a, a < (kc 1).2.2 → ∀ b, b < (kc 1).2.2 → a ≠ b → ((kc 1).2.1 a).2.1 ≠ ((kc 1).2.1 b).2.1 := by decide +kernel
theorem lay_2 : ∀ w ∈ u_ws (kc 2).1 (kc 2).2.1 (kc 2).2.2, w ∈ lw_tbl := by
  have h : (u_ws (kc 2).1 (kc 2).2.1 (kc 2).2.2) = [114].filterMap (fun i => lw_tbl[i]?) := by decide +kernel
  intro w hw; rw [h] at hw; obtain ⟨i, -, hi⟩ := List.mem_filterMap.mp hw; exact List.mem_of_getElem? hi
theorem nmq_2 : ∀ a, a < (kc 2).2.2 → ∀ b, b < (kc 2).2.2 → a ≠ b → ((kc 2).2.1 a).2.1 ≠ ((kc 2).2.1 b).2.1 := by decide +kernel
theorem lay_3 : ∀ w ∈ u_ws (kc 3).1 (kc 3).2.1 (kc 3).2.2, w ∈ lw_tbl := by
  have h : (u_ws (kc 3).1 (kc 3).2.1 (kc 3).2.2) = [334, 336, 338, 340, 342, 344, 346, 348, 350, 352, 354, 356, 358, 360, 362, 364, 366, 368].filterMap (fun i => lw_tbl[i]?) := by decide +kernel
  intro w hw; rw [h] at hw; obtain ⟨i, -, hi⟩ := List.mem_filterMap.mp hw; exact List.mem_of_getElem? hi
theorem nmq_3 : ∀ a, a < (kc 3).2.2 → ∀ b, b < (kc 3).2.2 → a ≠ b → ((kc 3).2.1 a).2.1 ≠ ((kc 3).2.1 b).2.1 := by decide +kernel
theorem lay_4 : ∀ w ∈ u_ws (kc 4).1 (kc 4).2.1 (kc 4).2.2, w ∈ lw_tbl := by
  have h : (u_ws (kc 4).1 (kc 4).2.1 (kc 4).2.2) = [285, 287, 289, 291, 293, 295, 297, 299, 301, 303, 305, 307, 309].filterMap (fun i => lw_tbl[i]?) := by decide +kernel
  intro w hw; rw [h] at hw; obtain ⟨i, -, hi⟩ := List.mem_filterMap.mp hw; exact List.mem_of_getElem? hi
theorem nmq_4 : ∀ a, a < (kc 4).2.2 → ∀ b, b < (kc 4).2.2 → a ≠ b → ((kc 4).2.1 a).2.1 ≠ ((kc 4).2.1 b).2.1 := by decide +kernel
theorem lay_5 : ∀ w ∈ u_ws (kc 5).1 (kc 5).2.1 (kc 5).2.2, w ∈ lw_tbl := by
  have h : (u_ws (kc 5).1 (kc 5).2.1 (kc 5).2.2) = [172, 174, 176, 178, 180, 182, 184, 186, 188, 190, 192].filterMap (fun i => lw_tbl[i]?) := by decide +kernel
  intro w hw; rw [h] at hw; obtain ⟨i, -, hi⟩ := List.mem_filterMap.mp hw; exact List.mem_of_getElem? hi
theorem nmq_5 : ∀ a, a < (kc 5).2.2 → ∀ b, b < (kc 5).2.2 → a ≠ b → ((kc 5).2.1 a).2.1 ≠ ((kc 5).2.1 b).2.1 := by decide +kernel
theorem lay_6 : ∀ w ∈ u_ws (kc 6).1 (kc 6).2.1 (kc 6).2.2, w ∈ lw_tbl := by
  have h : (u_ws (kc 6).1 (kc 6).2.1 (kc 6).2.2) = [137, 139, 141, 143].filterMap (fun i => lw_tbl[i]?) := by decide +kernel
  intro w hw; rw [h] at hw; obtain ⟨i, -, hi⟩ := List.mem_filterMap.mp hw; exact List.mem_of_getElem? hi
theorem nmq_6 : ∀ a, a < (kc 6).2.2 → ∀ b, b < (kc 6).2.2 → a ≠ b → ((kc 6).2.1 a).2.1 ≠ ((kc 6).2.1 b).2.1 := by decide +kernel
theorem lay_7 : ∀ w ∈ u_ws (kc 7).1 (kc 7).2.1 (kc 7).2.2, w ∈ lw_tbl := by
  have h : (u_ws (kc 7).1 (kc 7).2.1 (kc 7).2.2) = [378, 380, 382, 384].filterMap (fun i => lw_tbl[i]?) := by decide +kernel
  intro w hw; rw [h] at hw; obtain ⟨i, -, hi⟩ := List.mem_filterMap.mp hw; exact List.mem_of_getElem? hi
theorem nmq_7 : ∀ a, a < (kc 7).2.2 → ∀ b, b < (kc 7).2.2 → a ≠ b → ((kc 7).2.1 a).2.1 ≠ ((kc 7).2.1 b).2.1 := by decide +kernel
theorem lay_8 : ∀ w ∈ u_ws (kc 8).1 (kc 8).2.1 (kc 8).2.2, w ∈ lw_tbl := by
  have h : (u_ws (kc 8).1 (kc 8).2.1 (kc 8).2.2) = [795, 797, 799, 801, 803, 805, 807, 809, 811, 813, 815, 817, 819, 821, 823, 825, 827, 829, 831, 833, 835, 837, 839, 841, 843, 845, 847, 849, 851, 853, 855, 857, 859, 861, 863, 865, 867, 869, 871, 873, 875, 877, 879].filterMap (fun i => lw_tbl[i]?) := by decide +kernel
  intro w hw; rw [h] at hw; obtain ⟨i, -, hi⟩ := List.mem_filterMap.mp hw; exact List.mem_of_getElem? hi
theorem nmq_8 : ∀ a, a < (kc 8).2.2 → ∀ b, b < (kc 8).2.2 → a ≠ b → ((kc 8).2.1 a).2.1 ≠ ((kc 8).2.1 b).2.1 := by decide +kernel
def tyL : List (Nat → FieldType) := [tyX0, tyX1, tyX2, tyX3, tyX4, tyX5, tyX6, tyX7, tyX8]
def ty0 (c : Nat) : Nat → FieldType := gx (fun _ => .int) tyL c
theorem tyq_0 : ∀ k, k < (kc 0).2.2 → parseFieldDescriptor ((kc 0).2.1 k).2.2.1 = some (ty0 0 k) := by decide +kernel
theorem tyq_1 : ∀ k, k < (kc 1).2.2 → parseFieldDescriptor ((kc 1).2.1 k).2.2.1 = some (ty0 1 k) := by decide +kernel
theorem tyq_2 : ∀ k, k < (kc 2).2.2 → parseFieldDescriptor ((kc 2).2.1 k).2.2.1 = some (ty0 2 k) := by decide +kernel
theorem tyq_3 : ∀ k, k < (kc 3).2.2 → parseFieldDescriptor ((kc 3).2.1 k).2.2.1 = some (ty0 3 k) := by decide +kernel
theorem tyq_4 : ∀ k, k < (kc 4).2.2 → parseFieldDescriptor ((kc 4).2.1 k).2.2.1 = some (ty0 4 k) := by decide +kernel
theorem tyq_5 : ∀ k, k < (kc 5).2.2 → parseFieldDescriptor ((kc 5).2.1 k).2.2.1 = some (ty0 5 k) := by decide +kernel
theorem tyq_6 : ∀ k, k < (kc 6).2.2 → parseFieldDescriptor ((kc 6).2.1 k).2.2.1 = some (ty0 6 k) := by decide +kernel
theorem tyq_7 : ∀ k, k < (kc 7).2.2 → parseFieldDescriptor ((kc 7).2.1 k).2.2.1 = some (ty0 7 k) := by decide +kernel
theorem tyq_8 : ∀ k, k < (kc 8).2.2 → parseFieldDescriptor ((kc 8).2.1 k).2.2.1 = some (ty0 8 k) := by decide +kernel
theorem lay_all {c : Nat} (hc : c < 9) : ∀ w ∈ u_ws (kc c).1 (kc c).2.1 (kc c).2.2, w ∈ lw_tbl := by
  match c, hc with
  | 0, _ => exact lay_0
  | 1, _ => exact lay_1
  | 2, _ => exact lay_2
  | 3, _ => exact lay_3
  | 4, _ => exact lay_4
  | 5, _ => exact lay_5
  | 6, _ => exact lay_6
  | 7, _ => exact lay_7
  | 8, _ => exact lay_8
  | c + 9, h => exact absurd h (by omega)
theorem nmq_all {c : Nat} (hc : c < 9) : ∀ a, a < (kc c).2.2 → ∀ b, b < (kc c).2.2 → a ≠ b → ((kc c).2.1 a).2.1 ≠ ((kc c).2.1 b).2.1 := by
  match c, hc with
  | 0, _ => exact nmq_0
  | 1, _ => exact nmq_1
  | 2, _ => exact nmq_2
  | 3, _ => exact nmq_3
  | 4, _ => exact nmq_4
  | 5, _ => exact nmq_5
  | 6, _ => exact nmq_6
  | 7, _ => exact nmq_7
  | 8, _ => exact nmq_8
  | c + 9, h => exact absurd h (by omega)
theorem tyq_all {c : Nat} (hc : c < 9) : ∀ k, k < (kc c).2.2 → parseFieldDescriptor ((kc c).2.1 k).2.2.1 = some (ty0 c k) := by
  match c, hc with
  | 0, _ => exact tyq_0
  | 1, _ => exact tyq_1
  | 2, _ => exact tyq_2
  | 3, _ => exact tyq_3
  | 4, _ => exact tyq_4
  | 5, _ => exact tyq_5
  | 6, _ => exact tyq_6
  | 7, _ => exact tyq_7
  | 8, _ => exact tyq_8
  | c + 9, h => exact absurd h (by omega)
theorem kc_at {c : Nat} (hc : c < 9) : vwCl[c]? = some (kc c) := by
  match c, hc with
  | 0, _ => rfl
  | 1, _ => rfl
  | 2, _ => rfl
  | 3, _ => rfl
  | 4, _ => rfl
  | 5, _ => rfl
  | 6, _ => rfl
  | 7, _ => rfl
  | 8, _ => rfl
  | c + 9, h => exact absurd h (by omega)
theorem chk_all {y : Nat} (hy : y < 141) (hn : y ∉ inL) : chkM (oc y) (byt y) (bp y) 0 (cd y) = true := by
  match y, hy, hn with
  | 0, _, _ => exact chk_0
  | 1, _, _ => exact chk_1
  | 2, _, _ => exact chk_2
  | 3, _, _ => exact chk_3
  | 4, _, _ => exact chk_4
  | 5, _, _ => exact chk_5
  | 6, _, _ => exact chk_6
  | 7, _, _ => exact chk_7
  | 8, _, _ => exact chk_8
  | 9, _, _ => exact chk_9
  | 10, _, _ => exact chk_10
  | 11, _, _ => exact chk_11
  | 12, _, _ => exact chk_12
  | 13, _, _ => exact chk_13
  | 14, _, _ => exact chk_14
  | 15, _, _ => exact chk_15
  | 16, _, _ => exact chk_16
  | 17, _, _ => exact chk_17
  | 18, _, _ => exact chk_18
  | 19, _, _ => exact chk_19
  | 20, _, _ => exact chk_20
  | 21, _, _ => exact chk_21
  | 22, _, _ => exact chk_22
  | 23, _, _ => exact chk_23
  | 24, _, _ => exact chk_24
  | 25, _, h => exact absurd (by decide) h
  | 26, _, _ => exact chk_26
  | 27, _, _ => exact chk_27
  | 28, _, _ => exact chk_28
  | 29, _, _ => exact chk_29
  | 30, _, _ => exact chk_30
  | 31, _, _ => exact chk_31
  | 32, _, _ => exact chk_32
  | 33, _, _ => exact chk_33
  | 34, _, _ => exact chk_34
  | 35, _, _ => exact chk_35
  | 36, _, _ => exact chk_36
  | 37, _, _ => exact chk_37
  | 38, _, _ => exact chk_38
  | 39, _, _ => exact chk_39
  | 40, _, _ => exact chk_40
  | 41, _, _ => exact chk_41
  | 42, _, _ => exact chk_42
  | 43, _, _ => exact chk_43
  | 44, _, _ => exact chk_44
  | 45, _, _ => exact chk_45
  | 46, _, _ => exact chk_46
  | 47, _, h => exact absurd (by decide) h
  | 48, _, _ => exact chk_48
  | 49, _, _ => exact chk_49
  | 50, _, _ => exact chk_50
  | 51, _, _ => exact chk_51
  | 52, _, _ => exact chk_52
  | 53, _, _ => exact chk_53
  | 54, _, _ => exact chk_54
  | 55, _, _ => exact chk_55
  | 56, _, _ => exact chk_56
  | 57, _, _ => exact chk_57
  | 58, _, _ => exact chk_58
  | 59, _, _ => exact chk_59
  | 60, _, _ => exact chk_60
  | 61, _, _ => exact chk_61
  | 62, _, _ => exact chk_62
  | 63, _, _ => exact chk_63
  | 64, _, _ => exact chk_64
  | 65, _, _ => exact chk_65
  | 66, _, _ => exact chk_66
  | 67, _, _ => exact chk_67
  | 68, _, _ => exact chk_68
  | 69, _, _ => exact chk_69
  | 70, _, _ => exact chk_70
  | 71, _, _ => exact chk_71
  | 72, _, _ => exact chk_72
  | 73, _, _ => exact chk_73
  | 74, _, _ => exact chk_74
  | 75, _, _ => exact chk_75
  | 76, _, _ => exact chk_76
  | 77, _, _ => exact chk_77
  | 78, _, _ => exact chk_78
  | 79, _, _ => exact chk_79
  | 80, _, _ => exact chk_80
  | 81, _, _ => exact chk_81
  | 82, _, _ => exact chk_82
  | 83, _, _ => exact chk_83
  | 84, _, _ => exact chk_84
  | 85, _, _ => exact chk_85
  | 86, _, _ => exact chk_86
  | 87, _, _ => exact chk_87
  | 88, _, h => exact absurd (by decide) h
  | 89, _, _ => exact chk_89
  | 90, _, _ => exact chk_90
  | 91, _, _ => exact chk_91
  | 92, _, _ => exact chk_92
  | 93, _, _ => exact chk_93
  | 94, _, _ => exact chk_94
  | 95, _, _ => exact chk_95
  | 96, _, _ => exact chk_96
  | 97, _, _ => exact chk_97
  | 98, _, _ => exact chk_98
  | 99, _, _ => exact chk_99
  | 100, _, _ => exact chk_100
  | 101, _, _ => exact chk_101
  | 102, _, h => exact absurd (by decide) h
  | 103, _, _ => exact chk_103
  | 104, _, _ => exact chk_104
  | 105, _, _ => exact chk_105
  | 106, _, _ => exact chk_106
  | 107, _, _ => exact chk_107
  | 108, _, _ => exact chk_108
  | 109, _, _ => exact chk_109
  | 110, _, _ => exact chk_110
  | 111, _, h => exact absurd (by decide) h
  | 112, _, h => exact absurd (by decide) h
  | 113, _, _ => exact chk_113
  | 114, _, _ => exact chk_114
  | 115, _, _ => exact chk_115
  | 116, _, _ => exact chk_116
  | 117, _, _ => exact chk_117
  | 118, _, _ => exact chk_118
  | 119, _, _ => exact chk_119
  | 120, _, _ => exact chk_120
  | 121, _, _ => exact chk_121
  | 122, _, _ => exact chk_122
  | 123, _, _ => exact chk_123
  | 124, _, _ => exact chk_124
  | 125, _, _ => exact chk_125
  | 126, _, h => exact absurd (by decide) h
  | 127, _, _ => exact chk_127
  | 128, _, _ => exact chk_128
  | 129, _, _ => exact chk_129
  | 130, _, _ => exact chk_130
  | 131, _, h => exact absurd (by decide) h
  | 132, _, _ => exact chk_132
  | 133, _, _ => exact chk_133
  | 134, _, _ => exact chk_134
  | 135, _, _ => exact chk_135
  | 136, _, _ => exact chk_136
  | 137, _, _ => exact chk_137
  | 138, _, h => exact absurd (by decide) h
  | 139, _, _ => exact chk_139
  | 140, _, _ => exact chk_140
  | y + 141, h, _ => exact absurd h (by omega)
