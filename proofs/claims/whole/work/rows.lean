section
-- ===== PART A: goes FIRST, ahead of the names: the tables' words, and 'selects' of the private methods out of them =====
/-- a private method of a class that the tables say can be made, by its rows of tables_1 -/
def lw_okq (q : MethodName × Nat) : Prop := (q.1.cls ≠ "java/lang/invoke/MethodHandle" ∧ q.1.cls ≠ "java/lang/invoke/VarHandle") ∧ Cond.instantiable q.1.cls q.2 ∈ tables_1 ∧ Cond.privateMethod q.1 ∈ tables_1 ∧ Cond.instanceMethod q.1 ∈ tables_1
theorem lw_p0 : lw_okq (⟨"RegionStack$Program", "findKind", "(LRegionStack$Term;I)I"⟩, 4) := ⟨⟨by decide +kernel, by decide +kernel⟩, List.mem_of_getElem? (i := 26) (by decide +kernel), List.mem_of_getElem? (i := 359) (by decide +kernel), List.mem_of_getElem? (i := 360) (by decide +kernel)⟩
theorem lw_p1 : lw_okq (⟨"RegionStack", "textChanged", "(LRegionStack$Body;)V"⟩, 4) := ⟨⟨by decide +kernel, by decide +kernel⟩, List.mem_of_getElem? (i := 12) (by decide +kernel), List.mem_of_getElem? (i := 385) (by decide +kernel), List.mem_of_getElem? (i := 386) (by decide +kernel)⟩
theorem lw_p2 : lw_okq (⟨"RegionStack$Term", "findFault", "()I"⟩, 11) := ⟨⟨by decide +kernel, by decide +kernel⟩, List.mem_of_getElem? (i := 39) (by decide +kernel), List.mem_of_getElem? (i := 393) (by decide +kernel), List.mem_of_getElem? (i := 394) (by decide +kernel)⟩
theorem lw_p3 : lw_okq (⟨"RegionStack$Term", "linkParts", "()V"⟩, 11) := ⟨⟨by decide +kernel, by decide +kernel⟩, List.mem_of_getElem? (i := 39) (by decide +kernel), List.mem_of_getElem? (i := 415) (by decide +kernel), List.mem_of_getElem? (i := 416) (by decide +kernel)⟩
theorem lw_p4 : lw_okq (⟨"RegionStack$Term", "findNames", "()V"⟩, 11) := ⟨⟨by decide +kernel, by decide +kernel⟩, List.mem_of_getElem? (i := 39) (by decide +kernel), List.mem_of_getElem? (i := 419) (by decide +kernel), List.mem_of_getElem? (i := 420) (by decide +kernel)⟩
theorem lw_p5 : lw_okq (⟨"RegionStack$Term", "findBinder", "(I)I"⟩, 11) := ⟨⟨by decide +kernel, by decide +kernel⟩, List.mem_of_getElem? (i := 39) (by decide +kernel), List.mem_of_getElem? (i := 424) (by decide +kernel), List.mem_of_getElem? (i := 425) (by decide +kernel)⟩
theorem lw_p6 : lw_okq (⟨"RegionStack$Program", "isIll", "(LRegionStack$Term;I)Z"⟩, 4) := ⟨⟨by decide +kernel, by decide +kernel⟩, List.mem_of_getElem? (i := 26) (by decide +kernel), List.mem_of_getElem? (i := 445) (by decide +kernel), List.mem_of_getElem? (i := 446) (by decide +kernel)⟩
theorem lw_p7 : lw_okq (⟨"RegionStack$Program", "areAllWell", "()Z"⟩, 4) := ⟨⟨by decide +kernel, by decide +kernel⟩, List.mem_of_getElem? (i := 26) (by decide +kernel), List.mem_of_getElem? (i := 471) (by decide +kernel), List.mem_of_getElem? (i := 472) (by decide +kernel)⟩
theorem lw_p8 : lw_okq (⟨"RegionStack$Program", "findPasses", "()V"⟩, 4) := ⟨⟨by decide +kernel, by decide +kernel⟩, List.mem_of_getElem? (i := 26) (by decide +kernel), List.mem_of_getElem? (i := 476) (by decide +kernel), List.mem_of_getElem? (i := 477) (by decide +kernel)⟩
theorem lw_p9 : lw_okq (⟨"RegionStack$Body", "joinPart", "(LRegionStack$Program;I)V"⟩, 9) := ⟨⟨by decide +kernel, by decide +kernel⟩, List.mem_of_getElem? (i := 33) (by decide +kernel), List.mem_of_getElem? (i := 486) (by decide +kernel), List.mem_of_getElem? (i := 487) (by decide +kernel)⟩
theorem lw_p10 : lw_okq (⟨"RegionStack$Body", "join", "(II)V"⟩, 9) := ⟨⟨by decide +kernel, by decide +kernel⟩, List.mem_of_getElem? (i := 33) (by decide +kernel), List.mem_of_getElem? (i := 490) (by decide +kernel), List.mem_of_getElem? (i := 491) (by decide +kernel)⟩
theorem lw_p11 : lw_okq (⟨"RegionStack$Body", "findNumber", "(I)I"⟩, 9) := ⟨⟨by decide +kernel, by decide +kernel⟩, List.mem_of_getElem? (i := 33) (by decide +kernel), List.mem_of_getElem? (i := 501) (by decide +kernel), List.mem_of_getElem? (i := 502) (by decide +kernel)⟩
theorem lw_p12 : lw_okq (⟨"RegionStack$Program", "findEffects", "()V"⟩, 4) := ⟨⟨by decide +kernel, by decide +kernel⟩, List.mem_of_getElem? (i := 26) (by decide +kernel), List.mem_of_getElem? (i := 506) (by decide +kernel), List.mem_of_getElem? (i := 507) (by decide +kernel)⟩
theorem lw_p13 : lw_okq (⟨"RegionStack$Body", "putsInto", "(LRegionStack$Program;II)Z"⟩, 9) := ⟨⟨by decide +kernel, by decide +kernel⟩, List.mem_of_getElem? (i := 33) (by decide +kernel), List.mem_of_getElem? (i := 514) (by decide +kernel), List.mem_of_getElem? (i := 515) (by decide +kernel)⟩
theorem lw_p14 : lw_okq (⟨"RegionStack$Body", "callDoes", "(LRegionStack$Program;IIII)Z"⟩, 9) := ⟨⟨by decide +kernel, by decide +kernel⟩, List.mem_of_getElem? (i := 33) (by decide +kernel), List.mem_of_getElem? (i := 518) (by decide +kernel), List.mem_of_getElem? (i := 519) (by decide +kernel)⟩
theorem lw_p15 : lw_okq (⟨"RegionStack$Body", "looksInto", "(LRegionStack$Program;II)Z"⟩, 9) := ⟨⟨by decide +kernel, by decide +kernel⟩, List.mem_of_getElem? (i := 33) (by decide +kernel), List.mem_of_getElem? (i := 522) (by decide +kernel), List.mem_of_getElem? (i := 523) (by decide +kernel)⟩
def lw_privs_1 : List (MethodName × Nat) := [(⟨"RegionStack$Program", "findKind", "(LRegionStack$Term;I)I"⟩, 4), (⟨"RegionStack", "textChanged", "(LRegionStack$Body;)V"⟩, 4), (⟨"RegionStack$Term", "findFault", "()I"⟩, 11), (⟨"RegionStack$Term", "linkParts", "()V"⟩, 11), (⟨"RegionStack$Term", "findNames", "()V"⟩, 11), (⟨"RegionStack$Term", "findBinder", "(I)I"⟩, 11), (⟨"RegionStack$Program", "isIll", "(LRegionStack$Term;I)Z"⟩, 4), (⟨"RegionStack$Program", "areAllWell", "()Z"⟩, 4), (⟨"RegionStack$Program", "findPasses", "()V"⟩, 4), (⟨"RegionStack$Body", "joinPart", "(LRegionStack$Program;I)V"⟩, 9), (⟨"RegionStack$Body", "join", "(II)V"⟩, 9), (⟨"RegionStack$Body", "findNumber", "(I)I"⟩, 9), (⟨"RegionStack$Program", "findEffects", "()V"⟩, 4), (⟨"RegionStack$Body", "putsInto", "(LRegionStack$Program;II)Z"⟩, 9), (⟨"RegionStack$Body", "callDoes", "(LRegionStack$Program;IIII)Z"⟩, 9), (⟨"RegionStack$Body", "looksInto", "(LRegionStack$Program;II)Z"⟩, 9)]
theorem lw_r1 : ∀ q ∈ lw_privs_1, lw_okq q := List.forall_mem_cons.mpr ⟨lw_p0, List.forall_mem_cons.mpr ⟨lw_p1, List.forall_mem_cons.mpr ⟨lw_p2, List.forall_mem_cons.mpr ⟨lw_p3, List.forall_mem_cons.mpr ⟨lw_p4, List.forall_mem_cons.mpr ⟨lw_p5, List.forall_mem_cons.mpr ⟨lw_p6, List.forall_mem_cons.mpr ⟨lw_p7, List.forall_mem_cons.mpr ⟨lw_p8, List.forall_mem_cons.mpr ⟨lw_p9, List.forall_mem_cons.mpr ⟨lw_p10, List.forall_mem_cons.mpr ⟨lw_p11, List.forall_mem_cons.mpr ⟨lw_p12, List.forall_mem_cons.mpr ⟨lw_p13, List.forall_mem_cons.mpr ⟨lw_p14, List.forall_mem_cons.mpr ⟨lw_p15, fun _ h => absurd h List.not_mem_nil⟩⟩⟩⟩⟩⟩⟩⟩⟩⟩⟩⟩⟩⟩⟩⟩
theorem lw_p16 : lw_okq (⟨"RegionStack$Body", "touchesIt", "(II)Z"⟩, 9) := ⟨⟨by decide +kernel, by decide +kernel⟩, List.mem_of_getElem? (i := 33) (by decide +kernel), List.mem_of_getElem? (i := 530) (by decide +kernel), List.mem_of_getElem? (i := 531) (by decide +kernel)⟩
theorem lw_p17 : lw_okq (⟨"RegionStack", "refusalOfRun", "(IIZ)I"⟩, 4) := ⟨⟨by decide +kernel, by decide +kernel⟩, List.mem_of_getElem? (i := 12) (by decide +kernel), List.mem_of_getElem? (i := 566) (by decide +kernel), List.mem_of_getElem? (i := 567) (by decide +kernel)⟩
theorem lw_p18 : lw_okq (⟨"RegionStack$Runner", "begin", "(LRegionStack$Body;II)V"⟩, 18) := ⟨⟨by decide +kernel, by decide +kernel⟩, List.mem_of_getElem? (i := 20) (by decide +kernel), List.mem_of_getElem? (i := 575) (by decide +kernel), List.mem_of_getElem? (i := 576) (by decide +kernel)⟩
theorem lw_p19 : lw_okq (⟨"RegionStack$Runner", "setRegion", "(III)V"⟩, 18) := ⟨⟨by decide +kernel, by decide +kernel⟩, List.mem_of_getElem? (i := 20) (by decide +kernel), List.mem_of_getElem? (i := 592) (by decide +kernel), List.mem_of_getElem? (i := 593) (by decide +kernel)⟩
theorem lw_p20 : lw_okq (⟨"RegionStack$Runner", "push", "(II)V"⟩, 18) := ⟨⟨by decide +kernel, by decide +kernel⟩, List.mem_of_getElem? (i := 20) (by decide +kernel), List.mem_of_getElem? (i := 601) (by decide +kernel), List.mem_of_getElem? (i := 602) (by decide +kernel)⟩
theorem lw_p21 : lw_okq (⟨"RegionStack$Runner", "takeTurn", "()V"⟩, 18) := ⟨⟨by decide +kernel, by decide +kernel⟩, List.mem_of_getElem? (i := 20) (by decide +kernel), List.mem_of_getElem? (i := 605) (by decide +kernel), List.mem_of_getElem? (i := 606) (by decide +kernel)⟩
theorem lw_p22 : lw_okq (⟨"RegionStack$Runner", "enter", "(LRegionStack$Body;II)V"⟩, 18) := ⟨⟨by decide +kernel, by decide +kernel⟩, List.mem_of_getElem? (i := 20) (by decide +kernel), List.mem_of_getElem? (i := 610) (by decide +kernel), List.mem_of_getElem? (i := 611) (by decide +kernel)⟩
theorem lw_p23 : lw_okq (⟨"RegionStack$Runner", "valueOf", "(LRegionStack$Term;II)I"⟩, 18) := ⟨⟨by decide +kernel, by decide +kernel⟩, List.mem_of_getElem? (i := 20) (by decide +kernel), List.mem_of_getElem? (i := 616) (by decide +kernel), List.mem_of_getElem? (i := 617) (by decide +kernel)⟩
theorem lw_p24 : lw_okq (⟨"RegionStack$Runner", "leave", "(LRegionStack$Body;I)V"⟩, 18) := ⟨⟨by decide +kernel, by decide +kernel⟩, List.mem_of_getElem? (i := 20) (by decide +kernel), List.mem_of_getElem? (i := 622) (by decide +kernel), List.mem_of_getElem? (i := 623) (by decide +kernel)⟩
theorem lw_p25 : lw_okq (⟨"RegionStack$Runner", "goOn", "(LRegionStack$Body;II)V"⟩, 18) := ⟨⟨by decide +kernel, by decide +kernel⟩, List.mem_of_getElem? (i := 20) (by decide +kernel), List.mem_of_getElem? (i := 630) (by decide +kernel), List.mem_of_getElem? (i := 631) (by decide +kernel)⟩
theorem lw_p26 : lw_okq (⟨"RegionStack$Runner", "regionFor", "(II)I"⟩, 18) := ⟨⟨by decide +kernel, by decide +kernel⟩, List.mem_of_getElem? (i := 20) (by decide +kernel), List.mem_of_getElem? (i := 634) (by decide +kernel), List.mem_of_getElem? (i := 635) (by decide +kernel)⟩
theorem lw_p27 : lw_okq (⟨"RegionStack$Runner", "makeBox", "(I)V"⟩, 18) := ⟨⟨by decide +kernel, by decide +kernel⟩, List.mem_of_getElem? (i := 20) (by decide +kernel), List.mem_of_getElem? (i := 638) (by decide +kernel), List.mem_of_getElem? (i := 639) (by decide +kernel)⟩
theorem lw_p28 : lw_okq (⟨"RegionStack$Runner", "callBody", "(LRegionStack$Body;II)V"⟩, 18) := ⟨⟨by decide +kernel, by decide +kernel⟩, List.mem_of_getElem? (i := 20) (by decide +kernel), List.mem_of_getElem? (i := 647) (by decide +kernel), List.mem_of_getElem? (i := 648) (by decide +kernel)⟩
theorem lw_p29 : lw_okq (⟨"RegionStack", "keptText", "(II)LRegionStack$Text;"⟩, 4) := ⟨⟨by decide +kernel, by decide +kernel⟩, List.mem_of_getElem? (i := 12) (by decide +kernel), List.mem_of_getElem? (i := 672) (by decide +kernel), List.mem_of_getElem? (i := 673) (by decide +kernel)⟩
theorem lw_p30 : lw_okq (⟨"RegionStackModel", "read", "(I)I"⟩, 43) := ⟨⟨by decide +kernel, by decide +kernel⟩, List.mem_of_getElem? (i := 690) (by decide +kernel), List.mem_of_getElem? (i := 848) (by decide +kernel), List.mem_of_getElem? (i := 849) (by decide +kernel)⟩
theorem lw_p31 : lw_okq (⟨"RegionStackModel", "illOne", "(I)I"⟩, 43) := ⟨⟨by decide +kernel, by decide +kernel⟩, List.mem_of_getElem? (i := 690) (by decide +kernel), List.mem_of_getElem? (i := 862) (by decide +kernel), List.mem_of_getElem? (i := 863) (by decide +kernel)⟩
def lw_privs_2 : List (MethodName × Nat) := [(⟨"RegionStack$Body", "touchesIt", "(II)Z"⟩, 9), (⟨"RegionStack", "refusalOfRun", "(IIZ)I"⟩, 4), (⟨"RegionStack$Runner", "begin", "(LRegionStack$Body;II)V"⟩, 18), (⟨"RegionStack$Runner", "setRegion", "(III)V"⟩, 18), (⟨"RegionStack$Runner", "push", "(II)V"⟩, 18), (⟨"RegionStack$Runner", "takeTurn", "()V"⟩, 18), (⟨"RegionStack$Runner", "enter", "(LRegionStack$Body;II)V"⟩, 18), (⟨"RegionStack$Runner", "valueOf", "(LRegionStack$Term;II)I"⟩, 18), (⟨"RegionStack$Runner", "leave", "(LRegionStack$Body;I)V"⟩, 18), (⟨"RegionStack$Runner", "goOn", "(LRegionStack$Body;II)V"⟩, 18), (⟨"RegionStack$Runner", "regionFor", "(II)I"⟩, 18), (⟨"RegionStack$Runner", "makeBox", "(I)V"⟩, 18), (⟨"RegionStack$Runner", "callBody", "(LRegionStack$Body;II)V"⟩, 18), (⟨"RegionStack", "keptText", "(II)LRegionStack$Text;"⟩, 4), (⟨"RegionStackModel", "read", "(I)I"⟩, 43), (⟨"RegionStackModel", "illOne", "(I)I"⟩, 43)]
theorem lw_r2 : ∀ q ∈ lw_privs_2, lw_okq q := List.forall_mem_cons.mpr ⟨lw_p16, List.forall_mem_cons.mpr ⟨lw_p17, List.forall_mem_cons.mpr ⟨lw_p18, List.forall_mem_cons.mpr ⟨lw_p19, List.forall_mem_cons.mpr ⟨lw_p20, List.forall_mem_cons.mpr ⟨lw_p21, List.forall_mem_cons.mpr ⟨lw_p22, List.forall_mem_cons.mpr ⟨lw_p23, List.forall_mem_cons.mpr ⟨lw_p24, List.forall_mem_cons.mpr ⟨lw_p25, List.forall_mem_cons.mpr ⟨lw_p26, List.forall_mem_cons.mpr ⟨lw_p27, List.forall_mem_cons.mpr ⟨lw_p28, List.forall_mem_cons.mpr ⟨lw_p29, List.forall_mem_cons.mpr ⟨lw_p30, List.forall_mem_cons.mpr ⟨lw_p31, fun _ h => absurd h List.not_mem_nil⟩⟩⟩⟩⟩⟩⟩⟩⟩⟩⟩⟩⟩⟩⟩⟩
theorem lw_p32 : lw_okq (⟨"RegionStackModel", "isIll", "(II)Z"⟩, 43) := ⟨⟨by decide +kernel, by decide +kernel⟩, List.mem_of_getElem? (i := 690) (by decide +kernel), List.mem_of_getElem? (i := 866) (by decide +kernel), List.mem_of_getElem? (i := 867) (by decide +kernel)⟩
theorem lw_p33 : lw_okq (⟨"RegionStackModel", "kindAt", "(II)I"⟩, 43) := ⟨⟨by decide +kernel, by decide +kernel⟩, List.mem_of_getElem? (i := 690) (by decide +kernel), List.mem_of_getElem? (i := 870) (by decide +kernel), List.mem_of_getElem? (i := 871) (by decide +kernel)⟩
theorem lw_p34 : lw_okq (⟨"RegionStackModel", "bodyOfCall", "(I)I"⟩, 43) := ⟨⟨by decide +kernel, by decide +kernel⟩, List.mem_of_getElem? (i := 690) (by decide +kernel), List.mem_of_getElem? (i := 874) (by decide +kernel), List.mem_of_getElem? (i := 875) (by decide +kernel)⟩
theorem lw_p35 : lw_okq (⟨"RegionStackModel", "binder", "(II)I"⟩, 43) := ⟨⟨by decide +kernel, by decide +kernel⟩, List.mem_of_getElem? (i := 690) (by decide +kernel), List.mem_of_getElem? (i := 878) (by decide +kernel), List.mem_of_getElem? (i := 879) (by decide +kernel)⟩
theorem lw_p36 : lw_okq (⟨"RegionStackModel", "isWell", "()Z"⟩, 43) := ⟨⟨by decide +kernel, by decide +kernel⟩, List.mem_of_getElem? (i := 690) (by decide +kernel), List.mem_of_getElem? (i := 890) (by decide +kernel), List.mem_of_getElem? (i := 891) (by decide +kernel)⟩
theorem lw_p37 : lw_okq (⟨"RegionStackModel", "layRegions", "()Z"⟩, 43) := ⟨⟨by decide +kernel, by decide +kernel⟩, List.mem_of_getElem? (i := 690) (by decide +kernel), List.mem_of_getElem? (i := 898) (by decide +kernel), List.mem_of_getElem? (i := 899) (by decide +kernel)⟩
theorem lw_p38 : lw_okq (⟨"RegionStackModel", "uniteAll", "(I)V"⟩, 43) := ⟨⟨by decide +kernel, by decide +kernel⟩, List.mem_of_getElem? (i := 690) (by decide +kernel), List.mem_of_getElem? (i := 902) (by decide +kernel), List.mem_of_getElem? (i := 903) (by decide +kernel)⟩
theorem lw_p39 : lw_okq (⟨"RegionStackModel", "nodeOf", "(II)I"⟩, 43) := ⟨⟨by decide +kernel, by decide +kernel⟩, List.mem_of_getElem? (i := 690) (by decide +kernel), List.mem_of_getElem? (i := 906) (by decide +kernel), List.mem_of_getElem? (i := 907) (by decide +kernel)⟩
theorem lw_p40 : lw_okq (⟨"RegionStackModel", "unite", "(II)V"⟩, 43) := ⟨⟨by decide +kernel, by decide +kernel⟩, List.mem_of_getElem? (i := 690) (by decide +kernel), List.mem_of_getElem? (i := 910) (by decide +kernel), List.mem_of_getElem? (i := 911) (by decide +kernel)⟩
theorem lw_p41 : lw_okq (⟨"RegionStackModel", "rootOf", "(I)I"⟩, 43) := ⟨⟨by decide +kernel, by decide +kernel⟩, List.mem_of_getElem? (i := 690) (by decide +kernel), List.mem_of_getElem? (i := 914) (by decide +kernel), List.mem_of_getElem? (i := 915) (by decide +kernel)⟩
theorem lw_p42 : lw_okq (⟨"RegionStackModel", "numberAll", "(I)V"⟩, 43) := ⟨⟨by decide +kernel, by decide +kernel⟩, List.mem_of_getElem? (i := 690) (by decide +kernel), List.mem_of_getElem? (i := 918) (by decide +kernel), List.mem_of_getElem? (i := 919) (by decide +kernel)⟩
theorem lw_p43 : lw_okq (⟨"RegionStackModel", "layHomes", "(I)V"⟩, 43) := ⟨⟨by decide +kernel, by decide +kernel⟩, List.mem_of_getElem? (i := 690) (by decide +kernel), List.mem_of_getElem? (i := 922) (by decide +kernel), List.mem_of_getElem? (i := 923) (by decide +kernel)⟩
theorem lw_p44 : lw_okq (⟨"RegionStackModel", "touchesOne", "(II)Z"⟩, 43) := ⟨⟨by decide +kernel, by decide +kernel⟩, List.mem_of_getElem? (i := 690) (by decide +kernel), List.mem_of_getElem? (i := 926) (by decide +kernel), List.mem_of_getElem? (i := 927) (by decide +kernel)⟩
theorem lw_p45 : lw_okq (⟨"RegionStackModel", "layEffects", "()V"⟩, 43) := ⟨⟨by decide +kernel, by decide +kernel⟩, List.mem_of_getElem? (i := 690) (by decide +kernel), List.mem_of_getElem? (i := 930) (by decide +kernel), List.mem_of_getElem? (i := 931) (by decide +kernel)⟩
theorem lw_p46 : lw_okq (⟨"RegionStackModel", "does", "(IIZ)Z"⟩, 43) := ⟨⟨by decide +kernel, by decide +kernel⟩, List.mem_of_getElem? (i := 690) (by decide +kernel), List.mem_of_getElem? (i := 934) (by decide +kernel), List.mem_of_getElem? (i := 935) (by decide +kernel)⟩
theorem lw_p47 : lw_okq (⟨"RegionStackModel", "barOfRun", "(II)I"⟩, 43) := ⟨⟨by decide +kernel, by decide +kernel⟩, List.mem_of_getElem? (i := 690) (by decide +kernel), List.mem_of_getElem? (i := 954) (by decide +kernel), List.mem_of_getElem? (i := 955) (by decide +kernel)⟩
def lw_privs_3 : List (MethodName × Nat) := [(⟨"RegionStackModel", "isIll", "(II)Z"⟩, 43), (⟨"RegionStackModel", "kindAt", "(II)I"⟩, 43), (⟨"RegionStackModel", "bodyOfCall", "(I)I"⟩, 43), (⟨"RegionStackModel", "binder", "(II)I"⟩, 43), (⟨"RegionStackModel", "isWell", "()Z"⟩, 43), (⟨"RegionStackModel", "layRegions", "()Z"⟩, 43), (⟨"RegionStackModel", "uniteAll", "(I)V"⟩, 43), (⟨"RegionStackModel", "nodeOf", "(II)I"⟩, 43), (⟨"RegionStackModel", "unite", "(II)V"⟩, 43), (⟨"RegionStackModel", "rootOf", "(I)I"⟩, 43), (⟨"RegionStackModel", "numberAll", "(I)V"⟩, 43), (⟨"RegionStackModel", "layHomes", "(I)V"⟩, 43), (⟨"RegionStackModel", "touchesOne", "(II)Z"⟩, 43), (⟨"RegionStackModel", "layEffects", "()V"⟩, 43), (⟨"RegionStackModel", "does", "(IIZ)Z"⟩, 43), (⟨"RegionStackModel", "barOfRun", "(II)I"⟩, 43)]
theorem lw_r3 : ∀ q ∈ lw_privs_3, lw_okq q := List.forall_mem_cons.mpr ⟨lw_p32, List.forall_mem_cons.mpr ⟨lw_p33, List.forall_mem_cons.mpr ⟨lw_p34, List.forall_mem_cons.mpr ⟨lw_p35, List.forall_mem_cons.mpr ⟨lw_p36, List.forall_mem_cons.mpr ⟨lw_p37, List.forall_mem_cons.mpr ⟨lw_p38, List.forall_mem_cons.mpr ⟨lw_p39, List.forall_mem_cons.mpr ⟨lw_p40, List.forall_mem_cons.mpr ⟨lw_p41, List.forall_mem_cons.mpr ⟨lw_p42, List.forall_mem_cons.mpr ⟨lw_p43, List.forall_mem_cons.mpr ⟨lw_p44, List.forall_mem_cons.mpr ⟨lw_p45, List.forall_mem_cons.mpr ⟨lw_p46, List.forall_mem_cons.mpr ⟨lw_p47, fun _ h => absurd h List.not_mem_nil⟩⟩⟩⟩⟩⟩⟩⟩⟩⟩⟩⟩⟩⟩⟩⟩
theorem lw_p48 : lw_okq (⟨"RegionStackModel", "openOne", "()I"⟩, 43) := ⟨⟨by decide +kernel, by decide +kernel⟩, List.mem_of_getElem? (i := 690) (by decide +kernel), List.mem_of_getElem? (i := 958) (by decide +kernel), List.mem_of_getElem? (i := 959) (by decide +kernel)⟩
theorem lw_p49 : lw_okq (⟨"RegionStackModel", "put", "(II)I"⟩, 43) := ⟨⟨by decide +kernel, by decide +kernel⟩, List.mem_of_getElem? (i := 690) (by decide +kernel), List.mem_of_getElem? (i := 962) (by decide +kernel), List.mem_of_getElem? (i := 963) (by decide +kernel)⟩
theorem lw_p50 : lw_okq (⟨"RegionStackModel", "begin", "(IIII)I"⟩, 43) := ⟨⟨by decide +kernel, by decide +kernel⟩, List.mem_of_getElem? (i := 690) (by decide +kernel), List.mem_of_getElem? (i := 966) (by decide +kernel), List.mem_of_getElem? (i := 967) (by decide +kernel)⟩
theorem lw_p51 : lw_okq (⟨"RegionStackModel", "start", "(II)V"⟩, 43) := ⟨⟨by decide +kernel, by decide +kernel⟩, List.mem_of_getElem? (i := 690) (by decide +kernel), List.mem_of_getElem? (i := 970) (by decide +kernel), List.mem_of_getElem? (i := 971) (by decide +kernel)⟩
theorem lw_p52 : lw_okq (⟨"RegionStackModel", "step", "()V"⟩, 43) := ⟨⟨by decide +kernel, by decide +kernel⟩, List.mem_of_getElem? (i := 690) (by decide +kernel), List.mem_of_getElem? (i := 974) (by decide +kernel), List.mem_of_getElem? (i := 975) (by decide +kernel)⟩
theorem lw_p53 : lw_okq (⟨"RegionStackModel", "goOn", "(III)V"⟩, 43) := ⟨⟨by decide +kernel, by decide +kernel⟩, List.mem_of_getElem? (i := 690) (by decide +kernel), List.mem_of_getElem? (i := 978) (by decide +kernel), List.mem_of_getElem? (i := 979) (by decide +kernel)⟩
theorem lw_p54 : lw_okq (⟨"RegionStackModel", "finish", "(II)V"⟩, 43) := ⟨⟨by decide +kernel, by decide +kernel⟩, List.mem_of_getElem? (i := 690) (by decide +kernel), List.mem_of_getElem? (i := 982) (by decide +kernel), List.mem_of_getElem? (i := 983) (by decide +kernel)⟩
theorem lw_p55 : lw_okq (⟨"RegionStackModel", "turnHomes", "(IIZ)V"⟩, 43) := ⟨⟨by decide +kernel, by decide +kernel⟩, List.mem_of_getElem? (i := 690) (by decide +kernel), List.mem_of_getElem? (i := 986) (by decide +kernel), List.mem_of_getElem? (i := 987) (by decide +kernel)⟩
theorem lw_p56 : lw_okq (⟨"RegionStackModel", "closeOne", "()V"⟩, 43) := ⟨⟨by decide +kernel, by decide +kernel⟩, List.mem_of_getElem? (i := 690) (by decide +kernel), List.mem_of_getElem? (i := 990) (by decide +kernel), List.mem_of_getElem? (i := 991) (by decide +kernel)⟩
def lw_privs_4 : List (MethodName × Nat) := [(⟨"RegionStackModel", "openOne", "()I"⟩, 43), (⟨"RegionStackModel", "put", "(II)I"⟩, 43), (⟨"RegionStackModel", "begin", "(IIII)I"⟩, 43), (⟨"RegionStackModel", "start", "(II)V"⟩, 43), (⟨"RegionStackModel", "step", "()V"⟩, 43), (⟨"RegionStackModel", "goOn", "(III)V"⟩, 43), (⟨"RegionStackModel", "finish", "(II)V"⟩, 43), (⟨"RegionStackModel", "turnHomes", "(IIZ)V"⟩, 43), (⟨"RegionStackModel", "closeOne", "()V"⟩, 43)]
theorem lw_r4 : ∀ q ∈ lw_privs_4, lw_okq q := List.forall_mem_cons.mpr ⟨lw_p48, List.forall_mem_cons.mpr ⟨lw_p49, List.forall_mem_cons.mpr ⟨lw_p50, List.forall_mem_cons.mpr ⟨lw_p51, List.forall_mem_cons.mpr ⟨lw_p52, List.forall_mem_cons.mpr ⟨lw_p53, List.forall_mem_cons.mpr ⟨lw_p54, List.forall_mem_cons.mpr ⟨lw_p55, List.forall_mem_cons.mpr ⟨lw_p56, fun _ h => absurd h List.not_mem_nil⟩⟩⟩⟩⟩⟩⟩⟩⟩
def lw_privs : List (MethodName × Nat) := lw_privs_1 ++ (lw_privs_2 ++ (lw_privs_3 ++ (lw_privs_4)))
def lw_tbl : List Cond := k2_sels lw_privs ++ tables_1
theorem lw_privs_ok : ∀ q ∈ lw_privs, lw_okq q := by
  show ∀ q ∈ lw_privs_1 ++ (lw_privs_2 ++ (lw_privs_3 ++ (lw_privs_4))), lw_okq q
  exact List.forall_mem_append.mpr ⟨lw_r1, List.forall_mem_append.mpr ⟨lw_r2, List.forall_mem_append.mpr ⟨lw_r3, lw_r4⟩⟩⟩
end
section
def RX0 : String := "RegionStack$Body"
def TX0 : u_T := fun k => match k with
  | 0 => ("RegionStack$Body", "term", "LRegionStack$Term;", true)
  | 1 => ("RegionStack$Body", "text", "LRegionStack$Text;", true)
  | 2 => ("RegionStack$Body", "labels", "LRegionStack$Row;", true)
  | 3 => ("RegionStack$Body", "numbers", "LRegionStack$Row;", true)
  | 4 => ("RegionStack$Body", "innerNumbers", "LRegionStack$Row;", true)
  | 5 => ("RegionStack$Body", "homes", "LRegionStack$Row;", true)
  | 6 => ("RegionStack$Body", "isPass", "Z", false)
  | 7 => ("RegionStack$Body", "effect", "I", false)
  | _ => ("RegionStack$Body", "ownCount", "I", false)
def tyX0 : Nat → FieldType := fun k => match k with
  | 0 => .object "RegionStack$Term"
  | 1 => .object "RegionStack$Text"
  | 2 => .object "RegionStack$Row"
  | 3 => .object "RegionStack$Row"
  | 4 => .object "RegionStack$Row"
  | 5 => .object "RegionStack$Row"
  | 6 => .boolean
  | 7 => .int
  | _ => .int
theorem nmX0 : ∀ a, a < 9 → ∀ b, b < 9 → a ≠ b → (TX0 a).2.1 ≠ (TX0 b).2.1 := by decide +kernel
theorem tyX0_ok : ∀ k, k < 9 → parseFieldDescriptor (TX0 k).2.2.1 = some (tyX0 k) := by decide +kernel
def RX1 : String := "RegionStack$Program"
def TX1 : u_T := fun k => match k with
  | 0 => ("RegionStack$Program", "bodies", "[LRegionStack$Body;", true)
  | 1 => ("RegionStack$Program", "changes", "I", false)
  | 2 => ("RegionStack$Program", "settledAt", "I", false)
  | _ => ("RegionStack$Program", "isWell", "Z", false)
def tyX1 : Nat → FieldType := fun k => match k with
  | 0 => .array (.object "RegionStack$Body")
  | 1 => .int
  | 2 => .int
  | _ => .boolean
theorem nmX1 : ∀ a, a < 4 → ∀ b, b < 4 → a ≠ b → (TX1 a).2.1 ≠ (TX1 b).2.1 := by decide +kernel
theorem tyX1_ok : ∀ k, k < 4 → parseFieldDescriptor (TX1 k).2.2.1 = some (tyX1 k) := by decide +kernel
def RX2 : String := "RegionStack$Row"
def TX2 : u_T := fun k => match k with
  | _ => ("RegionStack$Row", "cells", "[I", true)
def tyX2 : Nat → FieldType := fun k => match k with
  | _ => .array .int
theorem nmX2 : ∀ a, a < 1 → ∀ b, b < 1 → a ≠ b → (TX2 a).2.1 ≠ (TX2 b).2.1 := by decide +kernel
theorem tyX2_ok : ∀ k, k < 1 → parseFieldDescriptor (TX2 k).2.2.1 = some (tyX2 k) := by decide +kernel
def RX3 : String := "RegionStack$Runner"
def TX3 : u_T := fun k => match k with
  | 0 => ("RegionStack$Runner", "program", "LRegionStack$Program;", true)
  | 1 => ("RegionStack$Runner", "store", "LRegionStack$Store;", true)
  | 2 => ("RegionStack$Runner", "places", "LRegionStack$Row;", true)
  | 3 => ("RegionStack$Runner", "stages", "LRegionStack$Row;", true)
  | 4 => ("RegionStack$Runner", "frames", "LRegionStack$Row;", true)
  | 5 => ("RegionStack$Runner", "held", "LRegionStack$Row;", true)
  | 6 => ("RegionStack$Runner", "frameBodies", "LRegionStack$Row;", true)
  | 7 => ("RegionStack$Runner", "frameGiven", "LRegionStack$Row;", true)
  | 8 => ("RegionStack$Runner", "letValues", "LRegionStack$Row;", true)
  | 9 => ("RegionStack$Runner", "regions", "LRegionStack$Row;", true)
  | 10 => ("RegionStack$Runner", "height", "I", false)
  | 11 => ("RegionStack$Runner", "result", "I", false)
  | 12 => ("RegionStack$Runner", "steps", "I", false)
  | 13 => ("RegionStack$Runner", "calls", "I", false)
  | 14 => ("RegionStack$Runner", "isKnown", "Z", false)
  | 15 => ("RegionStack$Runner", "ranAt", "I", false)
  | 16 => ("RegionStack$Runner", "ranBody", "I", false)
  | _ => ("RegionStack$Runner", "ranNumber", "I", false)
def tyX3 : Nat → FieldType := fun k => match k with
  | 0 => .object "RegionStack$Program"
  | 1 => .object "RegionStack$Store"
  | 2 => .object "RegionStack$Row"
  | 3 => .object "RegionStack$Row"
  | 4 => .object "RegionStack$Row"
  | 5 => .object "RegionStack$Row"
  | 6 => .object "RegionStack$Row"
  | 7 => .object "RegionStack$Row"
  | 8 => .object "RegionStack$Row"
  | 9 => .object "RegionStack$Row"
  | 10 => .int
  | 11 => .int
  | 12 => .int
  | 13 => .int
  | 14 => .boolean
  | 15 => .int
  | 16 => .int
  | _ => .int
theorem nmX3 : ∀ a, a < 18 → ∀ b, b < 18 → a ≠ b → (TX3 a).2.1 ≠ (TX3 b).2.1 := by decide +kernel
theorem tyX3_ok : ∀ k, k < 18 → parseFieldDescriptor (TX3 k).2.2.1 = some (tyX3 k) := by decide +kernel
def RX4 : String := "RegionStack$Store"
def TX4 : u_T := fun k => match k with
  | 0 => ("RegionStack$Store", "holds", "LRegionStack$Row;", true)
  | 1 => ("RegionStack$Store", "boxesIn", "LRegionStack$Row;", true)
  | 2 => ("RegionStack$Store", "wordsOfBox", "LRegionStack$Row;", true)
  | 3 => ("RegionStack$Store", "open", "I", false)
  | 4 => ("RegionStack$Store", "boxes", "I", false)
  | 5 => ("RegionStack$Store", "words", "I", false)
  | 6 => ("RegionStack$Store", "made", "I", false)
  | 7 => ("RegionStack$Store", "mostBoxes", "I", false)
  | 8 => ("RegionStack$Store", "mostOpen", "I", false)
  | 9 => ("RegionStack$Store", "opened", "I", false)
  | 10 => ("RegionStack$Store", "becameSpread", "I", false)
  | 11 => ("RegionStack$Store", "mostWords", "I", false)
  | _ => ("RegionStack$Store", "plainWords", "I", false)
def tyX4 : Nat → FieldType := fun k => match k with
  | 0 => .object "RegionStack$Row"
  | 1 => .object "RegionStack$Row"
  | 2 => .object "RegionStack$Row"
  | 3 => .int
  | 4 => .int
  | 5 => .int
  | 6 => .int
  | 7 => .int
  | 8 => .int
  | 9 => .int
  | 10 => .int
  | 11 => .int
  | _ => .int
theorem nmX4 : ∀ a, a < 13 → ∀ b, b < 13 → a ≠ b → (TX4 a).2.1 ≠ (TX4 b).2.1 := by decide +kernel
theorem tyX4_ok : ∀ k, k < 13 → parseFieldDescriptor (TX4 k).2.2.1 = some (tyX4 k) := by decide +kernel
def RX5 : String := "RegionStack$Term"
def TX5 : u_T := fun k => match k with
  | 0 => ("RegionStack$Term", "text", "LRegionStack$Text;", true)
  | 1 => ("RegionStack$Term", "kinds", "LRegionStack$Row;", true)
  | 2 => ("RegionStack$Term", "partSigns", "LRegionStack$Row;", true)
  | 3 => ("RegionStack$Term", "called", "LRegionStack$Row;", true)
  | 4 => ("RegionStack$Term", "inner", "LRegionStack$Row;", true)
  | 5 => ("RegionStack$Term", "outer", "LRegionStack$Row;", true)
  | 6 => ("RegionStack$Term", "ends", "LRegionStack$Row;", true)
  | 7 => ("RegionStack$Term", "binders", "LRegionStack$Row;", true)
  | 8 => ("RegionStack$Term", "waiting", "LRegionStack$Row;", true)
  | 9 => ("RegionStack$Term", "faultPlace", "I", false)
  | _ => ("RegionStack$Term", "partCount", "I", false)
def tyX5 : Nat → FieldType := fun k => match k with
  | 0 => .object "RegionStack$Text"
  | 1 => .object "RegionStack$Row"
  | 2 => .object "RegionStack$Row"
  | 3 => .object "RegionStack$Row"
  | 4 => .object "RegionStack$Row"
  | 5 => .object "RegionStack$Row"
  | 6 => .object "RegionStack$Row"
  | 7 => .object "RegionStack$Row"
  | 8 => .object "RegionStack$Row"
  | 9 => .int
  | _ => .int
theorem nmX5 : ∀ a, a < 11 → ∀ b, b < 11 → a ≠ b → (TX5 a).2.1 ≠ (TX5 b).2.1 := by decide +kernel
theorem tyX5_ok : ∀ k, k < 11 → parseFieldDescriptor (TX5 k).2.2.1 = some (tyX5 k) := by decide +kernel
def RX6 : String := "RegionStack$Text"
def TX6 : u_T := fun k => match k with
  | 0 => ("RegionStack$Text", "signs", "LRegionStack$Row;", true)
  | 1 => ("RegionStack$Text", "count", "I", false)
  | 2 => ("RegionStack$Text", "given", "I", false)
  | _ => ("RegionStack$Text", "gives", "I", false)
def tyX6 : Nat → FieldType := fun k => match k with
  | 0 => .object "RegionStack$Row"
  | 1 => .int
  | 2 => .int
  | _ => .int
theorem nmX6 : ∀ a, a < 4 → ∀ b, b < 4 → a ≠ b → (TX6 a).2.1 ≠ (TX6 b).2.1 := by decide +kernel
theorem tyX6_ok : ∀ k, k < 4 → parseFieldDescriptor (TX6 k).2.2.1 = some (tyX6 k) := by decide +kernel
def RX7 : String := "RegionStack"
def TX7 : u_T := fun k => match k with
  | 0 => ("RegionStack", "program", "LRegionStack$Program;", true)
  | 1 => ("RegionStack", "runner", "LRegionStack$Runner;", true)
  | 2 => ("RegionStack", "keptTexts", "[LRegionStack$Text;", true)
  | _ => ("RegionStack", "isKept", "[Z", true)
def tyX7 : Nat → FieldType := fun k => match k with
  | 0 => .object "RegionStack$Program"
  | 1 => .object "RegionStack$Runner"
  | 2 => .array (.object "RegionStack$Text")
  | _ => .array .boolean
theorem nmX7 : ∀ a, a < 4 → ∀ b, b < 4 → a ≠ b → (TX7 a).2.1 ≠ (TX7 b).2.1 := by decide +kernel
theorem tyX7_ok : ∀ k, k < 4 → parseFieldDescriptor (TX7 k).2.2.1 = some (tyX7 k) := by decide +kernel
def RX8 : String := "RegionStackModel"
def TX8 : u_T := fun k => match k with
  | 0 => ("RegionStackModel", "given", "[I", true)
  | 1 => ("RegionStackModel", "gives", "[I", true)
  | 2 => ("RegionStackModel", "signs", "[I", true)
  | 3 => ("RegionStackModel", "sign", "[I", true)
  | 4 => ("RegionStackModel", "what1", "[I", true)
  | 5 => ("RegionStackModel", "first", "[I", true)
  | 6 => ("RegionStackModel", "second", "[I", true)
  | 7 => ("RegionStackModel", "third", "[I", true)
  | 8 => ("RegionStackModel", "end", "[I", true)
  | 9 => ("RegionStackModel", "stands", "[I", true)
  | 10 => ("RegionStackModel", "pass", "[Z", true)
  | 11 => ("RegionStackModel", "number", "[I", true)
  | 12 => ("RegionStackModel", "home", "[I", true)
  | 13 => ("RegionStackModel", "own", "[I", true)
  | 14 => ("RegionStackModel", "effect", "[I", true)
  | 15 => ("RegionStackModel", "pileCall", "[I", true)
  | 16 => ("RegionStackModel", "pileAt", "[I", true)
  | 17 => ("RegionStackModel", "pilePhase", "[I", true)
  | 18 => ("RegionStackModel", "pileFirst", "[I", true)
  | 19 => ("RegionStackModel", "high", "I", false)
  | 20 => ("RegionStackModel", "callBody", "[I", true)
  | 21 => ("RegionStackModel", "callGiven", "[I", true)
  | 22 => ("RegionStackModel", "letter", "[I", true)
  | 23 => ("RegionStackModel", "opened", "[I", true)
  | 24 => ("RegionStackModel", "calls", "I", false)
  | 25 => ("RegionStackModel", "holds", "[I", true)
  | 26 => ("RegionStackModel", "boxes", "[I", true)
  | 27 => ("RegionStackModel", "spread", "[Z", true)
  | 28 => ("RegionStackModel", "regions", "I", false)
  | 29 => ("RegionStackModel", "value", "I", false)
  | 30 => ("RegionStackModel", "steps", "I", false)
  | 31 => ("RegionStackModel", "made", "I", false)
  | 32 => ("RegionStackModel", "atOnce", "I", false)
  | 33 => ("RegionStackModel", "most", "I", false)
  | 34 => ("RegionStackModel", "mostRegions", "I", false)
  | 35 => ("RegionStackModel", "allRegions", "I", false)
  | 36 => ("RegionStackModel", "spreads", "I", false)
  | 37 => ("RegionStackModel", "allCalls", "I", false)
  | 38 => ("RegionStackModel", "words", "I", false)
  | 39 => ("RegionStackModel", "mostWords", "I", false)
  | 40 => ("RegionStackModel", "plain", "I", false)
  | 41 => ("RegionStackModel", "image", "[I", true)
  | _ => ("RegionStackModel", "isKept", "[Z", true)
def tyX8 : Nat → FieldType := fun k => match k with
  | 0 => .array .int
  | 1 => .array .int
  | 2 => .array .int
  | 3 => .array .int
  | 4 => .array .int
  | 5 => .array .int
  | 6 => .array .int
  | 7 => .array .int
  | 8 => .array .int
  | 9 => .array .int
  | 10 => .array .boolean
  | 11 => .array .int
  | 12 => .array .int
  | 13 => .array .int
  | 14 => .array .int
  | 15 => .array .int
  | 16 => .array .int
  | 17 => .array .int
  | 18 => .array .int
  | 19 => .int
  | 20 => .array .int
  | 21 => .array .int
  | 22 => .array .int
  | 23 => .array .int
  | 24 => .int
  | 25 => .array .int
  | 26 => .array .int
  | 27 => .array .boolean
  | 28 => .int
  | 29 => .int
  | 30 => .int
  | 31 => .int
  | 32 => .int
  | 33 => .int
  | 34 => .int
  | 35 => .int
  | 36 => .int
  | 37 => .int
  | 38 => .int
  | 39 => .int
  | 40 => .int
  | 41 => .array .int
  | _ => .array .boolean
theorem nmX8 : ∀ a, a < 43 → ∀ b, b < 43 → a ≠ b → (TX8 a).2.1 ≠ (TX8 b).2.1 := by decide +kernel
theorem tyX8_ok : ∀ k, k < 43 → parseFieldDescriptor (TX8 k).2.2.1 = some (tyX8 k) := by decide +kernel
abbrev vwCl : List vw_C := [(RX0, TX0, 9), (RX1, TX1, 4), (RX2, TX2, 1), (RX3, TX3, 18), (RX4, TX4, 13), (RX5, TX5, 11), (RX6, TX6, 4), (RX7, TX7, 4), (RX8, TX8, 43)]
def RL0 : String := "RegionStackLaw"
def nmL : List (MethodName) := [
  ⟨"RegionStack$Row", "get", "(I)I"⟩, ⟨"RegionStack$Row", "set", "(II)V"⟩,
  ⟨"RegionStack$Row", "fill", "(I)V"⟩, ⟨"RegionStack", "isWithin", "(III)Z"⟩,
  ⟨"RegionStack", "isLetter", "(I)Z"⟩, ⟨"RegionStack", "isFigure", "(I)Z"⟩,
  ⟨"RegionStack", "bearsName", "(I)Z"⟩, ⟨"RegionStack", "isNameFor", "(II)Z"⟩,
  ⟨"RegionStack", "termsIn", "(I)I"⟩, ⟨"RegionStackModel", "in", "(III)Z"⟩,
  ⟨"RegionStackModel", "isBody", "(I)Z"⟩, ⟨"RegionStackModel", "kindOfSign", "(I)I"⟩,
  ⟨"RegionStackModel", "inner", "(I)I"⟩, ⟨"RegionStackModel", "nodeOf", "(II)I"⟩,
  ⟨"RegionStackModel", "bodyOfCall", "(I)I"⟩, ⟨"RegionStack$Program", "bodyAt", "(I)LRegionStack$Body;"⟩,
  ⟨"RegionStack$Text", "hasPlace", "(I)Z"⟩, ⟨"RegionStack$Text", "bothKinds", "()I"⟩,
  ⟨"RegionStack$Term", "isPart", "(I)Z"⟩, ⟨"RegionStack$Term", "innerAt", "(II)I"⟩,
  ⟨"RegionStack$Term", "binderAt", "(I)I"⟩, ⟨"RegionStack$Term", "innerKind", "(II)I"⟩,
  ⟨"RegionStack$Store", "lookInto", "(I)I"⟩, ⟨"RegionStackModel", "rootOf", "(I)I"⟩,
  ⟨"RegionStackModel", "unite", "(II)V"⟩, ⟨"RegionStack", "<init>", "()V"⟩,
  ⟨"RegionStack", "body", "(III)I"⟩, ⟨"RegionStack", "say", "(II)I"⟩,
  ⟨"RegionStack", "wipe", "(I)I"⟩, ⟨"RegionStack", "fault", "(I)I"⟩,
  ⟨"RegionStack", "parts", "(II)I"⟩, ⟨"RegionStack", "kind", "(II)I"⟩,
  ⟨"RegionStack", "well", "()I"⟩, ⟨"RegionStack", "tells", "(II)I"⟩,
  ⟨"RegionStack", "region", "(II)I"⟩, ⟨"RegionStack", "home", "(II)I"⟩,
  ⟨"RegionStack", "touches", "(III)I"⟩, ⟨"RegionStack", "run", "(III)I"⟩,
  ⟨"RegionStack", "words", "(III)I"⟩, ⟨"RegionStack", "mixed", "(II)I"⟩,
  ⟨"RegionStack", "image", "(I)I"⟩, ⟨"RegionStack", "restore", "(I)I"⟩,
  ⟨"RegionStack", "told", "(I)I"⟩, ⟨"RegionStack", "textChanged", "(LRegionStack$Body;)V"⟩,
  ⟨"RegionStack", "keptText", "(II)LRegionStack$Text;"⟩, ⟨"RegionStack", "refusalOfRun", "(IIZ)I"⟩,
  ⟨"RegionStack", "quotientBits", "(II)I"⟩, ⟨"RegionStackModel", "<init>", "()V"⟩,
  ⟨"RegionStackModel", "body", "(III)I"⟩, ⟨"RegionStackModel", "say", "(II)I"⟩,
  ⟨"RegionStackModel", "wipe", "(I)I"⟩, ⟨"RegionStackModel", "read", "(I)I"⟩,
  ⟨"RegionStackModel", "fault", "(I)I"⟩, ⟨"RegionStackModel", "binder", "(II)I"⟩,
  ⟨"RegionStackModel", "kindAt", "(II)I"⟩, ⟨"RegionStackModel", "isIll", "(II)Z"⟩,
  ⟨"RegionStackModel", "illOne", "(I)I"⟩, ⟨"RegionStackModel", "parts", "(II)I"⟩,
  ⟨"RegionStackModel", "kind", "(II)I"⟩, ⟨"RegionStackModel", "isWell", "()Z"⟩,
  ⟨"RegionStackModel", "well", "()I"⟩, ⟨"RegionStackModel", "uniteAll", "(I)V"⟩,
  ⟨"RegionStackModel", "layRegions", "()Z"⟩, ⟨"RegionStackModel", "numberAll", "(I)V"⟩,
  ⟨"RegionStackModel", "touchesOne", "(II)Z"⟩, ⟨"RegionStackModel", "layHomes", "(I)V"⟩,
  ⟨"RegionStackModel", "does", "(IIZ)Z"⟩, ⟨"RegionStackModel", "layEffects", "()V"⟩,
  ⟨"RegionStackModel", "tells", "(II)I"⟩, ⟨"RegionStackModel", "region", "(II)I"⟩,
  ⟨"RegionStackModel", "home", "(II)I"⟩, ⟨"RegionStackModel", "touches", "(III)I"⟩,
  ⟨"RegionStackModel", "openOne", "()I"⟩, ⟨"RegionStackModel", "closeOne", "()V"⟩,
  ⟨"RegionStackModel", "put", "(II)I"⟩, ⟨"RegionStackModel", "begin", "(IIII)I"⟩,
  ⟨"RegionStackModel", "start", "(II)V"⟩, ⟨"RegionStackModel", "turnHomes", "(IIZ)V"⟩,
  ⟨"RegionStackModel", "finish", "(II)V"⟩, ⟨"RegionStackModel", "goOn", "(III)V"⟩,
  ⟨"RegionStackModel", "step", "()V"⟩, ⟨"RegionStackModel", "barOfRun", "(II)I"⟩,
  ⟨"RegionStackModel", "run", "(III)I"⟩, ⟨"RegionStackModel", "words", "(III)I"⟩,
  ⟨"RegionStackModel", "mixed", "(II)I"⟩, ⟨"RegionStackModel", "image", "(I)I"⟩,
  ⟨"RegionStackModel", "restore", "(I)I"⟩, ⟨"RegionStackModel", "told", "(I)I"⟩,
  ⟨"RegionStack$Body", "<init>", "()V"⟩, ⟨"RegionStack$Body", "hasOwn", "(I)Z"⟩,
  ⟨"RegionStack$Body", "joinParts", "(LRegionStack$Program;)V"⟩, ⟨"RegionStack$Body", "joinPart", "(LRegionStack$Program;I)V"⟩,
  ⟨"RegionStack$Body", "join", "(II)V"⟩, ⟨"RegionStack$Body", "numberParts", "()V"⟩,
  ⟨"RegionStack$Body", "findNumber", "(I)I"⟩, ⟨"RegionStack$Body", "findEffect", "(LRegionStack$Program;)I"⟩,
  ⟨"RegionStack$Body", "findHomes", "()V"⟩, ⟨"RegionStack$Body", "countOf", "(LRegionStack$Program;II)I"⟩,
  ⟨"RegionStack$Body", "touchesIt", "(II)Z"⟩, ⟨"RegionStack$Body", "putsInto", "(LRegionStack$Program;II)Z"⟩,
  ⟨"RegionStack$Body", "looksInto", "(LRegionStack$Program;II)Z"⟩, ⟨"RegionStack$Body", "callDoes", "(LRegionStack$Program;IIII)Z"⟩,
  ⟨"RegionStack$Program", "<init>", "()V"⟩, ⟨"RegionStack$Program", "kindsChanged", "()V"⟩,
  ⟨"RegionStack$Program", "findKind", "(LRegionStack$Term;I)I"⟩, ⟨"RegionStack$Program", "firstIll", "(LRegionStack$Term;)I"⟩,
  ⟨"RegionStack$Program", "isIll", "(LRegionStack$Term;I)Z"⟩, ⟨"RegionStack$Program", "settle", "()Z"⟩,
  ⟨"RegionStack$Program", "areAllWell", "()Z"⟩, ⟨"RegionStack$Program", "findPasses", "()V"⟩,
  ⟨"RegionStack$Program", "findEffects", "()V"⟩, ⟨"RegionStack$Row", "<init>", "(I)V"⟩,
  ⟨"RegionStack$Runner", "<init>", "()V"⟩, ⟨"RegionStack$Runner", "tallyOf", "(I)I"⟩,
  ⟨"RegionStack$Runner", "goThrough", "(II)Z"⟩, ⟨"RegionStack$Runner", "begin", "(LRegionStack$Body;II)V"⟩,
  ⟨"RegionStack$Runner", "setRegion", "(III)V"⟩, ⟨"RegionStack$Runner", "regionFor", "(II)I"⟩,
  ⟨"RegionStack$Runner", "push", "(II)V"⟩, ⟨"RegionStack$Runner", "takeTurn", "()V"⟩,
  ⟨"RegionStack$Runner", "enter", "(LRegionStack$Body;II)V"⟩, ⟨"RegionStack$Runner", "valueOf", "(LRegionStack$Term;II)I"⟩,
  ⟨"RegionStack$Runner", "leave", "(LRegionStack$Body;I)V"⟩, ⟨"RegionStack$Runner", "goOn", "(LRegionStack$Body;II)V"⟩,
  ⟨"RegionStack$Runner", "makeBox", "(I)V"⟩, ⟨"RegionStack$Runner", "callBody", "(LRegionStack$Body;II)V"⟩,
  ⟨"RegionStack$Store", "<init>", "()V"⟩, ⟨"RegionStack$Store", "clear", "()V"⟩,
  ⟨"RegionStack$Store", "openRegion", "()I"⟩, ⟨"RegionStack$Store", "closeLast", "()V"⟩,
  ⟨"RegionStack$Store", "putBox", "(II)I"⟩, ⟨"RegionStack$Term", "<init>", "()V"⟩,
  ⟨"RegionStack$Term", "leastAround", "(II)I"⟩, ⟨"RegionStack$Term", "read", "()V"⟩,
  ⟨"RegionStack$Term", "findFault", "()I"⟩, ⟨"RegionStack$Term", "linkParts", "()V"⟩,
  ⟨"RegionStack$Term", "findNames", "()V"⟩, ⟨"RegionStack$Term", "findBinder", "(I)I"⟩,
  ⟨"RegionStack$Text", "<init>", "()V"⟩, ⟨"RegionStack$Text", "takeFrom", "(LRegionStack$Text;)V"⟩,
  ⟨"RegionStackLaw", "law", "([I)Z"⟩
]
def byL : List (ByteArray) := [
  prog_4_method_2_code, prog_4_method_3_code, prog_4_method_4_code, prog_1_method_22_code, prog_1_method_24_code, prog_1_method_23_code, prog_1_method_25_code, prog_1_method_26_code,
  prog_1_method_27_code, prog_10_method_2_code, prog_10_method_3_code, prog_10_method_7_code, prog_10_method_8_code, prog_10_method_22_code, prog_10_method_12_code, prog_3_method_2_code,
  prog_8_method_2_code, prog_8_method_3_code, prog_7_method_2_code, prog_7_method_3_code, prog_7_method_4_code, prog_7_method_5_code, prog_6_method_6_code, prog_10_method_20_code,
  prog_10_method_21_code, prog_1_method_1_code, prog_1_method_2_code, prog_1_method_3_code, prog_1_method_4_code, prog_1_method_5_code, prog_1_method_6_code, prog_1_method_7_code,
  prog_1_method_8_code, prog_1_method_9_code, prog_1_method_10_code, prog_1_method_11_code, prog_1_method_12_code, prog_1_method_13_code, prog_1_method_14_code, prog_1_method_15_code,
  prog_1_method_16_code, prog_1_method_17_code, prog_1_method_18_code, prog_1_method_19_code, prog_1_method_20_code, prog_1_method_21_code, prog_1_method_28_code, prog_10_method_1_code,
  prog_10_method_4_code, prog_10_method_5_code, prog_10_method_6_code, prog_10_method_9_code, prog_10_method_10_code, prog_10_method_11_code, prog_10_method_13_code, prog_10_method_14_code,
  prog_10_method_15_code, prog_10_method_16_code, prog_10_method_17_code, prog_10_method_18_code, prog_10_method_19_code, prog_10_method_23_code, prog_10_method_24_code, prog_10_method_25_code,
  prog_10_method_26_code, prog_10_method_27_code, prog_10_method_28_code, prog_10_method_29_code, prog_10_method_30_code, prog_10_method_31_code, prog_10_method_32_code, prog_10_method_33_code,
  prog_10_method_34_code, prog_10_method_35_code, prog_10_method_36_code, prog_10_method_37_code, prog_10_method_38_code, prog_10_method_39_code, prog_10_method_40_code, prog_10_method_41_code,
  prog_10_method_42_code, prog_10_method_43_code, prog_10_method_44_code, prog_10_method_45_code, prog_10_method_46_code, prog_10_method_47_code, prog_10_method_48_code, prog_10_method_49_code,
  prog_2_method_1_code, prog_2_method_2_code, prog_2_method_3_code, prog_2_method_4_code, prog_2_method_5_code, prog_2_method_6_code, prog_2_method_7_code, prog_2_method_8_code,
  prog_2_method_9_code, prog_2_method_10_code, prog_2_method_11_code, prog_2_method_12_code, prog_2_method_13_code, prog_2_method_14_code, prog_3_method_1_code, prog_3_method_3_code,
  prog_3_method_4_code, prog_3_method_5_code, prog_3_method_6_code, prog_3_method_7_code, prog_3_method_8_code, prog_3_method_9_code, prog_3_method_10_code, prog_4_method_1_code,
  prog_5_method_1_code, prog_5_method_2_code, prog_5_method_3_code, prog_5_method_4_code, prog_5_method_5_code, prog_5_method_6_code, prog_5_method_7_code, prog_5_method_8_code,
  prog_5_method_9_code, prog_5_method_10_code, prog_5_method_11_code, prog_5_method_12_code, prog_5_method_13_code, prog_5_method_14_code, prog_6_method_1_code, prog_6_method_2_code,
  prog_6_method_3_code, prog_6_method_4_code, prog_6_method_5_code, prog_7_method_1_code, prog_7_method_6_code, prog_7_method_7_code, prog_7_method_8_code, prog_7_method_9_code,
  prog_7_method_10_code, prog_7_method_11_code, prog_8_method_1_code, prog_8_method_4_code, code
]
def nlL : List (Nat) := [
  2, 3, 3, 3, 1, 1, 1, 2, 1, 3, 1, 1, 1, 3, 2, 2, 2, 1, 2, 3, 2, 3, 2, 3, 3, 2, 6, 4, 4, 3,
  4, 4, 1, 4, 4, 4, 5, 5, 5, 4, 5, 5, 4, 2, 4, 4, 13, 1, 5, 3, 3, 9, 2, 6, 5, 5, 3, 5, 3, 3,
  1, 4, 4, 7, 4, 6, 6, 8, 3, 3, 3, 6, 1, 1, 3, 5, 3, 6, 3, 8, 6, 6, 5, 5, 7, 4, 4, 4, 1, 2,
  3, 4, 6, 3, 4, 5, 4, 7, 5, 5, 5, 8, 2, 4, 7, 3, 5, 2, 3, 6, 6, 2, 1, 2, 5, 5, 4, 3, 3, 6,
  5, 5, 4, 4, 2, 5, 1, 1, 2, 2, 6, 1, 5, 1, 5, 8, 3, 7, 1, 3, 4
]
def rtL : List (Option FieldType) := [
  some (.int), none, none, some (.boolean), some (.boolean), some (.boolean), some (.boolean), some (.boolean),
  some (.int), some (.boolean), some (.boolean), some (.int), some (.int), some (.int), some (.int), some (.object "RegionStack$Body"),
  some (.boolean), some (.int), some (.boolean), some (.int), some (.int), some (.int), some (.int), some (.int),
  none, none, some (.int), some (.int), some (.int), some (.int), some (.int), some (.int),
  some (.int), some (.int), some (.int), some (.int), some (.int), some (.int), some (.int), some (.int),
  some (.int), some (.int), some (.int), none, some (.object "RegionStack$Text"), some (.int), some (.int), none,
  some (.int), some (.int), some (.int), some (.int), some (.int), some (.int), some (.int), some (.boolean),
  some (.int), some (.int), some (.int), some (.boolean), some (.int), none, some (.boolean), none,
  some (.boolean), none, some (.boolean), none, some (.int), some (.int), some (.int), some (.int),
  some (.int), none, some (.int), some (.int), none, none, none, none,
  none, some (.int), some (.int), some (.int), some (.int), some (.int), some (.int), some (.int),
  none, some (.boolean), none, none, none, none, some (.int), some (.int),
  none, some (.int), some (.boolean), some (.boolean), some (.boolean), some (.boolean), none, none,
  some (.int), some (.int), some (.boolean), some (.boolean), some (.boolean), none, none, none,
  none, some (.int), some (.boolean), none, none, some (.int), none, none,
  none, some (.int), none, none, none, none, none, none,
  some (.int), none, some (.int), none, some (.int), none, some (.int), none,
  none, some (.int), none, none, some (.boolean)
]
def npL : List (Nat) := [
  1, 2, 1, 3, 1, 1, 1, 2, 1, 3, 1, 1, 1, 2, 1, 1, 1, 0, 1, 2, 1, 2, 1, 1, 2, 0, 3, 2, 1, 1,
  2, 2, 0, 2, 2, 2, 3, 3, 3, 2, 1, 1, 1, 1, 2, 3, 2, 0, 3, 2, 1, 1, 1, 2, 2, 2, 1, 2, 2, 0,
  0, 1, 0, 1, 2, 1, 3, 0, 2, 2, 2, 3, 0, 0, 2, 4, 2, 3, 2, 3, 0, 2, 3, 3, 2, 1, 1, 1, 0, 1,
  1, 2, 2, 0, 1, 1, 0, 3, 2, 3, 3, 5, 0, 0, 2, 1, 2, 0, 0, 0, 0, 1, 0, 1, 2, 3, 3, 2, 2, 0,
  3, 3, 2, 3, 1, 3, 0, 0, 0, 0, 2, 0, 2, 0, 0, 0, 0, 1, 0, 1, 1
]
def stL : List (Bool) := [
  false, false, false, true, true, true, true, true, true, true, true, true, true, false, false, false, false, false, false, false,
  false, false, false, false, false, false, false, false, false, false, false, false, false, false, false, false, false, false, false, false,
  false, false, false, false, false, false, true, false, false, false, false, false, false, false, false, false, false, false, false, false,
  false, false, false, false, false, false, false, false, false, false, false, false, false, false, false, false, false, false, false, false,
  false, false, false, false, false, false, false, false, false, false, false, false, false, false, false, false, false, false, false, false,
  false, false, false, false, false, false, false, false, false, false, false, false, false, false, false, false, false, false, false, false,
  false, false, false, false, false, false, false, false, false, false, false, false, false, false, false, false, false, false, false, false,
  true
]
def ocL : List (Nat) := [
  2, 2, 2, 7, 7, 7, 7, 7, 7, 8, 8, 8, 8, 8, 8, 1, 6, 6, 5, 5, 5, 5, 4, 8, 8, 7, 7, 7, 7, 7,
  7, 7, 7, 7, 7, 7, 7, 7, 7, 7, 7, 7, 7, 7, 7, 7, 7, 8, 8, 8, 8, 8, 8, 8, 8, 8, 8, 8, 8, 8,
  8, 8, 8, 8, 8, 8, 8, 8, 8, 8, 8, 8, 8, 8, 8, 8, 8, 8, 8, 8, 8, 8, 8, 8, 8, 8, 8, 8, 0, 0,
  0, 0, 0, 0, 0, 0, 0, 0, 0, 0, 0, 0, 1, 1, 1, 1, 1, 1, 1, 1, 1, 2, 3, 3, 3, 3, 3, 3, 3, 3,
  3, 3, 3, 3, 3, 3, 4, 4, 4, 4, 4, 5, 5, 5, 5, 5, 5, 5, 6, 6, 9
]
def cnL : List String := [RX0, RX1, RX2, RX3, RX4, RX5, RX6, RX7, RX8, RL0]
end
section
def clsL : List (Nat) := [
  8, 4, 2, 0, 1, 6, 7, 3, 3, 3, 3, 3, 3, 3, 3, 3, 3, 3, 3, 3, 3, 3, 3, 3, 3, 3, 3, 3, 3, 3,
  3, 3, 5, 7, 0, 0, 0, 0, 0, 0, 0, 0, 0, 0, 0, 0, 0, 0, 0, 0, 0, 0, 0, 0, 0, 0, 0, 0, 0, 0,
  0, 0, 9, 0, 0, 0, 0, 0, 0, 0, 0, 0, 0, 0, 0, 0, 0, 0, 0, 0, 0, 0, 0, 0, 0, 0, 0, 0, 0, 0,
  0, 0, 0, 0, 0, 0, 0, 0, 0, 0
]
def akL : List (Nat) := [
  0, 0, 0, 3, 0, 0, 0, 0, 0, 0, 0, 0, 0, 0, 0, 0, 0, 0, 0, 0, 0, 0, 0, 0, 0, 0, 0, 0, 0, 0,
  0, 0, 0, 0, 4, 2, 0, 1, 1, 1, 1, 1, 1, 1, 1, 1, 1, 1, 1, 1, 1, 1, 1, 1, 1, 1, 1, 1, 1, 1,
  1, 1, 0, 1, 1, 1, 1, 1, 1, 1, 1, 1, 1, 2, 1, 1, 1, 1, 1, 1, 1, 1, 1, 1, 1, 1, 1, 1, 2, 1,
  2, 0, 0, 0, 0, 0, 0, 0, 0, 1
]
def alL : List (Int) := [
  0, 0, 0, 3, 0, 0, 0, 0, 0, 0, 0, 0, 0, 0, 0, 0, 0, 0, 0, 0, 0, 0, 0, 0, 0, 0, 0, 0, 0, 0,
  0, 0, 0, 0, 6, 2, 0, 40, 40, 40, 40, 120, 40, 40, 40, 40, 42, 40, 40, 42, 520, 520, 520, 520, 13, 13, 520, 546, 300, 546,
  546, 40, 0, 3, 3, 3, 120, 120, 120, 120, 120, 120, 126, 3, 120, 132, 3, 3, 600, 600, 600, 600, 16, 16, 640, 704, 302, 700, 700, 260,
  2, 0, 0, 0, 0, 0, 0, 0, 0, 0
]
def elL : List (Nat) := [
  0, 0, 0, 4, 0, 0, 0, 0, 0, 0, 0, 0, 0, 0, 0, 0, 0, 0, 0, 0, 0, 0, 0, 0, 0, 0, 0, 0, 0, 0,
  0, 0, 0, 0, 33, 0, 0, 0, 0, 0, 0, 0, 0, 0, 0, 0, 0, 0, 0, 0, 0, 0, 0, 0, 0, 0, 0, 0, 0, 0,
  0, 0, 0, 0, 0, 0, 0, 0, 0, 0, 0, 0, 0, 0, 0, 0, 0, 0, 0, 0, 0, 0, 0, 0, 0, 0, 0, 0, 0, 0,
  0, 0, 0, 0, 0, 0, 0, 0, 0, 0
]
def cntL : List (Nat) := [
  1, 1, 1, 1, 3, 3, 3, 3, 3, 3, 3, 3, 3, 3, 3, 3, 3, 3, 3, 3, 1, 1, 1, 1, 1, 1, 1, 1, 1, 1,
  1, 6, 1, 6, 1, 1, 0, 3, 3, 3, 3, 3, 3, 3, 3, 3, 3, 3, 3, 3, 1, 1, 1, 1, 1, 1, 1, 1, 1, 1,
  1, 6, 1, 1, 1, 1, 1, 1, 1, 1, 1, 1, 1, 1, 1, 1, 1, 1, 1, 1, 1, 1, 1, 1, 1, 1, 1, 1, 1, 1,
  1, 0, 0, 0, 0, 0, 0, 0, 0, 0
]
def rfL : List (List Nat) := [
  [2, 1, 34, 35], [2, 32, 20, 21, 22, 23, 24, 25, 26, 27, 0, 0, 0, 0, 0, 0, 0, 0], [3, 0, 0, 0], [], [5, 6, 16, 17, 18, 19, 0, 0, 0], [6, 8, 9, 10, 11, 12, 13, 14, 15, 0, 0],
  [7, 0, 0, 0], [37], [38], [39], [40], [41],
  [42], [43], [44], [45], [46], [47],
  [48], [49], [50], [51], [52], [53],
  [54], [55], [56], [57], [58], [59],
  [60], [61], [28, 29, 30, 0, 0, 0, 0, 0, 0, 0, 0, 0, 0], [31, 0, 0, 0], [], [],
  [], [], [], [], [], [],
  [], [], [], [], [], [],
  [], [], [], [], [], [],
  [], [], [], [], [], [],
  [], [], [63, 64, 65, 66, 67, 68, 69, 70, 71, 72, 73, 74, 75, 76, 77, 78, 79, 80, 81, 0, 82, 83, 84, 85, 0, 86, 87, 88, 0, 0, 0, 0, 0, 0, 0, 0, 0, 0, 0, 0, 0, 89, 90], [], [], [],
  [], [], [], [], [], [],
  [], [], [], [], [], [],
  [], [], [], [], [], [],
  [], [], [], [], [], [],
  [], [], [], [], [], [],
  [], [], [], []
]
/-! ===== an abstract machine beside the machine: ints are Int, references are (tag, instance), the heap is a function ===== -/
abbrev AV : Type := Int ⊕ (Option (Nat × Int) ⊕ (Int ⊕ Unit))
abbrev SS : Type := Nat → Int → Int → Int
abbrev vi (x : Int) : AV := .inl x
abbrev vr (t : Nat) (i : Int) : AV := .inr (.inl (some (t, i)))
abbrev vz : AV := .inr (.inl none)
abbrev vl (x : Int) : AV := .inr (.inr (.inl x))
abbrev vu : AV := .inr (.inr (.inr ()))
abbrev AI : Type := Instr × List Nat × Int
def nth {α : Type} : List α → Nat → Option α
  | [], _ => none
  | a :: _, 0 => some a
  | _ :: l, n + 1 => nth l n
def nd : List Nat → Nat → Nat
  | [], _ => 0
  | a :: _, 0 => a
  | _ :: l, n + 1 => nd l n
def ndI : List Int → Nat → Int
  | [], _ => 0
  | a :: _, 0 => a
  | _ :: l, n + 1 => ndI l n
def ndL : List (List Nat) → Nat → List Nat
  | [], _ => []
  | a :: _, 0 => a
  | _ :: l, n + 1 => ndL l n
end
section
/-- RegionStack$Row.get(I)I -/
def cd_0 : List AI := [
  (.iload_n 1, [], 0), (.ifCond .lt 21, [12], 0), (.iload_n 1, [], 0), (.aload_n 0, [], 0), (.getfield 7, [3, 0, 2], 0), (.arraylength, [], 0),
  (.if_icmp .ge 12, [12], 0), (.aload_n 0, [], 0), (.getfield 7, [3, 0, 2], 0), (.iload_n 1, [], 0), (.iaload, [], 0), (.goto 4, [13], 0),
  (.iconst 0, [], 0), (.ireturn, [], 0)
]
def bp_0 : List Nat := [0, 1, 4, 5, 6, 9, 10, 13, 14, 17, 18, 19, 22, 23, 24]
/-- RegionStack$Row.set(II)V -/
def cd_1 : List AI := [
  (.iload_n 1, [], 0), (.ifCond .lt 19, [12], 0), (.iload_n 1, [], 0), (.aload_n 0, [], 0), (.getfield 7, [3, 0, 2], 0), (.arraylength, [], 0),
  (.if_icmp .ge 10, [12], 0), (.aload_n 0, [], 0), (.getfield 7, [3, 0, 2], 0), (.iload_n 1, [], 0), (.iload_n 2, [], 0), (.iastore, [], 0),
  (.return_, [], 0)
]
def bp_1 : List Nat := [0, 1, 4, 5, 6, 9, 10, 13, 14, 17, 18, 19, 20, 21]
/-- RegionStack$Row.fill(I)V -/
def cd_2 : List AI := [
  (.iconst 0, [], 0), (.istore_n 2, [], 0), (.iload_n 2, [], 0), (.aload_n 0, [], 0), (.getfield 7, [3, 0, 2], 0), (.arraylength, [], 0),
  (.if_icmp .ge 16, [14], 0), (.aload_n 0, [], 0), (.getfield 7, [3, 0, 2], 0), (.iload_n 2, [], 0), (.iload_n 1, [], 0), (.iastore, [], 0),
  (.iinc 2 1, [], 0), (.goto (-19), [2], 0), (.return_, [], 0)
]
def bp_2 : List Nat := [0, 1, 2, 3, 4, 7, 8, 11, 12, 15, 16, 17, 18, 21, 24, 25]
/-- RegionStack.isWithin(III)Z -/
def cd_3 : List AI := [
  (.iload_n 0, [], 0), (.iload_n 1, [], 0), (.if_icmp .lt 12, [8], 0), (.iload_n 0, [], 0), (.iload_n 2, [], 0), (.if_icmp .gt 7, [8], 0),
  (.iconst 1, [], 0), (.goto 4, [9], 0), (.iconst 0, [], 0), (.ireturn, [], 0)
]
def bp_3 : List Nat := [0, 1, 2, 5, 6, 7, 10, 11, 14, 15, 16]
/-- RegionStack.isLetter(I)Z -/
def cd_4 : List AI := [
  (.iload_n 0, [], 0), (.bipush 97, [], 0), (.bipush 100, [], 0), (.invokestatic 38, [3, 3, 0, 1], 0), (.ireturn, [], 0)
]
def bp_4 : List Nat := [0, 1, 3, 5, 8, 9]
/-- RegionStack.isFigure(I)Z -/
def cd_5 : List AI := [
  (.iload_n 0, [], 0), (.bipush 48, [], 0), (.bipush 57, [], 0), (.invokestatic 38, [3, 3, 0, 1], 0), (.ireturn, [], 0)
]
def bp_5 : List Nat := [0, 1, 3, 5, 8, 9]
/-- RegionStack.bearsName(I)Z -/
def cd_6 : List AI := [
  (.iload_n 0, [], 0), (.bipush 108, [], 0), (.if_icmp .eq 9, [6], 0), (.iload_n 0, [], 0), (.bipush 64, [], 0), (.if_icmp .ne 7, [8], 0),
  (.iconst 1, [], 0), (.goto 4, [9], 0), (.iconst 0, [], 0), (.ireturn, [], 0)
]
def bp_6 : List Nat := [0, 1, 3, 6, 7, 9, 12, 13, 16, 17, 18]
/-- RegionStack.isNameFor(II)Z -/
def cd_7 : List AI := [
  (.iload_n 0, [], 0), (.bipush 108, [], 0), (.if_icmp .ne 10, [6], 0), (.iload_n 1, [], 0), (.invokestatic 174, [4, 1, 0, 1], 0), (.goto 11, [10], 0),
  (.iload_n 1, [], 0), (.bipush 48, [], 0), (.bipush 50, [], 0), (.invokestatic 38, [3, 3, 0, 1], 0), (.ireturn, [], 0)
]
def bp_7 : List Nat := [0, 1, 3, 6, 7, 10, 13, 14, 16, 18, 21, 22]
/-- RegionStack.termsIn(I)I -/
def cd_8 : List AI := [
  (.iload_n 0, [], 0), (.lookupswitch 73 #[(42, 67), (43, 69), (45, 67), (63, 71), (64, 67), (108, 69), (110, 67)], [8, 2, 4, 2, 6, 2, 4, 2], 0), (.iconst 1, [], 0), (.ireturn, [], 0), (.iconst 2, [], 0), (.ireturn, [], 0),
  (.iconst 3, [], 0), (.ireturn, [], 0), (.iload_n 0, [], 0), (.bipush 120, [], 0), (.if_icmp .eq 17, [17], 0), (.iload_n 0, [], 0),
  (.invokestatic 177, [5, 1, 0, 1], 0), (.ifCond .ne 10, [17], 0), (.iload_n 0, [], 0), (.invokestatic 174, [4, 1, 0, 1], 0), (.ifCond .eq 7, [19], 0), (.iconst 0, [], 0),
  (.goto 4, [20], 0), (.iconst (-1), [], 0), (.ireturn, [], 0)
]
def bp_8 : List Nat := [0, 1, 68, 69, 70, 71, 72, 73, 74, 75, 77, 80, 81, 84, 87, 88, 91, 94, 95, 98, 99, 100]
/-- RegionStackModel.in(III)Z -/
def cd_9 : List AI := [
  (.iload_n 0, [], 0), (.iload_n 1, [], 0), (.if_icmp .lt 12, [8], 0), (.iload_n 0, [], 0), (.iload_n 2, [], 0), (.if_icmp .gt 7, [8], 0),
  (.iconst 1, [], 0), (.goto 4, [9], 0), (.iconst 0, [], 0), (.ireturn, [], 0)
]
def bp_9 : List Nat := [0, 1, 2, 5, 6, 7, 10, 11, 14, 15, 16]
/-- RegionStackModel.isBody(I)Z -/
def cd_10 : List AI := [
  (.iload_n 0, [], 0), (.iconst 0, [], 0), (.iconst 2, [], 0), (.invokestatic 95, [9, 3, 0, 1], 0), (.ireturn, [], 0)
]
def bp_10 : List Nat := [0, 1, 2, 3, 6, 7]
/-- RegionStackModel.kindOfSign(I)I -/
def cd_11 : List AI := [
  (.iload_n 0, [], 0), (.bipush 48, [], 0), (.bipush 57, [], 0), (.invokestatic 95, [9, 3, 0, 1], 0), (.ifCond .eq 5, [7], 0), (.iconst 0, [], 0),
  (.ireturn, [], 0), (.iload_n 0, [], 0), (.bipush 97, [], 0), (.bipush 100, [], 0), (.invokestatic 95, [9, 3, 0, 1], 0), (.ifCond .eq 5, [14], 0),
  (.iconst 2, [], 0), (.ireturn, [], 0), (.iload_n 0, [], 0), (.lookupswitch 93 #[(42, 77), (43, 81), (45, 79), (63, 84), (64, 90), (108, 87), (110, 75), (120, 73)], [32, 20, 24, 22, 26, 30, 28, 18, 16], 0), (.iconst 1, [], 0), (.ireturn, [], 0),
  (.iconst 3, [], 0), (.ireturn, [], 0), (.iconst 4, [], 0), (.ireturn, [], 0), (.iconst 5, [], 0), (.ireturn, [], 0),
  (.bipush 6, [], 0), (.ireturn, [], 0), (.bipush 7, [], 0), (.ireturn, [], 0), (.bipush 8, [], 0), (.ireturn, [], 0),
  (.bipush 9, [], 0), (.ireturn, [], 0), (.bipush (-6), [], 0), (.ireturn, [], 0)
]
def bp_11 : List Nat := [0, 1, 3, 5, 8, 11, 12, 13, 14, 16, 18, 21, 24, 25, 26, 27, 100, 101, 102, 103, 104, 105, 106, 107, 108, 110, 111, 113, 114, 116, 117, 119, 120, 122, 123]
/-- RegionStackModel.inner(I)I -/
def cd_12 : List AI := [
  (.iload_n 0, [], 0), (.iconst 3, [], 0), (.if_icmp .ge 7, [5], 0), (.iconst 0, [], 0), (.goto 30, [19], 0), (.iload_n 0, [], 0),
  (.bipush 6, [], 0), (.if_icmp .lt 9, [11], 0), (.iload_n 0, [], 0), (.bipush 9, [], 0), (.if_icmp .ne 7, [13], 0), (.iconst 1, [], 0),
  (.goto 14, [19], 0), (.iload_n 0, [], 0), (.bipush 7, [], 0), (.if_icmp .ne 7, [18], 0), (.iconst 3, [], 0), (.goto 4, [19], 0),
  (.iconst 2, [], 0), (.ireturn, [], 0)
]
def bp_12 : List Nat := [0, 1, 2, 5, 6, 9, 10, 12, 15, 16, 18, 21, 22, 25, 26, 28, 31, 32, 35, 36, 37]
/-- RegionStackModel.nodeOf(II)I -/
def cd_13 : List AI := [
  (.bipush 42, [], 0), (.iload_n 1, [], 0), (.imul, [], 0), (.iload_n 2, [], 0), (.iadd, [], 0), (.bipush 40, [], 0),
  (.iload_n 1, [], 0), (.imul, [], 0), (.isub, [], 0), (.ireturn, [], 0)
]
def bp_13 : List Nat := [0, 2, 3, 4, 5, 6, 8, 9, 10, 11, 12]
/-- RegionStackModel.bodyOfCall(I)I -/
def cd_14 : List AI := [
  (.aload_n 0, [], 0), (.getfield 19, [9, 3, 2], 3), (.iload_n 1, [], 0), (.iconst 1, [], 0), (.iadd, [], 0), (.iaload, [], 0),
  (.bipush 48, [], 0), (.isub, [], 0), (.ireturn, [], 0)
]
def bp_14 : List Nat := [0, 1, 4, 5, 6, 7, 8, 10, 11, 12]
/-- RegionStack$Program.bodyAt(I)LRegionStack$Body; -/
def cd_15 : List AI := [
  (.iload_n 1, [], 0), (.ifCond .lt 21, [12], 0), (.iload_n 1, [], 0), (.aload_n 0, [], 0), (.getfield 11, [2, 0, 2], 0), (.arraylength, [], 0),
  (.if_icmp .ge 12, [12], 0), (.aload_n 0, [], 0), (.getfield 11, [2, 0, 2], 0), (.iload_n 1, [], 0), (.aaload, [], 0), (.goto 4, [13], 0),
  (.aconst_null, [], 0), (.areturn, [], 0)
]
def bp_15 : List Nat := [0, 1, 4, 5, 6, 9, 10, 13, 14, 17, 18, 19, 22, 23, 24]
/-- RegionStack$Text.hasPlace(I)Z -/
def cd_16 : List AI := [
  (.iload_n 1, [], 0), (.ifCond .lt 15, [8], 0), (.iload_n 1, [], 0), (.aload_n 0, [], 0), (.getfield 20, [7, 1, 0], 1), (.if_icmp .ge 7, [8], 0),
  (.iconst 1, [], 0), (.goto 4, [9], 0), (.iconst 0, [], 0), (.ireturn, [], 0)
]
def bp_16 : List Nat := [0, 1, 4, 5, 6, 9, 12, 13, 16, 17, 18]
/-- RegionStack$Text.bothKinds()I -/
def cd_17 : List AI := [
  (.bipush 10, [], 0), (.aload_n 0, [], 0), (.getfield 24, [7, 2, 0], 2), (.imul, [], 0), (.aload_n 0, [], 0), (.getfield 27, [7, 3, 0], 3),
  (.iadd, [], 0), (.ireturn, [], 0)
]
def bp_17 : List Nat := [0, 2, 3, 6, 7, 8, 11, 12, 13]
/-- RegionStack$Term.isPart(I)Z -/
def cd_18 : List AI := [
  (.aload_n 0, [], 0), (.getfield 27, [6, 2, 2], 2), (.iload_n 1, [], 0), (.invokevirtual 48, [0, 2, 3, 1], 0), (.ifCond .eq 7, [7], 0), (.iconst 1, [], 0),
  (.goto 4, [8], 0), (.iconst 0, [], 0), (.ireturn, [], 0)
]
def bp_18 : List Nat := [0, 1, 4, 5, 8, 11, 12, 15, 16, 17]
/-- RegionStack$Term.innerAt(II)I -/
def cd_19 : List AI := [
  (.aload_n 0, [], 0), (.getfield 33, [6, 4, 2], 4), (.iconst 3, [], 0), (.iload_n 1, [], 0), (.imul, [], 0), (.iload_n 2, [], 0),
  (.iadd, [], 0), (.invokevirtual 48, [0, 2, 3, 1], 0), (.ireturn, [], 0)
]
def bp_19 : List Nat := [0, 1, 4, 5, 6, 7, 8, 9, 12, 13]
/-- RegionStack$Term.binderAt(I)I -/
def cd_20 : List AI := [
  (.aload_n 0, [], 0), (.getfield 42, [6, 7, 2], 7), (.iload_n 1, [], 0), (.invokevirtual 48, [0, 2, 3, 1], 0), (.ireturn, [], 0)
]
def bp_20 : List Nat := [0, 1, 4, 5, 8, 9]
/-- RegionStack$Term.innerKind(II)I -/
def cd_21 : List AI := [
  (.aload_n 0, [], 0), (.getfield 23, [6, 1, 2], 1), (.aload_n 0, [], 0), (.getfield 33, [6, 4, 2], 4), (.iconst 3, [], 0), (.iload_n 1, [], 0),
  (.imul, [], 0), (.iload_n 2, [], 0), (.iadd, [], 0), (.invokevirtual 48, [0, 2, 3, 1], 0), (.invokevirtual 48, [0, 2, 3, 1], 0), (.ireturn, [], 0)
]
def bp_21 : List Nat := [0, 1, 4, 5, 8, 9, 10, 11, 12, 13, 16, 19, 20]
/-- RegionStack$Store.lookInto(I)I -/
def cd_22 : List AI := [
  (.aload_n 0, [], 0), (.getfield 14, [5, 0, 2], 0), (.iload_n 1, [], 0), (.invokevirtual 67, [0, 2, 3, 1], 0), (.ireturn, [], 0)
]
def bp_22 : List Nat := [0, 1, 4, 5, 8, 9]
/-- RegionStackModel.rootOf(I)I -/
def cd_23 : List AI := [
  (.iload_n 1, [], 0), (.istore_n 2, [], 0), (.aload_n 0, [], 0), (.getfield 37, [9, 9, 2], 9), (.iload_n 2, [], 0), (.iaload, [], 0),
  (.iload_n 2, [], 0), (.if_icmp .eq 13, [14], 0), (.aload_n 0, [], 0), (.getfield 37, [9, 9, 2], 9), (.iload_n 2, [], 0), (.iaload, [], 0),
  (.istore_n 2, [], 0), (.goto (-17), [2], 0), (.iload_n 2, [], 0), (.ireturn, [], 0)
]
def bp_23 : List Nat := [0, 1, 2, 3, 6, 7, 8, 9, 12, 13, 16, 17, 18, 19, 22, 23, 24]
/-- RegionStackModel.unite(II)V -/
def cd_24 : List AI := [
  (.aload_n 0, [], 0), (.getfield 37, [9, 9, 2], 9), (.aload_n 0, [], 0), (.iload_n 1, [], 0), (.invokevirtual 134, [23, 2, 9, 1], 0), (.aload_n 0, [], 0),
  (.iload_n 2, [], 0), (.invokevirtual 134, [23, 2, 9, 1], 0), (.iastore, [], 0), (.return_, [], 0)
]
def bp_24 : List Nat := [0, 1, 4, 5, 6, 9, 10, 11, 14, 15, 16]
/-- RegionStack.<init>()V -/
def cd_25 : List AI := [
  (.aload_n 0, [], 0), (.invokespecial 3, [], 0), (.aload_n 0, [], 0), (.new 9, [], 0), (.dup, [], 0), (.invokespecial 11, [112, 1, 4, 0], 0),
  (.putfield 12, [8, 1, 2], 1), (.aload_n 0, [], 0), (.aload_n 0, [], 0), (.getfield 12, [8, 1, 2], 1), (.getfield 16, [4, 0, 2], 0), (.putfield 20, [8, 0, 2], 0),
  (.aload_n 0, [], 0), (.bipush 6, [], 0), (.anewarray 21, [], 0), (.putfield 23, [8, 2, 2], 2), (.iconst 0, [], 0), (.istore_n 1, [], 0),
  (.iload_n 1, [], 0), (.aload_n 0, [], 0), (.getfield 23, [8, 2, 2], 2), (.arraylength, [], 0), (.if_icmp .ge 22, [32], 0), (.aload_n 0, [], 0),
  (.getfield 23, [8, 2, 2], 2), (.iload_n 1, [], 0), (.new 21, [], 0), (.dup, [], 0), (.invokespecial 27, [138, 1, 7, 0], 0), (.aastore, [], 0),
  (.iinc 1 1, [], 0), (.goto (-25), [18], 0), (.aload_n 0, [], 0), (.iconst 2, [], 0), (.newarray .boolean, [], 0), (.putfield 28, [8, 3, 2], 3),
  (.return_, [], 0)
]
def bp_25 : List Nat := [0, 1, 4, 5, 8, 9, 12, 15, 16, 17, 20, 23, 26, 27, 29, 32, 35, 36, 37, 38, 39, 42, 43, 46, 47, 50, 51, 54, 55, 58, 59, 62, 65, 66, 67, 69, 72, 73]
/-- RegionStack.body(III)I -/
def cd_26 : List AI := [
  (.aload_n 0, [], 0), (.getfield 20, [8, 0, 2], 0), (.iload_n 1, [], 0), (.invokevirtual 32, [15, 2, 2, 2], 0), (.astore 4, [], 0), (.aload 4, [], 0),
  (.ifnonnull 5, [9], 0), (.iconst (-1), [], 0), (.ireturn, [], 0), (.iload_n 2, [], 0), (.iconst 0, [], 0), (.iconst 1, [], 0),
  (.invokestatic 38, [3, 3, 0, 1], 0), (.ifCond .eq 12, [19], 0), (.iload_n 3, [], 0), (.iconst 0, [], 0), (.iconst 1, [], 0), (.invokestatic 38, [3, 3, 0, 1], 0),
  (.ifCond .ne 6, [21], 0), (.bipush (-2), [], 0), (.ireturn, [], 0), (.aload 4, [], 0), (.getfield 42, [1, 1, 2], 1), (.invokevirtual 48, [17, 1, 7, 1], 0),
  (.istore 5, [], 0), (.aload 4, [], 0), (.getfield 42, [1, 1, 2], 1), (.iload_n 2, [], 0), (.putfield 52, [7, 2, 0], 2), (.aload 4, [], 0),
  (.getfield 42, [1, 1, 2], 1), (.iload_n 3, [], 0), (.putfield 56, [7, 3, 0], 3), (.aload_n 0, [], 0), (.getfield 20, [8, 0, 2], 0), (.invokevirtual 59, [103, 1, 2, 0], 0),
  (.iload 5, [], 0), (.ireturn, [], 0)
]
def bp_26 : List Nat := [0, 1, 4, 5, 8, 10, 12, 15, 16, 17, 18, 19, 20, 23, 26, 27, 28, 29, 32, 35, 37, 38, 40, 43, 46, 48, 50, 53, 54, 57, 59, 62, 63, 66, 67, 70, 73, 75, 76]
/-- RegionStack.say(II)I -/
def cd_27 : List AI := [
  (.aload_n 0, [], 0), (.getfield 20, [8, 0, 2], 0), (.iload_n 1, [], 0), (.invokevirtual 32, [15, 2, 2, 2], 0), (.astore_n 3, [], 0), (.aload_n 3, [], 0),
  (.ifnonnull 5, [9], 0), (.iconst (-1), [], 0), (.ireturn, [], 0), (.iload_n 2, [], 0), (.bipush 33, [], 0), (.bipush 126, [], 0),
  (.invokestatic 38, [3, 3, 0, 1], 0), (.ifCond .ne 6, [16], 0), (.bipush (-2), [], 0), (.ireturn, [], 0), (.aload_n 3, [], 0), (.getfield 42, [1, 1, 2], 1),
  (.getfield 62, [7, 1, 0], 1), (.bipush 40, [], 0), (.if_icmp .lt 6, [23], 0), (.bipush (-4), [], 0), (.ireturn, [], 0), (.aload_n 3, [], 0),
  (.getfield 42, [1, 1, 2], 1), (.getfield 65, [7, 0, 2], 0), (.aload_n 3, [], 0), (.getfield 42, [1, 1, 2], 1), (.getfield 62, [7, 1, 0], 1), (.iload_n 2, [], 0),
  (.invokevirtual 69, [1, 3, 3, 0], 0), (.aload_n 3, [], 0), (.getfield 42, [1, 1, 2], 1), (.dup, [], 0), (.getfield 62, [7, 1, 0], 1), (.iconst 1, [], 0),
  (.iadd, [], 0), (.putfield 62, [7, 1, 0], 1), (.aload_n 0, [], 0), (.aload_n 3, [], 0), (.invokevirtual 75, [43, 2, 8, 0], 0), (.aload_n 3, [], 0),
  (.getfield 42, [1, 1, 2], 1), (.getfield 62, [7, 1, 0], 1), (.ireturn, [], 0)
]
def bp_27 : List Nat := [0, 1, 4, 5, 8, 9, 10, 13, 14, 15, 16, 18, 20, 23, 26, 28, 29, 30, 33, 36, 38, 41, 43, 44, 45, 48, 51, 52, 55, 58, 59, 62, 63, 66, 67, 70, 71, 72, 75, 76, 77, 80, 81, 84, 87, 88]
/-- RegionStack.wipe(I)I -/
def cd_28 : List AI := [
  (.aload_n 0, [], 0), (.getfield 20, [8, 0, 2], 0), (.iload_n 1, [], 0), (.invokevirtual 32, [15, 2, 2, 2], 0), (.astore_n 2, [], 0), (.aload_n 2, [], 0),
  (.ifnonnull 5, [9], 0), (.iconst (-1), [], 0), (.ireturn, [], 0), (.aload_n 2, [], 0), (.getfield 42, [1, 1, 2], 1), (.getfield 62, [7, 1, 0], 1),
  (.istore_n 3, [], 0), (.aload_n 2, [], 0), (.getfield 42, [1, 1, 2], 1), (.iconst 0, [], 0), (.putfield 62, [7, 1, 0], 1), (.aload_n 0, [], 0),
  (.aload_n 2, [], 0), (.invokevirtual 75, [43, 2, 8, 0], 0), (.iload_n 3, [], 0), (.ireturn, [], 0)
]
def bp_28 : List Nat := [0, 1, 4, 5, 8, 9, 10, 13, 14, 15, 16, 19, 22, 23, 24, 27, 28, 31, 32, 33, 36, 37, 38]
/-- RegionStack.fault(I)I -/
def cd_29 : List AI := [
  (.aload_n 0, [], 0), (.getfield 20, [8, 0, 2], 0), (.iload_n 1, [], 0), (.invokevirtual 32, [15, 2, 2, 2], 0), (.astore_n 2, [], 0), (.aload_n 2, [], 0),
  (.ifnonnull 7, [9], 0), (.iconst (-1), [], 0), (.goto 10, [12], 0), (.aload_n 2, [], 0), (.getfield 79, [1, 0, 2], 0), (.getfield 83, [6, 9, 0], 9),
  (.ireturn, [], 0)
]
def bp_29 : List Nat := [0, 1, 4, 5, 8, 9, 10, 13, 14, 17, 18, 21, 24, 25]
/-- RegionStack.parts(II)I -/
def cd_30 : List AI := [
  (.aload_n 0, [], 0), (.getfield 20, [8, 0, 2], 0), (.iload_n 1, [], 0), (.invokevirtual 32, [15, 2, 2, 2], 0), (.astore_n 3, [], 0), (.aload_n 3, [], 0),
  (.ifnonnull 5, [9], 0), (.iconst (-1), [], 0), (.ireturn, [], 0), (.iload_n 2, [], 0), (.iconst 0, [], 0), (.iconst 1, [], 0),
  (.invokestatic 38, [3, 3, 0, 1], 0), (.ifCond .ne 6, [16], 0), (.bipush (-2), [], 0), (.ireturn, [], 0), (.aload_n 3, [], 0), (.getfield 79, [1, 0, 2], 0),
  (.getfield 83, [6, 9, 0], 9), (.bipush (-6), [], 0), (.if_icmp .eq 6, [23], 0), (.bipush (-5), [], 0), (.ireturn, [], 0), (.iload_n 2, [], 0),
  (.ifCond .ne 13, [29], 0), (.aload_n 3, [], 0), (.getfield 79, [1, 0, 2], 0), (.getfield 88, [6, 10, 0], 10), (.goto 14, [34], 0), (.aload_n 0, [], 0),
  (.getfield 20, [8, 0, 2], 0), (.aload_n 3, [], 0), (.getfield 79, [1, 0, 2], 0), (.invokevirtual 91, [105, 2, 2, 1], 0), (.ireturn, [], 0)
]
def bp_30 : List Nat := [0, 1, 4, 5, 8, 9, 10, 13, 14, 15, 16, 17, 18, 21, 24, 26, 27, 28, 31, 34, 36, 39, 41, 42, 43, 46, 47, 50, 53, 56, 57, 60, 61, 64, 67, 68]
/-- RegionStack.kind(II)I -/
def cd_31 : List AI := [
  (.aload_n 0, [], 0), (.getfield 20, [8, 0, 2], 0), (.iload_n 1, [], 0), (.invokevirtual 32, [15, 2, 2, 2], 0), (.astore_n 3, [], 0), (.aload_n 3, [], 0),
  (.ifnonnull 5, [9], 0), (.iconst (-1), [], 0), (.ireturn, [], 0), (.aload_n 3, [], 0), (.getfield 42, [1, 1, 2], 1), (.iload_n 2, [], 0),
  (.invokevirtual 95, [16, 2, 7, 1], 0), (.ifCond .ne 6, [16], 0), (.bipush (-2), [], 0), (.ireturn, [], 0), (.aload_n 3, [], 0), (.getfield 79, [1, 0, 2], 0),
  (.getfield 83, [6, 9, 0], 9), (.bipush (-6), [], 0), (.if_icmp .eq 6, [23], 0), (.bipush (-5), [], 0), (.ireturn, [], 0), (.aload_n 3, [], 0),
  (.getfield 79, [1, 0, 2], 0), (.iload_n 2, [], 0), (.invokevirtual 99, [18, 2, 6, 1], 0), (.ifCond .eq 17, [34], 0), (.aload_n 3, [], 0), (.getfield 79, [1, 0, 2], 0),
  (.getfield 102, [6, 1, 2], 1), (.iload_n 2, [], 0), (.invokevirtual 105, [0, 2, 3, 1], 0), (.goto 5, [35], 0), (.bipush (-6), [], 0), (.ireturn, [], 0)
]
def bp_31 : List Nat := [0, 1, 4, 5, 8, 9, 10, 13, 14, 15, 16, 19, 20, 23, 26, 28, 29, 30, 33, 36, 38, 41, 43, 44, 45, 48, 49, 52, 55, 56, 59, 62, 63, 66, 69, 71, 72]
/-- RegionStack.well()I -/
def cd_32 : List AI := [
  (.aload_n 0, [], 0), (.getfield 20, [8, 0, 2], 0), (.invokevirtual 109, [107, 1, 2, 1], 0), (.ifCond .eq 7, [6], 0), (.iconst 1, [], 0), (.goto 4, [7], 0),
  (.iconst 0, [], 0), (.ireturn, [], 0)
]
def bp_32 : List Nat := [0, 1, 4, 7, 10, 11, 14, 15, 16]
/-- RegionStack.tells(II)I -/
def cd_33 : List AI := [
  (.aload_n 0, [], 0), (.getfield 20, [8, 0, 2], 0), (.iload_n 1, [], 0), (.invokevirtual 32, [15, 2, 2, 2], 0), (.astore_n 3, [], 0), (.aload_n 3, [], 0),
  (.ifnonnull 5, [9], 0), (.iconst (-1), [], 0), (.ireturn, [], 0), (.iload_n 2, [], 0), (.iconst 0, [], 0), (.iconst 2, [], 0),
  (.invokestatic 38, [3, 3, 0, 1], 0), (.ifCond .ne 6, [16], 0), (.bipush (-2), [], 0), (.ireturn, [], 0), (.aload_n 0, [], 0), (.getfield 20, [8, 0, 2], 0),
  (.invokevirtual 109, [107, 1, 2, 1], 0), (.ifCond .ne 6, [22], 0), (.bipush (-5), [], 0), (.ireturn, [], 0), (.iload_n 2, [], 0), (.ifCond .ne 16, [31], 0),
  (.aload_n 3, [], 0), (.getfield 113, [1, 6, 1], 6), (.ifCond .eq 7, [29], 0), (.iconst 1, [], 0), (.goto 4, [30], 0), (.iconst 0, [], 0),
  (.ireturn, [], 0), (.iload_n 2, [], 0), (.iconst 1, [], 0), (.if_icmp .ne 10, [37], 0), (.aload_n 3, [], 0), (.getfield 117, [1, 7, 0], 7),
  (.goto 7, [39], 0), (.aload_n 3, [], 0), (.getfield 120, [1, 8, 0], 8), (.ireturn, [], 0)
]
def bp_33 : List Nat := [0, 1, 4, 5, 8, 9, 10, 13, 14, 15, 16, 17, 18, 21, 24, 26, 27, 28, 31, 34, 37, 39, 40, 41, 44, 45, 48, 51, 52, 55, 56, 57, 58, 59, 62, 63, 66, 69, 70, 73, 74]
/-- RegionStack.region(II)I -/
def cd_34 : List AI := [
  (.aload_n 0, [], 0), (.getfield 20, [8, 0, 2], 0), (.iload_n 1, [], 0), (.invokevirtual 32, [15, 2, 2, 2], 0), (.astore_n 3, [], 0), (.aload_n 3, [], 0),
  (.ifnonnull 5, [9], 0), (.iconst (-1), [], 0), (.ireturn, [], 0), (.aload_n 3, [], 0), (.getfield 42, [1, 1, 2], 1), (.iload_n 2, [], 0),
  (.invokevirtual 95, [16, 2, 7, 1], 0), (.ifCond .ne 6, [16], 0), (.bipush (-2), [], 0), (.ireturn, [], 0), (.aload_n 0, [], 0), (.getfield 20, [8, 0, 2], 0),
  (.invokevirtual 109, [107, 1, 2, 1], 0), (.ifCond .ne 6, [22], 0), (.bipush (-5), [], 0), (.ireturn, [], 0), (.aload_n 3, [], 0), (.getfield 123, [1, 3, 2], 3),
  (.iload_n 2, [], 0), (.invokevirtual 105, [0, 2, 3, 1], 0), (.ireturn, [], 0)
]
def bp_34 : List Nat := [0, 1, 4, 5, 8, 9, 10, 13, 14, 15, 16, 19, 20, 23, 26, 28, 29, 30, 33, 36, 39, 41, 42, 43, 46, 47, 50, 51]
/-- RegionStack.home(II)I -/
def cd_35 : List AI := [
  (.aload_n 0, [], 0), (.getfield 20, [8, 0, 2], 0), (.iload_n 1, [], 0), (.invokevirtual 32, [15, 2, 2, 2], 0), (.astore_n 3, [], 0), (.aload_n 3, [], 0),
  (.ifnonnull 5, [9], 0), (.iconst (-1), [], 0), (.ireturn, [], 0), (.aload_n 0, [], 0), (.getfield 20, [8, 0, 2], 0), (.invokevirtual 109, [107, 1, 2, 1], 0),
  (.ifCond .ne 6, [15], 0), (.bipush (-5), [], 0), (.ireturn, [], 0), (.aload_n 3, [], 0), (.iload_n 2, [], 0), (.invokevirtual 126, [89, 2, 1, 1], 0),
  (.ifCond .eq 14, [24], 0), (.aload_n 3, [], 0), (.getfield 129, [1, 5, 2], 5), (.iload_n 2, [], 0), (.invokevirtual 105, [0, 2, 3, 1], 0), (.goto 5, [25], 0),
  (.bipush (-2), [], 0), (.ireturn, [], 0)
]
def bp_35 : List Nat := [0, 1, 4, 5, 8, 9, 10, 13, 14, 15, 16, 19, 22, 25, 27, 28, 29, 30, 33, 36, 37, 40, 41, 44, 47, 49, 50]
/-- RegionStack.touches(III)I -/
def cd_36 : List AI := [
  (.aload_n 0, [], 0), (.getfield 20, [8, 0, 2], 0), (.iload_n 1, [], 0), (.invokevirtual 32, [15, 2, 2, 2], 0), (.astore 4, [], 0), (.aload 4, [], 0),
  (.ifnonnull 5, [9], 0), (.iconst (-1), [], 0), (.ireturn, [], 0), (.iload_n 2, [], 0), (.iconst 0, [], 0), (.bipush 99, [], 0),
  (.invokestatic 38, [3, 3, 0, 1], 0), (.ifCond .eq 12, [19], 0), (.iload_n 3, [], 0), (.iconst 0, [], 0), (.iconst 2, [], 0), (.invokestatic 38, [3, 3, 0, 1], 0),
  (.ifCond .ne 6, [21], 0), (.bipush (-2), [], 0), (.ireturn, [], 0), (.aload_n 0, [], 0), (.getfield 20, [8, 0, 2], 0), (.invokevirtual 109, [107, 1, 2, 1], 0),
  (.ifCond .ne 6, [27], 0), (.bipush (-5), [], 0), (.ireturn, [], 0), (.aload 4, [], 0), (.aload_n 0, [], 0), (.getfield 20, [8, 0, 2], 0),
  (.iload_n 2, [], 0), (.iload_n 3, [], 0), (.invokevirtual 132, [97, 4, 1, 1], 0), (.ireturn, [], 0)
]
def bp_36 : List Nat := [0, 1, 4, 5, 8, 10, 12, 15, 16, 17, 18, 19, 21, 24, 27, 28, 29, 30, 33, 36, 38, 39, 40, 43, 46, 49, 51, 52, 54, 55, 58, 59, 60, 63, 64]
/-- RegionStack.run(III)I -/
def cd_37 : List AI := [
  (.aload_n 0, [], 0), (.iload_n 1, [], 0), (.iload_n 2, [], 0), (.iload_n 3, [], 0), (.iconst 0, [], 0), (.bipush 7, [], 0),
  (.invokestatic 38, [3, 3, 0, 1], 0), (.invokevirtual 136, [45, 4, 8, 1], 0), (.istore 4, [], 0), (.iload 4, [], 0), (.ifCond .ne 14, [16], 0), (.aload_n 0, [], 0),
  (.getfield 12, [8, 1, 2], 1), (.iload_n 3, [], 0), (.invokevirtual 140, [113, 2, 4, 1], 0), (.goto 5, [17], 0), (.iload 4, [], 0), (.ireturn, [], 0)
]
def bp_37 : List Nat := [0, 1, 2, 3, 4, 5, 7, 10, 13, 15, 17, 20, 21, 24, 25, 28, 31, 33, 34]
/-- RegionStack.words(III)I -/
def cd_38 : List AI := [
  (.aload_n 0, [], 0), (.iload_n 1, [], 0), (.iload_n 2, [], 0), (.iload_n 3, [], 0), (.iconst 0, [], 0), (.iconst 1, [], 0),
  (.invokestatic 38, [3, 3, 0, 1], 0), (.invokevirtual 136, [45, 4, 8, 1], 0), (.istore 4, [], 0), (.iload 4, [], 0), (.ifCond .eq 6, [13], 0), (.iload 4, [], 0),
  (.ireturn, [], 0), (.iload_n 3, [], 0), (.ifCond .ne 16, [20], 0), (.aload_n 0, [], 0), (.getfield 12, [8, 1, 2], 1), (.getfield 143, [4, 1, 2], 1),
  (.getfield 147, [5, 11, 0], 11), (.goto 13, [24], 0), (.aload_n 0, [], 0), (.getfield 12, [8, 1, 2], 1), (.getfield 143, [4, 1, 2], 1), (.getfield 152, [5, 12, 0], 12),
  (.ireturn, [], 0)
]
def bp_38 : List Nat := [0, 1, 2, 3, 4, 5, 6, 9, 12, 14, 16, 19, 21, 22, 23, 26, 27, 30, 33, 36, 39, 40, 43, 46, 49, 50]
/-- RegionStack.mixed(II)I -/
def cd_39 : List AI := [
  (.aload_n 0, [], 0), (.iload_n 1, [], 0), (.iload_n 2, [], 0), (.iconst 1, [], 0), (.invokevirtual 136, [45, 4, 8, 1], 0), (.istore_n 3, [], 0),
  (.iload_n 3, [], 0), (.ifCond .eq 5, [10], 0), (.iload_n 3, [], 0), (.ireturn, [], 0), (.aload_n 0, [], 0), (.getfield 12, [8, 1, 2], 1),
  (.getfield 143, [4, 1, 2], 1), (.getfield 147, [5, 11, 0], 11), (.aload_n 0, [], 0), (.getfield 12, [8, 1, 2], 1), (.getfield 143, [4, 1, 2], 1), (.getfield 152, [5, 12, 0], 12),
  (.invokestatic 155, [46, 2, 0, 1], 0), (.ireturn, [], 0)
]
def bp_39 : List Nat := [0, 1, 2, 3, 4, 7, 8, 9, 12, 13, 14, 15, 18, 21, 24, 25, 28, 31, 34, 37, 38]
/-- RegionStack.image(I)I -/
def cd_40 : List AI := [
  (.iload_n 1, [], 0), (.iconst 0, [], 0), (.iconst 1, [], 0), (.invokestatic 38, [3, 3, 0, 1], 0), (.ifCond .ne 6, [7], 0), (.bipush (-2), [], 0),
  (.ireturn, [], 0), (.iconst 0, [], 0), (.istore_n 2, [], 0), (.iload_n 2, [], 0), (.iconst 3, [], 0), (.if_icmp .ge 44, [32], 0),
  (.aload_n 0, [], 0), (.iload_n 1, [], 0), (.iload_n 2, [], 0), (.invokevirtual 159, [44, 3, 8, 2], 0), (.astore_n 3, [], 0), (.aload_n 0, [], 0),
  (.getfield 20, [8, 0, 2], 0), (.iload_n 2, [], 0), (.invokevirtual 32, [15, 2, 2, 2], 0), (.astore 4, [], 0), (.aload_n 3, [], 0), (.ifnull 17, [30], 0),
  (.aload 4, [], 0), (.ifnull 12, [30], 0), (.aload_n 3, [], 0), (.aload 4, [], 0), (.getfield 42, [1, 1, 2], 1), (.invokevirtual 163, [139, 2, 7, 0], 0),
  (.iinc 2 1, [], 0), (.goto (-43), [9], 0), (.aload_n 0, [], 0), (.getfield 28, [8, 3, 2], 3), (.iload_n 1, [], 0), (.iconst 1, [], 0),
  (.bastore, [], 0), (.iconst 1, [], 0), (.ireturn, [], 0)
]
def bp_40 : List Nat := [0, 1, 2, 3, 6, 9, 11, 12, 13, 14, 15, 16, 19, 20, 21, 22, 25, 26, 27, 30, 31, 34, 36, 37, 40, 42, 45, 46, 48, 51, 54, 57, 60, 61, 64, 65, 66, 67, 68, 69]
/-- RegionStack.restore(I)I -/
def cd_41 : List AI := [
  (.iload_n 1, [], 0), (.iconst 0, [], 0), (.iconst 1, [], 0), (.invokestatic 38, [3, 3, 0, 1], 0), (.ifCond .ne 6, [7], 0), (.bipush (-2), [], 0),
  (.ireturn, [], 0), (.aload_n 0, [], 0), (.getfield 28, [8, 3, 2], 3), (.iload_n 1, [], 0), (.baload, [], 0), (.ifCond .ne 6, [14], 0),
  (.bipush (-3), [], 0), (.ireturn, [], 0), (.iconst 0, [], 0), (.istore_n 2, [], 0), (.iload_n 2, [], 0), (.iconst 3, [], 0),
  (.if_icmp .ge 52, [42], 0), (.aload_n 0, [], 0), (.iload_n 1, [], 0), (.iload_n 2, [], 0), (.invokevirtual 159, [44, 3, 8, 2], 0), (.astore_n 3, [], 0),
  (.aload_n 0, [], 0), (.getfield 20, [8, 0, 2], 0), (.iload_n 2, [], 0), (.invokevirtual 32, [15, 2, 2, 2], 0), (.astore 4, [], 0), (.aload_n 3, [], 0),
  (.ifnull 25, [40], 0), (.aload 4, [], 0), (.ifnull 20, [40], 0), (.aload 4, [], 0), (.getfield 42, [1, 1, 2], 1), (.aload_n 3, [], 0),
  (.invokevirtual 163, [139, 2, 7, 0], 0), (.aload 4, [], 0), (.getfield 79, [1, 0, 2], 0), (.invokevirtual 167, [133, 1, 6, 0], 0), (.iinc 2 1, [], 0), (.goto (-51), [16], 0),
  (.aload_n 0, [], 0), (.getfield 20, [8, 0, 2], 0), (.invokevirtual 59, [103, 1, 2, 0], 0), (.iconst 1, [], 0), (.ireturn, [], 0)
]
def bp_41 : List Nat := [0, 1, 2, 3, 6, 9, 11, 12, 13, 16, 17, 18, 21, 23, 24, 25, 26, 27, 28, 31, 32, 33, 34, 37, 38, 39, 42, 43, 46, 48, 49, 52, 54, 57, 59, 62, 63, 66, 68, 71, 74, 77, 80, 81, 84, 87, 88, 89]
/-- RegionStack.told(I)I -/
def cd_42 : List AI := [
  (.aload_n 0, [], 0), (.getfield 20, [8, 0, 2], 0), (.iload_n 1, [], 0), (.invokevirtual 32, [15, 2, 2, 2], 0), (.astore_n 2, [], 0), (.aload_n 2, [], 0),
  (.ifnull 11, [11], 0), (.aload_n 2, [], 0), (.getfield 42, [1, 1, 2], 1), (.getfield 62, [7, 1, 0], 1), (.ireturn, [], 0), (.iload_n 1, [], 0),
  (.bipush 10, [], 0), (.bipush 12, [], 0), (.invokestatic 38, [3, 3, 0, 1], 0), (.ifCond .eq 32, [31], 0), (.aload_n 0, [], 0), (.getfield 20, [8, 0, 2], 0),
  (.iload_n 1, [], 0), (.bipush 10, [], 0), (.isub, [], 0), (.invokevirtual 32, [15, 2, 2, 2], 0), (.astore_n 3, [], 0), (.aload_n 3, [], 0),
  (.ifnonnull 8, [27], 0), (.bipush (-2), [], 0), (.goto 10, [30], 0), (.aload_n 3, [], 0), (.getfield 42, [1, 1, 2], 1), (.invokevirtual 48, [17, 1, 7, 1], 0),
  (.ireturn, [], 0), (.iload_n 1, [], 0), (.bipush 100, [], 0), (.if_icmp .ge 6, [36], 0), (.bipush (-2), [], 0), (.ireturn, [], 0),
  (.aload_n 0, [], 0), (.getfield 20, [8, 0, 2], 0), (.iload_n 1, [], 0), (.bipush 100, [], 0), (.idiv, [], 0), (.iconst 1, [], 0),
  (.isub, [], 0), (.invokevirtual 32, [15, 2, 2, 2], 0), (.astore_n 3, [], 0), (.aload_n 3, [], 0), (.ifnull 17, [54], 0), (.aload_n 3, [], 0),
  (.getfield 42, [1, 1, 2], 1), (.iload_n 1, [], 0), (.bipush 100, [], 0), (.irem, [], 0), (.invokevirtual 95, [16, 2, 7, 1], 0), (.ifCond .ne 6, [56], 0),
  (.bipush (-2), [], 0), (.ireturn, [], 0), (.aload_n 3, [], 0), (.getfield 42, [1, 1, 2], 1), (.getfield 65, [7, 0, 2], 0), (.iload_n 1, [], 0),
  (.bipush 100, [], 0), (.irem, [], 0), (.invokevirtual 105, [0, 2, 3, 1], 0), (.ireturn, [], 0)
]
def bp_42 : List Nat := [0, 1, 4, 5, 8, 9, 10, 13, 14, 17, 20, 21, 22, 24, 26, 29, 32, 33, 36, 37, 39, 40, 43, 44, 45, 48, 50, 53, 54, 57, 60, 61, 62, 64, 67, 69, 70, 71, 74, 75, 77, 78, 79, 80, 83, 84, 85, 88, 89, 92, 93, 95, 96, 99, 102, 104, 105, 106, 109, 112, 113, 115, 116, 119, 120]
/-- RegionStack.textChanged(LRegionStack$Body;)V -/
def cd_43 : List AI := [
  (.aload_n 1, [], 0), (.getfield 79, [1, 0, 2], 0), (.invokevirtual 167, [133, 1, 6, 0], 0), (.aload_n 0, [], 0), (.getfield 20, [8, 0, 2], 0), (.invokevirtual 59, [103, 1, 2, 0], 0),
  (.return_, [], 0)
]
def bp_43 : List Nat := [0, 1, 4, 7, 8, 11, 14, 15]
/-- RegionStack.keptText(II)LRegionStack$Text; -/
def cd_44 : List AI := [
  (.iload_n 1, [], 0), (.iconst 3, [], 0), (.imul, [], 0), (.iload_n 2, [], 0), (.iadd, [], 0), (.istore_n 3, [], 0),
  (.iload_n 3, [], 0), (.ifCond .lt 21, [18], 0), (.iload_n 3, [], 0), (.aload_n 0, [], 0), (.getfield 23, [8, 2, 2], 2), (.arraylength, [], 0),
  (.if_icmp .ge 12, [18], 0), (.aload_n 0, [], 0), (.getfield 23, [8, 2, 2], 2), (.iload_n 3, [], 0), (.aaload, [], 0), (.goto 4, [19], 0),
  (.aconst_null, [], 0), (.areturn, [], 0)
]
def bp_44 : List Nat := [0, 1, 2, 3, 4, 5, 6, 7, 10, 11, 12, 15, 16, 19, 20, 23, 24, 25, 28, 29, 30]
/-- RegionStack.refusalOfRun(IIZ)I -/
def cd_45 : List AI := [
  (.aload_n 0, [], 0), (.getfield 20, [8, 0, 2], 0), (.iload_n 1, [], 0), (.invokevirtual 32, [15, 2, 2, 2], 0), (.ifnonnull 5, [7], 0), (.iconst (-1), [], 0),
  (.ireturn, [], 0), (.iload_n 2, [], 0), (.iconst 0, [], 0), (.sipush 999, [], 0), (.invokestatic 38, [3, 3, 0, 1], 0), (.ifCond .eq 7, [14], 0),
  (.iload_n 3, [], 0), (.ifCond .ne 6, [16], 0), (.bipush (-2), [], 0), (.ireturn, [], 0), (.aload_n 0, [], 0), (.getfield 20, [8, 0, 2], 0),
  (.invokevirtual 109, [107, 1, 2, 1], 0), (.ifCond .ne 6, [22], 0), (.bipush (-5), [], 0), (.ireturn, [], 0), (.aload_n 0, [], 0), (.getfield 12, [8, 1, 2], 1),
  (.iload_n 1, [], 0), (.iload_n 2, [], 0), (.invokevirtual 170, [114, 3, 4, 1], 0), (.ifCond .eq 7, [30], 0), (.iconst 0, [], 0), (.goto 5, [31], 0),
  (.bipush (-3), [], 0), (.ireturn, [], 0)
]
def bp_45 : List Nat := [0, 1, 4, 5, 8, 11, 12, 13, 14, 15, 18, 21, 24, 25, 28, 30, 31, 32, 35, 38, 41, 43, 44, 45, 48, 49, 50, 53, 56, 57, 60, 62, 63]
/-- RegionStack.quotientBits(II)I -/
def cd_46 : List AI := [
  (.iload_n 0, [], 0), (.ifCond .le 7, [4], 0), (.iload_n 1, [], 0), (.ifCond .gt 5, [6], 0), (.iconst 0, [], 0), (.ireturn, [], 0),
  (.iload_n 0, [], 0), (.i2l, [], 0), (.lstore_n 2, [], 0), (.iload_n 1, [], 0), (.i2l, [], 0), (.lstore 4, [], 0),
  (.bipush 127, [], 0), (.istore 6, [], 0), (.iconst 0, [], 0), (.istore 7, [], 0), (.iload 7, [], 0), (.bipush 32, [], 0),
  (.if_icmp .ge 25, [30], 0), (.lload_n 2, [], 0), (.lload 4, [], 0), (.lcmp, [], 0), (.ifCond .ge 18, [30], 0), (.lload_n 2, [], 0),
  (.ldc2_w 180, [], 2), (.lmul, [], 0), (.lstore_n 2, [], 0), (.iinc 6 (-1), [], 0), (.iinc 7 1, [], 0), (.goto (-26), [16], 0),
  (.iconst 0, [], 0), (.istore 7, [], 0), (.iload 7, [], 0), (.bipush 32, [], 0), (.if_icmp .ge 31, [48], 0), (.lload_n 2, [], 0),
  (.ldc2_w 180, [], 2), (.lload 4, [], 0), (.lmul, [], 0), (.lcmp, [], 0), (.ifCond .lt 20, [48], 0), (.lload 4, [], 0),
  (.ldc2_w 180, [], 2), (.lmul, [], 0), (.lstore 4, [], 0), (.iinc 6 1, [], 0), (.iinc 7 1, [], 0), (.goto (-32), [32], 0),
  (.lload_n 2, [], 0), (.bipush 23, [], 0), (.lshl, [], 0), (.lstore 7, [], 0), (.lload 7, [], 0), (.lload 4, [], 0),
  (.ldiv, [], 0), (.lstore 9, [], 0), (.ldc2_w 180, [], 2), (.lload 7, [], 0), (.lload 4, [], 0), (.lrem, [], 0),
  (.lmul, [], 0), (.lstore 11, [], 0), (.lload 11, [], 0), (.lload 4, [], 0), (.lcmp, [], 0), (.ifCond .gt 20, [76], 0),
  (.lload 11, [], 0), (.lload 4, [], 0), (.lcmp, [], 0), (.ifCond .ne 18, [80], 0), (.lload 9, [], 0), (.lconst 1, [], 1),
  (.land, [], 0), (.lconst 1, [], 1), (.lcmp, [], 0), (.ifCond .ne 9, [80], 0), (.lload 9, [], 0), (.lconst 1, [], 1),
  (.ladd, [], 0), (.lstore 9, [], 0), (.iload 6, [], 0), (.i2l, [], 0), (.bipush 23, [], 0), (.lshl, [], 0),
  (.lload 9, [], 0), (.ldc2_w 182, [], 8388608), (.lsub, [], 0), (.ladd, [], 0), (.l2i, [], 0), (.ireturn, [], 0)
]
def bp_46 : List Nat := [0, 1, 4, 5, 8, 9, 10, 11, 12, 13, 14, 15, 17, 19, 21, 22, 24, 26, 28, 31, 32, 34, 35, 38, 39, 42, 43, 44, 47, 50, 53, 54, 56, 58, 60, 63, 64, 67, 69, 70, 71, 74, 76, 79, 80, 82, 85, 88, 91, 92, 94, 95, 97, 99, 101, 102, 104, 107, 109, 111, 112, 113, 115, 117, 119, 120, 123, 125, 127, 128, 131, 133, 134, 135, 136, 137, 140, 142, 143, 144, 146, 148, 149, 151, 152, 154, 157, 158, 159, 160, 161]
/-- RegionStackModel.<init>()V -/
def cd_47 : List AI := [
  (.aload_n 0, [], 0), (.invokespecial 1, [], 0), (.aload_n 0, [], 0), (.iconst 3, [], 0), (.newarray .int, [], 0), (.putfield 7, [9, 0, 2], 0),
  (.aload_n 0, [], 0), (.iconst 3, [], 0), (.newarray .int, [], 0), (.putfield 13, [9, 1, 2], 1), (.aload_n 0, [], 0), (.iconst 3, [], 0),
  (.newarray .int, [], 0), (.putfield 16, [9, 2, 2], 2), (.aload_n 0, [], 0), (.bipush 120, [], 0), (.newarray .int, [], 0), (.putfield 19, [9, 3, 2], 3),
  (.aload_n 0, [], 0), (.bipush 120, [], 0), (.newarray .int, [], 0), (.putfield 22, [9, 4, 2], 4), (.aload_n 0, [], 0), (.bipush 120, [], 0),
  (.newarray .int, [], 0), (.putfield 25, [9, 5, 2], 5), (.aload_n 0, [], 0), (.bipush 120, [], 0), (.newarray .int, [], 0), (.putfield 28, [9, 6, 2], 6),
  (.aload_n 0, [], 0), (.bipush 120, [], 0), (.newarray .int, [], 0), (.putfield 31, [9, 7, 2], 7), (.aload_n 0, [], 0), (.bipush 120, [], 0),
  (.newarray .int, [], 0), (.putfield 34, [9, 8, 2], 8), (.aload_n 0, [], 0), (.bipush 126, [], 0), (.newarray .int, [], 0), (.putfield 37, [9, 9, 2], 9),
  (.aload_n 0, [], 0), (.iconst 3, [], 0), (.newarray .boolean, [], 0), (.putfield 40, [9, 10, 2], 10), (.aload_n 0, [], 0), (.bipush 120, [], 0),
  (.newarray .int, [], 0), (.putfield 44, [9, 11, 2], 11), (.aload_n 0, [], 0), (.sipush 132, [], 0), (.newarray .int, [], 0), (.putfield 47, [9, 12, 2], 12),
  (.aload_n 0, [], 0), (.iconst 3, [], 0), (.newarray .int, [], 0), (.putfield 50, [9, 13, 2], 13), (.aload_n 0, [], 0), (.iconst 3, [], 0),
  (.newarray .int, [], 0), (.putfield 53, [9, 14, 2], 14), (.aload_n 0, [], 0), (.sipush 600, [], 0), (.newarray .int, [], 0), (.putfield 56, [9, 15, 2], 15),
  (.aload_n 0, [], 0), (.sipush 600, [], 0), (.newarray .int, [], 0), (.putfield 59, [9, 16, 2], 16), (.aload_n 0, [], 0), (.sipush 600, [], 0),
  (.newarray .int, [], 0), (.putfield 62, [9, 17, 2], 17), (.aload_n 0, [], 0), (.sipush 600, [], 0), (.newarray .int, [], 0), (.putfield 65, [9, 18, 2], 18),
  (.aload_n 0, [], 0), (.bipush 16, [], 0), (.newarray .int, [], 0), (.putfield 68, [9, 20, 2], 20), (.aload_n 0, [], 0), (.bipush 16, [], 0),
  (.newarray .int, [], 0), (.putfield 71, [9, 21, 2], 21), (.aload_n 0, [], 0), (.sipush 640, [], 0), (.newarray .int, [], 0), (.putfield 74, [9, 22, 2], 22),
  (.aload_n 0, [], 0), (.sipush 704, [], 0), (.newarray .int, [], 0), (.putfield 77, [9, 23, 2], 23), (.aload_n 0, [], 0), (.sipush 302, [], 0),
  (.newarray .int, [], 0), (.putfield 80, [9, 25, 2], 25), (.aload_n 0, [], 0), (.sipush 700, [], 0), (.newarray .int, [], 0), (.putfield 83, [9, 26, 2], 26),
  (.aload_n 0, [], 0), (.sipush 700, [], 0), (.newarray .boolean, [], 0), (.putfield 86, [9, 27, 2], 27), (.aload_n 0, [], 0), (.sipush 260, [], 0),
  (.newarray .int, [], 0), (.putfield 89, [9, 41, 2], 41), (.aload_n 0, [], 0), (.iconst 2, [], 0), (.newarray .boolean, [], 0), (.putfield 92, [9, 42, 2], 42),
  (.return_, [], 0)
]
def bp_47 : List Nat := [0, 1, 4, 5, 6, 8, 11, 12, 13, 15, 18, 19, 20, 22, 25, 26, 28, 30, 33, 34, 36, 38, 41, 42, 44, 46, 49, 50, 52, 54, 57, 58, 60, 62, 65, 66, 68, 70, 73, 74, 76, 78, 81, 82, 83, 85, 88, 89, 91, 93, 96, 97, 100, 102, 105, 106, 107, 109, 112, 113, 114, 116, 119, 120, 123, 125, 128, 129, 132, 134, 137, 138, 141, 143, 146, 147, 150, 152, 155, 156, 158, 160, 163, 164, 166, 168, 171, 172, 175, 177, 180, 181, 184, 186, 189, 190, 193, 195, 198, 199, 202, 204, 207, 208, 211, 213, 216, 217, 220, 222, 225, 226, 227, 229, 232, 233]
/-- RegionStackModel.body(III)I -/
def cd_48 : List AI := [
  (.iload_n 1, [], 0), (.invokestatic 99, [10, 1, 0, 1], 0), (.ifCond .ne 5, [5], 0), (.iconst (-1), [], 0), (.ireturn, [], 0), (.iload_n 2, [], 0),
  (.iconst 0, [], 0), (.iconst 1, [], 0), (.invokestatic 95, [9, 3, 0, 1], 0), (.ifCond .eq 12, [15], 0), (.iload_n 3, [], 0), (.iconst 0, [], 0),
  (.iconst 1, [], 0), (.invokestatic 95, [9, 3, 0, 1], 0), (.ifCond .ne 6, [17], 0), (.bipush (-2), [], 0), (.ireturn, [], 0), (.bipush 10, [], 0),
  (.aload_n 0, [], 0), (.getfield 7, [9, 0, 2], 0), (.iload_n 1, [], 0), (.iaload, [], 0), (.imul, [], 0), (.aload_n 0, [], 0),
  (.getfield 13, [9, 1, 2], 1), (.iload_n 1, [], 0), (.iaload, [], 0), (.iadd, [], 0), (.istore 4, [], 0), (.aload_n 0, [], 0),
  (.getfield 7, [9, 0, 2], 0), (.iload_n 1, [], 0), (.iload_n 2, [], 0), (.iastore, [], 0), (.aload_n 0, [], 0), (.getfield 13, [9, 1, 2], 1),
  (.iload_n 1, [], 0), (.iload_n 3, [], 0), (.iastore, [], 0), (.iload 4, [], 0), (.ireturn, [], 0)
]
def bp_48 : List Nat := [0, 1, 4, 7, 8, 9, 10, 11, 12, 15, 18, 19, 20, 21, 24, 27, 29, 30, 32, 33, 36, 37, 38, 39, 40, 43, 44, 45, 46, 48, 49, 52, 53, 54, 55, 56, 59, 60, 61, 62, 64, 65]
/-- RegionStackModel.say(II)I -/
def cd_49 : List AI := [
  (.iload_n 1, [], 0), (.invokestatic 99, [10, 1, 0, 1], 0), (.ifCond .ne 5, [5], 0), (.iconst (-1), [], 0), (.ireturn, [], 0), (.iload_n 2, [], 0),
  (.bipush 33, [], 0), (.bipush 126, [], 0), (.invokestatic 95, [9, 3, 0, 1], 0), (.ifCond .ne 6, [12], 0), (.bipush (-2), [], 0), (.ireturn, [], 0),
  (.aload_n 0, [], 0), (.getfield 16, [9, 2, 2], 2), (.iload_n 1, [], 0), (.iaload, [], 0), (.bipush 40, [], 0), (.if_icmp .ne 6, [20], 0),
  (.bipush (-4), [], 0), (.ireturn, [], 0), (.aload_n 0, [], 0), (.getfield 19, [9, 3, 2], 3), (.bipush 40, [], 0), (.iload_n 1, [], 0),
  (.imul, [], 0), (.aload_n 0, [], 0), (.getfield 16, [9, 2, 2], 2), (.iload_n 1, [], 0), (.iaload, [], 0), (.iadd, [], 0),
  (.iload_n 2, [], 0), (.iastore, [], 0), (.aload_n 0, [], 0), (.getfield 16, [9, 2, 2], 2), (.iload_n 1, [], 0), (.dup2, [], 0),
  (.iaload, [], 0), (.iconst 1, [], 0), (.iadd, [], 0), (.iastore, [], 0), (.aload_n 0, [], 0), (.getfield 16, [9, 2, 2], 2),
  (.iload_n 1, [], 0), (.iaload, [], 0), (.ireturn, [], 0)
]
def bp_49 : List Nat := [0, 1, 4, 7, 8, 9, 10, 12, 14, 17, 20, 22, 23, 24, 27, 28, 29, 31, 34, 36, 37, 38, 41, 43, 44, 45, 46, 49, 50, 51, 52, 53, 54, 55, 58, 59, 60, 61, 62, 63, 64, 65, 68, 69, 70, 71]
/-- RegionStackModel.wipe(I)I -/
def cd_50 : List AI := [
  (.iload_n 1, [], 0), (.invokestatic 99, [10, 1, 0, 1], 0), (.ifCond .ne 5, [5], 0), (.iconst (-1), [], 0), (.ireturn, [], 0), (.aload_n 0, [], 0),
  (.getfield 16, [9, 2, 2], 2), (.iload_n 1, [], 0), (.iaload, [], 0), (.istore_n 2, [], 0), (.aload_n 0, [], 0), (.getfield 16, [9, 2, 2], 2),
  (.iload_n 1, [], 0), (.iconst 0, [], 0), (.iastore, [], 0), (.iload_n 2, [], 0), (.ireturn, [], 0)
]
def bp_50 : List Nat := [0, 1, 4, 7, 8, 9, 10, 13, 14, 15, 16, 17, 20, 21, 22, 23, 24, 25]
/-- RegionStackModel.read(I)I -/
def cd_51 : List AI := [
  (.iconst 1, [], 0), (.istore_n 2, [], 0), (.iconst 0, [], 0), (.istore_n 3, [], 0), (.iconst 0, [], 0), (.istore 4, [], 0),
  (.iload 4, [], 0), (.aload_n 0, [], 0), (.getfield 16, [9, 2, 2], 2), (.iload_n 1, [], 0), (.iaload, [], 0), (.if_icmp .ge 146, [87], 0),
  (.bipush 40, [], 0), (.iload_n 1, [], 0), (.imul, [], 0), (.iload 4, [], 0), (.iadd, [], 0), (.istore 5, [], 0),
  (.aload_n 0, [], 0), (.getfield 19, [9, 3, 2], 3), (.iload 5, [], 0), (.iaload, [], 0), (.istore 6, [], 0), (.aload_n 0, [], 0),
  (.getfield 22, [9, 4, 2], 4), (.iload 5, [], 0), (.bipush (-6), [], 0), (.iastore, [], 0), (.iload_n 2, [], 0), (.ifCond .ne 6, [32], 0),
  (.iload 4, [], 0), (.ireturn, [], 0), (.iload_n 3, [], 0), (.ifCond .le 44, [54], 0), (.iload_n 3, [], 0), (.iconst 1, [], 0),
  (.if_icmp .ne 15, [42], 0), (.iload 6, [], 0), (.bipush 97, [], 0), (.bipush 100, [], 0), (.invokestatic 95, [9, 3, 0, 1], 0), (.goto 12, [46], 0),
  (.iload 6, [], 0), (.bipush 48, [], 0), (.bipush 50, [], 0), (.invokestatic 95, [9, 3, 0, 1], 0), (.istore 7, [], 0), (.iload 7, [], 0),
  (.ifCond .ne 6, [51], 0), (.iload 4, [], 0), (.ireturn, [], 0), (.iconst 0, [], 0), (.istore_n 3, [], 0), (.goto 61, [85], 0),
  (.iload 6, [], 0), (.invokestatic 103, [11, 1, 0, 1], 0), (.istore 7, [], 0), (.iload 7, [], 0), (.ifCond .ge 6, [61], 0), (.iload 4, [], 0),
  (.ireturn, [], 0), (.aload_n 0, [], 0), (.getfield 22, [9, 4, 2], 4), (.iload 5, [], 0), (.iload 7, [], 0), (.iastore, [], 0),
  (.iload 7, [], 0), (.bipush 8, [], 0), (.if_icmp .ne 7, [71], 0), (.iconst 1, [], 0), (.goto 15, [77], 0), (.iload 7, [], 0),
  (.bipush 9, [], 0), (.if_icmp .ne 7, [76], 0), (.iconst 2, [], 0), (.goto 4, [77], 0), (.iconst 0, [], 0), (.istore_n 3, [], 0),
  (.iload_n 2, [], 0), (.iload 7, [], 0), (.invokestatic 107, [12, 1, 0, 1], 0), (.iconst 1, [], 0), (.isub, [], 0), (.iadd, [], 0),
  (.istore_n 2, [], 0), (.iinc 4 1, [], 0), (.goto (-151), [6], 0), (.iload_n 2, [], 0), (.ifCond .gt 7, [91], 0), (.iload_n 3, [], 0),
  (.ifCond .le 10, [96], 0), (.aload_n 0, [], 0), (.getfield 16, [9, 2, 2], 2), (.iload_n 1, [], 0), (.iaload, [], 0), (.ireturn, [], 0),
  (.aload_n 0, [], 0), (.getfield 16, [9, 2, 2], 2), (.iload_n 1, [], 0), (.iaload, [], 0), (.iconst 1, [], 0), (.isub, [], 0),
  (.istore 4, [], 0), (.iload 4, [], 0), (.ifCond .lt 157, [184], 0), (.bipush 40, [], 0), (.iload_n 1, [], 0), (.imul, [], 0),
  (.iload 4, [], 0), (.iadd, [], 0), (.istore 5, [], 0), (.aload_n 0, [], 0), (.getfield 22, [9, 4, 2], 4), (.iload 5, [], 0),
  (.iaload, [], 0), (.istore 6, [], 0), (.iload 6, [], 0), (.ifCond .lt 128, [182], 0), (.iload 6, [], 0), (.invokestatic 107, [12, 1, 0, 1], 0),
  (.istore 7, [], 0), (.iload 6, [], 0), (.bipush 8, [], 0), (.if_icmp .eq 10, [127], 0), (.iload 6, [], 0), (.bipush 9, [], 0),
  (.if_icmp .ne 10, [131], 0), (.iload 5, [], 0), (.iconst 2, [], 0), (.iadd, [], 0), (.goto 7, [134], 0), (.iload 5, [], 0),
  (.iconst 1, [], 0), (.iadd, [], 0), (.istore 8, [], 0), (.aload_n 0, [], 0), (.getfield 25, [9, 5, 2], 5), (.iload 5, [], 0),
  (.iload 8, [], 0), (.iastore, [], 0), (.iload 7, [], 0), (.ifCond .le 13, [147], 0), (.aload_n 0, [], 0), (.getfield 34, [9, 8, 2], 8),
  (.iload 8, [], 0), (.iaload, [], 0), (.goto 5, [148], 0), (.iload 8, [], 0), (.istore 8, [], 0), (.aload_n 0, [], 0),
  (.getfield 28, [9, 6, 2], 6), (.iload 5, [], 0), (.iload 8, [], 0), (.iastore, [], 0), (.iload 7, [], 0), (.iconst 1, [], 0),
  (.if_icmp .le 13, [162], 0), (.aload_n 0, [], 0), (.getfield 34, [9, 8, 2], 8), (.iload 8, [], 0), (.iaload, [], 0), (.goto 5, [163], 0),
  (.iload 8, [], 0), (.istore 8, [], 0), (.aload_n 0, [], 0), (.getfield 31, [9, 7, 2], 7), (.iload 5, [], 0), (.iload 8, [], 0),
  (.iastore, [], 0), (.aload_n 0, [], 0), (.getfield 34, [9, 8, 2], 8), (.iload 5, [], 0), (.iload 7, [], 0), (.iconst 2, [], 0),
  (.if_icmp .le 13, [180], 0), (.aload_n 0, [], 0), (.getfield 34, [9, 8, 2], 8), (.iload 8, [], 0), (.iaload, [], 0), (.goto 5, [181], 0),
  (.iload 8, [], 0), (.iastore, [], 0), (.iinc 4 (-1), [], 0), (.goto (-156), [103], 0), (.bipush (-6), [], 0), (.ireturn, [], 0)
]
def bp_51 : List Nat := [0, 1, 2, 3, 4, 5, 7, 9, 10, 13, 14, 15, 18, 20, 21, 22, 24, 25, 27, 28, 31, 33, 34, 36, 37, 40, 42, 44, 45, 46, 49, 51, 52, 53, 56, 57, 58, 61, 63, 65, 67, 70, 73, 75, 77, 79, 82, 84, 86, 89, 91, 92, 93, 94, 97, 99, 102, 104, 106, 109, 111, 112, 113, 116, 118, 120, 121, 123, 125, 128, 129, 132, 134, 136, 139, 140, 143, 144, 145, 146, 148, 151, 152, 153, 154, 155, 158, 161, 162, 165, 166, 169, 170, 173, 174, 175, 176, 177, 180, 181, 182, 183, 184, 186, 188, 191, 193, 194, 195, 197, 198, 200, 201, 204, 206, 207, 209, 211, 214, 216, 219, 221, 223, 225, 228, 230, 232, 235, 237, 238, 239, 242, 244, 245, 246, 248, 249, 252, 254, 256, 257, 259, 262, 263, 266, 268, 269, 272, 274, 276, 277, 280, 282, 284, 285, 287, 288, 291, 292, 295, 297, 298, 301, 303, 305, 306, 309, 311, 313, 314, 315, 318, 320, 322, 323, 326, 327, 330, 332, 333, 336, 338, 339, 342, 345, 347, 348]
/-- RegionStackModel.fault(I)I -/
def cd_52 : List AI := [
  (.iload_n 1, [], 0), (.invokestatic 99, [10, 1, 0, 1], 0), (.ifCond .eq 11, [7], 0), (.aload_n 0, [], 0), (.iload_n 1, [], 0), (.invokevirtual 110, [51, 2, 9, 1], 0),
  (.goto 4, [8], 0), (.iconst (-1), [], 0), (.ireturn, [], 0)
]
def bp_52 : List Nat := [0, 1, 4, 7, 8, 9, 12, 15, 16, 17]
/-- RegionStackModel.binder(II)I -/
def cd_53 : List AI := [
  (.bipush (-6), [], 0), (.istore_n 3, [], 0), (.bipush 40, [], 0), (.iload_n 1, [], 0), (.imul, [], 0), (.istore 4, [], 0),
  (.iload 4, [], 0), (.iload_n 2, [], 0), (.if_icmp .ge 80, [50], 0), (.aload_n 0, [], 0), (.getfield 22, [9, 4, 2], 4), (.iload 4, [], 0),
  (.iaload, [], 0), (.bipush 8, [], 0), (.if_icmp .ne 47, [40], 0), (.aload_n 0, [], 0), (.getfield 19, [9, 3, 2], 3), (.iload 4, [], 0),
  (.iconst 1, [], 0), (.iadd, [], 0), (.iaload, [], 0), (.aload_n 0, [], 0), (.getfield 19, [9, 3, 2], 3), (.iload_n 2, [], 0),
  (.iaload, [], 0), (.if_icmp .ne 29, [40], 0), (.aload_n 0, [], 0), (.getfield 28, [9, 6, 2], 6), (.iload 4, [], 0), (.iaload, [], 0),
  (.iload_n 2, [], 0), (.if_icmp .gt 18, [40], 0), (.iload_n 2, [], 0), (.aload_n 0, [], 0), (.getfield 34, [9, 8, 2], 8), (.iload 4, [], 0),
  (.iaload, [], 0), (.if_icmp .ge 7, [40], 0), (.iconst 1, [], 0), (.goto 4, [41], 0), (.iconst 0, [], 0), (.istore 5, [], 0),
  (.iload 5, [], 0), (.ifCond .eq 8, [46], 0), (.iload 4, [], 0), (.goto 4, [47], 0), (.iload_n 3, [], 0), (.istore_n 3, [], 0),
  (.iinc 4 1, [], 0), (.goto (-80), [6], 0), (.iload_n 3, [], 0), (.ireturn, [], 0)
]
def bp_53 : List Nat := [0, 2, 3, 5, 6, 7, 9, 11, 12, 15, 16, 19, 21, 22, 24, 27, 28, 31, 33, 34, 35, 36, 37, 40, 41, 42, 45, 46, 49, 51, 52, 53, 56, 57, 58, 61, 63, 64, 67, 68, 71, 72, 74, 76, 79, 81, 84, 85, 86, 89, 92, 93, 94]
/-- RegionStackModel.kindAt(II)I -/
def cd_54 : List AI := [
  (.iload_n 2, [], 0), (.istore_n 3, [], 0), (.aload_n 0, [], 0), (.getfield 22, [9, 4, 2], 4), (.iload_n 3, [], 0), (.iaload, [], 0),
  (.tableswitch 108 1 9 #[54, 82, 52, 108, 108, 108, 72, 72, 61], [42, 9, 27, 7, 42, 42, 42, 21, 21, 14], 0), (.iconst 1, [], 0), (.ireturn, [], 0), (.aload_n 0, [], 0), (.getfield 7, [9, 0, 2], 0), (.iload_n 1, [], 0),
  (.iaload, [], 0), (.ireturn, [], 0), (.aload_n 0, [], 0), (.getfield 13, [9, 1, 2], 1), (.aload_n 0, [], 0), (.iload_n 3, [], 0),
  (.invokevirtual 113, [14, 2, 9, 1], 0), (.iaload, [], 0), (.ireturn, [], 0), (.aload_n 0, [], 0), (.getfield 28, [9, 6, 2], 6), (.iload_n 3, [], 0),
  (.iaload, [], 0), (.istore_n 3, [], 0), (.goto (-85), [2], 0), (.aload_n 0, [], 0), (.iload_n 1, [], 0), (.iload_n 3, [], 0),
  (.invokevirtual 116, [53, 3, 9, 1], 0), (.istore 4, [], 0), (.iload 4, [], 0), (.ifCond .ge 5, [36], 0), (.iconst 0, [], 0), (.ireturn, [], 0),
  (.aload_n 0, [], 0), (.getfield 25, [9, 5, 2], 5), (.iload 4, [], 0), (.iaload, [], 0), (.istore_n 3, [], 0), (.goto (-111), [2], 0),
  (.iconst 0, [], 0), (.ireturn, [], 0)
]
def bp_54 : List Nat := [0, 1, 2, 3, 6, 7, 8, 60, 61, 62, 63, 66, 67, 68, 69, 70, 73, 74, 75, 78, 79, 80, 81, 84, 85, 86, 87, 90, 91, 92, 93, 96, 98, 100, 103, 104, 105, 106, 109, 111, 112, 113, 116, 117, 118]
/-- RegionStackModel.isIll(II)Z -/
def cd_55 : List AI := [
  (.aload_n 0, [], 0), (.getfield 22, [9, 4, 2], 4), (.iload_n 2, [], 0), (.iaload, [], 0), (.invokestatic 107, [12, 1, 0, 1], 0), (.ifCond .le 17, [14], 0),
  (.aload_n 0, [], 0), (.iload_n 1, [], 0), (.aload_n 0, [], 0), (.getfield 25, [9, 5, 2], 5), (.iload_n 2, [], 0), (.iaload, [], 0),
  (.invokevirtual 120, [54, 3, 9, 1], 0), (.goto 4, [15], 0), (.iconst 0, [], 0), (.istore_n 3, [], 0), (.iload_n 2, [], 0), (.bipush 40, [], 0),
  (.iload_n 1, [], 0), (.imul, [], 0), (.if_icmp .ne 22, [32], 0), (.aload_n 0, [], 0), (.iload_n 1, [], 0), (.iload_n 2, [], 0),
  (.invokevirtual 120, [54, 3, 9, 1], 0), (.aload_n 0, [], 0), (.getfield 13, [9, 1, 2], 1), (.iload_n 1, [], 0), (.iaload, [], 0), (.if_icmp .eq 7, [32], 0),
  (.iconst 1, [], 0), (.goto 4, [33], 0), (.iconst 0, [], 0), (.istore 4, [], 0), (.aload_n 0, [], 0), (.getfield 22, [9, 4, 2], 4),
  (.iload_n 2, [], 0), (.iaload, [], 0), (.tableswitch 196 2 9 #[48, 68, 84, 68, 99, 130, 196, 171], [123, 39, 50, 59, 50, 67, 85, 123, 109], 0), (.iload 4, [], 0), (.ifCond .ne 12, [46], 0), (.aload_n 0, [], 0),
  (.iload_n 1, [], 0), (.iload_n 2, [], 0), (.invokevirtual 116, [53, 3, 9, 1], 0), (.ifCond .ge 7, [48], 0), (.iconst 1, [], 0), (.goto 4, [49], 0),
  (.iconst 0, [], 0), (.ireturn, [], 0), (.iload 4, [], 0), (.ifCond .ne 8, [55], 0), (.iload_n 3, [], 0), (.iconst 1, [], 0),
  (.if_icmp .ne 7, [57], 0), (.iconst 1, [], 0), (.goto 4, [58], 0), (.iconst 0, [], 0), (.ireturn, [], 0), (.iload 4, [], 0),
  (.ifCond .ne 7, [63], 0), (.iload_n 3, [], 0), (.ifCond .ne 7, [65], 0), (.iconst 1, [], 0), (.goto 4, [66], 0), (.iconst 0, [], 0),
  (.ireturn, [], 0), (.iload 4, [], 0), (.ifCond .ne 23, [81], 0), (.iload_n 3, [], 0), (.iconst 1, [], 0), (.if_icmp .eq 18, [81], 0),
  (.aload_n 0, [], 0), (.iload_n 1, [], 0), (.aload_n 0, [], 0), (.getfield 28, [9, 6, 2], 6), (.iload_n 2, [], 0), (.iaload, [], 0),
  (.invokevirtual 120, [54, 3, 9, 1], 0), (.iconst 1, [], 0), (.if_icmp .ne 7, [83], 0), (.iconst 1, [], 0), (.goto 4, [84], 0), (.iconst 0, [], 0),
  (.ireturn, [], 0), (.iload 4, [], 0), (.ifCond .ne 33, [105], 0), (.iload_n 3, [], 0), (.iconst 1, [], 0), (.if_icmp .eq 28, [105], 0),
  (.aload_n 0, [], 0), (.iload_n 1, [], 0), (.aload_n 0, [], 0), (.getfield 28, [9, 6, 2], 6), (.iload_n 2, [], 0), (.iaload, [], 0),
  (.invokevirtual 120, [54, 3, 9, 1], 0), (.aload_n 0, [], 0), (.iload_n 1, [], 0), (.aload_n 0, [], 0), (.getfield 31, [9, 7, 2], 7), (.iload_n 2, [], 0),
  (.iaload, [], 0), (.invokevirtual 120, [54, 3, 9, 1], 0), (.if_icmp .eq 7, [107], 0), (.iconst 1, [], 0), (.goto 4, [108], 0), (.iconst 0, [], 0),
  (.ireturn, [], 0), (.iload 4, [], 0), (.ifCond .ne 17, [119], 0), (.iload_n 3, [], 0), (.aload_n 0, [], 0), (.getfield 7, [9, 0, 2], 0),
  (.aload_n 0, [], 0), (.iload_n 2, [], 0), (.invokevirtual 113, [14, 2, 9, 1], 0), (.iaload, [], 0), (.if_icmp .eq 7, [121], 0), (.iconst 1, [], 0),
  (.goto 4, [122], 0), (.iconst 0, [], 0), (.ireturn, [], 0), (.iload 4, [], 0), (.ireturn, [], 0)
]
def bp_55 : List Nat := [0, 1, 4, 5, 6, 9, 12, 13, 14, 15, 18, 19, 20, 23, 26, 27, 28, 29, 31, 32, 33, 36, 37, 38, 39, 42, 43, 46, 47, 48, 51, 52, 55, 56, 58, 59, 62, 63, 64, 112, 114, 117, 118, 119, 120, 123, 126, 127, 130, 131, 132, 134, 137, 138, 139, 142, 143, 146, 147, 148, 150, 153, 154, 157, 158, 161, 162, 163, 165, 168, 169, 170, 173, 174, 175, 176, 179, 180, 181, 184, 185, 188, 189, 192, 193, 194, 196, 199, 200, 201, 204, 205, 206, 207, 210, 211, 212, 215, 216, 217, 218, 221, 222, 223, 226, 229, 230, 233, 234, 235, 237, 240, 241, 242, 245, 246, 247, 250, 251, 254, 255, 258, 259, 260, 262, 263]
/-- RegionStackModel.illOne(I)I -/
def cd_56 : List AI := [
  (.iconst 0, [], 0), (.istore_n 2, [], 0), (.iload_n 2, [], 0), (.aload_n 0, [], 0), (.getfield 16, [9, 2, 2], 2), (.iload_n 1, [], 0),
  (.iaload, [], 0), (.if_icmp .ge 39, [30], 0), (.aload_n 0, [], 0), (.getfield 22, [9, 4, 2], 4), (.bipush 40, [], 0), (.iload_n 1, [], 0),
  (.imul, [], 0), (.iload_n 2, [], 0), (.iadd, [], 0), (.iaload, [], 0), (.ifCond .lt 19, [28], 0), (.aload_n 0, [], 0),
  (.iload_n 1, [], 0), (.bipush 40, [], 0), (.iload_n 1, [], 0), (.imul, [], 0), (.iload_n 2, [], 0), (.iadd, [], 0),
  (.invokevirtual 123, [55, 3, 9, 1], 0), (.ifCond .eq 5, [28], 0), (.iload_n 2, [], 0), (.ireturn, [], 0), (.iinc 2 1, [], 0), (.goto (-43), [2], 0),
  (.bipush (-6), [], 0), (.ireturn, [], 0)
]
def bp_56 : List Nat := [0, 1, 2, 3, 4, 7, 8, 9, 12, 13, 16, 18, 19, 20, 21, 22, 23, 26, 27, 28, 30, 31, 32, 33, 34, 37, 40, 41, 42, 45, 48, 50, 51]
/-- RegionStackModel.parts(II)I -/
def cd_57 : List AI := [
  (.iload_n 1, [], 0), (.invokestatic 99, [10, 1, 0, 1], 0), (.ifCond .ne 5, [5], 0), (.iconst (-1), [], 0), (.ireturn, [], 0), (.iload_n 2, [], 0),
  (.iconst 0, [], 0), (.iconst 1, [], 0), (.invokestatic 95, [9, 3, 0, 1], 0), (.ifCond .ne 6, [12], 0), (.bipush (-2), [], 0), (.ireturn, [], 0),
  (.aload_n 0, [], 0), (.iload_n 1, [], 0), (.invokevirtual 110, [51, 2, 9, 1], 0), (.ifCond .lt 6, [18], 0), (.bipush (-5), [], 0), (.ireturn, [], 0),
  (.iconst 0, [], 0), (.istore_n 3, [], 0), (.iconst 0, [], 0), (.istore 4, [], 0), (.iload 4, [], 0), (.aload_n 0, [], 0),
  (.getfield 16, [9, 2, 2], 2), (.iload_n 1, [], 0), (.iaload, [], 0), (.if_icmp .ge 32, [45], 0), (.iload_n 3, [], 0), (.aload_n 0, [], 0),
  (.getfield 22, [9, 4, 2], 4), (.bipush 40, [], 0), (.iload_n 1, [], 0), (.imul, [], 0), (.iload 4, [], 0), (.iadd, [], 0),
  (.iaload, [], 0), (.ifCond .lt 7, [40], 0), (.iconst 1, [], 0), (.goto 4, [41], 0), (.iconst 0, [], 0), (.iadd, [], 0),
  (.istore_n 3, [], 0), (.iinc 4 1, [], 0), (.goto (-37), [22], 0), (.iload_n 2, [], 0), (.ifCond .ne 7, [49], 0), (.iload_n 3, [], 0),
  (.goto 8, [52], 0), (.aload_n 0, [], 0), (.iload_n 1, [], 0), (.invokevirtual 127, [56, 2, 9, 1], 0), (.ireturn, [], 0)
]
def bp_57 : List Nat := [0, 1, 4, 7, 8, 9, 10, 11, 12, 15, 18, 20, 21, 22, 23, 26, 29, 31, 32, 33, 34, 35, 37, 39, 40, 43, 44, 45, 48, 49, 50, 53, 55, 56, 57, 59, 60, 61, 64, 65, 68, 69, 70, 71, 74, 77, 78, 81, 82, 85, 86, 87, 90, 91]
/-- RegionStackModel.kind(II)I -/
def cd_58 : List AI := [
  (.iload_n 1, [], 0), (.invokestatic 99, [10, 1, 0, 1], 0), (.ifCond .ne 5, [5], 0), (.iconst (-1), [], 0), (.ireturn, [], 0), (.iload_n 2, [], 0),
  (.iconst 0, [], 0), (.aload_n 0, [], 0), (.getfield 16, [9, 2, 2], 2), (.iload_n 1, [], 0), (.iaload, [], 0), (.iconst 1, [], 0),
  (.isub, [], 0), (.invokestatic 95, [9, 3, 0, 1], 0), (.ifCond .ne 6, [17], 0), (.bipush (-2), [], 0), (.ireturn, [], 0), (.aload_n 0, [], 0),
  (.iload_n 1, [], 0), (.invokevirtual 110, [51, 2, 9, 1], 0), (.ifCond .lt 6, [23], 0), (.bipush (-5), [], 0), (.ireturn, [], 0), (.aload_n 0, [], 0),
  (.getfield 22, [9, 4, 2], 4), (.bipush 40, [], 0), (.iload_n 1, [], 0), (.imul, [], 0), (.iload_n 2, [], 0), (.iadd, [], 0),
  (.iaload, [], 0), (.ifCond .ge 8, [34], 0), (.bipush (-6), [], 0), (.goto 14, [42], 0), (.aload_n 0, [], 0), (.iload_n 1, [], 0),
  (.bipush 40, [], 0), (.iload_n 1, [], 0), (.imul, [], 0), (.iload_n 2, [], 0), (.iadd, [], 0), (.invokevirtual 120, [54, 3, 9, 1], 0),
  (.ireturn, [], 0)
]
def bp_58 : List Nat := [0, 1, 4, 7, 8, 9, 10, 11, 12, 15, 16, 17, 18, 19, 22, 25, 27, 28, 29, 30, 33, 36, 38, 39, 40, 43, 45, 46, 47, 48, 49, 50, 53, 55, 58, 59, 60, 62, 63, 64, 65, 66, 69, 70]
/-- RegionStackModel.isWell()Z -/
def cd_59 : List AI := [
  (.iconst 1, [], 0), (.istore_n 1, [], 0), (.iconst 0, [], 0), (.istore_n 2, [], 0), (.iload_n 2, [], 0), (.iconst 3, [], 0),
  (.if_icmp .ge 35, [23], 0), (.iload_n 1, [], 0), (.ifCond .eq 23, [19], 0), (.aload_n 0, [], 0), (.iload_n 2, [], 0), (.invokevirtual 110, [51, 2, 9, 1], 0),
  (.ifCond .ge 15, [19], 0), (.aload_n 0, [], 0), (.iload_n 2, [], 0), (.invokevirtual 127, [56, 2, 9, 1], 0), (.ifCond .ge 7, [19], 0), (.iconst 1, [], 0),
  (.goto 4, [20], 0), (.iconst 0, [], 0), (.istore_n 1, [], 0), (.iinc 2 1, [], 0), (.goto (-34), [4], 0), (.iload_n 1, [], 0),
  (.ireturn, [], 0)
]
def bp_59 : List Nat := [0, 1, 2, 3, 4, 5, 6, 9, 10, 13, 14, 15, 18, 21, 22, 23, 26, 29, 30, 33, 34, 35, 38, 41, 42, 43]
/-- RegionStackModel.well()I -/
def cd_60 : List AI := [
  (.aload_n 0, [], 0), (.invokevirtual 130, [59, 1, 9, 1], 0), (.ifCond .eq 7, [5], 0), (.iconst 1, [], 0), (.goto 4, [6], 0), (.iconst 0, [], 0),
  (.ireturn, [], 0)
]
def bp_60 : List Nat := [0, 1, 4, 7, 8, 11, 12, 13]
/-- RegionStackModel.uniteAll(I)V -/
def cd_61 : List AI := [
  (.iconst 0, [], 0), (.istore_n 2, [], 0), (.iload_n 2, [], 0), (.bipush 42, [], 0), (.if_icmp .ge 26, [20], 0), (.aload_n 0, [], 0),
  (.getfield 37, [9, 9, 2], 9), (.bipush 42, [], 0), (.iload_n 1, [], 0), (.imul, [], 0), (.iload_n 2, [], 0), (.iadd, [], 0),
  (.bipush 42, [], 0), (.iload_n 1, [], 0), (.imul, [], 0), (.iload_n 2, [], 0), (.iadd, [], 0), (.iastore, [], 0),
  (.iinc 2 1, [], 0), (.goto (-26), [2], 0), (.bipush 40, [], 0), (.iload_n 1, [], 0), (.imul, [], 0), (.istore_n 2, [], 0),
  (.iload_n 2, [], 0), (.bipush 40, [], 0), (.iload_n 1, [], 0), (.imul, [], 0), (.aload_n 0, [], 0), (.getfield 16, [9, 2, 2], 2),
  (.iload_n 1, [], 0), (.iaload, [], 0), (.iadd, [], 0), (.if_icmp .ge 235, [143], 0), (.aload_n 0, [], 0), (.getfield 22, [9, 4, 2], 4),
  (.iload_n 2, [], 0), (.iaload, [], 0), (.ifCond .lt 220, [141], 0), (.aload_n 0, [], 0), (.iload_n 1, [], 0), (.iload_n 2, [], 0),
  (.invokevirtual 120, [54, 3, 9, 1], 0), (.iconst 1, [], 0), (.if_icmp .ne 210, [141], 0), (.aload_n 0, [], 0), (.iload_n 1, [], 0), (.iload_n 2, [], 0),
  (.invokevirtual 137, [13, 3, 9, 1], 0), (.istore_n 3, [], 0), (.aload_n 0, [], 0), (.getfield 22, [9, 4, 2], 4), (.iload_n 2, [], 0), (.iaload, [], 0),
  (.tableswitch 174 1 9 #[49, 64, 174, 174, 174, 174, 88, 123, 142], [128, 55, 64, 128, 128, 128, 128, 78, 99, 110], 0), (.aload_n 0, [], 0), (.iload_n 3, [], 0), (.bipush 42, [], 0), (.iload_n 1, [], 0), (.imul, [], 0),
  (.bipush 40, [], 0), (.iadd, [], 0), (.invokevirtual 140, [24, 3, 9, 0], 0), (.goto 113, [128], 0), (.aload_n 0, [], 0), (.iload_n 3, [], 0),
  (.aload_n 0, [], 0), (.iload_n 1, [], 0), (.aload_n 0, [], 0), (.getfield 25, [9, 5, 2], 5), (.aload_n 0, [], 0), (.iload_n 1, [], 0),
  (.iload_n 2, [], 0), (.invokevirtual 116, [53, 3, 9, 1], 0), (.iaload, [], 0), (.invokevirtual 137, [13, 3, 9, 1], 0), (.invokevirtual 140, [24, 3, 9, 0], 0), (.goto 89, [128], 0),
  (.aload_n 0, [], 0), (.iload_n 3, [], 0), (.aload_n 0, [], 0), (.iload_n 1, [], 0), (.aload_n 0, [], 0), (.getfield 28, [9, 6, 2], 6),
  (.iload_n 2, [], 0), (.iaload, [], 0), (.invokevirtual 137, [13, 3, 9, 1], 0), (.invokevirtual 140, [24, 3, 9, 0], 0), (.aload_n 0, [], 0), (.iload_n 3, [], 0),
  (.aload_n 0, [], 0), (.iload_n 1, [], 0), (.aload_n 0, [], 0), (.getfield 31, [9, 7, 2], 7), (.iload_n 2, [], 0), (.iaload, [], 0),
  (.invokevirtual 137, [13, 3, 9, 1], 0), (.invokevirtual 140, [24, 3, 9, 0], 0), (.goto 54, [128], 0), (.aload_n 0, [], 0), (.iload_n 3, [], 0), (.aload_n 0, [], 0),
  (.iload_n 1, [], 0), (.aload_n 0, [], 0), (.getfield 28, [9, 6, 2], 6), (.iload_n 2, [], 0), (.iaload, [], 0), (.invokevirtual 137, [13, 3, 9, 1], 0),
  (.invokevirtual 140, [24, 3, 9, 0], 0), (.goto 35, [128], 0), (.aload_n 0, [], 0), (.getfield 40, [9, 10, 2], 10), (.aload_n 0, [], 0), (.iload_n 2, [], 0),
  (.invokevirtual 113, [14, 2, 9, 1], 0), (.baload, [], 0), (.ifCond .eq 22, [128], 0), (.aload_n 0, [], 0), (.iload_n 3, [], 0), (.aload_n 0, [], 0),
  (.iload_n 1, [], 0), (.aload_n 0, [], 0), (.getfield 25, [9, 5, 2], 5), (.iload_n 2, [], 0), (.iaload, [], 0), (.invokevirtual 137, [13, 3, 9, 1], 0),
  (.invokevirtual 140, [24, 3, 9, 0], 0), (.goto 3, [128], 0), (.iload_n 2, [], 0), (.bipush 40, [], 0), (.iload_n 1, [], 0), (.imul, [], 0),
  (.if_icmp .ne 15, [141], 0), (.aload_n 0, [], 0), (.iload_n 3, [], 0), (.bipush 42, [], 0), (.iload_n 1, [], 0), (.imul, [], 0),
  (.bipush 41, [], 0), (.iadd, [], 0), (.invokevirtual 140, [24, 3, 9, 0], 0), (.iinc 2 1, [], 0), (.goto (-244), [24], 0), (.return_, [], 0)
]
def bp_61 : List Nat := [0, 1, 2, 3, 5, 8, 9, 12, 14, 15, 16, 17, 18, 20, 21, 22, 23, 24, 25, 28, 31, 33, 34, 35, 36, 37, 39, 40, 41, 42, 45, 46, 47, 48, 51, 52, 55, 56, 57, 60, 61, 62, 63, 66, 67, 70, 71, 72, 73, 76, 77, 78, 81, 82, 83, 132, 133, 134, 136, 137, 138, 140, 141, 144, 147, 148, 149, 150, 151, 152, 155, 156, 157, 158, 161, 162, 165, 168, 171, 172, 173, 174, 175, 176, 179, 180, 181, 184, 187, 188, 189, 190, 191, 192, 195, 196, 197, 200, 203, 206, 207, 208, 209, 210, 211, 214, 215, 216, 219, 222, 225, 226, 229, 230, 231, 234, 235, 238, 239, 240, 241, 242, 243, 246, 247, 248, 251, 254, 257, 258, 260, 261, 262, 265, 266, 267, 269, 270, 271, 273, 274, 277, 280, 283, 284]
/-- RegionStackModel.layRegions()Z -/
def cd_62 : List AI := [
  (.aload_n 0, [], 0), (.invokevirtual 130, [59, 1, 9, 1], 0), (.ifCond .ne 5, [5], 0), (.iconst 0, [], 0), (.ireturn, [], 0), (.iconst 0, [], 0),
  (.istore_n 1, [], 0), (.iload_n 1, [], 0), (.iconst 3, [], 0), (.if_icmp .ge 16, [17], 0), (.aload_n 0, [], 0), (.getfield 40, [9, 10, 2], 10),
  (.iload_n 1, [], 0), (.iconst 0, [], 0), (.bastore, [], 0), (.iinc 1 1, [], 0), (.goto (-15), [7], 0), (.iconst 1, [], 0),
  (.istore_n 1, [], 0), (.iload_n 1, [], 0), (.ifCond .eq 117, [89], 0), (.iconst 0, [], 0), (.istore_n 1, [], 0), (.iconst 0, [], 0),
  (.istore_n 2, [], 0), (.iload_n 2, [], 0), (.iconst 3, [], 0), (.if_icmp .ge 14, [33], 0), (.aload_n 0, [], 0), (.iload_n 2, [], 0),
  (.invokevirtual 144, [61, 2, 9, 0], 0), (.iinc 2 1, [], 0), (.goto (-13), [25], 0), (.iconst 0, [], 0), (.istore_n 2, [], 0), (.iload_n 2, [], 0),
  (.iconst 3, [], 0), (.if_icmp .ge 87, [88], 0), (.aload_n 0, [], 0), (.getfield 7, [9, 0, 2], 0), (.iload_n 2, [], 0), (.iaload, [], 0),
  (.iconst 1, [], 0), (.if_icmp .ne 42, [67], 0), (.aload_n 0, [], 0), (.getfield 13, [9, 1, 2], 1), (.iload_n 2, [], 0), (.iaload, [], 0),
  (.iconst 1, [], 0), (.if_icmp .ne 32, [67], 0), (.aload_n 0, [], 0), (.bipush 42, [], 0), (.iload_n 2, [], 0), (.imul, [], 0),
  (.bipush 40, [], 0), (.iadd, [], 0), (.invokevirtual 134, [23, 2, 9, 1], 0), (.aload_n 0, [], 0), (.bipush 42, [], 0), (.iload_n 2, [], 0),
  (.imul, [], 0), (.bipush 41, [], 0), (.iadd, [], 0), (.invokevirtual 134, [23, 2, 9, 1], 0), (.if_icmp .ne 7, [67], 0), (.iconst 1, [], 0),
  (.goto 4, [68], 0), (.iconst 0, [], 0), (.istore_n 3, [], 0), (.iload_n 1, [], 0), (.ifCond .ne 13, [77], 0), (.iload_n 3, [], 0),
  (.aload_n 0, [], 0), (.getfield 40, [9, 10, 2], 10), (.iload_n 2, [], 0), (.baload, [], 0), (.if_icmp .eq 7, [79], 0), (.iconst 1, [], 0),
  (.goto 4, [80], 0), (.iconst 0, [], 0), (.istore_n 1, [], 0), (.aload_n 0, [], 0), (.getfield 40, [9, 10, 2], 10), (.iload_n 2, [], 0),
  (.iload_n 3, [], 0), (.bastore, [], 0), (.iinc 2 1, [], 0), (.goto (-86), [35], 0), (.goto (-115), [19], 0), (.iconst 0, [], 0),
  (.istore_n 2, [], 0), (.iload_n 2, [], 0), (.iconst 3, [], 0), (.if_icmp .ge 19, [102], 0), (.aload_n 0, [], 0), (.iload_n 2, [], 0),
  (.invokevirtual 148, [63, 2, 9, 0], 0), (.aload_n 0, [], 0), (.iload_n 2, [], 0), (.invokevirtual 151, [65, 2, 9, 0], 0), (.iinc 2 1, [], 0), (.goto (-18), [91], 0),
  (.aload_n 0, [], 0), (.invokevirtual 154, [67, 1, 9, 0], 0), (.iconst 1, [], 0), (.ireturn, [], 0)
]
def bp_62 : List Nat := [0, 1, 4, 7, 8, 9, 10, 11, 12, 13, 16, 17, 20, 21, 22, 23, 26, 29, 30, 31, 32, 35, 36, 37, 38, 39, 40, 41, 44, 45, 46, 49, 52, 55, 56, 57, 58, 59, 62, 63, 66, 67, 68, 69, 72, 73, 76, 77, 78, 79, 82, 83, 85, 86, 87, 89, 90, 93, 94, 96, 97, 98, 100, 101, 104, 107, 108, 111, 112, 113, 114, 117, 118, 119, 122, 123, 124, 127, 128, 131, 132, 133, 134, 137, 138, 139, 140, 143, 146, 149, 150, 151, 152, 153, 156, 157, 158, 161, 162, 163, 166, 169, 172, 173, 176, 177, 178]
/-- RegionStackModel.numberAll(I)V -/
def cd_63 : List AI := [
  (.iconst 2, [], 0), (.istore_n 2, [], 0), (.iconst 0, [], 0), (.istore_n 3, [], 0), (.iload_n 3, [], 0), (.bipush 40, [], 0),
  (.if_icmp .ge 257, [152], 0), (.bipush 40, [], 0), (.iload_n 1, [], 0), (.imul, [], 0), (.iload_n 3, [], 0), (.iadd, [], 0),
  (.istore 4, [], 0), (.aload_n 0, [], 0), (.getfield 44, [9, 11, 2], 11), (.iload 4, [], 0), (.bipush (-6), [], 0), (.iastore, [], 0),
  (.iload_n 3, [], 0), (.aload_n 0, [], 0), (.getfield 16, [9, 2, 2], 2), (.iload_n 1, [], 0), (.iaload, [], 0), (.if_icmp .ge 224, [150], 0),
  (.aload_n 0, [], 0), (.getfield 22, [9, 4, 2], 4), (.iload 4, [], 0), (.iaload, [], 0), (.ifCond .lt 214, [150], 0), (.aload_n 0, [], 0),
  (.iload_n 1, [], 0), (.iload 4, [], 0), (.invokevirtual 120, [54, 3, 9, 1], 0), (.iconst 1, [], 0), (.if_icmp .ne 203, [150], 0), (.aload_n 0, [], 0),
  (.bipush 42, [], 0), (.iload_n 1, [], 0), (.imul, [], 0), (.iload_n 3, [], 0), (.iadd, [], 0), (.invokevirtual 134, [23, 2, 9, 1], 0),
  (.istore 5, [], 0), (.aload_n 0, [], 0), (.getfield 7, [9, 0, 2], 0), (.iload_n 1, [], 0), (.iaload, [], 0), (.iconst 1, [], 0),
  (.if_icmp .ne 30, [64], 0), (.iload 5, [], 0), (.aload_n 0, [], 0), (.bipush 42, [], 0), (.iload_n 1, [], 0), (.imul, [], 0),
  (.bipush 40, [], 0), (.iadd, [], 0), (.invokevirtual 134, [23, 2, 9, 1], 0), (.if_icmp .ne 14, [64], 0), (.aload_n 0, [], 0), (.getfield 44, [9, 11, 2], 11),
  (.iload 4, [], 0), (.iconst 0, [], 0), (.iastore, [], 0), (.goto 154, [150], 0), (.iload 5, [], 0), (.aload_n 0, [], 0),
  (.bipush 42, [], 0), (.iload_n 1, [], 0), (.imul, [], 0), (.bipush 41, [], 0), (.iadd, [], 0), (.invokevirtual 134, [23, 2, 9, 1], 0),
  (.if_icmp .ne 14, [79], 0), (.aload_n 0, [], 0), (.getfield 44, [9, 11, 2], 11), (.iload 4, [], 0), (.iconst 1, [], 0), (.iastore, [], 0),
  (.goto 127, [150], 0), (.iconst 0, [], 0), (.istore 6, [], 0), (.iload 6, [], 0), (.iload_n 3, [], 0), (.if_icmp .ge 70, [122], 0),
  (.aload_n 0, [], 0), (.getfield 44, [9, 11, 2], 11), (.iload 4, [], 0), (.aload_n 0, [], 0), (.getfield 44, [9, 11, 2], 11), (.bipush 40, [], 0),
  (.iload_n 1, [], 0), (.imul, [], 0), (.iload 6, [], 0), (.iadd, [], 0), (.iaload, [], 0), (.iconst 1, [], 0),
  (.if_icmp .le 34, [115], 0), (.aload_n 0, [], 0), (.bipush 42, [], 0), (.iload_n 1, [], 0), (.imul, [], 0), (.iload 6, [], 0),
  (.iadd, [], 0), (.invokevirtual 134, [23, 2, 9, 1], 0), (.iload 5, [], 0), (.if_icmp .ne 18, [115], 0), (.aload_n 0, [], 0), (.getfield 44, [9, 11, 2], 11),
  (.bipush 40, [], 0), (.iload_n 1, [], 0), (.imul, [], 0), (.iload 6, [], 0), (.iadd, [], 0), (.iaload, [], 0),
  (.goto 10, [119], 0), (.aload_n 0, [], 0), (.getfield 44, [9, 11, 2], 11), (.iload 4, [], 0), (.iaload, [], 0), (.iastore, [], 0),
  (.iinc 6 1, [], 0), (.goto (-70), [81], 0), (.iload_n 2, [], 0), (.aload_n 0, [], 0), (.getfield 44, [9, 11, 2], 11), (.iload 4, [], 0),
  (.iaload, [], 0), (.ifCond .ge 7, [130], 0), (.iconst 1, [], 0), (.goto 4, [131], 0), (.iconst 0, [], 0), (.iadd, [], 0),
  (.istore_n 2, [], 0), (.aload_n 0, [], 0), (.getfield 44, [9, 11, 2], 11), (.iload 4, [], 0), (.aload_n 0, [], 0), (.getfield 44, [9, 11, 2], 11),
  (.iload 4, [], 0), (.iaload, [], 0), (.ifCond .ge 9, [145], 0), (.iload_n 2, [], 0), (.iconst 1, [], 0), (.isub, [], 0),
  (.goto 10, [149], 0), (.aload_n 0, [], 0), (.getfield 44, [9, 11, 2], 11), (.iload 4, [], 0), (.iaload, [], 0), (.iastore, [], 0),
  (.iinc 3 1, [], 0), (.goto (-257), [4], 0), (.aload_n 0, [], 0), (.getfield 50, [9, 13, 2], 13), (.iload_n 1, [], 0), (.iload_n 2, [], 0),
  (.iconst 2, [], 0), (.isub, [], 0), (.iastore, [], 0), (.return_, [], 0)
]
def bp_63 : List Nat := [0, 1, 2, 3, 4, 5, 7, 10, 12, 13, 14, 15, 16, 18, 19, 22, 24, 26, 27, 28, 29, 32, 33, 34, 37, 38, 41, 43, 44, 47, 48, 49, 51, 54, 55, 58, 59, 61, 62, 63, 64, 65, 68, 70, 71, 74, 75, 76, 77, 80, 82, 83, 85, 86, 87, 89, 90, 93, 96, 97, 100, 102, 103, 104, 107, 109, 110, 112, 113, 114, 116, 117, 120, 123, 124, 127, 129, 130, 131, 134, 135, 137, 139, 140, 143, 144, 147, 149, 150, 153, 155, 156, 157, 159, 160, 161, 162, 165, 166, 168, 169, 170, 172, 173, 176, 178, 181, 182, 185, 187, 188, 189, 191, 192, 193, 196, 197, 200, 202, 203, 204, 207, 210, 211, 212, 215, 217, 218, 221, 222, 225, 226, 227, 228, 229, 232, 234, 235, 238, 240, 241, 244, 245, 246, 247, 250, 251, 254, 256, 257, 258, 261, 264, 265, 268, 269, 270, 271, 272, 273, 274]
/-- RegionStackModel.touchesOne(II)Z -/
def cd_64 : List AI := [
  (.aload_n 0, [], 0), (.getfield 22, [9, 4, 2], 4), (.iload_n 1, [], 0), (.iaload, [], 0), (.iconst 4, [], 0), (.if_icmp .eq 14, [12], 0),
  (.aload_n 0, [], 0), (.getfield 22, [9, 4, 2], 4), (.iload_n 1, [], 0), (.iaload, [], 0), (.bipush 9, [], 0), (.if_icmp .ne 7, [14], 0),
  (.iconst 1, [], 0), (.goto 4, [15], 0), (.iconst 0, [], 0), (.istore_n 3, [], 0), (.aload_n 0, [], 0), (.getfield 22, [9, 4, 2], 4),
  (.iload_n 1, [], 0), (.iaload, [], 0), (.ifCond .lt 36, [40], 0), (.aload_n 0, [], 0), (.getfield 44, [9, 11, 2], 11), (.iload_n 1, [], 0),
  (.iaload, [], 0), (.iload_n 2, [], 0), (.if_icmp .eq 22, [38], 0), (.iload_n 3, [], 0), (.ifCond .eq 22, [40], 0), (.aload_n 0, [], 0),
  (.getfield 44, [9, 11, 2], 11), (.aload_n 0, [], 0), (.getfield 25, [9, 5, 2], 5), (.iload_n 1, [], 0), (.iaload, [], 0), (.iaload, [], 0),
  (.iload_n 2, [], 0), (.if_icmp .ne 7, [40], 0), (.iconst 1, [], 0), (.goto 4, [41], 0), (.iconst 0, [], 0), (.ireturn, [], 0)
]
def bp_64 : List Nat := [0, 1, 4, 5, 6, 7, 10, 11, 14, 15, 16, 18, 21, 22, 25, 26, 27, 28, 31, 32, 33, 36, 37, 40, 41, 42, 43, 46, 47, 50, 51, 54, 55, 58, 59, 60, 61, 62, 65, 66, 69, 70, 71]
/-- RegionStackModel.layHomes(I)V -/
def cd_65 : List AI := [
  (.iconst 2, [], 0), (.istore_n 2, [], 0), (.iload_n 2, [], 0), (.iconst 2, [], 0), (.aload_n 0, [], 0), (.getfield 50, [9, 13, 2], 13),
  (.iload_n 1, [], 0), (.iaload, [], 0), (.iadd, [], 0), (.if_icmp .ge 122, [74], 0), (.bipush (-6), [], 0), (.istore_n 3, [], 0),
  (.bipush (-6), [], 0), (.istore 4, [], 0), (.bipush 40, [], 0), (.iload_n 1, [], 0), (.imul, [], 0), (.istore 5, [], 0),
  (.iload 5, [], 0), (.bipush 40, [], 0), (.iload_n 1, [], 0), (.imul, [], 0), (.aload_n 0, [], 0), (.getfield 16, [9, 2, 2], 2),
  (.iload_n 1, [], 0), (.iaload, [], 0), (.iadd, [], 0), (.if_icmp .ge 34, [43], 0), (.aload_n 0, [], 0), (.iload 5, [], 0),
  (.iload_n 2, [], 0), (.invokevirtual 157, [64, 3, 9, 1], 0), (.ifCond .eq 18, [41], 0), (.iload_n 3, [], 0), (.ifCond .ge 8, [37], 0), (.iload 5, [], 0),
  (.goto 4, [38], 0), (.iload_n 3, [], 0), (.istore_n 3, [], 0), (.iload 5, [], 0), (.istore 4, [], 0), (.iinc 5 1, [], 0),
  (.goto (-44), [18], 0), (.bipush 40, [], 0), (.iload_n 1, [], 0), (.imul, [], 0), (.istore 5, [], 0), (.iload 5, [], 0),
  (.iload_n 3, [], 0), (.if_icmp .gt 44, [72], 0), (.aload_n 0, [], 0), (.getfield 22, [9, 4, 2], 4), (.iload 5, [], 0), (.iaload, [], 0),
  (.ifCond .lt 28, [70], 0), (.aload_n 0, [], 0), (.getfield 34, [9, 8, 2], 8), (.iload 5, [], 0), (.iaload, [], 0), (.iload 4, [], 0),
  (.if_icmp .le 16, [70], 0), (.aload_n 0, [], 0), (.getfield 47, [9, 12, 2], 12), (.bipush 44, [], 0), (.iload_n 1, [], 0), (.imul, [], 0),
  (.iload_n 2, [], 0), (.iadd, [], 0), (.iload 5, [], 0), (.iastore, [], 0), (.iinc 5 1, [], 0), (.goto (-44), [47], 0),
  (.iinc 2 1, [], 0), (.goto (-128), [2], 0), (.return_, [], 0)
]
def bp_65 : List Nat := [0, 1, 2, 3, 4, 5, 8, 9, 10, 11, 14, 16, 17, 19, 21, 23, 24, 25, 27, 29, 31, 32, 33, 34, 37, 38, 39, 40, 43, 44, 46, 47, 50, 53, 54, 57, 59, 62, 63, 64, 66, 68, 71, 74, 76, 77, 78, 80, 82, 83, 86, 87, 90, 92, 93, 96, 97, 100, 102, 103, 105, 108, 109, 112, 114, 115, 116, 117, 118, 120, 121, 124, 127, 130, 133, 134]
/-- RegionStackModel.does(IIZ)Z -/
def cd_66 : List AI := [
  (.aload_n 0, [], 0), (.getfield 22, [9, 4, 2], 4), (.iload_n 1, [], 0), (.iaload, [], 0), (.iload_n 3, [], 0), (.ifCond .eq 7, [8], 0),
  (.iconst 4, [], 0), (.goto 4, [9], 0), (.iconst 3, [], 0), (.if_icmp .ne 32, [27], 0), (.aload_n 0, [], 0), (.getfield 44, [9, 11, 2], 11),
  (.iload_n 3, [], 0), (.ifCond .eq 12, [19], 0), (.aload_n 0, [], 0), (.getfield 25, [9, 5, 2], 5), (.iload_n 1, [], 0), (.iaload, [], 0),
  (.goto 4, [20], 0), (.iload_n 1, [], 0), (.iaload, [], 0), (.iload_n 2, [], 0), (.if_icmp .ne 7, [25], 0), (.iconst 1, [], 0),
  (.goto 4, [26], 0), (.iconst 0, [], 0), (.ireturn, [], 0), (.aload_n 0, [], 0), (.getfield 22, [9, 4, 2], 4), (.iload_n 1, [], 0),
  (.iaload, [], 0), (.bipush 9, [], 0), (.if_icmp .eq 5, [35], 0), (.iconst 0, [], 0), (.ireturn, [], 0), (.aload_n 0, [], 0),
  (.getfield 53, [9, 14, 2], 14), (.aload_n 0, [], 0), (.iload_n 1, [], 0), (.invokevirtual 113, [14, 2, 9, 1], 0), (.iaload, [], 0), (.istore 4, [], 0),
  (.iload 4, [], 0), (.iload_n 3, [], 0), (.ifCond .eq 7, [47], 0), (.iconst 2, [], 0), (.goto 4, [48], 0), (.iconst 1, [], 0),
  (.iand, [], 0), (.ifCond .eq 22, [61], 0), (.aload_n 0, [], 0), (.getfield 44, [9, 11, 2], 11), (.aload_n 0, [], 0), (.getfield 25, [9, 5, 2], 5),
  (.iload_n 1, [], 0), (.iaload, [], 0), (.iaload, [], 0), (.iload_n 2, [], 0), (.if_icmp .ne 7, [61], 0), (.iconst 1, [], 0),
  (.goto 4, [62], 0), (.iconst 0, [], 0), (.istore 5, [], 0), (.iload 5, [], 0), (.ifCond .ne 29, [79], 0), (.iload 4, [], 0),
  (.iload_n 3, [], 0), (.ifCond .eq 8, [70], 0), (.bipush 8, [], 0), (.goto 4, [71], 0), (.iconst 4, [], 0), (.iand, [], 0),
  (.ifCond .eq 17, [81], 0), (.aload_n 0, [], 0), (.getfield 44, [9, 11, 2], 11), (.iload_n 1, [], 0), (.iaload, [], 0), (.iload_n 2, [], 0),
  (.if_icmp .ne 7, [81], 0), (.iconst 1, [], 0), (.goto 4, [82], 0), (.iconst 0, [], 0), (.ireturn, [], 0)
]
def bp_66 : List Nat := [0, 1, 4, 5, 6, 7, 10, 11, 14, 15, 18, 19, 22, 23, 26, 27, 30, 31, 32, 35, 36, 37, 38, 41, 42, 45, 46, 47, 48, 51, 52, 53, 55, 58, 59, 60, 61, 64, 65, 66, 69, 70, 72, 74, 75, 78, 79, 82, 83, 84, 87, 88, 91, 92, 95, 96, 97, 98, 99, 102, 103, 106, 107, 109, 111, 114, 116, 117, 120, 122, 125, 126, 127, 130, 131, 134, 135, 136, 137, 140, 141, 144, 145, 146]
/-- RegionStackModel.layEffects()V -/
def cd_67 : List AI := [
  (.iconst 0, [], 0), (.istore_n 1, [], 0), (.iload_n 1, [], 0), (.iconst 3, [], 0), (.if_icmp .ge 16, [12], 0), (.aload_n 0, [], 0),
  (.getfield 53, [9, 14, 2], 14), (.iload_n 1, [], 0), (.iconst 0, [], 0), (.iastore, [], 0), (.iinc 1 1, [], 0), (.goto (-15), [2], 0),
  (.iconst 1, [], 0), (.istore_n 1, [], 0), (.iload_n 1, [], 0), (.ifCond .eq 227, [146], 0), (.iconst 0, [], 0), (.istore_n 1, [], 0),
  (.iconst 0, [], 0), (.istore_n 2, [], 0), (.iload_n 2, [], 0), (.iconst 3, [], 0), (.if_icmp .ge 215, [145], 0), (.iconst 0, [], 0),
  (.istore_n 3, [], 0), (.bipush 40, [], 0), (.iload_n 2, [], 0), (.imul, [], 0), (.istore 4, [], 0), (.iload 4, [], 0),
  (.bipush 40, [], 0), (.iload_n 2, [], 0), (.imul, [], 0), (.aload_n 0, [], 0), (.getfield 16, [9, 2, 2], 2), (.iload_n 2, [], 0),
  (.iaload, [], 0), (.iadd, [], 0), (.if_icmp .ge 158, [126], 0), (.aload_n 0, [], 0), (.getfield 40, [9, 10, 2], 10), (.iload_n 2, [], 0),
  (.baload, [], 0), (.ifCond .eq 7, [46], 0), (.iconst 0, [], 0), (.goto 4, [47], 0), (.iconst 1, [], 0), (.istore 5, [], 0),
  (.aload_n 0, [], 0), (.getfield 7, [9, 0, 2], 0), (.iload_n 2, [], 0), (.iaload, [], 0), (.iconst 1, [], 0), (.if_icmp .ne 7, [56], 0),
  (.iconst 1, [], 0), (.goto 4, [57], 0), (.iconst 0, [], 0), (.istore 6, [], 0), (.aload_n 0, [], 0), (.getfield 13, [9, 1, 2], 1),
  (.iload_n 2, [], 0), (.iaload, [], 0), (.iconst 1, [], 0), (.if_icmp .ne 7, [66], 0), (.iconst 1, [], 0), (.goto 4, [67], 0),
  (.iconst 0, [], 0), (.istore 7, [], 0), (.iload_n 3, [], 0), (.iload 6, [], 0), (.ifCond .eq 18, [79], 0), (.aload_n 0, [], 0),
  (.iload 4, [], 0), (.iconst 0, [], 0), (.iconst 0, [], 0), (.invokevirtual 160, [66, 4, 9, 1], 0), (.ifCond .eq 7, [79], 0), (.iconst 1, [], 0),
  (.goto 4, [80], 0), (.iconst 0, [], 0), (.ior, [], 0), (.istore_n 3, [], 0), (.iload_n 3, [], 0), (.iload 6, [], 0),
  (.ifCond .eq 18, [93], 0), (.aload_n 0, [], 0), (.iload 4, [], 0), (.iconst 0, [], 0), (.iconst 1, [], 0), (.invokevirtual 160, [66, 4, 9, 1], 0),
  (.ifCond .eq 7, [93], 0), (.iconst 2, [], 0), (.goto 4, [94], 0), (.iconst 0, [], 0), (.ior, [], 0), (.istore_n 3, [], 0),
  (.iload_n 3, [], 0), (.iload 7, [], 0), (.ifCond .eq 19, [107], 0), (.aload_n 0, [], 0), (.iload 4, [], 0), (.iload 5, [], 0),
  (.iconst 0, [], 0), (.invokevirtual 160, [66, 4, 9, 1], 0), (.ifCond .eq 7, [107], 0), (.iconst 4, [], 0), (.goto 4, [108], 0), (.iconst 0, [], 0),
  (.ior, [], 0), (.istore_n 3, [], 0), (.iload_n 3, [], 0), (.iload 7, [], 0), (.ifCond .eq 20, [121], 0), (.aload_n 0, [], 0),
  (.iload 4, [], 0), (.iload 5, [], 0), (.iconst 1, [], 0), (.invokevirtual 160, [66, 4, 9, 1], 0), (.ifCond .eq 8, [121], 0), (.bipush 8, [], 0),
  (.goto 4, [122], 0), (.iconst 0, [], 0), (.ior, [], 0), (.istore_n 3, [], 0), (.iinc 4 1, [], 0), (.goto (-168), [29], 0),
  (.iload_n 1, [], 0), (.ifCond .ne 13, [134], 0), (.iload_n 3, [], 0), (.aload_n 0, [], 0), (.getfield 53, [9, 14, 2], 14), (.iload_n 2, [], 0),
  (.iaload, [], 0), (.if_icmp .eq 7, [136], 0), (.iconst 1, [], 0), (.goto 4, [137], 0), (.iconst 0, [], 0), (.istore_n 1, [], 0),
  (.aload_n 0, [], 0), (.getfield 53, [9, 14, 2], 14), (.iload_n 2, [], 0), (.iload_n 3, [], 0), (.iastore, [], 0), (.iinc 2 1, [], 0),
  (.goto (-214), [20], 0), (.goto (-225), [14], 0), (.return_, [], 0)
]
def bp_67 : List Nat := [0, 1, 2, 3, 4, 7, 8, 11, 12, 13, 14, 17, 20, 21, 22, 23, 26, 27, 28, 29, 30, 31, 32, 35, 36, 37, 39, 40, 41, 43, 45, 47, 48, 49, 50, 53, 54, 55, 56, 59, 60, 63, 64, 65, 68, 69, 72, 73, 75, 76, 79, 80, 81, 82, 85, 86, 89, 90, 92, 93, 96, 97, 98, 99, 102, 103, 106, 107, 109, 110, 112, 115, 116, 118, 119, 120, 123, 126, 127, 130, 131, 132, 133, 134, 136, 139, 140, 142, 143, 144, 147, 150, 151, 154, 155, 156, 157, 158, 160, 163, 164, 166, 168, 169, 172, 175, 176, 179, 180, 181, 182, 183, 185, 188, 189, 191, 193, 194, 197, 200, 202, 205, 206, 207, 208, 211, 214, 215, 218, 219, 220, 223, 224, 225, 228, 229, 232, 233, 234, 235, 238, 239, 240, 241, 244, 247, 250, 251]
/-- RegionStackModel.tells(II)I -/
def cd_68 : List AI := [
  (.iload_n 1, [], 0), (.invokestatic 99, [10, 1, 0, 1], 0), (.ifCond .ne 5, [5], 0), (.iconst (-1), [], 0), (.ireturn, [], 0), (.iload_n 2, [], 0),
  (.iconst 0, [], 0), (.iconst 2, [], 0), (.invokestatic 95, [9, 3, 0, 1], 0), (.ifCond .ne 6, [12], 0), (.bipush (-2), [], 0), (.ireturn, [], 0),
  (.aload_n 0, [], 0), (.invokevirtual 164, [62, 1, 9, 1], 0), (.ifCond .ne 6, [17], 0), (.bipush (-5), [], 0), (.ireturn, [], 0), (.iload_n 2, [], 0),
  (.ifCond .ne 20, [28], 0), (.aload_n 0, [], 0), (.getfield 40, [9, 10, 2], 10), (.iload_n 1, [], 0), (.baload, [], 0), (.ifCond .eq 7, [26], 0),
  (.iconst 1, [], 0), (.goto 27, [40], 0), (.iconst 0, [], 0), (.goto 23, [40], 0), (.iload_n 2, [], 0), (.iconst 1, [], 0),
  (.if_icmp .ne 12, [36], 0), (.aload_n 0, [], 0), (.getfield 53, [9, 14, 2], 14), (.iload_n 1, [], 0), (.iaload, [], 0), (.goto 9, [40], 0),
  (.aload_n 0, [], 0), (.getfield 50, [9, 13, 2], 13), (.iload_n 1, [], 0), (.iaload, [], 0), (.ireturn, [], 0)
]
def bp_68 : List Nat := [0, 1, 4, 7, 8, 9, 10, 11, 12, 15, 18, 20, 21, 22, 25, 28, 30, 31, 32, 35, 36, 39, 40, 41, 44, 45, 48, 49, 52, 53, 54, 57, 58, 61, 62, 63, 66, 67, 70, 71, 72, 73]
/-- RegionStackModel.region(II)I -/
def cd_69 : List AI := [
  (.iload_n 1, [], 0), (.invokestatic 99, [10, 1, 0, 1], 0), (.ifCond .ne 5, [5], 0), (.iconst (-1), [], 0), (.ireturn, [], 0), (.iload_n 2, [], 0),
  (.iconst 0, [], 0), (.aload_n 0, [], 0), (.getfield 16, [9, 2, 2], 2), (.iload_n 1, [], 0), (.iaload, [], 0), (.iconst 1, [], 0),
  (.isub, [], 0), (.invokestatic 95, [9, 3, 0, 1], 0), (.ifCond .ne 6, [17], 0), (.bipush (-2), [], 0), (.ireturn, [], 0), (.aload_n 0, [], 0),
  (.invokevirtual 164, [62, 1, 9, 1], 0), (.ifCond .eq 17, [29], 0), (.aload_n 0, [], 0), (.getfield 44, [9, 11, 2], 11), (.bipush 40, [], 0), (.iload_n 1, [], 0),
  (.imul, [], 0), (.iload_n 2, [], 0), (.iadd, [], 0), (.iaload, [], 0), (.goto 5, [30], 0), (.bipush (-5), [], 0),
  (.ireturn, [], 0)
]
def bp_69 : List Nat := [0, 1, 4, 7, 8, 9, 10, 11, 12, 15, 16, 17, 18, 19, 22, 25, 27, 28, 29, 32, 35, 36, 39, 41, 42, 43, 44, 45, 46, 49, 51, 52]
/-- RegionStackModel.home(II)I -/
def cd_70 : List AI := [
  (.iload_n 1, [], 0), (.invokestatic 99, [10, 1, 0, 1], 0), (.ifCond .ne 5, [5], 0), (.iconst (-1), [], 0), (.ireturn, [], 0), (.aload_n 0, [], 0),
  (.invokevirtual 164, [62, 1, 9, 1], 0), (.ifCond .ne 6, [10], 0), (.bipush (-5), [], 0), (.ireturn, [], 0), (.iload_n 2, [], 0), (.iconst 2, [], 0),
  (.iconst 1, [], 0), (.aload_n 0, [], 0), (.getfield 50, [9, 13, 2], 13), (.iload_n 1, [], 0), (.iaload, [], 0), (.iadd, [], 0),
  (.invokestatic 95, [9, 3, 0, 1], 0), (.ifCond .eq 22, [33], 0), (.aload_n 0, [], 0), (.getfield 47, [9, 12, 2], 12), (.bipush 44, [], 0), (.iload_n 1, [], 0),
  (.imul, [], 0), (.iload_n 2, [], 0), (.iadd, [], 0), (.iaload, [], 0), (.bipush 40, [], 0), (.iload_n 1, [], 0),
  (.imul, [], 0), (.isub, [], 0), (.goto 5, [34], 0), (.bipush (-2), [], 0), (.ireturn, [], 0)
]
def bp_70 : List Nat := [0, 1, 4, 7, 8, 9, 10, 13, 16, 18, 19, 20, 21, 22, 23, 26, 27, 28, 29, 32, 35, 36, 39, 41, 42, 43, 44, 45, 46, 48, 49, 50, 51, 54, 56, 57]
/-- RegionStackModel.touches(III)I -/
def cd_71 : List AI := [
  (.iload_n 1, [], 0), (.invokestatic 99, [10, 1, 0, 1], 0), (.ifCond .ne 5, [5], 0), (.iconst (-1), [], 0), (.ireturn, [], 0), (.iload_n 2, [], 0),
  (.iconst 0, [], 0), (.bipush 99, [], 0), (.invokestatic 95, [9, 3, 0, 1], 0), (.ifCond .eq 12, [15], 0), (.iload_n 3, [], 0), (.iconst 0, [], 0),
  (.iconst 2, [], 0), (.invokestatic 95, [9, 3, 0, 1], 0), (.ifCond .ne 6, [17], 0), (.bipush (-2), [], 0), (.ireturn, [], 0), (.aload_n 0, [], 0),
  (.invokevirtual 164, [62, 1, 9, 1], 0), (.ifCond .ne 6, [22], 0), (.bipush (-5), [], 0), (.ireturn, [], 0), (.iconst 0, [], 0), (.istore 4, [], 0),
  (.bipush 40, [], 0), (.iload_n 1, [], 0), (.imul, [], 0), (.istore 5, [], 0), (.iload 5, [], 0), (.bipush 40, [], 0),
  (.iload_n 1, [], 0), (.imul, [], 0), (.aload_n 0, [], 0), (.getfield 16, [9, 2, 2], 2), (.iload_n 1, [], 0), (.iaload, [], 0),
  (.iadd, [], 0), (.if_icmp .ge 56, [65], 0), (.iload 4, [], 0), (.iload_n 3, [], 0), (.ifCond .ne 16, [47], 0), (.aload_n 0, [], 0),
  (.iload 5, [], 0), (.iload_n 2, [], 0), (.invokevirtual 157, [64, 3, 9, 1], 0), (.ifCond .eq 30, [60], 0), (.goto 23, [58], 0), (.aload_n 0, [], 0),
  (.iload 5, [], 0), (.iload_n 2, [], 0), (.iload_n 3, [], 0), (.iconst 2, [], 0), (.if_icmp .ne 7, [55], 0), (.iconst 1, [], 0),
  (.goto 4, [56], 0), (.iconst 0, [], 0), (.invokevirtual 160, [66, 4, 9, 1], 0), (.ifCond .eq 7, [60], 0), (.iconst 1, [], 0), (.goto 4, [61], 0),
  (.iconst 0, [], 0), (.iadd, [], 0), (.istore 4, [], 0), (.iinc 5 1, [], 0), (.goto (-66), [28], 0), (.iload 4, [], 0),
  (.ireturn, [], 0)
]
def bp_71 : List Nat := [0, 1, 4, 7, 8, 9, 10, 11, 13, 16, 19, 20, 21, 22, 25, 28, 30, 31, 32, 35, 38, 40, 41, 42, 44, 46, 47, 48, 50, 52, 54, 55, 56, 57, 60, 61, 62, 63, 66, 68, 69, 72, 73, 75, 76, 79, 82, 85, 86, 88, 89, 90, 91, 94, 95, 98, 99, 102, 105, 106, 109, 110, 111, 113, 116, 119, 121, 122]
/-- RegionStackModel.openOne()I -/
def cd_72 : List AI := [
  (.aload_n 0, [], 0), (.getfield 83, [9, 26, 2], 26), (.aload_n 0, [], 0), (.getfield 167, [9, 28, 0], 28), (.iconst 0, [], 0), (.iastore, [], 0),
  (.aload_n 0, [], 0), (.getfield 86, [9, 27, 2], 27), (.aload_n 0, [], 0), (.getfield 167, [9, 28, 0], 28), (.iconst 0, [], 0), (.bastore, [], 0),
  (.aload_n 0, [], 0), (.dup, [], 0), (.getfield 167, [9, 28, 0], 28), (.iconst 1, [], 0), (.iadd, [], 0), (.putfield 167, [9, 28, 0], 28),
  (.aload_n 0, [], 0), (.dup, [], 0), (.getfield 171, [9, 35, 0], 35), (.iconst 1, [], 0), (.iadd, [], 0), (.putfield 171, [9, 35, 0], 35),
  (.aload_n 0, [], 0), (.aload_n 0, [], 0), (.getfield 167, [9, 28, 0], 28), (.aload_n 0, [], 0), (.getfield 174, [9, 34, 0], 34), (.if_icmp .le 10, [33], 0),
  (.aload_n 0, [], 0), (.getfield 167, [9, 28, 0], 28), (.goto 7, [35], 0), (.aload_n 0, [], 0), (.getfield 174, [9, 34, 0], 34), (.putfield 174, [9, 34, 0], 34),
  (.aload_n 0, [], 0), (.getfield 167, [9, 28, 0], 28), (.iconst 1, [], 0), (.isub, [], 0), (.ireturn, [], 0)
]
def bp_72 : List Nat := [0, 1, 4, 5, 8, 9, 10, 11, 14, 15, 18, 19, 20, 21, 22, 25, 26, 27, 30, 31, 32, 35, 36, 37, 40, 41, 42, 45, 46, 49, 52, 53, 56, 59, 60, 63, 66, 67, 70, 71, 72, 73]
/-- RegionStackModel.closeOne()V -/
def cd_73 : List AI := [
  (.aload_n 0, [], 0), (.dup, [], 0), (.getfield 167, [9, 28, 0], 28), (.iconst 1, [], 0), (.isub, [], 0), (.putfield 167, [9, 28, 0], 28),
  (.aload_n 0, [], 0), (.dup, [], 0), (.getfield 177, [9, 32, 0], 32), (.aload_n 0, [], 0), (.getfield 83, [9, 26, 2], 26), (.aload_n 0, [], 0),
  (.getfield 167, [9, 28, 0], 28), (.iaload, [], 0), (.isub, [], 0), (.putfield 177, [9, 32, 0], 32), (.aload_n 0, [], 0), (.dup, [], 0),
  (.getfield 180, [9, 38, 0], 38), (.aload_n 0, [], 0), (.getfield 86, [9, 27, 2], 27), (.aload_n 0, [], 0), (.getfield 167, [9, 28, 0], 28), (.baload, [], 0),
  (.ifCond .eq 17, [33], 0), (.iconst 2, [], 0), (.aload_n 0, [], 0), (.getfield 83, [9, 26, 2], 26), (.aload_n 0, [], 0), (.getfield 167, [9, 28, 0], 28),
  (.iaload, [], 0), (.imul, [], 0), (.goto 12, [38], 0), (.aload_n 0, [], 0), (.getfield 83, [9, 26, 2], 26), (.aload_n 0, [], 0),
  (.getfield 167, [9, 28, 0], 28), (.iaload, [], 0), (.isub, [], 0), (.putfield 180, [9, 38, 0], 38), (.return_, [], 0)
]
def bp_73 : List Nat := [0, 1, 2, 5, 6, 7, 10, 11, 12, 15, 16, 19, 20, 23, 24, 25, 28, 29, 30, 33, 34, 37, 38, 41, 42, 45, 46, 47, 50, 51, 54, 55, 56, 59, 60, 63, 64, 67, 68, 69, 72, 73]
/-- RegionStackModel.put(II)I -/
def cd_74 : List AI := [
  (.aload_n 0, [], 0), (.dup, [], 0), (.getfield 183, [9, 31, 0], 31), (.iconst 1, [], 0), (.iadd, [], 0), (.putfield 183, [9, 31, 0], 31),
  (.aload_n 0, [], 0), (.getfield 183, [9, 31, 0], 31), (.sipush 300, [], 0), (.if_icmp .le 5, [12], 0), (.iconst 0, [], 0), (.ireturn, [], 0),
  (.aload_n 0, [], 0), (.getfield 80, [9, 25, 2], 25), (.aload_n 0, [], 0), (.getfield 183, [9, 31, 0], 31), (.iload_n 2, [], 0), (.iastore, [], 0),
  (.iload_n 2, [], 0), (.bipush 9, [], 0), (.if_icmp .le 44, [46], 0), (.aload_n 0, [], 0), (.getfield 86, [9, 27, 2], 27), (.iload_n 1, [], 0),
  (.baload, [], 0), (.ifCond .ne 35, [46], 0), (.aload_n 0, [], 0), (.getfield 86, [9, 27, 2], 27), (.iload_n 1, [], 0), (.iconst 1, [], 0),
  (.bastore, [], 0), (.aload_n 0, [], 0), (.dup, [], 0), (.getfield 186, [9, 36, 0], 36), (.iconst 1, [], 0), (.iadd, [], 0),
  (.putfield 186, [9, 36, 0], 36), (.aload_n 0, [], 0), (.dup, [], 0), (.getfield 180, [9, 38, 0], 38), (.aload_n 0, [], 0), (.getfield 83, [9, 26, 2], 26),
  (.iload_n 1, [], 0), (.iaload, [], 0), (.iadd, [], 0), (.putfield 180, [9, 38, 0], 38), (.aload_n 0, [], 0), (.getfield 83, [9, 26, 2], 26),
  (.iload_n 1, [], 0), (.dup2, [], 0), (.iaload, [], 0), (.iconst 1, [], 0), (.iadd, [], 0), (.iastore, [], 0),
  (.aload_n 0, [], 0), (.dup, [], 0), (.getfield 180, [9, 38, 0], 38), (.aload_n 0, [], 0), (.getfield 86, [9, 27, 2], 27), (.iload_n 1, [], 0),
  (.baload, [], 0), (.ifCond .eq 7, [64], 0), (.iconst 2, [], 0), (.goto 4, [65], 0), (.iconst 1, [], 0), (.iadd, [], 0),
  (.putfield 180, [9, 38, 0], 38), (.aload_n 0, [], 0), (.dup, [], 0), (.getfield 189, [9, 40, 0], 40), (.iload_n 2, [], 0), (.bipush 9, [], 0),
  (.if_icmp .le 7, [75], 0), (.iconst 2, [], 0), (.goto 4, [76], 0), (.iconst 1, [], 0), (.iadd, [], 0), (.putfield 189, [9, 40, 0], 40),
  (.aload_n 0, [], 0), (.dup, [], 0), (.getfield 177, [9, 32, 0], 32), (.iconst 1, [], 0), (.iadd, [], 0), (.putfield 177, [9, 32, 0], 32),
  (.aload_n 0, [], 0), (.aload_n 0, [], 0), (.getfield 177, [9, 32, 0], 32), (.aload_n 0, [], 0), (.getfield 192, [9, 33, 0], 33), (.if_icmp .le 10, [93], 0),
  (.aload_n 0, [], 0), (.getfield 177, [9, 32, 0], 32), (.goto 7, [95], 0), (.aload_n 0, [], 0), (.getfield 192, [9, 33, 0], 33), (.putfield 192, [9, 33, 0], 33),
  (.aload_n 0, [], 0), (.aload_n 0, [], 0), (.getfield 180, [9, 38, 0], 38), (.aload_n 0, [], 0), (.getfield 195, [9, 39, 0], 39), (.if_icmp .le 10, [105], 0),
  (.aload_n 0, [], 0), (.getfield 180, [9, 38, 0], 38), (.goto 7, [107], 0), (.aload_n 0, [], 0), (.getfield 195, [9, 39, 0], 39), (.putfield 195, [9, 39, 0], 39),
  (.aload_n 0, [], 0), (.getfield 183, [9, 31, 0], 31), (.ireturn, [], 0)
]
def bp_74 : List Nat := [0, 1, 2, 5, 6, 7, 10, 11, 14, 17, 20, 21, 22, 23, 26, 27, 30, 31, 32, 33, 35, 38, 39, 42, 43, 44, 47, 48, 51, 52, 53, 54, 55, 56, 59, 60, 61, 64, 65, 66, 69, 70, 73, 74, 75, 76, 79, 80, 83, 84, 85, 86, 87, 88, 89, 90, 91, 94, 95, 98, 99, 100, 103, 104, 107, 108, 109, 112, 113, 114, 117, 118, 120, 123, 124, 127, 128, 129, 132, 133, 134, 137, 138, 139, 142, 143, 144, 147, 148, 151, 154, 155, 158, 161, 162, 165, 168, 169, 170, 173, 174, 177, 180, 181, 184, 187, 188, 191, 194, 195, 198, 199]
/-- RegionStackModel.begin(IIII)I -/
def cd_75 : List AI := [
  (.aload_n 0, [], 0), (.getfield 68, [9, 20, 2], 20), (.aload_n 0, [], 0), (.getfield 198, [9, 24, 0], 24), (.iload_n 1, [], 0), (.iastore, [], 0),
  (.aload_n 0, [], 0), (.getfield 71, [9, 21, 2], 21), (.aload_n 0, [], 0), (.getfield 198, [9, 24, 0], 24), (.iload_n 2, [], 0), (.iastore, [], 0),
  (.aload_n 0, [], 0), (.getfield 77, [9, 23, 2], 23), (.bipush 44, [], 0), (.aload_n 0, [], 0), (.getfield 198, [9, 24, 0], 24), (.imul, [], 0),
  (.iload_n 3, [], 0), (.iastore, [], 0), (.aload_n 0, [], 0), (.getfield 77, [9, 23, 2], 23), (.bipush 44, [], 0), (.aload_n 0, [], 0),
  (.getfield 198, [9, 24, 0], 24), (.imul, [], 0), (.iconst 1, [], 0), (.iadd, [], 0), (.iload 4, [], 0), (.iastore, [], 0),
  (.aload_n 0, [], 0), (.dup, [], 0), (.getfield 198, [9, 24, 0], 24), (.iconst 1, [], 0), (.iadd, [], 0), (.putfield 198, [9, 24, 0], 24),
  (.aload_n 0, [], 0), (.getfield 198, [9, 24, 0], 24), (.iconst 1, [], 0), (.isub, [], 0), (.ireturn, [], 0)
]
def bp_75 : List Nat := [0, 1, 4, 5, 8, 9, 10, 11, 14, 15, 18, 19, 20, 21, 24, 26, 27, 30, 31, 32, 33, 34, 37, 39, 40, 43, 44, 45, 46, 48, 49, 50, 51, 54, 55, 56, 59, 60, 63, 64, 65, 66]
/-- RegionStackModel.start(II)V -/
def cd_76 : List AI := [
  (.aload_n 0, [], 0), (.getfield 56, [9, 15, 2], 15), (.aload_n 0, [], 0), (.getfield 201, [9, 19, 0], 19), (.iload_n 1, [], 0), (.iastore, [], 0),
  (.aload_n 0, [], 0), (.getfield 59, [9, 16, 2], 16), (.aload_n 0, [], 0), (.getfield 201, [9, 19, 0], 19), (.iload_n 2, [], 0), (.iastore, [], 0),
  (.aload_n 0, [], 0), (.getfield 62, [9, 17, 2], 17), (.aload_n 0, [], 0), (.getfield 201, [9, 19, 0], 19), (.iconst 0, [], 0), (.iastore, [], 0),
  (.aload_n 0, [], 0), (.dup, [], 0), (.getfield 201, [9, 19, 0], 19), (.iconst 1, [], 0), (.iadd, [], 0), (.putfield 201, [9, 19, 0], 19),
  (.return_, [], 0)
]
def bp_76 : List Nat := [0, 1, 4, 5, 8, 9, 10, 11, 14, 15, 18, 19, 20, 21, 24, 25, 28, 29, 30, 31, 32, 35, 36, 37, 40, 41]
/-- RegionStackModel.turnHomes(IIZ)V -/
def cd_77 : List AI := [
  (.aload_n 0, [], 0), (.getfield 68, [9, 20, 2], 20), (.iload_n 1, [], 0), (.iaload, [], 0), (.istore 4, [], 0), (.iconst 2, [], 0),
  (.istore 5, [], 0), (.iload 5, [], 0), (.iconst 2, [], 0), (.aload_n 0, [], 0), (.getfield 50, [9, 13, 2], 13), (.iload 4, [], 0),
  (.iaload, [], 0), (.iadd, [], 0), (.if_icmp .ge 70, [52], 0), (.aload_n 0, [], 0), (.getfield 47, [9, 12, 2], 12), (.bipush 44, [], 0),
  (.iload 4, [], 0), (.imul, [], 0), (.iload 5, [], 0), (.iadd, [], 0), (.iaload, [], 0), (.iload_n 2, [], 0),
  (.if_icmp .ne 26, [38], 0), (.iload_n 3, [], 0), (.ifCond .eq 22, [38], 0), (.aload_n 0, [], 0), (.getfield 77, [9, 23, 2], 23), (.bipush 44, [], 0),
  (.iload_n 1, [], 0), (.imul, [], 0), (.iload 5, [], 0), (.iadd, [], 0), (.aload_n 0, [], 0), (.invokevirtual 204, [72, 1, 9, 1], 0),
  (.iastore, [], 0), (.goto 24, [50], 0), (.aload_n 0, [], 0), (.getfield 47, [9, 12, 2], 12), (.bipush 44, [], 0), (.iload 4, [], 0),
  (.imul, [], 0), (.iload 5, [], 0), (.iadd, [], 0), (.iaload, [], 0), (.iload_n 2, [], 0), (.if_icmp .ne 7, [50], 0),
  (.aload_n 0, [], 0), (.invokevirtual 208, [73, 1, 9, 0], 0), (.iinc 5 1, [], 0), (.goto (-78), [7], 0), (.return_, [], 0)
]
def bp_77 : List Nat := [0, 1, 4, 5, 6, 8, 9, 11, 13, 14, 15, 18, 20, 21, 22, 25, 26, 29, 31, 33, 34, 36, 37, 38, 39, 42, 43, 46, 47, 50, 52, 53, 54, 56, 57, 58, 61, 62, 65, 66, 69, 71, 73, 74, 76, 77, 78, 79, 82, 83, 86, 89, 92, 93]
/-- RegionStackModel.finish(II)V -/
def cd_78 : List AI := [
  (.aload_n 0, [], 0), (.iload_n 1, [], 0), (.iload_n 2, [], 0), (.iconst 0, [], 0), (.invokevirtual 211, [77, 4, 9, 0], 0), (.aload_n 0, [], 0),
  (.dup, [], 0), (.getfield 201, [9, 19, 0], 19), (.iconst 1, [], 0), (.isub, [], 0), (.putfield 201, [9, 19, 0], 19), (.return_, [], 0)
]
def bp_78 : List Nat := [0, 1, 2, 3, 4, 7, 8, 9, 12, 13, 14, 17, 18]
/-- RegionStackModel.goOn(III)V -/
def cd_79 : List AI := [
  (.aload_n 0, [], 0), (.getfield 68, [9, 20, 2], 20), (.iload_n 1, [], 0), (.iaload, [], 0), (.istore 4, [], 0), (.aload_n 0, [], 0),
  (.getfield 62, [9, 17, 2], 17), (.iload_n 3, [], 0), (.iconst 3, [], 0), (.iastore, [], 0), (.aload_n 0, [], 0), (.getfield 22, [9, 4, 2], 4),
  (.iload_n 2, [], 0), (.iaload, [], 0), (.tableswitch 224 3 8 #[39, 76, 98, 128, 159, 189], [122, 15, 37, 49, 65, 84, 100], 0), (.aload_n 0, [], 0), (.aload_n 0, [], 0), (.aload_n 0, [], 0),
  (.getfield 77, [9, 23, 2], 23), (.bipush 44, [], 0), (.iload_n 1, [], 0), (.imul, [], 0), (.aload_n 0, [], 0), (.getfield 44, [9, 11, 2], 11),
  (.iload_n 2, [], 0), (.iaload, [], 0), (.iadd, [], 0), (.iaload, [], 0), (.aload_n 0, [], 0), (.getfield 215, [9, 29, 0], 29),
  (.invokevirtual 218, [74, 3, 9, 1], 0), (.putfield 215, [9, 29, 0], 29), (.aload_n 0, [], 0), (.iload_n 1, [], 0), (.iload_n 2, [], 0), (.invokevirtual 221, [78, 3, 9, 0], 0),
  (.goto 281, [195], 0), (.aload_n 0, [], 0), (.aload_n 0, [], 0), (.getfield 80, [9, 25, 2], 25), (.aload_n 0, [], 0), (.getfield 215, [9, 29, 0], 29),
  (.iaload, [], 0), (.putfield 215, [9, 29, 0], 29), (.aload_n 0, [], 0), (.iload_n 1, [], 0), (.iload_n 2, [], 0), (.invokevirtual 221, [78, 3, 9, 0], 0),
  (.goto 259, [195], 0), (.aload_n 0, [], 0), (.aload_n 0, [], 0), (.getfield 215, [9, 29, 0], 29), (.ifCond .le 12, [58], 0), (.aload_n 0, [], 0),
  (.getfield 215, [9, 29, 0], 29), (.iconst 1, [], 0), (.isub, [], 0), (.goto 4, [59], 0), (.iconst 0, [], 0), (.putfield 215, [9, 29, 0], 29),
  (.aload_n 0, [], 0), (.iload_n 1, [], 0), (.iload_n 2, [], 0), (.invokevirtual 221, [78, 3, 9, 0], 0), (.goto 229, [195], 0), (.aload_n 0, [], 0),
  (.getfield 65, [9, 18, 2], 18), (.iload_n 3, [], 0), (.aload_n 0, [], 0), (.getfield 215, [9, 29, 0], 29), (.iastore, [], 0), (.aload_n 0, [], 0),
  (.getfield 62, [9, 17, 2], 17), (.iload_n 3, [], 0), (.iconst 2, [], 0), (.iastore, [], 0), (.aload_n 0, [], 0), (.iload_n 1, [], 0),
  (.aload_n 0, [], 0), (.getfield 28, [9, 6, 2], 6), (.iload_n 2, [], 0), (.iaload, [], 0), (.invokevirtual 224, [76, 3, 9, 0], 0), (.goto 198, [195], 0),
  (.aload_n 0, [], 0), (.iload_n 1, [], 0), (.aload_n 0, [], 0), (.getfield 215, [9, 29, 0], 29), (.ifCond .eq 12, [94], 0), (.aload_n 0, [], 0),
  (.getfield 28, [9, 6, 2], 6), (.iload_n 2, [], 0), (.iaload, [], 0), (.goto 9, [98], 0), (.aload_n 0, [], 0), (.getfield 31, [9, 7, 2], 7),
  (.iload_n 2, [], 0), (.iaload, [], 0), (.invokevirtual 224, [76, 3, 9, 0], 0), (.goto 168, [195], 0), (.aload_n 0, [], 0), (.getfield 74, [9, 22, 2], 22),
  (.bipush 40, [], 0), (.iload_n 1, [], 0), (.imul, [], 0), (.iload_n 2, [], 0), (.iadd, [], 0), (.bipush 40, [], 0),
  (.iload 4, [], 0), (.imul, [], 0), (.isub, [], 0), (.aload_n 0, [], 0), (.getfield 215, [9, 29, 0], 29), (.iastore, [], 0),
  (.aload_n 0, [], 0), (.iload_n 1, [], 0), (.aload_n 0, [], 0), (.getfield 28, [9, 6, 2], 6), (.iload_n 2, [], 0), (.iaload, [], 0),
  (.invokevirtual 224, [76, 3, 9, 0], 0), (.goto 133, [195], 0), (.aload_n 0, [], 0), (.dup, [], 0), (.getfield 227, [9, 37, 0], 37), (.iconst 1, [], 0),
  (.iadd, [], 0), (.putfield 227, [9, 37, 0], 37), (.aload_n 0, [], 0), (.getfield 198, [9, 24, 0], 24), (.bipush 13, [], 0), (.if_icmp .ge 107, [192], 0),
  (.aload_n 0, [], 0), (.iload_n 2, [], 0), (.invokevirtual 113, [14, 2, 9, 1], 0), (.istore 5, [], 0), (.aload_n 0, [], 0), (.getfield 7, [9, 0, 2], 0),
  (.iload 5, [], 0), (.iaload, [], 0), (.iconst 1, [], 0), (.if_icmp .ne 27, [157], 0), (.aload_n 0, [], 0), (.getfield 77, [9, 23, 2], 23),
  (.bipush 44, [], 0), (.iload_n 1, [], 0), (.imul, [], 0), (.aload_n 0, [], 0), (.getfield 44, [9, 11, 2], 11), (.aload_n 0, [], 0),
  (.getfield 25, [9, 5, 2], 5), (.iload_n 2, [], 0), (.iaload, [], 0), (.iaload, [], 0), (.iadd, [], 0), (.iaload, [], 0),
  (.goto 4, [158], 0), (.iconst 0, [], 0), (.istore 6, [], 0), (.aload_n 0, [], 0), (.getfield 13, [9, 1, 2], 1), (.iload 5, [], 0),
  (.iaload, [], 0), (.iconst 1, [], 0), (.if_icmp .ne 22, [177], 0), (.aload_n 0, [], 0), (.getfield 77, [9, 23, 2], 23), (.bipush 44, [], 0),
  (.iload_n 1, [], 0), (.imul, [], 0), (.aload_n 0, [], 0), (.getfield 44, [9, 11, 2], 11), (.iload_n 2, [], 0), (.iaload, [], 0),
  (.iadd, [], 0), (.iaload, [], 0), (.goto 4, [178], 0), (.iconst 0, [], 0), (.istore 7, [], 0), (.aload_n 0, [], 0),
  (.aload_n 0, [], 0), (.iload 5, [], 0), (.aload_n 0, [], 0), (.getfield 215, [9, 29, 0], 29), (.iload 6, [], 0), (.iload 7, [], 0),
  (.invokevirtual 230, [75, 5, 9, 1], 0), (.bipush 40, [], 0), (.iload 5, [], 0), (.imul, [], 0), (.invokevirtual 224, [76, 3, 9, 0], 0), (.goto 10, [195], 0),
  (.aload_n 0, [], 0), (.sipush 4000, [], 0), (.putfield 234, [9, 30, 0], 30), (.return_, [], 0)
]
def bp_79 : List Nat := [0, 1, 4, 5, 6, 8, 9, 12, 13, 14, 15, 16, 19, 20, 21, 60, 61, 62, 63, 66, 68, 69, 70, 71, 74, 75, 76, 77, 78, 79, 82, 85, 88, 89, 90, 91, 94, 97, 98, 99, 102, 103, 106, 107, 110, 111, 112, 113, 116, 119, 120, 121, 124, 127, 128, 131, 132, 133, 136, 137, 140, 141, 142, 143, 146, 149, 150, 153, 154, 155, 158, 159, 160, 163, 164, 165, 166, 167, 168, 169, 172, 173, 174, 177, 180, 181, 182, 183, 186, 189, 190, 193, 194, 195, 198, 199, 202, 203, 204, 207, 210, 211, 214, 216, 217, 218, 219, 220, 222, 224, 225, 226, 227, 230, 231, 232, 233, 234, 237, 238, 239, 242, 245, 246, 247, 250, 251, 252, 255, 256, 259, 261, 264, 265, 266, 269, 271, 272, 275, 277, 278, 279, 282, 283, 286, 288, 289, 290, 291, 294, 295, 298, 299, 300, 301, 302, 303, 306, 307, 309, 310, 313, 315, 316, 317, 320, 321, 324, 326, 327, 328, 329, 332, 333, 334, 335, 336, 339, 340, 342, 343, 344, 346, 347, 350, 352, 354, 357, 359, 361, 362, 365, 368, 369, 372, 375, 376]
/-- RegionStackModel.step()V -/
def cd_80 : List AI := [
  (.aload_n 0, [], 0), (.getfield 201, [9, 19, 0], 19), (.iconst 1, [], 0), (.isub, [], 0), (.istore_n 1, [], 0), (.aload_n 0, [], 0),
  (.getfield 56, [9, 15, 2], 15), (.iload_n 1, [], 0), (.iaload, [], 0), (.istore_n 2, [], 0), (.aload_n 0, [], 0), (.getfield 59, [9, 16, 2], 16),
  (.iload_n 1, [], 0), (.iaload, [], 0), (.istore_n 3, [], 0), (.aload_n 0, [], 0), (.getfield 62, [9, 17, 2], 17), (.iload_n 1, [], 0),
  (.iaload, [], 0), (.istore 4, [], 0), (.iload 4, [], 0), (.iconst 1, [], 0), (.if_icmp .ne 11, [29], 0), (.aload_n 0, [], 0),
  (.iload_n 2, [], 0), (.iload_n 3, [], 0), (.iload_n 1, [], 0), (.invokevirtual 237, [79, 4, 9, 0], 0), (.return_, [], 0), (.iload 4, [], 0),
  (.iconst 1, [], 0), (.if_icmp .le 59, [64], 0), (.iload 4, [], 0), (.iconst 2, [], 0), (.if_icmp .ne 25, [47], 0), (.aload_n 0, [], 0),
  (.aload_n 0, [], 0), (.getfield 65, [9, 18, 2], 18), (.iload_n 1, [], 0), (.iaload, [], 0), (.aload_n 0, [], 0), (.getfield 215, [9, 29, 0], 29),
  (.iadd, [], 0), (.sipush 1000, [], 0), (.irem, [], 0), (.putfield 215, [9, 29, 0], 29), (.goto 24, [59], 0), (.aload_n 0, [], 0),
  (.getfield 22, [9, 4, 2], 4), (.iload_n 3, [], 0), (.iaload, [], 0), (.bipush 9, [], 0), (.if_icmp .ne 13, [59], 0), (.aload_n 0, [], 0),
  (.dup, [], 0), (.getfield 198, [9, 24, 0], 24), (.iconst 1, [], 0), (.isub, [], 0), (.putfield 198, [9, 24, 0], 24), (.aload_n 0, [], 0),
  (.iload_n 2, [], 0), (.iload_n 3, [], 0), (.invokevirtual 221, [78, 3, 9, 0], 0), (.return_, [], 0), (.aload_n 0, [], 0), (.dup, [], 0),
  (.getfield 234, [9, 30, 0], 30), (.iconst 1, [], 0), (.iadd, [], 0), (.putfield 234, [9, 30, 0], 30), (.aload_n 0, [], 0), (.iload_n 2, [], 0),
  (.iload_n 3, [], 0), (.iconst 1, [], 0), (.invokevirtual 211, [77, 4, 9, 0], 0), (.aload_n 0, [], 0), (.getfield 62, [9, 17, 2], 17), (.iload_n 1, [], 0),
  (.iconst 1, [], 0), (.iastore, [], 0), (.aload_n 0, [], 0), (.getfield 22, [9, 4, 2], 4), (.iload_n 3, [], 0), (.iaload, [], 0),
  (.invokestatic 107, [12, 1, 0, 1], 0), (.ifCond .le 15, [94], 0), (.aload_n 0, [], 0), (.iload_n 2, [], 0), (.aload_n 0, [], 0), (.getfield 25, [9, 5, 2], 5),
  (.iload_n 3, [], 0), (.iaload, [], 0), (.invokevirtual 224, [76, 3, 9, 0], 0), (.return_, [], 0), (.aload_n 0, [], 0), (.getfield 68, [9, 20, 2], 20),
  (.iload_n 2, [], 0), (.iaload, [], 0), (.istore 5, [], 0), (.aload_n 0, [], 0), (.aload_n 0, [], 0), (.getfield 22, [9, 4, 2], 4),
  (.iload_n 3, [], 0), (.iaload, [], 0), (.ifCond .ne 15, [112], 0), (.aload_n 0, [], 0), (.getfield 19, [9, 3, 2], 3), (.iload_n 3, [], 0),
  (.iaload, [], 0), (.bipush 48, [], 0), (.isub, [], 0), (.goto 45, [138], 0), (.aload_n 0, [], 0), (.getfield 22, [9, 4, 2], 4),
  (.iload_n 3, [], 0), (.iaload, [], 0), (.iconst 1, [], 0), (.if_icmp .ne 12, [123], 0), (.aload_n 0, [], 0), (.getfield 71, [9, 21, 2], 21),
  (.iload_n 2, [], 0), (.iaload, [], 0), (.goto 26, [138], 0), (.aload_n 0, [], 0), (.getfield 74, [9, 22, 2], 22), (.bipush 40, [], 0),
  (.iload_n 2, [], 0), (.imul, [], 0), (.aload_n 0, [], 0), (.iload 5, [], 0), (.iload_n 3, [], 0), (.invokevirtual 116, [53, 3, 9, 1], 0),
  (.iadd, [], 0), (.bipush 40, [], 0), (.iload 5, [], 0), (.imul, [], 0), (.isub, [], 0), (.iaload, [], 0),
  (.putfield 215, [9, 29, 0], 29), (.aload_n 0, [], 0), (.iload_n 2, [], 0), (.iload_n 3, [], 0), (.invokevirtual 221, [78, 3, 9, 0], 0), (.return_, [], 0)
]
def bp_80 : List Nat := [0, 1, 4, 5, 6, 7, 8, 11, 12, 13, 14, 15, 18, 19, 20, 21, 22, 25, 26, 27, 29, 31, 32, 35, 36, 37, 38, 39, 42, 43, 45, 46, 49, 51, 52, 55, 56, 57, 60, 61, 62, 63, 66, 67, 70, 71, 74, 77, 78, 81, 82, 83, 85, 88, 89, 90, 93, 94, 95, 98, 99, 100, 101, 104, 105, 106, 107, 110, 111, 112, 115, 116, 117, 118, 119, 122, 123, 126, 127, 128, 129, 130, 133, 134, 135, 138, 141, 142, 143, 144, 147, 148, 149, 152, 153, 154, 157, 158, 159, 161, 162, 163, 166, 167, 168, 171, 172, 175, 176, 177, 179, 180, 183, 184, 187, 188, 189, 190, 193, 194, 197, 198, 199, 202, 203, 206, 208, 209, 210, 211, 213, 214, 217, 218, 220, 222, 223, 224, 225, 228, 229, 230, 231, 234, 235]
/-- RegionStackModel.barOfRun(II)I -/
def cd_81 : List AI := [
  (.aload_n 0, [], 0), (.invokevirtual 164, [62, 1, 9, 1], 0), (.ifCond .ne 6, [5], 0), (.bipush (-5), [], 0), (.ireturn, [], 0), (.aload_n 0, [], 0),
  (.iconst 0, [], 0), (.putfield 201, [9, 19, 0], 19), (.aload_n 0, [], 0), (.iconst 0, [], 0), (.putfield 198, [9, 24, 0], 24), (.aload_n 0, [], 0),
  (.iconst 0, [], 0), (.putfield 167, [9, 28, 0], 28), (.aload_n 0, [], 0), (.iconst 0, [], 0), (.putfield 234, [9, 30, 0], 30), (.aload_n 0, [], 0),
  (.iconst 0, [], 0), (.putfield 183, [9, 31, 0], 31), (.aload_n 0, [], 0), (.iconst 0, [], 0), (.putfield 177, [9, 32, 0], 32), (.aload_n 0, [], 0),
  (.iconst 0, [], 0), (.putfield 192, [9, 33, 0], 33), (.aload_n 0, [], 0), (.iconst 0, [], 0), (.putfield 174, [9, 34, 0], 34), (.aload_n 0, [], 0),
  (.iconst 0, [], 0), (.putfield 171, [9, 35, 0], 35), (.aload_n 0, [], 0), (.iconst 0, [], 0), (.putfield 186, [9, 36, 0], 36), (.aload_n 0, [], 0),
  (.iconst 0, [], 0), (.putfield 227, [9, 37, 0], 37), (.aload_n 0, [], 0), (.iconst 0, [], 0), (.putfield 180, [9, 38, 0], 38), (.aload_n 0, [], 0),
  (.iconst 0, [], 0), (.putfield 195, [9, 39, 0], 39), (.aload_n 0, [], 0), (.iconst 0, [], 0), (.putfield 189, [9, 40, 0], 40), (.aload_n 0, [], 0),
  (.getfield 7, [9, 0, 2], 0), (.iload_n 1, [], 0), (.iaload, [], 0), (.iconst 1, [], 0), (.if_icmp .ne 10, [56], 0), (.aload_n 0, [], 0),
  (.invokevirtual 204, [72, 1, 9, 1], 0), (.goto 4, [57], 0), (.iconst 0, [], 0), (.istore_n 3, [], 0), (.aload_n 0, [], 0), (.getfield 7, [9, 0, 2], 0),
  (.iload_n 1, [], 0), (.iaload, [], 0), (.iconst 1, [], 0), (.if_icmp .ne 12, [69], 0), (.aload_n 0, [], 0), (.iload_n 3, [], 0),
  (.iload_n 2, [], 0), (.invokevirtual 218, [74, 3, 9, 1], 0), (.goto 4, [70], 0), (.iload_n 2, [], 0), (.istore 4, [], 0), (.aload_n 0, [], 0),
  (.getfield 13, [9, 1, 2], 1), (.iload_n 1, [], 0), (.iaload, [], 0), (.iconst 1, [], 0), (.if_icmp .ne 19, [85], 0), (.aload_n 0, [], 0),
  (.getfield 40, [9, 10, 2], 10), (.iload_n 1, [], 0), (.baload, [], 0), (.ifCond .ne 10, [85], 0), (.aload_n 0, [], 0), (.invokevirtual 204, [72, 1, 9, 1], 0),
  (.goto 4, [86], 0), (.iload_n 3, [], 0), (.istore 5, [], 0), (.aload_n 0, [], 0), (.aload_n 0, [], 0), (.iload_n 1, [], 0),
  (.iload 4, [], 0), (.iload_n 3, [], 0), (.iload 5, [], 0), (.invokevirtual 230, [75, 5, 9, 1], 0), (.bipush 40, [], 0), (.iload_n 1, [], 0),
  (.imul, [], 0), (.invokevirtual 224, [76, 3, 9, 0], 0), (.aload_n 0, [], 0), (.getfield 201, [9, 19, 0], 19), (.ifCond .le 30, [112], 0), (.aload_n 0, [], 0),
  (.getfield 234, [9, 30, 0], 30), (.sipush 3001, [], 0), (.if_icmp .ge 20, [112], 0), (.aload_n 0, [], 0), (.getfield 183, [9, 31, 0], 31), (.sipush 301, [], 0),
  (.if_icmp .ge 10, [112], 0), (.aload_n 0, [], 0), (.invokevirtual 241, [80, 1, 9, 0], 0), (.goto (-31), [98], 0), (.aload_n 0, [], 0), (.getfield 234, [9, 30, 0], 30),
  (.sipush 3000, [], 0), (.if_icmp .gt 13, [120], 0), (.aload_n 0, [], 0), (.getfield 183, [9, 31, 0], 31), (.sipush 300, [], 0), (.if_icmp .le 8, [122], 0),
  (.bipush (-3), [], 0), (.goto 4, [123], 0), (.iconst 0, [], 0), (.ireturn, [], 0)
]
def bp_81 : List Nat := [0, 1, 4, 7, 9, 10, 11, 12, 15, 16, 17, 20, 21, 22, 25, 26, 27, 30, 31, 32, 35, 36, 37, 40, 41, 42, 45, 46, 47, 50, 51, 52, 55, 56, 57, 60, 61, 62, 65, 66, 67, 70, 71, 72, 75, 76, 77, 80, 81, 84, 85, 86, 87, 90, 91, 94, 97, 98, 99, 100, 103, 104, 105, 106, 109, 110, 111, 112, 115, 118, 119, 121, 122, 125, 126, 127, 128, 131, 132, 135, 136, 137, 140, 141, 144, 147, 148, 150, 151, 152, 153, 155, 156, 158, 161, 163, 164, 165, 168, 169, 172, 175, 176, 179, 182, 185, 186, 189, 192, 195, 196, 199, 202, 203, 206, 209, 212, 213, 216, 219, 222, 224, 227, 228, 229]
/-- RegionStackModel.run(III)I -/
def cd_82 : List AI := [
  (.iload_n 1, [], 0), (.invokestatic 99, [10, 1, 0, 1], 0), (.ifCond .ne 5, [5], 0), (.iconst (-1), [], 0), (.ireturn, [], 0), (.iload_n 2, [], 0),
  (.iconst 0, [], 0), (.sipush 999, [], 0), (.invokestatic 95, [9, 3, 0, 1], 0), (.ifCond .eq 13, [15], 0), (.iload_n 3, [], 0), (.iconst 0, [], 0),
  (.bipush 7, [], 0), (.invokestatic 95, [9, 3, 0, 1], 0), (.ifCond .ne 6, [17], 0), (.bipush (-2), [], 0), (.ireturn, [], 0), (.aload_n 0, [], 0),
  (.iload_n 1, [], 0), (.iload_n 2, [], 0), (.invokevirtual 244, [81, 3, 9, 1], 0), (.istore 4, [], 0), (.iload 4, [], 0), (.ifCond .ge 6, [26], 0),
  (.iload 4, [], 0), (.ireturn, [], 0), (.iload_n 3, [], 0), (.tableswitch 90 0 5 #[38, 65, 70, 75, 80, 85], [58, 28, 43, 46, 49, 52, 55], 0), (.aload_n 0, [], 0), (.getfield 13, [9, 1, 2], 1),
  (.iload_n 1, [], 0), (.iaload, [], 0), (.iconst 1, [], 0), (.if_icmp .ne 15, [40], 0), (.aload_n 0, [], 0), (.getfield 80, [9, 25, 2], 25),
  (.aload_n 0, [], 0), (.getfield 215, [9, 29, 0], 29), (.iaload, [], 0), (.goto 7, [42], 0), (.aload_n 0, [], 0), (.getfield 215, [9, 29, 0], 29),
  (.ireturn, [], 0), (.aload_n 0, [], 0), (.getfield 234, [9, 30, 0], 30), (.ireturn, [], 0), (.aload_n 0, [], 0), (.getfield 183, [9, 31, 0], 31),
  (.ireturn, [], 0), (.aload_n 0, [], 0), (.getfield 192, [9, 33, 0], 33), (.ireturn, [], 0), (.aload_n 0, [], 0), (.getfield 174, [9, 34, 0], 34),
  (.ireturn, [], 0), (.aload_n 0, [], 0), (.getfield 171, [9, 35, 0], 35), (.ireturn, [], 0), (.iload_n 3, [], 0), (.bipush 6, [], 0),
  (.if_icmp .ne 10, [64], 0), (.aload_n 0, [], 0), (.getfield 186, [9, 36, 0], 36), (.goto 7, [66], 0), (.aload_n 0, [], 0), (.getfield 227, [9, 37, 0], 37),
  (.ireturn, [], 0)
]
def bp_82 : List Nat := [0, 1, 4, 7, 8, 9, 10, 11, 14, 17, 20, 21, 22, 24, 27, 30, 32, 33, 34, 35, 36, 39, 41, 43, 46, 48, 49, 50, 88, 89, 92, 93, 94, 95, 98, 99, 102, 103, 106, 107, 110, 111, 114, 115, 116, 119, 120, 121, 124, 125, 126, 129, 130, 131, 134, 135, 136, 139, 140, 141, 143, 146, 147, 150, 153, 154, 157, 158]
/-- RegionStackModel.words(III)I -/
def cd_83 : List AI := [
  (.iload_n 1, [], 0), (.invokestatic 99, [10, 1, 0, 1], 0), (.ifCond .ne 5, [5], 0), (.iconst (-1), [], 0), (.ireturn, [], 0), (.iload_n 2, [], 0),
  (.iconst 0, [], 0), (.sipush 999, [], 0), (.invokestatic 95, [9, 3, 0, 1], 0), (.ifCond .eq 12, [15], 0), (.iload_n 3, [], 0), (.iconst 0, [], 0),
  (.iconst 1, [], 0), (.invokestatic 95, [9, 3, 0, 1], 0), (.ifCond .ne 6, [17], 0), (.bipush (-2), [], 0), (.ireturn, [], 0), (.aload_n 0, [], 0),
  (.iload_n 1, [], 0), (.iload_n 2, [], 0), (.invokevirtual 244, [81, 3, 9, 1], 0), (.istore 4, [], 0), (.iload 4, [], 0), (.ifCond .ge 8, [26], 0),
  (.iload 4, [], 0), (.goto 18, [33], 0), (.iload_n 3, [], 0), (.ifCond .ne 10, [31], 0), (.aload_n 0, [], 0), (.getfield 195, [9, 39, 0], 39),
  (.goto 7, [33], 0), (.aload_n 0, [], 0), (.getfield 189, [9, 40, 0], 40), (.ireturn, [], 0)
]
def bp_83 : List Nat := [0, 1, 4, 7, 8, 9, 10, 11, 14, 17, 20, 21, 22, 23, 26, 29, 31, 32, 33, 34, 35, 38, 40, 42, 45, 47, 50, 51, 54, 55, 58, 61, 62, 65, 66]
/-- RegionStackModel.mixed(II)I -/
def cd_84 : List AI := [
  (.iload_n 1, [], 0), (.invokestatic 99, [10, 1, 0, 1], 0), (.ifCond .ne 5, [5], 0), (.iconst (-1), [], 0), (.ireturn, [], 0), (.iload_n 2, [], 0),
  (.iconst 0, [], 0), (.sipush 999, [], 0), (.invokestatic 95, [9, 3, 0, 1], 0), (.ifCond .ne 6, [12], 0), (.bipush (-2), [], 0), (.ireturn, [], 0),
  (.aload_n 0, [], 0), (.iload_n 1, [], 0), (.iload_n 2, [], 0), (.invokevirtual 244, [81, 3, 9, 1], 0), (.istore_n 3, [], 0), (.iload_n 3, [], 0),
  (.ifCond .lt 10, [22], 0), (.aload_n 0, [], 0), (.getfield 189, [9, 40, 0], 40), (.ifCond .ne 5, [24], 0), (.iload_n 3, [], 0), (.ireturn, [], 0),
  (.aload_n 0, [], 0), (.getfield 195, [9, 39, 0], 39), (.aload_n 0, [], 0), (.getfield 189, [9, 40, 0], 40), (.idiv, [], 0), (.istore 4, [], 0),
  (.aload_n 0, [], 0), (.getfield 195, [9, 39, 0], 39), (.aload_n 0, [], 0), (.getfield 189, [9, 40, 0], 40), (.irem, [], 0), (.istore 5, [], 0),
  (.iconst 0, [], 0), (.istore 6, [], 0), (.iload 4, [], 0), (.ldc 247, [], 8388608), (.if_icmp .ge 38, [61], 0), (.iload 5, [], 0),
  (.iconst 2, [], 0), (.imul, [], 0), (.istore 5, [], 0), (.iconst 2, [], 0), (.iload 4, [], 0), (.imul, [], 0),
  (.iload 5, [], 0), (.aload_n 0, [], 0), (.getfield 189, [9, 40, 0], 40), (.idiv, [], 0), (.iadd, [], 0), (.istore 4, [], 0),
  (.iload 5, [], 0), (.aload_n 0, [], 0), (.getfield 189, [9, 40, 0], 40), (.irem, [], 0), (.istore 5, [], 0), (.iinc 6 (-1), [], 0),
  (.goto (-39), [38], 0), (.iconst 2, [], 0), (.iload 5, [], 0), (.imul, [], 0), (.aload_n 0, [], 0), (.getfield 189, [9, 40, 0], 40),
  (.if_icmp .gt 22, [78], 0), (.iconst 2, [], 0), (.iload 5, [], 0), (.imul, [], 0), (.aload_n 0, [], 0), (.getfield 189, [9, 40, 0], 40),
  (.if_icmp .ne 14, [79], 0), (.iload 4, [], 0), (.iconst 2, [], 0), (.irem, [], 0), (.iconst 1, [], 0), (.if_icmp .ne 6, [79], 0),
  (.iinc 4 1, [], 0), (.iload 4, [], 0), (.ldc 248, [], 16777216), (.if_icmp .ne 12, [87], 0), (.iload 4, [], 0), (.iconst 2, [], 0),
  (.idiv, [], 0), (.istore 4, [], 0), (.iinc 6 1, [], 0), (.iload 6, [], 0), (.bipush 23, [], 0), (.iadd, [], 0),
  (.bipush 127, [], 0), (.iadd, [], 0), (.ldc 247, [], 8388608), (.imul, [], 0), (.iload 4, [], 0), (.iadd, [], 0),
  (.ldc 247, [], 8388608), (.isub, [], 0), (.ireturn, [], 0)
]
def bp_84 : List Nat := [0, 1, 4, 7, 8, 9, 10, 11, 14, 17, 20, 22, 23, 24, 25, 26, 29, 30, 31, 34, 35, 38, 41, 42, 43, 44, 47, 48, 51, 52, 54, 55, 58, 59, 62, 63, 65, 66, 68, 70, 72, 75, 77, 78, 79, 81, 82, 84, 85, 87, 88, 91, 92, 93, 95, 97, 98, 101, 102, 104, 107, 110, 111, 113, 114, 115, 118, 121, 122, 124, 125, 126, 129, 132, 134, 135, 136, 137, 140, 143, 145, 147, 150, 152, 153, 154, 156, 159, 161, 163, 164, 166, 167, 169, 170, 172, 173, 175, 176, 177]
/-- RegionStackModel.image(I)I -/
def cd_85 : List AI := [
  (.iload_n 1, [], 0), (.iconst 0, [], 0), (.iconst 1, [], 0), (.invokestatic 95, [9, 3, 0, 1], 0), (.ifCond .ne 6, [7], 0), (.bipush (-2), [], 0),
  (.ireturn, [], 0), (.sipush 130, [], 0), (.iload_n 1, [], 0), (.imul, [], 0), (.istore_n 2, [], 0), (.iconst 0, [], 0),
  (.istore_n 3, [], 0), (.iload_n 3, [], 0), (.iconst 3, [], 0), (.if_icmp .ge 56, [52], 0), (.aload_n 0, [], 0), (.getfield 89, [9, 41, 2], 41),
  (.iload_n 2, [], 0), (.iload_n 3, [], 0), (.iadd, [], 0), (.aload_n 0, [], 0), (.getfield 7, [9, 0, 2], 0), (.iload_n 3, [], 0),
  (.iaload, [], 0), (.iastore, [], 0), (.aload_n 0, [], 0), (.getfield 89, [9, 41, 2], 41), (.iload_n 2, [], 0), (.iconst 3, [], 0),
  (.iadd, [], 0), (.iload_n 3, [], 0), (.iadd, [], 0), (.aload_n 0, [], 0), (.getfield 13, [9, 1, 2], 1), (.iload_n 3, [], 0),
  (.iaload, [], 0), (.iastore, [], 0), (.aload_n 0, [], 0), (.getfield 89, [9, 41, 2], 41), (.iload_n 2, [], 0), (.bipush 6, [], 0),
  (.iadd, [], 0), (.iload_n 3, [], 0), (.iadd, [], 0), (.aload_n 0, [], 0), (.getfield 16, [9, 2, 2], 2), (.iload_n 3, [], 0),
  (.iaload, [], 0), (.iastore, [], 0), (.iinc 3 1, [], 0), (.goto (-55), [13], 0), (.iconst 0, [], 0), (.istore_n 3, [], 0),
  (.iload_n 3, [], 0), (.bipush 120, [], 0), (.if_icmp .ge 26, [71], 0), (.aload_n 0, [], 0), (.getfield 89, [9, 41, 2], 41), (.iload_n 2, [], 0),
  (.bipush 9, [], 0), (.iadd, [], 0), (.iload_n 3, [], 0), (.iadd, [], 0), (.aload_n 0, [], 0), (.getfield 19, [9, 3, 2], 3),
  (.iload_n 3, [], 0), (.iaload, [], 0), (.iastore, [], 0), (.iinc 3 1, [], 0), (.goto (-26), [54], 0), (.aload_n 0, [], 0),
  (.getfield 92, [9, 42, 2], 42), (.iload_n 1, [], 0), (.iconst 1, [], 0), (.bastore, [], 0), (.iconst 1, [], 0), (.ireturn, [], 0)
]
def bp_85 : List Nat := [0, 1, 2, 3, 6, 9, 11, 12, 15, 16, 17, 18, 19, 20, 21, 22, 25, 26, 29, 30, 31, 32, 33, 36, 37, 38, 39, 40, 43, 44, 45, 46, 47, 48, 49, 52, 53, 54, 55, 56, 59, 60, 62, 63, 64, 65, 66, 69, 70, 71, 72, 75, 78, 79, 80, 81, 83, 86, 87, 90, 91, 93, 94, 95, 96, 97, 100, 101, 102, 103, 106, 109, 110, 113, 114, 115, 116, 117, 118]
/-- RegionStackModel.restore(I)I -/
def cd_86 : List AI := [
  (.iload_n 1, [], 0), (.iconst 0, [], 0), (.iconst 1, [], 0), (.invokestatic 95, [9, 3, 0, 1], 0), (.ifCond .ne 6, [7], 0), (.bipush (-2), [], 0),
  (.ireturn, [], 0), (.aload_n 0, [], 0), (.getfield 92, [9, 42, 2], 42), (.iload_n 1, [], 0), (.baload, [], 0), (.ifCond .ne 6, [14], 0),
  (.bipush (-3), [], 0), (.ireturn, [], 0), (.sipush 130, [], 0), (.iload_n 1, [], 0), (.imul, [], 0), (.istore_n 2, [], 0),
  (.iconst 0, [], 0), (.istore_n 3, [], 0), (.iload_n 3, [], 0), (.iconst 3, [], 0), (.if_icmp .ge 56, [59], 0), (.aload_n 0, [], 0),
  (.getfield 7, [9, 0, 2], 0), (.iload_n 3, [], 0), (.aload_n 0, [], 0), (.getfield 89, [9, 41, 2], 41), (.iload_n 2, [], 0), (.iload_n 3, [], 0),
  (.iadd, [], 0), (.iaload, [], 0), (.iastore, [], 0), (.aload_n 0, [], 0), (.getfield 13, [9, 1, 2], 1), (.iload_n 3, [], 0),
  (.aload_n 0, [], 0), (.getfield 89, [9, 41, 2], 41), (.iload_n 2, [], 0), (.iconst 3, [], 0), (.iadd, [], 0), (.iload_n 3, [], 0),
  (.iadd, [], 0), (.iaload, [], 0), (.iastore, [], 0), (.aload_n 0, [], 0), (.getfield 16, [9, 2, 2], 2), (.iload_n 3, [], 0),
  (.aload_n 0, [], 0), (.getfield 89, [9, 41, 2], 41), (.iload_n 2, [], 0), (.bipush 6, [], 0), (.iadd, [], 0), (.iload_n 3, [], 0),
  (.iadd, [], 0), (.iaload, [], 0), (.iastore, [], 0), (.iinc 3 1, [], 0), (.goto (-55), [20], 0), (.iconst 0, [], 0),
  (.istore_n 3, [], 0), (.iload_n 3, [], 0), (.bipush 120, [], 0), (.if_icmp .ge 26, [78], 0), (.aload_n 0, [], 0), (.getfield 19, [9, 3, 2], 3),
  (.iload_n 3, [], 0), (.aload_n 0, [], 0), (.getfield 89, [9, 41, 2], 41), (.iload_n 2, [], 0), (.bipush 9, [], 0), (.iadd, [], 0),
  (.iload_n 3, [], 0), (.iadd, [], 0), (.iaload, [], 0), (.iastore, [], 0), (.iinc 3 1, [], 0), (.goto (-26), [61], 0),
  (.iconst 1, [], 0), (.ireturn, [], 0)
]
def bp_86 : List Nat := [0, 1, 2, 3, 6, 9, 11, 12, 13, 16, 17, 18, 21, 23, 24, 27, 28, 29, 30, 31, 32, 33, 34, 37, 38, 41, 42, 43, 46, 47, 48, 49, 50, 51, 52, 55, 56, 57, 60, 61, 62, 63, 64, 65, 66, 67, 68, 71, 72, 73, 76, 77, 79, 80, 81, 82, 83, 84, 87, 90, 91, 92, 93, 95, 98, 99, 102, 103, 104, 107, 108, 110, 111, 112, 113, 114, 115, 118, 121, 122, 123]
/-- RegionStackModel.told(I)I -/
def cd_87 : List AI := [
  (.iload_n 1, [], 0), (.bipush 100, [], 0), (.if_icmp .lt 49, [33], 0), (.iload_n 1, [], 0), (.bipush 100, [], 0), (.idiv, [], 0),
  (.iconst 1, [], 0), (.isub, [], 0), (.istore_n 2, [], 0), (.iload_n 1, [], 0), (.bipush 100, [], 0), (.irem, [], 0),
  (.istore_n 3, [], 0), (.iload_n 2, [], 0), (.invokestatic 99, [10, 1, 0, 1], 0), (.ifCond .eq 27, [31], 0), (.iload_n 3, [], 0), (.aload_n 0, [], 0),
  (.getfield 16, [9, 2, 2], 2), (.iload_n 2, [], 0), (.iaload, [], 0), (.if_icmp .ge 17, [31], 0), (.aload_n 0, [], 0), (.getfield 19, [9, 3, 2], 3),
  (.bipush 40, [], 0), (.iload_n 2, [], 0), (.imul, [], 0), (.iload_n 3, [], 0), (.iadd, [], 0), (.iaload, [], 0),
  (.goto 5, [32], 0), (.bipush (-2), [], 0), (.ireturn, [], 0), (.iload_n 1, [], 0), (.bipush 10, [], 0), (.if_icmp .lt 37, [57], 0),
  (.iload_n 1, [], 0), (.bipush 13, [], 0), (.if_icmp .ge 28, [55], 0), (.bipush 10, [], 0), (.aload_n 0, [], 0), (.getfield 7, [9, 0, 2], 0),
  (.iload_n 1, [], 0), (.bipush 10, [], 0), (.isub, [], 0), (.iaload, [], 0), (.imul, [], 0), (.aload_n 0, [], 0),
  (.getfield 13, [9, 1, 2], 1), (.iload_n 1, [], 0), (.bipush 10, [], 0), (.isub, [], 0), (.iaload, [], 0), (.iadd, [], 0),
  (.goto 5, [56], 0), (.bipush (-2), [], 0), (.ireturn, [], 0), (.iload_n 1, [], 0), (.invokestatic 99, [10, 1, 0, 1], 0), (.ifCond .eq 12, [65], 0),
  (.aload_n 0, [], 0), (.getfield 16, [9, 2, 2], 2), (.iload_n 1, [], 0), (.iaload, [], 0), (.goto 5, [66], 0), (.bipush (-2), [], 0),
  (.ireturn, [], 0)
]
def bp_87 : List Nat := [0, 1, 3, 6, 7, 9, 10, 11, 12, 13, 14, 16, 17, 18, 19, 22, 25, 26, 27, 30, 31, 32, 35, 36, 39, 41, 42, 43, 44, 45, 46, 49, 51, 52, 53, 55, 58, 59, 61, 64, 66, 67, 70, 71, 73, 74, 75, 76, 77, 80, 81, 83, 84, 85, 86, 89, 91, 92, 93, 96, 99, 100, 103, 104, 105, 108, 110, 111]
/-- RegionStack$Body.<init>()V -/
def cd_88 : List AI := [
  (.aload_n 0, [], 0), (.invokespecial 3, [], 0), (.aload_n 0, [], 0), (.new 9, [], 0), (.dup, [], 0), (.invokespecial 11, [131, 1, 6, 0], 0),
  (.putfield 12, [1, 0, 2], 0), (.aload_n 0, [], 0), (.aload_n 0, [], 0), (.getfield 12, [1, 0, 2], 0), (.getfield 18, [6, 0, 2], 0), (.putfield 22, [1, 1, 2], 1),
  (.aload_n 0, [], 0), (.new 23, [], 0), (.dup, [], 0), (.bipush 42, [], 0), (.invokespecial 25, [111, 2, 3, 0], 0), (.putfield 28, [1, 2, 2], 2),
  (.aload_n 0, [], 0), (.new 23, [], 0), (.dup, [], 0), (.bipush 40, [], 0), (.invokespecial 25, [111, 2, 3, 0], 0), (.putfield 32, [1, 3, 2], 3),
  (.aload_n 0, [], 0), (.new 23, [], 0), (.dup, [], 0), (.bipush 40, [], 0), (.invokespecial 25, [111, 2, 3, 0], 0), (.putfield 35, [1, 4, 2], 4),
  (.aload_n 0, [], 0), (.new 23, [], 0), (.dup, [], 0), (.bipush 42, [], 0), (.invokespecial 25, [111, 2, 3, 0], 0), (.putfield 38, [1, 5, 2], 5),
  (.return_, [], 0)
]
def bp_88 : List Nat := [0, 1, 4, 5, 8, 9, 12, 15, 16, 17, 20, 23, 26, 27, 30, 31, 33, 36, 39, 40, 43, 44, 46, 49, 52, 53, 56, 57, 59, 62, 65, 66, 69, 70, 72, 75, 78, 79]
/-- RegionStack$Body.hasOwn(I)Z -/
def cd_89 : List AI := [
  (.iload_n 1, [], 0), (.iconst 2, [], 0), (.if_icmp .lt 17, [11], 0), (.iload_n 1, [], 0), (.iconst 2, [], 0), (.aload_n 0, [], 0),
  (.getfield 41, [1, 8, 0], 8), (.iadd, [], 0), (.if_icmp .ge 7, [11], 0), (.iconst 1, [], 0), (.goto 4, [12], 0), (.iconst 0, [], 0),
  (.ireturn, [], 0)
]
def bp_89 : List Nat := [0, 1, 2, 5, 6, 7, 8, 11, 12, 15, 16, 19, 20, 21]
/-- RegionStack$Body.joinParts(LRegionStack$Program;)V -/
def cd_90 : List AI := [
  (.iconst 0, [], 0), (.istore_n 2, [], 0), (.iload_n 2, [], 0), (.bipush 42, [], 0), (.if_icmp .ge 18, [12], 0), (.aload_n 0, [], 0),
  (.getfield 28, [1, 2, 2], 2), (.iload_n 2, [], 0), (.iload_n 2, [], 0), (.invokevirtual 45, [1, 3, 3, 0], 0), (.iinc 2 1, [], 0), (.goto (-18), [2], 0),
  (.iconst 0, [], 0), (.istore_n 2, [], 0), (.iload_n 2, [], 0), (.aload_n 0, [], 0), (.getfield 22, [1, 1, 2], 1), (.getfield 49, [7, 1, 0], 1),
  (.if_icmp .ge 30, [32], 0), (.aload_n 0, [], 0), (.getfield 12, [1, 0, 2], 0), (.getfield 54, [6, 1, 2], 1), (.iload_n 2, [], 0), (.invokevirtual 57, [0, 2, 3, 1], 0),
  (.iconst 1, [], 0), (.if_icmp .ne 9, [30], 0), (.aload_n 0, [], 0), (.aload_n 1, [], 0), (.iload_n 2, [], 0), (.invokevirtual 61, [91, 3, 1, 0], 0),
  (.iinc 2 1, [], 0), (.goto (-35), [14], 0), (.aload_n 0, [], 0), (.getfield 22, [1, 1, 2], 1), (.getfield 65, [7, 3, 0], 3), (.iconst 1, [], 0),
  (.if_icmp .ne 10, [41], 0), (.aload_n 0, [], 0), (.iconst 0, [], 0), (.bipush 41, [], 0), (.invokevirtual 68, [92, 3, 1, 0], 0), (.aload_n 0, [], 0),
  (.aload_n 0, [], 0), (.getfield 28, [1, 2, 2], 2), (.bipush 40, [], 0), (.invokevirtual 57, [0, 2, 3, 1], 0), (.aload_n 0, [], 0), (.getfield 28, [1, 2, 2], 2),
  (.bipush 41, [], 0), (.invokevirtual 57, [0, 2, 3, 1], 0), (.if_icmp .ne 7, [53], 0), (.iconst 1, [], 0), (.goto 4, [54], 0), (.iconst 0, [], 0),
  (.putfield 71, [1, 6, 1], 6), (.return_, [], 0)
]
def bp_90 : List Nat := [0, 1, 2, 3, 5, 8, 9, 12, 13, 14, 17, 20, 23, 24, 25, 26, 27, 30, 33, 36, 37, 40, 43, 44, 47, 48, 51, 52, 53, 54, 57, 60, 63, 64, 67, 70, 71, 74, 75, 76, 78, 81, 82, 83, 86, 88, 91, 92, 95, 97, 100, 103, 104, 107, 108, 111, 112]
/-- RegionStack$Body.joinPart(LRegionStack$Program;I)V -/
def cd_91 : List AI := [
  (.aload_n 0, [], 0), (.getfield 12, [1, 0, 2], 0), (.getfield 75, [6, 2, 2], 2), (.iload_n 2, [], 0), (.invokevirtual 57, [0, 2, 3, 1], 0), (.lookupswitch 154 #[(63, 79), (64, 110), (108, 62), (110, 49), (120, 52)], [60, 21, 38, 12, 6, 7], 0),
  (.goto 126, [71], 0), (.aload_n 0, [], 0), (.iload_n 2, [], 0), (.bipush 40, [], 0), (.invokevirtual 68, [92, 3, 1, 0], 0), (.goto 116, [71], 0),
  (.aload_n 0, [], 0), (.iload_n 2, [], 0), (.aload_n 0, [], 0), (.getfield 12, [1, 0, 2], 0), (.iload_n 2, [], 0), (.iconst 1, [], 0),
  (.invokevirtual 78, [19, 3, 6, 1], 0), (.invokevirtual 68, [92, 3, 1, 0], 0), (.goto 99, [71], 0), (.aload_n 0, [], 0), (.iload_n 2, [], 0), (.aload_n 0, [], 0),
  (.getfield 12, [1, 0, 2], 0), (.iload_n 2, [], 0), (.iconst 1, [], 0), (.invokevirtual 78, [19, 3, 6, 1], 0), (.invokevirtual 68, [92, 3, 1, 0], 0), (.aload_n 0, [], 0),
  (.iload_n 2, [], 0), (.aload_n 0, [], 0), (.getfield 12, [1, 0, 2], 0), (.iload_n 2, [], 0), (.iconst 2, [], 0), (.invokevirtual 78, [19, 3, 6, 1], 0),
  (.invokevirtual 68, [92, 3, 1, 0], 0), (.goto 68, [71], 0), (.aload_n 1, [], 0), (.aload_n 0, [], 0), (.getfield 12, [1, 0, 2], 0), (.getfield 82, [6, 3, 2], 3),
  (.iload_n 2, [], 0), (.invokevirtual 57, [0, 2, 3, 1], 0), (.invokevirtual 85, [15, 2, 2, 2], 0), (.astore_n 3, [], 0), (.aload_n 3, [], 0), (.ifnull 48, [71], 0),
  (.aload_n 3, [], 0), (.getfield 71, [1, 6, 1], 6), (.ifCond .eq 41, [71], 0), (.aload_n 0, [], 0), (.iload_n 2, [], 0), (.aload_n 0, [], 0),
  (.getfield 12, [1, 0, 2], 0), (.iload_n 2, [], 0), (.iconst 0, [], 0), (.invokevirtual 78, [19, 3, 6, 1], 0), (.invokevirtual 68, [92, 3, 1, 0], 0), (.goto 24, [71], 0),
  (.aload_n 0, [], 0), (.iload_n 2, [], 0), (.aload_n 0, [], 0), (.getfield 12, [1, 0, 2], 0), (.aload_n 0, [], 0), (.getfield 12, [1, 0, 2], 0),
  (.iload_n 2, [], 0), (.invokevirtual 91, [20, 2, 6, 1], 0), (.iconst 0, [], 0), (.invokevirtual 78, [19, 3, 6, 1], 0), (.invokevirtual 68, [92, 3, 1, 0], 0), (.return_, [], 0)
]
def bp_91 : List Nat := [0, 1, 4, 7, 8, 11, 60, 63, 64, 65, 67, 70, 73, 74, 75, 76, 79, 80, 81, 84, 87, 90, 91, 92, 93, 96, 97, 98, 101, 104, 105, 106, 107, 110, 111, 112, 115, 118, 121, 122, 123, 126, 129, 130, 133, 136, 137, 138, 141, 142, 145, 148, 149, 150, 151, 154, 155, 156, 159, 162, 165, 166, 167, 168, 171, 172, 175, 176, 179, 180, 183, 186, 187]
/-- RegionStack$Body.join(II)V -/
def cd_92 : List AI := [
  (.aload_n 0, [], 0), (.getfield 28, [1, 2, 2], 2), (.iload_n 1, [], 0), (.invokevirtual 57, [0, 2, 3, 1], 0), (.istore_n 3, [], 0), (.aload_n 0, [], 0),
  (.getfield 28, [1, 2, 2], 2), (.iload_n 2, [], 0), (.invokevirtual 57, [0, 2, 3, 1], 0), (.istore 4, [], 0), (.iconst 0, [], 0), (.istore 5, [], 0),
  (.iload 5, [], 0), (.bipush 42, [], 0), (.if_icmp .ge 33, [28], 0), (.aload_n 0, [], 0), (.getfield 28, [1, 2, 2], 2), (.iload 5, [], 0),
  (.invokevirtual 57, [0, 2, 3, 1], 0), (.iload 4, [], 0), (.if_icmp .ne 13, [26], 0), (.aload_n 0, [], 0), (.getfield 28, [1, 2, 2], 2), (.iload 5, [], 0),
  (.iload_n 3, [], 0), (.invokevirtual 45, [1, 3, 3, 0], 0), (.iinc 5 1, [], 0), (.goto (-34), [12], 0), (.return_, [], 0)
]
def bp_92 : List Nat := [0, 1, 4, 5, 8, 9, 10, 13, 14, 17, 19, 20, 22, 24, 26, 29, 30, 33, 35, 38, 40, 43, 44, 47, 49, 50, 53, 56, 59, 60]
/-- RegionStack$Body.numberParts()V -/
def cd_93 : List AI := [
  (.aload_n 0, [], 0), (.iconst 0, [], 0), (.putfield 41, [1, 8, 0], 8), (.iconst 0, [], 0), (.istore_n 1, [], 0), (.iload_n 1, [], 0),
  (.aload_n 0, [], 0), (.getfield 22, [1, 1, 2], 1), (.getfield 49, [7, 1, 0], 1), (.if_icmp .ge 52, [34], 0), (.aload_n 0, [], 0), (.getfield 12, [1, 0, 2], 0),
  (.getfield 54, [6, 1, 2], 1), (.iload_n 1, [], 0), (.invokevirtual 57, [0, 2, 3, 1], 0), (.iconst 1, [], 0), (.if_icmp .ne 7, [19], 0), (.iconst 1, [], 0),
  (.goto 4, [20], 0), (.iconst 0, [], 0), (.istore_n 2, [], 0), (.aload_n 0, [], 0), (.getfield 32, [1, 3, 2], 3), (.iload_n 1, [], 0),
  (.iload_n 2, [], 0), (.ifCond .eq 11, [30], 0), (.aload_n 0, [], 0), (.iload_n 1, [], 0), (.invokevirtual 94, [94, 2, 1, 1], 0), (.goto 5, [31], 0),
  (.bipush (-6), [], 0), (.invokevirtual 45, [1, 3, 3, 0], 0), (.iinc 1 1, [], 0), (.goto (-57), [5], 0), (.iconst 0, [], 0), (.istore_n 1, [], 0),
  (.iload_n 1, [], 0), (.aload_n 0, [], 0), (.getfield 22, [1, 1, 2], 1), (.getfield 49, [7, 1, 0], 1), (.if_icmp .ge 65, [70], 0), (.aload_n 0, [], 0),
  (.getfield 12, [1, 0, 2], 0), (.getfield 75, [6, 2, 2], 2), (.iload_n 1, [], 0), (.invokevirtual 57, [0, 2, 3, 1], 0), (.invokestatic 97, [8, 1, 0, 1], 0), (.ifCond .le 7, [50], 0),
  (.iconst 1, [], 0), (.goto 4, [51], 0), (.iconst 0, [], 0), (.istore_n 2, [], 0), (.aload_n 0, [], 0), (.getfield 35, [1, 4, 2], 4),
  (.iload_n 1, [], 0), (.iload_n 2, [], 0), (.ifCond .eq 22, [66], 0), (.aload_n 0, [], 0), (.getfield 32, [1, 3, 2], 3), (.aload_n 0, [], 0),
  (.getfield 12, [1, 0, 2], 0), (.iload_n 1, [], 0), (.iconst 0, [], 0), (.invokevirtual 78, [19, 3, 6, 1], 0), (.invokevirtual 57, [0, 2, 3, 1], 0), (.goto 5, [67], 0),
  (.bipush (-6), [], 0), (.invokevirtual 45, [1, 3, 3, 0], 0), (.iinc 1 1, [], 0), (.goto (-70), [36], 0), (.return_, [], 0)
]
def bp_93 : List Nat := [0, 1, 2, 5, 6, 7, 8, 9, 12, 15, 18, 19, 22, 25, 26, 29, 30, 33, 34, 37, 38, 39, 40, 43, 44, 45, 48, 49, 50, 53, 56, 58, 61, 64, 67, 68, 69, 70, 71, 74, 77, 80, 81, 84, 87, 88, 91, 94, 97, 98, 101, 102, 103, 104, 107, 108, 109, 112, 113, 116, 117, 120, 121, 122, 125, 128, 131, 133, 136, 139, 142, 143]
/-- RegionStack$Body.findNumber(I)I -/
def cd_94 : List AI := [
  (.aload_n 0, [], 0), (.getfield 28, [1, 2, 2], 2), (.iload_n 1, [], 0), (.invokevirtual 57, [0, 2, 3, 1], 0), (.istore_n 2, [], 0), (.iload_n 2, [], 0),
  (.aload_n 0, [], 0), (.getfield 28, [1, 2, 2], 2), (.bipush 40, [], 0), (.invokevirtual 57, [0, 2, 3, 1], 0), (.if_icmp .ne 5, [13], 0), (.iconst 0, [], 0),
  (.ireturn, [], 0), (.iload_n 2, [], 0), (.aload_n 0, [], 0), (.getfield 28, [1, 2, 2], 2), (.bipush 41, [], 0), (.invokevirtual 57, [0, 2, 3, 1], 0),
  (.if_icmp .ne 5, [21], 0), (.iconst 1, [], 0), (.ireturn, [], 0), (.iconst 0, [], 0), (.istore_n 3, [], 0), (.iload_n 3, [], 0),
  (.iload_n 1, [], 0), (.if_icmp .ge 43, [45], 0), (.aload_n 0, [], 0), (.getfield 32, [1, 3, 2], 3), (.iload_n 3, [], 0), (.invokevirtual 57, [0, 2, 3, 1], 0),
  (.bipush (-6), [], 0), (.if_icmp .eq 24, [43], 0), (.aload_n 0, [], 0), (.getfield 28, [1, 2, 2], 2), (.iload_n 3, [], 0), (.invokevirtual 57, [0, 2, 3, 1], 0),
  (.iload_n 2, [], 0), (.if_icmp .ne 12, [43], 0), (.aload_n 0, [], 0), (.getfield 32, [1, 3, 2], 3), (.iload_n 3, [], 0), (.invokevirtual 57, [0, 2, 3, 1], 0),
  (.ireturn, [], 0), (.iinc 3 1, [], 0), (.goto (-42), [23], 0), (.aload_n 0, [], 0), (.dup, [], 0), (.getfield 41, [1, 8, 0], 8),
  (.iconst 1, [], 0), (.iadd, [], 0), (.putfield 41, [1, 8, 0], 8), (.iconst 2, [], 0), (.aload_n 0, [], 0), (.getfield 41, [1, 8, 0], 8),
  (.iadd, [], 0), (.iconst 1, [], 0), (.isub, [], 0), (.ireturn, [], 0)
]
def bp_94 : List Nat := [0, 1, 4, 5, 8, 9, 10, 11, 14, 16, 19, 22, 23, 24, 25, 26, 29, 31, 34, 37, 38, 39, 40, 41, 42, 43, 46, 47, 50, 51, 54, 56, 59, 60, 63, 64, 67, 68, 71, 72, 75, 76, 79, 80, 83, 86, 87, 88, 91, 92, 93, 96, 97, 98, 101, 102, 103, 104, 105]
/-- RegionStack$Body.findEffect(LRegionStack$Program;)I -/
def cd_95 : List AI := [
  (.aload_n 0, [], 0), (.getfield 71, [1, 6, 1], 6), (.ifCond .eq 7, [5], 0), (.iconst 0, [], 0), (.goto 4, [6], 0), (.iconst 1, [], 0),
  (.istore_n 2, [], 0), (.iconst 0, [], 0), (.istore_n 3, [], 0), (.iconst 0, [], 0), (.istore 4, [], 0), (.iload 4, [], 0),
  (.aload_n 0, [], 0), (.getfield 22, [1, 1, 2], 1), (.getfield 49, [7, 1, 0], 1), (.if_icmp .ge 86, [66], 0), (.iload_n 3, [], 0), (.aload_n 0, [], 0),
  (.aload_n 1, [], 0), (.iload 4, [], 0), (.iconst 0, [], 0), (.invokevirtual 100, [99, 4, 1, 1], 0), (.ifCond .eq 7, [25], 0), (.iconst 1, [], 0),
  (.goto 4, [26], 0), (.iconst 0, [], 0), (.ior, [], 0), (.istore_n 3, [], 0), (.iload_n 3, [], 0), (.aload_n 0, [], 0),
  (.aload_n 1, [], 0), (.iload 4, [], 0), (.iconst 0, [], 0), (.invokevirtual 104, [100, 4, 1, 1], 0), (.ifCond .eq 7, [37], 0), (.iconst 2, [], 0),
  (.goto 4, [38], 0), (.iconst 0, [], 0), (.ior, [], 0), (.istore_n 3, [], 0), (.iload_n 3, [], 0), (.aload_n 0, [], 0),
  (.aload_n 1, [], 0), (.iload 4, [], 0), (.iload_n 2, [], 0), (.invokevirtual 100, [99, 4, 1, 1], 0), (.ifCond .eq 7, [49], 0), (.iconst 4, [], 0),
  (.goto 4, [50], 0), (.iconst 0, [], 0), (.ior, [], 0), (.istore_n 3, [], 0), (.iload_n 3, [], 0), (.aload_n 0, [], 0),
  (.aload_n 1, [], 0), (.iload 4, [], 0), (.iload_n 2, [], 0), (.invokevirtual 104, [100, 4, 1, 1], 0), (.ifCond .eq 8, [61], 0), (.bipush 8, [], 0),
  (.goto 4, [62], 0), (.iconst 0, [], 0), (.ior, [], 0), (.istore_n 3, [], 0), (.iinc 4 1, [], 0), (.goto (-92), [11], 0),
  (.iload_n 3, [], 0), (.ireturn, [], 0)
]
def bp_95 : List Nat := [0, 1, 4, 7, 8, 11, 12, 13, 14, 15, 16, 18, 20, 21, 24, 27, 30, 31, 32, 33, 35, 36, 39, 42, 43, 46, 47, 48, 49, 50, 51, 52, 54, 55, 58, 61, 62, 65, 66, 67, 68, 69, 70, 71, 73, 74, 77, 80, 81, 84, 85, 86, 87, 88, 89, 90, 92, 93, 96, 99, 101, 104, 105, 106, 107, 110, 113, 114, 115]
/-- RegionStack$Body.findHomes()V -/
def cd_96 : List AI := [
  (.iconst 2, [], 0), (.istore_n 1, [], 0), (.iload_n 1, [], 0), (.iconst 2, [], 0), (.aload_n 0, [], 0), (.getfield 41, [1, 8, 0], 8),
  (.iadd, [], 0), (.if_icmp .ge 69, [42], 0), (.bipush (-6), [], 0), (.istore_n 2, [], 0), (.iconst 0, [], 0), (.istore_n 3, [], 0),
  (.iload_n 3, [], 0), (.aload_n 0, [], 0), (.getfield 22, [1, 1, 2], 1), (.getfield 49, [7, 1, 0], 1), (.if_icmp .ge 38, [35], 0), (.aload_n 0, [], 0),
  (.iload_n 3, [], 0), (.iload_n 1, [], 0), (.invokevirtual 107, [98, 3, 1, 1], 0), (.ifCond .eq 23, [33], 0), (.iload_n 2, [], 0), (.bipush (-6), [], 0),
  (.if_icmp .ne 7, [27], 0), (.iload_n 3, [], 0), (.goto 12, [32], 0), (.aload_n 0, [], 0), (.getfield 12, [1, 0, 2], 0), (.iload_n 2, [], 0),
  (.iload_n 3, [], 0), (.invokevirtual 111, [132, 3, 6, 1], 0), (.istore_n 2, [], 0), (.iinc 3 1, [], 0), (.goto (-43), [12], 0), (.aload_n 0, [], 0),
  (.getfield 38, [1, 5, 2], 5), (.iload_n 1, [], 0), (.iload_n 2, [], 0), (.invokevirtual 45, [1, 3, 3, 0], 0), (.iinc 1 1, [], 0), (.goto (-73), [2], 0),
  (.return_, [], 0)
]
def bp_96 : List Nat := [0, 1, 2, 3, 4, 5, 8, 9, 12, 14, 15, 16, 17, 18, 19, 22, 25, 28, 29, 30, 31, 34, 37, 38, 40, 43, 44, 47, 48, 51, 52, 53, 56, 57, 60, 63, 64, 67, 68, 69, 72, 75, 78, 79]
/-- RegionStack$Body.countOf(LRegionStack$Program;II)I -/
def cd_97 : List AI := [
  (.iconst 0, [], 0), (.istore 4, [], 0), (.iconst 0, [], 0), (.istore 5, [], 0), (.iload 5, [], 0), (.aload_n 0, [], 0),
  (.getfield 22, [1, 1, 2], 1), (.getfield 49, [7, 1, 0], 1), (.if_icmp .ge 64, [41], 0), (.iload_n 3, [], 0), (.ifCond .ne 13, [16], 0), (.aload_n 0, [], 0),
  (.iload 5, [], 0), (.iload_n 2, [], 0), (.invokevirtual 107, [98, 3, 1, 1], 0), (.goto 27, [30], 0), (.iload_n 3, [], 0), (.iconst 1, [], 0),
  (.if_icmp .ne 14, [25], 0), (.aload_n 0, [], 0), (.aload_n 1, [], 0), (.iload 5, [], 0), (.iload_n 2, [], 0), (.invokevirtual 100, [99, 4, 1, 1], 0),
  (.goto 11, [30], 0), (.aload_n 0, [], 0), (.aload_n 1, [], 0), (.iload 5, [], 0), (.iload_n 2, [], 0), (.invokevirtual 104, [100, 4, 1, 1], 0),
  (.istore 6, [], 0), (.iload 4, [], 0), (.iload 6, [], 0), (.ifCond .eq 7, [36], 0), (.iconst 1, [], 0), (.goto 4, [37], 0),
  (.iconst 0, [], 0), (.iadd, [], 0), (.istore 4, [], 0), (.iinc 5 1, [], 0), (.goto (-70), [4], 0), (.iload 4, [], 0),
  (.ireturn, [], 0)
]
def bp_97 : List Nat := [0, 1, 3, 4, 6, 8, 9, 12, 15, 18, 19, 22, 23, 25, 26, 29, 32, 33, 34, 37, 38, 39, 41, 42, 45, 48, 49, 50, 52, 53, 56, 58, 60, 62, 65, 66, 69, 70, 71, 73, 76, 79, 81, 82]
/-- RegionStack$Body.touchesIt(II)Z -/
def cd_98 : List AI := [
  (.aload_n 0, [], 0), (.getfield 12, [1, 0, 2], 0), (.getfield 75, [6, 2, 2], 2), (.iload_n 1, [], 0), (.invokevirtual 57, [0, 2, 3, 1], 0), (.istore_n 3, [], 0),
  (.iload_n 3, [], 0), (.bipush 42, [], 0), (.if_icmp .eq 9, [12], 0), (.iload_n 3, [], 0), (.bipush 64, [], 0), (.if_icmp .ne 7, [14], 0),
  (.iconst 1, [], 0), (.goto 4, [15], 0), (.iconst 0, [], 0), (.istore 4, [], 0), (.aload_n 0, [], 0), (.getfield 32, [1, 3, 2], 3),
  (.iload_n 1, [], 0), (.invokevirtual 57, [0, 2, 3, 1], 0), (.iload_n 2, [], 0), (.if_icmp .eq 20, [30], 0), (.iload 4, [], 0), (.ifCond .eq 19, [32], 0),
  (.aload_n 0, [], 0), (.getfield 35, [1, 4, 2], 4), (.iload_n 1, [], 0), (.invokevirtual 57, [0, 2, 3, 1], 0), (.iload_n 2, [], 0), (.if_icmp .ne 7, [32], 0),
  (.iconst 1, [], 0), (.goto 4, [33], 0), (.iconst 0, [], 0), (.ireturn, [], 0)
]
def bp_98 : List Nat := [0, 1, 4, 7, 8, 11, 12, 13, 15, 18, 19, 21, 24, 25, 28, 29, 31, 32, 35, 36, 39, 40, 43, 45, 48, 49, 52, 53, 56, 57, 60, 61, 64, 65, 66]
/-- RegionStack$Body.putsInto(LRegionStack$Program;II)Z -/
def cd_99 : List AI := [
  (.aload_n 0, [], 0), (.getfield 12, [1, 0, 2], 0), (.getfield 75, [6, 2, 2], 2), (.iload_n 2, [], 0), (.invokevirtual 57, [0, 2, 3, 1], 0), (.istore 4, [], 0),
  (.iload 4, [], 0), (.bipush 110, [], 0), (.if_icmp .ne 21, [19], 0), (.aload_n 0, [], 0), (.getfield 32, [1, 3, 2], 3), (.iload_n 2, [], 0),
  (.invokevirtual 57, [0, 2, 3, 1], 0), (.iload_n 3, [], 0), (.if_icmp .ne 7, [17], 0), (.iconst 1, [], 0), (.goto 4, [18], 0), (.iconst 0, [], 0),
  (.ireturn, [], 0), (.iload 4, [], 0), (.bipush 64, [], 0), (.if_icmp .ne 19, [32], 0), (.aload_n 0, [], 0), (.aload_n 1, [], 0),
  (.iload_n 2, [], 0), (.iload_n 3, [], 0), (.iconst 1, [], 0), (.iconst 4, [], 0), (.invokevirtual 114, [101, 6, 1, 1], 0), (.ifCond .eq 7, [32], 0),
  (.iconst 1, [], 0), (.goto 4, [33], 0), (.iconst 0, [], 0), (.ireturn, [], 0)
]
def bp_99 : List Nat := [0, 1, 4, 7, 8, 11, 13, 15, 17, 20, 21, 24, 25, 28, 29, 32, 33, 36, 37, 38, 40, 42, 45, 46, 47, 48, 49, 50, 51, 54, 57, 58, 61, 62, 63]
/-- RegionStack$Body.looksInto(LRegionStack$Program;II)Z -/
def cd_100 : List AI := [
  (.aload_n 0, [], 0), (.getfield 12, [1, 0, 2], 0), (.getfield 75, [6, 2, 2], 2), (.iload_n 2, [], 0), (.invokevirtual 57, [0, 2, 3, 1], 0), (.istore 4, [], 0),
  (.iload 4, [], 0), (.bipush 42, [], 0), (.if_icmp .ne 21, [19], 0), (.aload_n 0, [], 0), (.getfield 35, [1, 4, 2], 4), (.iload_n 2, [], 0),
  (.invokevirtual 57, [0, 2, 3, 1], 0), (.iload_n 3, [], 0), (.if_icmp .ne 7, [17], 0), (.iconst 1, [], 0), (.goto 4, [18], 0), (.iconst 0, [], 0),
  (.ireturn, [], 0), (.iload 4, [], 0), (.bipush 64, [], 0), (.if_icmp .ne 20, [32], 0), (.aload_n 0, [], 0), (.aload_n 1, [], 0),
  (.iload_n 2, [], 0), (.iload_n 3, [], 0), (.iconst 2, [], 0), (.bipush 8, [], 0), (.invokevirtual 114, [101, 6, 1, 1], 0), (.ifCond .eq 7, [32], 0),
  (.iconst 1, [], 0), (.goto 4, [33], 0), (.iconst 0, [], 0), (.ireturn, [], 0)
]
def bp_100 : List Nat := [0, 1, 4, 7, 8, 11, 13, 15, 17, 20, 21, 24, 25, 28, 29, 32, 33, 36, 37, 38, 40, 42, 45, 46, 47, 48, 49, 50, 52, 55, 58, 59, 62, 63, 64]
/-- RegionStack$Body.callDoes(LRegionStack$Program;IIII)Z -/
def cd_101 : List AI := [
  (.aload_n 1, [], 0), (.aload_n 0, [], 0), (.getfield 12, [1, 0, 2], 0), (.getfield 82, [6, 3, 2], 3), (.iload_n 2, [], 0), (.invokevirtual 57, [0, 2, 3, 1], 0),
  (.invokevirtual 85, [15, 2, 2, 2], 0), (.astore 6, [], 0), (.aload 6, [], 0), (.ifnonnull 5, [12], 0), (.iconst 0, [], 0), (.ireturn, [], 0),
  (.aload 6, [], 0), (.getfield 118, [1, 7, 0], 7), (.istore 7, [], 0), (.iload 7, [], 0), (.iload 4, [], 0), (.iand, [], 0),
  (.ifCond .eq 15, [25], 0), (.aload_n 0, [], 0), (.getfield 35, [1, 4, 2], 4), (.iload_n 2, [], 0), (.invokevirtual 57, [0, 2, 3, 1], 0), (.iload_n 3, [], 0),
  (.if_icmp .eq 23, [35], 0), (.iload 7, [], 0), (.iload 5, [], 0), (.iand, [], 0), (.ifCond .eq 19, [37], 0), (.aload_n 0, [], 0),
  (.getfield 32, [1, 3, 2], 3), (.iload_n 2, [], 0), (.invokevirtual 57, [0, 2, 3, 1], 0), (.iload_n 3, [], 0), (.if_icmp .ne 7, [37], 0), (.iconst 1, [], 0),
  (.goto 4, [38], 0), (.iconst 0, [], 0), (.ireturn, [], 0)
]
def bp_101 : List Nat := [0, 1, 2, 5, 8, 9, 12, 15, 17, 19, 22, 23, 24, 26, 29, 31, 33, 35, 36, 39, 40, 43, 44, 47, 48, 51, 53, 55, 56, 59, 60, 63, 64, 67, 68, 71, 72, 75, 76, 77]
/-- RegionStack$Program.<init>()V -/
def cd_102 : List AI := [
  (.aload_n 0, [], 0), (.invokespecial 3, [], 0), (.aload_n 0, [], 0), (.iconst 3, [], 0), (.anewarray 9, [], 0), (.putfield 11, [2, 0, 2], 0),
  (.aload_n 0, [], 0), (.bipush (-6), [], 0), (.putfield 17, [2, 2, 0], 2), (.iconst 0, [], 0), (.istore_n 1, [], 0), (.iload_n 1, [], 0),
  (.aload_n 0, [], 0), (.getfield 11, [2, 0, 2], 0), (.arraylength, [], 0), (.if_icmp .ge 22, [25], 0), (.aload_n 0, [], 0), (.getfield 11, [2, 0, 2], 0),
  (.iload_n 1, [], 0), (.new 9, [], 0), (.dup, [], 0), (.invokespecial 21, [88, 1, 1, 0], 0), (.aastore, [], 0), (.iinc 1 1, [], 0),
  (.goto (-25), [11], 0), (.return_, [], 0)
]
def bp_102 : List Nat := [0, 1, 4, 5, 6, 9, 12, 13, 15, 18, 19, 20, 21, 22, 25, 26, 29, 30, 33, 34, 37, 38, 41, 42, 45, 48, 49]
/-- RegionStack$Program.kindsChanged()V -/
def cd_103 : List AI := [
  (.aload_n 0, [], 0), (.dup, [], 0), (.getfield 22, [2, 1, 0], 1), (.iconst 1, [], 0), (.iadd, [], 0), (.putfield 22, [2, 1, 0], 1),
  (.iconst 0, [], 0), (.istore_n 1, [], 0), (.iload_n 1, [], 0), (.aload_n 0, [], 0), (.getfield 11, [2, 0, 2], 0), (.arraylength, [], 0),
  (.if_icmp .ge 73, [48], 0), (.aload_n 0, [], 0), (.getfield 11, [2, 0, 2], 0), (.iload_n 1, [], 0), (.aaload, [], 0), (.getfield 25, [1, 0, 2], 0),
  (.astore_n 2, [], 0), (.iconst 0, [], 0), (.istore_n 3, [], 0), (.aload_n 2, [], 0), (.getfield 29, [6, 9, 0], 9), (.bipush (-6), [], 0),
  (.if_icmp .ne 46, [46], 0), (.iload_n 3, [], 0), (.aload_n 2, [], 0), (.getfield 34, [6, 0, 2], 0), (.getfield 38, [7, 1, 0], 1), (.if_icmp .ge 35, [46], 0),
  (.aload_n 2, [], 0), (.getfield 43, [6, 1, 2], 1), (.iload_n 3, [], 0), (.aload_n 2, [], 0), (.iload_n 3, [], 0), (.invokevirtual 47, [18, 2, 6, 1], 0),
  (.ifCond .eq 12, [42], 0), (.aload_n 0, [], 0), (.aload_n 2, [], 0), (.iload_n 3, [], 0), (.invokevirtual 51, [104, 3, 2, 1], 0), (.goto 4, [43], 0),
  (.iconst 0, [], 0), (.invokevirtual 55, [1, 3, 3, 0], 0), (.iinc 3 1, [], 0), (.goto (-49), [21], 0), (.iinc 1 1, [], 0), (.goto (-76), [8], 0),
  (.return_, [], 0)
]
def bp_103 : List Nat := [0, 1, 2, 5, 6, 7, 10, 11, 12, 13, 14, 17, 18, 21, 22, 25, 26, 27, 30, 31, 32, 33, 34, 37, 39, 42, 43, 44, 47, 50, 53, 54, 57, 58, 59, 60, 63, 66, 67, 68, 69, 72, 75, 76, 79, 82, 85, 88, 91, 92]
/-- RegionStack$Program.findKind(LRegionStack$Term;I)I -/
def cd_104 : List AI := [
  (.iload_n 2, [], 0), (.istore_n 3, [], 0), (.iconst 0, [], 0), (.istore 4, [], 0), (.iload 4, [], 0), (.bipush 40, [], 0),
  (.if_icmp .ge 144, [75], 0), (.aload_n 1, [], 0), (.getfield 34, [6, 0, 2], 0), (.getfield 61, [7, 0, 2], 0), (.iload_n 3, [], 0), (.invokevirtual 64, [0, 2, 3, 1], 0),
  (.istore 5, [], 0), (.iload 5, [], 0), (.bipush 110, [], 0), (.if_icmp .ne 5, [18], 0), (.iconst 1, [], 0), (.ireturn, [], 0),
  (.iload 5, [], 0), (.bipush 120, [], 0), (.if_icmp .ne 11, [25], 0), (.aload_n 1, [], 0), (.getfield 34, [6, 0, 2], 0), (.getfield 68, [7, 2, 0], 2),
  (.ireturn, [], 0), (.iload 5, [], 0), (.bipush 64, [], 0), (.if_icmp .ne 35, [43], 0), (.aload_n 0, [], 0), (.aload_n 1, [], 0),
  (.getfield 71, [6, 3, 2], 3), (.iload_n 3, [], 0), (.invokevirtual 64, [0, 2, 3, 1], 0), (.invokevirtual 74, [15, 2, 2, 2], 0), (.astore 6, [], 0), (.aload 6, [], 0),
  (.ifnonnull 7, [39], 0), (.iconst 0, [], 0), (.goto 11, [42], 0), (.aload 6, [], 0), (.getfield 78, [1, 1, 2], 1), (.getfield 79, [7, 3, 0], 3),
  (.ireturn, [], 0), (.aload_n 1, [], 0), (.iload_n 3, [], 0), (.invokevirtual 82, [20, 2, 6, 1], 0), (.istore 6, [], 0), (.iload 5, [], 0),
  (.bipush 63, [], 0), (.if_icmp .eq 10, [53], 0), (.iload 5, [], 0), (.bipush 108, [], 0), (.if_icmp .ne 13, [59], 0), (.aload_n 1, [], 0),
  (.iload_n 3, [], 0), (.iconst 1, [], 0), (.invokevirtual 85, [19, 3, 6, 1], 0), (.istore_n 3, [], 0), (.goto 31, [73], 0), (.iload 5, [], 0),
  (.invokestatic 89, [4, 1, 0, 1], 0), (.ifCond .eq 21, [71], 0), (.iload 6, [], 0), (.bipush (-6), [], 0), (.if_icmp .eq 14, [71], 0), (.aload_n 1, [], 0),
  (.iload 6, [], 0), (.iconst 0, [], 0), (.invokevirtual 85, [19, 3, 6, 1], 0), (.istore_n 3, [], 0), (.goto 5, [73], 0), (.iconst 0, [], 0),
  (.ireturn, [], 0), (.iinc 4 1, [], 0), (.goto (-145), [4], 0), (.iconst 0, [], 0), (.ireturn, [], 0)
]
def bp_104 : List Nat := [0, 1, 2, 3, 5, 7, 9, 12, 13, 16, 19, 20, 23, 25, 27, 29, 32, 33, 34, 36, 38, 41, 42, 45, 48, 49, 51, 53, 56, 57, 58, 61, 62, 65, 68, 70, 72, 75, 76, 79, 81, 84, 87, 88, 89, 90, 93, 95, 97, 99, 102, 104, 106, 109, 110, 111, 112, 115, 116, 119, 121, 124, 127, 129, 131, 134, 135, 137, 138, 141, 142, 145, 146, 147, 150, 153, 154, 155]
/-- RegionStack$Program.firstIll(LRegionStack$Term;)I -/
def cd_105 : List AI := [
  (.iconst 0, [], 0), (.istore_n 2, [], 0), (.iload_n 2, [], 0), (.aload_n 1, [], 0), (.getfield 34, [6, 0, 2], 0), (.getfield 38, [7, 1, 0], 1),
  (.if_icmp .ge 28, [20], 0), (.aload_n 1, [], 0), (.iload_n 2, [], 0), (.invokevirtual 47, [18, 2, 6, 1], 0), (.ifCond .eq 14, [18], 0), (.aload_n 0, [], 0),
  (.aload_n 1, [], 0), (.iload_n 2, [], 0), (.invokevirtual 92, [106, 3, 2, 1], 0), (.ifCond .eq 5, [18], 0), (.iload_n 2, [], 0), (.ireturn, [], 0),
  (.iinc 2 1, [], 0), (.goto (-33), [2], 0), (.bipush (-6), [], 0), (.ireturn, [], 0)
]
def bp_105 : List Nat := [0, 1, 2, 3, 4, 7, 10, 13, 14, 15, 18, 21, 22, 23, 24, 27, 30, 31, 32, 35, 38, 40, 41]
/-- RegionStack$Program.isIll(LRegionStack$Term;I)Z -/
def cd_106 : List AI := [
  (.iload_n 2, [], 0), (.ifCond .ne 23, [12], 0), (.aload_n 1, [], 0), (.getfield 43, [6, 1, 2], 1), (.iconst 0, [], 0), (.invokevirtual 64, [0, 2, 3, 1], 0),
  (.aload_n 1, [], 0), (.getfield 34, [6, 0, 2], 0), (.getfield 79, [7, 3, 0], 3), (.if_icmp .eq 5, [12], 0), (.iconst 1, [], 0), (.ireturn, [], 0),
  (.aload_n 1, [], 0), (.getfield 34, [6, 0, 2], 0), (.getfield 61, [7, 0, 2], 0), (.iload_n 2, [], 0), (.invokevirtual 64, [0, 2, 3, 1], 0), (.istore_n 3, [], 0),
  (.iload_n 3, [], 0), (.lookupswitch 186 #[(42, 98), (43, 74), (45, 59), (63, 114), (64, 144), (110, 59)], [92, 43, 29, 20, 53, 71, 20], 0), (.aload_n 1, [], 0), (.iload_n 2, [], 0), (.iconst 0, [], 0), (.invokevirtual 96, [21, 3, 6, 1], 0),
  (.ifCond .eq 7, [27], 0), (.iconst 1, [], 0), (.goto 4, [28], 0), (.iconst 0, [], 0), (.ireturn, [], 0), (.aload_n 1, [], 0),
  (.iload_n 2, [], 0), (.iconst 0, [], 0), (.invokevirtual 96, [21, 3, 6, 1], 0), (.ifCond .ne 12, [39], 0), (.aload_n 1, [], 0), (.iload_n 2, [], 0),
  (.iconst 1, [], 0), (.invokevirtual 96, [21, 3, 6, 1], 0), (.ifCond .eq 7, [41], 0), (.iconst 1, [], 0), (.goto 4, [42], 0), (.iconst 0, [], 0),
  (.ireturn, [], 0), (.aload_n 1, [], 0), (.iload_n 2, [], 0), (.iconst 0, [], 0), (.invokevirtual 96, [21, 3, 6, 1], 0), (.iconst 1, [], 0),
  (.if_icmp .eq 7, [51], 0), (.iconst 1, [], 0), (.goto 4, [52], 0), (.iconst 0, [], 0), (.ireturn, [], 0), (.aload_n 1, [], 0),
  (.iload_n 2, [], 0), (.iconst 0, [], 0), (.invokevirtual 96, [21, 3, 6, 1], 0), (.ifCond .ne 18, [67], 0), (.aload_n 1, [], 0), (.iload_n 2, [], 0),
  (.iconst 1, [], 0), (.invokevirtual 96, [21, 3, 6, 1], 0), (.aload_n 1, [], 0), (.iload_n 2, [], 0), (.iconst 2, [], 0), (.invokevirtual 96, [21, 3, 6, 1], 0),
  (.if_icmp .eq 7, [69], 0), (.iconst 1, [], 0), (.goto 4, [70], 0), (.iconst 0, [], 0), (.ireturn, [], 0), (.aload_n 0, [], 0),
  (.aload_n 1, [], 0), (.getfield 71, [6, 3, 2], 3), (.iload_n 2, [], 0), (.invokevirtual 64, [0, 2, 3, 1], 0), (.invokevirtual 74, [15, 2, 2, 2], 0), (.astore 4, [], 0),
  (.aload 4, [], 0), (.ifnull 20, [88], 0), (.aload_n 1, [], 0), (.iload_n 2, [], 0), (.iconst 0, [], 0), (.invokevirtual 96, [21, 3, 6, 1], 0),
  (.aload 4, [], 0), (.getfield 78, [1, 1, 2], 1), (.getfield 68, [7, 2, 0], 2), (.if_icmp .eq 7, [90], 0), (.iconst 1, [], 0), (.goto 4, [91], 0),
  (.iconst 0, [], 0), (.ireturn, [], 0), (.iload_n 3, [], 0), (.invokestatic 89, [4, 1, 0, 1], 0), (.ifCond .eq 17, [102], 0), (.aload_n 1, [], 0),
  (.iload_n 2, [], 0), (.invokevirtual 82, [20, 2, 6, 1], 0), (.bipush (-6), [], 0), (.if_icmp .ne 7, [102], 0), (.iconst 1, [], 0), (.goto 4, [103], 0),
  (.iconst 0, [], 0), (.ireturn, [], 0)
]
def bp_106 : List Nat := [0, 1, 4, 5, 8, 9, 12, 13, 16, 19, 22, 23, 24, 25, 28, 31, 32, 35, 36, 37, 96, 97, 98, 99, 102, 105, 106, 109, 110, 111, 112, 113, 114, 117, 120, 121, 122, 123, 126, 129, 130, 133, 134, 135, 136, 137, 138, 141, 142, 145, 146, 149, 150, 151, 152, 153, 154, 157, 160, 161, 162, 163, 166, 167, 168, 169, 172, 175, 176, 179, 180, 181, 182, 183, 186, 187, 190, 193, 195, 197, 200, 201, 202, 203, 206, 208, 211, 214, 217, 218, 221, 222, 223, 224, 227, 230, 231, 232, 235, 237, 240, 241, 244, 245, 246]
/-- RegionStack$Program.settle()Z -/
def cd_107 : List AI := [
  (.aload_n 0, [], 0), (.getfield 17, [2, 2, 0], 2), (.aload_n 0, [], 0), (.getfield 22, [2, 1, 0], 1), (.if_icmp .ne 8, [8], 0), (.aload_n 0, [], 0),
  (.getfield 99, [2, 3, 1], 3), (.ireturn, [], 0), (.aload_n 0, [], 0), (.aload_n 0, [], 0), (.getfield 22, [2, 1, 0], 1), (.putfield 17, [2, 2, 0], 2),
  (.aload_n 0, [], 0), (.aload_n 0, [], 0), (.invokevirtual 103, [108, 1, 2, 1], 0), (.putfield 99, [2, 3, 1], 3), (.aload_n 0, [], 0), (.getfield 99, [2, 3, 1], 3),
  (.ifCond .eq 63, [51], 0), (.aload_n 0, [], 0), (.invokevirtual 107, [109, 1, 2, 0], 0), (.iconst 0, [], 0), (.istore_n 1, [], 0), (.iload_n 1, [], 0),
  (.aload_n 0, [], 0), (.getfield 11, [2, 0, 2], 0), (.arraylength, [], 0), (.if_icmp .ge 18, [35], 0), (.aload_n 0, [], 0), (.getfield 11, [2, 0, 2], 0),
  (.iload_n 1, [], 0), (.aaload, [], 0), (.invokevirtual 110, [93, 1, 1, 0], 0), (.iinc 1 1, [], 0), (.goto (-21), [23], 0), (.aload_n 0, [], 0),
  (.invokevirtual 113, [110, 1, 2, 0], 0), (.iconst 0, [], 0), (.istore_n 1, [], 0), (.iload_n 1, [], 0), (.aload_n 0, [], 0), (.getfield 11, [2, 0, 2], 0),
  (.arraylength, [], 0), (.if_icmp .ge 18, [51], 0), (.aload_n 0, [], 0), (.getfield 11, [2, 0, 2], 0), (.iload_n 1, [], 0), (.aaload, [], 0),
  (.invokevirtual 116, [96, 1, 1, 0], 0), (.iinc 1 1, [], 0), (.goto (-21), [39], 0), (.aload_n 0, [], 0), (.getfield 99, [2, 3, 1], 3), (.ireturn, [], 0)
]
def bp_107 : List Nat := [0, 1, 4, 5, 8, 11, 12, 15, 16, 17, 18, 21, 24, 25, 26, 29, 32, 33, 36, 39, 40, 43, 44, 45, 46, 47, 50, 51, 54, 55, 58, 59, 60, 63, 66, 69, 70, 73, 74, 75, 76, 77, 80, 81, 84, 85, 88, 89, 90, 93, 96, 99, 100, 103, 104]
/-- RegionStack$Program.areAllWell()Z -/
def cd_108 : List AI := [
  (.iconst 0, [], 0), (.istore_n 1, [], 0), (.iload_n 1, [], 0), (.aload_n 0, [], 0), (.getfield 11, [2, 0, 2], 0), (.arraylength, [], 0),
  (.if_icmp .ge 40, [26], 0), (.aload_n 0, [], 0), (.getfield 11, [2, 0, 2], 0), (.iload_n 1, [], 0), (.aaload, [], 0), (.getfield 25, [1, 0, 2], 0),
  (.astore_n 2, [], 0), (.aload_n 2, [], 0), (.getfield 29, [6, 9, 0], 9), (.bipush (-6), [], 0), (.if_icmp .ne 13, [22], 0), (.aload_n 0, [], 0),
  (.aload_n 2, [], 0), (.invokevirtual 119, [105, 2, 2, 1], 0), (.bipush (-6), [], 0), (.if_icmp .eq 5, [24], 0), (.iconst 0, [], 0), (.ireturn, [], 0),
  (.iinc 1 1, [], 0), (.goto (-43), [2], 0), (.iconst 1, [], 0), (.ireturn, [], 0)
]
def bp_108 : List Nat := [0, 1, 2, 3, 4, 7, 8, 11, 12, 15, 16, 17, 20, 21, 22, 25, 27, 30, 31, 32, 35, 37, 40, 41, 42, 45, 48, 49, 50]
/-- RegionStack$Program.findPasses()V -/
def cd_109 : List AI := [
  (.iconst 0, [], 0), (.istore_n 1, [], 0), (.iload_n 1, [], 0), (.aload_n 0, [], 0), (.getfield 11, [2, 0, 2], 0), (.arraylength, [], 0),
  (.if_icmp .ge 19, [15], 0), (.aload_n 0, [], 0), (.getfield 11, [2, 0, 2], 0), (.iload_n 1, [], 0), (.aaload, [], 0), (.iconst 0, [], 0),
  (.putfield 123, [1, 6, 1], 6), (.iinc 1 1, [], 0), (.goto (-22), [2], 0), (.iconst 1, [], 0), (.istore_n 1, [], 0), (.iconst 0, [], 0),
  (.istore_n 2, [], 0), (.iload_n 2, [], 0), (.iconst 3, [], 0), (.if_icmp .gt 73, [58], 0), (.iload_n 1, [], 0), (.ifCond .eq 69, [58], 0),
  (.iconst 0, [], 0), (.istore_n 1, [], 0), (.iconst 0, [], 0), (.istore_n 3, [], 0), (.iload_n 3, [], 0), (.aload_n 0, [], 0),
  (.getfield 11, [2, 0, 2], 0), (.arraylength, [], 0), (.if_icmp .ge 50, [56], 0), (.aload_n 0, [], 0), (.getfield 11, [2, 0, 2], 0), (.iload_n 3, [], 0),
  (.aaload, [], 0), (.astore 4, [], 0), (.aload 4, [], 0), (.getfield 123, [1, 6, 1], 6), (.istore 5, [], 0), (.aload 4, [], 0),
  (.aload_n 0, [], 0), (.invokevirtual 126, [90, 2, 1, 0], 0), (.iload_n 1, [], 0), (.ifCond .ne 13, [50], 0), (.aload 4, [], 0), (.getfield 123, [1, 6, 1], 6),
  (.iload 5, [], 0), (.if_icmp .eq 7, [52], 0), (.iconst 1, [], 0), (.goto 4, [53], 0), (.iconst 0, [], 0), (.istore_n 1, [], 0),
  (.iinc 3 1, [], 0), (.goto (-53), [28], 0), (.iinc 2 1, [], 0), (.goto (-72), [19], 0), (.return_, [], 0)
]
def bp_109 : List Nat := [0, 1, 2, 3, 4, 7, 8, 11, 12, 15, 16, 17, 18, 21, 24, 27, 28, 29, 30, 31, 32, 33, 36, 37, 40, 41, 42, 43, 44, 45, 46, 49, 50, 53, 54, 57, 58, 59, 61, 63, 66, 68, 70, 71, 74, 75, 78, 80, 83, 85, 88, 89, 92, 93, 94, 97, 100, 103, 106, 107]
/-- RegionStack$Program.findEffects()V -/
def cd_110 : List AI := [
  (.iconst 0, [], 0), (.istore_n 1, [], 0), (.iload_n 1, [], 0), (.aload_n 0, [], 0), (.getfield 11, [2, 0, 2], 0), (.arraylength, [], 0),
  (.if_icmp .ge 19, [15], 0), (.aload_n 0, [], 0), (.getfield 11, [2, 0, 2], 0), (.iload_n 1, [], 0), (.aaload, [], 0), (.iconst 0, [], 0),
  (.putfield 130, [1, 7, 0], 7), (.iinc 1 1, [], 0), (.goto (-22), [2], 0), (.iconst 1, [], 0), (.istore_n 1, [], 0), (.iconst 0, [], 0),
  (.istore_n 2, [], 0), (.iload_n 2, [], 0), (.bipush 12, [], 0), (.if_icmp .gt 78, [60], 0), (.iload_n 1, [], 0), (.ifCond .eq 74, [60], 0),
  (.iconst 0, [], 0), (.istore_n 1, [], 0), (.iconst 0, [], 0), (.istore_n 3, [], 0), (.iload_n 3, [], 0), (.aload_n 0, [], 0),
  (.getfield 11, [2, 0, 2], 0), (.arraylength, [], 0), (.if_icmp .ge 55, [58], 0), (.aload_n 0, [], 0), (.getfield 11, [2, 0, 2], 0), (.iload_n 3, [], 0),
  (.aaload, [], 0), (.astore 4, [], 0), (.aload 4, [], 0), (.getfield 130, [1, 7, 0], 7), (.istore 5, [], 0), (.aload 4, [], 0),
  (.aload 4, [], 0), (.aload_n 0, [], 0), (.invokevirtual 133, [95, 2, 1, 1], 0), (.putfield 130, [1, 7, 0], 7), (.iload_n 1, [], 0), (.ifCond .ne 13, [52], 0),
  (.aload 4, [], 0), (.getfield 130, [1, 7, 0], 7), (.iload 5, [], 0), (.if_icmp .eq 7, [54], 0), (.iconst 1, [], 0), (.goto 4, [55], 0),
  (.iconst 0, [], 0), (.istore_n 1, [], 0), (.iinc 3 1, [], 0), (.goto (-58), [28], 0), (.iinc 2 1, [], 0), (.goto (-78), [19], 0),
  (.return_, [], 0)
]
def bp_110 : List Nat := [0, 1, 2, 3, 4, 7, 8, 11, 12, 15, 16, 17, 18, 21, 24, 27, 28, 29, 30, 31, 32, 34, 37, 38, 41, 42, 43, 44, 45, 46, 47, 50, 51, 54, 55, 58, 59, 60, 62, 64, 67, 69, 71, 73, 74, 77, 80, 81, 84, 86, 89, 91, 94, 95, 98, 99, 100, 103, 106, 109, 112, 113]
/-- RegionStack$Row.<init>(I)V -/
def cd_111 : List AI := [
  (.aload_n 0, [], 0), (.invokespecial 1, [], 0), (.aload_n 0, [], 0), (.iload_n 1, [], 0), (.ifCond .le 7, [7], 0), (.iload_n 1, [], 0),
  (.goto 4, [8], 0), (.iconst 0, [], 0), (.newarray .int, [], 0), (.putfield 7, [3, 0, 2], 0), (.return_, [], 0)
]
def bp_111 : List Nat := [0, 1, 4, 5, 6, 9, 10, 13, 14, 16, 19, 20]
/-- RegionStack$Runner.<init>()V -/
def cd_112 : List AI := [
  (.aload_n 0, [], 0), (.invokespecial 3, [], 0), (.aload_n 0, [], 0), (.new 9, [], 0), (.dup, [], 0), (.invokespecial 11, [102, 1, 2, 0], 0),
  (.putfield 12, [4, 0, 2], 0), (.aload_n 0, [], 0), (.new 18, [], 0), (.dup, [], 0), (.invokespecial 20, [126, 1, 5, 0], 0), (.putfield 21, [4, 1, 2], 1),
  (.aload_n 0, [], 0), (.new 25, [], 0), (.dup, [], 0), (.sipush 520, [], 0), (.invokespecial 27, [111, 2, 3, 0], 0), (.putfield 30, [4, 2, 2], 2),
  (.aload_n 0, [], 0), (.new 25, [], 0), (.dup, [], 0), (.sipush 520, [], 0), (.invokespecial 27, [111, 2, 3, 0], 0), (.putfield 34, [4, 3, 2], 3),
  (.aload_n 0, [], 0), (.new 25, [], 0), (.dup, [], 0), (.sipush 520, [], 0), (.invokespecial 27, [111, 2, 3, 0], 0), (.putfield 37, [4, 4, 2], 4),
  (.aload_n 0, [], 0), (.new 25, [], 0), (.dup, [], 0), (.sipush 520, [], 0), (.invokespecial 27, [111, 2, 3, 0], 0), (.putfield 40, [4, 5, 2], 5),
  (.aload_n 0, [], 0), (.new 25, [], 0), (.dup, [], 0), (.bipush 13, [], 0), (.invokespecial 27, [111, 2, 3, 0], 0), (.putfield 43, [4, 6, 2], 6),
  (.aload_n 0, [], 0), (.new 25, [], 0), (.dup, [], 0), (.bipush 13, [], 0), (.invokespecial 27, [111, 2, 3, 0], 0), (.putfield 46, [4, 7, 2], 7),
  (.aload_n 0, [], 0), (.new 25, [], 0), (.dup, [], 0), (.sipush 520, [], 0), (.invokespecial 27, [111, 2, 3, 0], 0), (.putfield 49, [4, 8, 2], 8),
  (.aload_n 0, [], 0), (.new 25, [], 0), (.dup, [], 0), (.sipush 546, [], 0), (.invokespecial 27, [111, 2, 3, 0], 0), (.putfield 52, [4, 9, 2], 9),
  (.aload_n 0, [], 0), (.bipush (-6), [], 0), (.putfield 55, [4, 15, 0], 15), (.return_, [], 0)
]
def bp_112 : List Nat := [0, 1, 4, 5, 8, 9, 12, 15, 16, 19, 20, 23, 26, 27, 30, 31, 34, 37, 40, 41, 44, 45, 48, 51, 54, 55, 58, 59, 62, 65, 68, 69, 72, 73, 76, 79, 82, 83, 86, 87, 89, 92, 95, 96, 99, 100, 102, 105, 108, 109, 112, 113, 116, 119, 122, 123, 126, 127, 130, 133, 136, 137, 139, 142, 143]
/-- RegionStack$Runner.tallyOf(I)I -/
def cd_113 : List AI := [
  (.iload_n 1, [], 0), (.tableswitch 93 0 6 #[43, 48, 53, 61, 69, 77, 85], [28, 2, 5, 8, 12, 16, 20, 24], 0), (.aload_n 0, [], 0), (.getfield 59, [4, 11, 0], 11), (.ireturn, [], 0), (.aload_n 0, [], 0),
  (.getfield 62, [4, 12, 0], 12), (.ireturn, [], 0), (.aload_n 0, [], 0), (.getfield 21, [4, 1, 2], 1), (.getfield 65, [5, 6, 0], 6), (.ireturn, [], 0),
  (.aload_n 0, [], 0), (.getfield 21, [4, 1, 2], 1), (.getfield 68, [5, 7, 0], 7), (.ireturn, [], 0), (.aload_n 0, [], 0), (.getfield 21, [4, 1, 2], 1),
  (.getfield 71, [5, 8, 0], 8), (.ireturn, [], 0), (.aload_n 0, [], 0), (.getfield 21, [4, 1, 2], 1), (.getfield 74, [5, 9, 0], 9), (.ireturn, [], 0),
  (.aload_n 0, [], 0), (.getfield 21, [4, 1, 2], 1), (.getfield 77, [5, 10, 0], 10), (.ireturn, [], 0), (.aload_n 0, [], 0), (.getfield 80, [4, 13, 0], 13),
  (.ireturn, [], 0)
]
def bp_113 : List Nat := [0, 1, 44, 45, 48, 49, 50, 53, 54, 55, 58, 61, 62, 63, 66, 69, 70, 71, 74, 77, 78, 79, 82, 85, 86, 87, 90, 93, 94, 95, 98, 99]
/-- RegionStack$Runner.goThrough(II)Z -/
def cd_114 : List AI := [
  (.aload_n 0, [], 0), (.getfield 55, [4, 15, 0], 15), (.aload_n 0, [], 0), (.getfield 12, [4, 0, 2], 0), (.getfield 83, [2, 1, 0], 1), (.if_icmp .ne 24, [17], 0),
  (.aload_n 0, [], 0), (.getfield 86, [4, 16, 0], 16), (.iload_n 1, [], 0), (.if_icmp .ne 16, [17], 0), (.aload_n 0, [], 0), (.getfield 89, [4, 17, 0], 17),
  (.iload_n 2, [], 0), (.if_icmp .ne 8, [17], 0), (.aload_n 0, [], 0), (.getfield 92, [4, 14, 1], 14), (.ireturn, [], 0), (.aload_n 0, [], 0),
  (.getfield 12, [4, 0, 2], 0), (.iload_n 1, [], 0), (.invokevirtual 96, [15, 2, 2, 2], 0), (.astore_n 3, [], 0), (.aload_n 3, [], 0), (.ifnonnull 5, [26], 0),
  (.iconst 0, [], 0), (.ireturn, [], 0), (.aload_n 0, [], 0), (.aload_n 3, [], 0), (.iload_n 1, [], 0), (.iload_n 2, [], 0),
  (.invokevirtual 100, [115, 4, 4, 0], 0), (.iconst 0, [], 0), (.istore 4, [], 0), (.iload 4, [], 0), (.sipush 9003, [], 0), (.if_icmp .ge 27, [46], 0),
  (.aload_n 0, [], 0), (.getfield 104, [4, 10, 0], 10), (.ifCond .le 20, [46], 0), (.aload_n 0, [], 0), (.getfield 92, [4, 14, 1], 14), (.ifCond .eq 13, [46], 0),
  (.aload_n 0, [], 0), (.invokevirtual 107, [119, 1, 4, 0], 0), (.iinc 4 1, [], 0), (.goto (-29), [33], 0), (.aload_n 0, [], 0), (.aload_n 0, [], 0),
  (.getfield 92, [4, 14, 1], 14), (.ifCond .eq 14, [55], 0), (.aload_n 0, [], 0), (.getfield 104, [4, 10, 0], 10), (.ifCond .ne 7, [55], 0), (.iconst 1, [], 0),
  (.goto 4, [56], 0), (.iconst 0, [], 0), (.putfield 92, [4, 14, 1], 14), (.aload_n 3, [], 0), (.getfield 110, [1, 1, 2], 1), (.getfield 116, [7, 3, 0], 3),
  (.iconst 1, [], 0), (.if_icmp .ne 18, [69], 0), (.aload_n 0, [], 0), (.aload_n 0, [], 0), (.getfield 21, [4, 1, 2], 1), (.aload_n 0, [], 0),
  (.getfield 59, [4, 11, 0], 11), (.invokevirtual 121, [22, 2, 5, 1], 0), (.putfield 59, [4, 11, 0], 11), (.aload_n 0, [], 0), (.aload_n 0, [], 0), (.getfield 12, [4, 0, 2], 0),
  (.getfield 83, [2, 1, 0], 1), (.putfield 55, [4, 15, 0], 15), (.aload_n 0, [], 0), (.iload_n 1, [], 0), (.putfield 86, [4, 16, 0], 16), (.aload_n 0, [], 0),
  (.iload_n 2, [], 0), (.putfield 89, [4, 17, 0], 17), (.aload_n 0, [], 0), (.getfield 92, [4, 14, 1], 14), (.ireturn, [], 0)
]
def bp_114 : List Nat := [0, 1, 4, 5, 8, 11, 14, 15, 18, 19, 22, 23, 26, 27, 30, 31, 34, 35, 36, 39, 40, 43, 44, 45, 48, 49, 50, 51, 52, 53, 54, 57, 58, 60, 62, 65, 68, 69, 72, 75, 76, 79, 82, 83, 86, 89, 92, 93, 94, 97, 100, 101, 104, 107, 108, 111, 112, 115, 116, 119, 122, 123, 126, 127, 128, 131, 132, 135, 138, 141, 142, 143, 146, 149, 152, 153, 154, 157, 158, 159, 162, 163, 166, 167]
/-- RegionStack$Runner.begin(LRegionStack$Body;II)V -/
def cd_115 : List AI := [
  (.aload_n 0, [], 0), (.getfield 21, [4, 1, 2], 1), (.invokevirtual 125, [127, 1, 5, 0], 0), (.aload_n 0, [], 0), (.iconst 0, [], 0), (.putfield 104, [4, 10, 0], 10),
  (.aload_n 0, [], 0), (.iconst 0, [], 0), (.putfield 59, [4, 11, 0], 11), (.aload_n 0, [], 0), (.iconst 0, [], 0), (.putfield 62, [4, 12, 0], 12),
  (.aload_n 0, [], 0), (.iconst 0, [], 0), (.putfield 80, [4, 13, 0], 13), (.aload_n 0, [], 0), (.iconst 1, [], 0), (.putfield 92, [4, 14, 1], 14),
  (.aload_n 0, [], 0), (.getfield 43, [4, 6, 2], 6), (.iconst 0, [], 0), (.iload_n 2, [], 0), (.invokevirtual 128, [1, 3, 3, 0], 0), (.aload_n 0, [], 0),
  (.getfield 46, [4, 7, 2], 7), (.iconst 0, [], 0), (.iload_n 3, [], 0), (.invokevirtual 128, [1, 3, 3, 0], 0), (.aload_n 1, [], 0), (.getfield 110, [1, 1, 2], 1),
  (.getfield 132, [7, 2, 0], 2), (.iconst 1, [], 0), (.if_icmp .ne 38, [51], 0), (.aload_n 0, [], 0), (.getfield 21, [4, 1, 2], 1), (.invokevirtual 135, [128, 1, 5, 1], 0),
  (.istore 4, [], 0), (.aload_n 0, [], 0), (.iconst 0, [], 0), (.iconst 0, [], 0), (.iload 4, [], 0), (.invokevirtual 139, [116, 4, 4, 0], 0),
  (.aload_n 0, [], 0), (.getfield 46, [4, 7, 2], 7), (.iconst 0, [], 0), (.aload_n 0, [], 0), (.getfield 21, [4, 1, 2], 1), (.iload 4, [], 0),
  (.iload_n 3, [], 0), (.invokevirtual 143, [130, 3, 5, 1], 0), (.invokevirtual 128, [1, 3, 3, 0], 0), (.aload_n 1, [], 0), (.getfield 110, [1, 1, 2], 1), (.getfield 116, [7, 3, 0], 3),
  (.iconst 1, [], 0), (.if_icmp .ne 23, [66], 0), (.aload_n 1, [], 0), (.getfield 147, [1, 6, 1], 6), (.ifCond .ne 16, [66], 0), (.aload_n 0, [], 0),
  (.iconst 0, [], 0), (.iconst 1, [], 0), (.aload_n 0, [], 0), (.getfield 21, [4, 1, 2], 1), (.invokevirtual 135, [128, 1, 5, 1], 0), (.invokevirtual 139, [116, 4, 4, 0], 0),
  (.aload_n 0, [], 0), (.iconst 0, [], 0), (.iconst 0, [], 0), (.invokevirtual 150, [118, 3, 4, 0], 0), (.return_, [], 0)
]
def bp_115 : List Nat := [0, 1, 4, 7, 8, 9, 12, 13, 14, 17, 18, 19, 22, 23, 24, 27, 28, 29, 32, 33, 36, 37, 38, 41, 42, 45, 46, 47, 50, 51, 54, 57, 58, 61, 62, 65, 68, 70, 71, 72, 73, 75, 78, 79, 82, 83, 84, 87, 89, 90, 93, 96, 97, 100, 103, 104, 107, 108, 111, 114, 115, 116, 117, 118, 121, 124, 127, 128, 129, 130, 133, 134]
/-- RegionStack$Runner.setRegion(III)V -/
def cd_116 : List AI := [
  (.iload_n 2, [], 0), (.ifCond .lt 17, [11], 0), (.aload_n 0, [], 0), (.getfield 52, [4, 9, 2], 9), (.iload_n 1, [], 0), (.bipush 42, [], 0),
  (.imul, [], 0), (.iload_n 2, [], 0), (.iadd, [], 0), (.iload_n 3, [], 0), (.invokevirtual 128, [1, 3, 3, 0], 0), (.return_, [], 0)
]
def bp_116 : List Nat := [0, 1, 4, 5, 8, 9, 11, 12, 13, 14, 15, 18, 19]
/-- RegionStack$Runner.regionFor(II)I -/
def cd_117 : List AI := [
  (.iload_n 2, [], 0), (.ifCond .lt 19, [11], 0), (.aload_n 0, [], 0), (.getfield 52, [4, 9, 2], 9), (.iload_n 1, [], 0), (.bipush 42, [], 0),
  (.imul, [], 0), (.iload_n 2, [], 0), (.iadd, [], 0), (.invokevirtual 153, [0, 2, 3, 1], 0), (.goto 5, [12], 0), (.bipush (-6), [], 0),
  (.ireturn, [], 0)
]
def bp_117 : List Nat := [0, 1, 4, 5, 8, 9, 11, 12, 13, 14, 17, 20, 22, 23]
/-- RegionStack$Runner.push(II)V -/
def cd_118 : List AI := [
  (.aload_n 0, [], 0), (.getfield 37, [4, 4, 2], 4), (.aload_n 0, [], 0), (.getfield 104, [4, 10, 0], 10), (.iload_n 1, [], 0), (.invokevirtual 128, [1, 3, 3, 0], 0),
  (.aload_n 0, [], 0), (.getfield 30, [4, 2, 2], 2), (.aload_n 0, [], 0), (.getfield 104, [4, 10, 0], 10), (.iload_n 2, [], 0), (.invokevirtual 128, [1, 3, 3, 0], 0),
  (.aload_n 0, [], 0), (.getfield 34, [4, 3, 2], 3), (.aload_n 0, [], 0), (.getfield 104, [4, 10, 0], 10), (.iconst 0, [], 0), (.invokevirtual 128, [1, 3, 3, 0], 0),
  (.aload_n 0, [], 0), (.dup, [], 0), (.getfield 104, [4, 10, 0], 10), (.iconst 1, [], 0), (.iadd, [], 0), (.putfield 104, [4, 10, 0], 10),
  (.return_, [], 0)
]
def bp_118 : List Nat := [0, 1, 4, 5, 8, 9, 12, 13, 16, 17, 20, 21, 24, 25, 28, 29, 32, 33, 36, 37, 38, 41, 42, 43, 46, 47]
/-- RegionStack$Runner.takeTurn()V -/
def cd_119 : List AI := [
  (.aload_n 0, [], 0), (.getfield 104, [4, 10, 0], 10), (.iconst 1, [], 0), (.isub, [], 0), (.istore_n 1, [], 0), (.aload_n 0, [], 0),
  (.getfield 37, [4, 4, 2], 4), (.iload_n 1, [], 0), (.invokevirtual 153, [0, 2, 3, 1], 0), (.istore_n 2, [], 0), (.aload_n 0, [], 0), (.getfield 30, [4, 2, 2], 2),
  (.iload_n 1, [], 0), (.invokevirtual 153, [0, 2, 3, 1], 0), (.istore_n 3, [], 0), (.aload_n 0, [], 0), (.getfield 34, [4, 3, 2], 3), (.iload_n 1, [], 0),
  (.invokevirtual 153, [0, 2, 3, 1], 0), (.istore 4, [], 0), (.aload_n 0, [], 0), (.getfield 12, [4, 0, 2], 0), (.aload_n 0, [], 0), (.getfield 43, [4, 6, 2], 6),
  (.iload_n 2, [], 0), (.invokevirtual 153, [0, 2, 3, 1], 0), (.invokevirtual 96, [15, 2, 2, 2], 0), (.astore 5, [], 0), (.aload 5, [], 0), (.ifnonnull 9, [34], 0),
  (.aload_n 0, [], 0), (.iconst 0, [], 0), (.putfield 92, [4, 14, 1], 14), (.return_, [], 0), (.aload_n 0, [], 0), (.getfield 34, [4, 3, 2], 3),
  (.iload_n 1, [], 0), (.iload 4, [], 0), (.iconst 1, [], 0), (.iadd, [], 0), (.invokevirtual 128, [1, 3, 3, 0], 0), (.iload 4, [], 0),
  (.ifCond .ne 14, [49], 0), (.aload_n 0, [], 0), (.aload 5, [], 0), (.iload_n 2, [], 0), (.iload_n 3, [], 0), (.invokevirtual 156, [120, 4, 4, 0], 0),
  (.goto 65, [80], 0), (.iload 4, [], 0), (.iconst 1, [], 0), (.if_icmp .ne 14, [58], 0), (.aload_n 0, [], 0), (.aload 5, [], 0),
  (.iload_n 2, [], 0), (.iload_n 3, [], 0), (.invokevirtual 159, [123, 4, 4, 0], 0), (.goto 48, [80], 0), (.aload 5, [], 0), (.getfield 110, [1, 1, 2], 1),
  (.getfield 162, [7, 0, 2], 0), (.iload_n 3, [], 0), (.invokevirtual 153, [0, 2, 3, 1], 0), (.bipush 43, [], 0), (.if_icmp .ne 24, [76], 0), (.aload_n 0, [], 0),
  (.aload_n 0, [], 0), (.getfield 40, [4, 5, 2], 5), (.iload_n 1, [], 0), (.invokevirtual 153, [0, 2, 3, 1], 0), (.aload_n 0, [], 0), (.getfield 59, [4, 11, 0], 11),
  (.iadd, [], 0), (.sipush 1000, [], 0), (.irem, [], 0), (.putfield 59, [4, 11, 0], 11), (.aload_n 0, [], 0), (.aload 5, [], 0),
  (.iload_n 3, [], 0), (.invokevirtual 165, [122, 3, 4, 0], 0), (.return_, [], 0)
]
def bp_119 : List Nat := [0, 1, 4, 5, 6, 7, 8, 11, 12, 15, 16, 17, 20, 21, 24, 25, 26, 29, 30, 33, 35, 36, 39, 40, 43, 44, 47, 50, 52, 54, 57, 58, 59, 62, 63, 64, 67, 68, 70, 71, 72, 75, 77, 80, 81, 83, 84, 85, 88, 91, 93, 94, 97, 98, 100, 101, 102, 105, 108, 110, 113, 116, 117, 120, 122, 125, 126, 127, 130, 131, 134, 135, 138, 139, 142, 143, 146, 147, 149, 150, 153, 154]
/-- RegionStack$Runner.enter(LRegionStack$Body;II)V -/
def cd_120 : List AI := [
  (.aload_n 0, [], 0), (.dup, [], 0), (.getfield 62, [4, 12, 0], 12), (.iconst 1, [], 0), (.iadd, [], 0), (.putfield 62, [4, 12, 0], 12),
  (.aload_n 0, [], 0), (.getfield 62, [4, 12, 0], 12), (.sipush 3000, [], 0), (.if_icmp .le 9, [14], 0), (.aload_n 0, [], 0), (.iconst 0, [], 0),
  (.putfield 92, [4, 14, 1], 14), (.return_, [], 0), (.iconst 2, [], 0), (.istore 4, [], 0), (.iload 4, [], 0), (.iconst 2, [], 0),
  (.aload_n 1, [], 0), (.getfield 169, [1, 8, 0], 8), (.iadd, [], 0), (.if_icmp .ge 36, [37], 0), (.aload_n 1, [], 0), (.getfield 172, [1, 5, 2], 5),
  (.iload 4, [], 0), (.invokevirtual 153, [0, 2, 3, 1], 0), (.iload_n 3, [], 0), (.if_icmp .ne 17, [35], 0), (.aload_n 0, [], 0), (.iload_n 2, [], 0),
  (.iload 4, [], 0), (.aload_n 0, [], 0), (.getfield 21, [4, 1, 2], 1), (.invokevirtual 135, [128, 1, 5, 1], 0), (.invokevirtual 139, [116, 4, 4, 0], 0), (.iinc 4 1, [], 0),
  (.goto (-41), [16], 0), (.aload_n 1, [], 0), (.getfield 110, [1, 1, 2], 1), (.getfield 162, [7, 0, 2], 0), (.iload_n 3, [], 0), (.invokevirtual 153, [0, 2, 3, 1], 0),
  (.invokestatic 175, [8, 1, 0, 1], 0), (.ifCond .le 20, [53], 0), (.aload_n 0, [], 0), (.iload_n 2, [], 0), (.aload_n 1, [], 0), (.getfield 178, [1, 0, 2], 0),
  (.iload_n 3, [], 0), (.iconst 0, [], 0), (.invokevirtual 182, [19, 3, 6, 1], 0), (.invokevirtual 150, [118, 3, 4, 0], 0), (.goto 23, [65], 0), (.aload_n 0, [], 0),
  (.aload_n 0, [], 0), (.aload_n 1, [], 0), (.getfield 178, [1, 0, 2], 0), (.iload_n 2, [], 0), (.iload_n 3, [], 0), (.invokevirtual 187, [121, 4, 4, 1], 0),
  (.putfield 59, [4, 11, 0], 11), (.aload_n 0, [], 0), (.aload_n 1, [], 0), (.iload_n 3, [], 0), (.invokevirtual 165, [122, 3, 4, 0], 0), (.return_, [], 0)
]
def bp_120 : List Nat := [0, 1, 2, 5, 6, 7, 10, 11, 14, 17, 20, 21, 22, 25, 26, 27, 29, 31, 32, 33, 36, 37, 40, 41, 44, 46, 49, 50, 53, 54, 55, 57, 58, 61, 64, 67, 70, 73, 74, 77, 80, 81, 84, 87, 90, 91, 92, 93, 96, 97, 98, 101, 104, 107, 108, 109, 110, 113, 114, 115, 118, 121, 122, 123, 124, 127, 128]
/-- RegionStack$Runner.valueOf(LRegionStack$Term;II)I -/
def cd_121 : List AI := [
  (.aload_n 1, [], 0), (.getfield 191, [6, 0, 2], 0), (.getfield 162, [7, 0, 2], 0), (.iload_n 3, [], 0), (.invokevirtual 153, [0, 2, 3, 1], 0), (.istore 4, [], 0),
  (.iload 4, [], 0), (.bipush 120, [], 0), (.if_icmp .ne 12, [14], 0), (.aload_n 0, [], 0), (.getfield 46, [4, 7, 2], 7), (.iload_n 2, [], 0),
  (.invokevirtual 153, [0, 2, 3, 1], 0), (.ireturn, [], 0), (.iload 4, [], 0), (.invokestatic 192, [4, 1, 0, 1], 0), (.ifCond .eq 21, [28], 0), (.aload_n 0, [], 0),
  (.getfield 49, [4, 8, 2], 8), (.iload_n 2, [], 0), (.bipush 40, [], 0), (.imul, [], 0), (.aload_n 1, [], 0), (.iload_n 3, [], 0),
  (.invokevirtual 196, [20, 2, 6, 1], 0), (.iadd, [], 0), (.invokevirtual 153, [0, 2, 3, 1], 0), (.ireturn, [], 0), (.iload 4, [], 0), (.bipush 48, [], 0),
  (.isub, [], 0), (.ireturn, [], 0)
]
def bp_121 : List Nat := [0, 1, 4, 7, 8, 11, 13, 15, 17, 20, 21, 24, 25, 28, 29, 31, 34, 37, 38, 41, 42, 44, 45, 46, 47, 50, 51, 54, 55, 57, 59, 60, 61]
/-- RegionStack$Runner.leave(LRegionStack$Body;I)V -/
def cd_122 : List AI := [
  (.iconst 2, [], 0), (.istore_n 3, [], 0), (.iload_n 3, [], 0), (.iconst 2, [], 0), (.aload_n 1, [], 0), (.getfield 169, [1, 8, 0], 8),
  (.iadd, [], 0), (.if_icmp .ge 28, [19], 0), (.aload_n 1, [], 0), (.getfield 172, [1, 5, 2], 5), (.iload_n 3, [], 0), (.invokevirtual 153, [0, 2, 3, 1], 0),
  (.iload_n 2, [], 0), (.if_icmp .ne 10, [17], 0), (.aload_n 0, [], 0), (.getfield 21, [4, 1, 2], 1), (.invokevirtual 199, [129, 1, 5, 0], 0), (.iinc 3 1, [], 0),
  (.goto (-32), [2], 0), (.aload_n 0, [], 0), (.dup, [], 0), (.getfield 104, [4, 10, 0], 10), (.iconst 1, [], 0), (.isub, [], 0),
  (.putfield 104, [4, 10, 0], 10), (.return_, [], 0)
]
def bp_122 : List Nat := [0, 1, 2, 3, 4, 5, 8, 9, 12, 13, 16, 17, 20, 21, 24, 25, 28, 31, 34, 37, 38, 39, 42, 43, 44, 47, 48]
/-- RegionStack$Runner.goOn(LRegionStack$Body;II)V -/
def cd_123 : List AI := [
  (.aload_n 1, [], 0), (.getfield 110, [1, 1, 2], 1), (.getfield 162, [7, 0, 2], 0), (.iload_n 3, [], 0), (.invokevirtual 153, [0, 2, 3, 1], 0), (.lookupswitch 226 #[(42, 83), (43, 130), (45, 107), (63, 164), (108, 192), (110, 57)], [96, 20, 45, 32, 63, 77, 6], 0),
  (.aload_n 0, [], 0), (.aload_n 0, [], 0), (.iload_n 2, [], 0), (.aload_n 1, [], 0), (.getfield 202, [1, 3, 2], 3), (.iload_n 3, [], 0),
  (.invokevirtual 153, [0, 2, 3, 1], 0), (.invokevirtual 205, [117, 3, 4, 1], 0), (.invokevirtual 208, [124, 2, 4, 0], 0), (.aload_n 0, [], 0), (.aload_n 1, [], 0), (.iload_n 3, [], 0),
  (.invokevirtual 165, [122, 3, 4, 0], 0), (.goto 153, [101], 0), (.aload_n 0, [], 0), (.aload_n 0, [], 0), (.getfield 21, [4, 1, 2], 1), (.aload_n 0, [], 0),
  (.getfield 59, [4, 11, 0], 11), (.invokevirtual 121, [22, 2, 5, 1], 0), (.putfield 59, [4, 11, 0], 11), (.aload_n 0, [], 0), (.aload_n 1, [], 0), (.iload_n 3, [], 0),
  (.invokevirtual 165, [122, 3, 4, 0], 0), (.goto 129, [101], 0), (.aload_n 0, [], 0), (.iconst 0, [], 0), (.aload_n 0, [], 0), (.getfield 59, [4, 11, 0], 11),
  (.iconst 1, [], 0), (.isub, [], 0), (.invokestatic 211, [0], 0), (.putfield 59, [4, 11, 0], 11), (.aload_n 0, [], 0), (.aload_n 1, [], 0),
  (.iload_n 3, [], 0), (.invokevirtual 165, [122, 3, 4, 0], 0), (.goto 106, [101], 0), (.aload_n 0, [], 0), (.getfield 40, [4, 5, 2], 5), (.aload_n 0, [], 0),
  (.getfield 104, [4, 10, 0], 10), (.iconst 1, [], 0), (.isub, [], 0), (.aload_n 0, [], 0), (.getfield 59, [4, 11, 0], 11), (.invokevirtual 128, [1, 3, 3, 0], 0),
  (.aload_n 0, [], 0), (.iload_n 2, [], 0), (.aload_n 1, [], 0), (.getfield 178, [1, 0, 2], 0), (.iload_n 3, [], 0), (.iconst 1, [], 0),
  (.invokevirtual 182, [19, 3, 6, 1], 0), (.invokevirtual 150, [118, 3, 4, 0], 0), (.goto 72, [101], 0), (.aload_n 0, [], 0), (.iload_n 2, [], 0), (.aload_n 1, [], 0),
  (.getfield 178, [1, 0, 2], 0), (.iload_n 3, [], 0), (.aload_n 0, [], 0), (.getfield 59, [4, 11, 0], 11), (.ifCond .eq 7, [73], 0), (.iconst 1, [], 0),
  (.goto 4, [74], 0), (.iconst 2, [], 0), (.invokevirtual 182, [19, 3, 6, 1], 0), (.invokevirtual 150, [118, 3, 4, 0], 0), (.goto 44, [101], 0), (.aload_n 0, [], 0),
  (.getfield 49, [4, 8, 2], 8), (.iload_n 2, [], 0), (.bipush 40, [], 0), (.imul, [], 0), (.iload_n 3, [], 0), (.iadd, [], 0),
  (.aload_n 0, [], 0), (.getfield 59, [4, 11, 0], 11), (.invokevirtual 128, [1, 3, 3, 0], 0), (.aload_n 0, [], 0), (.iload_n 2, [], 0), (.aload_n 1, [], 0),
  (.getfield 178, [1, 0, 2], 0), (.iload_n 3, [], 0), (.iconst 1, [], 0), (.invokevirtual 182, [19, 3, 6, 1], 0), (.invokevirtual 150, [118, 3, 4, 0], 0), (.goto 10, [101], 0),
  (.aload_n 0, [], 0), (.aload_n 1, [], 0), (.iload_n 2, [], 0), (.iload_n 3, [], 0), (.invokevirtual 216, [125, 4, 4, 0], 0), (.return_, [], 0)
]
def bp_123 : List Nat := [0, 1, 4, 7, 8, 11, 68, 69, 70, 71, 72, 75, 76, 79, 82, 85, 86, 87, 88, 91, 94, 95, 96, 99, 100, 103, 106, 109, 110, 111, 112, 115, 118, 119, 120, 121, 124, 125, 126, 129, 132, 133, 134, 135, 138, 141, 142, 145, 146, 149, 150, 151, 152, 155, 158, 159, 160, 161, 164, 165, 166, 169, 172, 175, 176, 177, 178, 181, 182, 183, 186, 189, 190, 193, 194, 197, 200, 203, 204, 207, 208, 210, 211, 212, 213, 214, 217, 220, 221, 222, 223, 226, 227, 228, 231, 234, 237, 238, 239, 240, 241, 244, 245]
/-- RegionStack$Runner.makeBox(I)V -/
def cd_124 : List AI := [
  (.aload_n 0, [], 0), (.getfield 21, [4, 1, 2], 1), (.getfield 65, [5, 6, 0], 6), (.sipush 300, [], 0), (.if_icmp .lt 11, [9], 0), (.aload_n 0, [], 0),
  (.iconst 0, [], 0), (.putfield 92, [4, 14, 1], 14), (.goto 19, [17], 0), (.aload_n 0, [], 0), (.aload_n 0, [], 0), (.getfield 21, [4, 1, 2], 1),
  (.iload_n 1, [], 0), (.aload_n 0, [], 0), (.getfield 59, [4, 11, 0], 11), (.invokevirtual 143, [130, 3, 5, 1], 0), (.putfield 59, [4, 11, 0], 11), (.return_, [], 0)
]
def bp_124 : List Nat := [0, 1, 4, 7, 10, 13, 14, 15, 18, 21, 22, 23, 26, 27, 28, 31, 34, 37, 38]
/-- RegionStack$Runner.callBody(LRegionStack$Body;II)V -/
def cd_125 : List AI := [
  (.iload_n 2, [], 0), (.iconst 1, [], 0), (.iadd, [], 0), (.istore 4, [], 0), (.iload 4, [], 0), (.bipush 12, [], 0),
  (.if_icmp .le 9, [11], 0), (.aload_n 0, [], 0), (.iconst 0, [], 0), (.putfield 92, [4, 14, 1], 14), (.return_, [], 0), (.aload_n 0, [], 0),
  (.dup, [], 0), (.getfield 80, [4, 13, 0], 13), (.iconst 1, [], 0), (.iadd, [], 0), (.putfield 80, [4, 13, 0], 13), (.aload_n 0, [], 0),
  (.iload 4, [], 0), (.iconst 0, [], 0), (.aload_n 0, [], 0), (.iload_n 2, [], 0), (.aload_n 1, [], 0), (.getfield 219, [1, 4, 2], 4),
  (.iload_n 3, [], 0), (.invokevirtual 153, [0, 2, 3, 1], 0), (.invokevirtual 205, [117, 3, 4, 1], 0), (.invokevirtual 139, [116, 4, 4, 0], 0), (.aload_n 0, [], 0), (.iload 4, [], 0),
  (.iconst 1, [], 0), (.aload_n 0, [], 0), (.iload_n 2, [], 0), (.aload_n 1, [], 0), (.getfield 202, [1, 3, 2], 3), (.iload_n 3, [], 0),
  (.invokevirtual 153, [0, 2, 3, 1], 0), (.invokevirtual 205, [117, 3, 4, 1], 0), (.invokevirtual 139, [116, 4, 4, 0], 0), (.aload_n 0, [], 0), (.getfield 43, [4, 6, 2], 6), (.iload 4, [], 0),
  (.aload_n 1, [], 0), (.getfield 178, [1, 0, 2], 0), (.getfield 222, [6, 3, 2], 3), (.iload_n 3, [], 0), (.invokevirtual 153, [0, 2, 3, 1], 0), (.invokevirtual 128, [1, 3, 3, 0], 0),
  (.aload_n 0, [], 0), (.getfield 46, [4, 7, 2], 7), (.iload 4, [], 0), (.aload_n 0, [], 0), (.getfield 59, [4, 11, 0], 11), (.invokevirtual 128, [1, 3, 3, 0], 0),
  (.aload_n 0, [], 0), (.iload 4, [], 0), (.iconst 0, [], 0), (.invokevirtual 150, [118, 3, 4, 0], 0), (.return_, [], 0)
]
def bp_125 : List Nat := [0, 1, 2, 3, 5, 7, 9, 12, 13, 14, 17, 18, 19, 20, 23, 24, 25, 28, 29, 31, 32, 33, 34, 35, 38, 39, 42, 45, 48, 49, 51, 52, 53, 54, 55, 58, 59, 62, 65, 68, 69, 72, 74, 75, 78, 81, 82, 85, 88, 89, 92, 94, 95, 98, 101, 102, 104, 105, 108, 109]
/-- RegionStack$Store.<init>()V -/
def cd_126 : List AI := [
  (.aload_n 0, [], 0), (.invokespecial 3, [], 0), (.aload_n 0, [], 0), (.new 9, [], 0), (.dup, [], 0), (.sipush 300, [], 0),
  (.invokespecial 11, [111, 2, 3, 0], 0), (.putfield 14, [5, 0, 2], 0), (.aload_n 0, [], 0), (.new 9, [], 0), (.dup, [], 0), (.sipush 546, [], 0),
  (.invokespecial 11, [111, 2, 3, 0], 0), (.putfield 20, [5, 1, 2], 1), (.aload_n 0, [], 0), (.new 9, [], 0), (.dup, [], 0), (.sipush 546, [], 0),
  (.invokespecial 11, [111, 2, 3, 0], 0), (.putfield 23, [5, 2, 2], 2), (.return_, [], 0)
]
def bp_126 : List Nat := [0, 1, 4, 5, 8, 9, 12, 15, 18, 19, 22, 23, 26, 29, 32, 33, 36, 37, 40, 43, 46, 47]
/-- RegionStack$Store.clear()V -/
def cd_127 : List AI := [
  (.aload_n 0, [], 0), (.iconst 0, [], 0), (.putfield 26, [5, 3, 0], 3), (.aload_n 0, [], 0), (.iconst 0, [], 0), (.putfield 30, [5, 4, 0], 4),
  (.aload_n 0, [], 0), (.iconst 0, [], 0), (.putfield 33, [5, 5, 0], 5), (.aload_n 0, [], 0), (.iconst 0, [], 0), (.putfield 36, [5, 6, 0], 6),
  (.aload_n 0, [], 0), (.iconst 0, [], 0), (.putfield 39, [5, 7, 0], 7), (.aload_n 0, [], 0), (.iconst 0, [], 0), (.putfield 42, [5, 8, 0], 8),
  (.aload_n 0, [], 0), (.iconst 0, [], 0), (.putfield 45, [5, 9, 0], 9), (.aload_n 0, [], 0), (.iconst 0, [], 0), (.putfield 48, [5, 10, 0], 10),
  (.aload_n 0, [], 0), (.iconst 0, [], 0), (.putfield 51, [5, 11, 0], 11), (.aload_n 0, [], 0), (.iconst 0, [], 0), (.putfield 54, [5, 12, 0], 12),
  (.return_, [], 0)
]
def bp_127 : List Nat := [0, 1, 2, 5, 6, 7, 10, 11, 12, 15, 16, 17, 20, 21, 22, 25, 26, 27, 30, 31, 32, 35, 36, 37, 40, 41, 42, 45, 46, 47, 50, 51]
/-- RegionStack$Store.openRegion()I -/
def cd_128 : List AI := [
  (.aload_n 0, [], 0), (.getfield 26, [5, 3, 0], 3), (.istore_n 1, [], 0), (.aload_n 0, [], 0), (.getfield 20, [5, 1, 2], 1), (.iload_n 1, [], 0),
  (.iconst 0, [], 0), (.invokevirtual 57, [1, 3, 3, 0], 0), (.aload_n 0, [], 0), (.getfield 23, [5, 2, 2], 2), (.iload_n 1, [], 0), (.iconst 1, [], 0),
  (.invokevirtual 57, [1, 3, 3, 0], 0), (.aload_n 0, [], 0), (.dup, [], 0), (.getfield 26, [5, 3, 0], 3), (.iconst 1, [], 0), (.iadd, [], 0),
  (.putfield 26, [5, 3, 0], 3), (.aload_n 0, [], 0), (.dup, [], 0), (.getfield 45, [5, 9, 0], 9), (.iconst 1, [], 0), (.iadd, [], 0),
  (.putfield 45, [5, 9, 0], 9), (.aload_n 0, [], 0), (.aload_n 0, [], 0), (.getfield 42, [5, 8, 0], 8), (.aload_n 0, [], 0), (.getfield 26, [5, 3, 0], 3),
  (.invokestatic 61, [0], 0), (.putfield 42, [5, 8, 0], 8), (.iload_n 1, [], 0), (.ireturn, [], 0)
]
def bp_128 : List Nat := [0, 1, 4, 5, 6, 9, 10, 11, 14, 15, 18, 19, 20, 23, 24, 25, 28, 29, 30, 33, 34, 35, 38, 39, 40, 43, 44, 45, 48, 49, 52, 55, 58, 59, 60]
/-- RegionStack$Store.closeLast()V -/
def cd_129 : List AI := [
  (.aload_n 0, [], 0), (.getfield 26, [5, 3, 0], 3), (.ifCond .le 57, [33], 0), (.aload_n 0, [], 0), (.dup, [], 0), (.getfield 26, [5, 3, 0], 3),
  (.iconst 1, [], 0), (.isub, [], 0), (.putfield 26, [5, 3, 0], 3), (.aload_n 0, [], 0), (.getfield 20, [5, 1, 2], 1), (.aload_n 0, [], 0),
  (.getfield 26, [5, 3, 0], 3), (.invokevirtual 67, [0, 2, 3, 1], 0), (.istore_n 1, [], 0), (.aload_n 0, [], 0), (.dup, [], 0), (.getfield 30, [5, 4, 0], 4),
  (.iload_n 1, [], 0), (.isub, [], 0), (.putfield 30, [5, 4, 0], 4), (.aload_n 0, [], 0), (.dup, [], 0), (.getfield 33, [5, 5, 0], 5),
  (.iload_n 1, [], 0), (.aload_n 0, [], 0), (.getfield 23, [5, 2, 2], 2), (.aload_n 0, [], 0), (.getfield 26, [5, 3, 0], 3), (.invokevirtual 67, [0, 2, 3, 1], 0),
  (.imul, [], 0), (.isub, [], 0), (.putfield 33, [5, 5, 0], 5), (.return_, [], 0)
]
def bp_129 : List Nat := [0, 1, 4, 7, 8, 9, 12, 13, 14, 17, 18, 21, 22, 25, 28, 29, 30, 31, 34, 35, 36, 39, 40, 41, 44, 45, 46, 49, 50, 53, 56, 57, 58, 61, 62]
/-- RegionStack$Store.putBox(II)I -/
def cd_130 : List AI := [
  (.aload_n 0, [], 0), (.getfield 36, [5, 6, 0], 6), (.istore_n 3, [], 0), (.aload_n 0, [], 0), (.getfield 14, [5, 0, 2], 0), (.iload_n 3, [], 0),
  (.iload_n 2, [], 0), (.invokevirtual 57, [1, 3, 3, 0], 0), (.aload_n 0, [], 0), (.dup, [], 0), (.getfield 36, [5, 6, 0], 6), (.iconst 1, [], 0),
  (.iadd, [], 0), (.putfield 36, [5, 6, 0], 6), (.iload_n 2, [], 0), (.bipush 10, [], 0), (.if_icmp .ge 7, [19], 0), (.iconst 1, [], 0),
  (.goto 4, [20], 0), (.iconst 2, [], 0), (.istore 4, [], 0), (.aload_n 0, [], 0), (.dup, [], 0), (.getfield 54, [5, 12, 0], 12),
  (.iload 4, [], 0), (.iadd, [], 0), (.putfield 54, [5, 12, 0], 12), (.aload_n 0, [], 0), (.getfield 20, [5, 1, 2], 1), (.iload_n 1, [], 0),
  (.invokevirtual 67, [0, 2, 3, 1], 0), (.istore 5, [], 0), (.iload 4, [], 0), (.iconst 2, [], 0), (.if_icmp .ne 47, [60], 0), (.aload_n 0, [], 0),
  (.getfield 23, [5, 2, 2], 2), (.iload_n 1, [], 0), (.invokevirtual 67, [0, 2, 3, 1], 0), (.iconst 1, [], 0), (.if_icmp .ne 35, [60], 0), (.aload_n 0, [], 0),
  (.getfield 23, [5, 2, 2], 2), (.iload_n 1, [], 0), (.iconst 2, [], 0), (.invokevirtual 57, [1, 3, 3, 0], 0), (.aload_n 0, [], 0), (.dup, [], 0),
  (.getfield 48, [5, 10, 0], 10), (.iconst 1, [], 0), (.iadd, [], 0), (.putfield 48, [5, 10, 0], 10), (.aload_n 0, [], 0), (.dup, [], 0),
  (.getfield 33, [5, 5, 0], 5), (.iload 5, [], 0), (.iconst 1, [], 0), (.imul, [], 0), (.iadd, [], 0), (.putfield 33, [5, 5, 0], 5),
  (.aload_n 0, [], 0), (.getfield 20, [5, 1, 2], 1), (.iload_n 1, [], 0), (.iload 5, [], 0), (.iconst 1, [], 0), (.iadd, [], 0),
  (.invokevirtual 57, [1, 3, 3, 0], 0), (.aload_n 0, [], 0), (.dup, [], 0), (.getfield 30, [5, 4, 0], 4), (.iconst 1, [], 0), (.iadd, [], 0),
  (.putfield 30, [5, 4, 0], 4), (.aload_n 0, [], 0), (.dup, [], 0), (.getfield 33, [5, 5, 0], 5), (.aload_n 0, [], 0), (.getfield 23, [5, 2, 2], 2),
  (.iload_n 1, [], 0), (.invokevirtual 67, [0, 2, 3, 1], 0), (.iadd, [], 0), (.putfield 33, [5, 5, 0], 5), (.aload_n 0, [], 0), (.aload_n 0, [], 0),
  (.getfield 39, [5, 7, 0], 7), (.aload_n 0, [], 0), (.getfield 30, [5, 4, 0], 4), (.invokestatic 61, [0], 0), (.putfield 39, [5, 7, 0], 7), (.aload_n 0, [], 0),
  (.aload_n 0, [], 0), (.getfield 51, [5, 11, 0], 11), (.aload_n 0, [], 0), (.getfield 33, [5, 5, 0], 5), (.invokestatic 61, [0], 0), (.putfield 51, [5, 11, 0], 11),
  (.iload_n 3, [], 0), (.ireturn, [], 0)
]
def bp_130 : List Nat := [0, 1, 4, 5, 6, 9, 10, 11, 14, 15, 16, 19, 20, 21, 24, 25, 27, 30, 31, 34, 35, 37, 38, 39, 42, 44, 45, 48, 49, 52, 53, 56, 58, 60, 61, 64, 65, 68, 69, 72, 73, 76, 77, 80, 81, 82, 85, 86, 87, 90, 91, 92, 95, 96, 97, 100, 102, 103, 104, 105, 108, 109, 112, 113, 115, 116, 117, 120, 121, 122, 125, 126, 127, 130, 131, 132, 135, 136, 139, 140, 143, 144, 147, 148, 149, 152, 153, 156, 159, 162, 163, 164, 167, 168, 171, 174, 177, 178, 179]
/-- RegionStack$Term.<init>()V -/
def cd_131 : List AI := [
  (.aload_n 0, [], 0), (.invokespecial 3, [], 0), (.aload_n 0, [], 0), (.new 9, [], 0), (.dup, [], 0), (.invokespecial 11, [138, 1, 7, 0], 0),
  (.putfield 12, [6, 0, 2], 0), (.aload_n 0, [], 0), (.new 18, [], 0), (.dup, [], 0), (.bipush 40, [], 0), (.invokespecial 20, [111, 2, 3, 0], 0),
  (.putfield 23, [6, 1, 2], 1), (.aload_n 0, [], 0), (.new 18, [], 0), (.dup, [], 0), (.bipush 40, [], 0), (.invokespecial 20, [111, 2, 3, 0], 0),
  (.putfield 27, [6, 2, 2], 2), (.aload_n 0, [], 0), (.new 18, [], 0), (.dup, [], 0), (.bipush 40, [], 0), (.invokespecial 20, [111, 2, 3, 0], 0),
  (.putfield 30, [6, 3, 2], 3), (.aload_n 0, [], 0), (.new 18, [], 0), (.dup, [], 0), (.bipush 120, [], 0), (.invokespecial 20, [111, 2, 3, 0], 0),
  (.putfield 33, [6, 4, 2], 4), (.aload_n 0, [], 0), (.new 18, [], 0), (.dup, [], 0), (.bipush 40, [], 0), (.invokespecial 20, [111, 2, 3, 0], 0),
  (.putfield 36, [6, 5, 2], 5), (.aload_n 0, [], 0), (.new 18, [], 0), (.dup, [], 0), (.bipush 40, [], 0), (.invokespecial 20, [111, 2, 3, 0], 0),
  (.putfield 39, [6, 6, 2], 6), (.aload_n 0, [], 0), (.new 18, [], 0), (.dup, [], 0), (.bipush 40, [], 0), (.invokespecial 20, [111, 2, 3, 0], 0),
  (.putfield 42, [6, 7, 2], 7), (.aload_n 0, [], 0), (.new 18, [], 0), (.dup, [], 0), (.bipush 40, [], 0), (.invokespecial 20, [111, 2, 3, 0], 0),
  (.putfield 45, [6, 8, 2], 8), (.return_, [], 0)
]
def bp_131 : List Nat := [0, 1, 4, 5, 8, 9, 12, 15, 16, 19, 20, 22, 25, 28, 29, 32, 33, 35, 38, 41, 42, 45, 46, 48, 51, 54, 55, 58, 59, 61, 64, 67, 68, 71, 72, 74, 77, 80, 81, 84, 85, 87, 90, 93, 94, 97, 98, 100, 103, 106, 107, 110, 111, 113, 116, 119, 120]
/-- RegionStack$Term.leastAround(II)I -/
def cd_132 : List AI := [
  (.iload_n 1, [], 0), (.istore_n 3, [], 0), (.iconst 0, [], 0), (.istore 4, [], 0), (.iload 4, [], 0), (.bipush 40, [], 0),
  (.if_icmp .ge 34, [22], 0), (.iload_n 3, [], 0), (.ifCond .le 30, [22], 0), (.iload_n 2, [], 0), (.aload_n 0, [], 0), (.getfield 39, [6, 6, 2], 6),
  (.iload_n 3, [], 0), (.invokevirtual 48, [0, 2, 3, 1], 0), (.if_icmp .lt 18, [22], 0), (.aload_n 0, [], 0), (.getfield 36, [6, 5, 2], 5), (.iload_n 3, [], 0),
  (.invokevirtual 48, [0, 2, 3, 1], 0), (.istore_n 3, [], 0), (.iinc 4 1, [], 0), (.goto (-35), [4], 0), (.iload_n 3, [], 0), (.ireturn, [], 0)
]
def bp_132 : List Nat := [0, 1, 2, 3, 5, 7, 9, 12, 13, 16, 17, 18, 21, 22, 25, 28, 29, 32, 33, 36, 37, 40, 43, 44, 45]
/-- RegionStack$Term.read()V -/
def cd_133 : List AI := [
  (.aload_n 0, [], 0), (.iconst 0, [], 0), (.putfield 52, [6, 10, 0], 10), (.aload_n 0, [], 0), (.aload_n 0, [], 0), (.invokevirtual 56, [134, 1, 6, 1], 0),
  (.putfield 60, [6, 9, 0], 9), (.aload_n 0, [], 0), (.getfield 60, [6, 9, 0], 9), (.bipush (-6), [], 0), (.if_icmp .ne 11, [15], 0), (.aload_n 0, [], 0),
  (.invokevirtual 63, [135, 1, 6, 0], 0), (.aload_n 0, [], 0), (.invokevirtual 66, [136, 1, 6, 0], 0), (.return_, [], 0)
]
def bp_133 : List Nat := [0, 1, 2, 5, 6, 7, 10, 13, 14, 17, 19, 22, 23, 26, 27, 30, 31]
/-- RegionStack$Term.findFault()I -/
def cd_134 : List AI := [
  (.aload_n 0, [], 0), (.getfield 27, [6, 2, 2], 2), (.iconst 0, [], 0), (.invokevirtual 69, [2, 2, 3, 0], 0), (.iconst 1, [], 0), (.istore_n 1, [], 0),
  (.iconst 0, [], 0), (.istore_n 2, [], 0), (.iload_n 2, [], 0), (.aload_n 0, [], 0), (.getfield 12, [6, 0, 2], 0), (.getfield 72, [7, 1, 0], 1),
  (.if_icmp .ge 95, [60], 0), (.iload_n 1, [], 0), (.ifCond .le 91, [60], 0), (.aload_n 0, [], 0), (.getfield 12, [6, 0, 2], 0), (.getfield 75, [7, 0, 2], 0),
  (.iload_n 2, [], 0), (.invokevirtual 48, [0, 2, 3, 1], 0), (.istore_n 3, [], 0), (.iload_n 3, [], 0), (.invokestatic 78, [8, 1, 0, 1], 0), (.istore 4, [], 0),
  (.iload 4, [], 0), (.ifCond .ge 5, [28], 0), (.iload_n 2, [], 0), (.ireturn, [], 0), (.aload_n 0, [], 0), (.getfield 27, [6, 2, 2], 2),
  (.iload_n 2, [], 0), (.iload_n 3, [], 0), (.invokevirtual 81, [1, 3, 3, 0], 0), (.iinc 2 1, [], 0), (.iload_n 3, [], 0), (.invokestatic 85, [6, 1, 0, 1], 0),
  (.ifCond .eq 37, [53], 0), (.iload_n 2, [], 0), (.aload_n 0, [], 0), (.getfield 12, [6, 0, 2], 0), (.getfield 72, [7, 1, 0], 1), (.if_icmp .ge 23, [52], 0),
  (.iload_n 3, [], 0), (.aload_n 0, [], 0), (.getfield 12, [6, 0, 2], 0), (.getfield 75, [7, 0, 2], 0), (.iload_n 2, [], 0), (.invokevirtual 48, [0, 2, 3, 1], 0),
  (.invokestatic 89, [7, 2, 0, 1], 0), (.ifCond .ne 5, [52], 0), (.iload_n 2, [], 0), (.ireturn, [], 0), (.iinc 2 1, [], 0), (.iload_n 1, [], 0),
  (.iload 4, [], 0), (.iconst 1, [], 0), (.isub, [], 0), (.iadd, [], 0), (.istore_n 1, [], 0), (.goto (-100), [8], 0),
  (.iload_n 1, [], 0), (.ifCond .le 11, [66], 0), (.aload_n 0, [], 0), (.getfield 12, [6, 0, 2], 0), (.getfield 72, [7, 1, 0], 1), (.ireturn, [], 0),
  (.iload_n 2, [], 0), (.aload_n 0, [], 0), (.getfield 12, [6, 0, 2], 0), (.getfield 72, [7, 1, 0], 1), (.if_icmp .ge 7, [73], 0), (.iload_n 2, [], 0),
  (.goto 5, [74], 0), (.bipush (-6), [], 0), (.ireturn, [], 0)
]
def bp_134 : List Nat := [0, 1, 4, 5, 8, 9, 10, 11, 12, 13, 14, 17, 20, 23, 24, 27, 28, 31, 34, 35, 38, 39, 40, 43, 45, 47, 50, 51, 52, 53, 56, 57, 58, 61, 64, 65, 68, 71, 72, 73, 76, 79, 82, 83, 84, 87, 90, 91, 94, 97, 100, 101, 102, 105, 106, 108, 109, 110, 111, 112, 115, 116, 119, 120, 123, 126, 127, 128, 129, 132, 135, 138, 139, 142, 144, 145]
/-- RegionStack$Term.linkParts()V -/
def cd_135 : List AI := [
  (.iconst 0, [], 0), (.istore_n 1, [], 0), (.aload_n 0, [], 0), (.getfield 12, [6, 0, 2], 0), (.getfield 72, [7, 1, 0], 1), (.iconst 1, [], 0),
  (.isub, [], 0), (.istore_n 2, [], 0), (.iload_n 2, [], 0), (.ifCond .lt 144, [81], 0), (.aload_n 0, [], 0), (.getfield 27, [6, 2, 2], 2),
  (.iload_n 2, [], 0), (.invokevirtual 48, [0, 2, 3, 1], 0), (.istore_n 3, [], 0), (.iload_n 3, [], 0), (.ifCond .ne 6, [18], 0), (.goto 122, [79], 0),
  (.iload_n 2, [], 0), (.iload_n 3, [], 0), (.invokestatic 85, [6, 1, 0, 1], 0), (.ifCond .eq 7, [24], 0), (.iconst 2, [], 0), (.goto 4, [25], 0),
  (.iconst 1, [], 0), (.iadd, [], 0), (.istore 4, [], 0), (.iload_n 3, [], 0), (.invokestatic 78, [8, 1, 0, 1], 0), (.istore 5, [], 0),
  (.iconst 0, [], 0), (.istore 6, [], 0), (.iload 6, [], 0), (.iload 5, [], 0), (.if_icmp .ge 58, [62], 0), (.iinc 1 (-1), [], 0),
  (.aload_n 0, [], 0), (.getfield 45, [6, 8, 2], 8), (.iload_n 1, [], 0), (.invokevirtual 48, [0, 2, 3, 1], 0), (.istore 7, [], 0), (.aload_n 0, [], 0),
  (.getfield 33, [6, 4, 2], 4), (.iconst 3, [], 0), (.iload_n 2, [], 0), (.imul, [], 0), (.iload 6, [], 0), (.iadd, [], 0),
  (.iload 7, [], 0), (.invokevirtual 81, [1, 3, 3, 0], 0), (.aload_n 0, [], 0), (.getfield 36, [6, 5, 2], 5), (.iload 7, [], 0), (.iload_n 2, [], 0),
  (.invokevirtual 81, [1, 3, 3, 0], 0), (.aload_n 0, [], 0), (.getfield 39, [6, 6, 2], 6), (.iload 7, [], 0), (.invokevirtual 48, [0, 2, 3, 1], 0), (.istore 4, [], 0),
  (.iinc 6 1, [], 0), (.goto (-59), [32], 0), (.aload_n 0, [], 0), (.getfield 39, [6, 6, 2], 6), (.iload_n 2, [], 0), (.iload 4, [], 0),
  (.invokevirtual 81, [1, 3, 3, 0], 0), (.aload_n 0, [], 0), (.getfield 45, [6, 8, 2], 8), (.iload_n 1, [], 0), (.iload_n 2, [], 0), (.invokevirtual 81, [1, 3, 3, 0], 0),
  (.iinc 1 1, [], 0), (.aload_n 0, [], 0), (.dup, [], 0), (.getfield 52, [6, 10, 0], 10), (.iconst 1, [], 0), (.iadd, [], 0),
  (.putfield 52, [6, 10, 0], 10), (.iinc 2 (-1), [], 0), (.goto (-142), [8], 0), (.aload_n 0, [], 0), (.getfield 36, [6, 5, 2], 5), (.iconst 0, [], 0),
  (.bipush (-6), [], 0), (.invokevirtual 81, [1, 3, 3, 0], 0), (.return_, [], 0)
]
def bp_135 : List Nat := [0, 1, 2, 3, 6, 9, 10, 11, 12, 13, 16, 17, 20, 21, 24, 25, 26, 29, 32, 33, 34, 37, 40, 41, 44, 45, 46, 48, 49, 52, 54, 55, 57, 59, 61, 64, 67, 68, 71, 72, 75, 77, 78, 81, 82, 83, 84, 86, 87, 89, 92, 93, 96, 98, 99, 102, 103, 106, 108, 111, 113, 116, 119, 120, 123, 124, 126, 129, 130, 133, 134, 135, 138, 141, 142, 143, 146, 147, 148, 151, 154, 157, 158, 161, 162, 164, 167, 168]
/-- RegionStack$Term.findNames()V -/
def cd_136 : List AI := [
  (.iconst 0, [], 0), (.istore_n 1, [], 0), (.iload_n 1, [], 0), (.aload_n 0, [], 0), (.getfield 12, [6, 0, 2], 0), (.getfield 72, [7, 1, 0], 1),
  (.if_icmp .ge 78, [44], 0), (.aload_n 0, [], 0), (.getfield 27, [6, 2, 2], 2), (.iload_n 1, [], 0), (.invokevirtual 48, [0, 2, 3, 1], 0), (.istore_n 2, [], 0),
  (.aload_n 0, [], 0), (.getfield 42, [6, 7, 2], 7), (.iload_n 1, [], 0), (.iload_n 2, [], 0), (.invokestatic 93, [4, 1, 0, 1], 0), (.ifCond .eq 11, [22], 0),
  (.aload_n 0, [], 0), (.iload_n 1, [], 0), (.invokevirtual 96, [137, 2, 6, 1], 0), (.goto 5, [23], 0), (.bipush (-6), [], 0), (.invokevirtual 81, [1, 3, 3, 0], 0),
  (.aload_n 0, [], 0), (.getfield 30, [6, 3, 2], 3), (.iload_n 1, [], 0), (.iload_n 2, [], 0), (.bipush 64, [], 0), (.if_icmp .ne 22, [40], 0),
  (.aload_n 0, [], 0), (.getfield 12, [6, 0, 2], 0), (.getfield 75, [7, 0, 2], 0), (.iload_n 1, [], 0), (.iconst 1, [], 0), (.iadd, [], 0),
  (.invokevirtual 48, [0, 2, 3, 1], 0), (.bipush 48, [], 0), (.isub, [], 0), (.goto 5, [41], 0), (.bipush (-6), [], 0), (.invokevirtual 81, [1, 3, 3, 0], 0),
  (.iinc 1 1, [], 0), (.goto (-83), [2], 0), (.return_, [], 0)
]
def bp_136 : List Nat := [0, 1, 2, 3, 4, 7, 10, 13, 14, 17, 18, 21, 22, 23, 26, 27, 28, 31, 34, 35, 36, 39, 42, 44, 47, 48, 51, 52, 53, 55, 58, 59, 62, 65, 66, 67, 68, 71, 73, 74, 77, 79, 82, 85, 88, 89]
/-- RegionStack$Term.findBinder(I)I -/
def cd_137 : List AI := [
  (.aload_n 0, [], 0), (.getfield 12, [6, 0, 2], 0), (.getfield 75, [7, 0, 2], 0), (.iload_n 1, [], 0), (.invokevirtual 48, [0, 2, 3, 1], 0), (.istore_n 2, [], 0),
  (.iload_n 1, [], 0), (.istore_n 3, [], 0), (.aload_n 0, [], 0), (.getfield 36, [6, 5, 2], 5), (.iload_n 1, [], 0), (.invokevirtual 48, [0, 2, 3, 1], 0),
  (.istore 4, [], 0), (.iconst 0, [], 0), (.istore 5, [], 0), (.iload 5, [], 0), (.bipush 40, [], 0), (.if_icmp .ge 89, [59], 0),
  (.iload 4, [], 0), (.ifCond .lt 84, [59], 0), (.aload_n 0, [], 0), (.getfield 12, [6, 0, 2], 0), (.getfield 75, [7, 0, 2], 0), (.iload 4, [], 0),
  (.invokevirtual 48, [0, 2, 3, 1], 0), (.bipush 108, [], 0), (.if_icmp .ne 25, [38], 0), (.aload_n 0, [], 0), (.getfield 12, [6, 0, 2], 0), (.getfield 75, [7, 0, 2], 0),
  (.iload 4, [], 0), (.iconst 1, [], 0), (.iadd, [], 0), (.invokevirtual 48, [0, 2, 3, 1], 0), (.iload_n 2, [], 0), (.if_icmp .ne 7, [38], 0),
  (.iconst 1, [], 0), (.goto 4, [39], 0), (.iconst 0, [], 0), (.istore 6, [], 0), (.iload 6, [], 0), (.ifCond .eq 17, [50], 0),
  (.aload_n 0, [], 0), (.iload 4, [], 0), (.iconst 1, [], 0), (.invokevirtual 99, [19, 3, 6, 1], 0), (.iload_n 3, [], 0), (.if_icmp .ne 6, [50], 0),
  (.iload 4, [], 0), (.ireturn, [], 0), (.iload 4, [], 0), (.istore_n 3, [], 0), (.aload_n 0, [], 0), (.getfield 36, [6, 5, 2], 5),
  (.iload 4, [], 0), (.invokevirtual 48, [0, 2, 3, 1], 0), (.istore 4, [], 0), (.iinc 5 1, [], 0), (.goto (-90), [15], 0), (.bipush (-6), [], 0),
  (.ireturn, [], 0)
]
def bp_137 : List Nat := [0, 1, 4, 7, 8, 11, 12, 13, 14, 15, 18, 19, 22, 24, 25, 27, 29, 31, 34, 36, 39, 40, 43, 46, 48, 51, 53, 56, 57, 60, 63, 65, 66, 67, 70, 71, 74, 75, 78, 79, 81, 83, 86, 87, 89, 90, 93, 94, 97, 99, 100, 102, 103, 104, 107, 109, 112, 114, 117, 120, 122, 123]
/-- RegionStack$Text.<init>()V -/
def cd_138 : List AI := [
  (.aload_n 0, [], 0), (.invokespecial 3, [], 0), (.aload_n 0, [], 0), (.new 9, [], 0), (.dup, [], 0), (.bipush 40, [], 0),
  (.invokespecial 11, [111, 2, 3, 0], 0), (.putfield 14, [7, 0, 2], 0), (.return_, [], 0)
]
def bp_138 : List Nat := [0, 1, 4, 5, 8, 9, 11, 14, 17, 18]
/-- RegionStack$Text.takeFrom(LRegionStack$Text;)V -/
def cd_139 : List AI := [
  (.iconst 0, [], 0), (.istore_n 2, [], 0), (.iload_n 2, [], 0), (.bipush 40, [], 0), (.if_icmp .ge 25, [15], 0), (.aload_n 0, [], 0),
  (.getfield 14, [7, 0, 2], 0), (.iload_n 2, [], 0), (.aload_n 1, [], 0), (.getfield 14, [7, 0, 2], 0), (.iload_n 2, [], 0), (.invokevirtual 30, [0, 2, 3, 1], 0),
  (.invokevirtual 34, [1, 3, 3, 0], 0), (.iinc 2 1, [], 0), (.goto (-25), [2], 0), (.aload_n 0, [], 0), (.aload_n 1, [], 0), (.getfield 20, [7, 1, 0], 1),
  (.putfield 20, [7, 1, 0], 1), (.aload_n 0, [], 0), (.aload_n 1, [], 0), (.getfield 24, [7, 2, 0], 2), (.putfield 24, [7, 2, 0], 2), (.aload_n 0, [], 0),
  (.aload_n 1, [], 0), (.getfield 27, [7, 3, 0], 3), (.putfield 27, [7, 3, 0], 3), (.return_, [], 0)
]
def bp_139 : List Nat := [0, 1, 2, 3, 5, 8, 9, 12, 13, 14, 17, 18, 21, 24, 27, 30, 31, 32, 35, 38, 39, 40, 43, 46, 47, 48, 51, 54, 55]
/-- RegionStackLaw.law([I)Z -/
def cd_140 : List AI := [
  (.new 7, [], 0), (.dup, [], 0), (.invokespecial 9, [25, 1, 8, 0], 0), (.astore_n 1, [], 0), (.new 10, [], 0), (.dup, [], 0),
  (.invokespecial 12, [47, 1, 9, 0], 0), (.astore_n 2, [], 0), (.iconst 0, [], 0), (.istore_n 3, [], 0), (.iload_n 3, [], 0), (.aload_n 0, [], 0),
  (.arraylength, [], 0), (.iconst 4, [], 0), (.isub, [], 0), (.if_icmp .gt 630, [453], 0), (.aload_n 0, [], 0), (.iload_n 3, [], 0),
  (.iaload, [], 0), (.bipush 31, [], 0), (.iand, [1], 0), (.tableswitch 615 0 16 #[84, 127, 160, 183, 206, 239, 272, 285, 318, 351, 384, 427, 470, 513, 546, 569, 592], [451, 22, 59, 86, 103, 120, 147, 174, 181, 208, 235, 262, 299, 336, 373, 400, 417, 434], 0), (.aload_n 1, [], 0), (.aload_n 0, [], 0),
  (.iload_n 3, [], 0), (.iconst 1, [], 0), (.iadd, [], 0), (.iaload, [], 0), (.aload_n 0, [], 0), (.iload_n 3, [], 0),
  (.iconst 2, [], 0), (.iadd, [], 0), (.iaload, [], 0), (.aload_n 0, [], 0), (.iload_n 3, [], 0), (.iconst 3, [], 0),
  (.iadd, [], 0), (.iaload, [], 0), (.invokevirtual 13, [26, 4, 8, 1], 0), (.aload_n 2, [], 0), (.aload_n 0, [], 0), (.iload_n 3, [], 0),
  (.iconst 1, [], 0), (.iadd, [], 0), (.iaload, [], 0), (.aload_n 0, [], 0), (.iload_n 3, [], 0), (.iconst 2, [], 0),
  (.iadd, [], 0), (.iaload, [], 0), (.aload_n 0, [], 0), (.iload_n 3, [], 0), (.iconst 3, [], 0), (.iadd, [], 0),
  (.iaload, [], 0), (.invokevirtual 17, [48, 4, 9, 1], 0), (.if_icmp .eq 493, [451], 0), (.iconst 0, [], 0), (.ireturn, [], 0), (.aload_n 1, [], 0),
  (.aload_n 0, [], 0), (.iload_n 3, [], 0), (.iconst 1, [], 0), (.iadd, [], 0), (.iaload, [], 0), (.aload_n 0, [], 0),
  (.iload_n 3, [], 0), (.iconst 2, [], 0), (.iadd, [], 0), (.iaload, [], 0), (.invokevirtual 18, [27, 3, 8, 1], 0), (.aload_n 2, [], 0),
  (.aload_n 0, [], 0), (.iload_n 3, [], 0), (.iconst 1, [], 0), (.iadd, [], 0), (.iaload, [], 0), (.aload_n 0, [], 0),
  (.iload_n 3, [], 0), (.iconst 2, [], 0), (.iadd, [], 0), (.iaload, [], 0), (.invokevirtual 22, [49, 3, 9, 1], 0), (.if_icmp .eq 460, [451], 0),
  (.iconst 0, [], 0), (.ireturn, [], 0), (.aload_n 1, [], 0), (.aload_n 0, [], 0), (.iload_n 3, [], 0), (.iconst 1, [], 0),
  (.iadd, [], 0), (.iaload, [], 0), (.invokevirtual 23, [28, 2, 8, 1], 0), (.aload_n 2, [], 0), (.aload_n 0, [], 0), (.iload_n 3, [], 0),
  (.iconst 1, [], 0), (.iadd, [], 0), (.iaload, [], 0), (.invokevirtual 27, [50, 2, 9, 1], 0), (.if_icmp .eq 437, [451], 0), (.iconst 0, [], 0),
  (.ireturn, [], 0), (.aload_n 1, [], 0), (.aload_n 0, [], 0), (.iload_n 3, [], 0), (.iconst 1, [], 0), (.iadd, [], 0),
  (.iaload, [], 0), (.invokevirtual 28, [29, 2, 8, 1], 0), (.aload_n 2, [], 0), (.aload_n 0, [], 0), (.iload_n 3, [], 0), (.iconst 1, [], 0),
  (.iadd, [], 0), (.iaload, [], 0), (.invokevirtual 31, [52, 2, 9, 1], 0), (.if_icmp .eq 414, [451], 0), (.iconst 0, [], 0), (.ireturn, [], 0),
  (.aload_n 1, [], 0), (.aload_n 0, [], 0), (.iload_n 3, [], 0), (.iconst 1, [], 0), (.iadd, [], 0), (.iaload, [], 0),
  (.aload_n 0, [], 0), (.iload_n 3, [], 0), (.iconst 2, [], 0), (.iadd, [], 0), (.iaload, [], 0), (.invokevirtual 32, [30, 3, 8, 1], 0),
  (.aload_n 2, [], 0), (.aload_n 0, [], 0), (.iload_n 3, [], 0), (.iconst 1, [], 0), (.iadd, [], 0), (.iaload, [], 0),
  (.aload_n 0, [], 0), (.iload_n 3, [], 0), (.iconst 2, [], 0), (.iadd, [], 0), (.iaload, [], 0), (.invokevirtual 35, [57, 3, 9, 1], 0),
  (.if_icmp .eq 381, [451], 0), (.iconst 0, [], 0), (.ireturn, [], 0), (.aload_n 1, [], 0), (.aload_n 0, [], 0), (.iload_n 3, [], 0),
  (.iconst 1, [], 0), (.iadd, [], 0), (.iaload, [], 0), (.aload_n 0, [], 0), (.iload_n 3, [], 0), (.iconst 2, [], 0),
  (.iadd, [], 0), (.iaload, [], 0), (.invokevirtual 36, [31, 3, 8, 1], 0), (.aload_n 2, [], 0), (.aload_n 0, [], 0), (.iload_n 3, [], 0),
  (.iconst 1, [], 0), (.iadd, [], 0), (.iaload, [], 0), (.aload_n 0, [], 0), (.iload_n 3, [], 0), (.iconst 2, [], 0),
  (.iadd, [], 0), (.iaload, [], 0), (.invokevirtual 39, [58, 3, 9, 1], 0), (.if_icmp .eq 348, [451], 0), (.iconst 0, [], 0), (.ireturn, [], 0),
  (.aload_n 1, [], 0), (.invokevirtual 40, [32, 1, 8, 1], 0), (.aload_n 2, [], 0), (.invokevirtual 44, [60, 1, 9, 1], 0), (.if_icmp .eq 335, [451], 0), (.iconst 0, [], 0),
  (.ireturn, [], 0), (.aload_n 1, [], 0), (.aload_n 0, [], 0), (.iload_n 3, [], 0), (.iconst 1, [], 0), (.iadd, [], 0),
  (.iaload, [], 0), (.aload_n 0, [], 0), (.iload_n 3, [], 0), (.iconst 2, [], 0), (.iadd, [], 0), (.iaload, [], 0),
  (.invokevirtual 45, [33, 3, 8, 1], 0), (.aload_n 2, [], 0), (.aload_n 0, [], 0), (.iload_n 3, [], 0), (.iconst 1, [], 0), (.iadd, [], 0),
  (.iaload, [], 0), (.aload_n 0, [], 0), (.iload_n 3, [], 0), (.iconst 2, [], 0), (.iadd, [], 0), (.iaload, [], 0),
  (.invokevirtual 48, [68, 3, 9, 1], 0), (.if_icmp .eq 302, [451], 0), (.iconst 0, [], 0), (.ireturn, [], 0), (.aload_n 1, [], 0), (.aload_n 0, [], 0),
  (.iload_n 3, [], 0), (.iconst 1, [], 0), (.iadd, [], 0), (.iaload, [], 0), (.aload_n 0, [], 0), (.iload_n 3, [], 0),
  (.iconst 2, [], 0), (.iadd, [], 0), (.iaload, [], 0), (.invokevirtual 49, [34, 3, 8, 1], 0), (.aload_n 2, [], 0), (.aload_n 0, [], 0),
  (.iload_n 3, [], 0), (.iconst 1, [], 0), (.iadd, [], 0), (.iaload, [], 0), (.aload_n 0, [], 0), (.iload_n 3, [], 0),
  (.iconst 2, [], 0), (.iadd, [], 0), (.iaload, [], 0), (.invokevirtual 52, [69, 3, 9, 1], 0), (.if_icmp .eq 269, [451], 0), (.iconst 0, [], 0),
  (.ireturn, [], 0), (.aload_n 1, [], 0), (.aload_n 0, [], 0), (.iload_n 3, [], 0), (.iconst 1, [], 0), (.iadd, [], 0),
  (.iaload, [], 0), (.aload_n 0, [], 0), (.iload_n 3, [], 0), (.iconst 2, [], 0), (.iadd, [], 0), (.iaload, [], 0),
  (.invokevirtual 53, [35, 3, 8, 1], 0), (.aload_n 2, [], 0), (.aload_n 0, [], 0), (.iload_n 3, [], 0), (.iconst 1, [], 0), (.iadd, [], 0),
  (.iaload, [], 0), (.aload_n 0, [], 0), (.iload_n 3, [], 0), (.iconst 2, [], 0), (.iadd, [], 0), (.iaload, [], 0),
  (.invokevirtual 56, [70, 3, 9, 1], 0), (.if_icmp .eq 236, [451], 0), (.iconst 0, [], 0), (.ireturn, [], 0), (.aload_n 1, [], 0), (.aload_n 0, [], 0),
  (.iload_n 3, [], 0), (.iconst 1, [], 0), (.iadd, [], 0), (.iaload, [], 0), (.aload_n 0, [], 0), (.iload_n 3, [], 0),
  (.iconst 2, [], 0), (.iadd, [], 0), (.iaload, [], 0), (.aload_n 0, [], 0), (.iload_n 3, [], 0), (.iconst 3, [], 0),
  (.iadd, [], 0), (.iaload, [], 0), (.invokevirtual 57, [36, 4, 8, 1], 0), (.aload_n 2, [], 0), (.aload_n 0, [], 0), (.iload_n 3, [], 0),
  (.iconst 1, [], 0), (.iadd, [], 0), (.iaload, [], 0), (.aload_n 0, [], 0), (.iload_n 3, [], 0), (.iconst 2, [], 0),
  (.iadd, [], 0), (.iaload, [], 0), (.aload_n 0, [], 0), (.iload_n 3, [], 0), (.iconst 3, [], 0), (.iadd, [], 0),
  (.iaload, [], 0), (.invokevirtual 60, [71, 4, 9, 1], 0), (.if_icmp .eq 193, [451], 0), (.iconst 0, [], 0), (.ireturn, [], 0), (.aload_n 1, [], 0),
  (.aload_n 0, [], 0), (.iload_n 3, [], 0), (.iconst 1, [], 0), (.iadd, [], 0), (.iaload, [], 0), (.aload_n 0, [], 0),
  (.iload_n 3, [], 0), (.iconst 2, [], 0), (.iadd, [], 0), (.iaload, [], 0), (.aload_n 0, [], 0), (.iload_n 3, [], 0),
  (.iconst 3, [], 0), (.iadd, [], 0), (.iaload, [], 0), (.invokevirtual 61, [37, 4, 8, 1], 0), (.aload_n 2, [], 0), (.aload_n 0, [], 0),
  (.iload_n 3, [], 0), (.iconst 1, [], 0), (.iadd, [], 0), (.iaload, [], 0), (.aload_n 0, [], 0), (.iload_n 3, [], 0),
  (.iconst 2, [], 0), (.iadd, [], 0), (.iaload, [], 0), (.aload_n 0, [], 0), (.iload_n 3, [], 0), (.iconst 3, [], 0),
  (.iadd, [], 0), (.iaload, [], 0), (.invokevirtual 64, [82, 4, 9, 1], 0), (.if_icmp .eq 150, [451], 0), (.iconst 0, [], 0), (.ireturn, [], 0),
  (.aload_n 1, [], 0), (.aload_n 0, [], 0), (.iload_n 3, [], 0), (.iconst 1, [], 0), (.iadd, [], 0), (.iaload, [], 0),
  (.aload_n 0, [], 0), (.iload_n 3, [], 0), (.iconst 2, [], 0), (.iadd, [], 0), (.iaload, [], 0), (.aload_n 0, [], 0),
  (.iload_n 3, [], 0), (.iconst 3, [], 0), (.iadd, [], 0), (.iaload, [], 0), (.invokevirtual 65, [38, 4, 8, 1], 0), (.aload_n 2, [], 0),
  (.aload_n 0, [], 0), (.iload_n 3, [], 0), (.iconst 1, [], 0), (.iadd, [], 0), (.iaload, [], 0), (.aload_n 0, [], 0),
  (.iload_n 3, [], 0), (.iconst 2, [], 0), (.iadd, [], 0), (.iaload, [], 0), (.aload_n 0, [], 0), (.iload_n 3, [], 0),
  (.iconst 3, [], 0), (.iadd, [], 0), (.iaload, [], 0), (.invokevirtual 68, [83, 4, 9, 1], 0), (.if_icmp .eq 107, [451], 0), (.iconst 0, [], 0),
  (.ireturn, [], 0), (.aload_n 1, [], 0), (.aload_n 0, [], 0), (.iload_n 3, [], 0), (.iconst 1, [], 0), (.iadd, [], 0),
  (.iaload, [], 0), (.aload_n 0, [], 0), (.iload_n 3, [], 0), (.iconst 2, [], 0), (.iadd, [], 0), (.iaload, [], 0),
  (.invokevirtual 69, [39, 3, 8, 1], 0), (.aload_n 2, [], 0), (.aload_n 0, [], 0), (.iload_n 3, [], 0), (.iconst 1, [], 0), (.iadd, [], 0),
  (.iaload, [], 0), (.aload_n 0, [], 0), (.iload_n 3, [], 0), (.iconst 2, [], 0), (.iadd, [], 0), (.iaload, [], 0),
  (.invokevirtual 72, [84, 3, 9, 1], 0), (.if_icmp .eq 74, [451], 0), (.iconst 0, [], 0), (.ireturn, [], 0), (.aload_n 1, [], 0), (.aload_n 0, [], 0),
  (.iload_n 3, [], 0), (.iconst 1, [], 0), (.iadd, [], 0), (.iaload, [], 0), (.invokevirtual 73, [40, 2, 8, 1], 0), (.aload_n 2, [], 0),
  (.aload_n 0, [], 0), (.iload_n 3, [], 0), (.iconst 1, [], 0), (.iadd, [], 0), (.iaload, [], 0), (.invokevirtual 76, [85, 2, 9, 1], 0),
  (.if_icmp .eq 51, [451], 0), (.iconst 0, [], 0), (.ireturn, [], 0), (.aload_n 1, [], 0), (.aload_n 0, [], 0), (.iload_n 3, [], 0),
  (.iconst 1, [], 0), (.iadd, [], 0), (.iaload, [], 0), (.invokevirtual 77, [41, 2, 8, 1], 0), (.aload_n 2, [], 0), (.aload_n 0, [], 0),
  (.iload_n 3, [], 0), (.iconst 1, [], 0), (.iadd, [], 0), (.iaload, [], 0), (.invokevirtual 80, [86, 2, 9, 1], 0), (.if_icmp .eq 28, [451], 0),
  (.iconst 0, [], 0), (.ireturn, [], 0), (.aload_n 1, [], 0), (.aload_n 0, [], 0), (.iload_n 3, [], 0), (.iconst 1, [], 0),
  (.iadd, [], 0), (.iaload, [], 0), (.invokevirtual 81, [42, 2, 8, 1], 0), (.aload_n 2, [], 0), (.aload_n 0, [], 0), (.iload_n 3, [], 0),
  (.iconst 1, [], 0), (.iadd, [], 0), (.iaload, [], 0), (.invokevirtual 84, [87, 2, 9, 1], 0), (.if_icmp .eq 5, [451], 0), (.iconst 0, [], 0),
  (.ireturn, [], 0), (.iinc 3 4, [], 0), (.goto (-632), [10], 0), (.iconst 1, [], 0), (.ireturn, [], 0)
]
def bp_140 : List Nat := [0, 3, 4, 7, 8, 11, 12, 15, 16, 17, 18, 19, 20, 21, 22, 23, 26, 27, 28, 29, 31, 32, 116, 117, 118, 119, 120, 121, 122, 123, 124, 125, 126, 127, 128, 129, 130, 131, 132, 135, 136, 137, 138, 139, 140, 141, 142, 143, 144, 145, 146, 147, 148, 149, 150, 151, 154, 157, 158, 159, 160, 161, 162, 163, 164, 165, 166, 167, 168, 169, 170, 173, 174, 175, 176, 177, 178, 179, 180, 181, 182, 183, 184, 187, 190, 191, 192, 193, 194, 195, 196, 197, 198, 201, 202, 203, 204, 205, 206, 207, 210, 213, 214, 215, 216, 217, 218, 219, 220, 221, 224, 225, 226, 227, 228, 229, 230, 233, 236, 237, 238, 239, 240, 241, 242, 243, 244, 245, 246, 247, 248, 249, 252, 253, 254, 255, 256, 257, 258, 259, 260, 261, 262, 263, 266, 269, 270, 271, 272, 273, 274, 275, 276, 277, 278, 279, 280, 281, 282, 285, 286, 287, 288, 289, 290, 291, 292, 293, 294, 295, 296, 299, 302, 303, 304, 305, 308, 309, 312, 315, 316, 317, 318, 319, 320, 321, 322, 323, 324, 325, 326, 327, 328, 331, 332, 333, 334, 335, 336, 337, 338, 339, 340, 341, 342, 345, 348, 349, 350, 351, 352, 353, 354, 355, 356, 357, 358, 359, 360, 361, 364, 365, 366, 367, 368, 369, 370, 371, 372, 373, 374, 375, 378, 381, 382, 383, 384, 385, 386, 387, 388, 389, 390, 391, 392, 393, 394, 397, 398, 399, 400, 401, 402, 403, 404, 405, 406, 407, 408, 411, 414, 415, 416, 417, 418, 419, 420, 421, 422, 423, 424, 425, 426, 427, 428, 429, 430, 431, 432, 435, 436, 437, 438, 439, 440, 441, 442, 443, 444, 445, 446, 447, 448, 449, 450, 451, 454, 457, 458, 459, 460, 461, 462, 463, 464, 465, 466, 467, 468, 469, 470, 471, 472, 473, 474, 475, 478, 479, 480, 481, 482, 483, 484, 485, 486, 487, 488, 489, 490, 491, 492, 493, 494, 497, 500, 501, 502, 503, 504, 505, 506, 507, 508, 509, 510, 511, 512, 513, 514, 515, 516, 517, 518, 521, 522, 523, 524, 525, 526, 527, 528, 529, 530, 531, 532, 533, 534, 535, 536, 537, 540, 543, 544, 545, 546, 547, 548, 549, 550, 551, 552, 553, 554, 555, 556, 559, 560, 561, 562, 563, 564, 565, 566, 567, 568, 569, 570, 573, 576, 577, 578, 579, 580, 581, 582, 583, 584, 587, 588, 589, 590, 591, 592, 593, 596, 599, 600, 601, 602, 603, 604, 605, 606, 607, 610, 611, 612, 613, 614, 615, 616, 619, 622, 623, 624, 625, 626, 627, 628, 629, 630, 633, 634, 635, 636, 637, 638, 639, 642, 645, 646, 647, 650, 653, 654, 655]
def cdL : List (List AI) := [cd_0, cd_1, cd_2, cd_3, cd_4, cd_5, cd_6, cd_7, cd_8, cd_9, cd_10, cd_11, cd_12, cd_13, cd_14, cd_15, cd_16, cd_17, cd_18, cd_19, cd_20, cd_21, cd_22, cd_23, cd_24, cd_25, cd_26, cd_27, cd_28, cd_29, cd_30, cd_31, cd_32, cd_33, cd_34, cd_35, cd_36, cd_37, cd_38, cd_39, cd_40, cd_41, cd_42, cd_43, cd_44, cd_45, cd_46, cd_47, cd_48, cd_49, cd_50, cd_51, cd_52, cd_53, cd_54, cd_55, cd_56, cd_57, cd_58, cd_59, cd_60, cd_61, cd_62, cd_63, cd_64, cd_65, cd_66, cd_67, cd_68, cd_69, cd_70, cd_71, cd_72, cd_73, cd_74, cd_75, cd_76, cd_77, cd_78, cd_79, cd_80, cd_81, cd_82, cd_83, cd_84, cd_85, cd_86, cd_87, cd_88, cd_89, cd_90, cd_91, cd_92, cd_93, cd_94, cd_95, cd_96, cd_97, cd_98, cd_99, cd_100, cd_101, cd_102, cd_103, cd_104, cd_105, cd_106, cd_107, cd_108, cd_109, cd_110, cd_111, cd_112, cd_113, cd_114, cd_115, cd_116, cd_117, cd_118, cd_119, cd_120, cd_121, cd_122, cd_123, cd_124, cd_125, cd_126, cd_127, cd_128, cd_129, cd_130, cd_131, cd_132, cd_133, cd_134, cd_135, cd_136, cd_137, cd_138, cd_139, cd_140]
def bpL : List (List Nat) := [bp_0, bp_1, bp_2, bp_3, bp_4, bp_5, bp_6, bp_7, bp_8, bp_9, bp_10, bp_11, bp_12, bp_13, bp_14, bp_15, bp_16, bp_17, bp_18, bp_19, bp_20, bp_21, bp_22, bp_23, bp_24, bp_25, bp_26, bp_27, bp_28, bp_29, bp_30, bp_31, bp_32, bp_33, bp_34, bp_35, bp_36, bp_37, bp_38, bp_39, bp_40, bp_41, bp_42, bp_43, bp_44, bp_45, bp_46, bp_47, bp_48, bp_49, bp_50, bp_51, bp_52, bp_53, bp_54, bp_55, bp_56, bp_57, bp_58, bp_59, bp_60, bp_61, bp_62, bp_63, bp_64, bp_65, bp_66, bp_67, bp_68, bp_69, bp_70, bp_71, bp_72, bp_73, bp_74, bp_75, bp_76, bp_77, bp_78, bp_79, bp_80, bp_81, bp_82, bp_83, bp_84, bp_85, bp_86, bp_87, bp_88, bp_89, bp_90, bp_91, bp_92, bp_93, bp_94, bp_95, bp_96, bp_97, bp_98, bp_99, bp_100, bp_101, bp_102, bp_103, bp_104, bp_105, bp_106, bp_107, bp_108, bp_109, bp_110, bp_111, bp_112, bp_113, bp_114, bp_115, bp_116, bp_117, bp_118, bp_119, bp_120, bp_121, bp_122, bp_123, bp_124, bp_125, bp_126, bp_127, bp_128, bp_129, bp_130, bp_131, bp_132, bp_133, bp_134, bp_135, bp_136, bp_137, bp_138, bp_139, bp_140]
end
section
def cellsL : List (Nat × Nat) := [
  (0, 0), (1, 0), (2, 0), (3, 0), (4, 0), (5, 0), (6, 0), (7, 0), (37, 0), (8, 0), (38, 0), (9, 0),
  (39, 0), (10, 0), (40, 0), (11, 0), (41, 0), (12, 0), (42, 0), (13, 0), (43, 0), (14, 0), (44, 0), (15, 0),
  (45, 0), (16, 0), (46, 0), (17, 0), (47, 0), (18, 0), (48, 0), (19, 0), (49, 0), (4, 1), (5, 1), (6, 1),
  (7, 1), (37, 1), (8, 1), (38, 1), (9, 1), (39, 1), (10, 1), (40, 1), (11, 1), (41, 1), (12, 1), (42, 1),
  (13, 1), (43, 1), (14, 1), (44, 1), (15, 1), (45, 1), (16, 1), (46, 1), (17, 1), (47, 1), (18, 1), (48, 1),
  (19, 1), (49, 1), (4, 2), (5, 2), (6, 2), (7, 2), (37, 2), (8, 2), (38, 2), (9, 2), (39, 2), (10, 2),
  (40, 2), (11, 2), (41, 2), (12, 2), (42, 2), (13, 2), (43, 2), (14, 2), (44, 2), (15, 2), (45, 2), (16, 2),
  (46, 2), (17, 2), (47, 2), (18, 2), (48, 2), (19, 2), (49, 2), (32, 0), (28, 0), (58, 0), (29, 0), (59, 0),
  (30, 0), (60, 0), (20, 0), (50, 0), (21, 0), (51, 0), (22, 0), (52, 0), (23, 0), (53, 0), (24, 0), (54, 0),
  (25, 0), (55, 0), (26, 0), (56, 0), (27, 0), (57, 0), (34, 0), (33, 0), (31, 0), (61, 0), (33, 1), (31, 1),
  (61, 1), (33, 2), (31, 2), (61, 2), (33, 3), (31, 3), (61, 3), (33, 4), (31, 4), (61, 4), (33, 5), (31, 5),
  (61, 5), (35, 0), (62, 0), (63, 0), (64, 0), (65, 0), (66, 0), (67, 0), (68, 0), (69, 0), (70, 0), (71, 0),
  (72, 0), (73, 0), (74, 0), (75, 0), (76, 0), (77, 0), (78, 0), (79, 0), (80, 0), (81, 0), (82, 0), (83, 0),
  (84, 0), (85, 0), (86, 0), (87, 0), (88, 0), (89, 0), (90, 0)
]
def adB : List (Nat) := [
  0, 1, 2, 3, 4, 5, 6, 7, 9, 11, 13, 15, 17, 19, 21, 23, 25, 27, 29, 31, 98, 100, 102, 104, 106, 108, 110, 112, 92, 94,
  96, 116, 91, 115, 114, 133, 0, 8, 10, 12, 14, 16, 18, 20, 22, 24, 26, 28, 30, 32, 99, 101, 103, 105, 107, 109, 111, 113, 93, 95,
  97, 117, 134, 135, 136, 137, 138, 139, 140, 141, 142, 143, 144, 145, 146, 147, 148, 149, 150, 151, 152, 153, 154, 155, 156, 157, 158, 159, 160, 161,
  162, 0, 0, 0, 0, 0, 0, 0, 0, 0
]
def adS : List (Nat) := [
  0, 0, 0, 0, 29, 29, 29, 29, 29, 29, 29, 29, 29, 29, 29, 29, 29, 29, 29, 29, 0, 0, 0, 0, 0, 0, 0, 0, 0, 0,
  0, 3, 0, 3, 0, 0, 0, 29, 29, 29, 29, 29, 29, 29, 29, 29, 29, 29, 29, 29, 0, 0, 0, 0, 0, 0, 0, 0, 0, 0,
  0, 3, 0, 0, 0, 0, 0, 0, 0, 0, 0, 0, 0, 0, 0, 0, 0, 0, 0, 0, 0, 0, 0, 0, 0, 0, 0, 0, 0, 0,
  0, 0, 0, 0, 0, 0, 0, 0, 0, 0
]
def lkf : List (Nat × Nat × Nat × Nat × Nat × Nat) := [
  (2, 7, 3, 0, 2, 113), (6, 14, 7, 0, 2, 118), (7, 65, 7, 0, 2, 119), (1, 61, 7, 0, 2, 120), (5, 75, 7, 0, 2, 121), (3, 162, 7, 0, 2, 122),
  (6, 20, 7, 1, 0, 123), (0, 49, 7, 1, 0, 124), (7, 62, 7, 1, 0, 125), (1, 38, 7, 1, 0, 126), (5, 72, 7, 1, 0, 127), (7, 52, 7, 2, 0, 128),
  (6, 24, 7, 2, 0, 129), (1, 68, 7, 2, 0, 130), (3, 132, 7, 2, 0, 131), (7, 56, 7, 3, 0, 132), (6, 27, 7, 3, 0, 133), (0, 65, 7, 3, 0, 134),
  (3, 116, 7, 3, 0, 135), (1, 79, 7, 3, 0, 136), (5, 12, 6, 0, 2, 148), (0, 18, 6, 0, 2, 149), (1, 34, 6, 0, 2, 150), (3, 191, 6, 0, 2, 151),
  (5, 23, 6, 1, 2, 152), (0, 54, 6, 1, 2, 153), (1, 43, 6, 1, 2, 154), (7, 102, 6, 1, 2, 155), (5, 27, 6, 2, 2, 156), (0, 75, 6, 2, 2, 157),
  (5, 30, 6, 3, 2, 158), (1, 71, 6, 3, 2, 159), (0, 82, 6, 3, 2, 160), (3, 222, 6, 3, 2, 161), (5, 33, 6, 4, 2, 162), (5, 36, 6, 5, 2, 163),
  (5, 39, 6, 6, 2, 164), (5, 42, 6, 7, 2, 165), (5, 45, 6, 8, 2, 166), (1, 29, 6, 9, 0, 167), (7, 83, 6, 9, 0, 168), (5, 60, 6, 9, 0, 169),
  (7, 88, 6, 10, 0, 170), (5, 52, 6, 10, 0, 171), (0, 12, 1, 0, 2, 197), (1, 25, 1, 0, 2, 198), (7, 79, 1, 0, 2, 199), (3, 178, 1, 0, 2, 200),
  (0, 22, 1, 1, 2, 201), (7, 42, 1, 1, 2, 202), (3, 110, 1, 1, 2, 203), (1, 78, 1, 1, 2, 204), (0, 28, 1, 2, 2, 205), (0, 32, 1, 3, 2, 206),
  (7, 123, 1, 3, 2, 207), (3, 202, 1, 3, 2, 208), (0, 35, 1, 4, 2, 209), (3, 219, 1, 4, 2, 210), (0, 38, 1, 5, 2, 211), (3, 172, 1, 5, 2, 212),
  (7, 129, 1, 5, 2, 213), (0, 71, 1, 6, 1, 214), (3, 147, 1, 6, 1, 215), (1, 123, 1, 6, 1, 216), (7, 113, 1, 6, 1, 217), (7, 117, 1, 7, 0, 218),
  (1, 130, 1, 7, 0, 219), (0, 118, 1, 7, 0, 220), (0, 41, 1, 8, 0, 221), (3, 169, 1, 8, 0, 222), (7, 120, 1, 8, 0, 223), (1, 11, 2, 0, 2, 243),
  (1, 22, 2, 1, 0, 244), (3, 83, 2, 1, 0, 245), (1, 17, 2, 2, 0, 246), (1, 99, 2, 3, 1, 247), (4, 14, 5, 0, 2, 265), (4, 20, 5, 1, 2, 266),
  (4, 23, 5, 2, 2, 267), (4, 26, 5, 3, 0, 268), (4, 30, 5, 4, 0, 269), (4, 33, 5, 5, 0, 270), (4, 36, 5, 6, 0, 271), (3, 65, 5, 6, 0, 272),
  (4, 39, 5, 7, 0, 273), (3, 68, 5, 7, 0, 274), (4, 42, 5, 8, 0, 275), (3, 71, 5, 8, 0, 276), (4, 45, 5, 9, 0, 277), (3, 74, 5, 9, 0, 278),
  (4, 48, 5, 10, 0, 279), (3, 77, 5, 10, 0, 280), (4, 51, 5, 11, 0, 281), (7, 147, 5, 11, 0, 282), (4, 54, 5, 12, 0, 283), (7, 152, 5, 12, 0, 284),
  (3, 12, 4, 0, 2, 314), (7, 16, 4, 0, 2, 315), (3, 21, 4, 1, 2, 316), (7, 143, 4, 1, 2, 317), (3, 30, 4, 2, 2, 318), (3, 34, 4, 3, 2, 319),
  (3, 37, 4, 4, 2, 320), (3, 40, 4, 5, 2, 321), (3, 43, 4, 6, 2, 322), (3, 46, 4, 7, 2, 323), (3, 49, 4, 8, 2, 324), (3, 52, 4, 9, 2, 325),
  (3, 104, 4, 10, 0, 326), (3, 59, 4, 11, 0, 327), (3, 62, 4, 12, 0, 328), (3, 80, 4, 13, 0, 329), (3, 92, 4, 14, 1, 330), (3, 55, 4, 15, 0, 331),
  (3, 86, 4, 16, 0, 332), (3, 89, 4, 17, 0, 333), (7, 20, 8, 0, 2, 374), (7, 12, 8, 1, 2, 375), (7, 23, 8, 2, 2, 376), (7, 28, 8, 3, 2, 377),
  (8, 7, 9, 0, 2, 752), (8, 13, 9, 1, 2, 753), (8, 16, 9, 2, 2, 754), (8, 19, 9, 3, 2, 755), (8, 22, 9, 4, 2, 756), (8, 25, 9, 5, 2, 757),
  (8, 28, 9, 6, 2, 758), (8, 31, 9, 7, 2, 759), (8, 34, 9, 8, 2, 760), (8, 37, 9, 9, 2, 761), (8, 40, 9, 10, 2, 762), (8, 44, 9, 11, 2, 763),
  (8, 47, 9, 12, 2, 764), (8, 50, 9, 13, 2, 765), (8, 53, 9, 14, 2, 766), (8, 56, 9, 15, 2, 767), (8, 59, 9, 16, 2, 768), (8, 62, 9, 17, 2, 769),
  (8, 65, 9, 18, 2, 770), (8, 201, 9, 19, 0, 771), (8, 68, 9, 20, 2, 772), (8, 71, 9, 21, 2, 773), (8, 74, 9, 22, 2, 774), (8, 77, 9, 23, 2, 775),
  (8, 198, 9, 24, 0, 776), (8, 80, 9, 25, 2, 777), (8, 83, 9, 26, 2, 778), (8, 86, 9, 27, 2, 779), (8, 167, 9, 28, 0, 780), (8, 215, 9, 29, 0, 781),
  (8, 234, 9, 30, 0, 782), (8, 183, 9, 31, 0, 783), (8, 177, 9, 32, 0, 784), (8, 192, 9, 33, 0, 785), (8, 174, 9, 34, 0, 786), (8, 171, 9, 35, 0, 787),
  (8, 186, 9, 36, 0, 788), (8, 227, 9, 37, 0, 789), (8, 180, 9, 38, 0, 790), (8, 195, 9, 39, 0, 791), (8, 189, 9, 40, 0, 792), (8, 89, 9, 41, 2, 793),
  (8, 92, 9, 42, 2, 794)
]
def lkm : List (Nat × Nat × Nat × Nat) := [
  (9, 9, 25, 70), (3, 11, 102, 84), (6, 11, 111, 109), (5, 20, 111, 147), (0, 25, 111, 196), (4, 11, 111, 264), (3, 27, 111, 313), (9, 13, 26, 388),
  (7, 32, 15, 392), (7, 38, 3, 396), (7, 48, 17, 399), (7, 59, 103, 403), (1, 47, 18, 407), (5, 48, 0, 411), (1, 51, 104, 415), (1, 64, 0, 419),
  (1, 74, 15, 420), (1, 82, 20, 421), (1, 85, 19, 425), (1, 55, 1, 432), (9, 18, 27, 436), (7, 69, 1, 440), (7, 75, 43, 441), (7, 167, 133, 445),
  (5, 56, 134, 449), (5, 69, 2, 453), (7, 177, 5, 460), (7, 174, 4, 463), (5, 81, 1, 464), (5, 63, 135, 471), (5, 66, 136, 475), (5, 96, 137, 480),
  (5, 99, 19, 484), (9, 23, 28, 485), (9, 28, 29, 489), (9, 32, 30, 493), (7, 91, 105, 497), (1, 92, 106, 501), (1, 96, 21, 505), (9, 36, 31, 509),
  (7, 95, 16, 513), (7, 99, 18, 517), (7, 105, 0, 518), (9, 40, 32, 519), (7, 109, 107, 523), (1, 103, 108, 527), (1, 119, 105, 531), (1, 107, 109, 532),
  (1, 126, 90, 536), (0, 45, 1, 540), (0, 57, 0, 541), (0, 61, 91, 542), (0, 68, 92, 546), (0, 78, 19, 550), (0, 85, 15, 551), (0, 91, 20, 552),
  (1, 110, 93, 553), (0, 94, 94, 557), (1, 113, 110, 562), (1, 133, 95, 566), (0, 100, 99, 570), (0, 114, 101, 574), (0, 104, 100, 578), (1, 116, 96, 582),
  (0, 107, 98, 586), (0, 111, 132, 590), (9, 45, 33, 594), (9, 49, 34, 598), (9, 53, 35, 602), (7, 126, 89, 606), (9, 57, 36, 610), (7, 132, 97, 614),
  (9, 61, 37, 618), (7, 136, 45, 622), (7, 170, 114, 626), (3, 96, 15, 630), (3, 100, 115, 631), (3, 125, 127, 635), (3, 128, 1, 639), (3, 135, 128, 640),
  (4, 57, 1, 644), (3, 139, 116, 648), (3, 143, 130, 652), (4, 67, 0, 656), (3, 150, 118, 657), (3, 107, 119, 661), (3, 153, 0, 665), (3, 156, 120, 666),
  (3, 182, 19, 671), (3, 187, 121, 672), (3, 196, 20, 677), (3, 165, 122, 678), (3, 199, 129, 682), (3, 159, 123, 686), (3, 205, 117, 690), (3, 208, 124, 694),
  (3, 121, 22, 698), (3, 216, 125, 703), (7, 140, 113, 707), (9, 65, 38, 711), (9, 69, 39, 715), (7, 155, 46, 719), (9, 73, 40, 724), (7, 159, 44, 728),
  (7, 163, 139, 732), (6, 30, 0, 736), (6, 34, 1, 737), (9, 77, 41, 738), (9, 81, 42, 742), (9, 12, 47, 748), (9, 17, 48, 882), (8, 99, 10, 886),
  (8, 95, 9, 889), (9, 22, 49, 892), (9, 27, 50, 896), (9, 31, 52, 900), (8, 110, 51, 904), (8, 103, 11, 908), (8, 107, 12, 911), (9, 35, 57, 914),
  (8, 127, 56, 918), (8, 123, 55, 922), (8, 120, 54, 926), (8, 113, 14, 930), (8, 116, 53, 934), (9, 39, 58, 938), (9, 44, 60, 942), (8, 130, 59, 946),
  (9, 48, 68, 950), (8, 164, 62, 954), (8, 144, 61, 958), (8, 137, 13, 962), (8, 140, 24, 966), (8, 134, 23, 970), (8, 148, 63, 974), (8, 151, 65, 978),
  (8, 157, 64, 982), (8, 154, 67, 986), (8, 160, 66, 990), (9, 52, 69, 994), (9, 56, 70, 998), (9, 60, 71, 1002), (9, 64, 82, 1006), (8, 244, 81, 1010),
  (8, 204, 72, 1014), (8, 218, 74, 1018), (8, 230, 75, 1022), (8, 224, 76, 1026), (8, 241, 80, 1030), (8, 237, 79, 1034), (8, 221, 78, 1038), (8, 211, 77, 1042),
  (8, 208, 73, 1046), (9, 68, 83, 1050), (9, 72, 84, 1054), (9, 76, 85, 1060), (9, 80, 86, 1064), (9, 84, 87, 1068)
]
def lkn : List (Nat × Nat × Nat × Nat) := [
  (7, 11, 112, 78), (1, 21, 88, 91), (0, 11, 131, 97), (5, 11, 138, 103), (3, 20, 126, 259), (7, 27, 138, 373), (1, 89, 4, 429), (5, 78, 8, 457),
  (5, 85, 6, 465), (5, 89, 7, 468), (5, 93, 4, 479), (0, 97, 8, 561), (3, 175, 8, 670), (3, 192, 4, 676)
]
def lkx : List (Nat × Nat × Nat) := [
  (4, 61, 645), (3, 211, 702)
]
def lkc : List (Nat × Nat × Int × Nat) := [
  (8, 247, 8388608, 1058), (8, 248, 16777216, 1059)
]
def lkl : List (Nat × Nat × Int × Nat) := [
  (7, 180, 2, 722), (7, 182, 8388608, 723)
]
def plL : List (Nat × Nat × Nat × Nat) := [
  (414, 64, 412, 413), (435, 64, 433, 434), (456, 64, 454, 455), (398, 58, 397, 0), (431, 58, 430, 0), (462, 58, 461, 0), (467, 58, 466, 0), (470, 58, 469, 0),
  (459, 58, 458, 0), (891, 66, 890, 0), (888, 66, 887, 0), (910, 66, 909, 0), (913, 66, 912, 0), (965, 66, 964, 39), (933, 66, 932, 34), (395, 60, 393, 394),
  (516, 63, 514, 515), (402, 63, 400, 401), (410, 62, 408, 409), (428, 62, 426, 427), (424, 62, 422, 423), (508, 62, 506, 507), (701, 65, 699, 700), (973, 66, 972, 41),
  (969, 66, 968, 40), (72, 58, 71, 0), (391, 58, 389, 390), (439, 58, 437, 438), (488, 58, 486, 487), (492, 58, 490, 491), (496, 58, 494, 495), (512, 58, 510, 511),
  (522, 58, 520, 521), (597, 58, 595, 596), (601, 58, 599, 600), (605, 58, 603, 604), (613, 58, 611, 612), (621, 58, 619, 620), (714, 58, 712, 713), (718, 58, 716, 717),
  (727, 58, 725, 726), (741, 58, 739, 740), (745, 58, 743, 744), (444, 58, 443, 1), (731, 58, 730, 29), (625, 58, 624, 17), (721, 58, 720, 0), (750, 66, 749, 0),
  (885, 66, 883, 884), (895, 66, 893, 894), (899, 66, 897, 898), (907, 66, 906, 30), (903, 66, 901, 902), (937, 66, 936, 35), (929, 66, 928, 33), (925, 66, 924, 32),
  (921, 66, 920, 31), (917, 66, 915, 916), (941, 66, 939, 940), (949, 66, 948, 36), (945, 66, 943, 944), (961, 66, 960, 38), (957, 66, 956, 37), (977, 66, 976, 42),
  (985, 66, 984, 44), (981, 66, 980, 43), (993, 66, 992, 46), (989, 66, 988, 45), (953, 66, 951, 952), (997, 66, 995, 996), (1001, 66, 999, 1000), (1005, 66, 1003, 1004),
  (1017, 66, 1016, 48), (1049, 66, 1048, 56), (1021, 66, 1020, 49), (1025, 66, 1024, 50), (1029, 66, 1028, 51), (1045, 66, 1044, 55), (1041, 66, 1040, 54), (1037, 66, 1036, 53),
  (1033, 66, 1032, 52), (1013, 66, 1012, 47), (1009, 66, 1007, 1008), (1053, 66, 1051, 1052), (1057, 66, 1055, 1056), (1063, 66, 1061, 1062), (1067, 66, 1065, 1066), (1071, 66, 1069, 1070),
  (93, 61, 92, 0), (609, 61, 607, 608), (539, 61, 537, 538), (545, 61, 544, 9), (549, 61, 548, 10), (556, 61, 554, 555), (560, 61, 559, 11), (569, 61, 567, 568),
  (585, 61, 583, 584), (617, 61, 615, 616), (589, 61, 588, 16), (573, 61, 572, 13), (581, 61, 580, 15), (577, 61, 576, 14), (86, 60, 85, 0), (406, 60, 404, 405),
  (418, 60, 417, 0), (500, 60, 498, 499), (504, 60, 503, 6), (526, 60, 524, 525), (530, 60, 529, 7), (535, 60, 534, 8), (565, 60, 564, 12), (111, 64, 110, 0),
  (80, 59, 79, 0), (710, 59, 708, 709), (629, 59, 627, 628), (634, 59, 633, 18), (651, 59, 650, 19), (693, 59, 692, 26), (660, 59, 659, 20), (664, 59, 663, 21),
  (669, 59, 668, 22), (675, 59, 674, 23), (681, 59, 680, 24), (689, 59, 688, 25), (697, 59, 696, 27), (706, 59, 705, 28), (261, 65, 260, 0), (638, 65, 636, 637),
  (643, 65, 641, 642), (685, 65, 683, 684), (655, 65, 653, 654), (99, 62, 98, 0), (593, 62, 591, 592), (448, 62, 446, 447), (452, 62, 451, 2), (474, 62, 473, 3),
  (478, 62, 477, 4), (483, 62, 482, 5), (105, 63, 104, 0), (735, 63, 733, 734)
]

def dfM : MethodName := ⟨"", "", ""⟩
def gx {α : Type} (d : α) (l : List α) (n : Nat) : α := (nth l n).getD d
def nm (y : Nat) : MethodName := gx dfM nmL y
def byt (y : Nat) : ByteArray := gx ⟨#[]⟩ byL y
def nl (y : Nat) : Nat := nd nlL y
def rt (y : Nat) : Option FieldType := gx none rtL y
def np (y : Nat) : Nat := nd npL y
def isS (y : Nat) : Bool := gx false stL y
def oc (y : Nat) : Nat := nd ocL y
def cn (c : Nat) : String := gx "" cnL c
def cd (y : Nat) : List AI := gx [] cdL y
def bp (y : Nat) : List Nat := gx [] bpL y
def bzm (y : Nat) : Bool := match rt y with
  | some .boolean => true
  | _ => false
def dfC : vw_C := ("", fun _ => ("", "", "", false), 0)
def kc (c : Nat) : vw_C := gx dfC vwCl c
def lenI : Instr → Nat
  | .iload _ | .aload _ | .lload _ | .istore _ | .astore _ | .lstore _ | .bipush _ | .ldc _ | .newarray _ => 2
  | .sipush _ | .ldc2_w _ | .iinc _ _ | .if_icmp _ _ | .ifCond _ _ | .goto _ | .ifnull _ | .ifnonnull _ | .getfield _ | .putfield _ | .invokevirtual _ | .invokestatic _ | .invokespecial _ | .new _ | .anewarray _ => 3
  | _ => 1
def tgt (b : List Nat) (i : Nat) (off : Int) (t : Nat) : Bool := decide ((nd b i : Int) + off = (nd b t : Int))
def tgs (b : List Nat) (i : Nat) : List Int → List Nat → Bool
  | [], [] => true
  | o :: os, t :: ts => tgt b i o t && tgs b i os ts
  | _, _ => false
def chkT (b : List Nat) (i : Nat) (ins : AI) : Bool := match ins.1, ins.2.1 with
  | .if_icmp _ o, [t] => tgt b i o t
  | .ifCond _ o, [t] => tgt b i o t
  | .goto o, [t] => tgt b i o t
  | .ifnull o, [t] => tgt b i o t
  | .ifnonnull o, [t] => tgt b i o t
  | .tableswitch d lo hi os, t :: ts => tgt b i d t && tgs b i os.toList ts && decide ((os.toList.length : Int) = hi - lo + 1)
  | .lookupswitch d ps, t :: ts => tgt b i d t && tgs b i (ps.toList.map (fun q => q.2)) ts && (ps.toList.zip (ps.toList.drop 1)).all (fun (a, next) => a.1 < next.1)
  | .if_icmp _ _, _ => false
  | .ifCond _ _, _ => false
  | .goto _, _ => false
  | .ifnull _, _ => false
  | .ifnonnull _, _ => false
  | .tableswitch _ _ _ _, _ => false
  | .lookupswitch _ _, _ => false
  | _, _ => true
def chkL (o : Nat) (b : List Nat) (i : Nat) (ins : AI) : Bool := match ins.1 with
  | .tableswitch _ _ _ _ => true
  | .lookupswitch _ _ => true
  | _ => decide (nd b (i + 1) = nd b i + lenI ins.1)
def chkK (o : Nat) (ins : AI) : Bool := match ins.1, ins.2.1 with
  | .getfield x, [c, k, q] => lkf.any (fun e => decide (e.1 = o) && decide (e.2.1 = x) && decide (e.2.2.1 = c) && decide (e.2.2.2.1 = k) && decide (e.2.2.2.2.1 = q)) && decide (ins.2.2 = (k : Int))
  | .putfield x, [c, k, q] => lkf.any (fun e => decide (e.1 = o) && decide (e.2.1 = x) && decide (e.2.2.1 = c) && decide (e.2.2.2.1 = k) && decide (e.2.2.2.2.1 = q)) && decide (ins.2.2 = (k : Int))
  | .getfield _, _ => false
  | .putfield _, _ => false
  | .invokevirtual x, [y, n, c, k] => lkm.any (fun e => decide (e.1 = o) && decide (e.2.1 = x) && decide (e.2.2.1 = y)) && !isS y && decide (n = np y + 1) && decide (cn (c - 1) = (nm y).cls) && decide (0 < c) && decide (c < 10) && chkR (rt y) k && decide ((nm y).name ≠ "<init>")
  | .invokevirtual _, _ => false
  | .invokestatic x, [y, n, c, k] => (lkm.any (fun e => decide (e.1 = o) && decide (e.2.1 = x) && decide (e.2.2.1 = y)) && decide ((nm y).cls = cn o) || lkn.any (fun e => decide (e.1 = o) && decide (e.2.1 = x) && decide (e.2.2.1 = y))) && isS y && decide (n = np y) && decide (c = 0) && chkR (rt y) k
  | .invokestatic x, [_] => lkx.any (fun e => decide (e.1 = o) && decide (e.2.1 = x))
  | .invokestatic _, _ => false
  | .ldc x, _ => lkc.any (fun e => decide (e.1 = o) && decide (e.2.1 = x) && decide (e.2.2.1 = ins.2.2))
  | .ldc2_w x, _ => lkl.any (fun e => decide (e.1 = o) && decide (e.2.1 = x) && decide (e.2.2.1 = ins.2.2))
  | .lconst n, _ => decide (ins.2.2 = ((n : Nat) : Int))
  | .iconst n, _ => decide (-1 ≤ n ∧ n ≤ 5)
  | .bipush n, _ => decide (-128 ≤ n ∧ n ≤ 127)
  | .sipush n, _ => decide (-32768 ≤ n ∧ n ≤ 32767)
  | .iinc _ n, _ => decide (-128 ≤ n ∧ n ≤ 127)
  | _, _ => true
where chkR : Option FieldType → Nat → Bool
  | none, 0 => true
  | some .int, 1 => true
  | some .boolean, 1 => true
  | some (.object _), 2 => true
  | _, _ => false
def chkI (o : Nat) (by0 : ByteArray) (b : List Nat) (i : Nat) (ins : AI) : Bool :=
  decide (decode by0 (nd b i) = .ok (ins.1, nd b (i + 1) - nd b i)) && chkT b i ins && chkL o b i ins && chkK o ins
def chkM (o : Nat) (by0 : ByteArray) (b : List Nat) : Nat → List AI → Bool
  | _, [] => true
  | i, ins :: l => chkI o by0 b i ins && chkM o by0 b (i + 1) l
theorem chkM_at {o : Nat} {by0 : ByteArray} {b : List Nat} : ∀ (l : List AI) (i k : Nat) (ins : AI), chkM o by0 b i l = true → nth l k = some ins → chkI o by0 b (i + k) ins = true
  | [], _, _, _, _, h => by simp [nth] at h
  | a :: l, i, 0, ins, h, hk => by
    simp only [nth, Option.some.injEq] at hk
    subst hk
    simp only [chkM, Bool.and_eq_true] at h
    exact h.1
  | a :: l, i, k + 1, ins, h, hk => by
    simp only [nth] at hk
    simp only [chkM, Bool.and_eq_true] at h
    have := chkM_at l (i + 1) k ins h.2 hk
    rw [show i + (k + 1) = i + 1 + k by omega]
    exact this
theorem chk_0 : chkM 2 prog_4_method_2_code bp_0 0 cd_0 = true := by decide +kernel
theorem chk_1 : chkM 2 prog_4_method_3_code bp_1 0 cd_1 = true := by decide +kernel
theorem chk_2 : chkM 2 prog_4_method_4_code bp_2 0 cd_2 = true := by decide +kernel
theorem chk_3 : chkM 7 prog_1_method_22_code bp_3 0 cd_3 = true := by decide +kernel
theorem chk_4 : chkM 7 prog_1_method_24_code bp_4 0 cd_4 = true := by decide +kernel
theorem chk_5 : chkM 7 prog_1_method_23_code bp_5 0 cd_5 = true := by decide +kernel
theorem chk_6 : chkM 7 prog_1_method_25_code bp_6 0 cd_6 = true := by decide +kernel
theorem chk_7 : chkM 7 prog_1_method_26_code bp_7 0 cd_7 = true := by decide +kernel
theorem chk_8 : chkM 7 prog_1_method_27_code bp_8 0 cd_8 = true := by decide +kernel
theorem chk_9 : chkM 8 prog_10_method_2_code bp_9 0 cd_9 = true := by decide +kernel
theorem chk_10 : chkM 8 prog_10_method_3_code bp_10 0 cd_10 = true := by decide +kernel
theorem chk_11 : chkM 8 prog_10_method_7_code bp_11 0 cd_11 = true := by decide +kernel
theorem chk_12 : chkM 8 prog_10_method_8_code bp_12 0 cd_12 = true := by decide +kernel
theorem chk_13 : chkM 8 prog_10_method_22_code bp_13 0 cd_13 = true := by decide +kernel
theorem chk_14 : chkM 8 prog_10_method_12_code bp_14 0 cd_14 = true := by decide +kernel
theorem chk_15 : chkM 1 prog_3_method_2_code bp_15 0 cd_15 = true := by decide +kernel
theorem chk_16 : chkM 6 prog_8_method_2_code bp_16 0 cd_16 = true := by decide +kernel
theorem chk_17 : chkM 6 prog_8_method_3_code bp_17 0 cd_17 = true := by decide +kernel
theorem chk_18 : chkM 5 prog_7_method_2_code bp_18 0 cd_18 = true := by decide +kernel
theorem chk_19 : chkM 5 prog_7_method_3_code bp_19 0 cd_19 = true := by decide +kernel
theorem chk_20 : chkM 5 prog_7_method_4_code bp_20 0 cd_20 = true := by decide +kernel
theorem chk_21 : chkM 5 prog_7_method_5_code bp_21 0 cd_21 = true := by decide +kernel
theorem chk_22 : chkM 4 prog_6_method_6_code bp_22 0 cd_22 = true := by decide +kernel
theorem chk_23 : chkM 8 prog_10_method_20_code bp_23 0 cd_23 = true := by decide +kernel
theorem chk_24 : chkM 8 prog_10_method_21_code bp_24 0 cd_24 = true := by decide +kernel
theorem chk_26 : chkM 7 prog_1_method_2_code bp_26 0 cd_26 = true := by decide +kernel
theorem chk_27 : chkM 7 prog_1_method_3_code bp_27 0 cd_27 = true := by decide +kernel
theorem chk_28 : chkM 7 prog_1_method_4_code bp_28 0 cd_28 = true := by decide +kernel
theorem chk_29 : chkM 7 prog_1_method_5_code bp_29 0 cd_29 = true := by decide +kernel
theorem chk_30 : chkM 7 prog_1_method_6_code bp_30 0 cd_30 = true := by decide +kernel
theorem chk_31 : chkM 7 prog_1_method_7_code bp_31 0 cd_31 = true := by decide +kernel
theorem chk_32 : chkM 7 prog_1_method_8_code bp_32 0 cd_32 = true := by decide +kernel
theorem chk_33 : chkM 7 prog_1_method_9_code bp_33 0 cd_33 = true := by decide +kernel
theorem chk_34 : chkM 7 prog_1_method_10_code bp_34 0 cd_34 = true := by decide +kernel
theorem chk_35 : chkM 7 prog_1_method_11_code bp_35 0 cd_35 = true := by decide +kernel
theorem chk_36 : chkM 7 prog_1_method_12_code bp_36 0 cd_36 = true := by decide +kernel
theorem chk_37 : chkM 7 prog_1_method_13_code bp_37 0 cd_37 = true := by decide +kernel
theorem chk_38 : chkM 7 prog_1_method_14_code bp_38 0 cd_38 = true := by decide +kernel
theorem chk_39 : chkM 7 prog_1_method_15_code bp_39 0 cd_39 = true := by decide +kernel
theorem chk_40 : chkM 7 prog_1_method_16_code bp_40 0 cd_40 = true := by decide +kernel
theorem chk_41 : chkM 7 prog_1_method_17_code bp_41 0 cd_41 = true := by decide +kernel
theorem chk_42 : chkM 7 prog_1_method_18_code bp_42 0 cd_42 = true := by decide +kernel
theorem chk_43 : chkM 7 prog_1_method_19_code bp_43 0 cd_43 = true := by decide +kernel
theorem chk_44 : chkM 7 prog_1_method_20_code bp_44 0 cd_44 = true := by decide +kernel
theorem chk_45 : chkM 7 prog_1_method_21_code bp_45 0 cd_45 = true := by decide +kernel
theorem chk_46 : chkM 7 prog_1_method_28_code bp_46 0 cd_46 = true := by decide +kernel
theorem chk_48 : chkM 8 prog_10_method_4_code bp_48 0 cd_48 = true := by decide +kernel
theorem chk_49 : chkM 8 prog_10_method_5_code bp_49 0 cd_49 = true := by decide +kernel
theorem chk_50 : chkM 8 prog_10_method_6_code bp_50 0 cd_50 = true := by decide +kernel
theorem chk_51 : chkM 8 prog_10_method_9_code bp_51 0 cd_51 = true := by decide +kernel
theorem chk_52 : chkM 8 prog_10_method_10_code bp_52 0 cd_52 = true := by decide +kernel
theorem chk_53 : chkM 8 prog_10_method_11_code bp_53 0 cd_53 = true := by decide +kernel
theorem chk_54 : chkM 8 prog_10_method_13_code bp_54 0 cd_54 = true := by decide +kernel
theorem chk_55 : chkM 8 prog_10_method_14_code bp_55 0 cd_55 = true := by decide +kernel
theorem chk_56 : chkM 8 prog_10_method_15_code bp_56 0 cd_56 = true := by decide +kernel
theorem chk_57 : chkM 8 prog_10_method_16_code bp_57 0 cd_57 = true := by decide +kernel
theorem chk_58 : chkM 8 prog_10_method_17_code bp_58 0 cd_58 = true := by decide +kernel
theorem chk_59 : chkM 8 prog_10_method_18_code bp_59 0 cd_59 = true := by decide +kernel
theorem chk_60 : chkM 8 prog_10_method_19_code bp_60 0 cd_60 = true := by decide +kernel
theorem chk_61 : chkM 8 prog_10_method_23_code bp_61 0 cd_61 = true := by decide +kernel
theorem chk_62 : chkM 8 prog_10_method_24_code bp_62 0 cd_62 = true := by decide +kernel
theorem chk_63 : chkM 8 prog_10_method_25_code bp_63 0 cd_63 = true := by decide +kernel
theorem chk_64 : chkM 8 prog_10_method_26_code bp_64 0 cd_64 = true := by decide +kernel
theorem chk_65 : chkM 8 prog_10_method_27_code bp_65 0 cd_65 = true := by decide +kernel
theorem chk_66 : chkM 8 prog_10_method_28_code bp_66 0 cd_66 = true := by decide +kernel
theorem chk_67 : chkM 8 prog_10_method_29_code bp_67 0 cd_67 = true := by decide +kernel
theorem chk_68 : chkM 8 prog_10_method_30_code bp_68 0 cd_68 = true := by decide +kernel
theorem chk_69 : chkM 8 prog_10_method_31_code bp_69 0 cd_69 = true := by decide +kernel
theorem chk_70 : chkM 8 prog_10_method_32_code bp_70 0 cd_70 = true := by decide +kernel
theorem chk_71 : chkM 8 prog_10_method_33_code bp_71 0 cd_71 = true := by decide +kernel
theorem chk_72 : chkM 8 prog_10_method_34_code bp_72 0 cd_72 = true := by decide +kernel
theorem chk_73 : chkM 8 prog_10_method_35_code bp_73 0 cd_73 = true := by decide +kernel
theorem chk_74 : chkM 8 prog_10_method_36_code bp_74 0 cd_74 = true := by decide +kernel
theorem chk_75 : chkM 8 prog_10_method_37_code bp_75 0 cd_75 = true := by decide +kernel
theorem chk_76 : chkM 8 prog_10_method_38_code bp_76 0 cd_76 = true := by decide +kernel
theorem chk_77 : chkM 8 prog_10_method_39_code bp_77 0 cd_77 = true := by decide +kernel
theorem chk_78 : chkM 8 prog_10_method_40_code bp_78 0 cd_78 = true := by decide +kernel
theorem chk_79 : chkM 8 prog_10_method_41_code bp_79 0 cd_79 = true := by decide +kernel
theorem chk_80 : chkM 8 prog_10_method_42_code bp_80 0 cd_80 = true := by decide +kernel
theorem chk_81 : chkM 8 prog_10_method_43_code bp_81 0 cd_81 = true := by decide +kernel
theorem chk_82 : chkM 8 prog_10_method_44_code bp_82 0 cd_82 = true := by decide +kernel
theorem chk_83 : chkM 8 prog_10_method_45_code bp_83 0 cd_83 = true := by decide +kernel
theorem chk_84 : chkM 8 prog_10_method_46_code bp_84 0 cd_84 = true := by decide +kernel
theorem chk_85 : chkM 8 prog_10_method_47_code bp_85 0 cd_85 = true := by decide +kernel
theorem chk_86 : chkM 8 prog_10_method_48_code bp_86 0 cd_86 = true := by decide +kernel
theorem chk_87 : chkM 8 prog_10_method_49_code bp_87 0 cd_87 = true := by decide +kernel
theorem chk_89 : chkM 0 prog_2_method_2_code bp_89 0 cd_89 = true := by decide +kernel
theorem chk_90 : chkM 0 prog_2_method_3_code bp_90 0 cd_90 = true := by decide +kernel
theorem chk_91 : chkM 0 prog_2_method_4_code bp_91 0 cd_91 = true := by decide +kernel
theorem chk_92 : chkM 0 prog_2_method_5_code bp_92 0 cd_92 = true := by decide +kernel
theorem chk_93 : chkM 0 prog_2_method_6_code bp_93 0 cd_93 = true := by decide +kernel
theorem chk_94 : chkM 0 prog_2_method_7_code bp_94 0 cd_94 = true := by decide +kernel
theorem chk_95 : chkM 0 prog_2_method_8_code bp_95 0 cd_95 = true := by decide +kernel
theorem chk_96 : chkM 0 prog_2_method_9_code bp_96 0 cd_96 = true := by decide +kernel
theorem chk_97 : chkM 0 prog_2_method_10_code bp_97 0 cd_97 = true := by decide +kernel
theorem chk_98 : chkM 0 prog_2_method_11_code bp_98 0 cd_98 = true := by decide +kernel
theorem chk_99 : chkM 0 prog_2_method_12_code bp_99 0 cd_99 = true := by decide +kernel
theorem chk_100 : chkM 0 prog_2_method_13_code bp_100 0 cd_100 = true := by decide +kernel
theorem chk_101 : chkM 0 prog_2_method_14_code bp_101 0 cd_101 = true := by decide +kernel
theorem chk_103 : chkM 1 prog_3_method_3_code bp_103 0 cd_103 = true := by decide +kernel
theorem chk_104 : chkM 1 prog_3_method_4_code bp_104 0 cd_104 = true := by decide +kernel
theorem chk_105 : chkM 1 prog_3_method_5_code bp_105 0 cd_105 = true := by decide +kernel
theorem chk_106 : chkM 1 prog_3_method_6_code bp_106 0 cd_106 = true := by decide +kernel
theorem chk_107 : chkM 1 prog_3_method_7_code bp_107 0 cd_107 = true := by decide +kernel
theorem chk_108 : chkM 1 prog_3_method_8_code bp_108 0 cd_108 = true := by decide +kernel
theorem chk_109 : chkM 1 prog_3_method_9_code bp_109 0 cd_109 = true := by decide +kernel
theorem chk_110 : chkM 1 prog_3_method_10_code bp_110 0 cd_110 = true := by decide +kernel
theorem chk_113 : chkM 3 prog_5_method_2_code bp_113 0 cd_113 = true := by decide +kernel
theorem chk_114 : chkM 3 prog_5_method_3_code bp_114 0 cd_114 = true := by decide +kernel
theorem chk_115 : chkM 3 prog_5_method_4_code bp_115 0 cd_115 = true := by decide +kernel
theorem chk_116 : chkM 3 prog_5_method_5_code bp_116 0 cd_116 = true := by decide +kernel
theorem chk_117 : chkM 3 prog_5_method_6_code bp_117 0 cd_117 = true := by decide +kernel
theorem chk_118 : chkM 3 prog_5_method_7_code bp_118 0 cd_118 = true := by decide +kernel
theorem chk_119 : chkM 3 prog_5_method_8_code bp_119 0 cd_119 = true := by decide +kernel
theorem chk_120 : chkM 3 prog_5_method_9_code bp_120 0 cd_120 = true := by decide +kernel
theorem chk_121 : chkM 3 prog_5_method_10_code bp_121 0 cd_121 = true := by decide +kernel
theorem chk_122 : chkM 3 prog_5_method_11_code bp_122 0 cd_122 = true := by decide +kernel
theorem chk_123 : chkM 3 prog_5_method_12_code bp_123 0 cd_123 = true := by decide +kernel
theorem chk_124 : chkM 3 prog_5_method_13_code bp_124 0 cd_124 = true := by decide +kernel
theorem chk_125 : chkM 3 prog_5_method_14_code bp_125 0 cd_125 = true := by decide +kernel
theorem chk_127 : chkM 4 prog_6_method_2_code bp_127 0 cd_127 = true := by decide +kernel
theorem chk_128 : chkM 4 prog_6_method_3_code bp_128 0 cd_128 = true := by decide +kernel
theorem chk_129 : chkM 4 prog_6_method_4_code bp_129 0 cd_129 = true := by decide +kernel
theorem chk_130 : chkM 4 prog_6_method_5_code bp_130 0 cd_130 = true := by decide +kernel
theorem chk_132 : chkM 5 prog_7_method_6_code bp_132 0 cd_132 = true := by decide +kernel
theorem chk_133 : chkM 5 prog_7_method_7_code bp_133 0 cd_133 = true := by decide +kernel
theorem chk_134 : chkM 5 prog_7_method_8_code bp_134 0 cd_134 = true := by decide +kernel
theorem chk_135 : chkM 5 prog_7_method_9_code bp_135 0 cd_135 = true := by decide +kernel
theorem chk_136 : chkM 5 prog_7_method_10_code bp_136 0 cd_136 = true := by decide +kernel
theorem chk_137 : chkM 5 prog_7_method_11_code bp_137 0 cd_137 = true := by decide +kernel
theorem chk_139 : chkM 6 prog_8_method_4_code bp_139 0 cd_139 = true := by decide +kernel
theorem chk_140 : chkM 9 code bp_140 0 cd_140 = true := by decide +kernel
def inL : List Nat := [25, 47, 88, 102, 111, 112, 126, 131, 138]
end
section
theorem gx_eq {α : Type} {d : α} {l : List α} {n : Nat} {a : α} (h : nth l n = some a) : gx d l n = a := by simp [gx, h]
def lw_at (i : Nat) (w : Cond) : Bool := decide (lw_tbl[i]? = some w)
theorem lw_mem {i : Nat} {w : Cond} (h : lw_at i w = true) : w ∈ lw_tbl := List.mem_of_getElem? (of_decide_eq_true h)
def fq (c k : Nat) : String × String × String × Bool := (kc (c - 1)).2.1 k
def tyq (q : Nat) (d : String) : Bool := match q with
  | 0 => decide (d = "I")
  | 1 => decide (d = "Z")
  | _ => !decide (d = "I") && !decide (d = "Z")
theorem lkf_ok : lkf.all (fun e => lw_at e.2.2.2.2.2 (.fieldLink (cn e.1) e.2.1 (kc (e.2.2.1 - 1)).1 (fq e.2.2.1 e.2.2.2.1).2.1 (fq e.2.2.1 e.2.2.2.1).2.2.1) && decide (e.2.2.2.1 < (kc (e.2.2.1 - 1)).2.2) && decide (0 < e.2.2.1) && decide (e.2.2.1 < 10) && tyq e.2.2.2.2.1 (fq e.2.2.1 e.2.2.2.1).2.2.1 && decide ((fq e.2.2.1 e.2.2.2.1).1 = (kc (e.2.2.1 - 1)).1) && (decide (e.2.2.2.2.1 = 2) || !(fq e.2.2.1 e.2.2.2.1).2.2.2)) = true := by decide +kernel
theorem lkm_ok : lkm.all (fun e => lw_at e.2.2.2 (.methodLink (cn e.1) e.2.1 (nm e.2.2.1))) = true := by decide +kernel
theorem lkn_ok : lkn.all (fun e => lw_at e.2.2.2 (.methodLinkNest (cn e.1) e.2.1 (nm e.2.2.1) "RegionStack")) = true := by decide +kernel
theorem lkx_ok : lkx.all (fun e => lw_at e.2.2 (.methodLink (cn e.1) e.2.1 Lib.Math.max.name)) = true := by decide +kernel
theorem lkc_ok : lkc.all (fun e => lw_at e.2.2.2 (.constant (cn e.1) e.2.1 (Int32.ofInt e.2.2.1)) && decide (-2147483648 ≤ e.2.2.1) && decide (e.2.2.1 ≤ 2147483647)) = true := by decide +kernel
theorem lkl_ok : lkl.all (fun e => lw_at e.2.2.2 (.constantLong (cn e.1) e.2.1 (Int64.ofInt e.2.2.1)) && decide (-2147483648 ≤ e.2.2.1) && decide (e.2.2.1 ≤ 2147483647)) = true := by decide +kernel
def plq (y : Nat) : Nat × Nat × Nat × Nat := gx (0, 0, 0, 0) plL y
def plOk (y : Nat) : Bool := lw_at (plq y).2.1 (.initialized (nm y).cls) && lw_at (plq y).2.2.1 (if isS y then .static (nm y) else .instanceMethod (nm y)) && (isS y || decide ((nm y).name = "<init>") || lw_at (plq y).2.2.2 (.selects (nm y).cls (nm y) (nm y))) && plainName (nm y).cls && decide ((nm y).cls ≠ "java/lang/invoke/MethodHandle" ∧ (nm y).cls ≠ "java/lang/invoke/VarHandle" ∧ (parseMethodDescriptor (nm y).desc).map (fun d => d.parameters.length) = some (np y)) && decide (nl y ≤ 13) && decide ((nm y).cls = cn (oc y)) && decide (np y + (if isS y then 0 else 1) ≤ nl y)
theorem pl_ok : (List.range 140).all plOk = true := by decide +kernel
theorem cn_kc : (List.range 9).all (fun c => decide (cn c = (kc c).1)) = true := by decide +kernel
def rtOk (y : Nat) : Bool := (cd y).all (fun ins => match ins.1 with
  | .ireturn => (match rt y with
    | some .int => true
    | some .boolean => true
    | _ => false)
  | .areturn => (match rt y with
    | some (.object _) => true
    | _ => false)
  | .return_ => (match rt y with
    | none => true
    | _ => false)
  | .lreturn => false
  | _ => true)
theorem rt_ok : (List.range 140).all rtOk = true := by decide +kernel
set_option maxRecDepth 100000 in
theorem pc_0 : lw_tbl[414]? = some (.code (nm 0) (byt 0) (nl 0) (rt 0)) := rfl
set_option maxRecDepth 100000 in
theorem pc_1 : lw_tbl[435]? = some (.code (nm 1) (byt 1) (nl 1) (rt 1)) := rfl
set_option maxRecDepth 100000 in
theorem pc_2 : lw_tbl[456]? = some (.code (nm 2) (byt 2) (nl 2) (rt 2)) := rfl
set_option maxRecDepth 100000 in
theorem pc_3 : lw_tbl[398]? = some (.code (nm 3) (byt 3) (nl 3) (rt 3)) := rfl
set_option maxRecDepth 100000 in
theorem pc_4 : lw_tbl[431]? = some (.code (nm 4) (byt 4) (nl 4) (rt 4)) := rfl
set_option maxRecDepth 100000 in
theorem pc_5 : lw_tbl[462]? = some (.code (nm 5) (byt 5) (nl 5) (rt 5)) := rfl
set_option maxRecDepth 100000 in
theorem pc_6 : lw_tbl[467]? = some (.code (nm 6) (byt 6) (nl 6) (rt 6)) := rfl
set_option maxRecDepth 100000 in
theorem pc_7 : lw_tbl[470]? = some (.code (nm 7) (byt 7) (nl 7) (rt 7)) := rfl
set_option maxRecDepth 100000 in
theorem pc_8 : lw_tbl[459]? = some (.code (nm 8) (byt 8) (nl 8) (rt 8)) := rfl
set_option maxRecDepth 100000 in
theorem pc_9 : lw_tbl[891]? = some (.code (nm 9) (byt 9) (nl 9) (rt 9)) := rfl
set_option maxRecDepth 100000 in
theorem pc_10 : lw_tbl[888]? = some (.code (nm 10) (byt 10) (nl 10) (rt 10)) := rfl
set_option maxRecDepth 100000 in
theorem pc_11 : lw_tbl[910]? = some (.code (nm 11) (byt 11) (nl 11) (rt 11)) := rfl
set_option maxRecDepth 100000 in
theorem pc_12 : lw_tbl[913]? = some (.code (nm 12) (byt 12) (nl 12) (rt 12)) := rfl
set_option maxRecDepth 100000 in
theorem pc_13 : lw_tbl[965]? = some (.code (nm 13) (byt 13) (nl 13) (rt 13)) := rfl
set_option maxRecDepth 100000 in
theorem pc_14 : lw_tbl[933]? = some (.code (nm 14) (byt 14) (nl 14) (rt 14)) := rfl
set_option maxRecDepth 100000 in
theorem pc_15 : lw_tbl[395]? = some (.code (nm 15) (byt 15) (nl 15) (rt 15)) := rfl
set_option maxRecDepth 100000 in
theorem pc_16 : lw_tbl[516]? = some (.code (nm 16) (byt 16) (nl 16) (rt 16)) := rfl
set_option maxRecDepth 100000 in
theorem pc_17 : lw_tbl[402]? = some (.code (nm 17) (byt 17) (nl 17) (rt 17)) := rfl
set_option maxRecDepth 100000 in
theorem pc_18 : lw_tbl[410]? = some (.code (nm 18) (byt 18) (nl 18) (rt 18)) := rfl
set_option maxRecDepth 100000 in
theorem pc_19 : lw_tbl[428]? = some (.code (nm 19) (byt 19) (nl 19) (rt 19)) := rfl
set_option maxRecDepth 100000 in
theorem pc_20 : lw_tbl[424]? = some (.code (nm 20) (byt 20) (nl 20) (rt 20)) := rfl
set_option maxRecDepth 100000 in
theorem pc_21 : lw_tbl[508]? = some (.code (nm 21) (byt 21) (nl 21) (rt 21)) := rfl
set_option maxRecDepth 100000 in
theorem pc_22 : lw_tbl[701]? = some (.code (nm 22) (byt 22) (nl 22) (rt 22)) := rfl
set_option maxRecDepth 100000 in
theorem pc_23 : lw_tbl[973]? = some (.code (nm 23) (byt 23) (nl 23) (rt 23)) := rfl
set_option maxRecDepth 100000 in
theorem pc_24 : lw_tbl[969]? = some (.code (nm 24) (byt 24) (nl 24) (rt 24)) := rfl
set_option maxRecDepth 100000 in
theorem pc_25 : lw_tbl[72]? = some (.code (nm 25) (byt 25) (nl 25) (rt 25)) := rfl
set_option maxRecDepth 100000 in
theorem pc_26 : lw_tbl[391]? = some (.code (nm 26) (byt 26) (nl 26) (rt 26)) := rfl
set_option maxRecDepth 100000 in
theorem pc_27 : lw_tbl[439]? = some (.code (nm 27) (byt 27) (nl 27) (rt 27)) := rfl
set_option maxRecDepth 100000 in
theorem pc_28 : lw_tbl[488]? = some (.code (nm 28) (byt 28) (nl 28) (rt 28)) := rfl
set_option maxRecDepth 100000 in
theorem pc_29 : lw_tbl[492]? = some (.code (nm 29) (byt 29) (nl 29) (rt 29)) := rfl
set_option maxRecDepth 100000 in
theorem pc_30 : lw_tbl[496]? = some (.code (nm 30) (byt 30) (nl 30) (rt 30)) := rfl
set_option maxRecDepth 100000 in
theorem pc_31 : lw_tbl[512]? = some (.code (nm 31) (byt 31) (nl 31) (rt 31)) := rfl
set_option maxRecDepth 100000 in
theorem pc_32 : lw_tbl[522]? = some (.code (nm 32) (byt 32) (nl 32) (rt 32)) := rfl
set_option maxRecDepth 100000 in
theorem pc_33 : lw_tbl[597]? = some (.code (nm 33) (byt 33) (nl 33) (rt 33)) := rfl
set_option maxRecDepth 100000 in
theorem pc_34 : lw_tbl[601]? = some (.code (nm 34) (byt 34) (nl 34) (rt 34)) := rfl
set_option maxRecDepth 100000 in
theorem pc_35 : lw_tbl[605]? = some (.code (nm 35) (byt 35) (nl 35) (rt 35)) := rfl
set_option maxRecDepth 100000 in
theorem pc_36 : lw_tbl[613]? = some (.code (nm 36) (byt 36) (nl 36) (rt 36)) := rfl
set_option maxRecDepth 100000 in
theorem pc_37 : lw_tbl[621]? = some (.code (nm 37) (byt 37) (nl 37) (rt 37)) := rfl
set_option maxRecDepth 100000 in
theorem pc_38 : lw_tbl[714]? = some (.code (nm 38) (byt 38) (nl 38) (rt 38)) := rfl
set_option maxRecDepth 100000 in
theorem pc_39 : lw_tbl[718]? = some (.code (nm 39) (byt 39) (nl 39) (rt 39)) := rfl
set_option maxRecDepth 100000 in
theorem pc_40 : lw_tbl[727]? = some (.code (nm 40) (byt 40) (nl 40) (rt 40)) := rfl
set_option maxRecDepth 100000 in
theorem pc_41 : lw_tbl[741]? = some (.code (nm 41) (byt 41) (nl 41) (rt 41)) := rfl
set_option maxRecDepth 100000 in
theorem pc_42 : lw_tbl[745]? = some (.code (nm 42) (byt 42) (nl 42) (rt 42)) := rfl
set_option maxRecDepth 100000 in
theorem pc_43 : lw_tbl[444]? = some (.code (nm 43) (byt 43) (nl 43) (rt 43)) := rfl
set_option maxRecDepth 100000 in
theorem pc_44 : lw_tbl[731]? = some (.code (nm 44) (byt 44) (nl 44) (rt 44)) := rfl
set_option maxRecDepth 100000 in
theorem pc_45 : lw_tbl[625]? = some (.code (nm 45) (byt 45) (nl 45) (rt 45)) := rfl
set_option maxRecDepth 100000 in
theorem pc_46 : lw_tbl[721]? = some (.code (nm 46) (byt 46) (nl 46) (rt 46)) := rfl
set_option maxRecDepth 100000 in
theorem pc_47 : lw_tbl[750]? = some (.code (nm 47) (byt 47) (nl 47) (rt 47)) := rfl
set_option maxRecDepth 100000 in
theorem pc_48 : lw_tbl[885]? = some (.code (nm 48) (byt 48) (nl 48) (rt 48)) := rfl
set_option maxRecDepth 100000 in
theorem pc_49 : lw_tbl[895]? = some (.code (nm 49) (byt 49) (nl 49) (rt 49)) := rfl
set_option maxRecDepth 100000 in
theorem pc_50 : lw_tbl[899]? = some (.code (nm 50) (byt 50) (nl 50) (rt 50)) := rfl
set_option maxRecDepth 100000 in
theorem pc_51 : lw_tbl[907]? = some (.code (nm 51) (byt 51) (nl 51) (rt 51)) := rfl
set_option maxRecDepth 100000 in
theorem pc_52 : lw_tbl[903]? = some (.code (nm 52) (byt 52) (nl 52) (rt 52)) := rfl
set_option maxRecDepth 100000 in
theorem pc_53 : lw_tbl[937]? = some (.code (nm 53) (byt 53) (nl 53) (rt 53)) := rfl
set_option maxRecDepth 100000 in
theorem pc_54 : lw_tbl[929]? = some (.code (nm 54) (byt 54) (nl 54) (rt 54)) := rfl
set_option maxRecDepth 100000 in
theorem pc_55 : lw_tbl[925]? = some (.code (nm 55) (byt 55) (nl 55) (rt 55)) := rfl
set_option maxRecDepth 100000 in
theorem pc_56 : lw_tbl[921]? = some (.code (nm 56) (byt 56) (nl 56) (rt 56)) := rfl
set_option maxRecDepth 100000 in
theorem pc_57 : lw_tbl[917]? = some (.code (nm 57) (byt 57) (nl 57) (rt 57)) := rfl
set_option maxRecDepth 100000 in
theorem pc_58 : lw_tbl[941]? = some (.code (nm 58) (byt 58) (nl 58) (rt 58)) := rfl
set_option maxRecDepth 100000 in
theorem pc_59 : lw_tbl[949]? = some (.code (nm 59) (byt 59) (nl 59) (rt 59)) := rfl
set_option maxRecDepth 100000 in
theorem pc_60 : lw_tbl[945]? = some (.code (nm 60) (byt 60) (nl 60) (rt 60)) := rfl
set_option maxRecDepth 100000 in
theorem pc_61 : lw_tbl[961]? = some (.code (nm 61) (byt 61) (nl 61) (rt 61)) := rfl
set_option maxRecDepth 100000 in
theorem pc_62 : lw_tbl[957]? = some (.code (nm 62) (byt 62) (nl 62) (rt 62)) := rfl
set_option maxRecDepth 100000 in
theorem pc_63 : lw_tbl[977]? = some (.code (nm 63) (byt 63) (nl 63) (rt 63)) := rfl
set_option maxRecDepth 100000 in
theorem pc_64 : lw_tbl[985]? = some (.code (nm 64) (byt 64) (nl 64) (rt 64)) := rfl
set_option maxRecDepth 100000 in
theorem pc_65 : lw_tbl[981]? = some (.code (nm 65) (byt 65) (nl 65) (rt 65)) := rfl
set_option maxRecDepth 100000 in
theorem pc_66 : lw_tbl[993]? = some (.code (nm 66) (byt 66) (nl 66) (rt 66)) := rfl
set_option maxRecDepth 100000 in
theorem pc_67 : lw_tbl[989]? = some (.code (nm 67) (byt 67) (nl 67) (rt 67)) := rfl
set_option maxRecDepth 100000 in
theorem pc_68 : lw_tbl[953]? = some (.code (nm 68) (byt 68) (nl 68) (rt 68)) := rfl
set_option maxRecDepth 100000 in
theorem pc_69 : lw_tbl[997]? = some (.code (nm 69) (byt 69) (nl 69) (rt 69)) := rfl
set_option maxRecDepth 100000 in
theorem pc_70 : lw_tbl[1001]? = some (.code (nm 70) (byt 70) (nl 70) (rt 70)) := rfl
set_option maxRecDepth 100000 in
theorem pc_71 : lw_tbl[1005]? = some (.code (nm 71) (byt 71) (nl 71) (rt 71)) := rfl
set_option maxRecDepth 100000 in
theorem pc_72 : lw_tbl[1017]? = some (.code (nm 72) (byt 72) (nl 72) (rt 72)) := rfl
set_option maxRecDepth 100000 in
theorem pc_73 : lw_tbl[1049]? = some (.code (nm 73) (byt 73) (nl 73) (rt 73)) := rfl
set_option maxRecDepth 100000 in
theorem pc_74 : lw_tbl[1021]? = some (.code (nm 74) (byt 74) (nl 74) (rt 74)) := rfl
set_option maxRecDepth 100000 in
theorem pc_75 : lw_tbl[1025]? = some (.code (nm 75) (byt 75) (nl 75) (rt 75)) := rfl
set_option maxRecDepth 100000 in
theorem pc_76 : lw_tbl[1029]? = some (.code (nm 76) (byt 76) (nl 76) (rt 76)) := rfl
set_option maxRecDepth 100000 in
theorem pc_77 : lw_tbl[1045]? = some (.code (nm 77) (byt 77) (nl 77) (rt 77)) := rfl
set_option maxRecDepth 100000 in
theorem pc_78 : lw_tbl[1041]? = some (.code (nm 78) (byt 78) (nl 78) (rt 78)) := rfl
set_option maxRecDepth 100000 in
theorem pc_79 : lw_tbl[1037]? = some (.code (nm 79) (byt 79) (nl 79) (rt 79)) := rfl
set_option maxRecDepth 100000 in
theorem pc_80 : lw_tbl[1033]? = some (.code (nm 80) (byt 80) (nl 80) (rt 80)) := rfl
set_option maxRecDepth 100000 in
theorem pc_81 : lw_tbl[1013]? = some (.code (nm 81) (byt 81) (nl 81) (rt 81)) := rfl
set_option maxRecDepth 100000 in
theorem pc_82 : lw_tbl[1009]? = some (.code (nm 82) (byt 82) (nl 82) (rt 82)) := rfl
set_option maxRecDepth 100000 in
theorem pc_83 : lw_tbl[1053]? = some (.code (nm 83) (byt 83) (nl 83) (rt 83)) := rfl
set_option maxRecDepth 100000 in
theorem pc_84 : lw_tbl[1057]? = some (.code (nm 84) (byt 84) (nl 84) (rt 84)) := rfl
set_option maxRecDepth 100000 in
theorem pc_85 : lw_tbl[1063]? = some (.code (nm 85) (byt 85) (nl 85) (rt 85)) := rfl
set_option maxRecDepth 100000 in
theorem pc_86 : lw_tbl[1067]? = some (.code (nm 86) (byt 86) (nl 86) (rt 86)) := rfl
set_option maxRecDepth 100000 in
theorem pc_87 : lw_tbl[1071]? = some (.code (nm 87) (byt 87) (nl 87) (rt 87)) := rfl
set_option maxRecDepth 100000 in
theorem pc_88 : lw_tbl[93]? = some (.code (nm 88) (byt 88) (nl 88) (rt 88)) := rfl
set_option maxRecDepth 100000 in
theorem pc_89 : lw_tbl[609]? = some (.code (nm 89) (byt 89) (nl 89) (rt 89)) := rfl
set_option maxRecDepth 100000 in
theorem pc_90 : lw_tbl[539]? = some (.code (nm 90) (byt 90) (nl 90) (rt 90)) := rfl
set_option maxRecDepth 100000 in
theorem pc_91 : lw_tbl[545]? = some (.code (nm 91) (byt 91) (nl 91) (rt 91)) := rfl
set_option maxRecDepth 100000 in
theorem pc_92 : lw_tbl[549]? = some (.code (nm 92) (byt 92) (nl 92) (rt 92)) := rfl
set_option maxRecDepth 100000 in
theorem pc_93 : lw_tbl[556]? = some (.code (nm 93) (byt 93) (nl 93) (rt 93)) := rfl
set_option maxRecDepth 100000 in
theorem pc_94 : lw_tbl[560]? = some (.code (nm 94) (byt 94) (nl 94) (rt 94)) := rfl
set_option maxRecDepth 100000 in
theorem pc_95 : lw_tbl[569]? = some (.code (nm 95) (byt 95) (nl 95) (rt 95)) := rfl
set_option maxRecDepth 100000 in
theorem pc_96 : lw_tbl[585]? = some (.code (nm 96) (byt 96) (nl 96) (rt 96)) := rfl
set_option maxRecDepth 100000 in
theorem pc_97 : lw_tbl[617]? = some (.code (nm 97) (byt 97) (nl 97) (rt 97)) := rfl
set_option maxRecDepth 100000 in
theorem pc_98 : lw_tbl[589]? = some (.code (nm 98) (byt 98) (nl 98) (rt 98)) := rfl
set_option maxRecDepth 100000 in
theorem pc_99 : lw_tbl[573]? = some (.code (nm 99) (byt 99) (nl 99) (rt 99)) := rfl
set_option maxRecDepth 100000 in
theorem pc_100 : lw_tbl[581]? = some (.code (nm 100) (byt 100) (nl 100) (rt 100)) := rfl
set_option maxRecDepth 100000 in
theorem pc_101 : lw_tbl[577]? = some (.code (nm 101) (byt 101) (nl 101) (rt 101)) := rfl
set_option maxRecDepth 100000 in
theorem pc_102 : lw_tbl[86]? = some (.code (nm 102) (byt 102) (nl 102) (rt 102)) := rfl
set_option maxRecDepth 100000 in
theorem pc_103 : lw_tbl[406]? = some (.code (nm 103) (byt 103) (nl 103) (rt 103)) := rfl
set_option maxRecDepth 100000 in
theorem pc_104 : lw_tbl[418]? = some (.code (nm 104) (byt 104) (nl 104) (rt 104)) := rfl
set_option maxRecDepth 100000 in
theorem pc_105 : lw_tbl[500]? = some (.code (nm 105) (byt 105) (nl 105) (rt 105)) := rfl
set_option maxRecDepth 100000 in
theorem pc_106 : lw_tbl[504]? = some (.code (nm 106) (byt 106) (nl 106) (rt 106)) := rfl
set_option maxRecDepth 100000 in
theorem pc_107 : lw_tbl[526]? = some (.code (nm 107) (byt 107) (nl 107) (rt 107)) := rfl
set_option maxRecDepth 100000 in
theorem pc_108 : lw_tbl[530]? = some (.code (nm 108) (byt 108) (nl 108) (rt 108)) := rfl
set_option maxRecDepth 100000 in
theorem pc_109 : lw_tbl[535]? = some (.code (nm 109) (byt 109) (nl 109) (rt 109)) := rfl
set_option maxRecDepth 100000 in
theorem pc_110 : lw_tbl[565]? = some (.code (nm 110) (byt 110) (nl 110) (rt 110)) := rfl
set_option maxRecDepth 100000 in
theorem pc_111 : lw_tbl[111]? = some (.code (nm 111) (byt 111) (nl 111) (rt 111)) := rfl
set_option maxRecDepth 100000 in
theorem pc_112 : lw_tbl[80]? = some (.code (nm 112) (byt 112) (nl 112) (rt 112)) := rfl
set_option maxRecDepth 100000 in
theorem pc_113 : lw_tbl[710]? = some (.code (nm 113) (byt 113) (nl 113) (rt 113)) := rfl
set_option maxRecDepth 100000 in
theorem pc_114 : lw_tbl[629]? = some (.code (nm 114) (byt 114) (nl 114) (rt 114)) := rfl
set_option maxRecDepth 100000 in
theorem pc_115 : lw_tbl[634]? = some (.code (nm 115) (byt 115) (nl 115) (rt 115)) := rfl
set_option maxRecDepth 100000 in
theorem pc_116 : lw_tbl[651]? = some (.code (nm 116) (byt 116) (nl 116) (rt 116)) := rfl
set_option maxRecDepth 100000 in
theorem pc_117 : lw_tbl[693]? = some (.code (nm 117) (byt 117) (nl 117) (rt 117)) := rfl
set_option maxRecDepth 100000 in
theorem pc_118 : lw_tbl[660]? = some (.code (nm 118) (byt 118) (nl 118) (rt 118)) := rfl
set_option maxRecDepth 100000 in
theorem pc_119 : lw_tbl[664]? = some (.code (nm 119) (byt 119) (nl 119) (rt 119)) := rfl
set_option maxRecDepth 100000 in
theorem pc_120 : lw_tbl[669]? = some (.code (nm 120) (byt 120) (nl 120) (rt 120)) := rfl
set_option maxRecDepth 100000 in
theorem pc_121 : lw_tbl[675]? = some (.code (nm 121) (byt 121) (nl 121) (rt 121)) := rfl
set_option maxRecDepth 100000 in
theorem pc_122 : lw_tbl[681]? = some (.code (nm 122) (byt 122) (nl 122) (rt 122)) := rfl
set_option maxRecDepth 100000 in
theorem pc_123 : lw_tbl[689]? = some (.code (nm 123) (byt 123) (nl 123) (rt 123)) := rfl
set_option maxRecDepth 100000 in
theorem pc_124 : lw_tbl[697]? = some (.code (nm 124) (byt 124) (nl 124) (rt 124)) := rfl
set_option maxRecDepth 100000 in
theorem pc_125 : lw_tbl[706]? = some (.code (nm 125) (byt 125) (nl 125) (rt 125)) := rfl
set_option maxRecDepth 100000 in
theorem pc_126 : lw_tbl[261]? = some (.code (nm 126) (byt 126) (nl 126) (rt 126)) := rfl
set_option maxRecDepth 100000 in
theorem pc_127 : lw_tbl[638]? = some (.code (nm 127) (byt 127) (nl 127) (rt 127)) := rfl
set_option maxRecDepth 100000 in
theorem pc_128 : lw_tbl[643]? = some (.code (nm 128) (byt 128) (nl 128) (rt 128)) := rfl
set_option maxRecDepth 100000 in
theorem pc_129 : lw_tbl[685]? = some (.code (nm 129) (byt 129) (nl 129) (rt 129)) := rfl
set_option maxRecDepth 100000 in
theorem pc_130 : lw_tbl[655]? = some (.code (nm 130) (byt 130) (nl 130) (rt 130)) := rfl
set_option maxRecDepth 100000 in
theorem pc_131 : lw_tbl[99]? = some (.code (nm 131) (byt 131) (nl 131) (rt 131)) := rfl
set_option maxRecDepth 100000 in
theorem pc_132 : lw_tbl[593]? = some (.code (nm 132) (byt 132) (nl 132) (rt 132)) := rfl
set_option maxRecDepth 100000 in
theorem pc_133 : lw_tbl[448]? = some (.code (nm 133) (byt 133) (nl 133) (rt 133)) := rfl
set_option maxRecDepth 100000 in
theorem pc_134 : lw_tbl[452]? = some (.code (nm 134) (byt 134) (nl 134) (rt 134)) := rfl
set_option maxRecDepth 100000 in
theorem pc_135 : lw_tbl[474]? = some (.code (nm 135) (byt 135) (nl 135) (rt 135)) := rfl
set_option maxRecDepth 100000 in
theorem pc_136 : lw_tbl[478]? = some (.code (nm 136) (byt 136) (nl 136) (rt 136)) := rfl
set_option maxRecDepth 100000 in
theorem pc_137 : lw_tbl[483]? = some (.code (nm 137) (byt 137) (nl 137) (rt 137)) := rfl
set_option maxRecDepth 100000 in
theorem pc_138 : lw_tbl[105]? = some (.code (nm 138) (byt 138) (nl 138) (rt 138)) := rfl
set_option maxRecDepth 100000 in
theorem pc_139 : lw_tbl[735]? = some (.code (nm 139) (byt 139) (nl 139) (rt 139)) := rfl
theorem pc_all {y : Nat} (hy : y < 140) : (Cond.code (nm y) (byt y) (nl y) (rt y)) ∈ lw_tbl := by
  match y, hy with
  | 0, _ => exact List.mem_of_getElem? pc_0
  | 1, _ => exact List.mem_of_getElem? pc_1
  | 2, _ => exact List.mem_of_getElem? pc_2
  | 3, _ => exact List.mem_of_getElem? pc_3
  | 4, _ => exact List.mem_of_getElem? pc_4
  | 5, _ => exact List.mem_of_getElem? pc_5
  | 6, _ => exact List.mem_of_getElem? pc_6
  | 7, _ => exact List.mem_of_getElem? pc_7
  | 8, _ => exact List.mem_of_getElem? pc_8
  | 9, _ => exact List.mem_of_getElem? pc_9
  | 10, _ => exact List.mem_of_getElem? pc_10
  | 11, _ => exact List.mem_of_getElem? pc_11
  | 12, _ => exact List.mem_of_getElem? pc_12
  | 13, _ => exact List.mem_of_getElem? pc_13
  | 14, _ => exact List.mem_of_getElem? pc_14
  | 15, _ => exact List.mem_of_getElem? pc_15
  | 16, _ => exact List.mem_of_getElem? pc_16
  | 17, _ => exact List.mem_of_getElem? pc_17
  | 18, _ => exact List.mem_of_getElem? pc_18
  | 19, _ => exact List.mem_of_getElem? pc_19
  | 20, _ => exact List.mem_of_getElem? pc_20
  | 21, _ => exact List.mem_of_getElem? pc_21
  | 22, _ => exact List.mem_of_getElem? pc_22
  | 23, _ => exact List.mem_of_getElem? pc_23
  | 24, _ => exact List.mem_of_getElem? pc_24
  | 25, _ => exact List.mem_of_getElem? pc_25
  | 26, _ => exact List.mem_of_getElem? pc_26
  | 27, _ => exact List.mem_of_getElem? pc_27
  | 28, _ => exact List.mem_of_getElem? pc_28
  | 29, _ => exact List.mem_of_getElem? pc_29
  | 30, _ => exact List.mem_of_getElem? pc_30
  | 31, _ => exact List.mem_of_getElem? pc_31
  | 32, _ => exact List.mem_of_getElem? pc_32
  | 33, _ => exact List.mem_of_getElem? pc_33
  | 34, _ => exact List.mem_of_getElem? pc_34
  | 35, _ => exact List.mem_of_getElem? pc_35
  | 36, _ => exact List.mem_of_getElem? pc_36
  | 37, _ => exact List.mem_of_getElem? pc_37
  | 38, _ => exact List.mem_of_getElem? pc_38
  | 39, _ => exact List.mem_of_getElem? pc_39
  | 40, _ => exact List.mem_of_getElem? pc_40
  | 41, _ => exact List.mem_of_getElem? pc_41
  | 42, _ => exact List.mem_of_getElem? pc_42
  | 43, _ => exact List.mem_of_getElem? pc_43
  | 44, _ => exact List.mem_of_getElem? pc_44
  | 45, _ => exact List.mem_of_getElem? pc_45
  | 46, _ => exact List.mem_of_getElem? pc_46
  | 47, _ => exact List.mem_of_getElem? pc_47
  | 48, _ => exact List.mem_of_getElem? pc_48
  | 49, _ => exact List.mem_of_getElem? pc_49
  | 50, _ => exact List.mem_of_getElem? pc_50
  | 51, _ => exact List.mem_of_getElem? pc_51
  | 52, _ => exact List.mem_of_getElem? pc_52
  | 53, _ => exact List.mem_of_getElem? pc_53
  | 54, _ => exact List.mem_of_getElem? pc_54
  | 55, _ => exact List.mem_of_getElem? pc_55
  | 56, _ => exact List.mem_of_getElem? pc_56
  | 57, _ => exact List.mem_of_getElem? pc_57
  | 58, _ => exact List.mem_of_getElem? pc_58
  | 59, _ => exact List.mem_of_getElem? pc_59
  | 60, _ => exact List.mem_of_getElem? pc_60
  | 61, _ => exact List.mem_of_getElem? pc_61
  | 62, _ => exact List.mem_of_getElem? pc_62
  | 63, _ => exact List.mem_of_getElem? pc_63
  | 64, _ => exact List.mem_of_getElem? pc_64
  | 65, _ => exact List.mem_of_getElem? pc_65
  | 66, _ => exact List.mem_of_getElem? pc_66
  | 67, _ => exact List.mem_of_getElem? pc_67
  | 68, _ => exact List.mem_of_getElem? pc_68
  | 69, _ => exact List.mem_of_getElem? pc_69
  | 70, _ => exact List.mem_of_getElem? pc_70
  | 71, _ => exact List.mem_of_getElem? pc_71
  | 72, _ => exact List.mem_of_getElem? pc_72
  | 73, _ => exact List.mem_of_getElem? pc_73
  | 74, _ => exact List.mem_of_getElem? pc_74
  | 75, _ => exact List.mem_of_getElem? pc_75
  | 76, _ => exact List.mem_of_getElem? pc_76
  | 77, _ => exact List.mem_of_getElem? pc_77
  | 78, _ => exact List.mem_of_getElem? pc_78
  | 79, _ => exact List.mem_of_getElem? pc_79
  | 80, _ => exact List.mem_of_getElem? pc_80
  | 81, _ => exact List.mem_of_getElem? pc_81
  | 82, _ => exact List.mem_of_getElem? pc_82
  | 83, _ => exact List.mem_of_getElem? pc_83
  | 84, _ => exact List.mem_of_getElem? pc_84
  | 85, _ => exact List.mem_of_getElem? pc_85
  | 86, _ => exact List.mem_of_getElem? pc_86
  | 87, _ => exact List.mem_of_getElem? pc_87
  | 88, _ => exact List.mem_of_getElem? pc_88
  | 89, _ => exact List.mem_of_getElem? pc_89
  | 90, _ => exact List.mem_of_getElem? pc_90
  | 91, _ => exact List.mem_of_getElem? pc_91
  | 92, _ => exact List.mem_of_getElem? pc_92
  | 93, _ => exact List.mem_of_getElem? pc_93
  | 94, _ => exact List.mem_of_getElem? pc_94
  | 95, _ => exact List.mem_of_getElem? pc_95
  | 96, _ => exact List.mem_of_getElem? pc_96
  | 97, _ => exact List.mem_of_getElem? pc_97
  | 98, _ => exact List.mem_of_getElem? pc_98
  | 99, _ => exact List.mem_of_getElem? pc_99
  | 100, _ => exact List.mem_of_getElem? pc_100
  | 101, _ => exact List.mem_of_getElem? pc_101
  | 102, _ => exact List.mem_of_getElem? pc_102
  | 103, _ => exact List.mem_of_getElem? pc_103
  | 104, _ => exact List.mem_of_getElem? pc_104
  | 105, _ => exact List.mem_of_getElem? pc_105
  | 106, _ => exact List.mem_of_getElem? pc_106
  | 107, _ => exact List.mem_of_getElem? pc_107
  | 108, _ => exact List.mem_of_getElem? pc_108
  | 109, _ => exact List.mem_of_getElem? pc_109
  | 110, _ => exact List.mem_of_getElem? pc_110
  | 111, _ => exact List.mem_of_getElem? pc_111
  | 112, _ => exact List.mem_of_getElem? pc_112
  | 113, _ => exact List.mem_of_getElem? pc_113
  | 114, _ => exact List.mem_of_getElem? pc_114
  | 115, _ => exact List.mem_of_getElem? pc_115
  | 116, _ => exact List.mem_of_getElem? pc_116
  | 117, _ => exact List.mem_of_getElem? pc_117
  | 118, _ => exact List.mem_of_getElem? pc_118
  | 119, _ => exact List.mem_of_getElem? pc_119
  | 120, _ => exact List.mem_of_getElem? pc_120
  | 121, _ => exact List.mem_of_getElem? pc_121
  | 122, _ => exact List.mem_of_getElem? pc_122
  | 123, _ => exact List.mem_of_getElem? pc_123
  | 124, _ => exact List.mem_of_getElem? pc_124
  | 125, _ => exact List.mem_of_getElem? pc_125
  | 126, _ => exact List.mem_of_getElem? pc_126
  | 127, _ => exact List.mem_of_getElem? pc_127
  | 128, _ => exact List.mem_of_getElem? pc_128
  | 129, _ => exact List.mem_of_getElem? pc_129
  | 130, _ => exact List.mem_of_getElem? pc_130
  | 131, _ => exact List.mem_of_getElem? pc_131
  | 132, _ => exact List.mem_of_getElem? pc_132
  | 133, _ => exact List.mem_of_getElem? pc_133
  | 134, _ => exact List.mem_of_getElem? pc_134
  | 135, _ => exact List.mem_of_getElem? pc_135
  | 136, _ => exact List.mem_of_getElem? pc_136
  | 137, _ => exact List.mem_of_getElem? pc_137
  | 138, _ => exact List.mem_of_getElem? pc_138
  | 139, _ => exact List.mem_of_getElem? pc_139
  | y + 140, h => exact absurd h (by omega)
theorem lw_m2 : Jvm.Cond.initialized "java/lang/Math" ∈ lw_tbl := List.mem_of_getElem? (i := 67) (by decide +kernel)
theorem lw_m1 : Jvm.Cond.static Lib.Math.max.name ∈ lw_tbl := List.mem_of_getElem? (i := 646) (by decide +kernel)
set_option maxRecDepth 100000 in
theorem lw_m3 : Jvm.Cond.code Lib.Math.max.name Lib.Math.max.code 2 (some .int) ∈ lw_tbl := List.mem_of_getElem? (i := 647) (by decide +kernel)
def inWs (c : Nat) (ps : List Nat) : Bool := (u_ws (kc c).1 (kc c).2.1 (kc c).2.2).zip ps |>.all (fun q => lw_at q.2 q.1)
theorem lay_0 : ∀ w ∈ u_ws (kc 0).1 (kc 0).2.1 (kc 0).2.2, w ∈ lw_tbl := by
  have h : (u_ws (kc 0).1 (kc 0).2.1 (kc 0).2.2) = [224, 226, 228, 230, 232, 234, 236, 238, 240].filterMap (fun i => lw_tbl[i]?) := by decide +kernel
  intro w hw; rw [h] at hw; obtain ⟨i, -, hi⟩ := List.mem_filterMap.mp hw; exact List.mem_of_getElem? hi
theorem nmq_0 : ∀ a, a < (kc 0).2.2 → ∀ b, b < (kc 0).2.2 → a ≠ b → ((kc 0).2.1 a).2.1 ≠ ((kc 0).2.1 b).2.1 := by decide +kernel
theorem lay_1 : ∀ w ∈ u_ws (kc 1).1 (kc 1).2.1 (kc 1).2.2, w ∈ lw_tbl := by
  have h : (u_ws (kc 1).1 (kc 1).2.1 (kc 1).2.2) = [248, 250, 252, 254].filterMap (fun i => lw_tbl[i]?) := by decide +kernel
  intro w hw; rw [h] at hw; obtain ⟨i, -, hi⟩ := List.mem_filterMap.mp hw; exact List.mem_of_getElem? hi
theorem nmq_1 : ∀ a, a < (kc 1).2.2 → ∀ b, b < (kc 1).2.2 → a ≠ b → ((kc 1).2.1 a).2.1 ≠ ((kc 1).2.1 b).2.1 := by decide +kernel
theorem lay_2 : ∀ w ∈ u_ws (kc 2).1 (kc 2).2.1 (kc 2).2.2, w ∈ lw_tbl := by
  have h : (u_ws (kc 2).1 (kc 2).2.1 (kc 2).2.2) = [114].filterMap (fun i => lw_tbl[i]?) := by decide +kernel
  intro w hw; rw [h] at hw; obtain ⟨i, -, hi⟩ := List.mem_filterMap.mp hw; exact List.mem_of_getElem? hi
theorem nmq_2 : ∀ a, a < (kc 2).2.2 → ∀ b, b < (kc 2).2.2 → a ≠ b → ((kc 2).2.1 a).2.1 ≠ ((kc 2).2.1 b).2.1 := by decide +kernel
theorem lay_3 : ∀ w ∈ u_ws (kc 3).1 (kc 3).2.1 (kc 3).2.2, w ∈ lw_tbl := by
  have h : (u_ws (kc 3).1 (kc 3).2.1 (kc 3).2.2) = [334, 336, 338, 340, 342, 344, 346, 348, 350, 352, 354, 356, 358, 360, 362, 364, 366, 368].filterMap (fun i => lw_tbl[i]?) := by decide +kernel
  intro w hw; rw [h] at hw; obtain ⟨i, -, hi⟩ := List.mem_filterMap.mp hw; exact List.mem_of_getElem? hi
theorem nmq_3 : ∀ a, a < (kc 3).2.2 → ∀ b, b < (kc 3).2.2 → a ≠ b → ((kc 3).2.1 a).2.1 ≠ ((kc 3).2.1 b).2.1 := by decide +kernel
theorem lay_4 : ∀ w ∈ u_ws (kc 4).1 (kc 4).2.1 (kc 4).2.2, w ∈ lw_tbl := by
  have h : (u_ws (kc 4).1 (kc 4).2.1 (kc 4).2.2) = [285, 287, 289, 291, 293, 295, 297, 299, 301, 303, 305, 307, 309].filterMap (fun i => lw_tbl[i]?) := by decide +kernel
  intro w hw; rw [h] at hw; obtain ⟨i, -, hi⟩ := List.mem_filterMap.mp hw; exact List.mem_of_getElem? hi
theorem nmq_4 : ∀ a, a < (kc 4).2.2 → ∀ b, b < (kc 4).2.2 → a ≠ b → ((kc 4).2.1 a).2.1 ≠ ((kc 4).2.1 b).2.1 := by decide +kernel
theorem lay_5 : ∀ w ∈ u_ws (kc 5).1 (kc 5).2.1 (kc 5).2.2, w ∈ lw_tbl := by
  have h : (u_ws (kc 5).1 (kc 5).2.1 (kc 5).2.2) = [172, 174, 176, 178, 180, 182, 184, 186, 188, 190, 192].filterMap (fun i => lw_tbl[i]?) := by decide +kernel
  intro w hw; rw [h] at hw; obtain ⟨i, -, hi⟩ := List.mem_filterMap.mp hw; exact List.mem_of_getElem? hi
theorem nmq_5 : ∀ a, a < (kc 5).2.2 → ∀ b, b < (kc 5).2.2 → a ≠ b → ((kc 5).2.1 a).2.1 ≠ ((kc 5).2.1 b).2.1 := by decide +kernel
theorem lay_6 : ∀ w ∈ u_ws (kc 6).1 (kc 6).2.1 (kc 6).2.2, w ∈ lw_tbl := by
  have h : (u_ws (kc 6).1 (kc 6).2.1 (kc 6).2.2) = [137, 139, 141, 143].filterMap (fun i => lw_tbl[i]?) := by decide +kernel
  intro w hw; rw [h] at hw; obtain ⟨i, -, hi⟩ := List.mem_filterMap.mp hw; exact List.mem_of_getElem? hi
theorem nmq_6 : ∀ a, a < (kc 6).2.2 → ∀ b, b < (kc 6).2.2 → a ≠ b → ((kc 6).2.1 a).2.1 ≠ ((kc 6).2.1 b).2.1 := by decide +kernel
theorem lay_7 : ∀ w ∈ u_ws (kc 7).1 (kc 7).2.1 (kc 7).2.2, w ∈ lw_tbl := by
  have h : (u_ws (kc 7).1 (kc 7).2.1 (kc 7).2.2) = [378, 380, 382, 384].filterMap (fun i => lw_tbl[i]?) := by decide +kernel
  intro w hw; rw [h] at hw; obtain ⟨i, -, hi⟩ := List.mem_filterMap.mp hw; exact List.mem_of_getElem? hi
theorem nmq_7 : ∀ a, a < (kc 7).2.2 → ∀ b, b < (kc 7).2.2 → a ≠ b → ((kc 7).2.1 a).2.1 ≠ ((kc 7).2.1 b).2.1 := by decide +kernel
theorem lay_8 : ∀ w ∈ u_ws (kc 8).1 (kc 8).2.1 (kc 8).2.2, w ∈ lw_tbl := by
  have h : (u_ws (kc 8).1 (kc 8).2.1 (kc 8).2.2) = [795, 797, 799, 801, 803, 805, 807, 809, 811, 813, 815, 817, 819, 821, 823, 825, 827, 829, 831, 833, 835, 837, 839, 841, 843, 845, 847, 849, 851, 853, 855, 857, 859, 861, 863, 865, 867, 869, 871, 873, 875, 877, 879].filterMap (fun i => lw_tbl[i]?) := by decide +kernel
  intro w hw; rw [h] at hw; obtain ⟨i, -, hi⟩ := List.mem_filterMap.mp hw; exact List.mem_of_getElem? hi
theorem nmq_8 : ∀ a, a < (kc 8).2.2 → ∀ b, b < (kc 8).2.2 → a ≠ b → ((kc 8).2.1 a).2.1 ≠ ((kc 8).2.1 b).2.1 := by decide +kernel
def tyL : List (Nat → FieldType) := [tyX0, tyX1, tyX2, tyX3, tyX4, tyX5, tyX6, tyX7, tyX8]
def ty0 (c : Nat) : Nat → FieldType := gx (fun _ => .int) tyL c
theorem tyq_0 : ∀ k, k < (kc 0).2.2 → parseFieldDescriptor ((kc 0).2.1 k).2.2.1 = some (ty0 0 k) := by decide +kernel
theorem tyq_1 : ∀ k, k < (kc 1).2.2 → parseFieldDescriptor ((kc 1).2.1 k).2.2.1 = some (ty0 1 k) := by decide +kernel
theorem tyq_2 : ∀ k, k < (kc 2).2.2 → parseFieldDescriptor ((kc 2).2.1 k).2.2.1 = some (ty0 2 k) := by decide +kernel
theorem tyq_3 : ∀ k, k < (kc 3).2.2 → parseFieldDescriptor ((kc 3).2.1 k).2.2.1 = some (ty0 3 k) := by decide +kernel
theorem tyq_4 : ∀ k, k < (kc 4).2.2 → parseFieldDescriptor ((kc 4).2.1 k).2.2.1 = some (ty0 4 k) := by decide +kernel
theorem tyq_5 : ∀ k, k < (kc 5).2.2 → parseFieldDescriptor ((kc 5).2.1 k).2.2.1 = some (ty0 5 k) := by decide +kernel
theorem tyq_6 : ∀ k, k < (kc 6).2.2 → parseFieldDescriptor ((kc 6).2.1 k).2.2.1 = some (ty0 6 k) := by decide +kernel
theorem tyq_7 : ∀ k, k < (kc 7).2.2 → parseFieldDescriptor ((kc 7).2.1 k).2.2.1 = some (ty0 7 k) := by decide +kernel
theorem tyq_8 : ∀ k, k < (kc 8).2.2 → parseFieldDescriptor ((kc 8).2.1 k).2.2.1 = some (ty0 8 k) := by decide +kernel
theorem lay_all {c : Nat} (hc : c < 9) : ∀ w ∈ u_ws (kc c).1 (kc c).2.1 (kc c).2.2, w ∈ lw_tbl := by
  match c, hc with
  | 0, _ => exact lay_0
  | 1, _ => exact lay_1
  | 2, _ => exact lay_2
  | 3, _ => exact lay_3
  | 4, _ => exact lay_4
  | 5, _ => exact lay_5
  | 6, _ => exact lay_6
  | 7, _ => exact lay_7
  | 8, _ => exact lay_8
  | c + 9, h => exact absurd h (by omega)
theorem nmq_all {c : Nat} (hc : c < 9) : ∀ a, a < (kc c).2.2 → ∀ b, b < (kc c).2.2 → a ≠ b → ((kc c).2.1 a).2.1 ≠ ((kc c).2.1 b).2.1 := by
  match c, hc with
  | 0, _ => exact nmq_0
  | 1, _ => exact nmq_1
  | 2, _ => exact nmq_2
  | 3, _ => exact nmq_3
  | 4, _ => exact nmq_4
  | 5, _ => exact nmq_5
  | 6, _ => exact nmq_6
  | 7, _ => exact nmq_7
  | 8, _ => exact nmq_8
  | c + 9, h => exact absurd h (by omega)
theorem tyq_all {c : Nat} (hc : c < 9) : ∀ k, k < (kc c).2.2 → parseFieldDescriptor ((kc c).2.1 k).2.2.1 = some (ty0 c k) := by
  match c, hc with
  | 0, _ => exact tyq_0
  | 1, _ => exact tyq_1
  | 2, _ => exact tyq_2
  | 3, _ => exact tyq_3
  | 4, _ => exact tyq_4
  | 5, _ => exact tyq_5
  | 6, _ => exact tyq_6
  | 7, _ => exact tyq_7
  | 8, _ => exact tyq_8
  | c + 9, h => exact absurd h (by omega)
theorem kc_at {c : Nat} (hc : c < 9) : vwCl[c]? = some (kc c) := by
  match c, hc with
  | 0, _ => rfl
  | 1, _ => rfl
  | 2, _ => rfl
  | 3, _ => rfl
  | 4, _ => rfl
  | 5, _ => rfl
  | 6, _ => rfl
  | 7, _ => rfl
  | 8, _ => rfl
  | c + 9, h => exact absurd h (by omega)
theorem chk_all {y : Nat} (hy : y < 141) (hn : y ∉ inL) : chkM (oc y) (byt y) (bp y) 0 (cd y) = true := by
  match y, hy, hn with
  | 0, _, _ => exact chk_0
  | 1, _, _ => exact chk_1
  | 2, _, _ => exact chk_2
  | 3, _, _ => exact chk_3
  | 4, _, _ => exact chk_4
  | 5, _, _ => exact chk_5
  | 6, _, _ => exact chk_6
  | 7, _, _ => exact chk_7
  | 8, _, _ => exact chk_8
  | 9, _, _ => exact chk_9
  | 10, _, _ => exact chk_10
  | 11, _, _ => exact chk_11
  | 12, _, _ => exact chk_12
  | 13, _, _ => exact chk_13
  | 14, _, _ => exact chk_14
  | 15, _, _ => exact chk_15
  | 16, _, _ => exact chk_16
  | 17, _, _ => exact chk_17
  | 18, _, _ => exact chk_18
  | 19, _, _ => exact chk_19
  | 20, _, _ => exact chk_20
  | 21, _, _ => exact chk_21
  | 22, _, _ => exact chk_22
  | 23, _, _ => exact chk_23
  | 24, _, _ => exact chk_24
  | 25, _, h => exact absurd (by decide) h
  | 26, _, _ => exact chk_26
  | 27, _, _ => exact chk_27
  | 28, _, _ => exact chk_28
  | 29, _, _ => exact chk_29
  | 30, _, _ => exact chk_30
  | 31, _, _ => exact chk_31
  | 32, _, _ => exact chk_32
  | 33, _, _ => exact chk_33
  | 34, _, _ => exact chk_34
  | 35, _, _ => exact chk_35
  | 36, _, _ => exact chk_36
  | 37, _, _ => exact chk_37
  | 38, _, _ => exact chk_38
  | 39, _, _ => exact chk_39
  | 40, _, _ => exact chk_40
  | 41, _, _ => exact chk_41
  | 42, _, _ => exact chk_42
  | 43, _, _ => exact chk_43
  | 44, _, _ => exact chk_44
  | 45, _, _ => exact chk_45
  | 46, _, _ => exact chk_46
  | 47, _, h => exact absurd (by decide) h
  | 48, _, _ => exact chk_48
  | 49, _, _ => exact chk_49
  | 50, _, _ => exact chk_50
  | 51, _, _ => exact chk_51
  | 52, _, _ => exact chk_52
  | 53, _, _ => exact chk_53
  | 54, _, _ => exact chk_54
  | 55, _, _ => exact chk_55
  | 56, _, _ => exact chk_56
  | 57, _, _ => exact chk_57
  | 58, _, _ => exact chk_58
  | 59, _, _ => exact chk_59
  | 60, _, _ => exact chk_60
  | 61, _, _ => exact chk_61
  | 62, _, _ => exact chk_62
  | 63, _, _ => exact chk_63
  | 64, _, _ => exact chk_64
  | 65, _, _ => exact chk_65
  | 66, _, _ => exact chk_66
  | 67, _, _ => exact chk_67
  | 68, _, _ => exact chk_68
  | 69, _, _ => exact chk_69
  | 70, _, _ => exact chk_70
  | 71, _, _ => exact chk_71
  | 72, _, _ => exact chk_72
  | 73, _, _ => exact chk_73
  | 74, _, _ => exact chk_74
  | 75, _, _ => exact chk_75
  | 76, _, _ => exact chk_76
  | 77, _, _ => exact chk_77
  | 78, _, _ => exact chk_78
  | 79, _, _ => exact chk_79
  | 80, _, _ => exact chk_80
  | 81, _, _ => exact chk_81
  | 82, _, _ => exact chk_82
  | 83, _, _ => exact chk_83
  | 84, _, _ => exact chk_84
  | 85, _, _ => exact chk_85
  | 86, _, _ => exact chk_86
  | 87, _, _ => exact chk_87
  | 88, _, h => exact absurd (by decide) h
  | 89, _, _ => exact chk_89
  | 90, _, _ => exact chk_90
  | 91, _, _ => exact chk_91
  | 92, _, _ => exact chk_92
  | 93, _, _ => exact chk_93
  | 94, _, _ => exact chk_94
  | 95, _, _ => exact chk_95
  | 96, _, _ => exact chk_96
  | 97, _, _ => exact chk_97
  | 98, _, _ => exact chk_98
  | 99, _, _ => exact chk_99
  | 100, _, _ => exact chk_100
  | 101, _, _ => exact chk_101
  | 102, _, h => exact absurd (by decide) h
  | 103, _, _ => exact chk_103
  | 104, _, _ => exact chk_104
  | 105, _, _ => exact chk_105
  | 106, _, _ => exact chk_106
  | 107, _, _ => exact chk_107
  | 108, _, _ => exact chk_108
  | 109, _, _ => exact chk_109
  | 110, _, _ => exact chk_110
  | 111, _, h => exact absurd (by decide) h
  | 112, _, h => exact absurd (by decide) h
  | 113, _, _ => exact chk_113
  | 114, _, _ => exact chk_114
  | 115, _, _ => exact chk_115
  | 116, _, _ => exact chk_116
  | 117, _, _ => exact chk_117
  | 118, _, _ => exact chk_118
  | 119, _, _ => exact chk_119
  | 120, _, _ => exact chk_120
  | 121, _, _ => exact chk_121
  | 122, _, _ => exact chk_122
  | 123, _, _ => exact chk_123
  | 124, _, _ => exact chk_124
  | 125, _, _ => exact chk_125
  | 126, _, h => exact absurd (by decide) h
  | 127, _, _ => exact chk_127
  | 128, _, _ => exact chk_128
  | 129, _, _ => exact chk_129
  | 130, _, _ => exact chk_130
  | 131, _, h => exact absurd (by decide) h
  | 132, _, _ => exact chk_132
  | 133, _, _ => exact chk_133
  | 134, _, _ => exact chk_134
  | 135, _, _ => exact chk_135
  | 136, _, _ => exact chk_136
  | 137, _, _ => exact chk_137
  | 138, _, h => exact absurd (by decide) h
  | 139, _, _ => exact chk_139
  | 140, _, _ => exact chk_140
  | y + 141, h, _ => exact absurd h (by omega)
end
section
def stl : List AV → Nat → AV → List AV
  | [], _, _ => []
  | _ :: l, 0, v => v :: l
  | a :: l, n + 1, v => a :: stl l n v
def up (σ : SS) (t : Nat) (i j v : Int) : SS := fun t' i' j' => if t' = t ∧ i' = i ∧ j' = j then v else σ t' i' j'
def ir (x : Int) : Prop := -2147483648 ≤ x ∧ x ≤ 2147483647
def il (x : Int) : Prop := -9223372036854775808 ≤ x ∧ x ≤ 9223372036854775807
def lc (x y : Int) : Int := if x > y then 1 else if x = y then 0 else -1
/-- what stands just below a place that is written goes, if it was a long -/
def kl : List AV → Nat → List AV
  | l, 0 => l
  | l, n + 1 => match nth l n with
    | some (.inr (.inr (.inl _))) => stl l n vu
    | _ => l
def cls (t : Nat) : Nat := nd clsL t
def ak (t : Nat) : Nat := nd akL t
def aln (σ : SS) (t : Nat) : Int := bif Nat.beq t 99 then σ 99 0 (-1) else ndI alL t
def rf (t k : Nat) : Nat := nd (ndL rfL t) k
def el (t : Nat) : Nat := nd elL t
def pop : Nat → List AV → List AV → Option (List AV × List AV)
  | 0, acc, st => some (acc, st)
  | n + 1, acc, v :: st => pop n (v :: acc) st
  | _ + 1, _, [] => none
def cat1 : List AV → Bool
  | [] => true
  | .inr (.inr _) :: _ => false
  | _ :: l => cat1 l
def rcv : Nat → List AV → Bool
  | 0, _ => true
  | c + 1, .inr (.inl (some (t, _))) :: _ => Nat.beq (cls t) (c + 1)
  | _, _ => false
def n99 : List AV → Bool
  | [] => true
  | .inr (.inl (some (t, _))) :: l => !Nat.beq t 99 && n99 l
  | .inr (.inr _) :: _ => false
  | _ :: l => n99 l
def tsw (x : Int) (K : Nat → Prop) : Int → List Nat → Prop
  | _, [] => True
  | lo, t :: ts => (x = lo → K t) ∧ tsw x K (lo + 1) ts
def lsN (x : Int) : List (Int × Int) → Prop → Prop
  | [], A => A
  | (k, _) :: l, A => x ≠ k → lsN x l A
def lsw (x : Int) (K : Nat → Prop) : List (Int × Int) → List Nat → Prop
  | (k, _) :: l, t :: ts => (x = k → K t) ∧ lsw x K l ts
  | _, _ => True
def cnd (c : ClassFile.Cond) (x y : Int) (A B : Prop) : Prop := match c with
  | .eq => (x = y → A) ∧ (x ≠ y → B)
  | .ne => (x ≠ y → A) ∧ (x = y → B)
  | .lt => (x < y → A) ∧ (y ≤ x → B)
  | .ge => (y ≤ x → A) ∧ (x < y → B)
  | .gt => (y < x → A) ∧ (x ≤ y → B)
  | .le => (x ≤ y → A) ∧ (y < x → B)
abbrev KT : Type := Nat → List AV → List AV → SS → Prop
def aLd (K : KT) (i pc : Nat) (ls st : List AV) (σ : SS) : Prop := match nth ls i with
  | some (.inr (.inl r)) => K (pc + 1) ls (.inr (.inl r) :: st) σ
  | _ => False
def iLd (K : KT) (i pc : Nat) (ls st : List AV) (σ : SS) : Prop := match nth ls i with
  | some (.inl x) => K (pc + 1) ls (.inl x :: st) σ
  | _ => False
def lLd (K : KT) (i pc : Nat) (ls st : List AV) (σ : SS) : Prop := match nth ls i with
  | some (.inr (.inr (.inl x))) => K (pc + 1) ls (vl x :: st) σ
  | _ => False
def aSt (K : KT) (i pc : Nat) (ls st : List AV) (σ : SS) : Prop := match st with
  | .inr (.inl r) :: st => bif Nat.ble (i + 1) ls.length then K (pc + 1) (stl (kl ls i) i (.inr (.inl r))) st σ else False
  | _ => False
def iSt (K : KT) (i pc : Nat) (ls st : List AV) (σ : SS) : Prop := match st with
  | .inl x :: st => bif Nat.ble (i + 1) ls.length then K (pc + 1) (stl (kl ls i) i (.inl x)) st σ else False
  | _ => False
def lSt (K : KT) (i pc : Nat) (ls st : List AV) (σ : SS) : Prop := match st with
  | .inr (.inr (.inl x)) :: st => bif Nat.ble (i + 2) ls.length then K (pc + 1) (stl (stl (kl ls i) i (vl x)) (i + 1) vu) st σ else False
  | _ => False
abbrev CT : Type := Nat → List AV → SS → AV → SS → Prop
abbrev ST : Type := Nat → List AV → SS → Option (Option Prop × AV × SS)
/-- a call: [method, args, class + 1 of what it is called on or 0, kind of answer: 0 none, 1 int, 2 reference] -/
def acl (Cal : CT) (S : ST) (K : KT) (op : List Nat) (pc : Nat) (ls st : List AV) (σ : SS) : Prop := match op with
  | [y, n, c, k] => match pop n [] st with
    | some (as, st) => bif (Nat.ble st.length 8 && cat1 st) && (rcv c as && n99 as) then
        match S y as σ with
        | some (none, v, σ') => (match k with
          | 0 => K (pc + 1) ls st σ'
          | _ => K (pc + 1) ls (v :: st) σ')
        | some (some o, v, σ') => o ∧ (match k with
          | 0 => K (pc + 1) ls st σ'
          | _ => K (pc + 1) ls (v :: st) σ')
        | none => (match k with
          | 0 => ∃ σ', Cal y as σ vu σ' ∧ K (pc + 1) ls st σ'
          | 1 => ∃ x σ', Cal y as σ (.inl x) σ' ∧ K (pc + 1) ls (.inl x :: st) σ'
          | _ => ∃ r σ', Cal y as σ (.inr (.inl r)) σ' ∧ K (pc + 1) ls (.inr (.inl r) :: st) σ')
      else False
    | none => False
  | [_] => (match st with
    | .inl y :: .inl x :: st => bif cat1 st && Nat.ble st.length 8 then K (pc + 1) ls (.inl (max x y) :: st) σ else False
    | _ => False)
  | _ => False
def stp (Cal : CT) (S : ST) (ret : AV → SS → Prop) (K : KT) (bz : Bool) (ins : AI) (pc : Nat) (ls st : List AV) (σ : SS) : Prop :=
  match ins.1 with
  | .aload_n i => aLd K i.1 pc ls st σ
  | .aload i => aLd K i pc ls st σ
  | .iload_n i => iLd K i.1 pc ls st σ
  | .iload i => iLd K i pc ls st σ
  | .lload_n i => lLd K i.1 pc ls st σ
  | .lload i => lLd K i pc ls st σ
  | .astore_n i => aSt K i.1 pc ls st σ
  | .astore i => aSt K i pc ls st σ
  | .istore_n i => iSt K i.1 pc ls st σ
  | .istore i => iSt K i pc ls st σ
  | .lstore_n i => lSt K i.1 pc ls st σ
  | .lstore i => lSt K i pc ls st σ
  | .iconst n => K (pc + 1) ls (.inl n :: st) σ
  | .bipush n => K (pc + 1) ls (.inl n :: st) σ
  | .sipush n => K (pc + 1) ls (.inl n :: st) σ
  | .ldc _ => K (pc + 1) ls (.inl ins.2.2 :: st) σ
  | .ldc2_w _ => K (pc + 1) ls (vl ins.2.2 :: st) σ
  | .lconst _ => K (pc + 1) ls (vl ins.2.2 :: st) σ
  | .aconst_null => K (pc + 1) ls (vz :: st) σ
  | .iadd => (match st with
    | .inl y :: .inl x :: st => ir (x + y) ∧ K (pc + 1) ls (.inl (x + y) :: st) σ
    | _ => False)
  | .isub => (match st with
    | .inl y :: .inl x :: st => ir (x - y) ∧ K (pc + 1) ls (.inl (x - y) :: st) σ
    | _ => False)
  | .imul => (match st with
    | .inl y :: .inl x :: st => ir (x * y) ∧ K (pc + 1) ls (.inl (x * y) :: st) σ
    | _ => False)
  | .idiv => (match st with
    | .inl y :: .inl x :: st => (0 ≤ x ∧ 0 < y) ∧ K (pc + 1) ls (.inl (x / y) :: st) σ
    | _ => False)
  | .irem => (match st with
    | .inl y :: .inl x :: st => (0 ≤ x ∧ 0 < y) ∧ K (pc + 1) ls (.inl (x % y) :: st) σ
    | _ => False)
  | .iand => (match ins.2.1, st with
    | [_], .inl y :: .inl x :: st => y = 31 ∧ K (pc + 1) ls (.inl (x % 32) :: st) σ
    | _, .inl y :: .inl x :: st => (0 ≤ x ∧ 0 ≤ y) ∧ K (pc + 1) ls (.inl ((x.toNat &&& y.toNat : Nat) : Int) :: st) σ
    | _, _ => False)
  | .ior => (match st with
    | .inl y :: .inl x :: st => (0 ≤ x ∧ 0 ≤ y) ∧ K (pc + 1) ls (.inl ((x.toNat ||| y.toNat : Nat) : Int) :: st) σ
    | _ => False)
  | .ladd => (match st with
    | .inr (.inr (.inl y)) :: .inr (.inr (.inl x)) :: st => il (x + y) ∧ K (pc + 1) ls (vl (x + y) :: st) σ
    | _ => False)
  | .lsub => (match st with
    | .inr (.inr (.inl y)) :: .inr (.inr (.inl x)) :: st => il (x - y) ∧ K (pc + 1) ls (vl (x - y) :: st) σ
    | _ => False)
  | .lmul => (match st with
    | .inr (.inr (.inl y)) :: .inr (.inr (.inl x)) :: st => il (x * y) ∧ K (pc + 1) ls (vl (x * y) :: st) σ
    | _ => False)
  | .ldiv => (match st with
    | .inr (.inr (.inl y)) :: .inr (.inr (.inl x)) :: st => (0 ≤ x ∧ 0 < y) ∧ K (pc + 1) ls (vl (x / y) :: st) σ
    | _ => False)
  | .lrem => (match st with
    | .inr (.inr (.inl y)) :: .inr (.inr (.inl x)) :: st => (0 ≤ x ∧ 0 < y) ∧ K (pc + 1) ls (vl (x % y) :: st) σ
    | _ => False)
  | .land => (match st with
    | .inr (.inr (.inl y)) :: .inr (.inr (.inl x)) :: st => (0 ≤ x ∧ y = 1) ∧ K (pc + 1) ls (vl (x % 2) :: st) σ
    | _ => False)
  | .lshl => (match st with
    | .inl y :: .inr (.inr (.inl x)) :: st => (0 ≤ x ∧ y = 23 ∧ il (x * 8388608)) ∧ K (pc + 1) ls (vl (x * 8388608) :: st) σ
    | _ => False)
  | .i2l => (match st with
    | .inl x :: st => K (pc + 1) ls (vl x :: st) σ
    | _ => False)
  | .l2i => (match st with
    | .inr (.inr (.inl x)) :: st => ir x ∧ K (pc + 1) ls (.inl x :: st) σ
    | _ => False)
  | .lcmp => (match st with
    | .inr (.inr (.inl y)) :: .inr (.inr (.inl x)) :: st => K (pc + 1) ls (.inl (lc x y) :: st) σ
    | _ => False)
  | .dup => (match st with
    | .inl x :: st => K (pc + 1) ls (.inl x :: .inl x :: st) σ
    | .inr (.inl r) :: st => K (pc + 1) ls (.inr (.inl r) :: .inr (.inl r) :: st) σ
    | _ => False)
  | .dup2 => (match st with
    | .inl x :: .inr (.inl r) :: st => K (pc + 1) ls (.inl x :: .inr (.inl r) :: .inl x :: .inr (.inl r) :: st) σ
    | _ => False)
  | .iinc i n => (match nth ls i with
    | some (.inl x) => ir (x + n) ∧ K (pc + 1) (stl (kl ls i) i (.inl (x + n))) st σ
    | _ => False)
  | .if_icmp c _ => (match ins.2.1, st with
    | [t], .inl y :: .inl x :: st => cnd c x y (K t ls st σ) (K (pc + 1) ls st σ)
    | _, _ => False)
  | .ifCond c _ => (match ins.2.1, st with
    | [t], .inl x :: st => cnd c x 0 (K t ls st σ) (K (pc + 1) ls st σ)
    | _, _ => False)
  | .ifnull _ => (match ins.2.1, st with
    | [t], .inr (.inl none) :: st => K t ls st σ
    | [_], .inr (.inl (some _)) :: st => K (pc + 1) ls st σ
    | _, _ => False)
  | .ifnonnull _ => (match ins.2.1, st with
    | [_], .inr (.inl none) :: st => K (pc + 1) ls st σ
    | [t], .inr (.inl (some _)) :: st => K t ls st σ
    | _, _ => False)
  | .goto _ => (match ins.2.1 with
    | [t] => K t ls st σ
    | _ => False)
  | .tableswitch _ lo hi _ => (match ins.2.1, st with
    | t :: ts, .inl x :: st => (x < lo ∨ hi < x → K t ls st σ) ∧ tsw x (fun t => K t ls st σ) lo ts
    | _, _ => False)
  | .lookupswitch _ ps => (match ins.2.1, st with
    | t :: ts, .inl x :: st => lsN x ps.toList (K t ls st σ) ∧ lsw x (fun t => K t ls st σ) ps.toList ts
    | _, _ => False)
  | .getfield _ => (match ins.2.1, st with
    | [c, k, q], .inr (.inl (some (t, i))) :: st => bif Nat.beq (cls t) c then
        (match q with
        | 2 => K (pc + 1) ls (vr (rf t k) i :: st) σ
        | _ => K (pc + 1) ls (.inl (σ t i ins.2.2) :: st) σ) else False
    | _, _ => False)
  | .putfield _ => (match ins.2.1, st with
    | [c, _, q], .inl x :: .inr (.inl (some (t, i))) :: st => bif Nat.beq (cls t) c then
        (match q with
        | 0 => K (pc + 1) ls st (up σ t i ins.2.2 x)
        | 1 => (x = 0 ∨ x = 1) ∧ K (pc + 1) ls st (up σ t i ins.2.2 x)
        | _ => False) else False
    | _, _ => False)
  | .iaload => (match st with
    | .inl j :: .inr (.inl (some (t, i))) :: st => bif Nat.beq (ak t) 1 then (0 ≤ j ∧ j < aln σ t) ∧ K (pc + 1) ls (.inl (σ t i j) :: st) σ else False
    | _ => False)
  | .baload => (match st with
    | .inl j :: .inr (.inl (some (t, i))) :: st => bif Nat.beq (ak t) 2 then (0 ≤ j ∧ j < aln σ t) ∧ K (pc + 1) ls (.inl (σ t i j) :: st) σ else False
    | _ => False)
  | .iastore => (match st with
    | .inl x :: .inl j :: .inr (.inl (some (t, i))) :: st => bif Nat.beq (ak t) 1 && !Nat.beq t 99 then (0 ≤ j ∧ j < aln σ t) ∧ K (pc + 1) ls st (up σ t i j x) else False
    | _ => False)
  | .bastore => (match st with
    | .inl x :: .inl j :: .inr (.inl (some (t, i))) :: st => bif Nat.beq (ak t) 2 then ((0 ≤ j ∧ j < aln σ t) ∧ (x = 0 ∨ x = 1)) ∧ K (pc + 1) ls st (up σ t i j x) else False
    | _ => False)
  | .aaload => (match st with
    | .inl j :: .inr (.inl (some (t, _))) :: st => bif Nat.ble 3 (ak t) then (0 ≤ j ∧ j < aln σ t) ∧ K (pc + 1) ls (vr (el t) j :: st) σ else False
    | _ => False)
  | .arraylength => (match st with
    | .inr (.inl (some (t, _))) :: st => bif Nat.beq (ak t) 0 then False else K (pc + 1) ls (.inl (aln σ t) :: st) σ
    | _ => False)
  | .invokevirtual _ => acl Cal S K ins.2.1 pc ls st σ
  | .invokestatic _ => acl Cal S K ins.2.1 pc ls st σ
  | .ireturn => (match st with
    | [.inl x] => bif bz then (x = 0 ∨ x = 1) ∧ ret (.inl x) σ else ret (.inl x) σ
    | _ => False)
  | .areturn => (match st with
    | [.inr (.inl r)] => ret (.inr (.inl r)) σ
    | _ => False)
  | .return_ => (match st with
    | [] => ret vu σ
    | _ => False)
  | _ => False
def noS : ST := fun _ _ _ => none
def lp (Cal : CT) (ret : AV → SS → Prop) (c : List AI) (bz : Bool) : Nat → KT
  | 0, _, _, _, _ => False
  | n + 1, pc, ls, st, σ => match nth c pc with
    | some ins => stp Cal noS ret (lp Cal ret c bz n) bz ins pc ls st σ
    | none => False
end
section
/-! ===== the layout: facts by table ===== -/
def ad (t i : Nat) : Nat := nd adB t + nd adS t * i
def cnt (t : Nat) : Nat := nd cntL t
def isI (d : String) : Bool := decide (d = "I") || decide (d = "Z")
def tbOk (t : Nat) : Bool := (List.range (cnt t)).all (fun i => decide (cellsL[ad t i]? = some (t, i))) && (decide (cls t = 0) || (decide (ak t = 0) && decide (cls t < 10) && (List.range (kc (cls t - 1)).2.2).all (fun k => if rf t k = 0 then isI ((kc (cls t - 1)).2.1 k).2.2.1 else !isI ((kc (cls t - 1)).2.1 k).2.2.1 && decide (cnt (rf t k) = cnt t)))) && (decide (ak t < 3) || decide ((cnt (el t) : Int) = ndI alL t)) && decide (0 ≤ ndI alL t) && decide (ndI alL t < 2147483648) && decide (ak t < 5) && (decide (cls t = 0) || decide (0 < cnt t)) && (decide (t = 99) || !decide (ak t = 0) || !decide (cls t = 0) || decide (cnt t = 0))
theorem tb_all : (List.range 100).all tbOk = true := by decide +kernel
def ceOk (k : Nat) : Bool := match cellsL[k]? with
  | some q => decide (ad q.1 q.2 = k) && decide (q.2 < cnt q.1) && decide (q.1 < 99)
  | none => decide (163 ≤ k)
theorem ce_all : (List.range 163).all ceOk = true := by decide +kernel
theorem ce_len : cellsL.length = 163 := by decide +kernel
theorem cnt_big {t : Nat} (h : 100 ≤ t) : cnt t = 0 := by
  have : ∀ (l : List Nat) (n : Nat), l.length ≤ n → nd l n = 0 := by
    intro l
    induction l with
    | nil => intro n _; cases n <;> rfl
    | cons a l ih => intro n hn; cases n with
      | zero => simp at hn
      | succ n => exact ih n (by simpa using hn)
  exact this cntL t (Nat.le_trans (by decide +kernel) h)
theorem tb {t : Nat} (h : t < 100) : tbOk t = true := List.all_eq_true.mp tb_all t (List.mem_range.mpr h)
theorem tb_cell {t i : Nat} (h : i < cnt t) : cellsL[ad t i]? = some (t, i) := by
  have ht : t < 100 := by
    rcases Nat.lt_or_ge t 100 with q | q
    · exact q
    · rw [cnt_big q] at h; omega
  have := tb ht
  simp only [tbOk, Bool.and_eq_true] at this
  exact of_decide_eq_true (List.all_eq_true.mp this.1.1.1.1.1.1.1 i (List.mem_range.mpr h))
theorem ce_at {k : Nat} {q : Nat × Nat} (h : cellsL[k]? = some q) : ad q.1 q.2 = k ∧ q.2 < cnt q.1 ∧ q.1 < 99 := by
  have hk : k < 163 := by rw [← ce_len]; exact (List.getElem?_eq_some_iff.mp h).1
  have := List.all_eq_true.mp ce_all k (List.mem_range.mpr hk)
  simp only [ceOk, h, Bool.and_eq_true, decide_eq_true_eq] at this
  exact ⟨this.1.1, this.1.2, this.2⟩
/-! ===== what the abstract stands for ===== -/
def tyA (cA : Nat → ClassId) : List (ClassId × FieldType) := [(cA 1, .int), (cA 2, .boolean), (cA 3, .object "RegionStack$Body"), (cA 4, .object "RegionStack$Text")]
def fV (N0 : Nat) (g : Int → Int) (t i k : Nat) : Value := match rf t k with
  | 0 => .int (Int32.ofInt (g k))
  | r + 1 => .ref (N0 + ad (r + 1) i)
def cF (cA : Nat → ClassId) (N0 : Nat) (g : Int → Int) (q : Nat × Nat) : va_E := match ak q.1 with
  | 0 => .inr (cls q.1 - 1, (List.range (kc (cls q.1 - 1)).2.2).map (fV N0 g q.1 q.2))
  | 1 => .inl (cA 1, (ndI alL q.1).toNat, .inl (fun j => Int32.ofInt (g j)))
  | 2 => .inl (cA 2, (ndI alL q.1).toNat, .inl (fun j => Int32.ofInt (g j)))
  | 3 => .inl (cA 3, (ndI alL q.1).toNat, .inr (.inr (.inr (.inr (fun j => some (N0 + ad (el q.1) j))))))
  | _ => .inl (cA 4, (ndI alL q.1).toNat, .inr (.inr (.inr (.inr (fun j => some (N0 + ad (el q.1) j))))))
def cE (cA : Nat → ClassId) (N0 : Nat) (σ : SS) (q : Nat × Nat) : va_E := cF cA N0 (σ q.1 q.2) q
def wsO (cA : Nat → ClassId) (N0 : Nat) (σ : SS) : va_W := cellsL.map (fun q => (N0 + ad q.1 q.2, cE cA N0 σ q))
def adr (N0 b t : Nat) (i : Int) : Nat := if t = 99 then b else N0 + ad t i.toNat
def cv (N0 b : Nat) : AV → Value
  | .inl x => .int (Int32.ofInt x)
  | .inr (.inl none) => .null
  | .inr (.inl (some (t, i))) => .ref (adr N0 b t i)
  | .inr (.inr (.inl x)) => .long (Int64.ofInt x)
  | .inr (.inr (.inr _)) => .null
def vd (t : Nat) (i : Int) : Prop := 0 ≤ i ∧ i < (cnt t : Int)
def okV (sc : Prop) : AV → Prop
  | .inl x => ir x
  | .inr (.inl none) => True
  | .inr (.inl (some (t, i))) => (t = 99 ∧ i = 0 ∧ sc) ∨ (t ≠ 99 ∧ vd t i)
  | .inr (.inr (.inl x)) => il x
  | .inr (.inr (.inr _)) => True
def okL (sc : Prop) (l : List AV) : Prop := ∀ v ∈ l, okV sc v
def InR (σ : SS) : Prop := ∀ t i j, ir (σ t i j)
def isU : AV → Bool
  | .inr (.inr (.inr _)) => true
  | _ => false
def LR (N0 b nL : Nat) (ls : Array Slot) (la : List AV) : Prop := la.length = nL ∧ ∃ l, lv_has ls nL l ∧ ∀ (i : Nat) (v : AV), nth la i = some v → isU v = false → (i, cv N0 b v) ∈ l
theorem LR.at {N0 b nL : Nat} {ls : Array Slot} {la : List AV} (h : LR N0 b nL ls la) {i : Nat} {v : AV} (hi : nth la i = some v) (hu : isU v = false) : ls[i]? = some (.val (cv N0 b v)) := by
  obtain ⟨-, l, h1, h2⟩ := h
  exact h1.2.2 _ (h2 i v hi hu)
theorem nth_lt {α : Type} : ∀ (l : List α) (i : Nat) (v : α), nth l i = some v → i < l.length
  | [], _, _, h => by simp [nth] at h
  | _ :: _, 0, _, _ => by simp
  | _ :: l, i + 1, v, h => by
    simp only [nth] at h
    have := nth_lt l i v h
    simp; omega
theorem nth_mem {α : Type} : ∀ (l : List α) (i : Nat) (v : α), nth l i = some v → v ∈ l
  | [], _, _, h => by simp [nth] at h
  | a :: _, 0, v, h => by simp only [nth, Option.some.injEq] at h; simp [h]
  | _ :: l, i + 1, v, h => List.mem_cons_of_mem _ (nth_mem l i v h)
theorem stl_len : ∀ (l : List AV) (i : Nat) (v : AV), (stl l i v).length = l.length
  | [], _, _ => rfl
  | _ :: _, 0, _ => rfl
  | _ :: l, i + 1, v => by simp [stl, stl_len l i v]
theorem nth_stl : ∀ (l : List AV) (i j : Nat) (v w : AV), nth (stl l i v) j = some w → (j = i ∧ w = v) ∨ (j ≠ i ∧ nth l j = some w)
  | [], _, _, _, _, h => by simp [stl, nth] at h
  | _ :: _, 0, 0, v, w, h => by simp only [stl, nth, Option.some.injEq] at h; exact Or.inl ⟨rfl, h.symm⟩
  | _ :: l, 0, j + 1, v, w, h => by simp only [stl, nth] at h; exact Or.inr ⟨by omega, h⟩
  | a :: l, i + 1, 0, v, w, h => by simp only [stl, nth] at h; exact Or.inr ⟨by omega, h⟩
  | a :: l, i + 1, j + 1, v, w, h => by
    simp only [stl, nth] at h
    rcases nth_stl l i j v w h with ⟨a, b⟩ | ⟨a, b⟩
    · exact Or.inl ⟨by omega, b⟩
    · exact Or.inr ⟨by omega, b⟩
theorem mem_stl : ∀ (l : List AV) (i : Nat) (v w : AV), w ∈ stl l i v → w = v ∨ w ∈ l
  | [], _, _, _, h => by simp [stl] at h
  | _ :: l, 0, v, w, h => by
    simp only [stl, List.mem_cons] at h
    rcases h with h | h
    · exact Or.inl h
    · exact Or.inr (List.mem_cons_of_mem _ h)
  | a :: l, i + 1, v, w, h => by
    simp only [stl, List.mem_cons] at h
    rcases h with h | h
    · exact Or.inr (by simp [h])
    · rcases mem_stl l i v w h with h | h
      · exact Or.inl h
      · exact Or.inr (List.mem_cons_of_mem _ h)
theorem kl_len (l : List AV) (i : Nat) : (kl l i).length = l.length := by
  cases i with
  | zero => rfl
  | succ n =>
    simp only [kl]
    split
    · exact stl_len _ _ _
    · rfl
theorem nth_kl {l : List AV} {i j : Nat} {w : AV} (h : nth (kl l i) j = some w) (hu : isU w = false) : nth l j = some w ∧ (j + 1 = i → ∀ x, w ≠ vl x) := by
  cases i with
  | zero => exact ⟨h, fun q => by omega⟩
  | succ n =>
    simp only [kl] at h
    split at h
    · rename_i x hx
      rcases nth_stl _ _ _ _ _ h with ⟨h1, h2⟩ | ⟨h1, h2⟩
      · rw [h2] at hu; simp [isU] at hu
      · exact ⟨h2, fun q => by omega⟩
    · rename_i hx
      refine ⟨h, fun q x hw => ?_⟩
      have : j = n := by omega
      subst this
      exact hx x (by rw [h, hw])
theorem mem_kl {l : List AV} {i : Nat} {w : AV} (h : w ∈ kl l i) : w = vu ∨ w ∈ l := by
  cases i with
  | zero => exact Or.inr h
  | succ n =>
    simp only [kl] at h
    split at h
    · exact mem_stl _ _ _ _ h
    · exact Or.inr h
theorem okL_stl {sc : Prop} {l : List AV} {i : Nat} {v : AV} (h : okL sc l) (hv : okV sc v) : okL sc (stl (kl l i) i v) := by
  intro w hw
  rcases mem_stl _ _ _ _ hw with h1 | h1
  · rw [h1]; exact hv
  · rcases mem_kl h1 with h1 | h1
    · rw [h1]; trivial
    · exact h w h1
theorem cat_cv {N0 b : Nat} (v : AV) : (cv N0 b v).category = 2 → ∃ x, v = vl x := by
  intro h
  rcases v with x | o | x | u
  · simp [cv, Value.category] at h
  · cases o <;> simp [cv, Value.category] at h
  · exact ⟨x, rfl⟩
  · simp [cv, Value.category] at h
/-- a value of one slot is written -/
theorem LR.set {N0 b nL : Nat} {ls' : Array Slot} {la : List AV} {l : List (Nat × Value)} {i : Nat} {v : AV} (hl : la.length = nL) (h2 : ∀ (i : Nat) (v : AV), nth la i = some v → isU v = false → (i, cv N0 b v) ∈ l)
    (h : lv_has ls' nL ((i, cv N0 b v) :: l.filter (fun q => !(q.1 == i) && !(q.1 + 1 == i && q.2.category == 2)))) : LR N0 b nL ls' (stl (kl la i) i v) := by
  refine ⟨by rw [stl_len, kl_len, hl], _, h, fun j w hw hu => ?_⟩
  rcases nth_stl _ _ _ _ _ hw with ⟨e1, e2⟩ | ⟨e1, e2⟩
  · subst e1; subst e2; exact List.mem_cons_self
  · obtain ⟨e3, e4⟩ := nth_kl e2 hu
    refine List.mem_cons_of_mem _ (List.mem_filter.mpr ⟨h2 j w e3 hu, ?_⟩)
    simp only [Bool.and_eq_true, Bool.not_eq_true', beq_eq_false_iff_ne, ne_eq, Bool.and_eq_false_iff, beq_eq_false_iff_ne]
    refine ⟨e1, ?_⟩
    by_cases q : j + 1 = i
    · refine Or.inr fun hc => ?_
      obtain ⟨x, hx⟩ := cat_cv w hc
      exact e4 q x hx
    · exact Or.inl q
theorem LR.setL {N0 b nL : Nat} {ls' : Array Slot} {la : List AV} {l : List (Nat × Value)} {i : Nat} {v : AV} (hl : la.length = nL) (h2 : ∀ (i : Nat) (v : AV), nth la i = some v → isU v = false → (i, cv N0 b v) ∈ l)
    (h : lv_has ls' nL ((i, cv N0 b v) :: l.filter (fun q => !(q.1 == i) && (!(q.1 == i + 1) && !(q.1 + 1 == i && q.2.category == 2))))) : LR N0 b nL ls' (stl (stl (kl la i) i v) (i + 1) vu) := by
  refine ⟨by rw [stl_len, stl_len, kl_len, hl], _, h, fun j w hw hu => ?_⟩
  rcases nth_stl _ _ _ _ _ hw with ⟨e1, e2⟩ | ⟨e0, e0'⟩
  · rw [e2] at hu; simp [isU] at hu
  rcases nth_stl _ _ _ _ _ e0' with ⟨e1, e2⟩ | ⟨e1, e2⟩
  · subst e1; subst e2; exact List.mem_cons_self
  · obtain ⟨e3, e4⟩ := nth_kl e2 hu
    refine List.mem_cons_of_mem _ (List.mem_filter.mpr ⟨h2 j w e3 hu, ?_⟩)
    simp only [Bool.and_eq_true, Bool.not_eq_true', beq_eq_false_iff_ne, ne_eq, Bool.and_eq_false_iff, beq_eq_false_iff_ne]
    refine ⟨e1, e0, ?_⟩
    by_cases q : j + 1 = i
    · refine Or.inr fun hc => ?_
      obtain ⟨x, hx⟩ := cat_cv w hc
      exact e4 q x hx
    · exact Or.inl q
/-! ===== Int32 and Int ===== -/
theorem oi_to {x : Int} (h : ir x) : (Int32.ofInt x).toInt = x := Int32.toInt_ofInt_of_le h.1 (by have := h.2; omega)
theorem oi_lt {x y : Int} (hx : ir x) (hy : ir y) : Int32.ofInt x < Int32.ofInt y ↔ x < y := by rw [Int32.lt_iff_toInt_lt, oi_to hx, oi_to hy]
theorem oi_le {x y : Int} (hx : ir x) (hy : ir y) : Int32.ofInt x ≤ Int32.ofInt y ↔ x ≤ y := by rw [Int32.le_iff_toInt_le, oi_to hx, oi_to hy]
theorem oi_eq {x y : Int} (hx : ir x) (hy : ir y) : Int32.ofInt x = Int32.ofInt y ↔ x = y := by rw [← Int32.toInt_inj, oi_to hx, oi_to hy]
theorem oi_0 : (0 : Int32) = Int32.ofInt 0 := rfl
theorem ir_0 : ir 0 := by unfold ir; omega
theorem oi_in {x : Int} {n : Nat} (hx : ir x) : vp_in (Int32.ofInt x) n ↔ 0 ≤ x ∧ x < n := by rw [vp_in_iff, oi_to hx]
theorem oi_nat {x : Int} (hx : ir x) (h : 0 ≤ x) : (Int32.ofInt x).toNatClampNeg = x.toNat := by rw [Int32.toNatClampNeg, oi_to hx]
theorem oi_div {x y : Int} (hx : ir x) (hy : ir y) (h : 0 ≤ x ∧ 0 < y) : Int32.ofInt x / Int32.ofInt y = Int32.ofInt (x / y) := by
  have h1 : x / y ≤ x := Int.ediv_le_self _ h.1
  have h2 : 0 ≤ x / y := Int.ediv_nonneg h.1 (by omega)
  have h3 : ir (x / y) := ⟨by omega, by have := hx.2; omega⟩
  rw [← Int32.toInt_inj, oi_to h3, Int32.toInt_div, oi_to hx, oi_to hy, Int.tdiv_eq_ediv_of_nonneg h.1]
  exact Int.bmod_eq_of_le (by have := h3.1; omega) (by have := h3.2; omega)
theorem oi_rem {x y : Int} (hx : ir x) (hy : ir y) (h : 0 ≤ x ∧ 0 < y) : Int32.ofInt x - Int32.ofInt x / Int32.ofInt y * Int32.ofInt y = Int32.ofInt (x % y) := by
  rw [oi_div hx hy h, ← Int32.ofInt_mul, ← Int32.ofInt_sub]
  congr 1
  rw [Int.emod_def, Int.mul_comm]
theorem ir_div {x y : Int} (hx : ir x) (h : 0 ≤ x ∧ 0 < y) : ir (x / y) := by
  have h1 : x / y ≤ x := Int.ediv_le_self _ h.1
  have h2 : 0 ≤ x / y := Int.ediv_nonneg h.1 (by omega)
  exact ⟨by omega, by have := hx.2; omega⟩
theorem ir_mod {x y : Int} (hy : ir y) (h : 0 ≤ x ∧ 0 < y) : ir (x % y) := by
  have h1 := Int.emod_lt_of_pos x h.2
  have h2 := Int.emod_nonneg x (show y ≠ 0 by omega)
  exact ⟨by omega, by have := hy.2; omega⟩
theorem ol_to {x : Int} (h : il x) : (Int64.ofInt x).toInt = x := Int64.toInt_ofInt_of_le h.1 (by have := h.2; omega)
theorem ol_lt {x y : Int} (hx : il x) (hy : il y) : Int64.ofInt x < Int64.ofInt y ↔ x < y := by rw [Int64.lt_iff_toInt_lt, ol_to hx, ol_to hy]
theorem ol_eq {x y : Int} (hx : il x) (hy : il y) : Int64.ofInt x = Int64.ofInt y ↔ x = y := by rw [← Int64.toInt_inj, ol_to hx, ol_to hy]
theorem ol_div {x y : Int} (hx : il x) (hy : il y) (h : 0 ≤ x ∧ 0 < y) : Int64.ofInt x / Int64.ofInt y = Int64.ofInt (x / y) := by
  have h1 : x / y ≤ x := Int.ediv_le_self _ h.1
  have h2 : 0 ≤ x / y := Int.ediv_nonneg h.1 (by omega)
  have h3 : il (x / y) := ⟨by omega, by have := hx.2; omega⟩
  rw [← Int64.toInt_inj, ol_to h3, Int64.toInt_div, ol_to hx, ol_to hy, Int.tdiv_eq_ediv_of_nonneg h.1]
  exact Int.bmod_eq_of_le (by have := h3.1; omega) (by have := h3.2; omega)
theorem ol_rem {x y : Int} (hx : il x) (hy : il y) (h : 0 ≤ x ∧ 0 < y) : Int64.ofInt x - Int64.ofInt x / Int64.ofInt y * Int64.ofInt y = Int64.ofInt (x % y) := by
  rw [ol_div hx hy h, ← Int64.ofInt_mul, ← Int64.ofInt_sub]
  congr 1
  rw [Int.emod_def, Int.mul_comm]
theorem il_div {x y : Int} (hx : il x) (h : 0 ≤ x ∧ 0 < y) : il (x / y) := by
  have h1 : x / y ≤ x := Int.ediv_le_self _ h.1
  have h2 : 0 ≤ x / y := Int.ediv_nonneg h.1 (by omega)
  exact ⟨by omega, by have := hx.2; omega⟩
theorem il_mod {x y : Int} (hy : il y) (h : 0 ≤ x ∧ 0 < y) : il (x % y) := by
  have h1 := Int.emod_lt_of_pos x h.2
  have h2 := Int.emod_nonneg x (show y ≠ 0 by omega)
  exact ⟨by omega, by have := hy.2; omega⟩
theorem il_ir {x : Int} (h : ir x) : il x := by unfold ir at h; unfold il; omega
theorem oi_l {x : Int} (h : ir x) : (Int32.ofInt x).toInt64 = Int64.ofInt x := by
  rw [← Int64.toInt_inj, Int32.toInt_toInt64, oi_to h, ol_to (il_ir h)]
theorem ol_i {x : Int} (h : ir x) : (Int64.ofInt x).toInt32 = Int32.ofInt x := by
  rw [← Int32.toInt_inj, Int64.toInt_toInt32, ol_to (il_ir h), oi_to h]
  exact Int.bmod_eq_of_le (by have := h.1; omega) (by have := h.2; omega)
theorem oi_nI {x : Int} (h : 0 ≤ x) : Int32.ofInt x = nI x.toNat := by
  obtain ⟨n, rfl⟩ := Int.eq_ofNat_of_zero_le h
  rfl
theorem oi_bits {x : Int} (h : ir x) (h0 : 0 ≤ x) : (Int32.ofInt x).toBitVec.toNat = x.toNat := by
  rw [oi_nI h0]; exact pk_tn (by have := h.2; omega)
theorem oi_and {x y : Int} (hx : ir x) (hy : ir y) (h : 0 ≤ x ∧ 0 ≤ y) : Int32.ofInt x &&& Int32.ofInt y = Int32.ofInt ((x.toNat &&& y.toNat : Nat) : Int) := by
  have e : ((x.toNat &&& y.toNat : Nat) : Int) ≤ x := by have := Nat.and_le_left (n := x.toNat) (m := y.toNat); omega
  have h3 : ir ((x.toNat &&& y.toNat : Nat) : Int) := ⟨by omega, by have := hx.2; omega⟩
  have : (Int32.ofInt x &&& Int32.ofInt y).toBitVec = (Int32.ofInt ((x.toNat &&& y.toNat : Nat) : Int)).toBitVec := by
    apply BitVec.eq_of_toNat_eq
    rw [Int32.toBitVec_and, BitVec.toNat_and, oi_bits hx h.1, oi_bits hy h.2, oi_bits h3 (by omega)]
    simp
  exact Int32.toBitVec_inj.mp this
theorem or_le {a b : Nat} (ha : a < 2147483648) (hb : b < 2147483648) : a ||| b < 2147483648 := Nat.or_lt_two_pow (n := 31) ha hb
theorem oi_or {x y : Int} (hx : ir x) (hy : ir y) (h : 0 ≤ x ∧ 0 ≤ y) : Int32.ofInt x ||| Int32.ofInt y = Int32.ofInt ((x.toNat ||| y.toNat : Nat) : Int) := by
  have e := or_le (a := x.toNat) (b := y.toNat) (by have := hx.2; omega) (by have := hy.2; omega)
  have h3 : ir ((x.toNat ||| y.toNat : Nat) : Int) := ⟨by omega, by omega⟩
  have : (Int32.ofInt x ||| Int32.ofInt y).toBitVec = (Int32.ofInt ((x.toNat ||| y.toNat : Nat) : Int)).toBitVec := by
    apply BitVec.eq_of_toNat_eq
    rw [Int32.toBitVec_or, BitVec.toNat_or, oi_bits hx h.1, oi_bits hy h.2, oi_bits h3 (by omega)]
    simp
  exact Int32.toBitVec_inj.mp this
theorem ir_or {x y : Int} (hx : ir x) (hy : ir y) : ir ((x.toNat ||| y.toNat : Nat) : Int) := by
  have e := or_le (a := x.toNat) (b := y.toNat) (by have := hx.2; omega) (by have := hy.2; omega)
  exact ⟨by omega, by omega⟩
theorem ir_and {x y : Int} (hx : ir x) : ir ((x.toNat &&& y.toNat : Nat) : Int) := by
  have := Nat.and_le_left (n := x.toNat) (m := y.toNat)
  exact ⟨by omega, by have := hx.2; have := hx.1; omega⟩
theorem oi_31 {x : Int} (hx : ir x) : Int32.ofInt x &&& Int32.ofInt 31 = Int32.ofInt (x % 32) := by
  rw [pk_and (Int32.ofInt x) (m := Int32.ofInt 31) 5 (by decide)]
  have h1 : (Int32.ofInt x).toBitVec.toInt = x := oi_to hx
  have h2 := BitVec.toInt_eq_toNat_cond (Int32.ofInt x).toBitVec
  rw [h1] at h2
  have h3 : ((Int32.ofInt x).toBitVec.toNat % 2 ^ 5 : Nat) = (x % 32).toNat := by
    split at h2 <;> omega
  rw [h3, oi_nI (by omega)]
theorem ol_and1 {x : Int} (hx : il x) (h0 : 0 ≤ x) : Int64.ofInt x &&& Int64.ofInt 1 = Int64.ofInt (x % 2) := by
  have h3 : il (x % 2) := by unfold il at *; omega
  have hb : ∀ z : Int, il z → 0 ≤ z → (Int64.ofInt z).toBitVec.toNat = z.toNat := by
    intro z hz h0
    have h1 : (Int64.ofInt z).toBitVec.toInt = z := ol_to hz
    have h2 := BitVec.toInt_eq_toNat_cond (Int64.ofInt z).toBitVec
    rw [h1] at h2
    split at h2
    · omega
    · have := (Int64.ofInt z).toBitVec.isLt; omega
  have : (Int64.ofInt x &&& Int64.ofInt 1).toBitVec = (Int64.ofInt (x % 2)).toBitVec := by
    apply BitVec.eq_of_toNat_eq
    rw [Int64.toBitVec_and, BitVec.toNat_and, hb _ hx h0, hb _ h3 (by omega), hb 1 (by unfold il; omega) (by omega)]
    rw [show (1 : Int).toNat = 2 ^ 1 - 1 from rfl, Nat.and_two_pow_sub_one_eq_mod]
    omega
  exact Int64.toBitVec_inj.mp this
theorem ol_shl {x : Int} (hx : il (x * 8388608)) (h0 : 0 ≤ x) : Int64.ofInt x <<< ((Int32.ofInt 23).toInt64 &&& 63) = Int64.ofInt (x * 8388608) := by
  have e : (Int32.ofInt 23).toInt64 &&& 63 = 23 := by decide
  rw [e, ← Int64.toBitVec_inj, Int64.toBitVec_shiftLeft, Int64.ofInt_mul, Int64.toBitVec_mul]
  apply BitVec.eq_of_toNat_eq
  rw [show ((23 : Int64).toBitVec.smod 64) = 23#64 by decide, BitVec.shiftLeft_eq', BitVec.toNat_shiftLeft, BitVec.toNat_mul, show (Int64.ofInt 8388608).toBitVec.toNat = 8388608 by decide, Nat.shiftLeft_eq, show (23#64).toNat = 23 by decide, show 2 ^ 23 = 8388608 by decide]
theorem ol_cmp {x y : Int} (hx : il x) (hy : il y) : lg_cmp (Int64.ofInt x) (Int64.ofInt y) = Int32.ofInt (lc x y) := by
  unfold lg_cmp lc
  by_cases h : x > y
  · rw [if_pos h, if_pos ((ol_lt hy hx).mpr h)]; rfl
  · rw [if_neg h, if_neg (fun q => h ((ol_lt hy hx).mp q))]
    by_cases h2 : x = y
    · rw [if_pos h2, if_pos ((ol_eq hx hy).mpr h2)]; rfl
    · rw [if_neg h2, if_neg (fun q => h2 ((ol_eq hx hy).mp q))]; rfl
theorem oi_max {x y : Int} (hx : ir x) (hy : ir y) : (if Int32.ofInt x < Int32.ofInt y then Int32.ofInt y else Int32.ofInt x) = Int32.ofInt (max x y) := by
  by_cases h : x < y
  · rw [if_pos ((oi_lt hx hy).mpr h)]; congr 1; omega
  · rw [if_neg (fun q => h ((oi_lt hx hy).mp q))]; congr 1; omega
end
section
def UW : List Jvm.Cond := lw_tbl.filter goodWord
theorem uw_mem {w : Jvm.Cond} (h : w ∈ lw_tbl) (g : goodWord w = true) : w ∈ UW := List.mem_filter.mpr ⟨h, g⟩
def wsM (y : Nat) : List Jvm.Cond := Jvm.Cond.code (nm y) (byt y) (nl y) (rt y) :: UW
theorem uw_good : ∀ w ∈ UW, (w.onTables && w.keeps) = true ∨ ∃ ty, w = .arrayClass ty := fun w h => good_of_word (List.mem_filter.mp h).2
theorem up_at (σ : SS) (t : Nat) (i j v : Int) : up σ t i j v t i = fun j' => if j' = j then v else σ t i j' := by
  funext j'; simp [up]
theorem up_off {σ : SS} {t t' : Nat} {i i' j v : Int} (h : ¬ (t' = t ∧ i' = i)) : up σ t i j v t' i' = σ t' i' := by
  funext j'
  simp only [up]
  rw [if_neg (fun q => h ⟨q.1, q.2.1⟩)]
theorem vd_nat {t : Nat} {i : Int} (h : vd t i) : i.toNat < cnt t ∧ ((i.toNat : Nat) : Int) = i := by
  unfold vd at h; omega
theorem vd_lt {t : Nat} {i : Int} (h : vd t i) : t < 99 := by
  have := ce_at (tb_cell (vd_nat h).1)
  exact this.2.2
section WORLD
variable {D : va_G} {cA : Nat → ClassId} {N0 b : Nat}
theorem wsO_at {σ : SS} {t i : Nat} (h : i < cnt t) : (wsO cA N0 σ)[ad t i]? = some (N0 + ad t i, cE cA N0 σ (t, i)) := by
  simp only [wsO, List.getElem?_map, tb_cell h, Option.map_some]
theorem wsO_set {σ σ' : SS} {t i : Nat} (h : i < cnt t) (ho : ∀ (t' i' : Nat), ¬ (t' = t ∧ i' = i) → σ' t' i' = σ t' i') : (wsO cA N0 σ).set (ad t i) (N0 + ad t i, cE cA N0 σ' (t, i)) = wsO cA N0 σ' := by
  apply List.ext_getElem?
  intro k
  by_cases hk : k = ad t i
  · subst hk
    rw [wsO_at h, List.getElem?_set_self]
    simp only [wsO, List.length_map]
    exact (List.getElem?_eq_some_iff.mp (tb_cell h)).1
  · rw [List.getElem?_set_ne (Ne.symm hk)]
    simp only [wsO, List.getElem?_map]
    cases hc : cellsL[k]? with
    | none => rfl
    | some q =>
      obtain ⟨t', i'⟩ := q
      have h1 := ce_at hc
      simp only [Option.map_some, cE]
      rw [ho t' i' (fun z => hk (by rw [← h1.1, z.1, z.2]))]
theorem wsO_D (σ : SS) : va_D (fun q => N0 ≤ q) (wsO cA N0 σ) := by
  have key : ∀ (k : Nat) (q : Nat × va_E), (wsO cA N0 σ)[k]? = some q → q.1 = N0 + k := by
    intro k q hk
    simp only [wsO, List.getElem?_map] at hk
    cases hc : cellsL[k]? with
    | none => rw [hc] at hk; cases hk
    | some r =>
      rw [hc] at hk
      cases hk
      show N0 + ad r.1 r.2 = _
      rw [(ce_at hc).1]
  exact ⟨fun i j p q h1 h2 h3 => by have := key i p h1; have := key j q h2; omega, fun k q h => by have := key k q h; show N0 ≤ q.1; omega⟩
theorem cE_obj {σ : SS} {t i : Nat} (hc : 0 < cls t) (ht : t < 100) : cE cA N0 σ (t, i) = .inr (cls t - 1, (List.range (kc (cls t - 1)).2.2).map (fV N0 (σ t i) t i)) := by
  have h := tb ht
  have h0 : ak t = 0 := by
    simp only [tbOk, Bool.and_eq_true, Bool.or_eq_true, decide_eq_true_eq] at h
    rcases h.1.1.1.1.1.1.2 with q | q
    · omega
    · exact q.1.1
  simp only [cE, cF, h0]
theorem cE_int {σ : SS} {t i : Nat} (h : ak t = 1) : cE cA N0 σ (t, i) = .inl (cA 1, (ndI alL t).toNat, .inl (fun j => Int32.ofInt (σ t i j))) := by simp only [cE, cF, h]
theorem cE_bool {σ : SS} {t i : Nat} (h : ak t = 2) : cE cA N0 σ (t, i) = .inl (cA 2, (ndI alL t).toNat, .inl (fun j => Int32.ofInt (σ t i j))) := by simp only [cE, cF, h]
theorem cE_ref {σ : SS} {t i : Nat} (h : 3 ≤ ak t) (ht : t < 100) : ∃ (C : String) (k : Nat), (tyA cA)[k]? = some (cA (ak t), FieldType.object C) ∧ cE cA N0 σ (t, i) = .inl (cA (ak t), (ndI alL t).toNat, .inr (.inr (.inr (.inr (fun j => some (N0 + ad (el t) j)))))) := by
  have h5 : ak t < 5 := by
    have h := tb ht
    simp only [tbOk, Bool.and_eq_true, decide_eq_true_eq] at h
    exact h.1.1.2
  have h3 : ak t = 3 ∨ ak t = 4 := by omega
  rcases h3 with h3 | h3
  · exact ⟨"RegionStack$Body", 2, by rw [h3]; rfl, by simp only [cE, cF, h3]⟩
  · exact ⟨"RegionStack$Text", 3, by rw [h3]; rfl, by simp only [cE, cF, h3]⟩
theorem al_pos {t : Nat} (ht : t < 100) : 0 ≤ ndI alL t ∧ ndI alL t < 2147483648 := by
  have h := tb ht
  simp only [tbOk, Bool.and_eq_true, decide_eq_true_eq] at h
  exact ⟨h.1.1.1.1.2, h.1.1.1.2⟩
theorem map_set (n k : Nat) (f g : Nat → Value) (v : Value) (h1 : g k = v) (h2 : ∀ j, j ≠ k → g j = f j) : ((List.range n).map f).set k v = (List.range n).map g := by
  apply List.ext_getElem?
  intro j
  by_cases hj : j = k
  · subst hj
    by_cases hl : j < n
    · rw [List.getElem?_set_self (by simpa using hl)]
      simp [hl, h1]
    · rw [List.getElem?_eq_none (by simp; omega), List.getElem?_eq_none (by simp; omega)]
  · rw [List.getElem?_set_ne (Ne.symm hj)]
    by_cases hl : j < n
    · simp [hl, h2 j hj]
    · rw [List.getElem?_eq_none (by simp; omega), List.getElem?_eq_none (by simp; omega)]
/-- a field of an int is written -/
theorem wsO_put {σ : SS} {t k : Nat} {i x : Int} (hv : vd t i) (hc : 0 < cls t) (hk : rf t k = 0) : (wsO cA N0 σ).set (ad t i.toNat) (N0 + ad t i.toNat, .inr (cls t - 1, ((List.range (kc (cls t - 1)).2.2).map (fV N0 (σ t i) t i.toNat)).set k (.int (Int32.ofInt x)))) = wsO cA N0 (up σ t i k x) := by
  obtain ⟨hn, hi⟩ := vd_nat hv
  have ht := vd_lt hv
  rw [← wsO_set (σ := σ) (σ' := up σ t i k x) hn (fun t' i' h => up_off (fun z => h ⟨z.1, by omega⟩))]
  congr 2
  rw [cE_obj hc (by omega)]
  congr 2
  rw [hi, up_at]
  refine map_set _ _ _ _ _ ?_ ?_
  · simp only [fV, hk]; simp
  · intro j hj
    simp only [fV]
    split
    · rw [if_neg (by omega)]
    · rfl
theorem upd_fun {g : Int → Int} {j x : Int} (hj : ir j) (h0 : 0 ≤ j) : upd (fun q : Nat => Int32.ofInt (g q)) (Int32.ofInt j).toNatClampNeg (Int32.ofInt x) = fun q : Nat => Int32.ofInt (if (q : Int) = j then x else g q) := by
  funext q
  rw [oi_nat hj h0]
  simp only [upd]
  by_cases h : q = j.toNat
  · rw [if_pos h, if_pos (by omega)]
  · rw [if_neg h, if_neg (by omega)]
theorem wsO_ast {σ : SS} {t : Nat} {i j x : Int} (hv : vd t i) (ha : ak t = 1) (hj : ir j) (h0 : 0 ≤ j) : (wsO cA N0 σ).set (ad t i.toNat) (N0 + ad t i.toNat, .inl (cA 1, (ndI alL t).toNat, .inl (upd (fun q : Nat => Int32.ofInt (σ t i q)) (Int32.ofInt j).toNatClampNeg (Int32.ofInt x)))) = wsO cA N0 (up σ t i j x) := by
  obtain ⟨hn, hi⟩ := vd_nat hv
  rw [← wsO_set (σ := σ) (σ' := up σ t i j x) hn (fun t' i' h => up_off (fun z => h ⟨z.1, by omega⟩))]
  congr 2
  rw [cE_int ha, upd_fun hj h0, hi, up_at]
theorem wsO_bst {σ : SS} {t : Nat} {i j x : Int} (hv : vd t i) (ha : ak t = 2) (hj : ir j) (h0 : 0 ≤ j) : (wsO cA N0 σ).set (ad t i.toNat) (N0 + ad t i.toNat, .inl (cA 2, (ndI alL t).toNat, .inl (upd (fun q : Nat => Int32.ofInt (σ t i q)) (Int32.ofInt j).toNatClampNeg (Int32.ofInt x)))) = wsO cA N0 (up σ t i j x) := by
  obtain ⟨hn, hi⟩ := vd_nat hv
  rw [← wsO_set (σ := σ) (σ' := up σ t i j x) hn (fun t' i' h => up_off (fun z => h ⟨z.1, by omega⟩))]
  congr 2
  rw [cE_bool ha, upd_fun hj h0, hi, up_at]
end WORLD
section NUL
variable {p : Program} {l : Launch} {e : Env} {R : Room} {s : State} {m : MethodId} {args : Array Value} {below : List Frame} {meth : Method} {c : Code} {H : Heap} {locs : List Loc} {cells slots : Nat} {Q : State → Prop}
variable {cc : ByteArray} {pc : Nat} {ls : Array Slot} {rest : List Value}
theorem nu_aload_n (hexec : p.tables.exec = Jvm.exec) (hb : c.code = cc) {k : Fin 4} (hdg : decode cc pc = .ok (.aload_n k, 1)) (hl : ls[(k : Nat)]? = some (.val .null))
    (k : W p l e R s m args below meth c H locs cells slots Q (F0 m (pc + 1) ls (.null :: rest))) : W p l e R s m args below meth c H locs cells slots Q (F0 m pc ls (rest)) := by
  intro T hT X
  obtain ⟨t, a, b⟩ := k T hT X
  refine ⟨t, ?_, b⟩
  jvm_step X.here [X.here.top, hexec, hb, hdg, hl, Value.isRef]
  exact a
theorem nu_aload (hexec : p.tables.exec = Jvm.exec) (hb : c.code = cc) {i : Nat} (hdg : decode cc pc = .ok (.aload i, 2)) (hl : ls[i]? = some (.val .null))
    (k : W p l e R s m args below meth c H locs cells slots Q (F0 m (pc + 2) ls (.null :: rest))) : W p l e R s m args below meth c H locs cells slots Q (F0 m pc ls (rest)) := by
  intro T hT X
  obtain ⟨t, a, b⟩ := k T hT X
  refine ⟨t, ?_, b⟩
  jvm_step X.here [X.here.top, hexec, hb, hdg, hl, Value.isRef]
  exact a
theorem nu_astore_n (hexec : p.tables.exec = Jvm.exec) (hb : c.code = cc) {k : Fin 4} {nL : Nat} {lv : List (Nat × Value)} (hdg : decode cc pc = .ok (.astore_n k, 1)) (h : lv_has ls nL lv) (hn : (k : Nat) < nL)
    (kk : ∀ ls' : Array Slot, lv_has ls' nL (((k : Nat), Value.null) :: lv.filter (fun q => !(q.1 == (k : Nat)) && !(q.1 + 1 == (k : Nat) && q.2.category == 2))) → W p l e R s m args below meth c H locs cells slots Q (F0 m (pc + 1) ls' rest)) : W p l e R s m args below meth c H locs cells slots Q (F0 m pc ls (.null :: rest)) := by
  obtain ⟨ls', e', h'⟩ := lv_store1 (v := .null) h hn rfl
  intro T hT X
  obtain ⟨t, a, b⟩ := kk ls' h' T hT X
  refine ⟨t, ?_, b⟩
  jvm_step X.here [X.here.top, ↓top_set X.here.top, hexec, hb, hdg, e', Value.isRef]
  exact a
theorem nu_astore (hexec : p.tables.exec = Jvm.exec) (hb : c.code = cc) {i nL : Nat} {lv : List (Nat × Value)} (hdg : decode cc pc = .ok (.astore i, 2)) (h : lv_has ls nL lv) (hn : i < nL)
    (kk : ∀ ls' : Array Slot, lv_has ls' nL ((i, Value.null) :: lv.filter (fun q => !(q.1 == i) && !(q.1 + 1 == i && q.2.category == 2))) → W p l e R s m args below meth c H locs cells slots Q (F0 m (pc + 2) ls' rest)) : W p l e R s m args below meth c H locs cells slots Q (F0 m pc ls (.null :: rest)) := by
  obtain ⟨ls', e', h'⟩ := lv_store1 (v := .null) h hn rfl
  intro T hT X
  obtain ⟨t, a, b⟩ := kk ls' h' T hT X
  refine ⟨t, ?_, b⟩
  jvm_step X.here [X.here.top, ↓top_set X.here.top, hexec, hb, hdg, e', Value.isRef]
  exact a
theorem va_callg {pc : Nat} {ls : Array Slot} {rest st0 : List Value} {A0 : Nat → Prop} {H0 : Heap} {mc ms : Nat} {ov : Option Value} {B : State → Prop} (hr : va_Run p l e R s m args below meth c H locs cells slots mc ms (F0 m pc ls st0) rest (fun st o t => o = .returned ov ∧ B t ∧ va_F A0 st t) A0) (hS : va_S A0 H0 H locs)
    (kk : ∀ (t : State) (H1 : Heap) (locs1 : List Loc), t.heap = H1 → s.vm.Alike t.vm → B t → va_S A0 H0 H1 locs1 → W p l e R s m args below meth c H1 locs1 (cells + mc) (slots + ms) Q (F0 m (pc + 3) ls (ov.toList ++ rest))) : W p l e R s m args below meth c H locs cells slots Q (F0 m pc ls st0) := by
  intro T hT X
  obtain ⟨v, st₀, t, T', L, h0, X', hL, e1, e2, ⟨hv, hb, hz, hk⟩, st⟩ := hr T hT X
  cases hv
  rw [h0] at hz hk
  obtain ⟨t2, a1, b1⟩ := kk t T'.heap (locs ++ L) e1.symm (by rw [← e2]; exact X'.warmed.alike) hb 
    ⟨Nat.le_trans hS.1 (by rw [e1]; exact hz), fun q h1 h2 => by rw [e1, hk q (Nat.lt_of_lt_of_le h1 hS.1) h2]; exact hS.2.1 q h1 h2, fun q hq => by
      rcases List.mem_append.mp hq with h | h
      · exact hS.2.2 q h
      · exact hL q h⟩ T' rfl X'
  exact ⟨t2, st t2 a1, b1⟩
end NUL
end
section
def rmD (d : Nat) : Room := { frames := d, cells := 0, slots := 0, locals := 32 * d }
def SI (sc : Prop) (L : Nat) (xs : Nat → Int32) (σ : SS) : Prop := InR σ ∧ (sc → σ 99 0 (-1) = (L : Int) ∧ ∀ j : Nat, j < L → σ 99 0 j = (xs j).toInt)
def CC (p : Program) (l : Launch) (e : Env) (R : Room) (s : State) (m : MethodId) (args : Array Value) (below : List Frame) (meth : Method) (c : Code) (cells slots : Nat) (Q : State → Prop) (D : va_G) (cA : Nat → ClassId) (N0 b y pc : Nat) (la sa : List AV) (σ : SS) : Prop :=
  ∀ (ls : Array Slot) (H : Heap) (locs : List Loc), LR N0 b (nl y) ls la → va_P D vwCl (wsO cA N0 σ) H → va_S (fun q => N0 ≤ q) s.heap H locs → W p l e R s m args below meth c H locs cells slots Q (F0 m (nd (bp y) pc) ls (sa.map (cv N0 b)))
def rv (N0 b : Nat) (v : AV) : Option Value := if isU v = true then none else some (cv N0 b v)
def NW (U : State) : Prop := ∀ e ∈ lkn, va_Nw (.methodLinkNest (cn e.1) e.2.1 (nm e.2.2.1) "RegionStack") U
theorem NW.moved {s U : State} (hW : s.WarmedH U.vm) (h : NW s) : NW U := fun e he => va_Nw.warmM hW (h e he)
theorem NW.same {u U : State} (hv : u.vm = U.vm) (h : NW u) : NW U := fun e he => va_Nw.same rfl hv (h e he)
def PcA (D : va_G) (cA : Nat → ClassId) (N0 b : Nat) (as : List AV) (σ : SS) : Array Value → State → Prop := va_Pc (as.map (cv N0 b)) (fun U => va_P D vwCl (wsO cA N0 σ) U.heap ∧ va_K D vwCl (tyA cA) U ∧ NW U)
def QcA (D : va_G) (cA : Nat → ClassId) (N0 b : Nat) (v : AV) (σ : SS) : Array Value → State → Outcome → State → Prop := fun _ st o t => o = .returned (rv N0 b v) ∧ va_P D vwCl (wsO cA N0 σ) t.heap ∧ va_F (fun q => N0 ≤ q) st t
def FX (p : Program) (s : State) (m : MethodId) (args : Array Value) (c : Code) (D : va_G) (cA : Nat → ClassId) (N0 b L : Nat) (xs : Nat → Int32) (sc : Prop) (y : Nat) : Prop :=
  p.tables.exec = Jvm.exec ∧ c.code = byt y ∧ c.maxLocals = nl y ∧ s.vm.findClass (cn (oc y)) = some m.cls ∧ (∀ w ∈ UW, w.before args s = true) ∧ va_K D vwCl (tyA cA) s ∧ NW s ∧ (sc → va_X b L xs s s.heap ∧ b < s.heap.size ∧ b < N0)
theorem chk_split {o : Nat} {by0 : ByteArray} {b : List Nat} {i : Nat} {ins : AI} (h : chkI o by0 b i ins = true) : decode by0 (nd b i) = .ok (ins.1, nd b (i + 1) - nd b i) ∧ chkT b i ins = true ∧ chkL o b i ins = true ∧ chkK o ins = true := by
  simp only [chkI, Bool.and_eq_true, decide_eq_true_eq] at h
  exact ⟨h.1.1.1, h.1.1.2, h.1.2, h.2⟩
theorem okL_tl {sc : Prop} {v : AV} {l : List AV} (h : okL sc (v :: l)) : okL sc l := fun w hw => h w (List.mem_cons_of_mem _ hw)
theorem okL_hd {sc : Prop} {v : AV} {l : List AV} (h : okL sc (v :: l)) : okV sc v := h v List.mem_cons_self
theorem okL_cons {sc : Prop} {v : AV} {l : List AV} (h : okL sc l) (hv : okV sc v) : okL sc (v :: l) := by
  intro w hw
  rcases List.mem_cons.mp hw with h1 | h1
  · rw [h1]; exact hv
  · exact h w h1
theorem InR_up {σ : SS} {t : Nat} {i j x : Int} (h : InR σ) (hx : ir x) : InR (up σ t i j x) := by
  intro t' i' j'
  simp only [up]
  split
  · exact hx
  · exact h _ _ _
theorem SI_up {sc : Prop} {L : Nat} {xs : Nat → Int32} {σ : SS} {t : Nat} {i j x : Int} (h : SI sc L xs σ) (hx : ir x) (ht : t ≠ 99) : SI sc L xs (up σ t i j x) ∧ up σ t i j x 99 = σ 99 := by
  have e : up σ t i j x 99 = σ 99 := by
    funext i'
    exact up_off (fun z => ht z.1.symm)
  refine ⟨⟨InR_up h.1 hx, fun hs => ?_⟩, e⟩
  rw [e]
  exact h.2 hs
theorem dec1 {by0 : ByteArray} {a n k : Nat} {J : Instr} (hd : decode by0 a = .ok (J, n - a)) (nx : n = a + k) : decode by0 a = .ok (J, k) := by rw [hd, nx, Nat.add_sub_cancel_left]
def retI : AV → Instr
  | .inl _ => .ireturn
  | .inr (.inl _) => .areturn
  | .inr (.inr (.inl _)) => .lreturn
  | .inr (.inr (.inr _)) => .return_
theorem okL_stl2 {sc : Prop} {l : List AV} {i : Nat} (h : okL sc l) : okL sc (stl l i vu) := by
  intro w hw
  rcases mem_stl _ _ _ _ hw with h1 | h1
  · rw [h1]; trivial
  · exact h w h1
theorem bif_t {q : Bool} {A : Prop} (h : (bif q then A else False)) : q = true ∧ A := by cases q <;> simp_all
theorem ir_lc (x y : Int) : ir (lc x y) := by
  unfold lc ir
  split
  · omega
  · split <;> omega
theorem lkc_at {o x : Nat} {ns : List Nat} {z : Int} (h : chkK o (.ldc x, ns, z) = true) : Jvm.Cond.constant (cn o) x (Int32.ofInt z) ∈ lw_tbl ∧ ir z := by
  have h : lkc.any (fun e => decide (e.1 = o) && decide (e.2.1 = x) && decide (e.2.2.1 = z)) = true := h
  obtain ⟨q, hq, hc⟩ := List.any_eq_true.mp h
  simp only [Bool.and_eq_true, decide_eq_true_eq] at hc
  have := List.all_eq_true.mp lkc_ok q hq
  simp only [Bool.and_eq_true, decide_eq_true_eq] at this
  rw [hc.1.1, hc.1.2, hc.2] at this
  exact ⟨lw_mem this.1.1, this.1.2, this.2⟩
theorem lkl_at {o x : Nat} {ns : List Nat} {z : Int} (h : chkK o (.ldc2_w x, ns, z) = true) : Jvm.Cond.constantLong (cn o) x (Int64.ofInt z) ∈ lw_tbl ∧ ir z := by
  have h : lkl.any (fun e => decide (e.1 = o) && decide (e.2.1 = x) && decide (e.2.2.1 = z)) = true := h
  obtain ⟨q, hq, hc⟩ := List.any_eq_true.mp h
  simp only [Bool.and_eq_true, decide_eq_true_eq] at hc
  have := List.all_eq_true.mp lkl_ok q hq
  simp only [Bool.and_eq_true, decide_eq_true_eq] at this
  rw [hc.1.1, hc.1.2, hc.2] at this
  exact ⟨lw_mem this.1.1, this.1.2, this.2⟩
theorem i8_oi {n : Int} (h : -128 ≤ n ∧ n ≤ 127) : (Int8.ofInt n).toInt32 = Int32.ofInt n := by
  rw [← Int32.toInt_inj, Int8.toInt_toInt32, Int8.toInt_ofInt_of_le (by omega) (by omega), oi_to (by unfold ir; omega)]
theorem i16_oi {n : Int} (h : -32768 ≤ n ∧ n ≤ 32767) : (Int16.ofInt n).toInt32 = Int32.ofInt n := by
  rw [← Int32.toInt_inj, Int16.toInt_toInt32, Int16.toInt_ofInt_of_le (by omega) (by omega), oi_to (by unfold ir; omega)]
theorem lkf_use {o x c k q : Nat} (h : lkf.any (fun e => decide (e.1 = o) && decide (e.2.1 = x) && decide (e.2.2.1 = c) && decide (e.2.2.2.1 = k) && decide (e.2.2.2.2.1 = q)) = true) :
    Jvm.Cond.fieldLink (cn o) x (kc (c - 1)).1 (fq c k).2.1 (fq c k).2.2.1 ∈ lw_tbl ∧ k < (kc (c - 1)).2.2 ∧ 0 < c ∧ c < 10 ∧ tyq q (fq c k).2.2.1 = true ∧ (fq c k).1 = (kc (c - 1)).1 ∧ (q = 2 ∨ (fq c k).2.2.2 = false) := by
  obtain ⟨e, he, hc⟩ := List.any_eq_true.mp h
  obtain ⟨e1, e2, e3, e4, e5, e6⟩ := e
  simp only [Bool.and_eq_true, decide_eq_true_eq] at hc
  obtain ⟨⟨⟨⟨rfl, rfl⟩, rfl⟩, rfl⟩, rfl⟩ := hc
  have := List.all_eq_true.mp lkf_ok _ he
  simp only [Bool.and_eq_true, decide_eq_true_eq, Bool.or_eq_true, Bool.not_eq_true'] at this
  exact ⟨lw_mem this.1.1.1.1.1.1, this.1.1.1.1.1.2, this.1.1.1.1.2, this.1.1.1.2, this.1.1.2, this.1.2, this.2⟩
theorem lkf_get {o x c k q : Nat} {z : Int} (h : chkK o (.getfield x, [c, k, q], z) = true) : lkf.any (fun e => decide (e.1 = o) && decide (e.2.1 = x) && decide (e.2.2.1 = c) && decide (e.2.2.2.1 = k) && decide (e.2.2.2.2.1 = q)) = true ∧ z = (k : Int) := by
  have h : (lkf.any (fun e => decide (e.1 = o) && decide (e.2.1 = x) && decide (e.2.2.1 = c) && decide (e.2.2.2.1 = k) && decide (e.2.2.2.2.1 = q)) && decide (z = (k : Int))) = true := h
  rw [Bool.and_eq_true, decide_eq_true_eq] at h
  exact h
theorem lkf_put {o x c k q : Nat} {z : Int} (h : chkK o (.putfield x, [c, k, q], z) = true) : lkf.any (fun e => decide (e.1 = o) && decide (e.2.1 = x) && decide (e.2.2.1 = c) && decide (e.2.2.2.1 = k) && decide (e.2.2.2.2.1 = q)) = true ∧ z = (k : Int) := by
  have h : (lkf.any (fun e => decide (e.1 = o) && decide (e.2.1 = x) && decide (e.2.2.1 = c) && decide (e.2.2.2.1 = k) && decide (e.2.2.2.2.1 = q)) && decide (z = (k : Int))) = true := h
  rw [Bool.and_eq_true, decide_eq_true_eq] at h
  exact h
theorem uw_lay {c : Nat} (hc : c < 9) : ∀ w ∈ u_ws (kc c).1 (kc c).2.1 (kc c).2.2, w ∈ UW := by
  intro w hw
  refine uw_mem (lay_all hc w hw) ?_
  obtain ⟨k, -, rfl⟩ := List.mem_map.mp hw
  unfold u_lay
  split <;> rfl
theorem rf_kind {t k : Nat} (ht : t < 100) (hc : 0 < cls t) (hk : k < (kc (cls t - 1)).2.2) : (rf t k = 0 ↔ isI ((kc (cls t - 1)).2.1 k).2.2.1 = true) ∧ (rf t k ≠ 0 → cnt (rf t k) = cnt t) := by
  have h := tb ht
  simp only [tbOk, Bool.and_eq_true, Bool.or_eq_true, decide_eq_true_eq] at h
  rcases h.1.1.1.1.1.1.2 with q | q
  · omega
  have h2 := List.all_eq_true.mp q.2 k (List.mem_range.mpr hk)
  by_cases h0 : rf t k = 0
  · rw [if_pos h0] at h2
    exact ⟨⟨fun _ => h2, fun _ => h0⟩, fun z => absurd h0 z⟩
  · rw [if_neg h0] at h2
    simp only [Bool.and_eq_true, Bool.not_eq_true', decide_eq_true_eq] at h2
    refine ⟨⟨fun z => absurd z h0, fun z => ?_⟩, fun _ => h2.2⟩
    rw [h2.1] at z; cases z
theorem cls_99 : cls 99 = 0 := by decide +kernel
theorem ak_99 : ak 99 = 1 := by decide +kernel
theorem ok_vd {sc : Prop} {t : Nat} {i : Int} (h : okV sc (vr t i)) (ht : t ≠ 99) : vd t i := by
  rcases h with h | h
  · exact absurd h.1 ht
  · exact h.2
theorem aln_ne {σ : SS} {t : Nat} (ht : t ≠ 99) : aln σ t = ndI alL t := by
  unfold aln
  have : Nat.beq t 99 = false := by
    cases h : Nat.beq t 99
    · rfl
    · exact absurd (Nat.eq_of_beq_eq_true h) ht
  rw [this]; rfl
theorem aln_99 {σ : SS} : aln σ 99 = σ 99 0 (-1) := rfl
theorem beq_t {a b : Nat} (h : Nat.beq a b = true) : a = b := Nat.eq_of_beq_eq_true h
theorem adr_ne {N0 b t : Nat} {i : Int} (h : t ≠ 99) : adr N0 b t i = N0 + ad t i.toNat := if_neg h
theorem tsw_at {x : Int} {K : Nat → Prop} : ∀ (ts : List Nat) (lo : Int), tsw x K lo ts → ∀ (k t : Nat), ts[k]? = some t → x = lo + k → K t
  | [], _, _, k, t, h, _ => by simp at h
  | a :: ts, lo, h, 0, t, hk, hx => by
    simp only [List.getElem?_cons_zero, Option.some.injEq] at hk
    subst hk
    exact h.1 (by simpa using hx)
  | a :: ts, lo, h, k + 1, t, hk, hx => by
    simp only [List.getElem?_cons_succ] at hk
    exact tsw_at ts (lo + 1) h.2 k t hk (by rw [hx]; push_cast; omega)
theorem tgs_at {b : List Nat} {i : Nat} : ∀ (os : List Int) (ts : List Nat), tgs b i os ts = true → os.length = ts.length ∧ ∀ (k : Nat) (o : Int), os[k]? = some o → ∃ t, ts[k]? = some t ∧ (nd b i : Int) + o = (nd b t : Int)
  | [], [], _ => ⟨rfl, fun k o h => by simp at h⟩
  | [], _ :: _, h => by simp [tgs] at h
  | _ :: _, [], h => by simp [tgs] at h
  | a :: os, t :: ts, h => by
    simp only [tgs, Bool.and_eq_true] at h
    obtain ⟨h1, h2⟩ := tgs_at os ts h.2
    refine ⟨by simp [h1], fun k o hk => ?_⟩
    cases k with
    | zero =>
      simp only [List.getElem?_cons_zero, Option.some.injEq] at hk
      subst hk
      exact ⟨t, rfl, of_decide_eq_true h.1⟩
    | succ k =>
      simp only [List.getElem?_cons_succ] at hk ⊢
      exact h2 k o hk
theorem lsw_at {b : List Nat} {i d : Nat} {dflt x : Int} {K : Nat → Prop} (hd : (nd b i : Int) + dflt = (nd b d : Int)) : ∀ (ps : List (Int × Int)) (ts : List Nat), tgs b i (ps.map (fun q => q.2)) ts = true → lsN x ps (K d) → lsw x K ps ts → ∃ (o : Int) (t : Nat), Op.lookupswitch.offset ps dflt x = o ∧ (nd b i : Int) + o = (nd b t : Int) ∧ K t
  | [], _, _, h1, _ => ⟨dflt, d, rfl, hd, h1⟩
  | (k, o) :: ps, [], h, _, _ => by simp [tgs] at h
  | (k, o) :: ps, t :: ts, h, h1, h2 => by
    simp only [List.map_cons, tgs, Bool.and_eq_true] at h
    by_cases hx : x = k
    · exact ⟨o, t, by rw [Op.lookupswitch.offset_cons, if_pos hx.symm], of_decide_eq_true h.1, h2.1 hx⟩
    · obtain ⟨o', t', e1, e2, e3⟩ := lsw_at hd ps ts h.2 (h1 hx) h2.2
      exact ⟨o', t', by rw [Op.lookupswitch.offset_cons, if_neg (fun z => hx z.symm)]; exact e1, e2, e3⟩
theorem pop_at : ∀ (n : Nat) (acc st as st' : List AV), pop n acc st = some (as, st') → ∃ us : List AV, us.length = n ∧ st = us ++ st' ∧ as = us.reverse ++ acc
  | 0, acc, st, as, st', h => by
    simp only [pop, Option.some.injEq, Prod.mk.injEq] at h
    exact ⟨[], rfl, by simp [h.2], by simp [h.1]⟩
  | n + 1, acc, [], as, st', h => by simp [pop] at h
  | n + 1, acc, v :: st, as, st', h => by
    simp only [pop] at h
    obtain ⟨us, h1, h2, h3⟩ := pop_at n (v :: acc) st as st' h
    exact ⟨v :: us, by simp [h1], by simp [h2], by simp [h3]⟩
theorem cat1_sum {N0 b : Nat} : ∀ (st : List AV), cat1 st = true → ((st.map (cv N0 b)).map fun v => v.category).sum = st.length
  | [], _ => rfl
  | .inl x :: l, h => by
    have := cat1_sum (N0 := N0) (b := b) l h
    simp only [List.map_cons, List.sum_cons, List.length_cons, this]
    simp [cv, Value.category]; omega
  | .inr (.inl r) :: l, h => by
    have := cat1_sum (N0 := N0) (b := b) l h
    simp only [List.map_cons, List.sum_cons, List.length_cons, this]
    cases r <;> simp [cv, Value.category] <;> omega
  | .inr (.inr r) :: l, h => by simp [cat1] at h
theorem n99_ok {sc : Prop} : ∀ (l : List AV), n99 l = true → okL sc l → okL False l
  | [], _, _ => fun v h => by cases h
  | .inl x :: l, h, ho => okL_cons (v := .inl x) (n99_ok l h (okL_tl ho)) (show ir x from okL_hd (v := .inl x) ho)
  | .inr (.inl none) :: l, h, ho => okL_cons (n99_ok l h (okL_tl ho)) trivial
  | .inr (.inl (some (t, i))) :: l, h, ho => by
    simp only [n99, Bool.and_eq_true, Bool.not_eq_true'] at h
    have ht : t ≠ 99 := fun q => by subst q; exact absurd h.1 (by decide)
    exact okL_cons (n99_ok l h.2 (okL_tl ho)) (Or.inr ⟨ht, ok_vd (okL_hd ho) ht⟩)
  | .inr (.inr r) :: l, h, _ => by simp [n99] at h
theorem good_wsV {own C : String} {idx y' : Nat} (h1 : Jvm.Cond.methodLink own idx (nm y') ∈ UW) (h2 : Jvm.Cond.instanceMethod (nm y') ∈ UW) (h3 : Jvm.Cond.selects C (nm y') (nm y') ∈ UW) (h4 : Jvm.Cond.initialized C ∈ UW) (h5 : Jvm.Cond.code (nm y') (byt y') (nl y') (rt y') ∈ UW) : GoodIn UW (wsV own idx C (nm y') (wsM y')) := by
  have key : ∀ w ∈ wsV own idx C (nm y') (wsM y'), w ∈ UW := by
    intro w hw
    rcases List.mem_append.mp hw with q | q
    · simp only [List.mem_cons, List.not_mem_nil, or_false] at q
      rcases q with rfl | rfl | rfl | rfl <;> assumption
    · rcases List.mem_cons.mp q with rfl | q
      · exact h5
      · exact q
  exact fun w hw => ⟨key w hw, uw_good w (key w hw)⟩
theorem good_wsS {own : String} {idx y' : Nat} (h1 : Jvm.Cond.methodLink own idx (nm y') ∈ UW) (h2 : Jvm.Cond.static (nm y') ∈ UW) (h4 : Jvm.Cond.initialized own ∈ UW) (h5 : Jvm.Cond.code (nm y') (byt y') (nl y') (rt y') ∈ UW) : GoodIn UW (wsS own idx (nm y') (wsM y')) := by
  have key : ∀ w ∈ wsS own idx (nm y') (wsM y'), w ∈ UW := by
    intro w hw
    rcases List.mem_append.mp hw with q | q
    · simp only [List.mem_cons, List.not_mem_nil, or_false] at q
      rcases q with rfl | rfl | rfl <;> assumption
    · rcases List.mem_cons.mp q with rfl | q
      · exact h5
      · exact q
  exact fun w hw => ⟨key w hw, uw_good w (key w hw)⟩
theorem good_wsM {y' : Nat} (h5 : Jvm.Cond.code (nm y') (byt y') (nl y') (rt y') ∈ UW) : GoodIn UW (wsM y') := by
  have key : ∀ w ∈ wsM y', w ∈ UW := by
    intro w hw
    rcases List.mem_cons.mp hw with rfl | q
    · exact h5
    · exact q
  exact fun w hw => ⟨key w hw, uw_good w (key w hw)⟩
theorem pl_at {y : Nat} (hy : y < 140) : Jvm.Cond.initialized (nm y).cls ∈ UW ∧ (isS y = true → Jvm.Cond.static (nm y) ∈ UW) ∧ (isS y = false → Jvm.Cond.instanceMethod (nm y) ∈ UW) ∧ (isS y = false → (nm y).name ≠ "<init>" → Jvm.Cond.selects (nm y).cls (nm y) (nm y) ∈ UW) ∧ plainName (nm y).cls = true ∧ ((nm y).cls ≠ "java/lang/invoke/MethodHandle" ∧ (nm y).cls ≠ "java/lang/invoke/VarHandle" ∧ (parseMethodDescriptor (nm y).desc).map (fun d => d.parameters.length) = some (np y)) ∧ nl y ≤ 13 ∧ (nm y).cls = cn (oc y) ∧ np y + (if isS y then 0 else 1) ≤ nl y ∧ Jvm.Cond.code (nm y) (byt y) (nl y) (rt y) ∈ UW := by
  have h := List.all_eq_true.mp pl_ok y (List.mem_range.mpr hy)
  simp only [plOk, Bool.and_eq_true, Bool.or_eq_true, decide_eq_true_eq] at h
  obtain ⟨⟨⟨⟨⟨⟨⟨h1, h2⟩, h3⟩, h4⟩, h5⟩, h6⟩, h7⟩, h8⟩ := h
  refine ⟨uw_mem (lw_mem h1) rfl, fun q => ?_, fun q => ?_, fun q q2 => ?_, h4, h5, h6, h7, h8, uw_mem (pc_all hy) rfl⟩
  · rw [q, if_pos rfl] at h2; exact uw_mem (lw_mem h2) rfl
  · rw [q, if_neg (by decide)] at h2; exact uw_mem (lw_mem h2) rfl
  · rcases h3 with (h3 | h3) | h3
    · rw [q] at h3; cases h3
    · exact absurd h3 q2
    · exact uw_mem (lw_mem h3) rfl
theorem cn_at {c : Nat} (h : c < 9) : cn c = (kc c).1 := of_decide_eq_true (List.all_eq_true.mp cn_kc c (List.mem_range.mpr h))

section SND
variable {p : Program} {l : Launch} {e₀ : Env} {R : Room} {s : State} {m : MethodId} {args : Array Value} {below : List Frame} {meth : Method} {c : Code} {cells slots : Nat} {Q : State → Prop}
variable {D : va_G} {cA : Nat → ClassId} {N0 b L y d : Nat} {xs : Nat → Int32} {sc : Prop}
set_option maxHeartbeats 4000000 in
theorem stp_sound (hF : FX p s m args c D cA N0 b L xs sc y) {Cal : CT} {ret : AV → SS → Prop} {K : KT} {ins : AI} {pc : Nat} {la sa : List AV} {σ : SS}
  (hchk : chkI (oc y) (byt y) (bp y) pc ins = true) (hfr : d + 1 ≤ R.frames) (hlo : 32 * (d + 1) ≤ R.locals) (hce : cells ≤ R.cells) (hsl : slots ≤ R.slots)
  (hCal : ∀ y' as σ v σ', Cal y' as σ v σ' → okL False as → InR σ → y' < 140 ∧ okV False v ∧ InR σ' ∧ σ' 99 = σ 99 ∧ Met l (nm y') (wsM y') (rmD d) (PcA D cA N0 b as σ) (QcA D cA N0 b v σ') 0 0 (fun q => N0 ≤ q))
  (hK : ∀ pc' la' sa' σ', K pc' la' sa' σ' → okL sc la' → okL sc sa' → SI sc L xs σ' → σ' 99 = σ 99 → CC p l e₀ R s m args below meth c cells slots Q D cA N0 b y pc' la' sa' σ')
  (hret : ∀ v σ', ret v σ' → okV sc v → SI sc L xs σ' → σ' 99 = σ 99 → ∀ (pc0 : Nat) (ls : Array Slot) (H : Heap) (locs : List Loc), va_P D vwCl (wsO cA N0 σ') H → va_S (fun q => N0 ≤ q) s.heap H locs → decode (byt y) pc0 = .ok (retI v, 1) → (bzm y = true → ∀ x, v = .inl x → x = 0 ∨ x = 1) → ins.1 = retI v → W p l e₀ R s m args below meth c H locs cells slots Q (F0 m pc0 ls (rv N0 b v).toList))
  (hst : stp Cal noS ret K (bzm y) ins pc la sa σ) (hla : okL sc la) (hsa : okL sc sa) (hsi : SI sc L xs σ) : CC p l e₀ R s m args below meth c cells slots Q D cA N0 b y pc la sa σ := by
  obtain ⟨hx, hb, hml, hown, hts, hKs, hNW, hscr⟩ := hF
  intro ls H locs hls hP hS
  obtain ⟨J, ns, z⟩ := ins
  obtain ⟨hd, hT, hLn, hCk⟩ := chk_split hchk
  cases J <;> simp only [stp] at hst
  all_goals first | exact hst.elim | skip
  case aload_n i =>
    have nx : nd (bp y) (pc + 1) = nd (bp y) pc + 1 := of_decide_eq_true hLn
    have hd := dec1 hd nx
    simp only [aLd] at hst
    split at hst
    case h_2 => exact hst.elim
    rename_i r hr
    have ok := hla _ (nth_mem _ _ _ hr)
    have w := hK _ _ _ _ hst hla (okL_cons hsa ok) hsi rfl _ _ _ hls hP hS
    rw [nx] at w
    have g := hls.at hr rfl
    rcases r with _ | ⟨t, i'⟩
    · exact nu_aload_n hx hb hd g w
    · exact lv_aload_n hx hb hd rfl g w
  case aload i =>
    have nx : nd (bp y) (pc + 1) = nd (bp y) pc + 2 := of_decide_eq_true hLn
    have hd := dec1 hd nx
    simp only [aLd] at hst
    split at hst
    case h_2 => exact hst.elim
    rename_i r hr
    have ok := hla _ (nth_mem _ _ _ hr)
    have w := hK _ _ _ _ hst hla (okL_cons hsa ok) hsi rfl _ _ _ hls hP hS
    rw [nx] at w
    have g := hls.at hr rfl
    rcases r with _ | ⟨t, i'⟩
    · exact nu_aload hx hb hd g w
    · exact lv_aload hx hb hd g w
  case iload_n i =>
    have nx : nd (bp y) (pc + 1) = nd (bp y) pc + 1 := of_decide_eq_true hLn
    have hd := dec1 hd nx
    simp only [iLd] at hst
    split at hst
    case h_2 => exact hst.elim
    rename_i x hr
    have ok := hla _ (nth_mem _ _ _ hr)
    have w := hK _ _ _ _ hst hla (okL_cons hsa ok) hsi rfl _ _ _ hls hP hS
    rw [nx] at w
    exact lv_iload_n hx hb hd rfl (hls.at hr rfl) w
  case iload i =>
    have nx : nd (bp y) (pc + 1) = nd (bp y) pc + 2 := of_decide_eq_true hLn
    have hd := dec1 hd nx
    simp only [iLd] at hst
    split at hst
    case h_2 => exact hst.elim
    rename_i x hr
    have ok := hla _ (nth_mem _ _ _ hr)
    have w := hK _ _ _ _ hst hla (okL_cons hsa ok) hsi rfl _ _ _ hls hP hS
    rw [nx] at w
    exact lv_iload hx hb hd (hls.at hr rfl) w
  case lload_n i =>
    have nx : nd (bp y) (pc + 1) = nd (bp y) pc + 1 := of_decide_eq_true hLn
    have hd := dec1 hd nx
    simp only [lLd] at hst
    split at hst
    case h_2 => exact hst.elim
    rename_i x hr
    have ok := hla _ (nth_mem _ _ _ hr)
    have w := hK _ _ _ _ hst hla (okL_cons hsa ok) hsi rfl _ _ _ hls hP hS
    rw [nx] at w
    exact lv_lload_n hx hb hd rfl (hls.at hr rfl) w
  case lload i =>
    have nx : nd (bp y) (pc + 1) = nd (bp y) pc + 2 := of_decide_eq_true hLn
    have hd := dec1 hd nx
    simp only [lLd] at hst
    split at hst
    case h_2 => exact hst.elim
    rename_i x hr
    have ok := hla _ (nth_mem _ _ _ hr)
    have w := hK _ _ _ _ hst hla (okL_cons hsa ok) hsi rfl _ _ _ hls hP hS
    rw [nx] at w
    exact lv_lload hx hb hd (hls.at hr rfl) w
  case istore_n i =>
    have nx : nd (bp y) (pc + 1) = nd (bp y) pc + 1 := of_decide_eq_true hLn
    have hd := dec1 hd nx
    simp only [iSt] at hst
    split at hst
    case h_2 => exact hst.elim
    rename_i x st0
    have ok := okL_hd hsa
    obtain ⟨hi, hst⟩ := bif_t hst
    have hi := Nat.le_of_ble_eq_true hi
    obtain ⟨e1, l0, e2, e3⟩ := hls
    refine lv_istore_n hx hb hd rfl e2 (by rw [← e1]; exact hi) rfl fun ls' hl' => ?_
    have w := hK _ _ _ _ hst (okL_stl hla ok) (okL_tl hsa) hsi rfl _ _ _ (LR.set e1 e3 hl') hP hS
    rw [nx] at w
    exact w
  case istore i =>
    have nx : nd (bp y) (pc + 1) = nd (bp y) pc + 2 := of_decide_eq_true hLn
    have hd := dec1 hd nx
    simp only [iSt] at hst
    split at hst
    case h_2 => exact hst.elim
    rename_i x st0
    have ok := okL_hd hsa
    obtain ⟨hi, hst⟩ := bif_t hst
    have hi := Nat.le_of_ble_eq_true hi
    obtain ⟨e1, l0, e2, e3⟩ := hls
    refine lv_istore hx hb hd e2 (by rw [← e1]; exact hi) rfl fun ls' hl' => ?_
    have w := hK _ _ _ _ hst (okL_stl hla ok) (okL_tl hsa) hsi rfl _ _ _ (LR.set e1 e3 hl') hP hS
    rw [nx] at w
    exact w
  case astore_n i =>
    have nx : nd (bp y) (pc + 1) = nd (bp y) pc + 1 := of_decide_eq_true hLn
    have hd := dec1 hd nx
    simp only [aSt] at hst
    split at hst
    case h_2 => exact hst.elim
    rename_i r st0
    have ok := okL_hd hsa
    obtain ⟨hi, hst⟩ := bif_t hst
    have hi := Nat.le_of_ble_eq_true hi
    obtain ⟨e1, l0, e2, e3⟩ := hls
    rcases r with _ | ⟨t, i'⟩
    · refine nu_astore_n hx hb hd e2 (by rw [← e1]; exact hi) fun ls' hl' => ?_
      have w := hK _ _ _ _ hst (okL_stl hla ok) (okL_tl hsa) hsi rfl _ _ _ (LR.set (v := .inr (.inl none)) e1 e3 hl') hP hS
      rw [nx] at w
      exact w
    · refine lv_astore_n hx hb hd rfl e2 (by rw [← e1]; exact hi) rfl fun ls' hl' => ?_
      have w := hK _ _ _ _ hst (okL_stl hla ok) (okL_tl hsa) hsi rfl _ _ _ (LR.set (v := .inr (.inl (some (t, i')))) e1 e3 hl') hP hS
      rw [nx] at w
      exact w
  case astore i =>
    have nx : nd (bp y) (pc + 1) = nd (bp y) pc + 2 := of_decide_eq_true hLn
    have hd := dec1 hd nx
    simp only [aSt] at hst
    split at hst
    case h_2 => exact hst.elim
    rename_i r st0
    have ok := okL_hd hsa
    obtain ⟨hi, hst⟩ := bif_t hst
    have hi := Nat.le_of_ble_eq_true hi
    obtain ⟨e1, l0, e2, e3⟩ := hls
    rcases r with _ | ⟨t, i'⟩
    · refine nu_astore hx hb hd e2 (by rw [← e1]; exact hi) fun ls' hl' => ?_
      have w := hK _ _ _ _ hst (okL_stl hla ok) (okL_tl hsa) hsi rfl _ _ _ (LR.set (v := .inr (.inl none)) e1 e3 hl') hP hS
      rw [nx] at w
      exact w
    · refine lv_astore hx hb hd e2 (by rw [← e1]; exact hi) rfl fun ls' hl' => ?_
      have w := hK _ _ _ _ hst (okL_stl hla ok) (okL_tl hsa) hsi rfl _ _ _ (LR.set (v := .inr (.inl (some (t, i')))) e1 e3 hl') hP hS
      rw [nx] at w
      exact w
  case lstore_n i =>
    have nx : nd (bp y) (pc + 1) = nd (bp y) pc + 1 := of_decide_eq_true hLn
    have hd := dec1 hd nx
    simp only [lSt] at hst
    split at hst
    case h_2 => exact hst.elim
    rename_i x st0
    have ok := okL_hd hsa
    obtain ⟨hi, hst⟩ := bif_t hst
    have hi := Nat.le_of_ble_eq_true hi
    obtain ⟨e1, l0, e2, e3⟩ := hls
    refine lv_lstore_n hx hb hd rfl e2 (by rw [← e1]; exact hi) rfl fun ls' hl' => ?_
    have w := hK _ _ _ _ hst (okL_stl2 (okL_stl hla ok)) (okL_tl hsa) hsi rfl _ _ _ (LR.setL (v := vl x) e1 e3 hl') hP hS
    rw [nx] at w
    exact w
  case lstore i =>
    have nx : nd (bp y) (pc + 1) = nd (bp y) pc + 2 := of_decide_eq_true hLn
    have hd := dec1 hd nx
    simp only [lSt] at hst
    split at hst
    case h_2 => exact hst.elim
    rename_i x st0
    have ok := okL_hd hsa
    obtain ⟨hi, hst⟩ := bif_t hst
    have hi := Nat.le_of_ble_eq_true hi
    obtain ⟨e1, l0, e2, e3⟩ := hls
    refine lv_lstore hx hb hd e2 (by rw [← e1]; exact hi) rfl fun ls' hl' => ?_
    have w := hK _ _ _ _ hst (okL_stl2 (okL_stl hla ok)) (okL_tl hsa) hsi rfl _ _ _ (LR.setL (v := vl x) e1 e3 hl') hP hS
    rw [nx] at w
    exact w
  case iconst n =>
    have nx : nd (bp y) (pc + 1) = nd (bp y) pc + 1 := of_decide_eq_true hLn
    have hd := dec1 hd nx
    have ok : ir n := by have h : _ ∧ _ := of_decide_eq_true hCk; unfold ir; omega
    have w := hK _ _ _ _ hst hla (okL_cons hsa ok) hsi rfl _ _ _ hls hP hS
    rw [nx] at w
    exact lv_iconst hx hb hd rfl w
  case bipush n =>
    have nx : nd (bp y) (pc + 1) = nd (bp y) pc + 2 := of_decide_eq_true hLn
    have hd := dec1 hd nx
    have ok : ir n := by have h : _ ∧ _ := of_decide_eq_true hCk; unfold ir; omega
    have w := hK _ _ _ _ hst hla (okL_cons hsa ok) hsi rfl _ _ _ hls hP hS
    rw [nx] at w
    exact lv_bipush hx hb hd (i8_oi (of_decide_eq_true hCk)) w
  case sipush n =>
    have nx : nd (bp y) (pc + 1) = nd (bp y) pc + 3 := of_decide_eq_true hLn
    have hd := dec1 hd nx
    have ok : ir n := by have h : _ ∧ _ := of_decide_eq_true hCk; unfold ir; omega
    have w := hK _ _ _ _ hst hla (okL_cons hsa ok) hsi rfl _ _ _ hls hP hS
    rw [nx] at w
    exact lv_sipush hx hb hd (i16_oi (of_decide_eq_true hCk)) w
  case ldc n =>
    have nx : nd (bp y) (pc + 1) = nd (bp y) pc + 2 := of_decide_eq_true hLn
    have hd := dec1 hd nx
    obtain ⟨h1, h2⟩ := lkc_at hCk
    have w := hK _ _ _ _ hst hla (okL_cons hsa h2) hsi rfl _ _ _ hls hP hS
    rw [nx] at w
    exact lv_ldc hx hb hown (hts _ (uw_mem h1 rfl)) hd w
  case ldc2_w n =>
    have nx : nd (bp y) (pc + 1) = nd (bp y) pc + 3 := of_decide_eq_true hLn
    have hd := dec1 hd nx
    obtain ⟨h1, h2⟩ := lkl_at hCk
    have w := hK _ _ _ _ hst hla (okL_cons (v := vl z) hsa (il_ir h2)) hsi rfl _ _ _ hls hP hS
    rw [nx] at w
    exact lv_ldc2 hx hb hown (hts _ (uw_mem h1 rfl)) hd w
  case lconst n =>
    have nx : nd (bp y) (pc + 1) = nd (bp y) pc + 1 := of_decide_eq_true hLn
    have hd := dec1 hd nx
    have ez : z = ((n : Nat) : Int) := of_decide_eq_true hCk
    subst ez
    have ok : il ((n : Nat) : Int) := by have := n.2; unfold il; omega
    have w := hK _ _ _ _ hst hla (okL_cons (v := vl _) hsa ok) hsi rfl _ _ _ hls hP hS
    rw [nx] at w
    exact lv_lconst hx hb hd rfl w
  case aconst_null  =>
    have nx : nd (bp y) (pc + 1) = nd (bp y) pc + 1 := of_decide_eq_true hLn
    have hd := dec1 hd nx
    have w := hK _ _ _ _ hst hla (okL_cons (v := vz) hsa trivial) hsi rfl _ _ _ hls hP hS
    rw [nx] at w
    exact lv_null hx hb hd w
  case iadd  =>
    have nx : nd (bp y) (pc + 1) = nd (bp y) pc + 1 := of_decide_eq_true hLn
    have hd := dec1 hd nx
    split at hst
    case h_2 => exact hst.elim
    rename_i y0 x0 st0
    have hy0 : ir y0 := okL_hd hsa
    have hx0 : ir x0 := okL_hd (okL_tl hsa)
    have w := hK _ _ _ _ hst.2 hla (okL_cons (okL_tl (okL_tl hsa)) hst.1) hsi rfl _ _ _ hls hP hS
    rw [nx] at w
    refine lv_iadd hx hb hd ?_
    rw [← Int32.ofInt_add]
    exact w
  case isub  =>
    have nx : nd (bp y) (pc + 1) = nd (bp y) pc + 1 := of_decide_eq_true hLn
    have hd := dec1 hd nx
    split at hst
    case h_2 => exact hst.elim
    rename_i y0 x0 st0
    have hy0 : ir y0 := okL_hd hsa
    have hx0 : ir x0 := okL_hd (okL_tl hsa)
    have w := hK _ _ _ _ hst.2 hla (okL_cons (okL_tl (okL_tl hsa)) hst.1) hsi rfl _ _ _ hls hP hS
    rw [nx] at w
    refine lv_isub hx hb hd ?_
    rw [← Int32.ofInt_sub]
    exact w
  case imul  =>
    have nx : nd (bp y) (pc + 1) = nd (bp y) pc + 1 := of_decide_eq_true hLn
    have hd := dec1 hd nx
    split at hst
    case h_2 => exact hst.elim
    rename_i y0 x0 st0
    have hy0 : ir y0 := okL_hd hsa
    have hx0 : ir x0 := okL_hd (okL_tl hsa)
    have w := hK _ _ _ _ hst.2 hla (okL_cons (okL_tl (okL_tl hsa)) hst.1) hsi rfl _ _ _ hls hP hS
    rw [nx] at w
    refine lv_imul hx hb hd ?_
    rw [← Int32.ofInt_mul]
    exact w
  case idiv  =>
    have nx : nd (bp y) (pc + 1) = nd (bp y) pc + 1 := of_decide_eq_true hLn
    have hd := dec1 hd nx
    split at hst
    case h_2 => exact hst.elim
    rename_i y0 x0 st0
    have hy0 : ir y0 := okL_hd hsa
    have hx0 : ir x0 := okL_hd (okL_tl hsa)
    have w := hK _ _ _ _ hst.2 hla (okL_cons (okL_tl (okL_tl hsa)) (ir_div hx0 hst.1)) hsi rfl _ _ _ hls hP hS
    rw [nx] at w
    refine lv_idiv hx hb hd (fun q => by rw [oi_0, oi_eq hy0 ir_0] at q; have := hst.1; omega) ?_
    rw [oi_div hx0 hy0 hst.1]
    exact w
  case irem  =>
    have nx : nd (bp y) (pc + 1) = nd (bp y) pc + 1 := of_decide_eq_true hLn
    have hd := dec1 hd nx
    split at hst
    case h_2 => exact hst.elim
    rename_i y0 x0 st0
    have hy0 : ir y0 := okL_hd hsa
    have hx0 : ir x0 := okL_hd (okL_tl hsa)
    have w := hK _ _ _ _ hst.2 hla (okL_cons (okL_tl (okL_tl hsa)) (ir_mod hy0 hst.1)) hsi rfl _ _ _ hls hP hS
    rw [nx] at w
    refine lv_irem hx hb hd (fun q => by rw [oi_0, oi_eq hy0 ir_0] at q; have := hst.1; omega) ?_
    rw [oi_rem hx0 hy0 hst.1]
    exact w
  case ior  =>
    have nx : nd (bp y) (pc + 1) = nd (bp y) pc + 1 := of_decide_eq_true hLn
    have hd := dec1 hd nx
    split at hst
    case h_2 => exact hst.elim
    rename_i y0 x0 st0
    have hy0 : ir y0 := okL_hd hsa
    have hx0 : ir x0 := okL_hd (okL_tl hsa)
    have w := hK _ _ _ _ hst.2 hla (okL_cons (okL_tl (okL_tl hsa)) (ir_or hx0 hy0)) hsi rfl _ _ _ hls hP hS
    rw [nx] at w
    refine lv_ior hx hb hd ?_
    rw [oi_or hx0 hy0 hst.1]
    exact w
  case iand  =>
    have nx : nd (bp y) (pc + 1) = nd (bp y) pc + 1 := of_decide_eq_true hLn
    have hd := dec1 hd nx
    split at hst
    case h_3 => exact hst.elim
    case h_1 q0 y0 x0 st0 hq =>
      have hy0 : ir y0 := okL_hd hsa
      have hx0 : ir x0 := okL_hd (okL_tl hsa)
      obtain ⟨rfl, hst⟩ := hst
      have w := hK _ _ _ _ hst hla (okL_cons (okL_tl (okL_tl hsa)) (show ir (x0 % 32) by unfold ir; omega)) hsi rfl _ _ _ hls hP hS
      rw [nx] at w
      refine lv_iand hx hb hd ?_
      rw [oi_31 hx0]
      exact w
    case h_2 y0 x0 st0 hq =>
      have hy0 : ir y0 := okL_hd hsa
      have hx0 : ir x0 := okL_hd (okL_tl hsa)
      have w := hK _ _ _ _ hst.2 hla (okL_cons (okL_tl (okL_tl hsa)) (ir_and (y := y0) hx0)) hsi rfl _ _ _ hls hP hS
      rw [nx] at w
      refine lv_iand hx hb hd ?_
      rw [oi_and hx0 hy0 hst.1]
      exact w
  case ladd  =>
    have nx : nd (bp y) (pc + 1) = nd (bp y) pc + 1 := of_decide_eq_true hLn
    have hd := dec1 hd nx
    split at hst
    case h_2 => exact hst.elim
    rename_i y0 x0 st0
    have hy0 : il y0 := okL_hd (v := vl y0) hsa
    have hx0 : il x0 := okL_hd (v := vl x0) (okL_tl hsa)
    have w := hK _ _ _ _ hst.2 hla (okL_cons (v := vl _) (okL_tl (okL_tl hsa)) hst.1) hsi rfl _ _ _ hls hP hS
    rw [nx] at w
    refine lv_ladd hx hb hd ?_
    rw [← Int64.ofInt_add]
    exact w
  case lsub  =>
    have nx : nd (bp y) (pc + 1) = nd (bp y) pc + 1 := of_decide_eq_true hLn
    have hd := dec1 hd nx
    split at hst
    case h_2 => exact hst.elim
    rename_i y0 x0 st0
    have hy0 : il y0 := okL_hd (v := vl y0) hsa
    have hx0 : il x0 := okL_hd (v := vl x0) (okL_tl hsa)
    have w := hK _ _ _ _ hst.2 hla (okL_cons (v := vl _) (okL_tl (okL_tl hsa)) hst.1) hsi rfl _ _ _ hls hP hS
    rw [nx] at w
    refine lv_lsub hx hb hd ?_
    rw [← Int64.ofInt_sub]
    exact w
  case lmul  =>
    have nx : nd (bp y) (pc + 1) = nd (bp y) pc + 1 := of_decide_eq_true hLn
    have hd := dec1 hd nx
    split at hst
    case h_2 => exact hst.elim
    rename_i y0 x0 st0
    have hy0 : il y0 := okL_hd (v := vl y0) hsa
    have hx0 : il x0 := okL_hd (v := vl x0) (okL_tl hsa)
    have w := hK _ _ _ _ hst.2 hla (okL_cons (v := vl _) (okL_tl (okL_tl hsa)) hst.1) hsi rfl _ _ _ hls hP hS
    rw [nx] at w
    refine lv_lmul hx hb hd ?_
    rw [← Int64.ofInt_mul]
    exact w
  case ldiv  =>
    have nx : nd (bp y) (pc + 1) = nd (bp y) pc + 1 := of_decide_eq_true hLn
    have hd := dec1 hd nx
    split at hst
    case h_2 => exact hst.elim
    rename_i y0 x0 st0
    have hy0 : il y0 := okL_hd (v := vl y0) hsa
    have hx0 : il x0 := okL_hd (v := vl x0) (okL_tl hsa)
    have w := hK _ _ _ _ hst.2 hla (okL_cons (v := vl _) (okL_tl (okL_tl hsa)) (il_div hx0 hst.1)) hsi rfl _ _ _ hls hP hS
    rw [nx] at w
    refine lv_ldiv hx hb hd (fun q => by rw [show (0 : Int64) = Int64.ofInt 0 from rfl, ol_eq hy0 (by unfold il; omega)] at q; have := hst.1; omega) ?_
    rw [ol_div hx0 hy0 hst.1]
    exact w
  case lrem  =>
    have nx : nd (bp y) (pc + 1) = nd (bp y) pc + 1 := of_decide_eq_true hLn
    have hd := dec1 hd nx
    split at hst
    case h_2 => exact hst.elim
    rename_i y0 x0 st0
    have hy0 : il y0 := okL_hd (v := vl y0) hsa
    have hx0 : il x0 := okL_hd (v := vl x0) (okL_tl hsa)
    have w := hK _ _ _ _ hst.2 hla (okL_cons (v := vl _) (okL_tl (okL_tl hsa)) (il_mod hy0 hst.1)) hsi rfl _ _ _ hls hP hS
    rw [nx] at w
    refine lv_lrem hx hb hd (fun q => by rw [show (0 : Int64) = Int64.ofInt 0 from rfl, ol_eq hy0 (by unfold il; omega)] at q; have := hst.1; omega) ?_
    rw [ol_rem hx0 hy0 hst.1]
    exact w
  case land  =>
    have nx : nd (bp y) (pc + 1) = nd (bp y) pc + 1 := of_decide_eq_true hLn
    have hd := dec1 hd nx
    split at hst
    case h_2 => exact hst.elim
    rename_i y0 x0 st0
    obtain ⟨⟨h0, rfl⟩, hst⟩ := hst
    have hx0 : il x0 := okL_hd (v := vl x0) (okL_tl hsa)
    have w := hK _ _ _ _ hst hla (okL_cons (v := vl _) (okL_tl (okL_tl hsa)) (show il (x0 % 2) by unfold il; omega)) hsi rfl _ _ _ hls hP hS
    rw [nx] at w
    refine lv_land hx hb hd ?_
    rw [ol_and1 hx0 h0]
    exact w
  case lshl  =>
    have nx : nd (bp y) (pc + 1) = nd (bp y) pc + 1 := of_decide_eq_true hLn
    have hd := dec1 hd nx
    split at hst
    case h_2 => exact hst.elim
    rename_i y0 x0 st0
    obtain ⟨⟨h0, rfl, h1⟩, hst⟩ := hst
    have w := hK _ _ _ _ hst hla (okL_cons (v := vl _) (okL_tl (okL_tl hsa)) h1) hsi rfl _ _ _ hls hP hS
    rw [nx] at w
    exact lv_lshl hx hb hd (ol_shl h1 h0) w
  case i2l  =>
    have nx : nd (bp y) (pc + 1) = nd (bp y) pc + 1 := of_decide_eq_true hLn
    have hd := dec1 hd nx
    split at hst
    case h_2 => exact hst.elim
    rename_i x0 st0
    have hx0 : ir x0 := okL_hd hsa
    have w := hK _ _ _ _ hst hla (okL_cons (v := vl _) (okL_tl hsa) (il_ir hx0)) hsi rfl _ _ _ hls hP hS
    rw [nx] at w
    exact lv_i2l hx hb hd (oi_l hx0) w
  case l2i  =>
    have nx : nd (bp y) (pc + 1) = nd (bp y) pc + 1 := of_decide_eq_true hLn
    have hd := dec1 hd nx
    split at hst
    case h_2 => exact hst.elim
    rename_i x0 st0
    have w := hK _ _ _ _ hst.2 hla (okL_cons (okL_tl hsa) hst.1) hsi rfl _ _ _ hls hP hS
    rw [nx] at w
    exact lv_l2i hx hb hd (ol_i hst.1) w
  case lcmp  =>
    have nx : nd (bp y) (pc + 1) = nd (bp y) pc + 1 := of_decide_eq_true hLn
    have hd := dec1 hd nx
    split at hst
    case h_2 => exact hst.elim
    rename_i y0 x0 st0
    have hy0 : il y0 := okL_hd (v := vl y0) hsa
    have hx0 : il x0 := okL_hd (v := vl x0) (okL_tl hsa)
    have w := hK _ _ _ _ hst hla (okL_cons (okL_tl (okL_tl hsa)) (ir_lc x0 y0)) hsi rfl _ _ _ hls hP hS
    rw [nx] at w
    refine W.lcmp hx hb hd ?_
    rw [ol_cmp hx0 hy0]
    exact w
  case dup  =>
    have nx : nd (bp y) (pc + 1) = nd (bp y) pc + 1 := of_decide_eq_true hLn
    have hd := dec1 hd nx
    split at hst
    case h_3 => exact hst.elim
    case h_1 x0 st0 =>
      have w := hK _ _ _ _ hst hla (okL_cons hsa (okL_hd hsa)) hsi rfl _ _ _ hls hP hS
      rw [nx] at w
      exact lv_dup hx hb hd rfl w
    case h_2 r st0 =>
      have w := hK _ _ _ _ hst hla (okL_cons hsa (okL_hd hsa)) hsi rfl _ _ _ hls hP hS
      rw [nx] at w
      rcases r with _ | ⟨t, i'⟩ <;> exact lv_dup hx hb hd rfl w
  case dup2  =>
    have nx : nd (bp y) (pc + 1) = nd (bp y) pc + 1 := of_decide_eq_true hLn
    have hd := dec1 hd nx
    split at hst
    case h_2 => exact hst.elim
    rename_i x0 r st0
    have w := hK _ _ _ _ hst hla (okL_cons (okL_cons hsa (okL_hd (okL_tl hsa))) (okL_hd hsa)) hsi rfl _ _ _ hls hP hS
    rw [nx] at w
    rcases r with _ | ⟨t, i'⟩ <;> exact lv_dup2_11 hx hb hd rfl rfl w
  case iinc i n =>
    have nx : nd (bp y) (pc + 1) = nd (bp y) pc + 3 := of_decide_eq_true hLn
    have hd := dec1 hd nx
    split at hst
    case h_2 => exact hst.elim
    rename_i x0 hr
    have g := hls.at hr rfl
    have hi := nth_lt _ _ _ hr
    obtain ⟨e1, l0, e2, e3⟩ := hls
    obtain ⟨k, hk⟩ := List.getElem?_of_mem (e3 _ _ hr rfl)
    refine lv_iinc (v := Int32.ofInt (x0 + n)) hx hb hd e2 hk (by rw [Int32.ofInt_add]) (by rw [← e1]; exact hi) rfl fun ls' hl' => ?_
    have w := hK _ _ _ _ hst.2 (okL_stl hla hst.1) hsa hsi rfl _ _ _ (LR.set (v := .inl (x0 + n)) e1 e3 hl') hP hS
    rw [nx] at w
    exact w
  case if_icmp cc off =>
    have nx : nd (bp y) (pc + 1) = nd (bp y) pc + 3 := of_decide_eq_true hLn
    have hd := dec1 hd nx
    split at hst
    case h_2 => exact hst.elim
    rename_i t y0 x0 st0 hq
    have hy0 : ir y0 := okL_hd hsa
    have hx0 : ir x0 := okL_hd (okL_tl hsa)
    have hT2 : (nd (bp y) pc : Int) + off = (nd (bp y) t : Int) := of_decide_eq_true hT
    have okt := okL_tl (okL_tl hsa)
    have kA : K t la st0 σ → W p l e₀ R s m args below meth c H locs cells slots Q (F0 m (nd (bp y) t) ls (st0.map (cv N0 b))) := fun q => hK _ _ _ _ q hla okt hsi rfl _ _ _ hls hP hS
    have kB : K (pc + 1) la st0 σ → W p l e₀ R s m args below meth c H locs cells slots Q (F0 m (nd (bp y) pc + 3) ls (st0.map (cv N0 b))) := fun q => nx ▸ hK _ _ _ _ q hla okt hsi rfl _ _ _ hls hP hS
    cases cc <;> simp only [cnd] at hst
    · exact lv_icmp_eq hx hb hd hT2 (fun q => kA (hst.1 ((oi_eq hx0 hy0).mp q))) (fun q => kB (hst.2 (fun z => q ((oi_eq hx0 hy0).mpr z))))
    · exact lv_icmp_ne hx hb hd hT2 (fun q => kA (hst.1 (fun z => q ((oi_eq hx0 hy0).mpr z)))) (fun q => kB (hst.2 ((oi_eq hx0 hy0).mp (by first | exact q | exact Decidable.of_not_not q))))
    · exact lv_icmp_lt hx hb hd hT2 (fun q => kA (hst.1 ((oi_lt hx0 hy0).mp q))) (fun q => kB (hst.2 (Int.not_lt.mp (fun z => q ((oi_lt hx0 hy0).mpr z)))))
    · exact lv_icmp_ge hx hb hd hT2 (fun q => kA (hst.1 ((oi_le hy0 hx0).mp q))) (fun q => kB (hst.2 (Int.not_le.mp (fun z => q ((oi_le hy0 hx0).mpr z)))))
    · exact lv_icmp_gt hx hb hd hT2 (fun q => kA (hst.1 ((oi_lt hy0 hx0).mp q))) (fun q => kB (hst.2 (Int.not_lt.mp (fun z => q ((oi_lt hy0 hx0).mpr z)))))
    · exact lv_icmp_le hx hb hd hT2 (fun q => kA (hst.1 ((oi_le hx0 hy0).mp q))) (fun q => kB (hst.2 (Int.not_le.mp (fun z => q ((oi_le hx0 hy0).mpr z)))))
  case ifCond cc off =>
    have nx : nd (bp y) (pc + 1) = nd (bp y) pc + 3 := of_decide_eq_true hLn
    have hd := dec1 hd nx
    split at hst
    case h_2 => exact hst.elim
    rename_i t x0 st0 hq
    have hy0 : ir 0 := ir_0
    have hx0 : ir x0 := okL_hd hsa
    have hT2 : (nd (bp y) pc : Int) + off = (nd (bp y) t : Int) := of_decide_eq_true hT
    have okt := okL_tl hsa
    have kA : K t la st0 σ → W p l e₀ R s m args below meth c H locs cells slots Q (F0 m (nd (bp y) t) ls (st0.map (cv N0 b))) := fun q => hK _ _ _ _ q hla okt hsi rfl _ _ _ hls hP hS
    have kB : K (pc + 1) la st0 σ → W p l e₀ R s m args below meth c H locs cells slots Q (F0 m (nd (bp y) pc + 3) ls (st0.map (cv N0 b))) := fun q => nx ▸ hK _ _ _ _ q hla okt hsi rfl _ _ _ hls hP hS
    cases cc <;> simp only [cnd] at hst
    · exact lv_if_eq hx hb hd hT2 (fun q => kA (hst.1 ((oi_eq hx0 hy0).mp q))) (fun q => kB (hst.2 (fun z => q ((oi_eq hx0 hy0).mpr z))))
    · exact lv_if_ne hx hb hd hT2 (fun q => kA (hst.1 (fun z => q ((oi_eq hx0 hy0).mpr z)))) (fun q => kB (hst.2 ((oi_eq hx0 hy0).mp (by first | exact q | exact Decidable.of_not_not q))))
    · exact lv_if_lt hx hb hd hT2 (fun q => kA (hst.1 ((oi_lt hx0 hy0).mp q))) (fun q => kB (hst.2 (Int.not_lt.mp (fun z => q ((oi_lt hx0 hy0).mpr z)))))
    · exact lv_if_ge hx hb hd hT2 (fun q => kA (hst.1 ((oi_le hy0 hx0).mp q))) (fun q => kB (hst.2 (Int.not_le.mp (fun z => q ((oi_le hy0 hx0).mpr z)))))
    · exact lv_if_gt hx hb hd hT2 (fun q => kA (hst.1 ((oi_lt hy0 hx0).mp q))) (fun q => kB (hst.2 (Int.not_lt.mp (fun z => q ((oi_lt hy0 hx0).mpr z)))))
    · exact lv_if_le hx hb hd hT2 (fun q => kA (hst.1 ((oi_le hx0 hy0).mp q))) (fun q => kB (hst.2 (Int.not_le.mp (fun z => q ((oi_le hx0 hy0).mpr z)))))
  case ifnull off =>
    have nx : nd (bp y) (pc + 1) = nd (bp y) pc + 3 := of_decide_eq_true hLn
    have hd := dec1 hd nx
    split at hst
    case h_3 => exact hst.elim
    case h_1 t st0 hq =>
      have hT2 : (nd (bp y) pc : Int) + off = (nd (bp y) t : Int) := of_decide_eq_true hT
      have w := hK _ _ _ _ hst hla (okL_tl hsa) hsi rfl _ _ _ hls hP hS
      exact lv_ifnullN hx hb hd hT2 w
    case h_2 t r st0 hq =>
      have w := hK _ _ _ _ hst hla (okL_tl hsa) hsi rfl _ _ _ hls hP hS
      rw [nx] at w
      exact lv_ifnull hx hb hd w
  case ifnonnull off =>
    have nx : nd (bp y) (pc + 1) = nd (bp y) pc + 3 := of_decide_eq_true hLn
    have hd := dec1 hd nx
    split at hst
    case h_3 => exact hst.elim
    case h_1 t st0 hq =>
      have w := hK _ _ _ _ hst hla (okL_tl hsa) hsi rfl _ _ _ hls hP hS
      rw [nx] at w
      exact lv_ifnonnullN hx hb hd w
    case h_2 t r st0 hq =>
      have hT2 : (nd (bp y) pc : Int) + off = (nd (bp y) t : Int) := of_decide_eq_true hT
      have w := hK _ _ _ _ hst hla (okL_tl hsa) hsi rfl _ _ _ hls hP hS
      exact lv_ifnonnull hx hb hd hT2 w
  case goto off =>
    have nx : nd (bp y) (pc + 1) = nd (bp y) pc + 3 := of_decide_eq_true hLn
    have hd := dec1 hd nx
    split at hst
    case h_2 => exact hst.elim
    rename_i t hq
    have hT2 : (nd (bp y) pc : Int) + off = (nd (bp y) t : Int) := of_decide_eq_true hT
    have w := hK _ _ _ _ hst hla hsa hsi rfl _ _ _ hls hP hS
    exact lv_goto hx hb hd hT2 w
  case tableswitch dflt lo hi offs =>
    rcases ns with _ | ⟨t, ts⟩
    · exact False.elim hst
    rcases sa with _ | ⟨v0, st0⟩
    · exact False.elim hst
    rcases v0 with x0 | v0
    case inr => exact False.elim hst
    have hx0 : ir x0 := okL_hd hsa
    have hT : (tgt (bp y) pc dflt t && tgs (bp y) pc offs.toList ts && decide ((offs.toList.length : Int) = hi - lo + 1)) = true := hT
    simp only [Bool.and_eq_true, decide_eq_true_eq] at hT
    by_cases h : x0 < lo ∨ hi < x0
    · have w := hK _ _ _ _ (hst.1 h) hla (okL_tl hsa) hsi rfl _ _ _ hls hP hS
      exact lv_tableOut hx hb hd (by rw [oi_to hx0]; exact h) (of_decide_eq_true hT.1.1) w
    · have e1 : 0 ≤ x0 - lo := by omega
      obtain ⟨g1, g2⟩ := tgs_at _ _ hT.1.2
      have e2 : (x0 - lo).toNat < offs.toList.length := by omega
      obtain ⟨t1, k1, k2⟩ := g2 _ _ (List.getElem?_eq_getElem e2)
      have w := hK _ _ _ _ (tsw_at _ _ hst.2 _ _ k1 (by omega)) hla (okL_tl hsa) hsi rfl _ _ _ hls hP hS
      refine lv_tableIn hx hb hd (by rw [oi_to hx0]; omega) (by rw [oi_to hx0]; omega) (by rw [oi_to hx0, ← Array.getElem?_toList]; exact List.getElem?_eq_getElem e2) k2 w
  case lookupswitch dflt ps =>
    rcases ns with _ | ⟨t, ts⟩
    · exact False.elim hst
    rcases sa with _ | ⟨v0, st0⟩
    · exact False.elim hst
    rcases v0 with x0 | v0
    case inr => exact False.elim hst
    have hx0 : ir x0 := okL_hd hsa
    have hT : (tgt (bp y) pc dflt t && tgs (bp y) pc (ps.toList.map (fun q => q.2)) ts && (ps.toList.zip (ps.toList.drop 1)).all (fun (a, next) => a.1 < next.1)) = true := hT
    simp only [Bool.and_eq_true] at hT
    obtain ⟨o1, t1, k1, k2, k3⟩ := lsw_at (of_decide_eq_true hT.1.1) _ _ hT.1.2 hst.1 hst.2
    have w := hK _ _ _ _ k3 hla (okL_tl hsa) hsi rfl _ _ _ hls hP hS
    exact lv_lookup hx hb hd hT.2 (by rw [oi_to hx0]; exact k1) k2 w
  case getfield n =>
    have nx : nd (bp y) (pc + 1) = nd (bp y) pc + 3 := of_decide_eq_true hLn
    have hd := dec1 hd nx
    split at hst
    case h_2 => exact hst.elim
    rename_i c0 k0 q0 t i st0 hq
    obtain ⟨hc, hst2⟩ := bif_t hst
    clear hst
    have hc := beq_t hc
    obtain ⟨g0, rfl⟩ := lkf_get hCk
    obtain ⟨g1, g2, g3, g4, g5, g6, g7⟩ := lkf_use g0
    subst hc
    have ht : t ≠ 99 := fun z => by rw [z, cls_99] at g3; omega
    have hv := ok_vd (okL_hd hsa) ht
    have hv2 := vd_nat hv
    have hlt := vd_lt hv
    have he := wsO_at (cA := cA) (N0 := N0) (σ := σ) hv2.1
    rw [cE_obj g3 (by omega), hv2.2] at he
    obtain ⟨r1, r2⟩ := rf_kind (by omega) g3 g2
    have key : W p l e₀ R s m args below meth c H locs cells slots Q (F0 m (nd (bp y) pc + 3) ls (fV N0 (σ t i) t i.toNat k0 :: st0.map (cv N0 b))) := by
      split at hst2
      · have hne : rf t k0 ≠ 0 := fun z => by
          have := r1.mp z
          simp only [tyq, Bool.and_eq_true, Bool.not_eq_true'] at g5
          simp only [isI, Bool.or_eq_true] at this
          have e5 : (fq (cls t) k0).2.2.1 = ((kc (cls t - 1)).2.1 k0).2.2.1 := rfl
          rw [e5] at g5
          rcases this with q | q
          · rw [g5.1] at q; cases q
          · rw [g5.2] at q; cases q
        have hcnt := r2 hne
        have hv3 : vd (rf t k0) i := by unfold vd at hv ⊢; rw [hcnt]; exact hv
        have hne9 : rf t k0 ≠ 99 := by have := vd_lt hv3; omega
        have w := hK _ _ _ _ hst2 hla (okL_cons (okL_tl hsa) (Or.inr ⟨hne9, hv3⟩)) hsi rfl _ _ _ hls hP hS
        rw [nx] at w
        have e : fV N0 (σ t i) t i.toNat k0 = cv N0 b (vr (rf t k0) i) := by
          simp only [fV, cv, adr_ne hne9]
          split
          · rename_i z; exact absurd z hne
          · rename_i r z; rw [z]
        rw [e]
        exact w
      · rename_i hq2
        have h0 : rf t k0 = 0 := r1.mpr (by
          have e5 : (fq (cls t) k0).2.2.1 = ((kc (cls t - 1)).2.1 k0).2.2.1 := rfl
          rw [e5] at g5
          rcases q0 with _ | _ | q0
          · simp only [isI, Bool.or_eq_true]; exact Or.inl g5
          · simp only [isI, Bool.or_eq_true]; exact Or.inr g5
          · have hz : ∀ q, lkf.all (fun e => decide (e.2.2.2.2.1 < 3)) = true → q ∈ lkf → q.2.2.2.2.1 < 3 := fun q h1 h2 => of_decide_eq_true (List.all_eq_true.mp h1 q h2)
            obtain ⟨e', he', hc'⟩ := List.any_eq_true.mp g0
            simp only [Bool.and_eq_true, decide_eq_true_eq] at hc'
            have := hz _ (by decide +kernel) he'
            exact absurd (show q0 + 2 = 2 by omega) (by intro z; exact hq2 z))
        have w := hK _ _ _ _ hst2 hla (okL_cons (okL_tl hsa) (hsi.1 _ _ _)) hsi rfl _ _ _ hls hP hS
        rw [nx] at w
        have e : fV N0 (σ t i) t i.toNat k0 = cv N0 b (.inl (σ t i k0)) := by
          simp only [fV, cv, h0]
        rw [e]
        exact w
    have hsame : ∀ x, s.fieldFound? ((kc (cls t - 1)).2.1 k0).1 ((kc (cls t - 1)).2.1 k0).2.1 ((kc (cls t - 1)).2.1 k0).2.2.1 = some x → s.fieldFound? (kc (cls t - 1)).1 ((kc (cls t - 1)).2.1 k0).2.1 ((kc (cls t - 1)).2.1 k0).2.2.1 = some x := by
      intro x hx'
      have e6 : ((kc (cls t - 1)).2.1 k0).1 = (kc (cls t - 1)).1 := g6
      rw [e6] at hx'; exact hx'
    have := va_get (D := D) (ci := cls t - 1) (C := (kc (cls t - 1)).1) (T := (kc (cls t - 1)).2.1) (N := (kc (cls t - 1)).2.2) (rest := st0.map (cv N0 b)) hx hb hts (uw_lay (by omega)) hown hKs hP (ad t i.toNat) he (kc_at (by omega)) k0 g2 (hts _ (uw_mem g1 rfl)) hsame (v := fV N0 (σ t i) t i.toNat k0) (by simp [g2]) hd key
    have e : cv N0 b (.inr (.inl (some (t, i)))) = .ref (N0 + ad t i.toNat) := by simp only [cv, adr_ne ht]
    rw [List.map_cons, e]
    exact this
  case putfield n =>
    have nx : nd (bp y) (pc + 1) = nd (bp y) pc + 3 := of_decide_eq_true hLn
    have hd := dec1 hd nx
    split at hst
    case h_2 => exact hst.elim
    rename_i c0 k0 q0 x0 t i st0 hq
    obtain ⟨hc, hst2⟩ := bif_t hst
    clear hst
    have hc := beq_t hc
    obtain ⟨g0, rfl⟩ := lkf_put hCk
    obtain ⟨g1, g2, g3, g4, g5, g6, g7⟩ := lkf_use g0
    subst hc
    have hx0 : ir x0 := okL_hd hsa
    have ht : t ≠ 99 := fun z => by rw [z, cls_99] at g3; omega
    have hv := ok_vd (okL_hd (okL_tl hsa)) ht
    have hv2 := vd_nat hv
    have hlt := vd_lt hv
    have he := wsO_at (cA := cA) (N0 := N0) (σ := σ) hv2.1
    rw [cE_obj g3 (by omega), hv2.2] at he
    obtain ⟨r1, r2⟩ := rf_kind (by omega) g3 g2
    have hsame : ∀ x, s.fieldFound? ((kc (cls t - 1)).2.1 k0).1 ((kc (cls t - 1)).2.1 k0).2.1 ((kc (cls t - 1)).2.1 k0).2.2.1 = some x → s.fieldFound? (kc (cls t - 1)).1 ((kc (cls t - 1)).2.1 k0).2.1 ((kc (cls t - 1)).2.1 k0).2.2.1 = some x := by
      intro x hx'
      have e6 : ((kc (cls t - 1)).2.1 k0).1 = (kc (cls t - 1)).1 := g6
      rw [e6] at hx'; exact hx'
    have e5 : (fq (cls t) k0).2.2.1 = ((kc (cls t - 1)).2.1 k0).2.2.1 := rfl
    rw [e5] at g5
    have key : ∀ (ty : FieldType), K (pc + 1) la st0 (up σ t i (k0 : Int) x0) → isI ((kc (cls t - 1)).2.1 k0).2.2.1 = true → q0 ≠ 2 → parseFieldDescriptor ((kc (cls t - 1)).2.1 k0).2.2.1 = some ty → narrow ty (.int (Int32.ofInt x0)) = .int (Int32.ofInt x0) → fits ty (.int (Int32.ofInt x0)) = true → W p l e₀ R s m args below meth c H locs cells slots Q (F0 m (nd (bp y) pc) ls (.int (Int32.ofInt x0) :: .ref (N0 + ad t i.toNat) :: st0.map (cv N0 b))) := by
      intro ty hst hI hq2 hp hn hf
      have hfin : ((kc (cls t - 1)).2.1 k0).2.2.2 = false := by
        rcases g7 with g7 | g7
        · exact absurd g7 hq2
        · exact g7
      have h0 := r1.mpr hI
      have hsu := SI_up (t := t) (i := i) (j := (k0 : Int)) hsi hx0 ht
      refine va_put (D := D) (ci := cls t - 1) (C := (kc (cls t - 1)).1) (T := (kc (cls t - 1)).2.1) (N := (kc (cls t - 1)).2.2) (rest := st0.map (cv N0 b)) hx hb hts (uw_lay (by omega)) (ty0 (cls t - 1)) (tyq_all (by omega)) (nmq_all (by omega)) hown hKs hP (wsO_D σ) hS (ad t i.toNat) he (kc_at (by omega)) k0 g2 (hts _ (uw_mem g1 rfl)) hsame hfin hp hn hf (by simp [g2]) hd (fun H1 locs1 hP1 _ hS1 => ?_)
      rw [wsO_put hv g3 h0] at hP1
      have w := hK _ _ _ _ hst hla (okL_tl (okL_tl hsa)) hsu.1 hsu.2 _ _ _ hls hP1 hS1
      rw [nx] at w
      exact w
    have e : cv N0 b (.inr (.inl (some (t, i)))) = .ref (N0 + ad t i.toNat) := by simp only [cv, adr_ne ht]
    rw [List.map_cons, List.map_cons, e]
    split at hst2
    · have hd0 := of_decide_eq_true g5
      exact key .int hst2 (by rw [hd0]; decide) (by decide) (by rw [hd0]; decide +kernel) rfl rfl
    · have hd0 := of_decide_eq_true g5
      refine key .boolean hst2.2 (by rw [hd0]; decide) (by decide) (by rw [hd0]; decide +kernel) ?_ ?_
      · rcases hst2.1 with rfl | rfl <;> decide
      · rcases hst2.1 with rfl | rfl <;> decide
    · exact hst2.elim
  case iaload  =>
    have nx : nd (bp y) (pc + 1) = nd (bp y) pc + 1 := of_decide_eq_true hLn
    have hd := dec1 hd nx
    split at hst
    case h_2 => exact hst.elim
    rename_i j0 t i st0
    obtain ⟨hc, hst2⟩ := bif_t hst
    clear hst
    have hc := beq_t hc
    obtain ⟨h1, h2⟩ := hst2
    have hj : ir j0 := okL_hd hsa
    have w := hK _ _ _ _ h2 hla (okL_cons (okL_tl (okL_tl hsa)) (hsi.1 _ _ _)) hsi rfl _ _ _ hls hP hS
    rw [nx] at w
    by_cases ht : t = 99
    · subst ht
      have ho : okV sc (vr 99 i) := okL_hd (okL_tl hsa)
      have ho : i = 0 ∧ sc := by
        rcases ho with q | q
        · exact q.2
        · exact absurd rfl q.1
      obtain ⟨rfl, hs⟩ := ho
      obtain ⟨g1, g2, g3⟩ := hscr hs
      obtain ⟨g4, g5⟩ := hsi.2 hs
      rw [aln_99, g4] at h1
      have hb' : cv N0 b (.inr (.inl (some (99, 0)))) = .ref b := by simp only [cv, adr, if_true]
      rw [List.map_cons, List.map_cons, hb']
      refine va_sld hx hb g1 g2 (show ¬ N0 ≤ b by omega) hS ((oi_in hj).mpr h1) hd ?_
      rw [oi_nat hj h1.1]
      have e2 := g5 j0.toNat (by omega)
      have e3 : ((j0.toNat : Nat) : Int) = j0 := by omega
      rw [e3] at e2
      have e4 : xs j0.toNat = Int32.ofInt (σ 99 0 j0) := by rw [e2, Int32.ofInt_toInt]
      rw [e4]
      exact w
    · have hv := ok_vd (okL_hd (okL_tl hsa)) ht
      have hv2 := vd_nat hv
      have hlt := vd_lt hv
      have he := wsO_at (cA := cA) (N0 := N0) (σ := σ) hv2.1
      rw [cE_int hc, hv2.2] at he
      rw [aln_ne ht] at h1
      have hal := al_pos (t := t) (by omega)
      have e : cv N0 b (.inr (.inl (some (t, i)))) = .ref (N0 + ad t i.toNat) := by simp only [cv, adr_ne ht]
      rw [List.map_cons, List.map_cons, e]
      refine va_iald hx hb hKs hP (ad t i.toNat) 0 he rfl ((oi_in hj).mpr (by omega)) hd ?_
      rw [oi_nat hj h1.1]
      have e3 : ((j0.toNat : Nat) : Int) = j0 := by omega
      rw [e3]
      exact w
  case baload  =>
    have nx : nd (bp y) (pc + 1) = nd (bp y) pc + 1 := of_decide_eq_true hLn
    have hd := dec1 hd nx
    split at hst
    case h_2 => exact hst.elim
    rename_i j0 t i st0
    obtain ⟨hc, hst2⟩ := bif_t hst
    clear hst
    have hc := beq_t hc
    obtain ⟨h1, h2⟩ := hst2
    have hj : ir j0 := okL_hd hsa
    have ht : t ≠ 99 := fun z => by rw [z, ak_99] at hc; omega
    have hv := ok_vd (okL_hd (okL_tl hsa)) ht
    have hv2 := vd_nat hv
    have hlt := vd_lt hv
    have he := wsO_at (cA := cA) (N0 := N0) (σ := σ) hv2.1
    have hal := al_pos (t := t) (by omega)
    have e : cv N0 b (.inr (.inl (some (t, i)))) = .ref (N0 + ad t i.toNat) := by simp only [cv, adr_ne ht]
    rw [aln_ne ht] at h1
    rw [cE_bool hc, hv2.2] at he
    have w := hK _ _ _ _ h2 hla (okL_cons (okL_tl (okL_tl hsa)) (hsi.1 _ _ _)) hsi rfl _ _ _ hls hP hS
    rw [nx] at w
    rw [List.map_cons, List.map_cons, e]
    refine va_zald hx hb hKs hP (ad t i.toNat) 1 he rfl ((oi_in hj).mpr (by omega)) hd ?_
    rw [oi_nat hj h1.1]
    have e3 : ((j0.toNat : Nat) : Int) = j0 := by omega
    rw [e3]
    exact w
  case iastore  =>
    have nx : nd (bp y) (pc + 1) = nd (bp y) pc + 1 := of_decide_eq_true hLn
    have hd := dec1 hd nx
    split at hst
    case h_2 => exact hst.elim
    rename_i x0 j0 t i st0
    obtain ⟨hc, hst2⟩ := bif_t hst
    clear hst
    rw [Bool.and_eq_true] at hc
    have ht : t ≠ 99 := fun z => by rw [z] at hc; exact absurd hc.2 (by decide)
    have hc := beq_t hc.1
    obtain ⟨h1, h2⟩ := hst2
    have hx0 : ir x0 := okL_hd hsa
    have hj : ir j0 := okL_hd (okL_tl hsa)
    have hv := ok_vd (okL_hd (okL_tl (okL_tl hsa))) ht
    have hv2 := vd_nat hv
    have hlt := vd_lt hv
    have he := wsO_at (cA := cA) (N0 := N0) (σ := σ) hv2.1
    have hal := al_pos (t := t) (by omega)
    have e : cv N0 b (.inr (.inl (some (t, i)))) = .ref (N0 + ad t i.toNat) := by simp only [cv, adr_ne ht]
    rw [aln_ne ht] at h1
    rw [cE_int hc, hv2.2] at he
    have hsu := SI_up (t := t) (i := i) (j := j0) hsi hx0 ht
    rw [List.map_cons, List.map_cons, List.map_cons, e]
    refine va_iast hx hb hKs hP (wsO_D σ) hS (ad t i.toNat) 0 he rfl ((oi_in hj).mpr (by omega)) hd (fun H1 locs1 hP1 _ hS1 => ?_)
    rw [wsO_ast hv hc hj h1.1] at hP1
    have w := hK _ _ _ _ h2 hla (okL_tl (okL_tl (okL_tl hsa))) hsu.1 hsu.2 _ _ _ hls hP1 hS1
    rw [nx] at w
    exact w
  case bastore  =>
    have nx : nd (bp y) (pc + 1) = nd (bp y) pc + 1 := of_decide_eq_true hLn
    have hd := dec1 hd nx
    split at hst
    case h_2 => exact hst.elim
    rename_i x0 j0 t i st0
    obtain ⟨hc, hst2⟩ := bif_t hst
    clear hst
    have hc := beq_t hc
    have ht : t ≠ 99 := fun z => by rw [z, ak_99] at hc; omega
    obtain ⟨⟨h1, h3⟩, h2⟩ := hst2
    have hx0 : ir x0 := okL_hd hsa
    have hj : ir j0 := okL_hd (okL_tl hsa)
    have hv := ok_vd (okL_hd (okL_tl (okL_tl hsa))) ht
    have hv2 := vd_nat hv
    have hlt := vd_lt hv
    have he := wsO_at (cA := cA) (N0 := N0) (σ := σ) hv2.1
    have hal := al_pos (t := t) (by omega)
    have e : cv N0 b (.inr (.inl (some (t, i)))) = .ref (N0 + ad t i.toNat) := by simp only [cv, adr_ne ht]
    rw [aln_ne ht] at h1
    rw [cE_bool hc, hv2.2] at he
    have hsu := SI_up (t := t) (i := i) (j := j0) hsi hx0 ht
    rw [List.map_cons, List.map_cons, List.map_cons, e]
    refine va_zast hx hb hKs hP (wsO_D σ) hS (ad t i.toNat) 1 he rfl ((oi_in hj).mpr (by omega)) hd (fun H1 locs1 hP1 _ hS1 => ?_)
    have e9 : vp_nar .boolean (Int32.ofInt x0) = Int32.ofInt x0 := by rcases h3 with rfl | rfl <;> decide
    rw [e9, wsO_bst hv hc hj h1.1] at hP1
    have w := hK _ _ _ _ h2 hla (okL_tl (okL_tl (okL_tl hsa))) hsu.1 hsu.2 _ _ _ hls hP1 hS1
    rw [nx] at w
    exact w
  case aaload  =>
    have nx : nd (bp y) (pc + 1) = nd (bp y) pc + 1 := of_decide_eq_true hLn
    have hd := dec1 hd nx
    split at hst
    case h_2 => exact hst.elim
    rename_i j0 t i st0
    obtain ⟨hc, hst2⟩ := bif_t hst
    clear hst
    have hc := Nat.le_of_ble_eq_true hc
    obtain ⟨h1, h2⟩ := hst2
    have hj : ir j0 := okL_hd hsa
    have ht : t ≠ 99 := fun z => by rw [z, ak_99] at hc; omega
    have hv := ok_vd (okL_hd (okL_tl hsa)) ht
    have hv2 := vd_nat hv
    have hlt := vd_lt hv
    have he := wsO_at (cA := cA) (N0 := N0) (σ := σ) hv2.1
    have hal := al_pos (t := t) (by omega)
    have e : cv N0 b (.inr (.inl (some (t, i)))) = .ref (N0 + ad t i.toNat) := by simp only [cv, adr_ne ht]
    rw [aln_ne ht] at h1
    obtain ⟨C9, k9, q1, q2⟩ := cE_ref (cA := cA) (N0 := N0) (σ := σ) (i := i.toNat) hc (by omega : t < 100)
    rw [q2] at he
    have hcn : (cnt (el t) : Int) = ndI alL t := by
      have h := tb (t := t) (by omega)
      simp only [tbOk, Bool.and_eq_true, Bool.or_eq_true, decide_eq_true_eq] at h
      rcases h.1.1.1.1.1.2 with q | q
      · omega
      · exact q
    have hv3 : vd (el t) j0 := ⟨h1.1, by rw [hcn]; exact h1.2⟩
    have hne9 : el t ≠ 99 := by have := vd_lt hv3; omega
    have w := hK _ _ _ _ h2 hla (okL_cons (okL_tl (okL_tl hsa)) (Or.inr ⟨hne9, hv3⟩)) hsi rfl _ _ _ hls hP hS
    rw [nx] at w
    rw [List.map_cons, List.map_cons, e]
    refine va_aldq hx hb hKs hP (ad t i.toNat) k9 he q1 ((oi_in hj).mpr (by omega)) hd ?_
    rw [oi_nat hj h1.1]
    have e8 : cv N0 b (.inr (.inl (some (el t, j0)))) = .ref (N0 + ad (el t) j0.toNat) := by simp only [cv, adr_ne hne9]
    rw [List.map_cons, e8] at w
    exact w
  case arraylength  =>
    have nx : nd (bp y) (pc + 1) = nd (bp y) pc + 1 := of_decide_eq_true hLn
    have hd := dec1 hd nx
    split at hst
    case h_2 => exact hst.elim
    rename_i t i st0
    by_cases ht : t = 99
    · subst ht
      have ho : okV sc (vr 99 i) := okL_hd hsa
      have ho : i = 0 ∧ sc := by
        rcases ho with q | q
        · exact q.2
        · exact absurd rfl q.1
      obtain ⟨rfl, hs⟩ := ho
      obtain ⟨g1, g2, g3⟩ := hscr hs
      obtain ⟨g4, g5⟩ := hsi.2 hs
      have hst : K (pc + 1) la (.inl (aln σ 99) :: st0) σ := hst
      rw [aln_99] at hst
      have w := hK _ _ _ _ hst hla (okL_cons (okL_tl hsa) (hsi.1 _ _ _)) hsi rfl _ _ _ hls hP hS
      rw [nx] at w
      have hb' : cv N0 b (.inr (.inl (some (99, 0)))) = .ref b := by simp only [cv, adr, if_true]
      rw [List.map_cons, hb']
      refine va_slen hx hb g1 g2 (show ¬ N0 ≤ b by omega) hS hd ?_
      rw [show Int32.ofNat L = Int32.ofInt (σ 99 0 (-1)) by rw [g4]; rfl]
      exact w
    · have hc : ¬ ak t = 0 := fun z => by rw [z] at hst; exact hst
      have hst : K (pc + 1) la (.inl (aln σ t) :: st0) σ := by
        have : Nat.beq (ak t) 0 = false := by
          cases h : Nat.beq (ak t) 0
          · rfl
          · exact absurd (beq_t h) hc
        rw [this] at hst; exact hst
      have hv := ok_vd (okL_hd hsa) ht
      have hv2 := vd_nat hv
      have hlt := vd_lt hv
      have he := wsO_at (cA := cA) (N0 := N0) (σ := σ) hv2.1
      have hal := al_pos (t := t) (by omega)
      rw [aln_ne ht] at hst
      have w := hK _ _ _ _ hst hla (okL_cons (okL_tl hsa) (show ir (ndI alL t) by unfold ir; omega)) hsi rfl _ _ _ hls hP hS
      rw [nx] at w
      have e : cv N0 b (.inr (.inl (some (t, i)))) = .ref (N0 + ad t i.toNat) := by simp only [cv, adr_ne ht]
      have e2 : Int32.ofNat (ndI alL t).toNat = Int32.ofInt (ndI alL t) := by rw [oi_nI hal.1]; rfl
      rw [List.map_cons, e]
      have h5 : ak t = 1 ∨ ak t = 2 ∨ 3 ≤ ak t := by omega
      rcases h5 with h5 | h5 | h5
      · rw [cE_int h5] at he
        exact va_alen hx hb hKs hP (ad t i.toNat) 0 he (ty := .int) rfl e2 hd w
      · rw [cE_bool h5] at he
        exact va_alen hx hb hKs hP (ad t i.toNat) 1 he (ty := .boolean) rfl e2 hd w
      · obtain ⟨C9, k9, q1, q2⟩ := cE_ref (cA := cA) (N0 := N0) (σ := σ) (i := i.toNat) h5 (by omega : t < 100)
        rw [q2] at he
        exact va_alen hx hb hKs hP (ad t i.toNat) k9 he q1 e2 hd w
  case invokevirtual n =>
    have nx : nd (bp y) (pc + 1) = nd (bp y) pc + 3 := of_decide_eq_true hLn
    have hd := dec1 hd nx
    simp only [acl, noS] at hst
    split at hst
    case h_3 => exact hst.elim
    case h_2 => simp [chkK] at hCk
    rename_i y0 n0 c0 k0 hq
    split at hst
    case h_2 => exact hst.elim
    rename_i as0 st0 hpop
    obtain ⟨hb0, hst2⟩ := bif_t hst
    clear hst
    simp only [Bool.and_eq_true] at hb0
    obtain ⟨hb0, hrc, hn9⟩ := hb0
    obtain ⟨us, u1, u2, u3⟩ := pop_at _ _ _ _ _ hpop
    rw [List.append_nil] at u3
    have hoas0 : okL sc as0 := fun w hw => hsa w (by rw [u2]; rw [u3, List.mem_reverse] at hw; exact List.mem_append_left _ hw)
    have hoas := n99_ok as0 hn9 hoas0
    have host : okL sc st0 := fun w hw => hsa w (by rw [u2]; exact List.mem_append_right _ hw)
    have hCk : (lkm.any (fun e => decide (e.1 = oc y) && decide (e.2.1 = n) && decide (e.2.2.1 = y0)) && !isS y0 && decide (n0 = np y0 + 1) && decide (cn (c0 - 1) = (nm y0).cls) && decide (0 < c0) && decide (c0 < 10) && chkK.chkR (rt y0) k0 && decide ((nm y0).name ≠ "<init>")) = true := hCk
    simp only [Bool.and_eq_true, Bool.not_eq_true', decide_eq_true_eq] at hCk
    obtain ⟨⟨⟨⟨⟨⟨⟨c1, c2⟩, c3⟩, c4⟩, c5⟩, c6⟩, c7⟩, c8⟩ := hCk
    have hlink : Jvm.Cond.methodLink (cn (oc y)) n (nm y0) ∈ lw_tbl := by
      obtain ⟨⟨e1, e2, e3, e4⟩, he, hc⟩ := List.any_eq_true.mp c1
      simp only [Bool.and_eq_true, decide_eq_true_eq] at hc
      obtain ⟨⟨rfl, rfl⟩, rfl⟩ := hc
      exact lw_mem (List.all_eq_true.mp lkm_ok _ he)
    
    have fin : ∀ (v : AV) (σ' : SS), Cal y0 as0 σ v σ' → (∀ (x : List AV), x = (if isU v = true then st0 else v :: st0) → K (pc + 1) la x σ') → W p l e₀ R s m args below meth c H locs cells slots Q (F0 m (nd (bp y) pc) ls (sa.map (cv N0 b))) := by
      intro v σ' hcl hk
      obtain ⟨hy0, hov, hin, h99, hM⟩ := hCal _ _ _ _ _ hcl hoas hsi.1
      obtain ⟨p1, p2, p3, p4, p5, p6, p7, p8, p9, p10⟩ := pl_at hy0
      have hsi' : SI sc L xs σ' := ⟨hin, fun z => by rw [h99]; exact hsi.2 z⟩
      have hov' : okV sc v := by
        rcases v with v | r | v
        · exact hov
        · rcases r with _ | ⟨t, i⟩
          · trivial
          · rcases hov with q | q
            · exact q.2.2.elim
            · exact Or.inr q
        · rcases v with v | v <;> exact hov
      have hblind : FrameBlind (PcA D cA N0 b as0 σ) := fun a U g mk q => by
        obtain ⟨q0, qP, qK, qN⟩ := q
        exact ⟨q0, qP, va_K.moved (u := U) (U := U.calling g mk a) (Vm.Alike.refl U.vm) qK, NW.same (u := U) rfl qN⟩
      have hpre : ∀ U : State, U.heap = H → s.WarmedH U.vm → PcA D cA N0 b as0 σ (as0.map (cv N0 b)).toArray U := fun U hU hW => ⟨rfl, by rw [hU]; exact hP, va_K.moved hW.alike hKs, NW.moved hW hNW⟩
      have hroom : (rmD d).frames + 1 ≤ R.frames ∧ 8 + (nl y0 + 11) + (rmD d).locals ≤ R.locals := ⟨hfr, by show 8 + (nl y0 + 11) + 32 * d ≤ R.locals; omega⟩
      have hWr : 2 * (F0 m (nd (bp y) pc) ls (sa.map (cv N0 b))).monitorRoom + ((st0.map (cv N0 b)).map fun v => v.category).sum ≤ 8 := by
        have := cat1_sum (N0 := N0) (b := b) st0 hb0.2
        have h8 := Nat.le_of_ble_eq_true hb0.1
        exact lv_room (by omega)
      have hsz : ls.size = nl y := by obtain ⟨-, l0, q, -⟩ := hls; exact q.1
      have kk : ∀ (t : State) (H1 : Heap) (locs1 : List Loc), t.heap = H1 → s.vm.Alike t.vm → va_P D vwCl (wsO cA N0 σ') t.heap → va_S (fun q => N0 ≤ q) s.heap H1 locs1 → W p l e₀ R s m args below meth c H1 locs1 (cells + 0) (slots + 0) Q (F0 m (nd (bp y) pc + 3) ls ((rv N0 b v).toList ++ st0.map (cv N0 b))) := by
        intro t H1 locs1 ht _ hPt hS1
        rw [ht] at hPt
        have hsx : okL sc (if isU v = true then st0 else v :: st0) := by
          split
          · exact host
          · exact okL_cons host hov'
        have w := hK _ _ _ _ (hk _ rfl) hla hsx hsi' h99 _ _ _ hls hPt hS1
        rw [nx] at w
        have e : (if isU v = true then st0 else v :: st0).map (cv N0 b) = (rv N0 b v).toList ++ st0.map (cv N0 b) := by
          unfold rv
          split <;> rfl
        rw [e] at w
        exact w
      rcases as0 with _ | ⟨v0, as1⟩
      · have : us.length = 0 := by rw [← List.length_reverse, ← u3]; rfl
        omega
      obtain ⟨c9, rfl⟩ : ∃ c9, c0 = c9 + 1 := ⟨c0 - 1, by omega⟩
      rcases v0 with v0 | r0 | v0
      · simp [rcv] at hrc
      · rcases r0 with _ | ⟨t, i⟩
        · simp [rcv] at hrc
        have hcl0 : cls t = c9 + 1 := beq_t hrc
        have ht : t ≠ 99 := fun z => by rw [z, cls_99] at hcl0; omega
        have hv := ok_vd (okL_hd hoas0) ht
        have hv2 := vd_nat hv
        have hlt := vd_lt hv
        have he := wsO_at (cA := cA) (N0 := N0) (σ := σ) hv2.1
        rw [cE_obj (by omega) (by omega), hv2.2, hcl0] at he
        have e : cv N0 b (.inr (.inl (some (t, i)))) = .ref (N0 + ad t i.toNat) := by simp only [cv, adr_ne ht]
        have hcls : (nm y0).cls = (kc c9).1 := by rw [← c4]; exact cn_at (by omega)
        have hst : sa.map (cv N0 b) = (as1.map (cv N0 b)).reverse ++ .ref (N0 + ad t i.toNat) :: st0.map (cv N0 b) := by
          have : us = as1.reverse ++ [.inr (.inl (some (t, i)))] := by rw [← List.reverse_reverse us, ← u3, List.reverse_cons]
          rw [u2, this]
          simp only [List.map_append, List.map_reverse, List.map_cons, List.map_nil, e, List.append_assoc, List.singleton_append]
        have hlen : (as1.map (cv N0 b)).length = np y0 := by
          have : (us.length) = as1.length + 1 := by rw [← List.length_reverse, ← u3]; rfl
          rw [List.length_map]; omega
        have hpre' : ∀ U : State, U.heap = H → s.WarmedH U.vm → PcA D cA N0 b (.inr (.inl (some (t, i))) :: as1) σ (Value.ref (N0 + ad t i.toNat) :: as1.map (cv N0 b)).toArray U := by
          intro U hU hW
          have := hpre U hU hW
          rw [List.map_cons, e] at this
          exact this
        have hrecv := va_recv hKs hP (ci := c9) (q0 := ad t i.toNat) (kc_at (by omega)) he
        rw [← hcls] at hrecv
        have cw := cwV (R := R) (s := s) (args := args) (own := cn (oc y)) (C := (nm y0).cls) (index := n) (y := nm y0) (bytes := byt y0) (maxL := nl y0) (ret := rt y0) (ws := wsM y0) (rm := rmD d) (mc := 0) (ms := 0) (np y0) hts (good_wsV (uw_mem hlink rfl) (p3 c2) (p4 c2 c8) p1 p10) rfl rfl rfl ⟨rfl, p6⟩ hroom
        have hrun := va_runV (p := p) (l := l) (e := e₀) (below := below) (meth := meth) (locs := locs) (cells := cells) (slots := slots) (g := F0 m (nd (bp y) pc) ls (sa.map (cv N0 b))) (As := as1.map (cv N0 b)) (rest := st0.map (cv N0 b)) ⟨hx, hb, hml, hown, hts⟩ hM cw ⟨hblind, hrecv, hpre'⟩ rfl hlen hsz hst hWr hd ⟨hce, hsl⟩
        exact va_callg hrun hS kk
      · simp [rcv] at hrc
    split at hst2
    · obtain ⟨σ', h1, h2⟩ := hst2
      exact fin vu σ' h1 (fun x hx' => by rw [hx']; exact h2)
    · obtain ⟨x, σ', h1, h2⟩ := hst2
      exact fin (.inl x) σ' h1 (fun x hx' => by rw [hx']; exact h2)
    · obtain ⟨r, σ', h1, h2⟩ := hst2
      exact fin (.inr (.inl r)) σ' h1 (fun x hx' => by rw [hx']; exact h2)
  case invokestatic n =>
    have nx : nd (bp y) (pc + 1) = nd (bp y) pc + 3 := of_decide_eq_true hLn
    have hd := dec1 hd nx
    simp only [acl, noS] at hst
    split at hst
    case h_3 => exact hst.elim
    case h_2 =>
      rename_i a0
      split at hst
      case h_2 => exact hst.elim
      rename_i y0 x0 st0
      obtain ⟨hb0, hst2⟩ := bif_t hst
      clear hst
      rw [Bool.and_eq_true] at hb0
      have hy0 : ir y0 := okL_hd hsa
      have hx0 : ir x0 := okL_hd (okL_tl hsa)
      have hCk : lkx.any (fun e => decide (e.1 = oc y) && decide (e.2.1 = n)) = true := hCk
      obtain ⟨⟨e1, e2, e3⟩, he, hc⟩ := List.any_eq_true.mp hCk
      simp only [Bool.and_eq_true, decide_eq_true_eq] at hc
      obtain ⟨rfl, rfl⟩ := hc
      have hlink := lw_mem (List.all_eq_true.mp lkx_ok _ he)
      have m1 := lw_m1
      have m2 := lw_m2
      have m3 := lw_m3
      have w := hK _ _ _ _ hst2 hla (okL_cons (okL_tl (okL_tl hsa)) (show ir (max x0 y0) by unfold ir at *; omega)) hsi rfl _ _ _ hls hP hS
      rw [nx] at w
      have hs8 := cat1_sum (N0 := N0) (b := b) st0 hb0.1
      have h8 := Nat.le_of_ble_eq_true hb0.2
      have hsz : ls.size = nl y := by obtain ⟨-, l0, q, -⟩ := hls; exact q.1
      refine va_mmax hx hb (by rw [hml, hsz]) hown (hts _ (uw_mem hlink rfl)) (hts _ (uw_mem m1 rfl)) (hts _ (uw_mem m2 rfl)) (hts _ (uw_mem m3 rfl)) (by omega) (by rw [hs8]; omega) hce hsl hd ?_
      rw [oi_max hx0 hy0]
      exact w
    rename_i y0 n0 c0 k0 hq
    split at hst
    case h_2 => exact hst.elim
    rename_i as0 st0 hpop
    obtain ⟨hb0, hst2⟩ := bif_t hst
    clear hst
    simp only [Bool.and_eq_true] at hb0
    obtain ⟨hb0, hrc, hn9⟩ := hb0
    obtain ⟨us, u1, u2, u3⟩ := pop_at _ _ _ _ _ hpop
    rw [List.append_nil] at u3
    have hoas0 : okL sc as0 := fun w hw => hsa w (by rw [u2]; rw [u3, List.mem_reverse] at hw; exact List.mem_append_left _ hw)
    have hoas := n99_ok as0 hn9 hoas0
    have host : okL sc st0 := fun w hw => hsa w (by rw [u2]; exact List.mem_append_right _ hw)
    have hCk : ((lkm.any (fun e => decide (e.1 = oc y) && decide (e.2.1 = n) && decide (e.2.2.1 = y0)) && decide ((nm y0).cls = cn (oc y)) || lkn.any (fun e => decide (e.1 = oc y) && decide (e.2.1 = n) && decide (e.2.2.1 = y0))) && isS y0 && decide (n0 = np y0) && decide (c0 = 0) && chkK.chkR (rt y0) k0) = true := hCk
    simp only [Bool.and_eq_true, Bool.or_eq_true, decide_eq_true_eq] at hCk
    obtain ⟨⟨⟨⟨c1, c2⟩, c3⟩, c4⟩, c5⟩ := hCk
    
    have fin : ∀ (v : AV) (σ' : SS), Cal y0 as0 σ v σ' → (∀ (x : List AV), x = (if isU v = true then st0 else v :: st0) → K (pc + 1) la x σ') → W p l e₀ R s m args below meth c H locs cells slots Q (F0 m (nd (bp y) pc) ls (sa.map (cv N0 b))) := by
      intro v σ' hcl hk
      obtain ⟨hy0, hov, hin, h99, hM⟩ := hCal _ _ _ _ _ hcl hoas hsi.1
      obtain ⟨p1, p2, p3, p4, p5, p6, p7, p8, p9, p10⟩ := pl_at hy0
      have hsi' : SI sc L xs σ' := ⟨hin, fun z => by rw [h99]; exact hsi.2 z⟩
      have hov' : okV sc v := by
        rcases v with v | r | v
        · exact hov
        · rcases r with _ | ⟨t, i⟩
          · trivial
          · rcases hov with q | q
            · exact q.2.2.elim
            · exact Or.inr q
        · rcases v with v | v <;> exact hov
      have hblind : FrameBlind (PcA D cA N0 b as0 σ) := fun a U g mk q => by
        obtain ⟨q0, qP, qK, qN⟩ := q
        exact ⟨q0, qP, va_K.moved (u := U) (U := U.calling g mk a) (Vm.Alike.refl U.vm) qK, NW.same (u := U) rfl qN⟩
      have hpre : ∀ U : State, U.heap = H → s.WarmedH U.vm → PcA D cA N0 b as0 σ (as0.map (cv N0 b)).toArray U := fun U hU hW => ⟨rfl, by rw [hU]; exact hP, va_K.moved hW.alike hKs, NW.moved hW hNW⟩
      have hroom : (rmD d).frames + 1 ≤ R.frames ∧ 8 + (nl y0 + 11) + (rmD d).locals ≤ R.locals := ⟨hfr, by show 8 + (nl y0 + 11) + 32 * d ≤ R.locals; omega⟩
      have hWr : 2 * (F0 m (nd (bp y) pc) ls (sa.map (cv N0 b))).monitorRoom + ((st0.map (cv N0 b)).map fun v => v.category).sum ≤ 8 := by
        have := cat1_sum (N0 := N0) (b := b) st0 hb0.2
        have h8 := Nat.le_of_ble_eq_true hb0.1
        exact lv_room (by omega)
      have hsz : ls.size = nl y := by obtain ⟨-, l0, q, -⟩ := hls; exact q.1
      have kk : ∀ (t : State) (H1 : Heap) (locs1 : List Loc), t.heap = H1 → s.vm.Alike t.vm → va_P D vwCl (wsO cA N0 σ') t.heap → va_S (fun q => N0 ≤ q) s.heap H1 locs1 → W p l e₀ R s m args below meth c H1 locs1 (cells + 0) (slots + 0) Q (F0 m (nd (bp y) pc + 3) ls ((rv N0 b v).toList ++ st0.map (cv N0 b))) := by
        intro t H1 locs1 ht _ hPt hS1
        rw [ht] at hPt
        have hsx : okL sc (if isU v = true then st0 else v :: st0) := by
          split
          · exact host
          · exact okL_cons host hov'
        have w := hK _ _ _ _ (hk _ rfl) hla hsx hsi' h99 _ _ _ hls hPt hS1
        rw [nx] at w
        have e : (if isU v = true then st0 else v :: st0).map (cv N0 b) = (rv N0 b v).toList ++ st0.map (cv N0 b) := by
          unfold rv
          split <;> rfl
        rw [e] at w
        exact w
      have hst : sa.map (cv N0 b) = (as0.map (cv N0 b)).reverse ++ st0.map (cv N0 b) := by
        have : us = as0.reverse := by rw [u3, List.reverse_reverse]
        rw [u2, this]
        simp only [List.map_append, List.map_reverse]
      have hlen : (as0.map (cv N0 b)).length = np y0 := by
        have : us.length = as0.length := by rw [u3, List.length_reverse]
        rw [List.length_map]; omega
      rcases c1 with ⟨c1, c8⟩ | c1
      · have hlink : Jvm.Cond.methodLink (cn (oc y)) n (nm y0) ∈ lw_tbl := by
          obtain ⟨⟨e1, e2, e3, e4⟩, he, hc⟩ := List.any_eq_true.mp c1
          simp only [Bool.and_eq_true, decide_eq_true_eq] at hc
          obtain ⟨⟨rfl, rfl⟩, rfl⟩ := hc
          exact lw_mem (List.all_eq_true.mp lkm_ok _ he)
        have cw := cwS (R := R) (s := s) (args := args) (own := cn (oc y)) (index := n) (y := nm y0) (bytes := byt y0) (maxL := nl y0) (ret := rt y0) (ws := wsM y0) (rm := rmD d) (mc := 0) (ms := 0) (np y0) hts (good_wsS (uw_mem hlink rfl) (p2 c2) (by rw [← c8]; exact p1) p10) rfl rfl rfl ⟨c8, p6⟩ hroom
        have hrun := va_runS (p := p) (l := l) (e := e₀) (below := below) (meth := meth) (locs := locs) (cells := cells) (slots := slots) (g := F0 m (nd (bp y) pc) ls (sa.map (cv N0 b))) (As := as0.map (cv N0 b)) (rest := st0.map (cv N0 b)) ⟨hx, hb, hml, hown, hts⟩ hM cw ⟨hblind, hpre⟩ rfl hlen hsz hst hWr hd ⟨hce, hsl⟩
        exact va_callg hrun hS kk
      · have hl9 : va_Nw (.methodLinkNest (cn (oc y)) n (nm y0) "RegionStack") s := by
          obtain ⟨⟨e1, e2, e3, e4⟩, he, hc⟩ := List.any_eq_true.mp c1
          simp only [Bool.and_eq_true, decide_eq_true_eq] at hc
          obtain ⟨⟨rfl, rfl⟩, rfl⟩ := hc
          exact hNW _ he
        have cw := va_cnB (R := R) (s := s) (args := args) (own := cn (oc y)) (host := "RegionStack") (index := n) (y := nm y0) (bytes := byt y0) (maxL := nl y0) (ret := rt y0) (ws := wsM y0) (rm := rmD d) (mc := 0) (ms := 0) (np y0) hts (good_wsM p10) rfl rfl rfl hl9 (hts _ p1) p6 hroom
        have hrun := va_runSN (p := p) (l := l) (e := e₀) (below := below) (meth := meth) (locs := locs) (cells := cells) (slots := slots) (g := F0 m (nd (bp y) pc) ls (sa.map (cv N0 b))) (As := as0.map (cv N0 b)) (rest := st0.map (cv N0 b)) ⟨hx, hb, hml, hown, hts⟩ hM ⟨cw, hts _ (p2 c2), trivial⟩ ⟨hblind, hpre⟩ rfl hlen hsz hst hWr hd ⟨hce, hsl⟩
        exact va_callg hrun hS kk
    split at hst2
    · obtain ⟨σ', h1, h2⟩ := hst2
      exact fin vu σ' h1 (fun x hx' => by rw [hx']; exact h2)
    · obtain ⟨x, σ', h1, h2⟩ := hst2
      exact fin (.inl x) σ' h1 (fun x hx' => by rw [hx']; exact h2)
    · obtain ⟨r, σ', h1, h2⟩ := hst2
      exact fin (.inr (.inl r)) σ' h1 (fun x hx' => by rw [hx']; exact h2)
  case ireturn  =>
    have hd : decode (byt y) (nd (bp y) pc) = .ok (.ireturn, 1) := dec1 hd (of_decide_eq_true hLn)
    split at hst
    case h_2 => exact hst.elim
    rename_i x0
    have ho : okV sc (.inl x0) := okL_hd hsa
    cases hbz : bzm y
    · rw [hbz] at hst
      exact hret _ _ hst ho hsi rfl _ ls H locs hP hS hd (fun z => by rw [hbz] at z; cases z) rfl
    · rw [hbz] at hst
      exact hret _ _ hst.2 ho hsi rfl _ ls H locs hP hS hd (fun _ x hx' => by cases hx'; exact hst.1) rfl
  case areturn  =>
    have hd : decode (byt y) (nd (bp y) pc) = .ok (.areturn, 1) := dec1 hd (of_decide_eq_true hLn)
    split at hst
    case h_2 => exact hst.elim
    rename_i r
    have ho : okV sc (.inr (.inl r)) := okL_hd hsa
    exact hret _ _ hst ho hsi rfl _ ls H locs hP hS hd (fun _ x hx' => by cases hx') rfl
  case return_  =>
    have hd : decode (byt y) (nd (bp y) pc) = .ok (.return_, 1) := dec1 hd (of_decide_eq_true hLn)
    split at hst
    case h_2 => exact hst.elim
    exact hret _ _ hst (show okV sc vu from trivial) hsi rfl _ ls H locs hP hS hd (fun _ x hx' => by cases hx') rfl
end SND
end
section
section SNX
variable {N0 L y : Nat} {sc : Prop}
theorem InR_up2 {σ : SS} {t : Nat} {i j x : Int} (h : InR σ) (hx : ir x) (ht : t ≠ 99) : InR (up σ t i j x) ∧ up σ t i j x 99 = σ 99 := by
  refine ⟨InR_up h hx, ?_⟩
  funext i'
  exact up_off (fun z => ht z.1.symm)
def EX (sc : Prop) (K : KT) (ret : AV → SS → Prop) (σ : SS) : Prop := (∃ v σ', ret v σ' ∧ okV sc v ∧ InR σ' ∧ σ' 99 = σ 99) ∨ (∃ pc la sa σ', K pc la sa σ' ∧ okL sc la ∧ okL sc sa ∧ InR σ' ∧ σ' 99 = σ 99)
theorem EX.k {K : KT} {ret : AV → SS → Prop} {σ σ' : SS} {pc : Nat} {la sa : List AV} (h : K pc la sa σ') (h1 : okL sc la) (h2 : okL sc sa) (h3 : InR σ') (h4 : σ' 99 = σ 99) : EX sc K ret σ := Or.inr ⟨pc, la, sa, σ', h, h1, h2, h3, h4⟩
theorem EX.r {K : KT} {ret : AV → SS → Prop} {σ : SS} {v : AV} (h : ret v σ) (h1 : okV sc v) (h3 : InR σ) : EX sc K ret σ := Or.inl ⟨v, σ, h, h1, h3, rfl⟩
theorem tsw_ex {x : Int} {K : Nat → Prop} : ∀ (ts : List Nat) (lo : Int), tsw x K lo ts → lo ≤ x → x < lo + ts.length → ∃ t, K t
  | [], lo, _, h1, h2 => by simp at h2; omega
  | t :: ts, lo, h, h1, h2 => by
    by_cases hx : x = lo
    · exact ⟨t, h.1 hx⟩
    · exact tsw_ex ts (lo + 1) h.2 (by omega) (by simp at h2; omega)
set_option maxHeartbeats 4000000 in
theorem stp_ex {Cal : CT} {ret : AV → SS → Prop} {K : KT} {ins : AI} {pc : Nat} {la sa : List AV} {σ : SS} (hchk : chkI (oc y) (byt y) (bp y) pc ins = true)
  (hCal : ∀ y' as σ v σ', Cal y' as σ v σ' → okL False as → InR σ → okV False v ∧ InR σ' ∧ σ' 99 = σ 99)
  (hst : stp Cal noS ret K (bzm y) ins pc la sa σ) (hla : okL sc la) (hsa : okL sc sa) (hsi : InR σ) : EX sc K ret σ := by
  obtain ⟨J, ns, z⟩ := ins
  obtain ⟨hd, hT, hLn, hCk⟩ := chk_split hchk
  cases J <;> simp only [stp] at hst
  all_goals first | exact hst.elim | skip
  case aload_n i =>
    simp only [aLd] at hst
    split at hst
    case h_2 => exact hst.elim
    rename_i x hr
    exact EX.k hst hla (okL_cons hsa (hla _ (nth_mem _ _ _ hr))) hsi rfl
  case aload i =>
    simp only [aLd] at hst
    split at hst
    case h_2 => exact hst.elim
    rename_i x hr
    exact EX.k hst hla (okL_cons hsa (hla _ (nth_mem _ _ _ hr))) hsi rfl
  case iload_n i =>
    simp only [iLd] at hst
    split at hst
    case h_2 => exact hst.elim
    rename_i x hr
    exact EX.k hst hla (okL_cons hsa (hla _ (nth_mem _ _ _ hr))) hsi rfl
  case iload i =>
    simp only [iLd] at hst
    split at hst
    case h_2 => exact hst.elim
    rename_i x hr
    exact EX.k hst hla (okL_cons hsa (hla _ (nth_mem _ _ _ hr))) hsi rfl
  case lload_n i =>
    simp only [lLd] at hst
    split at hst
    case h_2 => exact hst.elim
    rename_i x hr
    exact EX.k hst hla (okL_cons hsa (hla _ (nth_mem _ _ _ hr))) hsi rfl
  case lload i =>
    simp only [lLd] at hst
    split at hst
    case h_2 => exact hst.elim
    rename_i x hr
    exact EX.k hst hla (okL_cons hsa (hla _ (nth_mem _ _ _ hr))) hsi rfl
  case istore_n i =>
    simp only [iSt] at hst
    split at hst
    case h_2 => exact hst.elim
    rename_i x st0
    exact EX.k (bif_t hst).2 (okL_stl hla (okL_hd hsa)) (okL_tl hsa) hsi rfl
  case istore i =>
    simp only [iSt] at hst
    split at hst
    case h_2 => exact hst.elim
    rename_i x st0
    exact EX.k (bif_t hst).2 (okL_stl hla (okL_hd hsa)) (okL_tl hsa) hsi rfl
  case astore_n i =>
    simp only [aSt] at hst
    split at hst
    case h_2 => exact hst.elim
    rename_i x st0
    exact EX.k (bif_t hst).2 (okL_stl hla (okL_hd hsa)) (okL_tl hsa) hsi rfl
  case astore i =>
    simp only [aSt] at hst
    split at hst
    case h_2 => exact hst.elim
    rename_i x st0
    exact EX.k (bif_t hst).2 (okL_stl hla (okL_hd hsa)) (okL_tl hsa) hsi rfl
  case lstore_n i =>
    simp only [lSt] at hst
    split at hst
    case h_2 => exact hst.elim
    rename_i x st0
    exact EX.k (bif_t hst).2 (okL_stl2 (okL_stl hla (okL_hd hsa))) (okL_tl hsa) hsi rfl
  case lstore i =>
    simp only [lSt] at hst
    split at hst
    case h_2 => exact hst.elim
    rename_i x st0
    exact EX.k (bif_t hst).2 (okL_stl2 (okL_stl hla (okL_hd hsa))) (okL_tl hsa) hsi rfl
  case iconst n =>
    have ok : ir n := by have h : _ ∧ _ := of_decide_eq_true hCk; unfold ir; omega
    exact EX.k hst hla (okL_cons hsa ok) hsi rfl
  case bipush n =>
    have ok : ir n := by have h : _ ∧ _ := of_decide_eq_true hCk; unfold ir; omega
    exact EX.k hst hla (okL_cons hsa ok) hsi rfl
  case sipush n =>
    have ok : ir n := by have h : _ ∧ _ := of_decide_eq_true hCk; unfold ir; omega
    exact EX.k hst hla (okL_cons hsa ok) hsi rfl
  case ldc n =>
    exact EX.k hst hla (okL_cons hsa (lkc_at hCk).2) hsi rfl
  case ldc2_w n =>
    exact EX.k hst hla (okL_cons (v := vl z) hsa (il_ir (lkl_at hCk).2)) hsi rfl
  case lconst n =>
    have ez : z = ((n : Nat) : Int) := of_decide_eq_true hCk
    subst ez
    have ok : il ((n : Nat) : Int) := by have := n.2; unfold il; omega
    exact EX.k hst hla (okL_cons (v := vl _) hsa ok) hsi rfl
  case aconst_null  =>
    exact EX.k hst hla (okL_cons (v := vz) hsa trivial) hsi rfl
  case iadd  =>
    split at hst
    case h_2 => exact hst.elim
    rename_i y0 x0 st0
    have hy0 : ir y0 := okL_hd hsa
    have hx0 : ir x0 := okL_hd (okL_tl hsa)
    exact EX.k hst.2 hla (okL_cons (okL_tl (okL_tl hsa)) hst.1) hsi rfl
  case isub  =>
    split at hst
    case h_2 => exact hst.elim
    rename_i y0 x0 st0
    have hy0 : ir y0 := okL_hd hsa
    have hx0 : ir x0 := okL_hd (okL_tl hsa)
    exact EX.k hst.2 hla (okL_cons (okL_tl (okL_tl hsa)) hst.1) hsi rfl
  case imul  =>
    split at hst
    case h_2 => exact hst.elim
    rename_i y0 x0 st0
    have hy0 : ir y0 := okL_hd hsa
    have hx0 : ir x0 := okL_hd (okL_tl hsa)
    exact EX.k hst.2 hla (okL_cons (okL_tl (okL_tl hsa)) hst.1) hsi rfl
  case idiv  =>
    split at hst
    case h_2 => exact hst.elim
    rename_i y0 x0 st0
    have hy0 : ir y0 := okL_hd hsa
    have hx0 : ir x0 := okL_hd (okL_tl hsa)
    exact EX.k hst.2 hla (okL_cons (okL_tl (okL_tl hsa)) (ir_div hx0 hst.1)) hsi rfl
  case irem  =>
    split at hst
    case h_2 => exact hst.elim
    rename_i y0 x0 st0
    have hy0 : ir y0 := okL_hd hsa
    have hx0 : ir x0 := okL_hd (okL_tl hsa)
    exact EX.k hst.2 hla (okL_cons (okL_tl (okL_tl hsa)) (ir_mod hy0 hst.1)) hsi rfl
  case ior  =>
    split at hst
    case h_2 => exact hst.elim
    rename_i y0 x0 st0
    have hy0 : ir y0 := okL_hd hsa
    have hx0 : ir x0 := okL_hd (okL_tl hsa)
    exact EX.k hst.2 hla (okL_cons (okL_tl (okL_tl hsa)) (ir_or hx0 hy0)) hsi rfl
  case iand  =>
    split at hst
    case h_3 => exact hst.elim
    case h_1 q0 y0 x0 st0 =>
      exact EX.k hst.2 hla (okL_cons (okL_tl (okL_tl hsa)) (show ir (x0 % 32) by unfold ir; omega)) hsi rfl
    case h_2 =>
      exact EX.k hst.2 hla (okL_cons (okL_tl (okL_tl hsa)) (ir_and (show ir _ from okL_hd (okL_tl hsa)))) hsi rfl
  case ladd  =>
    split at hst
    case h_2 => exact hst.elim
    rename_i y0 x0 st0
    have hx0 : il x0 ∨ True := Or.inr trivial
    exact EX.k hst.2 hla (okL_cons (v := vl _) (okL_tl (okL_tl hsa)) hst.1) hsi rfl
  case lsub  =>
    split at hst
    case h_2 => exact hst.elim
    rename_i y0 x0 st0
    have hx0 : il x0 ∨ True := Or.inr trivial
    exact EX.k hst.2 hla (okL_cons (v := vl _) (okL_tl (okL_tl hsa)) hst.1) hsi rfl
  case lmul  =>
    split at hst
    case h_2 => exact hst.elim
    rename_i y0 x0 st0
    have hx0 : il x0 ∨ True := Or.inr trivial
    exact EX.k hst.2 hla (okL_cons (v := vl _) (okL_tl (okL_tl hsa)) hst.1) hsi rfl
  case ldiv  =>
    split at hst
    case h_2 => exact hst.elim
    rename_i y0 x0 st0
    have hx0 : il x0 ∨ True := Or.inr trivial
    exact EX.k hst.2 hla (okL_cons (v := vl _) (okL_tl (okL_tl hsa)) (il_div (show il x0 from okL_hd (v := vl x0) (okL_tl hsa)) hst.1)) hsi rfl
  case lrem  =>
    split at hst
    case h_2 => exact hst.elim
    rename_i y0 x0 st0
    have hx0 : il x0 ∨ True := Or.inr trivial
    exact EX.k hst.2 hla (okL_cons (v := vl _) (okL_tl (okL_tl hsa)) (il_mod (show il y0 from okL_hd (v := vl y0) hsa) hst.1)) hsi rfl
  case land  =>
    split at hst
    case h_2 => exact hst.elim
    rename_i y0 x0 st0
    have hx0 : il x0 ∨ True := Or.inr trivial
    exact EX.k hst.2 hla (okL_cons (v := vl _) (okL_tl (okL_tl hsa)) (show il (x0 % 2) by unfold il; omega)) hsi rfl
  case lshl  =>
    split at hst
    case h_2 => exact hst.elim
    rename_i y0 x0 st0
    have hx0 : il x0 ∨ True := Or.inr trivial
    exact EX.k hst.2 hla (okL_cons (v := vl _) (okL_tl (okL_tl hsa)) hst.1.2.2) hsi rfl
  case i2l  =>
    split at hst
    case h_2 => exact hst.elim
    rename_i x0 st0
    exact EX.k hst hla (okL_cons (v := vl _) (okL_tl hsa) (il_ir (show ir x0 from okL_hd (v := .inl x0) hsa))) hsi rfl
  case l2i  =>
    split at hst
    case h_2 => exact hst.elim
    rename_i x0 st0
    exact EX.k hst.2 hla (okL_cons (okL_tl hsa) hst.1) hsi rfl
  case lcmp  =>
    split at hst
    case h_2 => exact hst.elim
    rename_i y0 x0 st0
    exact EX.k hst hla (okL_cons (okL_tl (okL_tl hsa)) (ir_lc x0 y0)) hsi rfl
  case dup  =>
    split at hst
    case h_3 => exact hst.elim
    all_goals exact EX.k hst hla (okL_cons hsa (okL_hd hsa)) hsi rfl
  case dup2  =>
    split at hst
    case h_2 => exact hst.elim
    exact EX.k hst hla (okL_cons (okL_cons hsa (okL_hd (okL_tl hsa))) (okL_hd hsa)) hsi rfl
  case iinc i n =>
    split at hst
    case h_2 => exact hst.elim
    rename_i x0 hr
    exact EX.k hst.2 (okL_stl hla hst.1) hsa hsi rfl
  case if_icmp cc off =>
    split at hst
    case h_2 => exact hst.elim
    rename_i t y0 x0 st0
    have okt := okL_tl (okL_tl hsa)
    cases cc <;> simp only [cnd] at hst
    · by_cases q : x0 = y0
      · exact EX.k (hst.1 q) hla okt hsi rfl
      · exact EX.k (hst.2 q) hla okt hsi rfl
    · by_cases q : x0 = y0
      · exact EX.k (hst.2 q) hla okt hsi rfl
      · exact EX.k (hst.1 q) hla okt hsi rfl
    · by_cases q : x0 < y0
      · exact EX.k (hst.1 q) hla okt hsi rfl
      · exact EX.k (hst.2 (by omega)) hla okt hsi rfl
    · by_cases q : y0 ≤ x0
      · exact EX.k (hst.1 q) hla okt hsi rfl
      · exact EX.k (hst.2 (by omega)) hla okt hsi rfl
    · by_cases q : y0 < x0
      · exact EX.k (hst.1 q) hla okt hsi rfl
      · exact EX.k (hst.2 (by omega)) hla okt hsi rfl
    · by_cases q : x0 ≤ y0
      · exact EX.k (hst.1 q) hla okt hsi rfl
      · exact EX.k (hst.2 (by omega)) hla okt hsi rfl
  case ifCond cc off =>
    split at hst
    case h_2 => exact hst.elim
    rename_i t x0 st0
    have okt := okL_tl hsa
    cases cc <;> simp only [cnd] at hst
    · by_cases q : x0 = 0
      · exact EX.k (hst.1 q) hla okt hsi rfl
      · exact EX.k (hst.2 q) hla okt hsi rfl
    · by_cases q : x0 = 0
      · exact EX.k (hst.2 q) hla okt hsi rfl
      · exact EX.k (hst.1 q) hla okt hsi rfl
    · by_cases q : x0 < 0
      · exact EX.k (hst.1 q) hla okt hsi rfl
      · exact EX.k (hst.2 (by omega)) hla okt hsi rfl
    · by_cases q : 0 ≤ x0
      · exact EX.k (hst.1 q) hla okt hsi rfl
      · exact EX.k (hst.2 (by omega)) hla okt hsi rfl
    · by_cases q : 0 < x0
      · exact EX.k (hst.1 q) hla okt hsi rfl
      · exact EX.k (hst.2 (by omega)) hla okt hsi rfl
    · by_cases q : x0 ≤ 0
      · exact EX.k (hst.1 q) hla okt hsi rfl
      · exact EX.k (hst.2 (by omega)) hla okt hsi rfl
  case ifnull off =>
    split at hst
    case h_3 => exact hst.elim
    all_goals exact EX.k hst hla (okL_tl hsa) hsi rfl
  case ifnonnull off =>
    split at hst
    case h_3 => exact hst.elim
    all_goals exact EX.k hst hla (okL_tl hsa) hsi rfl
  case goto off =>
    split at hst
    case h_2 => exact hst.elim
    exact EX.k hst hla hsa hsi rfl
  case tableswitch dflt lo hi offs =>
    rcases ns with _ | ⟨t, ts⟩
    · exact False.elim hst
    rcases sa with _ | ⟨v0, st0⟩
    · exact False.elim hst
    rcases v0 with x0 | v0
    case inr => exact False.elim hst
    have hT : (tgt (bp y) pc dflt t && tgs (bp y) pc offs.toList ts && decide ((offs.toList.length : Int) = hi - lo + 1)) = true := hT
    simp only [Bool.and_eq_true, decide_eq_true_eq] at hT
    by_cases h : x0 < lo ∨ hi < x0
    · exact EX.k (hst.1 h) hla (okL_tl hsa) hsi rfl
    · have g1 := (tgs_at _ _ hT.1.2).1
      obtain ⟨t1, h1⟩ := tsw_ex _ _ hst.2 (by omega) (by omega)
      exact EX.k h1 hla (okL_tl hsa) hsi rfl
  case lookupswitch dflt ps =>
    rcases ns with _ | ⟨t, ts⟩
    · exact False.elim hst
    rcases sa with _ | ⟨v0, st0⟩
    · exact False.elim hst
    rcases v0 with x0 | v0
    case inr => exact False.elim hst
    have hT : (tgt (bp y) pc dflt t && tgs (bp y) pc (ps.toList.map (fun q => q.2)) ts && (ps.toList.zip (ps.toList.drop 1)).all (fun (a, next) => a.1 < next.1)) = true := hT
    simp only [Bool.and_eq_true] at hT
    obtain ⟨o1, t1, k1, k2, k3⟩ := lsw_at (of_decide_eq_true hT.1.1) _ _ hT.1.2 hst.1 hst.2
    exact EX.k k3 hla (okL_tl hsa) hsi rfl
  case getfield n =>
    split at hst
    case h_2 => exact hst.elim
    rename_i c0 k0 q0 t i st0
    obtain ⟨hc, hst2⟩ := bif_t hst
    clear hst
    have hc := beq_t hc
    obtain ⟨g0, rfl⟩ := lkf_get hCk
    obtain ⟨g1, g2, g3, g4, g5, g6, g7⟩ := lkf_use g0
    subst hc
    have ht : t ≠ 99 := fun z => by rw [z, cls_99] at g3; omega
    have hv := ok_vd (okL_hd hsa) ht
    have hlt := vd_lt hv
    obtain ⟨r1, r2⟩ := rf_kind (by omega) g3 g2
    split at hst2
    · have hne : rf t k0 ≠ 0 := fun z => by
        have := r1.mp z
        simp only [tyq, Bool.and_eq_true, Bool.not_eq_true'] at g5
        simp only [isI, Bool.or_eq_true] at this
        have e5 : (fq (cls t) k0).2.2.1 = ((kc (cls t - 1)).2.1 k0).2.2.1 := rfl
        rw [e5] at g5
        rcases this with q | q
        · rw [g5.1] at q; cases q
        · rw [g5.2] at q; cases q
      have hcnt := r2 hne
      have hv3 : vd (rf t k0) i := by unfold vd at hv ⊢; rw [hcnt]; exact hv
      have hne9 : rf t k0 ≠ 99 := by have := vd_lt hv3; omega
      exact EX.k hst2 hla (okL_cons (okL_tl hsa) (Or.inr ⟨hne9, hv3⟩)) hsi rfl
    · exact EX.k hst2 hla (okL_cons (okL_tl hsa) (hsi _ _ _)) hsi rfl
  case putfield n =>
    split at hst
    case h_2 => exact hst.elim
    rename_i c0 k0 q0 x0 t i st0
    obtain ⟨hc, hst2⟩ := bif_t hst
    clear hst
    have hc := beq_t hc
    obtain ⟨g0, rfl⟩ := lkf_put hCk
    obtain ⟨g1, g2, g3, g4, g5, g6, g7⟩ := lkf_use g0
    have hx0 : ir x0 := okL_hd hsa
    have ht : t ≠ 99 := fun z => by rw [← hc, z, cls_99] at g3; omega
    have hsu := InR_up2 (t := t) (i := i) (j := (k0 : Int)) hsi hx0 ht
    split at hst2
    · exact EX.k hst2 hla (okL_tl (okL_tl hsa)) hsu.1 hsu.2
    · exact EX.k hst2.2 hla (okL_tl (okL_tl hsa)) hsu.1 hsu.2
    · exact hst2.elim
  case iaload  =>
    split at hst
    case h_2 => exact hst.elim
    exact EX.k (bif_t hst).2.2 hla (okL_cons (okL_tl (okL_tl hsa)) (hsi _ _ _)) hsi rfl
  case baload  =>
    split at hst
    case h_2 => exact hst.elim
    exact EX.k (bif_t hst).2.2 hla (okL_cons (okL_tl (okL_tl hsa)) (hsi _ _ _)) hsi rfl
  case iastore  =>
    split at hst
    case h_2 => exact hst.elim
    rename_i x0 j0 t i st0
    obtain ⟨hc, hst2⟩ := bif_t hst
    rw [Bool.and_eq_true] at hc
    have ht : t ≠ 99 := fun z => by rw [z] at hc; exact absurd hc.2 (by decide)
    have hsu := InR_up2 (t := t) (i := i) (j := j0) hsi (show ir x0 from okL_hd (v := .inl x0) hsa) ht
    exact EX.k hst2.2 hla (okL_tl (okL_tl (okL_tl hsa))) hsu.1 hsu.2
  case bastore  =>
    split at hst
    case h_2 => exact hst.elim
    rename_i x0 j0 t i st0
    obtain ⟨hc, hst2⟩ := bif_t hst
    have hc := beq_t hc
    have ht : t ≠ 99 := fun z => by rw [z, ak_99] at hc; omega
    have hsu := InR_up2 (t := t) (i := i) (j := j0) hsi (show ir x0 from okL_hd (v := .inl x0) hsa) ht
    exact EX.k hst2.2 hla (okL_tl (okL_tl (okL_tl hsa))) hsu.1 hsu.2
  case aaload  =>
    split at hst
    case h_2 => exact hst.elim
    rename_i j0 t i st0
    obtain ⟨hc, hst2⟩ := bif_t hst
    clear hst
    have hc := Nat.le_of_ble_eq_true hc
    obtain ⟨h1, h2⟩ := hst2
    have ht : t ≠ 99 := fun z => by rw [z, ak_99] at hc; omega
    have hv := ok_vd (okL_hd (okL_tl hsa)) ht
    have hlt := vd_lt hv
    rw [aln_ne ht] at h1
    have hcn : (cnt (el t) : Int) = ndI alL t := by
      have h := tb (t := t) (by omega)
      simp only [tbOk, Bool.and_eq_true, Bool.or_eq_true, decide_eq_true_eq] at h
      rcases h.1.1.1.1.1.2 with q | q
      · omega
      · exact q
    have hv3 : vd (el t) j0 := ⟨h1.1, by rw [hcn]; exact h1.2⟩
    have hne9 : el t ≠ 99 := by have := vd_lt hv3; omega
    exact EX.k h2 hla (okL_cons (okL_tl (okL_tl hsa)) (Or.inr ⟨hne9, hv3⟩)) hsi rfl
  case arraylength  =>
    split at hst
    case h_2 => exact hst.elim
    rename_i t i st0
    have hc : ¬ ak t = 0 := fun z => by rw [z] at hst; exact hst
    have hst : K (pc + 1) la (.inl (aln σ t) :: st0) σ := by
      have : Nat.beq (ak t) 0 = false := by
        cases h : Nat.beq (ak t) 0
        · rfl
        · exact absurd (beq_t h) hc
      rw [this] at hst; exact hst
    refine EX.k hst hla (okL_cons (okL_tl hsa) (show ir (aln σ t) from ?_)) hsi rfl
    by_cases ht : t = 99
    · subst ht; exact hsi _ _ _
    · have hal := al_pos (t := t) (vd_lt (ok_vd (okL_hd hsa) ht) |> fun h => by omega)
      rw [aln_ne ht]; unfold ir; omega
  case invokevirtual n =>
    simp only [acl, noS] at hst
    split at hst
    case h_3 => exact hst.elim
    case h_2 => simp [chkK] at hCk
    rename_i y0 n0 c0 k0
    split at hst
    case h_2 => exact hst.elim
    rename_i as0 st0 hpop
    obtain ⟨hb0, hst2⟩ := bif_t hst
    clear hst
    simp only [Bool.and_eq_true] at hb0
    obtain ⟨hb0, hrc, hn9⟩ := hb0
    obtain ⟨us, u1, u2, u3⟩ := pop_at _ _ _ _ _ hpop
    rw [List.append_nil] at u3
    have hoas0 : okL sc as0 := fun w hw => hsa w (by rw [u2]; rw [u3, List.mem_reverse] at hw; exact List.mem_append_left _ hw)
    have hoas := n99_ok as0 hn9 hoas0
    have host : okL sc st0 := fun w hw => hsa w (by rw [u2]; exact List.mem_append_right _ hw)
    split at hst2
    · obtain ⟨σ', h1, h2⟩ := hst2
      obtain ⟨g1, g2, g3⟩ := hCal _ _ _ _ _ h1 hoas hsi
      exact EX.k h2 hla host g2 g3
    · obtain ⟨x, σ', h1, h2⟩ := hst2
      obtain ⟨g1, g2, g3⟩ := hCal _ _ _ _ _ h1 hoas hsi
      exact EX.k h2 hla (okL_cons host g1) g2 g3
    · obtain ⟨r, σ', h1, h2⟩ := hst2
      obtain ⟨g1, g2, g3⟩ := hCal _ _ _ _ _ h1 hoas hsi
      refine EX.k h2 hla (okL_cons host ?_) g2 g3
      rcases r with _ | ⟨t, i⟩
      · trivial
      · rcases g1 with q | q
        · exact q.2.2.elim
        · exact Or.inr q
  case invokestatic n =>
    simp only [acl, noS] at hst
    split at hst
    case h_3 => exact hst.elim
    case h_2 =>
      rename_i a0
      split at hst
      case h_2 => exact hst.elim
      rename_i y0 x0 st0
      have hy0 : ir y0 := okL_hd hsa
      have hx0 : ir x0 := okL_hd (okL_tl hsa)
      exact EX.k (bif_t hst).2 hla (okL_cons (okL_tl (okL_tl hsa)) (show ir (max x0 y0) by unfold ir at *; omega)) hsi rfl
    rename_i y0 n0 c0 k0
    split at hst
    case h_2 => exact hst.elim
    rename_i as0 st0 hpop
    obtain ⟨hb0, hst2⟩ := bif_t hst
    clear hst
    simp only [Bool.and_eq_true] at hb0
    obtain ⟨hb0, hrc, hn9⟩ := hb0
    obtain ⟨us, u1, u2, u3⟩ := pop_at _ _ _ _ _ hpop
    rw [List.append_nil] at u3
    have hoas0 : okL sc as0 := fun w hw => hsa w (by rw [u2]; rw [u3, List.mem_reverse] at hw; exact List.mem_append_left _ hw)
    have hoas := n99_ok as0 hn9 hoas0
    have host : okL sc st0 := fun w hw => hsa w (by rw [u2]; exact List.mem_append_right _ hw)
    split at hst2
    · obtain ⟨σ', h1, h2⟩ := hst2
      obtain ⟨g1, g2, g3⟩ := hCal _ _ _ _ _ h1 hoas hsi
      exact EX.k h2 hla host g2 g3
    · obtain ⟨x, σ', h1, h2⟩ := hst2
      obtain ⟨g1, g2, g3⟩ := hCal _ _ _ _ _ h1 hoas hsi
      exact EX.k h2 hla (okL_cons host g1) g2 g3
    · obtain ⟨r, σ', h1, h2⟩ := hst2
      obtain ⟨g1, g2, g3⟩ := hCal _ _ _ _ _ h1 hoas hsi
      refine EX.k h2 hla (okL_cons host ?_) g2 g3
      rcases r with _ | ⟨t, i⟩
      · trivial
      · rcases g1 with q | q
        · exact q.2.2.elim
        · exact Or.inr q
  case ireturn  =>
    split at hst
    case h_2 => exact hst.elim
    rename_i x0
    cases hbz : bzm y
    · rw [hbz] at hst
      exact EX.r hst (okL_hd hsa) hsi
    · rw [hbz] at hst
      exact EX.r hst.2 (okL_hd hsa) hsi
  case areturn  =>
    split at hst
    case h_2 => exact hst.elim
    exact EX.r hst (okL_hd hsa) hsi
  case return_  =>
    split at hst
    case h_2 => exact hst.elim
    exact EX.r hst (show okV sc vu from trivial) hsi
end SNX
end
section
def ent (n : Nat) (as : List AV) : List AV := as ++ List.replicate (n - as.length) vu
def Rn : Nat → CT
  | 0 => fun _ _ _ _ _ => False
  | d + 1 => fun y as σ v σ' => (decide (y < 140) && (!inL.elem y) && (cat1 as && Nat.ble as.length (nl y))) = true ∧ ∃ n, lp (Rn d) (fun v1 σ1 => v1 = v ∧ σ1 = σ') (cd y) (bzm y) n 0 (ent (nl y) as) [] σ
theorem ent_ok {sc : Prop} {n : Nat} {as : List AV} (h : okL sc as) : okL sc (ent n as) := by
  intro v hv
  rcases List.mem_append.mp hv with q | q
  · exact h v q
  · rw [(List.mem_replicate.mp q).2]; trivial
theorem chk_in {y pc : Nat} {ins : AI} (hy : y < 141) (hn : y ∉ inL) (h : nth (cd y) pc = some ins) : chkI (oc y) (byt y) (bp y) pc ins = true := by
  have := chkM_at _ 0 pc ins (chk_all hy hn) h
  rw [Nat.zero_add] at this
  exact this
theorem lp_ex {sc : Prop} {y : Nat} (hy : y < 141) (hn : y ∉ inL) {Cal : CT} {ret : AV → SS → Prop} (hCal : ∀ y' as σ v σ', Cal y' as σ v σ' → okL False as → InR σ → okV False v ∧ InR σ' ∧ σ' 99 = σ 99) :
    ∀ (n pc : Nat) (la sa : List AV) (σ : SS), lp Cal ret (cd y) (bzm y) n pc la sa σ → okL sc la → okL sc sa → InR σ → ∃ v σ', ret v σ' ∧ okV sc v ∧ InR σ' ∧ σ' 99 = σ 99
  | 0, _, _, _, _, h, _, _, _ => h.elim
  | n + 1, pc, la, sa, σ, h, h1, h2, h3 => by
    simp only [lp] at h
    cases hi : nth (cd y) pc with
    | none => rw [hi] at h; exact h.elim
    | some ins =>
      rw [hi] at h
      rcases stp_ex (chk_in hy hn hi) hCal h h1 h2 h3 with q | ⟨pc', la', sa', σ', g1, g2, g3, g4, g5⟩
      · exact q
      · obtain ⟨v, σ'', k1, k2, k3, k4⟩ := lp_ex hy hn hCal n pc' la' sa' σ' g1 g2 g3 g4
        exact ⟨v, σ'', k1, k2, k3, by rw [k4, g5]⟩
theorem rn_hyp {y : Nat} {as : List AV} (h : (decide (y < 140) && (!inL.elem y) && (cat1 as && Nat.ble as.length (nl y))) = true) : y < 140 ∧ y ∉ inL ∧ cat1 as = true ∧ as.length ≤ nl y := by
  simp only [Bool.and_eq_true, decide_eq_true_eq, Bool.not_eq_true'] at h
  exact ⟨h.1.1, fun q => by have := h.1.2; rw [List.elem_eq_mem] at this; simp [q] at this, h.2.1, Nat.le_of_ble_eq_true h.2.2⟩
theorem Rn_ex : ∀ (d y : Nat) (as : List AV) (σ : SS) (v : AV) (σ' : SS), Rn d y as σ v σ' → okL False as → InR σ → okV False v ∧ InR σ' ∧ σ' 99 = σ 99
  | 0, _, _, _, _, _, h, _, _ => h.elim
  | d + 1, y, as, σ, v, σ', h, ha, hs => by
    obtain ⟨h0, n, h⟩ := h
    obtain ⟨hy, hn, -, -⟩ := rn_hyp h0
    obtain ⟨v1, σ1, ⟨rfl, rfl⟩, h2, h3, h4⟩ := lp_ex (sc := False) (by omega) hn (fun y' as σ v σ' q1 q2 q3 => Rn_ex d y' as σ v σ' q1 q2 q3) n 0 _ _ σ h (ent_ok ha) (fun v hv => by cases hv) hs
    exact ⟨h2, h3, h4⟩
theorem bp0_all : (List.range 140).all (fun y => decide (nd (bp y) 0 = 0)) = true := by decide +kernel
theorem bp0 {y : Nat} (hy : y < 140) : nd (bp y) 0 = 0 := of_decide_eq_true (List.all_eq_true.mp bp0_all y (List.mem_range.mpr hy))
section LPS
variable {p : Program} {l : Launch} {e₀ : Env} {R : Room} {s : State} {m : MethodId} {args : Array Value} {below : List Frame} {meth : Method} {c : Code} {cells slots : Nat} {Q : State → Prop}
variable {D : va_G} {cA : Nat → ClassId} {N0 b L y d : Nat} {xs : Nat → Int32} {sc : Prop}
theorem lp_sound (hF : FX p s m args c D cA N0 b L xs sc y) (hy : y < 141) (hn : y ∉ inL) {Cal : CT} {ret : AV → SS → Prop} {g99 : Int → Int → Int}
  (hfr : d + 1 ≤ R.frames) (hlo : 32 * (d + 1) ≤ R.locals) (hce : cells ≤ R.cells) (hsl : slots ≤ R.slots)
  (hCal : ∀ y' as σ v σ', Cal y' as σ v σ' → okL False as → InR σ → y' < 140 ∧ okV False v ∧ InR σ' ∧ σ' 99 = σ 99 ∧ Met l (nm y') (wsM y') (rmD d) (PcA D cA N0 b as σ) (QcA D cA N0 b v σ') 0 0 (fun q => N0 ≤ q))
  (hret : ∀ v σ', ret v σ' → okV sc v → SI sc L xs σ' → σ' 99 = g99 → ∀ (pc0 : Nat) (ls : Array Slot) (H : Heap) (locs : List Loc), va_P D vwCl (wsO cA N0 σ') H → va_S (fun q => N0 ≤ q) s.heap H locs → decode (byt y) pc0 = .ok (retI v, 1) → (bzm y = true → ∀ x, v = .inl x → x = 0 ∨ x = 1) → (∃ ins ∈ cd y, ins.1 = retI v) → W p l e₀ R s m args below meth c H locs cells slots Q (F0 m pc0 ls (rv N0 b v).toList)) :
    ∀ (n pc : Nat) (la sa : List AV) (σ : SS), lp Cal ret (cd y) (bzm y) n pc la sa σ → okL sc la → okL sc sa → SI sc L xs σ → σ 99 = g99 → CC p l e₀ R s m args below meth c cells slots Q D cA N0 b y pc la sa σ
  | 0, _, _, _, _, h, _, _, _, _ => h.elim
  | n + 1, pc, la, sa, σ, h, h1, h2, h3, h4 => by
    simp only [lp] at h
    cases hi : nth (cd y) pc with
    | none => rw [hi] at h; exact h.elim
    | some ins =>
      rw [hi] at h
      have hck := chk_in hy hn hi
      refine stp_sound hF hck hfr hlo hce hsl hCal (fun pc' la' sa' σ' g1 g2 g3 g4 g5 => lp_sound hF hy hn hfr hlo hce hsl hCal hret n pc' la' sa' σ' g1 g2 g3 g4 (by rw [g5, h4])) ?_ h h1 h2 h3
      intro v σ' k1 k2 k3 k4 pc0 ls H locs k5 k6 k7 k8 k9
      exact hret v σ' k1 k2 k3 (by rw [k4, h4]) pc0 ls H locs k5 k6 k7 k8 ⟨ins, nth_mem _ _ _ hi, k9⟩
end LPS
theorem rt_at {y : Nat} (hy : y < 140) {ins : AI} (h : ins ∈ cd y) : (match ins.1 with
  | .ireturn => (match rt y with
    | some .int => true
    | some .boolean => true
    | _ => false)
  | .areturn => (match rt y with
    | some (.object _) => true
    | _ => false)
  | .return_ => (match rt y with
    | none => true
    | _ => false)
  | .lreturn => false
  | _ => true) = true := by
  have := List.all_eq_true.mp rt_ok y (List.mem_range.mpr hy)
  exact List.all_eq_true.mp this ins h
theorem args_sl {N0 b : Nat} : ∀ (as : List AV), cat1 as = true → lg_sl (as.map (cv N0 b)) = (as.map (cv N0 b)).map Slot.val
  | [], _ => rfl
  | .inl x :: as, h => by
    have := args_sl (N0 := N0) (b := b) as h
    simp only [lg_sl, List.map_cons, List.flatMap_cons] at this ⊢
    rw [this]; simp [cv, Value.category]
  | .inr (.inl r) :: as, h => by
    have := args_sl (N0 := N0) (b := b) as h
    simp only [lg_sl, List.map_cons, List.flatMap_cons] at this ⊢
    rw [this]; cases r <;> simp [cv, Value.category]
  | .inr (.inr r) :: as, h => by simp [cat1] at h
theorem args_lv {N0 b : Nat} : ∀ (as : List AV) (k : Nat), cat1 as = true → ∀ (i : Nat) (v : AV), nth as i = some v → (k + i, cv N0 b v) ∈ lv_args k (as.map (cv N0 b))
  | [], _, _, _, _, h => by simp [nth] at h
  | a :: as, k, hc, i, v, h => by
    have h1 : (cv N0 b a).category = 1 ∧ cat1 as = true := by
      rcases a with x | r | x
      · exact ⟨rfl, hc⟩
      · cases r <;> exact ⟨rfl, hc⟩
      · simp [cat1] at hc
    simp only [List.map_cons, lv_args, h1.1]
    cases i with
    | zero =>
      simp only [nth, Option.some.injEq] at h
      subst h
      exact List.mem_cons_self
    | succ i =>
      simp only [nth] at h
      have := args_lv (N0 := N0) (b := b) as (k + 1) h1.2 i v h
      rw [show k + (i + 1) = k + 1 + i by omega]
      refine List.mem_cons_of_mem _ ?_
      simpa using this
theorem nth_rep : ∀ (n i : Nat) (v : AV), nth (List.replicate n vu) i = some v → v = vu
  | 0, _, _, h => by simp [nth] at h
  | n + 1, 0, v, h => by simp only [List.replicate, nth, Option.some.injEq] at h; exact h.symm
  | n + 1, i + 1, v, h => by simp only [List.replicate, nth] at h; exact nth_rep n i v h
theorem nth_app : ∀ (as bs : List AV) (i : Nat) (v : AV), nth (as ++ bs) i = some v → nth as i = some v ∨ ∃ j, nth bs j = some v
  | [], bs, i, v, h => Or.inr ⟨i, h⟩
  | a :: as, bs, 0, v, h => Or.inl h
  | a :: as, bs, i + 1, v, h => nth_app as bs i v h
theorem LR_ent {N0 b n : Nat} {as : List AV} (hc : cat1 as = true) (hl : as.length ≤ n) : LR N0 b n ((lg_sl (as.map (cv N0 b)) ++ List.replicate (n - (lg_sl (as.map (cv N0 b))).length) Slot.unset).toArray) (ent n as) := by
  have hs := args_sl (N0 := N0) (b := b) as hc
  have hlen : (lg_sl (as.map (cv N0 b))).length = as.length := by rw [hs]; simp
  refine ⟨by simp [ent]; omega, _, lv_entry (as.map (cv N0 b)) (by rw [hlen]; exact hl), fun i v hi hu => ?_⟩
  rcases nth_app _ _ _ _ hi with q | ⟨j, q⟩
  · have := args_lv (N0 := N0) (b := b) as 0 hc i v q
    rwa [Nat.zero_add] at this
  · have := nth_rep _ _ _ q
    rw [this] at hu; cases hu
theorem nar_bool {x : Int} (h : x = 0 ∨ x = 1) : narrow .boolean (.int (Int32.ofInt x)) = .int (Int32.ofInt x) := by rcases h with rfl | rfl <;> decide
theorem Rn_met {l : Launch} {D : va_G} {cA : Nat → ClassId} {N0 b : Nat} : ∀ (d y : Nat) (as : List AV) (σ : SS) (v : AV) (σ' : SS), Rn d y as σ v σ' → okL False as → InR σ → y < 140 ∧ okV False v ∧ InR σ' ∧ σ' 99 = σ 99 ∧ Met l (nm y) (wsM y) (rmD d) (PcA D cA N0 b as σ) (QcA D cA N0 b v σ') 0 0 (fun q => N0 ≤ q)
  | 0, _, _, _, _, _, h, _, _ => h.elim
  | d + 1, y, as, σ, v, σ', h, ha, hs => by
    obtain ⟨q1, q2, q3⟩ := Rn_ex (d + 1) y as σ v σ' h ha hs
    obtain ⟨h0, n, h⟩ := h
    obtain ⟨hy, hn, hc, hl⟩ := rn_hyp h0
    obtain ⟨p1, p2, p3, p4, p5, p6, p7, p8, p9, p10⟩ := pl_at hy
    refine ⟨hy, q1, q2, q3, ?_⟩
    refine Met.ofW (cc := byt y) (maxL := nl y) (ret := rt y) p5 rfl ?_
    intro p e s m args below meth c s₁ B hml hv
    obtain ⟨rfl, hP, hK, hN⟩ := hv
    have hts := atoms_spec (ws := wsM y) B.pre
    have hown : s.vm.findClass (nm y).cls = some m.cls := findClass_of_methodNamed B.named
    have hlocks := B.notSynchronized
    have hF : FX p s m (as.map (cv N0 b)).toArray c D cA N0 b 0 (fun _ => 0) False y := ⟨B.exec, B.bytes, hml, by rw [← p8]; exact hown, fun w hw => hts w (List.mem_cons_of_mem _ hw), hK, hN, fun z => z.elim⟩
    have hw := lp_sound (p := p) (l := l) (e₀ := e) (below := below) (meth := meth) (R := (headSpec (wsM y) (rmD (d + 1))).room) (cells := 0) (slots := 0) (Q := MQ below (QcA D cA N0 b v σ') (as.map (cv N0 b)).toArray s 0 0 (fun q => N0 ≤ q)) (d := d) (g99 := σ 99) hF (by omega) hn (Nat.le_refl _) (Nat.le_refl _) (Nat.zero_le _) (Nat.zero_le _)
      (fun y' as σ v σ' z1 z2 z3 => Rn_met d y' as σ v σ' z1 z2 z3) ?_ n 0 _ _ σ h (ent_ok ha) (fun v hv => by cases hv) ⟨hs, fun z => z.elim⟩ rfl
    · have hb0 : nd (bp y) 0 = 0 := bp0 hy
      have := hw _ s.heap [] (LR_ent hc hl) hP va_S.rf
      rw [hb0] at this
      rw [lg_entry_eq]
      exact this
    · rintro v1 σ1 ⟨rfl, rfl⟩ k1 k2 k3 pc0 ls H locs k5 k6 k7 k8 ⟨ins, k9, k10⟩
      have hrt := rt_at hy k9
      rw [k10] at hrt
      have hr := B.returns
      have hq : ∀ t : State, t.heap = H → s.WarmedH t.vm → QcA D cA N0 b v1 σ1 (as.map (cv N0 b)).toArray s (.returned (rv N0 b v1)) t := fun t ht hW => ⟨rfl, by rw [ht]; exact k5, k6.F ht⟩
      rcases v1 with x | r | x
      · simp only [retI] at hrt k7
        split at hrt
        · rename_i hz
          exact W.iret B.exec B.bytes (by rw [hr, hz]) hq k6.2.2 k7
        · rename_i hz
          exact W.zret B.exec B.bytes (by rw [hr, hz]) (nar_bool (k8 (by simp only [bzm, hz]) x rfl)) hq k6.2.2 k7
        · cases hrt
      · simp only [retI] at hrt k7
        split at hrt
        · rename_i n0 hz
          refine W.aret B.exec B.bytes (by rw [hr, hz]) (Or.inl ⟨n0, rfl⟩) ?_ hq k6.2.2 k7
          rcases r with _ | ⟨t, i⟩
          · exact Or.inl rfl
          · exact Or.inr ⟨_, rfl⟩
        · cases hrt
      · rcases x with x | x
        · simp only [retI] at hrt
          cases hrt
        · simp only [retI] at hrt k7
          split at hrt
          · rename_i hz
            exact W.vret B.exec B.bytes (by rw [hr, hz]) hq k6.2.2 k7
          · cases hrt
end
section
section SNO
def ON (ret : AV → SS → Prop) (K : KT) (F : (AV → SS → Prop) → KT → Prop) : Prop := (∃ v σ', ret v σ' ∧ ∀ (r' : AV → SS → Prop) (K' : KT), r' v σ' → F r' K') ∨ (∃ pc la sa σ', K pc la sa σ' ∧ ∀ (r' : AV → SS → Prop) (K' : KT), K' pc la sa σ' → F r' K')
theorem ON.k {ret : AV → SS → Prop} {K : KT} {F : (AV → SS → Prop) → KT → Prop} {pc : Nat} {la sa : List AV} {σ' : SS} (h : K pc la sa σ') (g : ∀ (r' : AV → SS → Prop) (K' : KT), K' pc la sa σ' → F r' K') : ON ret K F := Or.inr ⟨pc, la, sa, σ', h, g⟩
theorem ON.r {ret : AV → SS → Prop} {K : KT} {F : (AV → SS → Prop) → KT → Prop} {v : AV} {σ' : SS} (h : ret v σ') (g : ∀ (r' : AV → SS → Prop) (K' : KT), r' v σ' → F r' K') : ON ret K F := Or.inl ⟨v, σ', h, g⟩
theorem bif_i {q : Bool} {A : Prop} (h : q = true) (a : A) : (bif q then A else False) := by rw [h]; exact a
theorem cnd_one {c : ClassFile.Cond} {x y : Int} {A B : Prop} (h : cnd c x y A B) : (A ∧ ∀ A' B' : Prop, A' → cnd c x y A' B') ∨ (B ∧ ∀ A' B' : Prop, B' → cnd c x y A' B') := by
  cases c <;> simp only [cnd] at h ⊢
  · by_cases q : x = y
    · exact Or.inl ⟨h.1 q, fun A' B' a => ⟨fun _ => a, fun z => absurd q z⟩⟩
    · exact Or.inr ⟨h.2 q, fun A' B' a => ⟨fun z => absurd z q, fun _ => a⟩⟩
  · by_cases q : x = y
    · exact Or.inr ⟨h.2 q, fun A' B' a => ⟨fun z => absurd q z, fun _ => a⟩⟩
    · exact Or.inl ⟨h.1 q, fun A' B' a => ⟨fun _ => a, fun z => absurd z q⟩⟩
  · by_cases q : x < y
    · exact Or.inl ⟨h.1 q, fun A' B' a => ⟨fun _ => a, fun z => absurd q (by omega)⟩⟩
    · exact Or.inr ⟨h.2 (by omega), fun A' B' a => ⟨fun z => absurd z q, fun _ => a⟩⟩
  · by_cases q : y ≤ x
    · exact Or.inl ⟨h.1 q, fun A' B' a => ⟨fun _ => a, fun z => absurd q (by omega)⟩⟩
    · exact Or.inr ⟨h.2 (by omega), fun A' B' a => ⟨fun z => absurd z q, fun _ => a⟩⟩
  · by_cases q : y < x
    · exact Or.inl ⟨h.1 q, fun A' B' a => ⟨fun _ => a, fun z => absurd q (by omega)⟩⟩
    · exact Or.inr ⟨h.2 (by omega), fun A' B' a => ⟨fun z => absurd z q, fun _ => a⟩⟩
  · by_cases q : x ≤ y
    · exact Or.inl ⟨h.1 q, fun A' B' a => ⟨fun _ => a, fun z => absurd q (by omega)⟩⟩
    · exact Or.inr ⟨h.2 (by omega), fun A' B' a => ⟨fun z => absurd z q, fun _ => a⟩⟩
theorem tsw_mk {x : Int} {K : Nat → Prop} : ∀ (ts : List Nat) (lo : Int), (∀ (k t : Nat), ts[k]? = some t → x = lo + k → K t) → tsw x K lo ts
  | [], _, _ => trivial
  | t :: ts, lo, h => ⟨fun q => h 0 t rfl (by simpa using q), tsw_mk ts (lo + 1) (fun k t' h1 h2 => h (k + 1) t' (by simpa using h1) (by rw [h2]; push_cast; omega))⟩
theorem srt : ∀ (l : List (Int × Int)) (a : Int × Int), ((a :: l).zip l).all (fun (a, next) => a.1 < next.1) = true → ∀ q ∈ l, a.1 < q.1
  | [], _, _, q, h => by cases h
  | b :: l, a, h, q, hq => by
    simp only [List.zip_cons_cons, List.all_cons, Bool.and_eq_true, decide_eq_true_eq] at h
    rcases List.mem_cons.mp hq with rfl | hq
    · exact h.1
    · have := srt l b h.2 q hq
      omega
theorem lsw_off {x : Int} {K : Nat → Prop} : ∀ (ps : List (Int × Int)) (ts : List Nat), (∀ q ∈ ps, x ≠ q.1) → lsw x K ps ts
  | [], _, _ => trivial
  | (k, o) :: ps, [], _ => trivial
  | (k, o) :: ps, t :: ts, h => ⟨fun q => absurd q (h (k, o) List.mem_cons_self), lsw_off ps ts (fun q hq => h q (List.mem_cons_of_mem _ hq))⟩
theorem lsw_one {x : Int} {K : Nat → Prop} : ∀ (ps : List (Int × Int)) (ts : List Nat) (A : Prop), ps.length = ts.length → (ps.zip (ps.drop 1)).all (fun (a, next) => a.1 < next.1) = true → lsN x ps A → lsw x K ps ts → (A ∧ ∀ (A' : Prop) (K' : Nat → Prop), A' → lsN x ps A' ∧ lsw x K' ps ts) ∨ (∃ t, K t ∧ ∀ (A' : Prop) (K' : Nat → Prop), K' t → lsN x ps A' ∧ lsw x K' ps ts)
  | [], ts, A, _, _, h1, _ => Or.inl ⟨h1, fun A' K' a => ⟨a, trivial⟩⟩
  | (k, o) :: ps, [], A, h, _, _, _ => by simp at h
  | (k, o) :: ps, t :: ts, A, h, hs, h1, h2 => by
    have hs' : ((k, o) :: ps |>.zip ps).all (fun (a, next) => a.1 < next.1) = true := hs
    have hd := srt ps (k, o) hs'
    by_cases hx : x = k
    · exact Or.inr ⟨t, h2.1 hx, fun A' K' a => ⟨fun z => absurd hx z, fun _ => a, lsw_off ps ts (fun q hq => by have := hd q hq; simp only at this; omega)⟩⟩
    · have hs2 : (ps.zip (ps.drop 1)).all (fun (a, next) => a.1 < next.1) = true := by
        cases ps with
        | nil => rfl
        | cons b ps =>
          simp only [List.zip_cons_cons, List.all_cons, Bool.and_eq_true] at hs'
          exact hs'.2
      rcases lsw_one ps ts A (by simpa using h) hs2 (h1 hx) h2.2 with ⟨q1, q2⟩ | ⟨t1, q1, q2⟩
      · exact Or.inl ⟨q1, fun A' K' a => ⟨fun _ => (q2 A' K' a).1, fun z => absurd z hx, (q2 A' K' a).2⟩⟩
      · exact Or.inr ⟨t1, q1, fun A' K' a => ⟨fun _ => (q2 A' K' a).1, fun z => absurd z hx, (q2 A' K' a).2⟩⟩
set_option maxHeartbeats 4000000 in
theorem stp_one {y : Nat} {Cal : CT} {S : ST} {ret : AV → SS → Prop} {K : KT} {ins : AI} {pc : Nat} {la sa : List AV} {σ : SS} {bz : Bool} (hT : chkT (bp y) pc ins = true)
  (hst : stp Cal S ret K bz ins pc la sa σ) : ON ret K (fun r' K' => stp Cal S r' K' bz ins pc la sa σ) := by
  obtain ⟨J, ns, z⟩ := ins
  cases J <;> simp only [stp] at hst
  all_goals first | exact hst.elim | skip
  case aload_n i =>
    simp only [aLd] at hst
    split at hst
    case h_2 => exact hst.elim
    rename_i x hr
    refine ON.k hst fun r' K' h => ?_
    simp only [stp, aLd, hr]
    exact h
  case aload i =>
    simp only [aLd] at hst
    split at hst
    case h_2 => exact hst.elim
    rename_i x hr
    refine ON.k hst fun r' K' h => ?_
    simp only [stp, aLd, hr]
    exact h
  case iload_n i =>
    simp only [iLd] at hst
    split at hst
    case h_2 => exact hst.elim
    rename_i x hr
    refine ON.k hst fun r' K' h => ?_
    simp only [stp, iLd, hr]
    exact h
  case iload i =>
    simp only [iLd] at hst
    split at hst
    case h_2 => exact hst.elim
    rename_i x hr
    refine ON.k hst fun r' K' h => ?_
    simp only [stp, iLd, hr]
    exact h
  case lload_n i =>
    simp only [lLd] at hst
    split at hst
    case h_2 => exact hst.elim
    rename_i x hr
    refine ON.k hst fun r' K' h => ?_
    simp only [stp, lLd, hr]
    exact h
  case lload i =>
    simp only [lLd] at hst
    split at hst
    case h_2 => exact hst.elim
    rename_i x hr
    refine ON.k hst fun r' K' h => ?_
    simp only [stp, lLd, hr]
    exact h
  case istore_n i =>
    simp only [iSt] at hst
    split at hst
    case h_2 => exact hst.elim
    obtain ⟨h0, h1⟩ := bif_t hst
    exact ON.k h1 fun r' K' h => bif_i h0 h
  case istore i =>
    simp only [iSt] at hst
    split at hst
    case h_2 => exact hst.elim
    obtain ⟨h0, h1⟩ := bif_t hst
    exact ON.k h1 fun r' K' h => bif_i h0 h
  case astore_n i =>
    simp only [aSt] at hst
    split at hst
    case h_2 => exact hst.elim
    obtain ⟨h0, h1⟩ := bif_t hst
    exact ON.k h1 fun r' K' h => bif_i h0 h
  case astore i =>
    simp only [aSt] at hst
    split at hst
    case h_2 => exact hst.elim
    obtain ⟨h0, h1⟩ := bif_t hst
    exact ON.k h1 fun r' K' h => bif_i h0 h
  case lstore_n i =>
    simp only [lSt] at hst
    split at hst
    case h_2 => exact hst.elim
    obtain ⟨h0, h1⟩ := bif_t hst
    exact ON.k h1 fun r' K' h => bif_i h0 h
  case lstore i =>
    simp only [lSt] at hst
    split at hst
    case h_2 => exact hst.elim
    obtain ⟨h0, h1⟩ := bif_t hst
    exact ON.k h1 fun r' K' h => bif_i h0 h
  case iconst n =>
    exact ON.k hst fun r' K' h => h
  case bipush n =>
    exact ON.k hst fun r' K' h => h
  case sipush n =>
    exact ON.k hst fun r' K' h => h
  case ldc n =>
    exact ON.k hst fun r' K' h => h
  case ldc2_w n =>
    exact ON.k hst fun r' K' h => h
  case lconst n =>
    exact ON.k hst fun r' K' h => h
  case aconst_null  =>
    exact ON.k hst fun r' K' h => h
  case iadd  =>
    split at hst
    case h_2 => exact hst.elim
    exact ON.k hst.2 fun r' K' h => And.intro hst.1 h
  case isub  =>
    split at hst
    case h_2 => exact hst.elim
    exact ON.k hst.2 fun r' K' h => And.intro hst.1 h
  case imul  =>
    split at hst
    case h_2 => exact hst.elim
    exact ON.k hst.2 fun r' K' h => And.intro hst.1 h
  case idiv  =>
    split at hst
    case h_2 => exact hst.elim
    exact ON.k hst.2 fun r' K' h => And.intro hst.1 h
  case irem  =>
    split at hst
    case h_2 => exact hst.elim
    exact ON.k hst.2 fun r' K' h => And.intro hst.1 h
  case ior  =>
    split at hst
    case h_2 => exact hst.elim
    exact ON.k hst.2 fun r' K' h => And.intro hst.1 h
  case ladd  =>
    split at hst
    case h_2 => exact hst.elim
    exact ON.k hst.2 fun r' K' h => And.intro hst.1 h
  case lsub  =>
    split at hst
    case h_2 => exact hst.elim
    exact ON.k hst.2 fun r' K' h => And.intro hst.1 h
  case lmul  =>
    split at hst
    case h_2 => exact hst.elim
    exact ON.k hst.2 fun r' K' h => And.intro hst.1 h
  case ldiv  =>
    split at hst
    case h_2 => exact hst.elim
    exact ON.k hst.2 fun r' K' h => And.intro hst.1 h
  case lrem  =>
    split at hst
    case h_2 => exact hst.elim
    exact ON.k hst.2 fun r' K' h => And.intro hst.1 h
  case land  =>
    split at hst
    case h_2 => exact hst.elim
    exact ON.k hst.2 fun r' K' h => And.intro hst.1 h
  case lshl  =>
    split at hst
    case h_2 => exact hst.elim
    exact ON.k hst.2 fun r' K' h => And.intro hst.1 h
  case l2i  =>
    split at hst
    case h_2 => exact hst.elim
    exact ON.k hst.2 fun r' K' h => And.intro hst.1 h
  case iand  =>
    split at hst
    case h_3 => exact hst.elim
    case h_1 => exact ON.k hst.2 fun r' K' h => And.intro hst.1 h
    case h_2 =>
      rename_i hne
      refine ON.k hst.2 fun r' K' h => ?_
      rcases ns with _ | ⟨n0, _ | ⟨n1, ns⟩⟩
      · exact And.intro hst.1 h
      · first | exact absurd rfl (hne n0) | exact And.intro hst.1 h | exact (hne _ rfl).elim
      · exact And.intro hst.1 h
  case i2l  =>
    split at hst
    case h_2 => exact hst.elim
    exact ON.k hst fun r' K' h => h
  case lcmp  =>
    split at hst
    case h_2 => exact hst.elim
    exact ON.k hst fun r' K' h => h
  case dup2  =>
    split at hst
    case h_2 => exact hst.elim
    exact ON.k hst fun r' K' h => h
  case dup  =>
    split at hst
    case h_3 => exact hst.elim
    all_goals exact ON.k hst fun r' K' h => h
  case iinc i n =>
    split at hst
    case h_2 => exact hst.elim
    rename_i x0 hr
    refine ON.k hst.2 fun r' K' h => ?_
    simp only [stp, hr]
    exact ⟨hst.1, h⟩
  case if_icmp cc off =>
    split at hst
    case h_2 => exact hst.elim
    rcases cnd_one hst with ⟨q1, q2⟩ | ⟨q1, q2⟩
    · exact ON.k q1 fun r' K' h => q2 _ _ h
    · exact ON.k q1 fun r' K' h => q2 _ _ h
  case ifCond cc off =>
    split at hst
    case h_2 => exact hst.elim
    rcases cnd_one hst with ⟨q1, q2⟩ | ⟨q1, q2⟩
    · exact ON.k q1 fun r' K' h => q2 _ _ h
    · exact ON.k q1 fun r' K' h => q2 _ _ h
  case ifnull off =>
    split at hst
    case h_3 => exact hst.elim
    all_goals exact ON.k hst fun r' K' h => h
  case ifnonnull off =>
    split at hst
    case h_3 => exact hst.elim
    all_goals exact ON.k hst fun r' K' h => h
  case goto off =>
    split at hst
    case h_2 => exact hst.elim
    exact ON.k hst fun r' K' h => h
  case tableswitch dflt lo hi offs =>
    rcases ns with _ | ⟨t, ts⟩
    · exact False.elim hst
    rcases sa with _ | ⟨v0, st0⟩
    · exact False.elim hst
    rcases v0 with x0 | v0
    case inr => exact False.elim hst
    have hT : (tgt (bp y) pc dflt t && tgs (bp y) pc offs.toList ts && decide ((offs.toList.length : Int) = hi - lo + 1)) = true := hT
    simp only [Bool.and_eq_true, decide_eq_true_eq] at hT
    have g1 := (tgs_at _ _ hT.1.2).1
    by_cases h : x0 < lo ∨ hi < x0
    · refine ON.k (hst.1 h) fun r' K' q => And.intro (fun _ => q) (tsw_mk _ _ fun k t' h1 h2 => ?_)
      have := (List.getElem?_eq_some_iff.mp h1).1
      omega
    · have e2 : (x0 - lo).toNat < ts.length := by omega
      have e3 := List.getElem?_eq_getElem e2
      refine ON.k (tsw_at _ _ hst.2 _ _ e3 (by omega)) fun r' K' q => And.intro (fun z => absurd z h) (tsw_mk _ _ fun k t' h1 h2 => ?_)
      have : k = (x0 - lo).toNat := by omega
      subst this
      rw [e3] at h1
      cases h1
      exact q
  case lookupswitch dflt ps =>
    rcases ns with _ | ⟨t, ts⟩
    · exact False.elim hst
    rcases sa with _ | ⟨v0, st0⟩
    · exact False.elim hst
    rcases v0 with x0 | v0
    case inr => exact False.elim hst
    have hT : (tgt (bp y) pc dflt t && tgs (bp y) pc (ps.toList.map (fun q => q.2)) ts && (ps.toList.zip (ps.toList.drop 1)).all (fun (a, next) => a.1 < next.1)) = true := hT
    simp only [Bool.and_eq_true] at hT
    have g1 := (tgs_at _ _ hT.1.2).1
    rw [List.length_map] at g1
    rcases lsw_one ps.toList ts _ g1 hT.2 hst.1 hst.2 with ⟨q1, q2⟩ | ⟨t1, q1, q2⟩
    · exact ON.k q1 fun r' K' h => q2 _ (fun t => K' t la st0 σ) h
    · exact ON.k q1 fun r' K' h => q2 (K' t la st0 σ) (fun t => K' t la st0 σ) h
  case getfield n =>
    split at hst
    case h_2 => exact hst.elim
    obtain ⟨hc, hst2⟩ := bif_t hst
    clear hst
    split at hst2
    · exact ON.k hst2 fun r' K' h => bif_i hc h
    · rename_i hq
      refine ON.k hst2 fun r' K' h => bif_i hc ?_
      split
      · first | exact absurd rfl hq | exact (hq rfl).elim
      · exact h
  case putfield n =>
    split at hst
    case h_2 => exact hst.elim
    obtain ⟨hc, hst2⟩ := bif_t hst
    clear hst
    split at hst2
    · exact ON.k hst2 fun r' K' h => bif_i hc h
    · exact ON.k hst2.2 fun r' K' h => bif_i hc (And.intro hst2.1 h)
    · exact hst2.elim
  case iaload  =>
    split at hst
    case h_2 => exact hst.elim
    obtain ⟨hc, hst2⟩ := bif_t hst
    exact ON.k hst2.2 fun r' K' h => bif_i hc (And.intro hst2.1 h)
  case baload  =>
    split at hst
    case h_2 => exact hst.elim
    obtain ⟨hc, hst2⟩ := bif_t hst
    exact ON.k hst2.2 fun r' K' h => bif_i hc (And.intro hst2.1 h)
  case iastore  =>
    split at hst
    case h_2 => exact hst.elim
    obtain ⟨hc, hst2⟩ := bif_t hst
    exact ON.k hst2.2 fun r' K' h => bif_i hc (And.intro hst2.1 h)
  case bastore  =>
    split at hst
    case h_2 => exact hst.elim
    obtain ⟨hc, hst2⟩ := bif_t hst
    exact ON.k hst2.2 fun r' K' h => bif_i hc (And.intro hst2.1 h)
  case aaload  =>
    split at hst
    case h_2 => exact hst.elim
    obtain ⟨hc, hst2⟩ := bif_t hst
    exact ON.k hst2.2 fun r' K' h => bif_i hc (And.intro hst2.1 h)
  case arraylength  =>
    split at hst
    case h_2 => exact hst.elim
    rename_i t i st0
    cases hq : Nat.beq (ak t) 0
    · rw [hq] at hst
      refine ON.k hst fun r' K' h => ?_
      show (bif Nat.beq (ak t) 0 then False else _)
      rw [hq]
      exact h
    · rw [hq] at hst
      exact hst.elim
  case invokevirtual n =>
    simp only [acl] at hst
    split at hst
    case h_3 => exact hst.elim
    case h_2 =>
      split at hst
      case h_2 => exact hst.elim
      obtain ⟨hc, hst2⟩ := bif_t hst
      exact ON.k hst2 fun r' K' h => bif_i hc h
    rename_i y0 n0 c0 k0
    split at hst
    case h_2 => exact hst.elim
    rename_i as0 st0 hpop
    obtain ⟨hb0, hst2⟩ := bif_t hst
    clear hst
    split at hst2
    · rename_i v σ' hS
      split at hst2
      · refine ON.k hst2 fun r' K' h => ?_
        simp only [stp, acl, hpop, hS]
        exact bif_i hb0 h
      · rename_i hk
        refine ON.k hst2 fun r' K' h => ?_
        simp only [stp, acl, hpop, hS]
        exact bif_i hb0 h
    · rename_i o v σ' hS
      obtain ⟨ho, hst2⟩ := hst2
      split at hst2
      · refine ON.k hst2 fun r' K' h => ?_
        simp only [stp, acl, hpop, hS]
        exact bif_i hb0 ⟨ho, h⟩
      · rename_i hk
        refine ON.k hst2 fun r' K' h => ?_
        simp only [stp, acl, hpop, hS]
        exact bif_i hb0 ⟨ho, h⟩
    · rename_i hS
      split at hst2
      · obtain ⟨σ', h1, h2⟩ := hst2
        refine ON.k h2 fun r' K' h => ?_
        simp only [stp, acl, hpop, hS]
        exact bif_i hb0 ⟨σ', h1, h⟩
      · obtain ⟨x, σ', h1, h2⟩ := hst2
        refine ON.k h2 fun r' K' h => ?_
        simp only [stp, acl, hpop, hS]
        exact bif_i hb0 ⟨x, σ', h1, h⟩
      · rename_i hk1 hk2
        obtain ⟨r, σ', h1, h2⟩ := hst2
        refine ON.k h2 fun r' K' h => ?_
        simp only [stp, acl, hpop, hS]
        exact bif_i hb0 ⟨r, σ', h1, h⟩
  case invokestatic n =>
    simp only [acl] at hst
    split at hst
    case h_3 => exact hst.elim
    case h_2 =>
      split at hst
      case h_2 => exact hst.elim
      obtain ⟨hc, hst2⟩ := bif_t hst
      exact ON.k hst2 fun r' K' h => bif_i hc h
    rename_i y0 n0 c0 k0
    split at hst
    case h_2 => exact hst.elim
    rename_i as0 st0 hpop
    obtain ⟨hb0, hst2⟩ := bif_t hst
    clear hst
    split at hst2
    · rename_i v σ' hS
      split at hst2
      · refine ON.k hst2 fun r' K' h => ?_
        simp only [stp, acl, hpop, hS]
        exact bif_i hb0 h
      · rename_i hk
        refine ON.k hst2 fun r' K' h => ?_
        simp only [stp, acl, hpop, hS]
        exact bif_i hb0 h
    · rename_i o v σ' hS
      obtain ⟨ho, hst2⟩ := hst2
      split at hst2
      · refine ON.k hst2 fun r' K' h => ?_
        simp only [stp, acl, hpop, hS]
        exact bif_i hb0 ⟨ho, h⟩
      · rename_i hk
        refine ON.k hst2 fun r' K' h => ?_
        simp only [stp, acl, hpop, hS]
        exact bif_i hb0 ⟨ho, h⟩
    · rename_i hS
      split at hst2
      · obtain ⟨σ', h1, h2⟩ := hst2
        refine ON.k h2 fun r' K' h => ?_
        simp only [stp, acl, hpop, hS]
        exact bif_i hb0 ⟨σ', h1, h⟩
      · obtain ⟨x, σ', h1, h2⟩ := hst2
        refine ON.k h2 fun r' K' h => ?_
        simp only [stp, acl, hpop, hS]
        exact bif_i hb0 ⟨x, σ', h1, h⟩
      · rename_i hk1 hk2
        obtain ⟨r, σ', h1, h2⟩ := hst2
        refine ON.k h2 fun r' K' h => ?_
        simp only [stp, acl, hpop, hS]
        exact bif_i hb0 ⟨r, σ', h1, h⟩
  case ireturn  =>
    split at hst
    case h_2 => exact hst.elim
    cases bz
    · exact ON.r hst fun r' K' h => h
    · exact ON.r hst.2 fun r' K' h => And.intro hst.1 h
  case areturn  =>
    split at hst
    case h_2 => exact hst.elim
    exact ON.r hst fun r' K' h => h
  case return_  =>
    split at hst
    case h_2 => exact hst.elim
    exact ON.r hst fun r' K' h => h
end SNO
end
section
def G (d : Nat) (P : AV → SS → Prop) (y : Nat) (pc : Nat) (la sa : List AV) (σ : SS) : Prop := ∃ n, lp (Rn d) P (cd y) (bzm y) n pc la sa σ
def Ok (d y : Nat) (as : List AV) (σ : SS) (P : AV → SS → Prop) : Prop := ∃ v σ', Rn d y as σ v σ' ∧ P v σ'
def stat (y : Nat) (as : List AV) : Bool := decide (y < 140) && (!inL.elem y) && (cat1 as && Nat.ble as.length (nl y))
theorem lp_exact {y : Nat} (hy : y < 141) (hn : y ∉ inL) {Cal : CT} {P : AV → SS → Prop} : ∀ (n pc : Nat) (la sa : List AV) (σ : SS), lp Cal P (cd y) (bzm y) n pc la sa σ → ∃ v σ', P v σ' ∧ lp Cal (fun v1 σ1 => v1 = v ∧ σ1 = σ') (cd y) (bzm y) n pc la sa σ
  | 0, _, _, _, _, h => h.elim
  | n + 1, pc, la, sa, σ, h => by
    simp only [lp] at h ⊢
    cases hi : nth (cd y) pc with
    | none => rw [hi] at h; exact h.elim
    | some ins =>
      rw [hi] at h
      rcases stp_one (chk_split (chk_in hy hn hi)).2.1 h with ⟨v, σ', h1, h2⟩ | ⟨pc', la', sa', σ', h1, h2⟩
      · exact ⟨v, σ', h1, h2 _ _ ⟨rfl, rfl⟩⟩
      · obtain ⟨v, σ'', k1, k2⟩ := lp_exact hy hn n pc' la' sa' σ' h1
        exact ⟨v, σ'', k1, h2 _ _ k2⟩
theorem G_ok {d y : Nat} {as : List AV} {σ : SS} {P : AV → SS → Prop} (h0 : stat y as = true) (h : G d P y 0 (ent (nl y) as) [] σ) : Ok (d + 1) y as σ P := by
  obtain ⟨hy, hn, -, -⟩ := rn_hyp h0
  obtain ⟨n, h⟩ := h
  obtain ⟨v, σ', h1, h2⟩ := lp_exact (by omega) hn n 0 _ _ σ h
  exact ⟨v, σ', ⟨h0, n, h2⟩, h1⟩
theorem G_rn {d y : Nat} {as : List AV} {σ σ' : SS} {v : AV} (h0 : stat y as = true) (h : G d (fun v1 σ1 => v1 = v ∧ σ1 = σ') y 0 (ent (nl y) as) [] σ) : Rn (d + 1) y as σ v σ' := ⟨h0, h⟩
theorem Ok_rn {d y : Nat} {as : List AV} {σ σ' : SS} {v : AV} (h : Ok d y as σ (fun v1 σ1 => v1 = v ∧ σ1 = σ')) : Rn d y as σ v σ' := by
  obtain ⟨v1, σ1, h1, rfl, rfl⟩ := h
  exact h1
theorem G_mono {d y : Nat} (hy : y < 141) (hn : y ∉ inL) {P P' : AV → SS → Prop} {pc : Nat} {la sa : List AV} {σ : SS} (h : G d P y pc la sa σ) (hp : ∀ v σ', P v σ' → P' v σ') : G d P' y pc la sa σ := by
  obtain ⟨n, h⟩ := h
  refine ⟨n, ?_⟩
  have key : ∀ (n pc : Nat) (la sa : List AV) (σ : SS), lp (Rn d) P (cd y) (bzm y) n pc la sa σ → lp (Rn d) P' (cd y) (bzm y) n pc la sa σ := by
    intro n
    induction n with
    | zero => intro _ _ _ _ h; exact h.elim
    | succ n ih =>
      intro pc la sa σ h
      simp only [lp] at h ⊢
      cases hi : nth (cd y) pc with
      | none => rw [hi] at h; exact h.elim
      | some ins =>
        rw [hi] at h
        rcases stp_one (chk_split (chk_in hy hn hi)).2.1 h with ⟨v, σ', h1, h2⟩ | ⟨pc', la', sa', σ', h1, h2⟩
        · exact h2 _ _ (hp _ _ h1)
        · exact h2 _ _ (ih _ _ _ _ h1)
  exact key n pc la sa σ h
theorem G_step {d y : Nat} (hy : y < 141) (hn : y ∉ inL) {P : AV → SS → Prop} {pc : Nat} {ins : AI} {la sa : List AV} {σ : SS} (hi : nth (cd y) pc = some ins) (h : stp (Rn d) noS P (G d P y) (bzm y) ins pc la sa σ) : G d P y pc la sa σ := by
  rcases stp_one (chk_split (chk_in hy hn hi)).2.1 h with ⟨v, σ', h1, h2⟩ | ⟨pc', la', sa', σ', ⟨n, h1⟩, h2⟩
  · exact ⟨1, by simp only [lp, hi]; exact h2 _ _ h1⟩
  · exact ⟨n + 1, by rw [lp, hi]; exact h2 _ _ h1⟩
def shp : Nat → AV → Prop
  | 0, v => v = vu
  | 1, v => ∃ x, v = .inl x
  | _, v => ∃ r, v = .inr (.inl r)
/-- short answers that hold of methods -/
def SV (d : Nat) (S : ST) : Prop := ∀ (y : Nat) (as : List AV) (σ : SS) (o : Option Prop) (v : AV) (σ' : SS), S y as σ = some (o, v, σ') → (∀ q, o = some q → q) → Rn d y as σ v σ' ∧ ∀ k, chkK.chkR (rt y) k = true → shp k v
theorem SV_no (d : Nat) : SV d noS := fun y as σ o v σ' h => by cases h
theorem stp_S {d y : Nat} {S : ST} (hS : SV d S) {ret : AV → SS → Prop} {K : KT} {ins : AI} {pc : Nat} {la sa : List AV} {σ : SS} {bz : Bool} (hC : chkK (oc y) ins = true)
    (hst0 : stp (Rn d) S ret K bz ins pc la sa σ) : stp (Rn d) noS ret K bz ins pc la sa σ := by
  obtain ⟨J, ns, z⟩ := ins
  have key : (∀ y0 n0 c0 k0, ns = [y0, n0, c0, k0] → chkK.chkR (rt y0) k0 = true) → acl (Rn d) S K ns pc la sa σ → acl (Rn d) noS K ns pc la sa σ := by
    intro hR hst
    simp only [acl] at hst ⊢
    split at hst
    case h_3 => exact hst.elim
    case h_2 => exact hst
    rename_i y0 n0 c0 k0
    have hr := hR y0 n0 c0 k0 rfl
    split at hst
    case h_2 => exact hst.elim
    rename_i as0 st0 hpop
    obtain ⟨hb0, hst2⟩ := bif_t hst
    clear hst
    refine bif_i hb0 ?_
    simp only [noS]
    split at hst2
    · rename_i v σ' h1
      obtain ⟨g1, g2⟩ := hS _ _ _ _ _ _ h1 (fun q h => by cases h)
      have g3 := g2 k0 hr
      rcases k0 with _ | _ | k0
      · cases g3; exact ⟨σ', g1, hst2⟩
      · obtain ⟨x, rfl⟩ := g3; exact ⟨x, σ', g1, hst2⟩
      · obtain ⟨r, rfl⟩ := g3; exact ⟨r, σ', g1, hst2⟩
    · rename_i o v σ' h1
      obtain ⟨g1, g2⟩ := hS _ _ _ _ _ _ h1 (fun q h => by cases h; exact hst2.1)
      have g3 := g2 k0 hr
      rcases k0 with _ | _ | k0
      · cases g3; exact ⟨σ', g1, hst2.2⟩
      · obtain ⟨x, rfl⟩ := g3; exact ⟨x, σ', g1, hst2.2⟩
      · obtain ⟨r, rfl⟩ := g3; exact ⟨r, σ', g1, hst2.2⟩
    · exact hst2
  cases J
  case invokevirtual n =>
    refine key ?_ hst0
    rintro y0 n0 c0 k0 rfl
    have hCk : (lkm.any (fun e => decide (e.1 = oc y) && decide (e.2.1 = n) && decide (e.2.2.1 = y0)) && !isS y0 && decide (n0 = np y0 + 1) && decide (cn (c0 - 1) = (nm y0).cls) && decide (0 < c0) && decide (c0 < 10) && chkK.chkR (rt y0) k0 && decide ((nm y0).name ≠ "<init>")) = true := hC
    simp only [Bool.and_eq_true] at hCk
    exact hCk.1.2
  case invokestatic n =>
    refine key ?_ hst0
    rintro y0 n0 c0 k0 rfl
    have hCk : ((lkm.any (fun e => decide (e.1 = oc y) && decide (e.2.1 = n) && decide (e.2.2.1 = y0)) && decide ((nm y0).cls = cn (oc y)) || lkn.any (fun e => decide (e.1 = oc y) && decide (e.2.1 = n) && decide (e.2.2.1 = y0))) && isS y0 && decide (n0 = np y0) && decide (c0 = 0) && chkK.chkR (rt y0) k0) = true := hC
    simp only [Bool.and_eq_true] at hCk
    exact hCk.2
  all_goals exact hst0
theorem stp_mono {y : Nat} {Cal : CT} {S : ST} {ret : AV → SS → Prop} {K K' : KT} {ins : AI} {pc : Nat} {la sa : List AV} {σ : SS} {bz : Bool} (hT : chkT (bp y) pc ins = true) (hK : ∀ pc la sa σ, K pc la sa σ → K' pc la sa σ)
    (hst : stp Cal S ret K bz ins pc la sa σ) : stp Cal S ret K' bz ins pc la sa σ := by
  rcases stp_one hT hst with ⟨v, σ', h1, h2⟩ | ⟨pc', la', sa', σ', h1, h2⟩
  · exact h2 _ _ h1
  · exact h2 _ _ (hK _ _ _ _ h1)
end
section
def LE : List AV → List AV → Prop
  | [], [] => True
  | a :: l, b :: l' => (a = vu ∨ a = b) ∧ LE l l'
  | _, _ => False
theorem LE.rf : ∀ (l : List AV), LE l l
  | [] => trivial
  | _ :: l => ⟨Or.inr rfl, LE.rf l⟩
theorem LE.at : ∀ {l l' : List AV} {i : Nat} {v : AV}, LE l l' → nth l i = some v → v ≠ vu → nth l' i = some v
  | [], [], _, _, _, h, _ => h
  | a :: l, b :: l', 0, v, h, h1, h2 => by
    simp only [nth, Option.some.injEq] at h1 ⊢
    subst h1
    rcases h.1 with q | q
    · exact absurd q h2
    · exact q.symm
  | a :: l, b :: l', i + 1, v, h, h1, h2 => by
    simp only [nth] at h1 ⊢
    exact LE.at h.2 h1 h2
  | [], _ :: _, _, _, h, _, _ => h.elim
  | _ :: _, [], _, _, h, _, _ => h.elim
theorem LE.set : ∀ {l l' : List AV} (i : Nat) (v : AV), LE l l' → LE (stl l i v) (stl l' i v)
  | [], [], _, _, h => h
  | a :: l, b :: l', 0, v, h => ⟨Or.inr rfl, h.2⟩
  | a :: l, b :: l', i + 1, v, h => ⟨h.1, LE.set i v h.2⟩
  | [], _ :: _, _, _, h => h.elim
  | _ :: _, [], _, _, h => h.elim
theorem LE.un : ∀ {l l' : List AV} (i : Nat), LE l l' → LE (stl l i vu) l'
  | [], [], _, h => h
  | a :: l, b :: l', 0, h => ⟨Or.inl rfl, h.2⟩
  | a :: l, b :: l', i + 1, h => ⟨h.1, LE.un i h.2⟩
  | [], _ :: _, _, h => h.elim
  | _ :: _, [], _, h => h.elim
theorem LE.un2 : ∀ {l l' : List AV} (i : Nat), LE l l' → (∀ v, nth l i = some v → v = vu) → LE l (stl l' i vu)
  | [], [], _, h, _ => h
  | a :: l, b :: l', 0, h, hv => ⟨Or.inl (hv a rfl), h.2⟩
  | a :: l, b :: l', i + 1, h, hv => ⟨h.1, LE.un2 i h.2 hv⟩
  | [], _ :: _, _, h, _ => h.elim
  | _ :: _, [], _, h, _ => h.elim
theorem LE.len : ∀ {l l' : List AV}, LE l l' → l.length = l'.length
  | [], [], _ => rfl
  | _ :: _, _ :: _, h => by simp [LE.len h.2]
  | [], _ :: _, h => h.elim
  | _ :: _, [], h => h.elim
theorem LE_kl {l l' : List AV} (i : Nat) (h : LE l l') : LE (kl l i) (kl l' i) := by
  cases i with
  | zero => exact h
  | succ n =>
    simp only [kl]
    split
    · rename_i x hx
      rw [h.at hx (by intro q; cases q)]
      exact h.set n vu
    · rename_i hx
      split
      · rename_i x hx'
        refine LE.un2 n h fun v hv => ?_
        by_cases q : v = vu
        · exact q
        · have := h.at hv q
          rw [hx'] at this
          cases this
          exact absurd hv (hx x)
      · exact h
def KE (K : KT) : KT := fun pc la sa σ => ∃ lb, LE lb la ∧ K pc lb sa σ
theorem nvu {x : Int} : (.inl x : AV) ≠ vu := by intro h; cases h
theorem nvr {r : Option (Nat × Int)} : (.inr (.inl r) : AV) ≠ vu := by intro h; cases h
theorem nvl {x : Int} : (vl x : AV) ≠ vu := by intro h; cases h
theorem cnd_imp {c : ClassFile.Cond} {x y : Int} {A B A' B' : Prop} (h : cnd c x y A B) (ha : A → A') (hb : B → B') : cnd c x y A' B' := by
  cases c <;> exact ⟨fun q => by first | exact ha (h.1 q) | exact hb (h.1 q), fun q => by first | exact hb (h.2 q) | exact ha (h.2 q)⟩
theorem tsw_imp {x : Int} {K K' : Nat → Prop} (hk : ∀ t, K t → K' t) : ∀ (ts : List Nat) (lo : Int), tsw x K lo ts → tsw x K' lo ts
  | [], _, _ => trivial
  | _ :: ts, lo, h => ⟨fun q => hk _ (h.1 q), tsw_imp hk ts (lo + 1) h.2⟩
theorem lsw_imp {x : Int} {K K' : Nat → Prop} (hk : ∀ t, K t → K' t) : ∀ (ps : List (Int × Int)) (ts : List Nat), lsw x K ps ts → lsw x K' ps ts
  | [], _, _ => trivial
  | _ :: _, [], _ => trivial
  | (_, _) :: ps, _ :: ts, h => ⟨fun q => hk _ (h.1 q), lsw_imp hk ps ts h.2⟩
theorem lsN_imp {x : Int} {A A' : Prop} (hk : A → A') : ∀ (ps : List (Int × Int)), lsN x ps A → lsN x ps A'
  | [], h => hk h
  | (_, _) :: ps, h => fun q => lsN_imp hk ps (h q)
set_option maxHeartbeats 4000000 in
theorem stp_le {Cal : CT} {ret : AV → SS → Prop} {K : KT} {ins : AI} {pc : Nat} {la lb sa : List AV} {σ : SS} {bz : Bool} (hle : LE la lb)
  (hst : stp Cal noS ret K bz ins pc la sa σ) : stp Cal noS ret (KE K) bz ins pc lb sa σ := by
  obtain ⟨J, ns, z⟩ := ins
  cases J <;> simp only [stp] at hst
  all_goals first | exact hst.elim | skip
  case aload_n i =>
    simp only [aLd] at hst
    split at hst
    case h_2 => exact hst.elim
    rename_i x hr
    simp only [stp, aLd, hle.at hr nvr]
    exact ⟨_, hle, hst⟩
  case aload i =>
    simp only [aLd] at hst
    split at hst
    case h_2 => exact hst.elim
    rename_i x hr
    simp only [stp, aLd, hle.at hr nvr]
    exact ⟨_, hle, hst⟩
  case iload_n i =>
    simp only [iLd] at hst
    split at hst
    case h_2 => exact hst.elim
    rename_i x hr
    simp only [stp, iLd, hle.at hr nvu]
    exact ⟨_, hle, hst⟩
  case iload i =>
    simp only [iLd] at hst
    split at hst
    case h_2 => exact hst.elim
    rename_i x hr
    simp only [stp, iLd, hle.at hr nvu]
    exact ⟨_, hle, hst⟩
  case lload_n i =>
    simp only [lLd] at hst
    split at hst
    case h_2 => exact hst.elim
    rename_i x hr
    simp only [stp, lLd, hle.at hr nvl]
    exact ⟨_, hle, hst⟩
  case lload i =>
    simp only [lLd] at hst
    split at hst
    case h_2 => exact hst.elim
    rename_i x hr
    simp only [stp, lLd, hle.at hr nvl]
    exact ⟨_, hle, hst⟩
  case istore_n i =>
    simp only [iSt] at hst
    split at hst
    case h_2 => exact hst.elim
    obtain ⟨h0, h1⟩ := bif_t hst
    exact bif_i (by rw [← hle.len]; exact h0) ⟨_, (LE_kl _ hle).set _ _, h1⟩
  case istore i =>
    simp only [iSt] at hst
    split at hst
    case h_2 => exact hst.elim
    obtain ⟨h0, h1⟩ := bif_t hst
    exact bif_i (by rw [← hle.len]; exact h0) ⟨_, (LE_kl _ hle).set _ _, h1⟩
  case astore_n i =>
    simp only [aSt] at hst
    split at hst
    case h_2 => exact hst.elim
    obtain ⟨h0, h1⟩ := bif_t hst
    exact bif_i (by rw [← hle.len]; exact h0) ⟨_, (LE_kl _ hle).set _ _, h1⟩
  case astore i =>
    simp only [aSt] at hst
    split at hst
    case h_2 => exact hst.elim
    obtain ⟨h0, h1⟩ := bif_t hst
    exact bif_i (by rw [← hle.len]; exact h0) ⟨_, (LE_kl _ hle).set _ _, h1⟩
  case lstore_n i =>
    simp only [lSt] at hst
    split at hst
    case h_2 => exact hst.elim
    obtain ⟨h0, h1⟩ := bif_t hst
    exact bif_i (by rw [← hle.len]; exact h0) ⟨_, ((LE_kl _ hle).set _ _).set _ _, h1⟩
  case lstore i =>
    simp only [lSt] at hst
    split at hst
    case h_2 => exact hst.elim
    obtain ⟨h0, h1⟩ := bif_t hst
    exact bif_i (by rw [← hle.len]; exact h0) ⟨_, ((LE_kl _ hle).set _ _).set _ _, h1⟩
  case iconst n =>
    exact ⟨_, hle, hst⟩
  case bipush n =>
    exact ⟨_, hle, hst⟩
  case sipush n =>
    exact ⟨_, hle, hst⟩
  case ldc n =>
    exact ⟨_, hle, hst⟩
  case ldc2_w n =>
    exact ⟨_, hle, hst⟩
  case lconst n =>
    exact ⟨_, hle, hst⟩
  case aconst_null  =>
    exact ⟨_, hle, hst⟩
  case iadd  =>
    split at hst
    case h_2 => exact hst.elim
    exact And.intro hst.1 ⟨_, hle, hst.2⟩
  case isub  =>
    split at hst
    case h_2 => exact hst.elim
    exact And.intro hst.1 ⟨_, hle, hst.2⟩
  case imul  =>
    split at hst
    case h_2 => exact hst.elim
    exact And.intro hst.1 ⟨_, hle, hst.2⟩
  case idiv  =>
    split at hst
    case h_2 => exact hst.elim
    exact And.intro hst.1 ⟨_, hle, hst.2⟩
  case irem  =>
    split at hst
    case h_2 => exact hst.elim
    exact And.intro hst.1 ⟨_, hle, hst.2⟩
  case ior  =>
    split at hst
    case h_2 => exact hst.elim
    exact And.intro hst.1 ⟨_, hle, hst.2⟩
  case ladd  =>
    split at hst
    case h_2 => exact hst.elim
    exact And.intro hst.1 ⟨_, hle, hst.2⟩
  case lsub  =>
    split at hst
    case h_2 => exact hst.elim
    exact And.intro hst.1 ⟨_, hle, hst.2⟩
  case lmul  =>
    split at hst
    case h_2 => exact hst.elim
    exact And.intro hst.1 ⟨_, hle, hst.2⟩
  case ldiv  =>
    split at hst
    case h_2 => exact hst.elim
    exact And.intro hst.1 ⟨_, hle, hst.2⟩
  case lrem  =>
    split at hst
    case h_2 => exact hst.elim
    exact And.intro hst.1 ⟨_, hle, hst.2⟩
  case land  =>
    split at hst
    case h_2 => exact hst.elim
    exact And.intro hst.1 ⟨_, hle, hst.2⟩
  case lshl  =>
    split at hst
    case h_2 => exact hst.elim
    exact And.intro hst.1 ⟨_, hle, hst.2⟩
  case l2i  =>
    split at hst
    case h_2 => exact hst.elim
    exact And.intro hst.1 ⟨_, hle, hst.2⟩
  case iand  =>
    split at hst
    case h_3 => exact hst.elim
    case h_1 => exact And.intro hst.1 ⟨_, hle, hst.2⟩
    case h_2 =>
      rename_i hne
      rcases ns with _ | ⟨n0, _ | ⟨n1, ns⟩⟩
      · exact And.intro hst.1 ⟨_, hle, hst.2⟩
      · first | exact absurd rfl (hne n0) | exact (hne _ rfl).elim
      · exact And.intro hst.1 ⟨_, hle, hst.2⟩
  case i2l  =>
    split at hst
    case h_2 => exact hst.elim
    exact ⟨_, hle, hst⟩
  case lcmp  =>
    split at hst
    case h_2 => exact hst.elim
    exact ⟨_, hle, hst⟩
  case dup2  =>
    split at hst
    case h_2 => exact hst.elim
    exact ⟨_, hle, hst⟩
  case dup  =>
    split at hst
    case h_3 => exact hst.elim
    all_goals exact ⟨_, hle, hst⟩
  case iinc i n =>
    split at hst
    case h_2 => exact hst.elim
    rename_i x0 hr
    simp only [stp, hle.at hr nvu]
    exact ⟨hst.1, _, (LE_kl _ hle).set _ _, hst.2⟩
  case if_icmp cc off =>
    split at hst
    case h_2 => exact hst.elim
    exact cnd_imp hst (fun q => ⟨_, hle, q⟩) (fun q => ⟨_, hle, q⟩)
  case ifCond cc off =>
    split at hst
    case h_2 => exact hst.elim
    exact cnd_imp hst (fun q => ⟨_, hle, q⟩) (fun q => ⟨_, hle, q⟩)
  case ifnull off =>
    split at hst
    case h_3 => exact hst.elim
    all_goals exact ⟨_, hle, hst⟩
  case ifnonnull off =>
    split at hst
    case h_3 => exact hst.elim
    all_goals exact ⟨_, hle, hst⟩
  case goto off =>
    split at hst
    case h_2 => exact hst.elim
    exact ⟨_, hle, hst⟩
  case tableswitch dflt lo hi offs =>
    rcases ns with _ | ⟨t, ts⟩
    · exact False.elim hst
    rcases sa with _ | ⟨v0, st0⟩
    · exact False.elim hst
    rcases v0 with x0 | v0
    case inr => exact False.elim hst
    exact And.intro (fun q => ⟨_, hle, hst.1 q⟩) (tsw_imp (fun t q => ⟨_, hle, q⟩) _ _ hst.2)
  case lookupswitch dflt ps =>
    rcases ns with _ | ⟨t, ts⟩
    · exact False.elim hst
    rcases sa with _ | ⟨v0, st0⟩
    · exact False.elim hst
    rcases v0 with x0 | v0
    case inr => exact False.elim hst
    exact And.intro (lsN_imp (fun q => ⟨_, hle, q⟩) _ hst.1) (lsw_imp (fun t q => ⟨_, hle, q⟩) _ _ hst.2)
  case getfield n =>
    split at hst
    case h_2 => exact hst.elim
    obtain ⟨hc, hst2⟩ := bif_t hst
    clear hst
    refine bif_i hc ?_
    split at hst2
    · exact ⟨_, hle, hst2⟩
    · exact ⟨_, hle, hst2⟩
  case putfield n =>
    split at hst
    case h_2 => exact hst.elim
    obtain ⟨hc, hst2⟩ := bif_t hst
    clear hst
    refine bif_i hc ?_
    split at hst2
    · exact ⟨_, hle, hst2⟩
    · exact ⟨hst2.1, _, hle, hst2.2⟩
    · exact hst2.elim
  case iaload  =>
    split at hst
    case h_2 => exact hst.elim
    obtain ⟨hc, hst2⟩ := bif_t hst
    exact bif_i hc ⟨hst2.1, _, hle, hst2.2⟩
  case baload  =>
    split at hst
    case h_2 => exact hst.elim
    obtain ⟨hc, hst2⟩ := bif_t hst
    exact bif_i hc ⟨hst2.1, _, hle, hst2.2⟩
  case iastore  =>
    split at hst
    case h_2 => exact hst.elim
    obtain ⟨hc, hst2⟩ := bif_t hst
    exact bif_i hc ⟨hst2.1, _, hle, hst2.2⟩
  case bastore  =>
    split at hst
    case h_2 => exact hst.elim
    obtain ⟨hc, hst2⟩ := bif_t hst
    exact bif_i hc ⟨hst2.1, _, hle, hst2.2⟩
  case aaload  =>
    split at hst
    case h_2 => exact hst.elim
    obtain ⟨hc, hst2⟩ := bif_t hst
    exact bif_i hc ⟨hst2.1, _, hle, hst2.2⟩
  case arraylength  =>
    split at hst
    case h_2 => exact hst.elim
    rename_i t i st0
    cases hq : Nat.beq (ak t) 0
    · rw [hq] at hst
      show (bif Nat.beq (ak t) 0 then False else _)
      rw [hq]
      exact ⟨_, hle, hst⟩
    · rw [hq] at hst
      exact hst.elim
  case invokevirtual n =>
    simp only [acl, noS] at hst
    split at hst
    case h_3 => exact hst.elim
    case h_2 =>
      split at hst
      case h_2 => exact hst.elim
      obtain ⟨hc, hst2⟩ := bif_t hst
      exact bif_i hc ⟨_, hle, hst2⟩
    rename_i y0 n0 c0 k0
    split at hst
    case h_2 => exact hst.elim
    rename_i as0 st0 hpop
    obtain ⟨hb0, hst2⟩ := bif_t hst
    clear hst
    simp only [stp, acl, hpop, noS]
    refine bif_i hb0 ?_
    split at hst2
    · obtain ⟨σ', h1, h2⟩ := hst2
      exact ⟨σ', h1, _, hle, h2⟩
    · obtain ⟨x, σ', h1, h2⟩ := hst2
      exact ⟨x, σ', h1, _, hle, h2⟩
    · rename_i hk1 hk2
      obtain ⟨r, σ', h1, h2⟩ := hst2
      exact ⟨r, σ', h1, _, hle, h2⟩
  case invokestatic n =>
    simp only [acl, noS] at hst
    split at hst
    case h_3 => exact hst.elim
    case h_2 =>
      split at hst
      case h_2 => exact hst.elim
      obtain ⟨hc, hst2⟩ := bif_t hst
      exact bif_i hc ⟨_, hle, hst2⟩
    rename_i y0 n0 c0 k0
    split at hst
    case h_2 => exact hst.elim
    rename_i as0 st0 hpop
    obtain ⟨hb0, hst2⟩ := bif_t hst
    clear hst
    simp only [stp, acl, hpop, noS]
    refine bif_i hb0 ?_
    split at hst2
    · obtain ⟨σ', h1, h2⟩ := hst2
      exact ⟨σ', h1, _, hle, h2⟩
    · obtain ⟨x, σ', h1, h2⟩ := hst2
      exact ⟨x, σ', h1, _, hle, h2⟩
    · rename_i hk1 hk2
      obtain ⟨r, σ', h1, h2⟩ := hst2
      exact ⟨r, σ', h1, _, hle, h2⟩
  case ireturn  =>
    split at hst
    case h_2 => exact hst.elim
    exact hst
  case areturn  =>
    split at hst
    case h_2 => exact hst.elim
    exact hst
  case return_  =>
    split at hst
    case h_2 => exact hst.elim
    exact hst
theorem G_weak {d y : Nat} (hy : y < 141) (hn : y ∉ inL) {P : AV → SS → Prop} : ∀ {pc : Nat} {la lb sa : List AV} {σ : SS}, LE la lb → G d P y pc la sa σ → G d P y pc lb sa σ := by
  have key : ∀ (n pc : Nat) (la lb sa : List AV) (σ : SS), LE la lb → lp (Rn d) P (cd y) (bzm y) n pc la sa σ → lp (Rn d) P (cd y) (bzm y) n pc lb sa σ := by
    intro n
    induction n with
    | zero => intro _ _ _ _ _ _ h; exact h.elim
    | succ n ih =>
      intro pc la lb sa σ hle h
      simp only [lp] at h ⊢
      cases hi : nth (cd y) pc with
      | none => rw [hi] at h; exact h.elim
      | some ins =>
        rw [hi] at h
        have hc := chk_split (chk_in hy hn hi)
        exact stp_mono hc.2.1 (fun pc la sa σ ⟨lb', q1, q2⟩ => ih _ _ _ _ _ q1 q2) (stp_le hle h)
  intro pc la lb sa σ hle ⟨n, h⟩
  exact ⟨n, key n pc la lb sa σ hle h⟩
def msk : List Bool → List AV → List AV
  | true :: m, a :: l => a :: msk m l
  | false :: m, _ :: l => vu :: msk m l
  | [], l => l
  | _, [] => []
theorem msk_le : ∀ (m : List Bool) (l : List AV), LE (msk m l) l
  | true :: m, a :: l => ⟨Or.inr rfl, msk_le m l⟩
  | false :: m, _ :: l => ⟨Or.inl rfl, msk_le m l⟩
  | [], l => LE.rf l
  | true :: _, [] => trivial
  | false :: _, [] => trivial
def cut : List (Nat × List Bool) → Nat → Option (List Bool)
  | [], _ => none
  | (p, m) :: l, pc => bif Nat.beq p pc then some m else cut l pc
def wr (ins : AI) : Bool := match ins.1, ins.2.1 with
  | .putfield _, _ => true
  | .iastore, _ => true
  | .bastore, _ => true
  | .invokevirtual _, 1 :: _ => true
  | _, _ => false
/-- behind a write the state gets a name -/
def KA (K : KT) : KT := fun pc la sa σ' => ∀ σ1, σ1 = σ' → K pc la sa σ1
def wp (d : Nat) (S : ST) (P : AV → SS → Prop) (y : Nat) (c : List AI) (bz : Bool) (cs : List (Nat × List Bool)) : Nat → KT
  | 0, pc, la, sa, σ => G d P y pc la sa σ
  | n + 1, pc, la, sa, σ => match cut cs pc with
    | some mq => G d P y pc (msk mq la) sa σ
    | none => match nth c pc with
      | some ins => stp (Rn d) S P (bif wr ins then KA (wp d S P y c bz cs n) else wp d S P y c bz cs n) bz ins pc la sa σ
      | none => False
def w1 (d : Nat) (S : ST) (P : AV → SS → Prop) (y : Nat) (c : List AI) (bz : Bool) (cs : List (Nat × List Bool)) (n pc : Nat) (la sa : List AV) (σ : SS) : Prop := match nth c pc with
  | some ins => stp (Rn d) S P (bif wr ins then KA (wp d S P y c bz cs n) else wp d S P y c bz cs n) bz ins pc la sa σ
  | none => False
theorem KA_im {q : Bool} {K K' : KT} (h : ∀ pc la sa σ, K pc la sa σ → K' pc la sa σ) : ∀ pc la sa σ, (bif q then KA K else K) pc la sa σ → K' pc la sa σ := by
  intro pc la sa σ g
  cases q
  · exact h _ _ _ _ g
  · exact h _ _ _ _ (g σ rfl)
theorem wp_G {d y : Nat} {S : ST} {P : AV → SS → Prop} (hS : SV d S) (hy : y < 141) (hn : y ∉ inL) {cs : List (Nat × List Bool)} : ∀ (n pc : Nat) (la sa : List AV) (σ : SS), wp d S P y (cd y) (bzm y) cs n pc la sa σ → G d P y pc la sa σ
  | 0, _, _, _, _, h => h
  | n + 1, pc, la, sa, σ, h => by
    simp only [wp] at h
    split at h
    · exact G_weak hy hn (msk_le _ _) h
    · cases hi : nth (cd y) pc with
      | none => rw [hi] at h; exact h.elim
      | some ins =>
        rw [hi] at h
        have hc := chk_split (chk_in hy hn hi)
        exact G_step hy hn hi (stp_mono hc.2.1 (KA_im fun pc la sa σ => wp_G hS hy hn n pc la sa σ) (stp_S hS hc.2.2.2 h))
theorem blk {d y : Nat} {S : ST} {P : AV → SS → Prop} {c : List AI} {bz : Bool} (cs : List (Nat × List Bool)) (n : Nat) {pc : Nat} {la sa : List AV} {σ : SS} (hS : SV d S) (hy : (decide (y < 141) && !inL.elem y) = true) (hc : cd y = c) (hb : bzm y = bz) (h : w1 d S P y c bz cs n pc la sa σ) : G d P y pc la sa σ := by
  subst hc; subst hb
  simp only [Bool.and_eq_true, decide_eq_true_eq, Bool.not_eq_true'] at hy
  have hn : y ∉ inL := fun q => by have := hy.2; rw [List.elem_eq_mem] at this; simp [q] at this
  simp only [w1] at h
  cases hi : nth (cd y) pc with
  | none => rw [hi] at h; exact h.elim
  | some ins =>
    rw [hi] at h
    have hc := chk_split (chk_in hy.1 hn hi)
    exact G_step hy.1 hn hi (stp_mono hc.2.1 (KA_im fun pc la sa σ => wp_G hS hy.1 hn n pc la sa σ) (stp_S hS hc.2.2.2 h))
/-! ===== rows ===== -/
def rg (n : Int) (f : Int → Int) (j : Int) : Int := if 0 ≤ j ∧ j < n then f j else 0
def us (n : Int) (σ : SS) (t : Nat) (i j x : Int) : SS := if 0 ≤ j ∧ j < n then up σ t i j x else σ
end
section
def inn (k : Int) : Int := if k < 3 then 0 else if k < 6 ∨ k = 9 then 1 else if k = 7 then 3 else 2
def nmf (s n : Int) : Int := if (if s = 108 then 97 ≤ n ∧ n ≤ 100 else 48 ≤ n ∧ n ≤ 50) then 1 else 0
def tin (s : Int) : Int := if s = 110 ∨ s = 42 ∨ s = 45 ∨ s = 64 then 1 else if s = 43 ∨ s = 108 then 2 else if s = 63 then 3 else if s = 120 ∨ (48 ≤ s ∧ s ≤ 57) ∨ (97 ≤ s ∧ s ≤ 100) then 0 else -1
def kos (s : Int) : Int := if 48 ≤ s ∧ s ≤ 57 then 0 else if 97 ≤ s ∧ s ≤ 100 then 2 else if s = 120 then 1 else if s = 110 then 3 else if s = 42 then 4 else if s = 45 then 5 else if s = 43 then 6 else if s = 63 then 7 else if s = 108 then 8 else if s = 64 then 9 else -6
def S1 : ST := fun y as σ => match y, as with
  | 0, [.inr (.inl (some (t, i))), .inl j] => bif Nat.beq (cls t) 3 then some (none, .inl (rg (ndI alL (rf t 0)) (σ (rf t 0) i) j), σ) else none
  | 1, [.inr (.inl (some (t, i))), .inl j, .inl x] => bif Nat.beq (cls t) 3 then some (none, vu, us (ndI alL (rf t 0)) σ (rf t 0) i j x) else none
  | 3, [.inl n, .inl lo, .inl hi] => some (none, .inl (if lo ≤ n ∧ n ≤ hi then 1 else 0), σ)
  | 9, [.inl n, .inl lo, .inl hi] => some (none, .inl (if lo ≤ n ∧ n ≤ hi then 1 else 0), σ)
  | 6, [.inl s] => some (none, .inl (if s = 108 ∨ s = 64 then 1 else 0), σ)
  | 12, [.inl k] => some (none, .inl (inn k), σ)
  | 13, [.inr (.inl (some (62, 0))), .inl b, .inl a] => some (some (ir (42 * b) ∧ ir (42 * b + a) ∧ ir (40 * b) ∧ ir (42 * b + a - 40 * b)), .inl (42 * b + a - 40 * b), σ)
  | 14, [.inr (.inl (some (62, 0))), .inl a] => some (some (ir (a + 1) ∧ (0 ≤ a + 1 ∧ a + 1 < 120) ∧ ir (σ 66 0 (a + 1) - 48)), .inl (σ 66 0 (a + 1) - 48), σ)
  | 16, [.inr (.inl (some (t, i))), .inl p] => bif Nat.beq (cls t) 7 then some (none, .inl (if 0 ≤ p ∧ p < σ t i 1 then 1 else 0), σ) else none
  | 17, [.inr (.inl (some (t, i)))] => bif Nat.beq (cls t) 7 then some (some (ir (10 * σ t i 2) ∧ ir (10 * σ t i 2 + σ t i 3)), .inl (10 * σ t i 2 + σ t i 3), σ) else none
  | _, _ => none
end
section
/-- RegionStack.isWithin at 0, 3 leaves -/
theorem b_3_0 {d : Nat} {P : AV → SS → Prop} {σ : SS} {l0 l1 l2 : Int} (h : ((l0 < l1 → (((0 : Int) = 0 ∨ (0 : Int) = 1) ∧ P (vi (0 : Int)) σ)) ∧ (l1 ≤ l0 → ((l2 < l0 → (((0 : Int) = 0 ∨ (0 : Int) = 1) ∧ P (vi (0 : Int)) σ)) ∧ (l0 ≤ l2 → (((1 : Int) = 0 ∨ (1 : Int) = 1) ∧ P (vi (1 : Int)) σ)))))) : G (d + 0) P 3 0 [vi l0, vi l1, vi l2] [] σ := blk (S := noS) (c := cd_3) (bz := true) [] 600 (SV_no _) rfl rfl rfl h
/-- RegionStackModel.in at 0, 3 leaves -/
theorem b_9_0 {d : Nat} {P : AV → SS → Prop} {σ : SS} {l0 l1 l2 : Int} (h : ((l0 < l1 → (((0 : Int) = 0 ∨ (0 : Int) = 1) ∧ P (vi (0 : Int)) σ)) ∧ (l1 ≤ l0 → ((l2 < l0 → (((0 : Int) = 0 ∨ (0 : Int) = 1) ∧ P (vi (0 : Int)) σ)) ∧ (l0 ≤ l2 → (((1 : Int) = 0 ∨ (1 : Int) = 1) ∧ P (vi (1 : Int)) σ)))))) : G (d + 0) P 9 0 [vi l0, vi l1, vi l2] [] σ := blk (S := noS) (c := cd_9) (bz := true) [] 600 (SV_no _) rfl rfl rfl h
/-- RegionStack.bearsName at 0, 3 leaves -/
theorem b_6_0 {d : Nat} {P : AV → SS → Prop} {σ : SS} {l0 : Int} (h : ((l0 = (108 : Int) → (((1 : Int) = 0 ∨ (1 : Int) = 1) ∧ P (vi (1 : Int)) σ)) ∧ (l0 ≠ (108 : Int) → ((l0 ≠ (64 : Int) → (((0 : Int) = 0 ∨ (0 : Int) = 1) ∧ P (vi (0 : Int)) σ)) ∧ (l0 = (64 : Int) → (((1 : Int) = 0 ∨ (1 : Int) = 1) ∧ P (vi (1 : Int)) σ)))))) : G (d + 0) P 6 0 [vi l0] [] σ := blk (S := noS) (c := cd_6) (bz := true) [] 600 (SV_no _) rfl rfl rfl h
/-- RegionStackModel.inner at 0, 5 leaves -/
theorem b_12_0 {d : Nat} {P : AV → SS → Prop} {σ : SS} {l0 : Int} (h : (((3 : Int) ≤ l0 → ((l0 < (6 : Int) → P (vi (1 : Int)) σ) ∧ ((6 : Int) ≤ l0 → ((l0 ≠ (9 : Int) → ((l0 ≠ (7 : Int) → P (vi (2 : Int)) σ) ∧ (l0 = (7 : Int) → P (vi (3 : Int)) σ))) ∧ (l0 = (9 : Int) → P (vi (1 : Int)) σ))))) ∧ (l0 < (3 : Int) → P (vi (0 : Int)) σ))) : G (d + 0) P 12 0 [vi l0] [] σ := blk (S := noS) (c := cd_12) (bz := false) [] 600 (SV_no _) rfl rfl rfl h
/-- RegionStackModel.nodeOf at 0, 1 leaves -/
theorem b_13_0 {d : Nat} {P : AV → SS → Prop} {σ : SS} {l1 l2 : Int} (h : (ir ((42 : Int) * l1) ∧ (ir (((42 : Int) * l1) + l2) ∧ (ir ((40 : Int) * l1) ∧ (ir ((((42 : Int) * l1) + l2) - ((40 : Int) * l1)) ∧ P (vi ((((42 : Int) * l1) + l2) - ((40 : Int) * l1))) σ))))) : G (d + 0) P 13 0 [vr 62 0, vi l1, vi l2] [] σ := blk (S := noS) (c := cd_13) (bz := false) [] 600 (SV_no _) rfl rfl rfl h
/-- RegionStackModel.bodyOfCall at 0, 1 leaves -/
theorem b_14_0 {d : Nat} {P : AV → SS → Prop} {σ : SS} {l1 : Int} (h : (ir (l1 + 1) ∧ ((0 ≤ (l1 + 1) ∧ (l1 + 1) < 120) ∧ (ir ((σ 66 0 (l1 + 1)) - 48) ∧ P (vi ((σ 66 0 (l1 + 1)) - 48)) σ)))) : G (d + 0) P 14 0 [vr 62 0, vi l1] [] σ := blk (S := noS) (c := cd_14) (bz := false) [] 600 (SV_no _) rfl rfl rfl h
/-- RegionStack$Text.hasPlace at 0, 3 leaves -/
theorem b_16_0 {d : Nat} {P : AV → SS → Prop} {σ : SS} {b l1 : Int} (h : ((l1 < 0 → (((0 : Int) = 0 ∨ (0 : Int) = 1) ∧ P (vi (0 : Int)) σ)) ∧ (0 ≤ l1 → (((σ 6 b 1) ≤ l1 → (((0 : Int) = 0 ∨ (0 : Int) = 1) ∧ P (vi (0 : Int)) σ)) ∧ (l1 < (σ 6 b 1) → (((1 : Int) = 0 ∨ (1 : Int) = 1) ∧ P (vi (1 : Int)) σ)))))) : G (d + 0) P 16 0 [vr 6 b, vi l1] [] σ := blk (S := noS) (c := cd_16) (bz := true) [] 600 (SV_no _) rfl rfl rfl h
/-- RegionStack$Text.hasPlace at 0, 3 leaves -/
theorem b_16k_0 {d : Nat} {P : AV → SS → Prop} {σ : SS} {b l1 : Int} (h : ((l1 < 0 → (((0 : Int) = 0 ∨ (0 : Int) = 1) ∧ P (vi (0 : Int)) σ)) ∧ (0 ≤ l1 → (((σ 33 b 1) ≤ l1 → (((0 : Int) = 0 ∨ (0 : Int) = 1) ∧ P (vi (0 : Int)) σ)) ∧ (l1 < (σ 33 b 1) → (((1 : Int) = 0 ∨ (1 : Int) = 1) ∧ P (vi (1 : Int)) σ)))))) : G (d + 0) P 16 0 [vr 33 b, vi l1] [] σ := blk (S := noS) (c := cd_16) (bz := true) [] 600 (SV_no _) rfl rfl rfl h
/-- RegionStack$Text.bothKinds at 0, 1 leaves -/
theorem b_17_0 {d : Nat} {P : AV → SS → Prop} {σ : SS} {b : Int} (h : (ir ((10 : Int) * (σ 6 b 2)) ∧ (ir (((10 : Int) * (σ 6 b 2)) + (σ 6 b 3)) ∧ P (vi (((10 : Int) * (σ 6 b 2)) + (σ 6 b 3))) σ))) : G (d + 0) P 17 0 [vr 6 b] [] σ := blk (S := noS) (c := cd_17) (bz := false) [] 600 (SV_no _) rfl rfl rfl h
/-- RegionStack$Text.bothKinds at 0, 1 leaves -/
theorem b_17k_0 {d : Nat} {P : AV → SS → Prop} {σ : SS} {b : Int} (h : (ir ((10 : Int) * (σ 33 b 2)) ∧ (ir (((10 : Int) * (σ 33 b 2)) + (σ 33 b 3)) ∧ P (vi (((10 : Int) * (σ 33 b 2)) + (σ 33 b 3))) σ))) : G (d + 0) P 17 0 [vr 33 b] [] σ := blk (S := noS) (c := cd_17) (bz := false) [] 600 (SV_no _) rfl rfl rfl h
/-- RegionStack$Row.get at 0, 3 leaves -/
theorem b_0t7_0 {d : Nat} {P : AV → SS → Prop} {σ : SS} {b l1 : Int} (h : ((l1 < 0 → P (vi (0 : Int)) σ) ∧ (0 ≤ l1 → (((40 : Int) ≤ l1 → P (vi (0 : Int)) σ) ∧ (l1 < (40 : Int) → ((0 ≤ l1 ∧ l1 < 40) ∧ P (vi (σ 37 b l1)) σ)))))) : G (d + 0) P 0 0 [vr 7 b, vi l1] [] σ := blk (S := noS) (c := cd_0) (bz := false) [] 600 (SV_no _) rfl rfl rfl h
/-- RegionStack$Row.set at 0, 3 leaves -/
theorem b_1t7_0 {d : Nat} {P : AV → SS → Prop} {σ : SS} {b l1 l2 : Int} (h : ((l1 < 0 → P vu σ) ∧ (0 ≤ l1 → (((40 : Int) ≤ l1 → P vu σ) ∧ (l1 < (40 : Int) → ((0 ≤ l1 ∧ l1 < 40) ∧ (∀ σ1 : SS, σ1 = up σ 37 b l1 l2 → P vu σ1))))))) : G (d + 0) P 1 0 [vr 7 b, vi l1, vi l2] [] σ := blk (S := noS) (c := cd_1) (bz := false) [] 600 (SV_no _) rfl rfl rfl h
/-- RegionStack$Row.get at 0, 3 leaves -/
theorem b_0t8_0 {d : Nat} {P : AV → SS → Prop} {σ : SS} {b l1 : Int} (h : ((l1 < 0 → P (vi (0 : Int)) σ) ∧ (0 ≤ l1 → (((40 : Int) ≤ l1 → P (vi (0 : Int)) σ) ∧ (l1 < (40 : Int) → ((0 ≤ l1 ∧ l1 < 40) ∧ P (vi (σ 38 b l1)) σ)))))) : G (d + 0) P 0 0 [vr 8 b, vi l1] [] σ := blk (S := noS) (c := cd_0) (bz := false) [] 600 (SV_no _) rfl rfl rfl h
/-- RegionStack$Row.set at 0, 3 leaves -/
theorem b_1t8_0 {d : Nat} {P : AV → SS → Prop} {σ : SS} {b l1 l2 : Int} (h : ((l1 < 0 → P vu σ) ∧ (0 ≤ l1 → (((40 : Int) ≤ l1 → P vu σ) ∧ (l1 < (40 : Int) → ((0 ≤ l1 ∧ l1 < 40) ∧ (∀ σ1 : SS, σ1 = up σ 38 b l1 l2 → P vu σ1))))))) : G (d + 0) P 1 0 [vr 8 b, vi l1, vi l2] [] σ := blk (S := noS) (c := cd_1) (bz := false) [] 600 (SV_no _) rfl rfl rfl h
/-- RegionStack$Row.get at 0, 3 leaves -/
theorem b_0t9_0 {d : Nat} {P : AV → SS → Prop} {σ : SS} {b l1 : Int} (h : ((l1 < 0 → P (vi (0 : Int)) σ) ∧ (0 ≤ l1 → (((40 : Int) ≤ l1 → P (vi (0 : Int)) σ) ∧ (l1 < (40 : Int) → ((0 ≤ l1 ∧ l1 < 40) ∧ P (vi (σ 39 b l1)) σ)))))) : G (d + 0) P 0 0 [vr 9 b, vi l1] [] σ := blk (S := noS) (c := cd_0) (bz := false) [] 600 (SV_no _) rfl rfl rfl h
/-- RegionStack$Row.set at 0, 3 leaves -/
theorem b_1t9_0 {d : Nat} {P : AV → SS → Prop} {σ : SS} {b l1 l2 : Int} (h : ((l1 < 0 → P vu σ) ∧ (0 ≤ l1 → (((40 : Int) ≤ l1 → P vu σ) ∧ (l1 < (40 : Int) → ((0 ≤ l1 ∧ l1 < 40) ∧ (∀ σ1 : SS, σ1 = up σ 39 b l1 l2 → P vu σ1))))))) : G (d + 0) P 1 0 [vr 9 b, vi l1, vi l2] [] σ := blk (S := noS) (c := cd_1) (bz := false) [] 600 (SV_no _) rfl rfl rfl h
/-- RegionStack$Row.get at 0, 3 leaves -/
theorem b_0t10_0 {d : Nat} {P : AV → SS → Prop} {σ : SS} {b l1 : Int} (h : ((l1 < 0 → P (vi (0 : Int)) σ) ∧ (0 ≤ l1 → (((40 : Int) ≤ l1 → P (vi (0 : Int)) σ) ∧ (l1 < (40 : Int) → ((0 ≤ l1 ∧ l1 < 40) ∧ P (vi (σ 40 b l1)) σ)))))) : G (d + 0) P 0 0 [vr 10 b, vi l1] [] σ := blk (S := noS) (c := cd_0) (bz := false) [] 600 (SV_no _) rfl rfl rfl h
/-- RegionStack$Row.set at 0, 3 leaves -/
theorem b_1t10_0 {d : Nat} {P : AV → SS → Prop} {σ : SS} {b l1 l2 : Int} (h : ((l1 < 0 → P vu σ) ∧ (0 ≤ l1 → (((40 : Int) ≤ l1 → P vu σ) ∧ (l1 < (40 : Int) → ((0 ≤ l1 ∧ l1 < 40) ∧ (∀ σ1 : SS, σ1 = up σ 40 b l1 l2 → P vu σ1))))))) : G (d + 0) P 1 0 [vr 10 b, vi l1, vi l2] [] σ := blk (S := noS) (c := cd_1) (bz := false) [] 600 (SV_no _) rfl rfl rfl h
/-- RegionStack$Row.get at 0, 3 leaves -/
theorem b_0t11_0 {d : Nat} {P : AV → SS → Prop} {σ : SS} {b l1 : Int} (h : ((l1 < 0 → P (vi (0 : Int)) σ) ∧ (0 ≤ l1 → (((120 : Int) ≤ l1 → P (vi (0 : Int)) σ) ∧ (l1 < (120 : Int) → ((0 ≤ l1 ∧ l1 < 120) ∧ P (vi (σ 41 b l1)) σ)))))) : G (d + 0) P 0 0 [vr 11 b, vi l1] [] σ := blk (S := noS) (c := cd_0) (bz := false) [] 600 (SV_no _) rfl rfl rfl h
/-- RegionStack$Row.set at 0, 3 leaves -/
theorem b_1t11_0 {d : Nat} {P : AV → SS → Prop} {σ : SS} {b l1 l2 : Int} (h : ((l1 < 0 → P vu σ) ∧ (0 ≤ l1 → (((120 : Int) ≤ l1 → P vu σ) ∧ (l1 < (120 : Int) → ((0 ≤ l1 ∧ l1 < 120) ∧ (∀ σ1 : SS, σ1 = up σ 41 b l1 l2 → P vu σ1))))))) : G (d + 0) P 1 0 [vr 11 b, vi l1, vi l2] [] σ := blk (S := noS) (c := cd_1) (bz := false) [] 600 (SV_no _) rfl rfl rfl h
/-- RegionStack$Row.get at 0, 3 leaves -/
theorem b_0t12_0 {d : Nat} {P : AV → SS → Prop} {σ : SS} {b l1 : Int} (h : ((l1 < 0 → P (vi (0 : Int)) σ) ∧ (0 ≤ l1 → (((40 : Int) ≤ l1 → P (vi (0 : Int)) σ) ∧ (l1 < (40 : Int) → ((0 ≤ l1 ∧ l1 < 40) ∧ P (vi (σ 42 b l1)) σ)))))) : G (d + 0) P 0 0 [vr 12 b, vi l1] [] σ := blk (S := noS) (c := cd_0) (bz := false) [] 600 (SV_no _) rfl rfl rfl h
/-- RegionStack$Row.set at 0, 3 leaves -/
theorem b_1t12_0 {d : Nat} {P : AV → SS → Prop} {σ : SS} {b l1 l2 : Int} (h : ((l1 < 0 → P vu σ) ∧ (0 ≤ l1 → (((40 : Int) ≤ l1 → P vu σ) ∧ (l1 < (40 : Int) → ((0 ≤ l1 ∧ l1 < 40) ∧ (∀ σ1 : SS, σ1 = up σ 42 b l1 l2 → P vu σ1))))))) : G (d + 0) P 1 0 [vr 12 b, vi l1, vi l2] [] σ := blk (S := noS) (c := cd_1) (bz := false) [] 600 (SV_no _) rfl rfl rfl h
/-- RegionStack$Row.get at 0, 3 leaves -/
theorem b_0t13_0 {d : Nat} {P : AV → SS → Prop} {σ : SS} {b l1 : Int} (h : ((l1 < 0 → P (vi (0 : Int)) σ) ∧ (0 ≤ l1 → (((40 : Int) ≤ l1 → P (vi (0 : Int)) σ) ∧ (l1 < (40 : Int) → ((0 ≤ l1 ∧ l1 < 40) ∧ P (vi (σ 43 b l1)) σ)))))) : G (d + 0) P 0 0 [vr 13 b, vi l1] [] σ := blk (S := noS) (c := cd_0) (bz := false) [] 600 (SV_no _) rfl rfl rfl h
/-- RegionStack$Row.set at 0, 3 leaves -/
theorem b_1t13_0 {d : Nat} {P : AV → SS → Prop} {σ : SS} {b l1 l2 : Int} (h : ((l1 < 0 → P vu σ) ∧ (0 ≤ l1 → (((40 : Int) ≤ l1 → P vu σ) ∧ (l1 < (40 : Int) → ((0 ≤ l1 ∧ l1 < 40) ∧ (∀ σ1 : SS, σ1 = up σ 43 b l1 l2 → P vu σ1))))))) : G (d + 0) P 1 0 [vr 13 b, vi l1, vi l2] [] σ := blk (S := noS) (c := cd_1) (bz := false) [] 600 (SV_no _) rfl rfl rfl h
/-- RegionStack$Row.get at 0, 3 leaves -/
theorem b_0t14_0 {d : Nat} {P : AV → SS → Prop} {σ : SS} {b l1 : Int} (h : ((l1 < 0 → P (vi (0 : Int)) σ) ∧ (0 ≤ l1 → (((40 : Int) ≤ l1 → P (vi (0 : Int)) σ) ∧ (l1 < (40 : Int) → ((0 ≤ l1 ∧ l1 < 40) ∧ P (vi (σ 44 b l1)) σ)))))) : G (d + 0) P 0 0 [vr 14 b, vi l1] [] σ := blk (S := noS) (c := cd_0) (bz := false) [] 600 (SV_no _) rfl rfl rfl h
/-- RegionStack$Row.set at 0, 3 leaves -/
theorem b_1t14_0 {d : Nat} {P : AV → SS → Prop} {σ : SS} {b l1 l2 : Int} (h : ((l1 < 0 → P vu σ) ∧ (0 ≤ l1 → (((40 : Int) ≤ l1 → P vu σ) ∧ (l1 < (40 : Int) → ((0 ≤ l1 ∧ l1 < 40) ∧ (∀ σ1 : SS, σ1 = up σ 44 b l1 l2 → P vu σ1))))))) : G (d + 0) P 1 0 [vr 14 b, vi l1, vi l2] [] σ := blk (S := noS) (c := cd_1) (bz := false) [] 600 (SV_no _) rfl rfl rfl h
/-- RegionStack$Row.get at 0, 3 leaves -/
theorem b_0t15_0 {d : Nat} {P : AV → SS → Prop} {σ : SS} {b l1 : Int} (h : ((l1 < 0 → P (vi (0 : Int)) σ) ∧ (0 ≤ l1 → (((40 : Int) ≤ l1 → P (vi (0 : Int)) σ) ∧ (l1 < (40 : Int) → ((0 ≤ l1 ∧ l1 < 40) ∧ P (vi (σ 45 b l1)) σ)))))) : G (d + 0) P 0 0 [vr 15 b, vi l1] [] σ := blk (S := noS) (c := cd_0) (bz := false) [] 600 (SV_no _) rfl rfl rfl h
/-- RegionStack$Row.set at 0, 3 leaves -/
theorem b_1t15_0 {d : Nat} {P : AV → SS → Prop} {σ : SS} {b l1 l2 : Int} (h : ((l1 < 0 → P vu σ) ∧ (0 ≤ l1 → (((40 : Int) ≤ l1 → P vu σ) ∧ (l1 < (40 : Int) → ((0 ≤ l1 ∧ l1 < 40) ∧ (∀ σ1 : SS, σ1 = up σ 45 b l1 l2 → P vu σ1))))))) : G (d + 0) P 1 0 [vr 15 b, vi l1, vi l2] [] σ := blk (S := noS) (c := cd_1) (bz := false) [] 600 (SV_no _) rfl rfl rfl h
/-- RegionStack$Row.get at 0, 3 leaves -/
theorem b_0t16_0 {d : Nat} {P : AV → SS → Prop} {σ : SS} {b l1 : Int} (h : ((l1 < 0 → P (vi (0 : Int)) σ) ∧ (0 ≤ l1 → (((42 : Int) ≤ l1 → P (vi (0 : Int)) σ) ∧ (l1 < (42 : Int) → ((0 ≤ l1 ∧ l1 < 42) ∧ P (vi (σ 46 b l1)) σ)))))) : G (d + 0) P 0 0 [vr 16 b, vi l1] [] σ := blk (S := noS) (c := cd_0) (bz := false) [] 600 (SV_no _) rfl rfl rfl h
/-- RegionStack$Row.set at 0, 3 leaves -/
theorem b_1t16_0 {d : Nat} {P : AV → SS → Prop} {σ : SS} {b l1 l2 : Int} (h : ((l1 < 0 → P vu σ) ∧ (0 ≤ l1 → (((42 : Int) ≤ l1 → P vu σ) ∧ (l1 < (42 : Int) → ((0 ≤ l1 ∧ l1 < 42) ∧ (∀ σ1 : SS, σ1 = up σ 46 b l1 l2 → P vu σ1))))))) : G (d + 0) P 1 0 [vr 16 b, vi l1, vi l2] [] σ := blk (S := noS) (c := cd_1) (bz := false) [] 600 (SV_no _) rfl rfl rfl h
/-- RegionStack$Row.get at 0, 3 leaves -/
theorem b_0t17_0 {d : Nat} {P : AV → SS → Prop} {σ : SS} {b l1 : Int} (h : ((l1 < 0 → P (vi (0 : Int)) σ) ∧ (0 ≤ l1 → (((40 : Int) ≤ l1 → P (vi (0 : Int)) σ) ∧ (l1 < (40 : Int) → ((0 ≤ l1 ∧ l1 < 40) ∧ P (vi (σ 47 b l1)) σ)))))) : G (d + 0) P 0 0 [vr 17 b, vi l1] [] σ := blk (S := noS) (c := cd_0) (bz := false) [] 600 (SV_no _) rfl rfl rfl h
/-- RegionStack$Row.set at 0, 3 leaves -/
theorem b_1t17_0 {d : Nat} {P : AV → SS → Prop} {σ : SS} {b l1 l2 : Int} (h : ((l1 < 0 → P vu σ) ∧ (0 ≤ l1 → (((40 : Int) ≤ l1 → P vu σ) ∧ (l1 < (40 : Int) → ((0 ≤ l1 ∧ l1 < 40) ∧ (∀ σ1 : SS, σ1 = up σ 47 b l1 l2 → P vu σ1))))))) : G (d + 0) P 1 0 [vr 17 b, vi l1, vi l2] [] σ := blk (S := noS) (c := cd_1) (bz := false) [] 600 (SV_no _) rfl rfl rfl h
/-- RegionStack$Row.get at 0, 3 leaves -/
theorem b_0t18_0 {d : Nat} {P : AV → SS → Prop} {σ : SS} {b l1 : Int} (h : ((l1 < 0 → P (vi (0 : Int)) σ) ∧ (0 ≤ l1 → (((40 : Int) ≤ l1 → P (vi (0 : Int)) σ) ∧ (l1 < (40 : Int) → ((0 ≤ l1 ∧ l1 < 40) ∧ P (vi (σ 48 b l1)) σ)))))) : G (d + 0) P 0 0 [vr 18 b, vi l1] [] σ := blk (S := noS) (c := cd_0) (bz := false) [] 600 (SV_no _) rfl rfl rfl h
/-- RegionStack$Row.set at 0, 3 leaves -/
theorem b_1t18_0 {d : Nat} {P : AV → SS → Prop} {σ : SS} {b l1 l2 : Int} (h : ((l1 < 0 → P vu σ) ∧ (0 ≤ l1 → (((40 : Int) ≤ l1 → P vu σ) ∧ (l1 < (40 : Int) → ((0 ≤ l1 ∧ l1 < 40) ∧ (∀ σ1 : SS, σ1 = up σ 48 b l1 l2 → P vu σ1))))))) : G (d + 0) P 1 0 [vr 18 b, vi l1, vi l2] [] σ := blk (S := noS) (c := cd_1) (bz := false) [] 600 (SV_no _) rfl rfl rfl h
/-- RegionStack$Row.get at 0, 3 leaves -/
theorem b_0t19_0 {d : Nat} {P : AV → SS → Prop} {σ : SS} {b l1 : Int} (h : ((l1 < 0 → P (vi (0 : Int)) σ) ∧ (0 ≤ l1 → (((42 : Int) ≤ l1 → P (vi (0 : Int)) σ) ∧ (l1 < (42 : Int) → ((0 ≤ l1 ∧ l1 < 42) ∧ P (vi (σ 49 b l1)) σ)))))) : G (d + 0) P 0 0 [vr 19 b, vi l1] [] σ := blk (S := noS) (c := cd_0) (bz := false) [] 600 (SV_no _) rfl rfl rfl h
/-- RegionStack$Row.set at 0, 3 leaves -/
theorem b_1t19_0 {d : Nat} {P : AV → SS → Prop} {σ : SS} {b l1 l2 : Int} (h : ((l1 < 0 → P vu σ) ∧ (0 ≤ l1 → (((42 : Int) ≤ l1 → P vu σ) ∧ (l1 < (42 : Int) → ((0 ≤ l1 ∧ l1 < 42) ∧ (∀ σ1 : SS, σ1 = up σ 49 b l1 l2 → P vu σ1))))))) : G (d + 0) P 1 0 [vr 19 b, vi l1, vi l2] [] σ := blk (S := noS) (c := cd_1) (bz := false) [] 600 (SV_no _) rfl rfl rfl h
/-- RegionStack$Row.get at 0, 3 leaves -/
theorem b_0t20_0 {d : Nat} {P : AV → SS → Prop} {σ : SS} {b l1 : Int} (h : ((l1 < 0 → P (vi (0 : Int)) σ) ∧ (0 ≤ l1 → (((520 : Int) ≤ l1 → P (vi (0 : Int)) σ) ∧ (l1 < (520 : Int) → ((0 ≤ l1 ∧ l1 < 520) ∧ P (vi (σ 50 b l1)) σ)))))) : G (d + 0) P 0 0 [vr 20 b, vi l1] [] σ := blk (S := noS) (c := cd_0) (bz := false) [] 600 (SV_no _) rfl rfl rfl h
/-- RegionStack$Row.set at 0, 3 leaves -/
theorem b_1t20_0 {d : Nat} {P : AV → SS → Prop} {σ : SS} {b l1 l2 : Int} (h : ((l1 < 0 → P vu σ) ∧ (0 ≤ l1 → (((520 : Int) ≤ l1 → P vu σ) ∧ (l1 < (520 : Int) → ((0 ≤ l1 ∧ l1 < 520) ∧ (∀ σ1 : SS, σ1 = up σ 50 b l1 l2 → P vu σ1))))))) : G (d + 0) P 1 0 [vr 20 b, vi l1, vi l2] [] σ := blk (S := noS) (c := cd_1) (bz := false) [] 600 (SV_no _) rfl rfl rfl h
/-- RegionStack$Row.get at 0, 3 leaves -/
theorem b_0t21_0 {d : Nat} {P : AV → SS → Prop} {σ : SS} {b l1 : Int} (h : ((l1 < 0 → P (vi (0 : Int)) σ) ∧ (0 ≤ l1 → (((520 : Int) ≤ l1 → P (vi (0 : Int)) σ) ∧ (l1 < (520 : Int) → ((0 ≤ l1 ∧ l1 < 520) ∧ P (vi (σ 51 b l1)) σ)))))) : G (d + 0) P 0 0 [vr 21 b, vi l1] [] σ := blk (S := noS) (c := cd_0) (bz := false) [] 600 (SV_no _) rfl rfl rfl h
/-- RegionStack$Row.set at 0, 3 leaves -/
theorem b_1t21_0 {d : Nat} {P : AV → SS → Prop} {σ : SS} {b l1 l2 : Int} (h : ((l1 < 0 → P vu σ) ∧ (0 ≤ l1 → (((520 : Int) ≤ l1 → P vu σ) ∧ (l1 < (520 : Int) → ((0 ≤ l1 ∧ l1 < 520) ∧ (∀ σ1 : SS, σ1 = up σ 51 b l1 l2 → P vu σ1))))))) : G (d + 0) P 1 0 [vr 21 b, vi l1, vi l2] [] σ := blk (S := noS) (c := cd_1) (bz := false) [] 600 (SV_no _) rfl rfl rfl h
/-- RegionStack$Row.get at 0, 3 leaves -/
theorem b_0t22_0 {d : Nat} {P : AV → SS → Prop} {σ : SS} {b l1 : Int} (h : ((l1 < 0 → P (vi (0 : Int)) σ) ∧ (0 ≤ l1 → (((520 : Int) ≤ l1 → P (vi (0 : Int)) σ) ∧ (l1 < (520 : Int) → ((0 ≤ l1 ∧ l1 < 520) ∧ P (vi (σ 52 b l1)) σ)))))) : G (d + 0) P 0 0 [vr 22 b, vi l1] [] σ := blk (S := noS) (c := cd_0) (bz := false) [] 600 (SV_no _) rfl rfl rfl h
/-- RegionStack$Row.set at 0, 3 leaves -/
theorem b_1t22_0 {d : Nat} {P : AV → SS → Prop} {σ : SS} {b l1 l2 : Int} (h : ((l1 < 0 → P vu σ) ∧ (0 ≤ l1 → (((520 : Int) ≤ l1 → P vu σ) ∧ (l1 < (520 : Int) → ((0 ≤ l1 ∧ l1 < 520) ∧ (∀ σ1 : SS, σ1 = up σ 52 b l1 l2 → P vu σ1))))))) : G (d + 0) P 1 0 [vr 22 b, vi l1, vi l2] [] σ := blk (S := noS) (c := cd_1) (bz := false) [] 600 (SV_no _) rfl rfl rfl h
/-- RegionStack$Row.get at 0, 3 leaves -/
theorem b_0t23_0 {d : Nat} {P : AV → SS → Prop} {σ : SS} {b l1 : Int} (h : ((l1 < 0 → P (vi (0 : Int)) σ) ∧ (0 ≤ l1 → (((520 : Int) ≤ l1 → P (vi (0 : Int)) σ) ∧ (l1 < (520 : Int) → ((0 ≤ l1 ∧ l1 < 520) ∧ P (vi (σ 53 b l1)) σ)))))) : G (d + 0) P 0 0 [vr 23 b, vi l1] [] σ := blk (S := noS) (c := cd_0) (bz := false) [] 600 (SV_no _) rfl rfl rfl h
/-- RegionStack$Row.set at 0, 3 leaves -/
theorem b_1t23_0 {d : Nat} {P : AV → SS → Prop} {σ : SS} {b l1 l2 : Int} (h : ((l1 < 0 → P vu σ) ∧ (0 ≤ l1 → (((520 : Int) ≤ l1 → P vu σ) ∧ (l1 < (520 : Int) → ((0 ≤ l1 ∧ l1 < 520) ∧ (∀ σ1 : SS, σ1 = up σ 53 b l1 l2 → P vu σ1))))))) : G (d + 0) P 1 0 [vr 23 b, vi l1, vi l2] [] σ := blk (S := noS) (c := cd_1) (bz := false) [] 600 (SV_no _) rfl rfl rfl h
/-- RegionStack$Row.get at 0, 3 leaves -/
theorem b_0t24_0 {d : Nat} {P : AV → SS → Prop} {σ : SS} {b l1 : Int} (h : ((l1 < 0 → P (vi (0 : Int)) σ) ∧ (0 ≤ l1 → (((13 : Int) ≤ l1 → P (vi (0 : Int)) σ) ∧ (l1 < (13 : Int) → ((0 ≤ l1 ∧ l1 < 13) ∧ P (vi (σ 54 b l1)) σ)))))) : G (d + 0) P 0 0 [vr 24 b, vi l1] [] σ := blk (S := noS) (c := cd_0) (bz := false) [] 600 (SV_no _) rfl rfl rfl h
/-- RegionStack$Row.set at 0, 3 leaves -/
theorem b_1t24_0 {d : Nat} {P : AV → SS → Prop} {σ : SS} {b l1 l2 : Int} (h : ((l1 < 0 → P vu σ) ∧ (0 ≤ l1 → (((13 : Int) ≤ l1 → P vu σ) ∧ (l1 < (13 : Int) → ((0 ≤ l1 ∧ l1 < 13) ∧ (∀ σ1 : SS, σ1 = up σ 54 b l1 l2 → P vu σ1))))))) : G (d + 0) P 1 0 [vr 24 b, vi l1, vi l2] [] σ := blk (S := noS) (c := cd_1) (bz := false) [] 600 (SV_no _) rfl rfl rfl h
/-- RegionStack$Row.get at 0, 3 leaves -/
theorem b_0t25_0 {d : Nat} {P : AV → SS → Prop} {σ : SS} {b l1 : Int} (h : ((l1 < 0 → P (vi (0 : Int)) σ) ∧ (0 ≤ l1 → (((13 : Int) ≤ l1 → P (vi (0 : Int)) σ) ∧ (l1 < (13 : Int) → ((0 ≤ l1 ∧ l1 < 13) ∧ P (vi (σ 55 b l1)) σ)))))) : G (d + 0) P 0 0 [vr 25 b, vi l1] [] σ := blk (S := noS) (c := cd_0) (bz := false) [] 600 (SV_no _) rfl rfl rfl h
/-- RegionStack$Row.set at 0, 3 leaves -/
theorem b_1t25_0 {d : Nat} {P : AV → SS → Prop} {σ : SS} {b l1 l2 : Int} (h : ((l1 < 0 → P vu σ) ∧ (0 ≤ l1 → (((13 : Int) ≤ l1 → P vu σ) ∧ (l1 < (13 : Int) → ((0 ≤ l1 ∧ l1 < 13) ∧ (∀ σ1 : SS, σ1 = up σ 55 b l1 l2 → P vu σ1))))))) : G (d + 0) P 1 0 [vr 25 b, vi l1, vi l2] [] σ := blk (S := noS) (c := cd_1) (bz := false) [] 600 (SV_no _) rfl rfl rfl h
/-- RegionStack$Row.get at 0, 3 leaves -/
theorem b_0t26_0 {d : Nat} {P : AV → SS → Prop} {σ : SS} {b l1 : Int} (h : ((l1 < 0 → P (vi (0 : Int)) σ) ∧ (0 ≤ l1 → (((520 : Int) ≤ l1 → P (vi (0 : Int)) σ) ∧ (l1 < (520 : Int) → ((0 ≤ l1 ∧ l1 < 520) ∧ P (vi (σ 56 b l1)) σ)))))) : G (d + 0) P 0 0 [vr 26 b, vi l1] [] σ := blk (S := noS) (c := cd_0) (bz := false) [] 600 (SV_no _) rfl rfl rfl h
/-- RegionStack$Row.set at 0, 3 leaves -/
theorem b_1t26_0 {d : Nat} {P : AV → SS → Prop} {σ : SS} {b l1 l2 : Int} (h : ((l1 < 0 → P vu σ) ∧ (0 ≤ l1 → (((520 : Int) ≤ l1 → P vu σ) ∧ (l1 < (520 : Int) → ((0 ≤ l1 ∧ l1 < 520) ∧ (∀ σ1 : SS, σ1 = up σ 56 b l1 l2 → P vu σ1))))))) : G (d + 0) P 1 0 [vr 26 b, vi l1, vi l2] [] σ := blk (S := noS) (c := cd_1) (bz := false) [] 600 (SV_no _) rfl rfl rfl h
/-- RegionStack$Row.get at 0, 3 leaves -/
theorem b_0t27_0 {d : Nat} {P : AV → SS → Prop} {σ : SS} {b l1 : Int} (h : ((l1 < 0 → P (vi (0 : Int)) σ) ∧ (0 ≤ l1 → (((546 : Int) ≤ l1 → P (vi (0 : Int)) σ) ∧ (l1 < (546 : Int) → ((0 ≤ l1 ∧ l1 < 546) ∧ P (vi (σ 57 b l1)) σ)))))) : G (d + 0) P 0 0 [vr 27 b, vi l1] [] σ := blk (S := noS) (c := cd_0) (bz := false) [] 600 (SV_no _) rfl rfl rfl h
/-- RegionStack$Row.set at 0, 3 leaves -/
theorem b_1t27_0 {d : Nat} {P : AV → SS → Prop} {σ : SS} {b l1 l2 : Int} (h : ((l1 < 0 → P vu σ) ∧ (0 ≤ l1 → (((546 : Int) ≤ l1 → P vu σ) ∧ (l1 < (546 : Int) → ((0 ≤ l1 ∧ l1 < 546) ∧ (∀ σ1 : SS, σ1 = up σ 57 b l1 l2 → P vu σ1))))))) : G (d + 0) P 1 0 [vr 27 b, vi l1, vi l2] [] σ := blk (S := noS) (c := cd_1) (bz := false) [] 600 (SV_no _) rfl rfl rfl h
/-- RegionStack$Row.get at 0, 3 leaves -/
theorem b_0t28_0 {d : Nat} {P : AV → SS → Prop} {σ : SS} {b l1 : Int} (h : ((l1 < 0 → P (vi (0 : Int)) σ) ∧ (0 ≤ l1 → (((300 : Int) ≤ l1 → P (vi (0 : Int)) σ) ∧ (l1 < (300 : Int) → ((0 ≤ l1 ∧ l1 < 300) ∧ P (vi (σ 58 b l1)) σ)))))) : G (d + 0) P 0 0 [vr 28 b, vi l1] [] σ := blk (S := noS) (c := cd_0) (bz := false) [] 600 (SV_no _) rfl rfl rfl h
/-- RegionStack$Row.set at 0, 3 leaves -/
theorem b_1t28_0 {d : Nat} {P : AV → SS → Prop} {σ : SS} {b l1 l2 : Int} (h : ((l1 < 0 → P vu σ) ∧ (0 ≤ l1 → (((300 : Int) ≤ l1 → P vu σ) ∧ (l1 < (300 : Int) → ((0 ≤ l1 ∧ l1 < 300) ∧ (∀ σ1 : SS, σ1 = up σ 58 b l1 l2 → P vu σ1))))))) : G (d + 0) P 1 0 [vr 28 b, vi l1, vi l2] [] σ := blk (S := noS) (c := cd_1) (bz := false) [] 600 (SV_no _) rfl rfl rfl h
/-- RegionStack$Row.get at 0, 3 leaves -/
theorem b_0t29_0 {d : Nat} {P : AV → SS → Prop} {σ : SS} {b l1 : Int} (h : ((l1 < 0 → P (vi (0 : Int)) σ) ∧ (0 ≤ l1 → (((546 : Int) ≤ l1 → P (vi (0 : Int)) σ) ∧ (l1 < (546 : Int) → ((0 ≤ l1 ∧ l1 < 546) ∧ P (vi (σ 59 b l1)) σ)))))) : G (d + 0) P 0 0 [vr 29 b, vi l1] [] σ := blk (S := noS) (c := cd_0) (bz := false) [] 600 (SV_no _) rfl rfl rfl h
/-- RegionStack$Row.set at 0, 3 leaves -/
theorem b_1t29_0 {d : Nat} {P : AV → SS → Prop} {σ : SS} {b l1 l2 : Int} (h : ((l1 < 0 → P vu σ) ∧ (0 ≤ l1 → (((546 : Int) ≤ l1 → P vu σ) ∧ (l1 < (546 : Int) → ((0 ≤ l1 ∧ l1 < 546) ∧ (∀ σ1 : SS, σ1 = up σ 59 b l1 l2 → P vu σ1))))))) : G (d + 0) P 1 0 [vr 29 b, vi l1, vi l2] [] σ := blk (S := noS) (c := cd_1) (bz := false) [] 600 (SV_no _) rfl rfl rfl h
/-- RegionStack$Row.get at 0, 3 leaves -/
theorem b_0t30_0 {d : Nat} {P : AV → SS → Prop} {σ : SS} {b l1 : Int} (h : ((l1 < 0 → P (vi (0 : Int)) σ) ∧ (0 ≤ l1 → (((546 : Int) ≤ l1 → P (vi (0 : Int)) σ) ∧ (l1 < (546 : Int) → ((0 ≤ l1 ∧ l1 < 546) ∧ P (vi (σ 60 b l1)) σ)))))) : G (d + 0) P 0 0 [vr 30 b, vi l1] [] σ := blk (S := noS) (c := cd_0) (bz := false) [] 600 (SV_no _) rfl rfl rfl h
/-- RegionStack$Row.set at 0, 3 leaves -/
theorem b_1t30_0 {d : Nat} {P : AV → SS → Prop} {σ : SS} {b l1 l2 : Int} (h : ((l1 < 0 → P vu σ) ∧ (0 ≤ l1 → (((546 : Int) ≤ l1 → P vu σ) ∧ (l1 < (546 : Int) → ((0 ≤ l1 ∧ l1 < 546) ∧ (∀ σ1 : SS, σ1 = up σ 60 b l1 l2 → P vu σ1))))))) : G (d + 0) P 1 0 [vr 30 b, vi l1, vi l2] [] σ := blk (S := noS) (c := cd_1) (bz := false) [] 600 (SV_no _) rfl rfl rfl h
/-- RegionStack$Row.get at 0, 3 leaves -/
theorem b_0t31_0 {d : Nat} {P : AV → SS → Prop} {σ : SS} {b l1 : Int} (h : ((l1 < 0 → P (vi (0 : Int)) σ) ∧ (0 ≤ l1 → (((40 : Int) ≤ l1 → P (vi (0 : Int)) σ) ∧ (l1 < (40 : Int) → ((0 ≤ l1 ∧ l1 < 40) ∧ P (vi (σ 61 b l1)) σ)))))) : G (d + 0) P 0 0 [vr 31 b, vi l1] [] σ := blk (S := noS) (c := cd_0) (bz := false) [] 600 (SV_no _) rfl rfl rfl h
/-- RegionStack$Row.set at 0, 3 leaves -/
theorem b_1t31_0 {d : Nat} {P : AV → SS → Prop} {σ : SS} {b l1 l2 : Int} (h : ((l1 < 0 → P vu σ) ∧ (0 ≤ l1 → (((40 : Int) ≤ l1 → P vu σ) ∧ (l1 < (40 : Int) → ((0 ≤ l1 ∧ l1 < 40) ∧ (∀ σ1 : SS, σ1 = up σ 61 b l1 l2 → P vu σ1))))))) : G (d + 0) P 1 0 [vr 31 b, vi l1, vi l2] [] σ := blk (S := noS) (c := cd_1) (bz := false) [] 600 (SV_no _) rfl rfl rfl h
end
section
theorem nd_len : ∀ (l : List Nat) (n : Nat), l.length ≤ n → nd l n = 0
  | [], n, _ => by cases n <;> rfl
  | _ :: l, 0, h => by simp at h
  | _ :: l, n + 1, h => nd_len l n (by simpa using h)
theorem cls_big {t : Nat} (h : 100 ≤ t) : cls t = 0 := nd_len clsL t (Nat.le_trans (by decide +kernel) h)
theorem cls3_all : (List.range 100).all (fun t => !decide (cls t = 3) || (decide (7 ≤ t) && decide (t ≤ 31))) = true := by decide +kernel
theorem cls7_all : (List.range 100).all (fun t => !decide (cls t = 7) || (decide (t = 6) || decide (t = 33))) = true := by decide +kernel
theorem cls3 {t : Nat} (h : cls t = 3) : 7 ≤ t ∧ t ≤ 31 := by
  have ht : t < 100 := by
    rcases Nat.lt_or_ge t 100 with q | q
    · exact q
    · rw [cls_big q] at h; omega
  have := List.all_eq_true.mp cls3_all t (List.mem_range.mpr ht)
  simp only [h, Bool.or_eq_true, Bool.and_eq_true, decide_eq_true_eq, Bool.not_eq_true'] at this
  rcases this with q | q
  · simp at q
  · exact q
theorem cls7 {t : Nat} (h : cls t = 7) : t = 6 ∨ t = 33 := by
  have ht : t < 100 := by
    rcases Nat.lt_or_ge t 100 with q | q
    · exact q
    · rw [cls_big q] at h; omega
  have := List.all_eq_true.mp cls7_all t (List.mem_range.mpr ht)
  simp only [h, Bool.or_eq_true, Bool.and_eq_true, decide_eq_true_eq, Bool.not_eq_true'] at this
  rcases this with q | q
  · simp at q
  · exact q
theorem rg_in {n j : Int} {f : Int → Int} (h : 0 ≤ j ∧ j < n) : rg n f j = f j := if_pos h
theorem rg_out {n j : Int} {f : Int → Int} (h : ¬ (0 ≤ j ∧ j < n)) : rg n f j = 0 := if_neg h
theorem us_in {n i j x : Int} {σ : SS} {t : Nat} (h : 0 ≤ j ∧ j < n) : us n σ t i j x = up σ t i j x := if_pos h
theorem us_out {n i j x : Int} {σ : SS} {t : Nat} (h : ¬ (0 ≤ j ∧ j < n)) : us n σ t i j x = σ := if_neg h
theorem rget_7 {d : Nat} {σ : SS} {i j : Int} : Rn (d + 1) 0 [vr 7 i, vi j] σ (vi (rg 40 (σ 37 i) j)) σ := G_rn rfl (b_0t7_0 ⟨fun h => ⟨by rw [rg_out (by omega)], rfl⟩, fun h => ⟨fun h2 => ⟨by rw [rg_out (by omega)], rfl⟩, fun h2 => ⟨⟨h, h2⟩, by rw [rg_in ⟨h, h2⟩], rfl⟩⟩⟩)
theorem rset_7 {d : Nat} {σ : SS} {i j x : Int} : Rn (d + 1) 1 [vr 7 i, vi j, vi x] σ vu (us 40 σ 37 i j x) := G_rn rfl (b_1t7_0 ⟨fun h => ⟨rfl, by rw [us_out (by omega)]⟩, fun h => ⟨fun h2 => ⟨rfl, by rw [us_out (by omega)]⟩, fun h2 => ⟨⟨h, h2⟩, fun σ1 e => ⟨rfl, by rw [e, us_in ⟨h, h2⟩]⟩⟩⟩⟩)
theorem rget_8 {d : Nat} {σ : SS} {i j : Int} : Rn (d + 1) 0 [vr 8 i, vi j] σ (vi (rg 40 (σ 38 i) j)) σ := G_rn rfl (b_0t8_0 ⟨fun h => ⟨by rw [rg_out (by omega)], rfl⟩, fun h => ⟨fun h2 => ⟨by rw [rg_out (by omega)], rfl⟩, fun h2 => ⟨⟨h, h2⟩, by rw [rg_in ⟨h, h2⟩], rfl⟩⟩⟩)
theorem rset_8 {d : Nat} {σ : SS} {i j x : Int} : Rn (d + 1) 1 [vr 8 i, vi j, vi x] σ vu (us 40 σ 38 i j x) := G_rn rfl (b_1t8_0 ⟨fun h => ⟨rfl, by rw [us_out (by omega)]⟩, fun h => ⟨fun h2 => ⟨rfl, by rw [us_out (by omega)]⟩, fun h2 => ⟨⟨h, h2⟩, fun σ1 e => ⟨rfl, by rw [e, us_in ⟨h, h2⟩]⟩⟩⟩⟩)
theorem rget_9 {d : Nat} {σ : SS} {i j : Int} : Rn (d + 1) 0 [vr 9 i, vi j] σ (vi (rg 40 (σ 39 i) j)) σ := G_rn rfl (b_0t9_0 ⟨fun h => ⟨by rw [rg_out (by omega)], rfl⟩, fun h => ⟨fun h2 => ⟨by rw [rg_out (by omega)], rfl⟩, fun h2 => ⟨⟨h, h2⟩, by rw [rg_in ⟨h, h2⟩], rfl⟩⟩⟩)
theorem rset_9 {d : Nat} {σ : SS} {i j x : Int} : Rn (d + 1) 1 [vr 9 i, vi j, vi x] σ vu (us 40 σ 39 i j x) := G_rn rfl (b_1t9_0 ⟨fun h => ⟨rfl, by rw [us_out (by omega)]⟩, fun h => ⟨fun h2 => ⟨rfl, by rw [us_out (by omega)]⟩, fun h2 => ⟨⟨h, h2⟩, fun σ1 e => ⟨rfl, by rw [e, us_in ⟨h, h2⟩]⟩⟩⟩⟩)
theorem rget_10 {d : Nat} {σ : SS} {i j : Int} : Rn (d + 1) 0 [vr 10 i, vi j] σ (vi (rg 40 (σ 40 i) j)) σ := G_rn rfl (b_0t10_0 ⟨fun h => ⟨by rw [rg_out (by omega)], rfl⟩, fun h => ⟨fun h2 => ⟨by rw [rg_out (by omega)], rfl⟩, fun h2 => ⟨⟨h, h2⟩, by rw [rg_in ⟨h, h2⟩], rfl⟩⟩⟩)
theorem rset_10 {d : Nat} {σ : SS} {i j x : Int} : Rn (d + 1) 1 [vr 10 i, vi j, vi x] σ vu (us 40 σ 40 i j x) := G_rn rfl (b_1t10_0 ⟨fun h => ⟨rfl, by rw [us_out (by omega)]⟩, fun h => ⟨fun h2 => ⟨rfl, by rw [us_out (by omega)]⟩, fun h2 => ⟨⟨h, h2⟩, fun σ1 e => ⟨rfl, by rw [e, us_in ⟨h, h2⟩]⟩⟩⟩⟩)
theorem rget_11 {d : Nat} {σ : SS} {i j : Int} : Rn (d + 1) 0 [vr 11 i, vi j] σ (vi (rg 120 (σ 41 i) j)) σ := G_rn rfl (b_0t11_0 ⟨fun h => ⟨by rw [rg_out (by omega)], rfl⟩, fun h => ⟨fun h2 => ⟨by rw [rg_out (by omega)], rfl⟩, fun h2 => ⟨⟨h, h2⟩, by rw [rg_in ⟨h, h2⟩], rfl⟩⟩⟩)
theorem rset_11 {d : Nat} {σ : SS} {i j x : Int} : Rn (d + 1) 1 [vr 11 i, vi j, vi x] σ vu (us 120 σ 41 i j x) := G_rn rfl (b_1t11_0 ⟨fun h => ⟨rfl, by rw [us_out (by omega)]⟩, fun h => ⟨fun h2 => ⟨rfl, by rw [us_out (by omega)]⟩, fun h2 => ⟨⟨h, h2⟩, fun σ1 e => ⟨rfl, by rw [e, us_in ⟨h, h2⟩]⟩⟩⟩⟩)
theorem rget_12 {d : Nat} {σ : SS} {i j : Int} : Rn (d + 1) 0 [vr 12 i, vi j] σ (vi (rg 40 (σ 42 i) j)) σ := G_rn rfl (b_0t12_0 ⟨fun h => ⟨by rw [rg_out (by omega)], rfl⟩, fun h => ⟨fun h2 => ⟨by rw [rg_out (by omega)], rfl⟩, fun h2 => ⟨⟨h, h2⟩, by rw [rg_in ⟨h, h2⟩], rfl⟩⟩⟩)
theorem rset_12 {d : Nat} {σ : SS} {i j x : Int} : Rn (d + 1) 1 [vr 12 i, vi j, vi x] σ vu (us 40 σ 42 i j x) := G_rn rfl (b_1t12_0 ⟨fun h => ⟨rfl, by rw [us_out (by omega)]⟩, fun h => ⟨fun h2 => ⟨rfl, by rw [us_out (by omega)]⟩, fun h2 => ⟨⟨h, h2⟩, fun σ1 e => ⟨rfl, by rw [e, us_in ⟨h, h2⟩]⟩⟩⟩⟩)
theorem rget_13 {d : Nat} {σ : SS} {i j : Int} : Rn (d + 1) 0 [vr 13 i, vi j] σ (vi (rg 40 (σ 43 i) j)) σ := G_rn rfl (b_0t13_0 ⟨fun h => ⟨by rw [rg_out (by omega)], rfl⟩, fun h => ⟨fun h2 => ⟨by rw [rg_out (by omega)], rfl⟩, fun h2 => ⟨⟨h, h2⟩, by rw [rg_in ⟨h, h2⟩], rfl⟩⟩⟩)
theorem rset_13 {d : Nat} {σ : SS} {i j x : Int} : Rn (d + 1) 1 [vr 13 i, vi j, vi x] σ vu (us 40 σ 43 i j x) := G_rn rfl (b_1t13_0 ⟨fun h => ⟨rfl, by rw [us_out (by omega)]⟩, fun h => ⟨fun h2 => ⟨rfl, by rw [us_out (by omega)]⟩, fun h2 => ⟨⟨h, h2⟩, fun σ1 e => ⟨rfl, by rw [e, us_in ⟨h, h2⟩]⟩⟩⟩⟩)
theorem rget_14 {d : Nat} {σ : SS} {i j : Int} : Rn (d + 1) 0 [vr 14 i, vi j] σ (vi (rg 40 (σ 44 i) j)) σ := G_rn rfl (b_0t14_0 ⟨fun h => ⟨by rw [rg_out (by omega)], rfl⟩, fun h => ⟨fun h2 => ⟨by rw [rg_out (by omega)], rfl⟩, fun h2 => ⟨⟨h, h2⟩, by rw [rg_in ⟨h, h2⟩], rfl⟩⟩⟩)
theorem rset_14 {d : Nat} {σ : SS} {i j x : Int} : Rn (d + 1) 1 [vr 14 i, vi j, vi x] σ vu (us 40 σ 44 i j x) := G_rn rfl (b_1t14_0 ⟨fun h => ⟨rfl, by rw [us_out (by omega)]⟩, fun h => ⟨fun h2 => ⟨rfl, by rw [us_out (by omega)]⟩, fun h2 => ⟨⟨h, h2⟩, fun σ1 e => ⟨rfl, by rw [e, us_in ⟨h, h2⟩]⟩⟩⟩⟩)
theorem rget_15 {d : Nat} {σ : SS} {i j : Int} : Rn (d + 1) 0 [vr 15 i, vi j] σ (vi (rg 40 (σ 45 i) j)) σ := G_rn rfl (b_0t15_0 ⟨fun h => ⟨by rw [rg_out (by omega)], rfl⟩, fun h => ⟨fun h2 => ⟨by rw [rg_out (by omega)], rfl⟩, fun h2 => ⟨⟨h, h2⟩, by rw [rg_in ⟨h, h2⟩], rfl⟩⟩⟩)
theorem rset_15 {d : Nat} {σ : SS} {i j x : Int} : Rn (d + 1) 1 [vr 15 i, vi j, vi x] σ vu (us 40 σ 45 i j x) := G_rn rfl (b_1t15_0 ⟨fun h => ⟨rfl, by rw [us_out (by omega)]⟩, fun h => ⟨fun h2 => ⟨rfl, by rw [us_out (by omega)]⟩, fun h2 => ⟨⟨h, h2⟩, fun σ1 e => ⟨rfl, by rw [e, us_in ⟨h, h2⟩]⟩⟩⟩⟩)
theorem rget_16 {d : Nat} {σ : SS} {i j : Int} : Rn (d + 1) 0 [vr 16 i, vi j] σ (vi (rg 42 (σ 46 i) j)) σ := G_rn rfl (b_0t16_0 ⟨fun h => ⟨by rw [rg_out (by omega)], rfl⟩, fun h => ⟨fun h2 => ⟨by rw [rg_out (by omega)], rfl⟩, fun h2 => ⟨⟨h, h2⟩, by rw [rg_in ⟨h, h2⟩], rfl⟩⟩⟩)
theorem rset_16 {d : Nat} {σ : SS} {i j x : Int} : Rn (d + 1) 1 [vr 16 i, vi j, vi x] σ vu (us 42 σ 46 i j x) := G_rn rfl (b_1t16_0 ⟨fun h => ⟨rfl, by rw [us_out (by omega)]⟩, fun h => ⟨fun h2 => ⟨rfl, by rw [us_out (by omega)]⟩, fun h2 => ⟨⟨h, h2⟩, fun σ1 e => ⟨rfl, by rw [e, us_in ⟨h, h2⟩]⟩⟩⟩⟩)
theorem rget_17 {d : Nat} {σ : SS} {i j : Int} : Rn (d + 1) 0 [vr 17 i, vi j] σ (vi (rg 40 (σ 47 i) j)) σ := G_rn rfl (b_0t17_0 ⟨fun h => ⟨by rw [rg_out (by omega)], rfl⟩, fun h => ⟨fun h2 => ⟨by rw [rg_out (by omega)], rfl⟩, fun h2 => ⟨⟨h, h2⟩, by rw [rg_in ⟨h, h2⟩], rfl⟩⟩⟩)
theorem rset_17 {d : Nat} {σ : SS} {i j x : Int} : Rn (d + 1) 1 [vr 17 i, vi j, vi x] σ vu (us 40 σ 47 i j x) := G_rn rfl (b_1t17_0 ⟨fun h => ⟨rfl, by rw [us_out (by omega)]⟩, fun h => ⟨fun h2 => ⟨rfl, by rw [us_out (by omega)]⟩, fun h2 => ⟨⟨h, h2⟩, fun σ1 e => ⟨rfl, by rw [e, us_in ⟨h, h2⟩]⟩⟩⟩⟩)
theorem rget_18 {d : Nat} {σ : SS} {i j : Int} : Rn (d + 1) 0 [vr 18 i, vi j] σ (vi (rg 40 (σ 48 i) j)) σ := G_rn rfl (b_0t18_0 ⟨fun h => ⟨by rw [rg_out (by omega)], rfl⟩, fun h => ⟨fun h2 => ⟨by rw [rg_out (by omega)], rfl⟩, fun h2 => ⟨⟨h, h2⟩, by rw [rg_in ⟨h, h2⟩], rfl⟩⟩⟩)
theorem rset_18 {d : Nat} {σ : SS} {i j x : Int} : Rn (d + 1) 1 [vr 18 i, vi j, vi x] σ vu (us 40 σ 48 i j x) := G_rn rfl (b_1t18_0 ⟨fun h => ⟨rfl, by rw [us_out (by omega)]⟩, fun h => ⟨fun h2 => ⟨rfl, by rw [us_out (by omega)]⟩, fun h2 => ⟨⟨h, h2⟩, fun σ1 e => ⟨rfl, by rw [e, us_in ⟨h, h2⟩]⟩⟩⟩⟩)
theorem rget_19 {d : Nat} {σ : SS} {i j : Int} : Rn (d + 1) 0 [vr 19 i, vi j] σ (vi (rg 42 (σ 49 i) j)) σ := G_rn rfl (b_0t19_0 ⟨fun h => ⟨by rw [rg_out (by omega)], rfl⟩, fun h => ⟨fun h2 => ⟨by rw [rg_out (by omega)], rfl⟩, fun h2 => ⟨⟨h, h2⟩, by rw [rg_in ⟨h, h2⟩], rfl⟩⟩⟩)
theorem rset_19 {d : Nat} {σ : SS} {i j x : Int} : Rn (d + 1) 1 [vr 19 i, vi j, vi x] σ vu (us 42 σ 49 i j x) := G_rn rfl (b_1t19_0 ⟨fun h => ⟨rfl, by rw [us_out (by omega)]⟩, fun h => ⟨fun h2 => ⟨rfl, by rw [us_out (by omega)]⟩, fun h2 => ⟨⟨h, h2⟩, fun σ1 e => ⟨rfl, by rw [e, us_in ⟨h, h2⟩]⟩⟩⟩⟩)
theorem rget_20 {d : Nat} {σ : SS} {i j : Int} : Rn (d + 1) 0 [vr 20 i, vi j] σ (vi (rg 520 (σ 50 i) j)) σ := G_rn rfl (b_0t20_0 ⟨fun h => ⟨by rw [rg_out (by omega)], rfl⟩, fun h => ⟨fun h2 => ⟨by rw [rg_out (by omega)], rfl⟩, fun h2 => ⟨⟨h, h2⟩, by rw [rg_in ⟨h, h2⟩], rfl⟩⟩⟩)
theorem rset_20 {d : Nat} {σ : SS} {i j x : Int} : Rn (d + 1) 1 [vr 20 i, vi j, vi x] σ vu (us 520 σ 50 i j x) := G_rn rfl (b_1t20_0 ⟨fun h => ⟨rfl, by rw [us_out (by omega)]⟩, fun h => ⟨fun h2 => ⟨rfl, by rw [us_out (by omega)]⟩, fun h2 => ⟨⟨h, h2⟩, fun σ1 e => ⟨rfl, by rw [e, us_in ⟨h, h2⟩]⟩⟩⟩⟩)
theorem rget_21 {d : Nat} {σ : SS} {i j : Int} : Rn (d + 1) 0 [vr 21 i, vi j] σ (vi (rg 520 (σ 51 i) j)) σ := G_rn rfl (b_0t21_0 ⟨fun h => ⟨by rw [rg_out (by omega)], rfl⟩, fun h => ⟨fun h2 => ⟨by rw [rg_out (by omega)], rfl⟩, fun h2 => ⟨⟨h, h2⟩, by rw [rg_in ⟨h, h2⟩], rfl⟩⟩⟩)
theorem rset_21 {d : Nat} {σ : SS} {i j x : Int} : Rn (d + 1) 1 [vr 21 i, vi j, vi x] σ vu (us 520 σ 51 i j x) := G_rn rfl (b_1t21_0 ⟨fun h => ⟨rfl, by rw [us_out (by omega)]⟩, fun h => ⟨fun h2 => ⟨rfl, by rw [us_out (by omega)]⟩, fun h2 => ⟨⟨h, h2⟩, fun σ1 e => ⟨rfl, by rw [e, us_in ⟨h, h2⟩]⟩⟩⟩⟩)
theorem rget_22 {d : Nat} {σ : SS} {i j : Int} : Rn (d + 1) 0 [vr 22 i, vi j] σ (vi (rg 520 (σ 52 i) j)) σ := G_rn rfl (b_0t22_0 ⟨fun h => ⟨by rw [rg_out (by omega)], rfl⟩, fun h => ⟨fun h2 => ⟨by rw [rg_out (by omega)], rfl⟩, fun h2 => ⟨⟨h, h2⟩, by rw [rg_in ⟨h, h2⟩], rfl⟩⟩⟩)
theorem rset_22 {d : Nat} {σ : SS} {i j x : Int} : Rn (d + 1) 1 [vr 22 i, vi j, vi x] σ vu (us 520 σ 52 i j x) := G_rn rfl (b_1t22_0 ⟨fun h => ⟨rfl, by rw [us_out (by omega)]⟩, fun h => ⟨fun h2 => ⟨rfl, by rw [us_out (by omega)]⟩, fun h2 => ⟨⟨h, h2⟩, fun σ1 e => ⟨rfl, by rw [e, us_in ⟨h, h2⟩]⟩⟩⟩⟩)
theorem rget_23 {d : Nat} {σ : SS} {i j : Int} : Rn (d + 1) 0 [vr 23 i, vi j] σ (vi (rg 520 (σ 53 i) j)) σ := G_rn rfl (b_0t23_0 ⟨fun h => ⟨by rw [rg_out (by omega)], rfl⟩, fun h => ⟨fun h2 => ⟨by rw [rg_out (by omega)], rfl⟩, fun h2 => ⟨⟨h, h2⟩, by rw [rg_in ⟨h, h2⟩], rfl⟩⟩⟩)
theorem rset_23 {d : Nat} {σ : SS} {i j x : Int} : Rn (d + 1) 1 [vr 23 i, vi j, vi x] σ vu (us 520 σ 53 i j x) := G_rn rfl (b_1t23_0 ⟨fun h => ⟨rfl, by rw [us_out (by omega)]⟩, fun h => ⟨fun h2 => ⟨rfl, by rw [us_out (by omega)]⟩, fun h2 => ⟨⟨h, h2⟩, fun σ1 e => ⟨rfl, by rw [e, us_in ⟨h, h2⟩]⟩⟩⟩⟩)
theorem rget_24 {d : Nat} {σ : SS} {i j : Int} : Rn (d + 1) 0 [vr 24 i, vi j] σ (vi (rg 13 (σ 54 i) j)) σ := G_rn rfl (b_0t24_0 ⟨fun h => ⟨by rw [rg_out (by omega)], rfl⟩, fun h => ⟨fun h2 => ⟨by rw [rg_out (by omega)], rfl⟩, fun h2 => ⟨⟨h, h2⟩, by rw [rg_in ⟨h, h2⟩], rfl⟩⟩⟩)
theorem rset_24 {d : Nat} {σ : SS} {i j x : Int} : Rn (d + 1) 1 [vr 24 i, vi j, vi x] σ vu (us 13 σ 54 i j x) := G_rn rfl (b_1t24_0 ⟨fun h => ⟨rfl, by rw [us_out (by omega)]⟩, fun h => ⟨fun h2 => ⟨rfl, by rw [us_out (by omega)]⟩, fun h2 => ⟨⟨h, h2⟩, fun σ1 e => ⟨rfl, by rw [e, us_in ⟨h, h2⟩]⟩⟩⟩⟩)
theorem rget_25 {d : Nat} {σ : SS} {i j : Int} : Rn (d + 1) 0 [vr 25 i, vi j] σ (vi (rg 13 (σ 55 i) j)) σ := G_rn rfl (b_0t25_0 ⟨fun h => ⟨by rw [rg_out (by omega)], rfl⟩, fun h => ⟨fun h2 => ⟨by rw [rg_out (by omega)], rfl⟩, fun h2 => ⟨⟨h, h2⟩, by rw [rg_in ⟨h, h2⟩], rfl⟩⟩⟩)
theorem rset_25 {d : Nat} {σ : SS} {i j x : Int} : Rn (d + 1) 1 [vr 25 i, vi j, vi x] σ vu (us 13 σ 55 i j x) := G_rn rfl (b_1t25_0 ⟨fun h => ⟨rfl, by rw [us_out (by omega)]⟩, fun h => ⟨fun h2 => ⟨rfl, by rw [us_out (by omega)]⟩, fun h2 => ⟨⟨h, h2⟩, fun σ1 e => ⟨rfl, by rw [e, us_in ⟨h, h2⟩]⟩⟩⟩⟩)
theorem rget_26 {d : Nat} {σ : SS} {i j : Int} : Rn (d + 1) 0 [vr 26 i, vi j] σ (vi (rg 520 (σ 56 i) j)) σ := G_rn rfl (b_0t26_0 ⟨fun h => ⟨by rw [rg_out (by omega)], rfl⟩, fun h => ⟨fun h2 => ⟨by rw [rg_out (by omega)], rfl⟩, fun h2 => ⟨⟨h, h2⟩, by rw [rg_in ⟨h, h2⟩], rfl⟩⟩⟩)
theorem rset_26 {d : Nat} {σ : SS} {i j x : Int} : Rn (d + 1) 1 [vr 26 i, vi j, vi x] σ vu (us 520 σ 56 i j x) := G_rn rfl (b_1t26_0 ⟨fun h => ⟨rfl, by rw [us_out (by omega)]⟩, fun h => ⟨fun h2 => ⟨rfl, by rw [us_out (by omega)]⟩, fun h2 => ⟨⟨h, h2⟩, fun σ1 e => ⟨rfl, by rw [e, us_in ⟨h, h2⟩]⟩⟩⟩⟩)
theorem rget_27 {d : Nat} {σ : SS} {i j : Int} : Rn (d + 1) 0 [vr 27 i, vi j] σ (vi (rg 546 (σ 57 i) j)) σ := G_rn rfl (b_0t27_0 ⟨fun h => ⟨by rw [rg_out (by omega)], rfl⟩, fun h => ⟨fun h2 => ⟨by rw [rg_out (by omega)], rfl⟩, fun h2 => ⟨⟨h, h2⟩, by rw [rg_in ⟨h, h2⟩], rfl⟩⟩⟩)
theorem rset_27 {d : Nat} {σ : SS} {i j x : Int} : Rn (d + 1) 1 [vr 27 i, vi j, vi x] σ vu (us 546 σ 57 i j x) := G_rn rfl (b_1t27_0 ⟨fun h => ⟨rfl, by rw [us_out (by omega)]⟩, fun h => ⟨fun h2 => ⟨rfl, by rw [us_out (by omega)]⟩, fun h2 => ⟨⟨h, h2⟩, fun σ1 e => ⟨rfl, by rw [e, us_in ⟨h, h2⟩]⟩⟩⟩⟩)
theorem rget_28 {d : Nat} {σ : SS} {i j : Int} : Rn (d + 1) 0 [vr 28 i, vi j] σ (vi (rg 300 (σ 58 i) j)) σ := G_rn rfl (b_0t28_0 ⟨fun h => ⟨by rw [rg_out (by omega)], rfl⟩, fun h => ⟨fun h2 => ⟨by rw [rg_out (by omega)], rfl⟩, fun h2 => ⟨⟨h, h2⟩, by rw [rg_in ⟨h, h2⟩], rfl⟩⟩⟩)
theorem rset_28 {d : Nat} {σ : SS} {i j x : Int} : Rn (d + 1) 1 [vr 28 i, vi j, vi x] σ vu (us 300 σ 58 i j x) := G_rn rfl (b_1t28_0 ⟨fun h => ⟨rfl, by rw [us_out (by omega)]⟩, fun h => ⟨fun h2 => ⟨rfl, by rw [us_out (by omega)]⟩, fun h2 => ⟨⟨h, h2⟩, fun σ1 e => ⟨rfl, by rw [e, us_in ⟨h, h2⟩]⟩⟩⟩⟩)
theorem rget_29 {d : Nat} {σ : SS} {i j : Int} : Rn (d + 1) 0 [vr 29 i, vi j] σ (vi (rg 546 (σ 59 i) j)) σ := G_rn rfl (b_0t29_0 ⟨fun h => ⟨by rw [rg_out (by omega)], rfl⟩, fun h => ⟨fun h2 => ⟨by rw [rg_out (by omega)], rfl⟩, fun h2 => ⟨⟨h, h2⟩, by rw [rg_in ⟨h, h2⟩], rfl⟩⟩⟩)
theorem rset_29 {d : Nat} {σ : SS} {i j x : Int} : Rn (d + 1) 1 [vr 29 i, vi j, vi x] σ vu (us 546 σ 59 i j x) := G_rn rfl (b_1t29_0 ⟨fun h => ⟨rfl, by rw [us_out (by omega)]⟩, fun h => ⟨fun h2 => ⟨rfl, by rw [us_out (by omega)]⟩, fun h2 => ⟨⟨h, h2⟩, fun σ1 e => ⟨rfl, by rw [e, us_in ⟨h, h2⟩]⟩⟩⟩⟩)
theorem rget_30 {d : Nat} {σ : SS} {i j : Int} : Rn (d + 1) 0 [vr 30 i, vi j] σ (vi (rg 546 (σ 60 i) j)) σ := G_rn rfl (b_0t30_0 ⟨fun h => ⟨by rw [rg_out (by omega)], rfl⟩, fun h => ⟨fun h2 => ⟨by rw [rg_out (by omega)], rfl⟩, fun h2 => ⟨⟨h, h2⟩, by rw [rg_in ⟨h, h2⟩], rfl⟩⟩⟩)
theorem rset_30 {d : Nat} {σ : SS} {i j x : Int} : Rn (d + 1) 1 [vr 30 i, vi j, vi x] σ vu (us 546 σ 60 i j x) := G_rn rfl (b_1t30_0 ⟨fun h => ⟨rfl, by rw [us_out (by omega)]⟩, fun h => ⟨fun h2 => ⟨rfl, by rw [us_out (by omega)]⟩, fun h2 => ⟨⟨h, h2⟩, fun σ1 e => ⟨rfl, by rw [e, us_in ⟨h, h2⟩]⟩⟩⟩⟩)
theorem rget_31 {d : Nat} {σ : SS} {i j : Int} : Rn (d + 1) 0 [vr 31 i, vi j] σ (vi (rg 40 (σ 61 i) j)) σ := G_rn rfl (b_0t31_0 ⟨fun h => ⟨by rw [rg_out (by omega)], rfl⟩, fun h => ⟨fun h2 => ⟨by rw [rg_out (by omega)], rfl⟩, fun h2 => ⟨⟨h, h2⟩, by rw [rg_in ⟨h, h2⟩], rfl⟩⟩⟩)
theorem rset_31 {d : Nat} {σ : SS} {i j x : Int} : Rn (d + 1) 1 [vr 31 i, vi j, vi x] σ vu (us 40 σ 61 i j x) := G_rn rfl (b_1t31_0 ⟨fun h => ⟨rfl, by rw [us_out (by omega)]⟩, fun h => ⟨fun h2 => ⟨rfl, by rw [us_out (by omega)]⟩, fun h2 => ⟨⟨h, h2⟩, fun σ1 e => ⟨rfl, by rw [e, us_in ⟨h, h2⟩]⟩⟩⟩⟩)
theorem rget_all {d : Nat} {σ : SS} {i j : Int} : ∀ t : Nat, 7 ≤ t → t ≤ 31 → Rn (d + 1) 0 [vr t i, vi j] σ (vi (rg (ndI alL (rf t 0)) (σ (rf t 0) i) j)) σ
  | 7, _, _ => rget_7
  | 8, _, _ => rget_8
  | 9, _, _ => rget_9
  | 10, _, _ => rget_10
  | 11, _, _ => rget_11
  | 12, _, _ => rget_12
  | 13, _, _ => rget_13
  | 14, _, _ => rget_14
  | 15, _, _ => rget_15
  | 16, _, _ => rget_16
  | 17, _, _ => rget_17
  | 18, _, _ => rget_18
  | 19, _, _ => rget_19
  | 20, _, _ => rget_20
  | 21, _, _ => rget_21
  | 22, _, _ => rget_22
  | 23, _, _ => rget_23
  | 24, _, _ => rget_24
  | 25, _, _ => rget_25
  | 26, _, _ => rget_26
  | 27, _, _ => rget_27
  | 28, _, _ => rget_28
  | 29, _, _ => rget_29
  | 30, _, _ => rget_30
  | 31, _, _ => rget_31
  | 0, h, _ => by omega
  | 1, h, _ => by omega
  | 2, h, _ => by omega
  | 3, h, _ => by omega
  | 4, h, _ => by omega
  | 5, h, _ => by omega
  | 6, h, _ => by omega
  | t + 32, _, h => by omega
theorem rset_all {d : Nat} {σ : SS} {i j x : Int} : ∀ t : Nat, 7 ≤ t → t ≤ 31 → Rn (d + 1) 1 [vr t i, vi j, vi x] σ vu (us (ndI alL (rf t 0)) σ (rf t 0) i j x)
  | 7, _, _ => rset_7
  | 8, _, _ => rset_8
  | 9, _, _ => rset_9
  | 10, _, _ => rset_10
  | 11, _, _ => rset_11
  | 12, _, _ => rset_12
  | 13, _, _ => rset_13
  | 14, _, _ => rset_14
  | 15, _, _ => rset_15
  | 16, _, _ => rset_16
  | 17, _, _ => rset_17
  | 18, _, _ => rset_18
  | 19, _, _ => rset_19
  | 20, _, _ => rset_20
  | 21, _, _ => rset_21
  | 22, _, _ => rset_22
  | 23, _, _ => rset_23
  | 24, _, _ => rset_24
  | 25, _, _ => rset_25
  | 26, _, _ => rset_26
  | 27, _, _ => rset_27
  | 28, _, _ => rset_28
  | 29, _, _ => rset_29
  | 30, _, _ => rset_30
  | 31, _, _ => rset_31
  | 0, h, _ => by omega
  | 1, h, _ => by omega
  | 2, h, _ => by omega
  | 3, h, _ => by omega
  | 4, h, _ => by omega
  | 5, h, _ => by omega
  | 6, h, _ => by omega
  | t + 32, _, h => by omega
theorem s_3 {d : Nat} {σ : SS} {n lo hi : Int} : Rn (d + 1) 3 [vi n, vi lo, vi hi] σ (vi (if lo ≤ n ∧ n ≤ hi then 1 else 0)) σ := G_rn rfl (b_3_0 ⟨fun h => ⟨Or.inl rfl, by rw [if_neg (by omega)], rfl⟩, fun h => ⟨fun h2 => ⟨Or.inl rfl, by rw [if_neg (by omega)], rfl⟩, fun h2 => ⟨Or.inr rfl, by rw [if_pos ⟨h, h2⟩], rfl⟩⟩⟩)
theorem s_9 {d : Nat} {σ : SS} {n lo hi : Int} : Rn (d + 1) 9 [vi n, vi lo, vi hi] σ (vi (if lo ≤ n ∧ n ≤ hi then 1 else 0)) σ := G_rn rfl (b_9_0 ⟨fun h => ⟨Or.inl rfl, by rw [if_neg (by omega)], rfl⟩, fun h => ⟨fun h2 => ⟨Or.inl rfl, by rw [if_neg (by omega)], rfl⟩, fun h2 => ⟨Or.inr rfl, by rw [if_pos ⟨h, h2⟩], rfl⟩⟩⟩)
theorem s_6 {d : Nat} {σ : SS} {s : Int} : Rn (d + 1) 6 [vi s] σ (vi (if s = 108 ∨ s = 64 then 1 else 0)) σ := G_rn rfl (b_6_0 ⟨fun h => ⟨Or.inr rfl, by rw [if_pos (Or.inl h)], rfl⟩, fun h => ⟨fun h2 => ⟨Or.inl rfl, by rw [if_neg (by omega)], rfl⟩, fun h2 => ⟨Or.inr rfl, by rw [if_pos (Or.inr h2)], rfl⟩⟩⟩)
theorem s_12 {d : Nat} {σ : SS} {k : Int} : Rn (d + 1) 12 [vi k] σ (vi (inn k)) σ := G_rn rfl (b_12_0 (by
  unfold inn
  refine ⟨fun h => ⟨fun h2 => ?_, fun h2 => ⟨fun h3 => ⟨fun h4 => ?_, fun h4 => ?_⟩, fun h3 => ?_⟩⟩, fun h => ?_⟩
  · rw [if_neg (by omega), if_pos (Or.inl h2)]; exact ⟨rfl, rfl⟩
  · rw [if_neg (by omega), if_neg (by omega), if_neg h4]; exact ⟨rfl, rfl⟩
  · rw [if_neg (by omega), if_neg (by omega), if_pos h4]; exact ⟨rfl, rfl⟩
  · rw [if_neg (by omega), if_pos (Or.inr h3)]; exact ⟨rfl, rfl⟩
  · rw [if_pos h]; exact ⟨rfl, rfl⟩))
theorem s_13 {d : Nat} {σ : SS} {b a : Int} (h : ir (42 * b) ∧ ir (42 * b + a) ∧ ir (40 * b) ∧ ir (42 * b + a - 40 * b)) : Rn (d + 1) 13 [vr 62 0, vi b, vi a] σ (vi (42 * b + a - 40 * b)) σ := G_rn rfl (b_13_0 ⟨h.1, h.2.1, h.2.2.1, h.2.2.2, rfl, rfl⟩)
theorem s_14 {d : Nat} {σ : SS} {a : Int} (h : ir (a + 1) ∧ (0 ≤ a + 1 ∧ a + 1 < 120) ∧ ir (σ 66 0 (a + 1) - 48)) : Rn (d + 1) 14 [vr 62 0, vi a] σ (vi (σ 66 0 (a + 1) - 48)) σ := G_rn rfl (b_14_0 ⟨h.1, h.2.1, h.2.2, rfl, rfl⟩)
theorem s_16 {d : Nat} {σ : SS} {b p : Int} : Rn (d + 1) 16 [vr 6 b, vi p] σ (vi (if 0 ≤ p ∧ p < σ 6 b 1 then 1 else 0)) σ := G_rn rfl (b_16_0 ⟨fun h => ⟨Or.inl rfl, by rw [if_neg (by omega)], rfl⟩, fun h => ⟨fun h2 => ⟨Or.inl rfl, by rw [if_neg (by omega)], rfl⟩, fun h2 => ⟨Or.inr rfl, by rw [if_pos ⟨h, h2⟩], rfl⟩⟩⟩)
theorem s_16k {d : Nat} {σ : SS} {b p : Int} : Rn (d + 1) 16 [vr 33 b, vi p] σ (vi (if 0 ≤ p ∧ p < σ 33 b 1 then 1 else 0)) σ := G_rn rfl (b_16k_0 ⟨fun h => ⟨Or.inl rfl, by rw [if_neg (by omega)], rfl⟩, fun h => ⟨fun h2 => ⟨Or.inl rfl, by rw [if_neg (by omega)], rfl⟩, fun h2 => ⟨Or.inr rfl, by rw [if_pos ⟨h, h2⟩], rfl⟩⟩⟩)
theorem s_17 {d : Nat} {σ : SS} {b : Int} (h : ir (10 * σ 6 b 2) ∧ ir (10 * σ 6 b 2 + σ 6 b 3)) : Rn (d + 1) 17 [vr 6 b] σ (vi (10 * σ 6 b 2 + σ 6 b 3)) σ := G_rn rfl (b_17_0 ⟨h.1, h.2, rfl, rfl⟩)
theorem s_17k {d : Nat} {σ : SS} {b : Int} (h : ir (10 * σ 33 b 2) ∧ ir (10 * σ 33 b 2 + σ 33 b 3)) : Rn (d + 1) 17 [vr 33 b] σ (vi (10 * σ 33 b 2 + σ 33 b 3)) σ := G_rn rfl (b_17k_0 ⟨h.1, h.2, rfl, rfl⟩)
theorem bif_s {α : Type} {q : Bool} {A B : α} (h : (bif q then some A else none) = some B) : q = true ∧ A = B := by cases q <;> simp_all
theorem shp1 {y : Nat} {x : Int} (h : rt y = some .int ∨ rt y = some .boolean) : ∀ k, chkK.chkR (rt y) k = true → shp k (vi x) := by
  intro k hk
  rcases k with _ | _ | k
  · rcases h with h | h <;> rw [h] at hk <;> cases hk
  · exact ⟨x, rfl⟩
  · rcases h with h | h <;> rw [h] at hk <;> cases hk
theorem shp0 {y : Nat} (h : rt y = none) : ∀ k, chkK.chkR (rt y) k = true → shp k vu := by
  intro k hk
  rcases k with _ | k
  · rfl
  · rw [h] at hk; cases hk
theorem S1_ok (d : Nat) : SV (d + 1) S1 := by
  intro y as σ o v σ' h hq
  unfold S1 at h
  split at h
  · obtain ⟨h1, h2⟩ := bif_s h
    cases h2
    obtain ⟨g1, g2⟩ := cls3 (beq_t h1)
    exact ⟨rget_all _ g1 g2, shp1 (Or.inl rfl)⟩
  · obtain ⟨h1, h2⟩ := bif_s h
    cases h2
    obtain ⟨g1, g2⟩ := cls3 (beq_t h1)
    exact ⟨rset_all _ g1 g2, shp0 rfl⟩
  · cases h; exact ⟨s_3, shp1 (Or.inr rfl)⟩
  · cases h; exact ⟨s_9, shp1 (Or.inr rfl)⟩
  · cases h; exact ⟨s_6, shp1 (Or.inr rfl)⟩
  · cases h; exact ⟨s_12, shp1 (Or.inl rfl)⟩
  · cases h; exact ⟨s_13 (hq _ rfl), shp1 (Or.inl rfl)⟩
  · cases h; exact ⟨s_14 (hq _ rfl), shp1 (Or.inl rfl)⟩
  · obtain ⟨h1, h2⟩ := bif_s h
    cases h2
    rcases cls7 (beq_t h1) with rfl | rfl
    · exact ⟨s_16, shp1 (Or.inr rfl)⟩
    · exact ⟨s_16k, shp1 (Or.inr rfl)⟩
  · obtain ⟨h1, h2⟩ := bif_s h
    cases h2
    rcases cls7 (beq_t h1) with rfl | rfl
    · exact ⟨s_17 (hq _ rfl), shp1 (Or.inl rfl)⟩
    · exact ⟨s_17k (hq _ rfl), shp1 (Or.inl rfl)⟩
  · cases h
end
section
/-- RegionStack.isLetter at 0, 1 leaves -/
theorem b_4_0 {d : Nat} {P : AV → SS → Prop} {σ : SS} {l0 : Int} (h : (((if (97 : Int) ≤ l0 ∧ l0 ≤ 100 then (1 : Int) else 0) = 0 ∨ (if (97 : Int) ≤ l0 ∧ l0 ≤ 100 then (1 : Int) else 0) = 1) ∧ P (vi (if (97 : Int) ≤ l0 ∧ l0 ≤ 100 then (1 : Int) else 0)) σ)) : G (d + 1) P 4 0 [vi l0] [] σ := blk (S := S1) (c := cd_4) (bz := true) [] 600 (S1_ok (d + 0)) rfl rfl rfl h
/-- RegionStack.isFigure at 0, 1 leaves -/
theorem b_5_0 {d : Nat} {P : AV → SS → Prop} {σ : SS} {l0 : Int} (h : (((if (48 : Int) ≤ l0 ∧ l0 ≤ 57 then (1 : Int) else 0) = 0 ∨ (if (48 : Int) ≤ l0 ∧ l0 ≤ 57 then (1 : Int) else 0) = 1) ∧ P (vi (if (48 : Int) ≤ l0 ∧ l0 ≤ 57 then (1 : Int) else 0)) σ)) : G (d + 1) P 5 0 [vi l0] [] σ := blk (S := S1) (c := cd_5) (bz := true) [] 600 (S1_ok (d + 0)) rfl rfl rfl h
/-- RegionStackModel.isBody at 0, 1 leaves -/
theorem b_10_0 {d : Nat} {P : AV → SS → Prop} {σ : SS} {l0 : Int} (h : (((if (0 : Int) ≤ l0 ∧ l0 ≤ 2 then (1 : Int) else 0) = 0 ∨ (if (0 : Int) ≤ l0 ∧ l0 ≤ 2 then (1 : Int) else 0) = 1) ∧ P (vi (if (0 : Int) ≤ l0 ∧ l0 ≤ 2 then (1 : Int) else 0)) σ)) : G (d + 1) P 10 0 [vi l0] [] σ := blk (S := S1) (c := cd_10) (bz := true) [] 600 (S1_ok (d + 0)) rfl rfl rfl h
/-- RegionStackModel.kindOfSign at 0, 11 leaves -/
theorem b_11_0 {d : Nat} {P : AV → SS → Prop} {σ : SS} {l0 : Int} (h : (((if (48 : Int) ≤ l0 ∧ l0 ≤ 57 then (1 : Int) else 0) = 0 → (((if (97 : Int) ≤ l0 ∧ l0 ≤ 100 then (1 : Int) else 0) = 0 → ((l0 ≠ 42 → (l0 ≠ 43 → (l0 ≠ 45 → (l0 ≠ 63 → (l0 ≠ 64 → (l0 ≠ 108 → (l0 ≠ 110 → (l0 ≠ 120 → P (vi ((-6) : Int)) σ)))))))) ∧ ((l0 = 42 → P (vi (4 : Int)) σ) ∧ ((l0 = 43 → P (vi (6 : Int)) σ) ∧ ((l0 = 45 → P (vi (5 : Int)) σ) ∧ ((l0 = 63 → P (vi (7 : Int)) σ) ∧ ((l0 = 64 → P (vi (9 : Int)) σ) ∧ ((l0 = 108 → P (vi (8 : Int)) σ) ∧ ((l0 = 110 → P (vi (3 : Int)) σ) ∧ ((l0 = 120 → P (vi (1 : Int)) σ) ∧ True)))))))))) ∧ ((if (97 : Int) ≤ l0 ∧ l0 ≤ 100 then (1 : Int) else 0) ≠ 0 → P (vi (2 : Int)) σ))) ∧ ((if (48 : Int) ≤ l0 ∧ l0 ≤ 57 then (1 : Int) else 0) ≠ 0 → P (vi (0 : Int)) σ))) : G (d + 1) P 11 0 [vi l0] [] σ := blk (S := S1) (c := cd_11) (bz := false) [] 600 (S1_ok (d + 0)) rfl rfl rfl h
/-- RegionStack$Term.isPart at 0, 2 leaves -/
theorem b_18_0 {d : Nat} {P : AV → SS → Prop} {σ : SS} {b l1 : Int} (h : (((rg 40 (σ 39 b) l1) = 0 → (((0 : Int) = 0 ∨ (0 : Int) = 1) ∧ P (vi (0 : Int)) σ)) ∧ ((rg 40 (σ 39 b) l1) ≠ 0 → (((1 : Int) = 0 ∨ (1 : Int) = 1) ∧ P (vi (1 : Int)) σ)))) : G (d + 1) P 18 0 [vr 5 b, vi l1] [] σ := blk (S := S1) (c := cd_18) (bz := true) [] 600 (S1_ok (d + 0)) rfl rfl rfl h
/-- RegionStack$Term.innerAt at 0, 1 leaves -/
theorem b_19_0 {d : Nat} {P : AV → SS → Prop} {σ : SS} {b l1 l2 : Int} (h : (ir ((3 : Int) * l1) ∧ (ir (((3 : Int) * l1) + l2) ∧ P (vi (rg 120 (σ 41 b) (((3 : Int) * l1) + l2))) σ))) : G (d + 1) P 19 0 [vr 5 b, vi l1, vi l2] [] σ := blk (S := S1) (c := cd_19) (bz := false) [] 600 (S1_ok (d + 0)) rfl rfl rfl h
/-- RegionStack$Term.binderAt at 0, 1 leaves -/
theorem b_20_0 {d : Nat} {P : AV → SS → Prop} {σ : SS} {b l1 : Int} (h : P (vi (rg 40 (σ 44 b) l1)) σ) : G (d + 1) P 20 0 [vr 5 b, vi l1] [] σ := blk (S := S1) (c := cd_20) (bz := false) [] 600 (S1_ok (d + 0)) rfl rfl rfl h
/-- RegionStack$Term.innerKind at 0, 1 leaves -/
theorem b_21_0 {d : Nat} {P : AV → SS → Prop} {σ : SS} {b l1 l2 : Int} (h : (ir ((3 : Int) * l1) ∧ (ir (((3 : Int) * l1) + l2) ∧ P (vi (rg 40 (σ 38 b) (rg 120 (σ 41 b) (((3 : Int) * l1) + l2)))) σ))) : G (d + 1) P 21 0 [vr 5 b, vi l1, vi l2] [] σ := blk (S := S1) (c := cd_21) (bz := false) [] 600 (S1_ok (d + 0)) rfl rfl rfl h
/-- RegionStack$Store.lookInto at 0, 1 leaves -/
theorem b_22_0 {d : Nat} {P : AV → SS → Prop} {σ : SS} {l1 : Int} (h : P (vi (rg 300 (σ 58 0) l1)) σ) : G (d + 1) P 22 0 [vr 32 0, vi l1] [] σ := blk (S := S1) (c := cd_22) (bz := false) [] 600 (S1_ok (d + 0)) rfl rfl rfl h
def S2 : ST := fun y as σ => match S1 y as σ with
  | some r => some r
  | none => match y, as with
    | 4, [.inl s] => some (none, .inl (if 97 ≤ s ∧ s ≤ 100 then 1 else 0), σ)
    | 5, [.inl s] => some (none, .inl (if 48 ≤ s ∧ s ≤ 57 then 1 else 0), σ)
    | 10, [.inl s] => some (none, .inl (if 0 ≤ s ∧ s ≤ 2 then 1 else 0), σ)
    | 11, [.inl s] => some (none, .inl (kos s), σ)
    | 18, [.inr (.inl (some (5, b))), .inl p] => some (none, .inl (if rg 40 (σ 39 b) p ≠ 0 then 1 else 0), σ)
    | 19, [.inr (.inl (some (5, b))), .inl p, .inl w] => some (some (ir (3 * p) ∧ ir (3 * p + w)), .inl (rg 120 (σ 41 b) (3 * p + w)), σ)
    | 20, [.inr (.inl (some (5, b))), .inl p] => some (none, .inl (rg 40 (σ 44 b) p), σ)
    | 21, [.inr (.inl (some (5, b))), .inl p, .inl w] => some (some (ir (3 * p) ∧ ir (3 * p + w)), .inl (rg 40 (σ 38 b) (rg 120 (σ 41 b) (3 * p + w))), σ)
    | 22, [.inr (.inl (some (32, 0))), .inl p] => some (none, .inl (rg 300 (σ 58 0) p), σ)
    | _, _ => none
theorem it01 {p : Prop} [Decidable p] : (if p then (1 : Int) else 0) = 0 ∨ (if p then (1 : Int) else 0) = 1 := by split <;> simp
theorem s_4 {d : Nat} {σ : SS} {s : Int} : Rn (d + 2) 4 [vi s] σ (vi (if 97 ≤ s ∧ s ≤ 100 then 1 else 0)) σ := G_rn rfl (b_4_0 ⟨it01, rfl, rfl⟩)
theorem s_5 {d : Nat} {σ : SS} {s : Int} : Rn (d + 2) 5 [vi s] σ (vi (if 48 ≤ s ∧ s ≤ 57 then 1 else 0)) σ := G_rn rfl (b_5_0 ⟨it01, rfl, rfl⟩)
theorem s_10 {d : Nat} {σ : SS} {s : Int} : Rn (d + 2) 10 [vi s] σ (vi (if 0 ≤ s ∧ s ≤ 2 then 1 else 0)) σ := G_rn rfl (b_10_0 ⟨it01, rfl, rfl⟩)
theorem ite0 {p : Prop} [Decidable p] : ((if p then (1 : Int) else 0) = 0) ↔ ¬ p := by split <;> simp_all
theorem ite1 {p : Prop} [Decidable p] : ((if p then (1 : Int) else 0) ≠ 0) ↔ p := by split <;> simp_all
theorem s_11 {d : Nat} {σ : SS} {s : Int} : Rn (d + 2) 11 [vi s] σ (vi (kos s)) σ := G_rn rfl (b_11_0 (by
  unfold kos
  simp only [ite0, ite1]
  repeat' first | constructor | intro _
  all_goals first | rfl | (repeat (first | rw [if_pos (by omega)] | rw [if_neg (by omega)]))))
theorem s_18 {d : Nat} {σ : SS} {b p : Int} : Rn (d + 2) 18 [vr 5 b, vi p] σ (vi (if rg 40 (σ 39 b) p ≠ 0 then 1 else 0)) σ := G_rn rfl (b_18_0 ⟨fun h => ⟨Or.inl rfl, by rw [if_neg (by omega)], rfl⟩, fun h => ⟨Or.inr rfl, by rw [if_pos h], rfl⟩⟩)
theorem s_19 {d : Nat} {σ : SS} {b p w : Int} (h : ir (3 * p) ∧ ir (3 * p + w)) : Rn (d + 2) 19 [vr 5 b, vi p, vi w] σ (vi (rg 120 (σ 41 b) (3 * p + w))) σ := G_rn rfl (b_19_0 ⟨h.1, h.2, rfl, rfl⟩)
theorem s_20 {d : Nat} {σ : SS} {b p : Int} : Rn (d + 2) 20 [vr 5 b, vi p] σ (vi (rg 40 (σ 44 b) p)) σ := G_rn rfl (b_20_0 ⟨rfl, rfl⟩)
theorem s_21 {d : Nat} {σ : SS} {b p w : Int} (h : ir (3 * p) ∧ ir (3 * p + w)) : Rn (d + 2) 21 [vr 5 b, vi p, vi w] σ (vi (rg 40 (σ 38 b) (rg 120 (σ 41 b) (3 * p + w)))) σ := G_rn rfl (b_21_0 ⟨h.1, h.2, rfl, rfl⟩)
theorem s_22 {d : Nat} {σ : SS} {p : Int} : Rn (d + 2) 22 [vr 32 0, vi p] σ (vi (rg 300 (σ 58 0) p)) σ := G_rn rfl (b_22_0 ⟨rfl, rfl⟩)
theorem S2_ok (d : Nat) : SV (d + 2) S2 := by
  intro y as σ o v σ' h hq
  unfold S2 at h
  split at h
  · rename_i r hr
    cases h
    exact S1_ok (d + 1) y as σ o v σ' hr hq
  · split at h
    · cases h; exact ⟨s_4, shp1 (Or.inr rfl)⟩
    · cases h; exact ⟨s_5, shp1 (Or.inr rfl)⟩
    · cases h; exact ⟨s_10, shp1 (Or.inr rfl)⟩
    · cases h; exact ⟨s_11, shp1 (Or.inl rfl)⟩
    · cases h; exact ⟨s_18, shp1 (Or.inr rfl)⟩
    · cases h; exact ⟨s_19 (hq _ rfl), shp1 (Or.inl rfl)⟩
    · cases h; exact ⟨s_20, shp1 (Or.inl rfl)⟩
    · cases h; exact ⟨s_21 (hq _ rfl), shp1 (Or.inl rfl)⟩
    · cases h; exact ⟨s_22, shp1 (Or.inl rfl)⟩
    · cases h
/-- RegionStack.isNameFor at 0, 2 leaves -/
theorem b_7_0 {d : Nat} {P : AV → SS → Prop} {σ : SS} {l0 l1 : Int} (h : ((l0 ≠ (108 : Int) → (((if (48 : Int) ≤ l1 ∧ l1 ≤ 50 then (1 : Int) else 0) = 0 ∨ (if (48 : Int) ≤ l1 ∧ l1 ≤ 50 then (1 : Int) else 0) = 1) ∧ P (vi (if (48 : Int) ≤ l1 ∧ l1 ≤ 50 then (1 : Int) else 0)) σ)) ∧ (l0 = (108 : Int) → (((if 97 ≤ l1 ∧ l1 ≤ 100 then (1 : Int) else 0) = 0 ∨ (if 97 ≤ l1 ∧ l1 ≤ 100 then (1 : Int) else 0) = 1) ∧ P (vi (if 97 ≤ l1 ∧ l1 ≤ 100 then (1 : Int) else 0)) σ)))) : G (d + 2) P 7 0 [vi l0, vi l1] [] σ := blk (S := S2) (c := cd_7) (bz := true) [] 600 (S2_ok (d + 0)) rfl rfl rfl h
/-- RegionStack.termsIn at 0, 11 leaves -/
theorem b_8_0 {d : Nat} {P : AV → SS → Prop} {σ : SS} {l0 : Int} (h : ((l0 ≠ 42 → (l0 ≠ 43 → (l0 ≠ 45 → (l0 ≠ 63 → (l0 ≠ 64 → (l0 ≠ 108 → (l0 ≠ 110 → ((l0 = (120 : Int) → P (vi (0 : Int)) σ) ∧ (l0 ≠ (120 : Int) → (((if 48 ≤ l0 ∧ l0 ≤ 57 then (1 : Int) else 0) ≠ 0 → P (vi (0 : Int)) σ) ∧ ((if 48 ≤ l0 ∧ l0 ≤ 57 then (1 : Int) else 0) = 0 → (((if 97 ≤ l0 ∧ l0 ≤ 100 then (1 : Int) else 0) = 0 → P (vi ((-1) : Int)) σ) ∧ ((if 97 ≤ l0 ∧ l0 ≤ 100 then (1 : Int) else 0) ≠ 0 → P (vi (0 : Int)) σ))))))))))))) ∧ ((l0 = 42 → P (vi (1 : Int)) σ) ∧ ((l0 = 43 → P (vi (2 : Int)) σ) ∧ ((l0 = 45 → P (vi (1 : Int)) σ) ∧ ((l0 = 63 → P (vi (3 : Int)) σ) ∧ ((l0 = 64 → P (vi (1 : Int)) σ) ∧ ((l0 = 108 → P (vi (2 : Int)) σ) ∧ ((l0 = 110 → P (vi (1 : Int)) σ) ∧ True))))))))) : G (d + 2) P 8 0 [vi l0] [] σ := blk (S := S2) (c := cd_8) (bz := false) [] 600 (S2_ok (d + 0)) rfl rfl rfl h
def S3 : ST := fun y as σ => match S2 y as σ with
  | some r => some r
  | none => match y, as with
    | 7, [.inl s, .inl n] => some (none, .inl (nmf s n), σ)
    | 8, [.inl s] => some (none, .inl (tin s), σ)
    | _, _ => none
theorem s_7 {d : Nat} {σ : SS} {s n : Int} : Rn (d + 3) 7 [vi s, vi n] σ (vi (nmf s n)) σ := G_rn rfl (b_7_0 (by
  unfold nmf
  refine ⟨fun h => ⟨it01, ?_, rfl⟩, fun h => ⟨it01, ?_, rfl⟩⟩
  · simp only [if_neg h]
  · simp only [if_pos h]))
theorem s_8 {d : Nat} {σ : SS} {s : Int} : Rn (d + 3) 8 [vi s] σ (vi (tin s)) σ := G_rn rfl (b_8_0 (by
  unfold tin
  simp only [ite0, ite1]
  repeat' first | constructor | intro _
  all_goals first | rfl | (repeat (first | rw [if_pos (by omega)] | rw [if_neg (by omega)]))))
theorem S3_ok (d : Nat) : SV (d + 3) S3 := by
  intro y as σ o v σ' h hq
  unfold S3 at h
  split at h
  · rename_i r hr
    cases h
    exact S2_ok (d + 1) y as σ o v σ' hr hq
  · split at h
    · cases h; exact ⟨s_7, shp1 (Or.inr rfl)⟩
    · cases h; exact ⟨s_8, shp1 (Or.inl rfl)⟩
    · cases h
end
section
-- RegionStack$Row.fill at 0, 1 leaves
set_option maxRecDepth 100000 in
set_option maxHeartbeats 4000000 in
theorem b_2_0 {d : Nat} {P : AV → SS → Prop} {σ : SS} {b l1 : Int} (h : G (d + 0) P 2 2 [vr 9 b, vi l1, vi 0] [] σ) : G (d + 0) P 2 0 [vr 9 b, vi l1, vu] [] σ := blk (S := noS) (c := cd_2) (bz := false) [(2, [true, true, true])] 600 (SV_no _) rfl rfl rfl h
-- RegionStack$Row.fill at 2, 2 leaves
set_option maxRecDepth 100000 in
set_option maxHeartbeats 4000000 in
theorem b_2_2 {d : Nat} {P : AV → SS → Prop} {σ : SS} {b l1 l2 : Int} (h : (((40 : Int) ≤ l2 → P vu σ) ∧ (l2 < (40 : Int) → ((0 ≤ l2 ∧ l2 < 40) ∧ (∀ σ1 : SS, σ1 = up σ 39 b l2 l1 → (ir (l2 + 1) ∧ G (d + 0) P 2 2 [vr 9 b, vi l1, vi (l2 + 1)] [] σ1)))))) : G (d + 0) P 2 2 [vr 9 b, vi l1, vi l2] [] σ := blk (S := noS) (c := cd_2) (bz := false) [(2, [true, true, true])] 600 (SV_no _) rfl rfl rfl h
-- RegionStack$Program.bodyAt at 0, 3 leaves
set_option maxRecDepth 100000 in
set_option maxHeartbeats 4000000 in
theorem b_15_0 {d : Nat} {P : AV → SS → Prop} {σ : SS} {l1 : Int} (h : ((l1 < 0 → P (vz) σ) ∧ (0 ≤ l1 → (((3 : Int) ≤ l1 → P (vz) σ) ∧ (l1 < (3 : Int) → ((0 ≤ l1 ∧ l1 < 3) ∧ P (vr 4 l1) σ)))))) : G (d + 0) P 15 0 [vr 2 0, vi l1] [] σ := blk (S := noS) (c := cd_15) (bz := false) [] 600 (SV_no _) rfl rfl rfl h
-- RegionStack.body at 0, 1 leaves
set_option maxRecDepth 100000 in
set_option maxHeartbeats 4000000 in
theorem b_26_0 {d : Nat} {P : AV → SS → Prop} {σ : SS} {l1 l2 l3 : Int} (h : (∃ (r2 : Option (Nat × Int)) (σ1 : SS), Rn (d + 4) 15 [vr 2 0, vi l1] σ (.inr (.inl r2)) σ1 ∧ G (d + 4) P 26 4 [vr 0 0, vu, vi l2, vi l3, vu, vu] [.inr (.inl r2)] σ1)) : G (d + 4) P 26 0 [vr 0 0, vi l1, vi l2, vi l3, vu, vu] [] σ := blk (S := S1) (c := cd_26) (bz := false) [(4, [true, false, true, true, false, false])] 600 (S1_ok (d + 3)) rfl rfl rfl h
-- RegionStack.body at 4, 1 leaves
set_option maxRecDepth 100000 in
set_option maxHeartbeats 4000000 in
theorem b_26_4n {d : Nat} {P : AV → SS → Prop} {σ : SS} {l2 l3 : Int} (h : P (vi ((-1) : Int)) σ) : G (d + 4) P 26 4 [vr 0 0, vu, vi l2, vi l3, vu, vu] [vz] σ := blk (S := S1) (c := cd_26) (bz := false) [(4, [true, false, true, true, false, false])] 600 (S1_ok (d + 3)) rfl rfl rfl h
-- RegionStack.body at 4, 3 leaves
set_option maxRecDepth 100000 in
set_option maxHeartbeats 4000000 in
theorem b_26_4r {d : Nat} {P : AV → SS → Prop} {σ : SS} {l2 l3 q : Int} (h : (((if (0 : Int) ≤ l2 ∧ l2 ≤ 1 then (1 : Int) else 0) = 0 → P (vi ((-2) : Int)) σ) ∧ ((if (0 : Int) ≤ l2 ∧ l2 ≤ 1 then (1 : Int) else 0) ≠ 0 → (((if (0 : Int) ≤ l3 ∧ l3 ≤ 1 then (1 : Int) else 0) ≠ 0 → ((ir (10 * σ 6 q 2) ∧ ir (10 * σ 6 q 2 + σ 6 q 3)) ∧ (∀ σ1 : SS, σ1 = up σ 6 q 2 l2 → (∀ σ2 : SS, σ2 = up σ1 6 q 3 l3 → (∃ σ3 : SS, Rn (d + 4) 103 [vr 2 0] σ2 vu σ3 ∧ P (vi (10 * σ 6 q 2 + σ 6 q 3)) σ3))))) ∧ ((if (0 : Int) ≤ l3 ∧ l3 ≤ 1 then (1 : Int) else 0) = 0 → P (vi ((-2) : Int)) σ))))) : G (d + 4) P 26 4 [vr 0 0, vu, vi l2, vi l3, vu, vu] [vr 4 q] σ := blk (S := S1) (c := cd_26) (bz := false) [(4, [true, false, true, true, false, false])] 600 (S1_ok (d + 3)) rfl rfl rfl h
-- RegionStack.say at 0, 1 leaves
set_option maxRecDepth 100000 in
set_option maxHeartbeats 4000000 in
theorem b_27_0 {d : Nat} {P : AV → SS → Prop} {σ : SS} {l1 l2 : Int} (h : (∃ (r2 : Option (Nat × Int)) (σ1 : SS), Rn (d + 6) 15 [vr 2 0, vi l1] σ (.inr (.inl r2)) σ1 ∧ G (d + 6) P 27 4 [vr 0 0, vu, vi l2, vu] [.inr (.inl r2)] σ1)) : G (d + 6) P 27 0 [vr 0 0, vi l1, vi l2, vu] [] σ := blk (S := S1) (c := cd_27) (bz := false) [(4, [true, false, true, false])] 600 (S1_ok (d + 5)) rfl rfl rfl h
-- RegionStack.say at 4, 1 leaves
set_option maxRecDepth 100000 in
set_option maxHeartbeats 4000000 in
theorem b_27_4n {d : Nat} {P : AV → SS → Prop} {σ : SS} {l2 : Int} (h : P (vi ((-1) : Int)) σ) : G (d + 6) P 27 4 [vr 0 0, vu, vi l2, vu] [vz] σ := blk (S := S1) (c := cd_27) (bz := false) [(4, [true, false, true, false])] 600 (S1_ok (d + 5)) rfl rfl rfl h
-- RegionStack.say at 4, 3 leaves
set_option maxRecDepth 100000 in
set_option maxHeartbeats 4000000 in
theorem b_27_4r {d : Nat} {P : AV → SS → Prop} {σ : SS} {l2 q : Int} (h : (((if (33 : Int) ≤ l2 ∧ l2 ≤ 126 then (1 : Int) else 0) ≠ 0 → (((σ 6 q 1) < (40 : Int) → (∀ σ1 : SS, σ1 = us 40 σ 37 q (σ 6 q 1) l2 → (ir ((σ1 6 q 1) + 1) ∧ (∀ σ2 : SS, σ2 = up σ1 6 q 1 ((σ1 6 q 1) + 1) → (∃ σ3 : SS, Rn (d + 6) 43 [vr 0 0, vr 4 q] σ2 vu σ3 ∧ P (vi (σ3 6 q 1)) σ3))))) ∧ ((40 : Int) ≤ (σ 6 q 1) → P (vi ((-4) : Int)) σ))) ∧ ((if (33 : Int) ≤ l2 ∧ l2 ≤ 126 then (1 : Int) else 0) = 0 → P (vi ((-2) : Int)) σ))) : G (d + 6) P 27 4 [vr 0 0, vu, vi l2, vu] [vr 4 q] σ := blk (S := S1) (c := cd_27) (bz := false) [(4, [true, false, true, false])] 600 (S1_ok (d + 5)) rfl rfl rfl h
-- RegionStack.wipe at 0, 1 leaves
set_option maxRecDepth 100000 in
set_option maxHeartbeats 4000000 in
theorem b_28_0 {d : Nat} {P : AV → SS → Prop} {σ : SS} {l1 : Int} (h : (∃ (r2 : Option (Nat × Int)) (σ1 : SS), Rn (d + 6) 15 [vr 2 0, vi l1] σ (.inr (.inl r2)) σ1 ∧ G (d + 6) P 28 4 [vr 0 0, vu, vu, vu] [.inr (.inl r2)] σ1)) : G (d + 6) P 28 0 [vr 0 0, vi l1, vu, vu] [] σ := blk (S := noS) (c := cd_28) (bz := false) [(4, [true, false, false, false])] 600 (SV_no _) rfl rfl rfl h
-- RegionStack.wipe at 4, 1 leaves
set_option maxRecDepth 100000 in
set_option maxHeartbeats 4000000 in
theorem b_28_4n {d : Nat} {P : AV → SS → Prop} {σ : SS} (h : P (vi ((-1) : Int)) σ) : G (d + 6) P 28 4 [vr 0 0, vu, vu, vu] [vz] σ := blk (S := noS) (c := cd_28) (bz := false) [(4, [true, false, false, false])] 600 (SV_no _) rfl rfl rfl h
-- RegionStack.wipe at 4, 1 leaves
set_option maxRecDepth 100000 in
set_option maxHeartbeats 4000000 in
theorem b_28_4r {d : Nat} {P : AV → SS → Prop} {σ : SS} {q : Int} (h : (∀ σ1 : SS, σ1 = up σ 6 q 1 (0 : Int) → (∃ σ2 : SS, Rn (d + 6) 43 [vr 0 0, vr 4 q] σ1 vu σ2 ∧ P (vi (σ 6 q 1)) σ2))) : G (d + 6) P 28 4 [vr 0 0, vu, vu, vu] [vr 4 q] σ := blk (S := noS) (c := cd_28) (bz := false) [(4, [true, false, false, false])] 600 (SV_no _) rfl rfl rfl h
-- RegionStack.fault at 0, 1 leaves
set_option maxRecDepth 100000 in
set_option maxHeartbeats 4000000 in
theorem b_29_0 {d : Nat} {P : AV → SS → Prop} {σ : SS} {l1 : Int} (h : (∃ (r2 : Option (Nat × Int)) (σ1 : SS), Rn (d + 1) 15 [vr 2 0, vi l1] σ (.inr (.inl r2)) σ1 ∧ G (d + 1) P 29 4 [vu, vu, vu] [.inr (.inl r2)] σ1)) : G (d + 1) P 29 0 [vr 0 0, vi l1, vu] [] σ := blk (S := noS) (c := cd_29) (bz := false) [(4, [false, false, false])] 600 (SV_no _) rfl rfl rfl h
-- RegionStack.fault at 4, 1 leaves
set_option maxRecDepth 100000 in
set_option maxHeartbeats 4000000 in
theorem b_29_4n {d : Nat} {P : AV → SS → Prop} {σ : SS} (h : P (vi ((-1) : Int)) σ) : G (d + 1) P 29 4 [vu, vu, vu] [vz] σ := blk (S := noS) (c := cd_29) (bz := false) [(4, [false, false, false])] 600 (SV_no _) rfl rfl rfl h
-- RegionStack.fault at 4, 1 leaves
set_option maxRecDepth 100000 in
set_option maxHeartbeats 4000000 in
theorem b_29_4r {d : Nat} {P : AV → SS → Prop} {σ : SS} {q : Int} (h : P (vi (σ 5 q 9)) σ) : G (d + 1) P 29 4 [vu, vu, vu] [vr 4 q] σ := blk (S := noS) (c := cd_29) (bz := false) [(4, [false, false, false])] 600 (SV_no _) rfl rfl rfl h
-- RegionStack.parts at 0, 1 leaves
set_option maxRecDepth 100000 in
set_option maxHeartbeats 4000000 in
theorem b_30_0 {d : Nat} {P : AV → SS → Prop} {σ : SS} {l1 l2 : Int} (h : (∃ (r2 : Option (Nat × Int)) (σ1 : SS), Rn (d + 4) 15 [vr 2 0, vi l1] σ (.inr (.inl r2)) σ1 ∧ G (d + 4) P 30 4 [vr 0 0, vu, vi l2, vu] [.inr (.inl r2)] σ1)) : G (d + 4) P 30 0 [vr 0 0, vi l1, vi l2, vu] [] σ := blk (S := S1) (c := cd_30) (bz := false) [(4, [true, false, true, false])] 600 (S1_ok (d + 3)) rfl rfl rfl h
-- RegionStack.parts at 4, 1 leaves
set_option maxRecDepth 100000 in
set_option maxHeartbeats 4000000 in
theorem b_30_4n {d : Nat} {P : AV → SS → Prop} {σ : SS} {l2 : Int} (h : P (vi ((-1) : Int)) σ) : G (d + 4) P 30 4 [vr 0 0, vu, vi l2, vu] [vz] σ := blk (S := S1) (c := cd_30) (bz := false) [(4, [true, false, true, false])] 600 (S1_ok (d + 3)) rfl rfl rfl h
-- RegionStack.parts at 4, 4 leaves
set_option maxRecDepth 100000 in
set_option maxHeartbeats 4000000 in
theorem b_30_4r {d : Nat} {P : AV → SS → Prop} {σ : SS} {l2 q : Int} (h : (((if (0 : Int) ≤ l2 ∧ l2 ≤ 1 then (1 : Int) else 0) ≠ 0 → (((σ 5 q 9) = ((-6) : Int) → ((l2 ≠ 0 → (∃ (x2 : Int) (σ1 : SS), Rn (d + 4) 105 [vr 2 0, vr 5 q] σ (vi x2) σ1 ∧ P (vi x2) σ1)) ∧ (l2 = 0 → P (vi (σ 5 q 10)) σ))) ∧ ((σ 5 q 9) ≠ ((-6) : Int) → P (vi ((-5) : Int)) σ))) ∧ ((if (0 : Int) ≤ l2 ∧ l2 ≤ 1 then (1 : Int) else 0) = 0 → P (vi ((-2) : Int)) σ))) : G (d + 4) P 30 4 [vr 0 0, vu, vi l2, vu] [vr 4 q] σ := blk (S := S1) (c := cd_30) (bz := false) [(4, [true, false, true, false])] 600 (S1_ok (d + 3)) rfl rfl rfl h
-- RegionStack.kind at 0, 1 leaves
set_option maxRecDepth 100000 in
set_option maxHeartbeats 4000000 in
theorem b_31_0 {d : Nat} {P : AV → SS → Prop} {σ : SS} {l1 l2 : Int} (h : (∃ (r2 : Option (Nat × Int)) (σ1 : SS), Rn (d + 2) 15 [vr 2 0, vi l1] σ (.inr (.inl r2)) σ1 ∧ G (d + 2) P 31 4 [vu, vu, vi l2, vu] [.inr (.inl r2)] σ1)) : G (d + 2) P 31 0 [vr 0 0, vi l1, vi l2, vu] [] σ := blk (S := S2) (c := cd_31) (bz := false) [(4, [false, false, true, false])] 600 (S2_ok (d + 0)) rfl rfl rfl h
-- RegionStack.kind at 4, 1 leaves
set_option maxRecDepth 100000 in
set_option maxHeartbeats 4000000 in
theorem b_31_4n {d : Nat} {P : AV → SS → Prop} {σ : SS} {l2 : Int} (h : P (vi ((-1) : Int)) σ) : G (d + 2) P 31 4 [vu, vu, vi l2, vu] [vz] σ := blk (S := S2) (c := cd_31) (bz := false) [(4, [false, false, true, false])] 600 (S2_ok (d + 0)) rfl rfl rfl h
-- RegionStack.kind at 4, 4 leaves
set_option maxRecDepth 100000 in
set_option maxHeartbeats 4000000 in
theorem b_31_4r {d : Nat} {P : AV → SS → Prop} {σ : SS} {l2 q : Int} (h : (((if 0 ≤ l2 ∧ l2 < σ 6 q 1 then (1 : Int) else 0) ≠ 0 → (((σ 5 q 9) = ((-6) : Int) → (((if rg 40 (σ 39 q) l2 ≠ 0 then (1 : Int) else 0) = 0 → P (vi ((-6) : Int)) σ) ∧ ((if rg 40 (σ 39 q) l2 ≠ 0 then (1 : Int) else 0) ≠ 0 → P (vi (rg 40 (σ 38 q) l2)) σ))) ∧ ((σ 5 q 9) ≠ ((-6) : Int) → P (vi ((-5) : Int)) σ))) ∧ ((if 0 ≤ l2 ∧ l2 < σ 6 q 1 then (1 : Int) else 0) = 0 → P (vi ((-2) : Int)) σ))) : G (d + 2) P 31 4 [vu, vu, vi l2, vu] [vr 4 q] σ := blk (S := S2) (c := cd_31) (bz := false) [(4, [false, false, true, false])] 600 (S2_ok (d + 0)) rfl rfl rfl h
-- RegionStack.well at 0, 2 leaves
set_option maxRecDepth 100000 in
set_option maxHeartbeats 4000000 in
theorem b_32_0 {d : Nat} {P : AV → SS → Prop} {σ : SS} (h : (∃ (x2 : Int) (σ1 : SS), Rn (d + 6) 107 [vr 2 0] σ (vi x2) σ1 ∧ ((x2 = 0 → P (vi (0 : Int)) σ1) ∧ (x2 ≠ 0 → P (vi (1 : Int)) σ1)))) : G (d + 6) P 32 0 [vr 0 0] [] σ := blk (S := noS) (c := cd_32) (bz := false) [] 600 (SV_no _) rfl rfl rfl h
-- RegionStack.tells at 0, 1 leaves
set_option maxRecDepth 100000 in
set_option maxHeartbeats 4000000 in
theorem b_33_0 {d : Nat} {P : AV → SS → Prop} {σ : SS} {l1 l2 : Int} (h : (∃ (r2 : Option (Nat × Int)) (σ1 : SS), Rn (d + 6) 15 [vr 2 0, vi l1] σ (.inr (.inl r2)) σ1 ∧ G (d + 6) P 33 4 [vr 0 0, vu, vi l2, vu] [.inr (.inl r2)] σ1)) : G (d + 6) P 33 0 [vr 0 0, vi l1, vi l2, vu] [] σ := blk (S := S1) (c := cd_33) (bz := false) [(4, [true, false, true, false])] 600 (S1_ok (d + 5)) rfl rfl rfl h
-- RegionStack.tells at 4, 1 leaves
set_option maxRecDepth 100000 in
set_option maxHeartbeats 4000000 in
theorem b_33_4n {d : Nat} {P : AV → SS → Prop} {σ : SS} {l2 : Int} (h : P (vi ((-1) : Int)) σ) : G (d + 6) P 33 4 [vr 0 0, vu, vi l2, vu] [vz] σ := blk (S := S1) (c := cd_33) (bz := false) [(4, [true, false, true, false])] 600 (S1_ok (d + 5)) rfl rfl rfl h
-- RegionStack.tells at 4, 6 leaves
set_option maxRecDepth 100000 in
set_option maxHeartbeats 4000000 in
theorem b_33_4r {d : Nat} {P : AV → SS → Prop} {σ : SS} {l2 q : Int} (h : (((if (0 : Int) ≤ l2 ∧ l2 ≤ 2 then (1 : Int) else 0) ≠ 0 → (∃ (x2 : Int) (σ1 : SS), Rn (d + 6) 107 [vr 2 0] σ (vi x2) σ1 ∧ ((x2 ≠ 0 → ((l2 ≠ 0 → ((l2 ≠ (1 : Int) → P (vi (σ1 4 q 8)) σ1) ∧ (l2 = (1 : Int) → P (vi (σ1 4 q 7)) σ1))) ∧ (l2 = 0 → (((σ1 4 q 6) = 0 → P (vi (0 : Int)) σ1) ∧ ((σ1 4 q 6) ≠ 0 → P (vi (1 : Int)) σ1))))) ∧ (x2 = 0 → P (vi ((-5) : Int)) σ1)))) ∧ ((if (0 : Int) ≤ l2 ∧ l2 ≤ 2 then (1 : Int) else 0) = 0 → P (vi ((-2) : Int)) σ))) : G (d + 6) P 33 4 [vr 0 0, vu, vi l2, vu] [vr 4 q] σ := blk (S := S1) (c := cd_33) (bz := false) [(4, [true, false, true, false])] 600 (S1_ok (d + 5)) rfl rfl rfl h
-- RegionStack.region at 0, 1 leaves
set_option maxRecDepth 100000 in
set_option maxHeartbeats 4000000 in
theorem b_34_0 {d : Nat} {P : AV → SS → Prop} {σ : SS} {l1 l2 : Int} (h : (∃ (r2 : Option (Nat × Int)) (σ1 : SS), Rn (d + 6) 15 [vr 2 0, vi l1] σ (.inr (.inl r2)) σ1 ∧ G (d + 6) P 34 4 [vr 0 0, vu, vi l2, vu] [.inr (.inl r2)] σ1)) : G (d + 6) P 34 0 [vr 0 0, vi l1, vi l2, vu] [] σ := blk (S := S1) (c := cd_34) (bz := false) [(4, [true, false, true, false])] 600 (S1_ok (d + 5)) rfl rfl rfl h
-- RegionStack.region at 4, 1 leaves
set_option maxRecDepth 100000 in
set_option maxHeartbeats 4000000 in
theorem b_34_4n {d : Nat} {P : AV → SS → Prop} {σ : SS} {l2 : Int} (h : P (vi ((-1) : Int)) σ) : G (d + 6) P 34 4 [vr 0 0, vu, vi l2, vu] [vz] σ := blk (S := S1) (c := cd_34) (bz := false) [(4, [true, false, true, false])] 600 (S1_ok (d + 5)) rfl rfl rfl h
-- RegionStack.region at 4, 3 leaves
set_option maxRecDepth 100000 in
set_option maxHeartbeats 4000000 in
theorem b_34_4r {d : Nat} {P : AV → SS → Prop} {σ : SS} {l2 q : Int} (h : (((if 0 ≤ l2 ∧ l2 < σ 6 q 1 then (1 : Int) else 0) ≠ 0 → (∃ (x2 : Int) (σ1 : SS), Rn (d + 6) 107 [vr 2 0] σ (vi x2) σ1 ∧ ((x2 ≠ 0 → P (vi (rg 40 (σ1 47 q) l2)) σ1) ∧ (x2 = 0 → P (vi ((-5) : Int)) σ1)))) ∧ ((if 0 ≤ l2 ∧ l2 < σ 6 q 1 then (1 : Int) else 0) = 0 → P (vi ((-2) : Int)) σ))) : G (d + 6) P 34 4 [vr 0 0, vu, vi l2, vu] [vr 4 q] σ := blk (S := S1) (c := cd_34) (bz := false) [(4, [true, false, true, false])] 600 (S1_ok (d + 5)) rfl rfl rfl h
-- RegionStack.home at 0, 1 leaves
set_option maxRecDepth 100000 in
set_option maxHeartbeats 4000000 in
theorem b_35_0 {d : Nat} {P : AV → SS → Prop} {σ : SS} {l1 l2 : Int} (h : (∃ (r2 : Option (Nat × Int)) (σ1 : SS), Rn (d + 6) 15 [vr 2 0, vi l1] σ (.inr (.inl r2)) σ1 ∧ G (d + 6) P 35 4 [vr 0 0, vu, vi l2, vu] [.inr (.inl r2)] σ1)) : G (d + 6) P 35 0 [vr 0 0, vi l1, vi l2, vu] [] σ := blk (S := S1) (c := cd_35) (bz := false) [(4, [true, false, true, false])] 600 (S1_ok (d + 5)) rfl rfl rfl h
-- RegionStack.home at 4, 1 leaves
set_option maxRecDepth 100000 in
set_option maxHeartbeats 4000000 in
theorem b_35_4n {d : Nat} {P : AV → SS → Prop} {σ : SS} {l2 : Int} (h : P (vi ((-1) : Int)) σ) : G (d + 6) P 35 4 [vr 0 0, vu, vi l2, vu] [vz] σ := blk (S := S1) (c := cd_35) (bz := false) [(4, [true, false, true, false])] 600 (S1_ok (d + 5)) rfl rfl rfl h
-- RegionStack.home at 4, 3 leaves
set_option maxRecDepth 100000 in
set_option maxHeartbeats 4000000 in
theorem b_35_4r {d : Nat} {P : AV → SS → Prop} {σ : SS} {l2 q : Int} (h : (∃ (x2 : Int) (σ1 : SS), Rn (d + 6) 107 [vr 2 0] σ (vi x2) σ1 ∧ ((x2 ≠ 0 → (∃ (x4 : Int) (σ3 : SS), Rn (d + 6) 89 [vr 4 q, vi l2] σ1 (vi x4) σ3 ∧ ((x4 = 0 → P (vi ((-2) : Int)) σ3) ∧ (x4 ≠ 0 → P (vi (rg 42 (σ3 49 q) l2)) σ3)))) ∧ (x2 = 0 → P (vi ((-5) : Int)) σ1)))) : G (d + 6) P 35 4 [vr 0 0, vu, vi l2, vu] [vr 4 q] σ := blk (S := S1) (c := cd_35) (bz := false) [(4, [true, false, true, false])] 600 (S1_ok (d + 5)) rfl rfl rfl h
-- RegionStack.touches at 0, 1 leaves
set_option maxRecDepth 100000 in
set_option maxHeartbeats 4000000 in
theorem b_36_0 {d : Nat} {P : AV → SS → Prop} {σ : SS} {l1 l2 l3 : Int} (h : (∃ (r2 : Option (Nat × Int)) (σ1 : SS), Rn (d + 6) 15 [vr 2 0, vi l1] σ (.inr (.inl r2)) σ1 ∧ G (d + 6) P 36 4 [vr 0 0, vu, vi l2, vi l3, vu] [.inr (.inl r2)] σ1)) : G (d + 6) P 36 0 [vr 0 0, vi l1, vi l2, vi l3, vu] [] σ := blk (S := S1) (c := cd_36) (bz := false) [(4, [true, false, true, true, false])] 600 (S1_ok (d + 5)) rfl rfl rfl h
-- RegionStack.touches at 4, 1 leaves
set_option maxRecDepth 100000 in
set_option maxHeartbeats 4000000 in
theorem b_36_4n {d : Nat} {P : AV → SS → Prop} {σ : SS} {l2 l3 : Int} (h : P (vi ((-1) : Int)) σ) : G (d + 6) P 36 4 [vr 0 0, vu, vi l2, vi l3, vu] [vz] σ := blk (S := S1) (c := cd_36) (bz := false) [(4, [true, false, true, true, false])] 600 (S1_ok (d + 5)) rfl rfl rfl h
-- RegionStack.touches at 4, 4 leaves
set_option maxRecDepth 100000 in
set_option maxHeartbeats 4000000 in
theorem b_36_4r {d : Nat} {P : AV → SS → Prop} {σ : SS} {l2 l3 q : Int} (h : (((if (0 : Int) ≤ l2 ∧ l2 ≤ 99 then (1 : Int) else 0) = 0 → P (vi ((-2) : Int)) σ) ∧ ((if (0 : Int) ≤ l2 ∧ l2 ≤ 99 then (1 : Int) else 0) ≠ 0 → (((if (0 : Int) ≤ l3 ∧ l3 ≤ 2 then (1 : Int) else 0) ≠ 0 → (∃ (x2 : Int) (σ1 : SS), Rn (d + 6) 107 [vr 2 0] σ (vi x2) σ1 ∧ ((x2 ≠ 0 → (∃ (x4 : Int) (σ3 : SS), Rn (d + 6) 97 [vr 4 q, vr 2 0, vi l2, vi l3] σ1 (vi x4) σ3 ∧ P (vi x4) σ3)) ∧ (x2 = 0 → P (vi ((-5) : Int)) σ1)))) ∧ ((if (0 : Int) ≤ l3 ∧ l3 ≤ 2 then (1 : Int) else 0) = 0 → P (vi ((-2) : Int)) σ))))) : G (d + 6) P 36 4 [vr 0 0, vu, vi l2, vi l3, vu] [vr 4 q] σ := blk (S := S1) (c := cd_36) (bz := false) [(4, [true, false, true, true, false])] 600 (S1_ok (d + 5)) rfl rfl rfl h
-- RegionStack.run at 0, 2 leaves
set_option maxRecDepth 100000 in
set_option maxHeartbeats 4000000 in
theorem b_37_0 {d : Nat} {P : AV → SS → Prop} {σ : SS} {l1 l2 l3 : Int} (h : (∃ (x2 : Int) (σ1 : SS), Rn (d + 7) 45 [vr 0 0, vi l1, vi l2, vi (if (0 : Int) ≤ l3 ∧ l3 ≤ 7 then (1 : Int) else 0)] σ (vi x2) σ1 ∧ ((x2 ≠ 0 → P (vi x2) σ1) ∧ (x2 = 0 → (∃ (x4 : Int) (σ3 : SS), Rn (d + 7) 113 [vr 1 0, vi l3] σ1 (vi x4) σ3 ∧ P (vi x4) σ3))))) : G (d + 7) P 37 0 [vr 0 0, vi l1, vi l2, vi l3, vu] [] σ := blk (S := S1) (c := cd_37) (bz := false) [] 600 (S1_ok (d + 6)) rfl rfl rfl h
-- RegionStack.words at 0, 3 leaves
set_option maxRecDepth 100000 in
set_option maxHeartbeats 4000000 in
theorem b_38_0 {d : Nat} {P : AV → SS → Prop} {σ : SS} {l1 l2 l3 : Int} (h : (∃ (x2 : Int) (σ1 : SS), Rn (d + 7) 45 [vr 0 0, vi l1, vi l2, vi (if (0 : Int) ≤ l3 ∧ l3 ≤ 1 then (1 : Int) else 0)] σ (vi x2) σ1 ∧ ((x2 = 0 → ((l3 ≠ 0 → P (vi (σ1 32 0 12)) σ1) ∧ (l3 = 0 → P (vi (σ1 32 0 11)) σ1))) ∧ (x2 ≠ 0 → P (vi x2) σ1)))) : G (d + 7) P 38 0 [vr 0 0, vi l1, vi l2, vi l3, vu] [] σ := blk (S := S1) (c := cd_38) (bz := false) [] 600 (S1_ok (d + 6)) rfl rfl rfl h
-- RegionStack.mixed at 0, 2 leaves
set_option maxRecDepth 100000 in
set_option maxHeartbeats 4000000 in
theorem b_39_0 {d : Nat} {P : AV → SS → Prop} {σ : SS} {l1 l2 : Int} (h : (∃ (x2 : Int) (σ1 : SS), Rn (d + 7) 45 [vr 0 0, vi l1, vi l2, vi 1] σ (vi x2) σ1 ∧ ((x2 = 0 → (∃ (x4 : Int) (σ3 : SS), Rn (d + 7) 46 [vi (σ1 32 0 11), vi (σ1 32 0 12)] σ1 (vi x4) σ3 ∧ P (vi x4) σ3)) ∧ (x2 ≠ 0 → P (vi x2) σ1)))) : G (d + 7) P 39 0 [vr 0 0, vi l1, vi l2, vu] [] σ := blk (S := noS) (c := cd_39) (bz := false) [] 600 (SV_no _) rfl rfl rfl h
-- RegionStack.image at 0, 2 leaves
set_option maxRecDepth 100000 in
set_option maxHeartbeats 4000000 in
theorem b_40_0 {d : Nat} {P : AV → SS → Prop} {σ : SS} {l1 : Int} (h : (((if (0 : Int) ≤ l1 ∧ l1 ≤ 1 then (1 : Int) else 0) ≠ 0 → G (d + 2) P 40 9 [vr 0 0, vi l1, vi 0, vu, vu] [] σ) ∧ ((if (0 : Int) ≤ l1 ∧ l1 ≤ 1 then (1 : Int) else 0) = 0 → P (vi ((-2) : Int)) σ))) : G (d + 2) P 40 0 [vr 0 0, vi l1, vu, vu, vu] [] σ := blk (S := S1) (c := cd_40) (bz := false) [(9, [true, true, true, false, false]), (16, [true, true, true, false, false]), (21, [true, true, true, true, false])] 600 (S1_ok (d + 1)) rfl rfl rfl h
-- RegionStack.image at 9, 2 leaves
set_option maxRecDepth 100000 in
set_option maxHeartbeats 4000000 in
theorem b_40_9 {d : Nat} {P : AV → SS → Prop} {σ : SS} {l1 l2 : Int} (h : (((3 : Int) ≤ l2 → (((0 ≤ l1 ∧ l1 < 2) ∧ ((1 : Int) = 0 ∨ (1 : Int) = 1)) ∧ (∀ σ1 : SS, σ1 = up σ 35 0 l1 (1 : Int) → P (vi (1 : Int)) σ1))) ∧ (l2 < (3 : Int) → (∃ (r3 : Option (Nat × Int)) (σ2 : SS), Rn (d + 2) 44 [vr 0 0, vi l1, vi l2] σ (.inr (.inl r3)) σ2 ∧ G (d + 2) P 40 16 [vr 0 0, vi l1, vi l2, vu, vu] [.inr (.inl r3)] σ2)))) : G (d + 2) P 40 9 [vr 0 0, vi l1, vi l2, vu, vu] [] σ := blk (S := S1) (c := cd_40) (bz := false) [(9, [true, true, true, false, false]), (16, [true, true, true, false, false]), (21, [true, true, true, true, false])] 600 (S1_ok (d + 1)) rfl rfl rfl h
-- RegionStack.image at 16, 1 leaves
set_option maxRecDepth 100000 in
set_option maxHeartbeats 4000000 in
theorem b_40_16n {d : Nat} {P : AV → SS → Prop} {σ : SS} {l1 l2 : Int} (h : (∃ (r2 : Option (Nat × Int)) (σ1 : SS), Rn (d + 2) 15 [vr 2 0, vi l2] σ (.inr (.inl r2)) σ1 ∧ G (d + 2) P 40 21 [vr 0 0, vi l1, vi l2, vz, vu] [.inr (.inl r2)] σ1)) : G (d + 2) P 40 16 [vr 0 0, vi l1, vi l2, vu, vu] [vz] σ := blk (S := S1) (c := cd_40) (bz := false) [(9, [true, true, true, false, false]), (16, [true, true, true, false, false]), (21, [true, true, true, true, false])] 600 (S1_ok (d + 1)) rfl rfl rfl h
-- RegionStack.image at 16, 1 leaves
set_option maxRecDepth 100000 in
set_option maxHeartbeats 4000000 in
theorem b_40_16r {d : Nat} {P : AV → SS → Prop} {σ : SS} {l1 l2 q : Int} (h : (∃ (r2 : Option (Nat × Int)) (σ1 : SS), Rn (d + 2) 15 [vr 2 0, vi l2] σ (.inr (.inl r2)) σ1 ∧ G (d + 2) P 40 21 [vr 0 0, vi l1, vi l2, vr 33 q, vu] [.inr (.inl r2)] σ1)) : G (d + 2) P 40 16 [vr 0 0, vi l1, vi l2, vu, vu] [vr 33 q] σ := blk (S := S1) (c := cd_40) (bz := false) [(9, [true, true, true, false, false]), (16, [true, true, true, false, false]), (21, [true, true, true, true, false])] 600 (S1_ok (d + 1)) rfl rfl rfl h
-- RegionStack.image at 21, 1 leaves
set_option maxRecDepth 100000 in
set_option maxHeartbeats 4000000 in
theorem b_40_21n {d : Nat} {P : AV → SS → Prop} {σ : SS} {l1 l2 : Int} (h : (ir (l2 + 1) ∧ G (d + 2) P 40 9 [vr 0 0, vi l1, vi (l2 + 1), vu, vu] [] σ)) : G (d + 2) P 40 21 [vr 0 0, vi l1, vi l2, vz, vu] [vz] σ := blk (S := S1) (c := cd_40) (bz := false) [(9, [true, true, true, false, false]), (16, [true, true, true, false, false]), (21, [true, true, true, true, false])] 600 (S1_ok (d + 1)) rfl rfl rfl h
-- RegionStack.image at 21, 1 leaves
set_option maxRecDepth 100000 in
set_option maxHeartbeats 4000000 in
theorem b_40_21r {d : Nat} {P : AV → SS → Prop} {σ : SS} {l1 l2 q : Int} (h : (ir (l2 + 1) ∧ G (d + 2) P 40 9 [vr 0 0, vi l1, vi (l2 + 1), vu, vu] [] σ)) : G (d + 2) P 40 21 [vr 0 0, vi l1, vi l2, vz, vu] [vr 4 q] σ := blk (S := S1) (c := cd_40) (bz := false) [(9, [true, true, true, false, false]), (16, [true, true, true, false, false]), (21, [true, true, true, true, false])] 600 (S1_ok (d + 1)) rfl rfl rfl h
-- RegionStack.restore at 0, 3 leaves
set_option maxRecDepth 100000 in
set_option maxHeartbeats 4000000 in
theorem b_41_0 {d : Nat} {P : AV → SS → Prop} {σ : SS} {l1 : Int} (h : (((if (0 : Int) ≤ l1 ∧ l1 ≤ 1 then (1 : Int) else 0) ≠ 0 → ((0 ≤ l1 ∧ l1 < 2) ∧ (((σ 35 0 l1) ≠ 0 → G (d + 5) P 41 16 [vr 0 0, vi l1, vi 0, vu, vu] [] σ) ∧ ((σ 35 0 l1) = 0 → P (vi ((-3) : Int)) σ)))) ∧ ((if (0 : Int) ≤ l1 ∧ l1 ≤ 1 then (1 : Int) else 0) = 0 → P (vi ((-2) : Int)) σ))) : G (d + 5) P 41 0 [vr 0 0, vi l1, vu, vu, vu] [] σ := blk (S := S1) (c := cd_41) (bz := false) [(16, [true, true, true, false, false]), (23, [true, true, true, false, false]), (28, [true, true, true, true, false])] 600 (S1_ok (d + 4)) rfl rfl rfl h
-- RegionStack.restore at 16, 2 leaves
set_option maxRecDepth 100000 in
set_option maxHeartbeats 4000000 in
theorem b_41_16 {d : Nat} {P : AV → SS → Prop} {σ : SS} {l1 l2 : Int} (h : (((3 : Int) ≤ l2 → (∃ σ1 : SS, Rn (d + 5) 103 [vr 2 0] σ vu σ1 ∧ P (vi (1 : Int)) σ1)) ∧ (l2 < (3 : Int) → (∃ (r3 : Option (Nat × Int)) (σ2 : SS), Rn (d + 5) 44 [vr 0 0, vi l1, vi l2] σ (.inr (.inl r3)) σ2 ∧ G (d + 5) P 41 23 [vr 0 0, vi l1, vi l2, vu, vu] [.inr (.inl r3)] σ2)))) : G (d + 5) P 41 16 [vr 0 0, vi l1, vi l2, vu, vu] [] σ := blk (S := S1) (c := cd_41) (bz := false) [(16, [true, true, true, false, false]), (23, [true, true, true, false, false]), (28, [true, true, true, true, false])] 600 (S1_ok (d + 4)) rfl rfl rfl h
-- RegionStack.restore at 23, 1 leaves
set_option maxRecDepth 100000 in
set_option maxHeartbeats 4000000 in
theorem b_41_23n {d : Nat} {P : AV → SS → Prop} {σ : SS} {l1 l2 : Int} (h : (∃ (r2 : Option (Nat × Int)) (σ1 : SS), Rn (d + 5) 15 [vr 2 0, vi l2] σ (.inr (.inl r2)) σ1 ∧ G (d + 5) P 41 28 [vr 0 0, vi l1, vi l2, vz, vu] [.inr (.inl r2)] σ1)) : G (d + 5) P 41 23 [vr 0 0, vi l1, vi l2, vu, vu] [vz] σ := blk (S := S1) (c := cd_41) (bz := false) [(16, [true, true, true, false, false]), (23, [true, true, true, false, false]), (28, [true, true, true, true, false])] 600 (S1_ok (d + 4)) rfl rfl rfl h
-- RegionStack.restore at 23, 1 leaves
set_option maxRecDepth 100000 in
set_option maxHeartbeats 4000000 in
theorem b_41_23r {d : Nat} {P : AV → SS → Prop} {σ : SS} {l1 l2 q : Int} (h : (∃ (r2 : Option (Nat × Int)) (σ1 : SS), Rn (d + 5) 15 [vr 2 0, vi l2] σ (.inr (.inl r2)) σ1 ∧ G (d + 5) P 41 28 [vr 0 0, vi l1, vi l2, vr 33 q, vu] [.inr (.inl r2)] σ1)) : G (d + 5) P 41 23 [vr 0 0, vi l1, vi l2, vu, vu] [vr 33 q] σ := blk (S := S1) (c := cd_41) (bz := false) [(16, [true, true, true, false, false]), (23, [true, true, true, false, false]), (28, [true, true, true, true, false])] 600 (S1_ok (d + 4)) rfl rfl rfl h
-- RegionStack.restore at 28, 1 leaves
set_option maxRecDepth 100000 in
set_option maxHeartbeats 4000000 in
theorem b_41_28n {d : Nat} {P : AV → SS → Prop} {σ : SS} {l1 l2 : Int} (h : (ir (l2 + 1) ∧ G (d + 5) P 41 16 [vr 0 0, vi l1, vi (l2 + 1), vu, vu] [] σ)) : G (d + 5) P 41 28 [vr 0 0, vi l1, vi l2, vz, vu] [vz] σ := blk (S := S1) (c := cd_41) (bz := false) [(16, [true, true, true, false, false]), (23, [true, true, true, false, false]), (28, [true, true, true, true, false])] 600 (S1_ok (d + 4)) rfl rfl rfl h
-- RegionStack.restore at 28, 1 leaves
set_option maxRecDepth 100000 in
set_option maxHeartbeats 4000000 in
theorem b_41_28r {d : Nat} {P : AV → SS → Prop} {σ : SS} {l1 l2 q : Int} (h : (ir (l2 + 1) ∧ G (d + 5) P 41 16 [vr 0 0, vi l1, vi (l2 + 1), vu, vu] [] σ)) : G (d + 5) P 41 28 [vr 0 0, vi l1, vi l2, vz, vu] [vr 4 q] σ := blk (S := S1) (c := cd_41) (bz := false) [(16, [true, true, true, false, false]), (23, [true, true, true, false, false]), (28, [true, true, true, true, false])] 600 (S1_ok (d + 4)) rfl rfl rfl h
-- RegionStack.told at 0, 1 leaves
set_option maxRecDepth 100000 in
set_option maxHeartbeats 4000000 in
theorem b_42_0 {d : Nat} {P : AV → SS → Prop} {σ : SS} {l1 : Int} (h : (∃ (r2 : Option (Nat × Int)) (σ1 : SS), Rn (d + 1) 15 [vr 2 0, vi l1] σ (.inr (.inl r2)) σ1 ∧ G (d + 1) P 42 4 [vr 0 0, vi l1, vu, vu] [.inr (.inl r2)] σ1)) : G (d + 1) P 42 0 [vr 0 0, vi l1, vu, vu] [] σ := blk (S := S1) (c := cd_42) (bz := false) [(4, [true, true, false, false]), (22, [false, false, false, false]), (44, [false, true, false, false])] 600 (S1_ok (d + 0)) rfl rfl rfl h
-- RegionStack.told at 4, 3 leaves
set_option maxRecDepth 100000 in
set_option maxHeartbeats 4000000 in
theorem b_42_4n {d : Nat} {P : AV → SS → Prop} {σ : SS} {l1 : Int} (h : (((if (10 : Int) ≤ l1 ∧ l1 ≤ 12 then (1 : Int) else 0) = 0 → (((100 : Int) ≤ l1 → ((0 ≤ l1 ∧ 0 < (100 : Int)) ∧ (ir ((l1 / 100) - 1) ∧ (∃ (r2 : Option (Nat × Int)) (σ1 : SS), Rn (d + 1) 15 [vr 2 0, vi ((l1 / 100) - 1)] σ (.inr (.inl r2)) σ1 ∧ G (d + 1) P 42 44 [vu, vi l1, vu, vu] [.inr (.inl r2)] σ1)))) ∧ (l1 < (100 : Int) → P (vi ((-2) : Int)) σ))) ∧ ((if (10 : Int) ≤ l1 ∧ l1 ≤ 12 then (1 : Int) else 0) ≠ 0 → (ir (l1 - 10) ∧ (∃ (r4 : Option (Nat × Int)) (σ3 : SS), Rn (d + 1) 15 [vr 2 0, vi (l1 - 10)] σ (.inr (.inl r4)) σ3 ∧ G (d + 1) P 42 22 [vu, vu, vu, vu] [.inr (.inl r4)] σ3))))) : G (d + 1) P 42 4 [vr 0 0, vi l1, vu, vu] [vz] σ := blk (S := S1) (c := cd_42) (bz := false) [(4, [true, true, false, false]), (22, [false, false, false, false]), (44, [false, true, false, false])] 600 (S1_ok (d + 0)) rfl rfl rfl h
-- RegionStack.told at 4, 1 leaves
set_option maxRecDepth 100000 in
set_option maxHeartbeats 4000000 in
theorem b_42_4r {d : Nat} {P : AV → SS → Prop} {σ : SS} {l1 q : Int} (h : P (vi (σ 6 q 1)) σ) : G (d + 1) P 42 4 [vr 0 0, vi l1, vu, vu] [vr 4 q] σ := blk (S := S1) (c := cd_42) (bz := false) [(4, [true, true, false, false]), (22, [false, false, false, false]), (44, [false, true, false, false])] 600 (S1_ok (d + 0)) rfl rfl rfl h
-- RegionStack.told at 44, 1 leaves
set_option maxRecDepth 100000 in
set_option maxHeartbeats 4000000 in
theorem b_42_44n {d : Nat} {P : AV → SS → Prop} {σ : SS} {l1 : Int} (h : P (vi ((-2) : Int)) σ) : G (d + 1) P 42 44 [vu, vi l1, vu, vu] [vz] σ := blk (S := S1) (c := cd_42) (bz := false) [(4, [true, true, false, false]), (22, [false, false, false, false]), (44, [false, true, false, false])] 600 (S1_ok (d + 0)) rfl rfl rfl h
-- RegionStack.told at 44, 2 leaves
set_option maxRecDepth 100000 in
set_option maxHeartbeats 4000000 in
theorem b_42_44r {d : Nat} {P : AV → SS → Prop} {σ : SS} {l1 q : Int} (h : ((0 ≤ l1 ∧ 0 < (100 : Int)) ∧ (((if 0 ≤ (l1 % 100) ∧ (l1 % 100) < σ 6 q 1 then (1 : Int) else 0) ≠ 0 → ((0 ≤ l1 ∧ 0 < (100 : Int)) ∧ P (vi (rg 40 (σ 37 q) (l1 % 100))) σ)) ∧ ((if 0 ≤ (l1 % 100) ∧ (l1 % 100) < σ 6 q 1 then (1 : Int) else 0) = 0 → P (vi ((-2) : Int)) σ)))) : G (d + 1) P 42 44 [vu, vi l1, vu, vu] [vr 4 q] σ := blk (S := S1) (c := cd_42) (bz := false) [(4, [true, true, false, false]), (22, [false, false, false, false]), (44, [false, true, false, false])] 600 (S1_ok (d + 0)) rfl rfl rfl h
-- RegionStack.told at 22, 1 leaves
set_option maxRecDepth 100000 in
set_option maxHeartbeats 4000000 in
theorem b_42_22n {d : Nat} {P : AV → SS → Prop} {σ : SS} (h : P (vi ((-2) : Int)) σ) : G (d + 1) P 42 22 [vu, vu, vu, vu] [vz] σ := blk (S := S1) (c := cd_42) (bz := false) [(4, [true, true, false, false]), (22, [false, false, false, false]), (44, [false, true, false, false])] 600 (S1_ok (d + 0)) rfl rfl rfl h
-- RegionStack.told at 22, 1 leaves
set_option maxRecDepth 100000 in
set_option maxHeartbeats 4000000 in
theorem b_42_22r {d : Nat} {P : AV → SS → Prop} {σ : SS} {q : Int} (h : ((ir (10 * σ 6 q 2) ∧ ir (10 * σ 6 q 2 + σ 6 q 3)) ∧ P (vi (10 * σ 6 q 2 + σ 6 q 3)) σ)) : G (d + 1) P 42 22 [vu, vu, vu, vu] [vr 4 q] σ := blk (S := S1) (c := cd_42) (bz := false) [(4, [true, true, false, false]), (22, [false, false, false, false]), (44, [false, true, false, false])] 600 (S1_ok (d + 0)) rfl rfl rfl h
-- RegionStack.textChanged at 0, 1 leaves
set_option maxRecDepth 100000 in
set_option maxHeartbeats 4000000 in
theorem b_43_0 {d : Nat} {P : AV → SS → Prop} {σ : SS} {c : Int} (h : (∃ σ1 : SS, Rn (d + 5) 133 [vr 5 c] σ vu σ1 ∧ (∃ σ2 : SS, Rn (d + 5) 103 [vr 2 0] σ1 vu σ2 ∧ P vu σ2))) : G (d + 5) P 43 0 [vr 0 0, vr 4 c] [] σ := blk (S := noS) (c := cd_43) (bz := false) [] 600 (SV_no _) rfl rfl rfl h
-- RegionStack.keptText at 0, 3 leaves
set_option maxRecDepth 100000 in
set_option maxHeartbeats 4000000 in
theorem b_44_0 {d : Nat} {P : AV → SS → Prop} {σ : SS} {l1 l2 : Int} (h : (ir (l1 * 3) ∧ (ir ((l1 * 3) + l2) ∧ ((((l1 * 3) + l2) < 0 → P (vz) σ) ∧ (0 ≤ ((l1 * 3) + l2) → (((6 : Int) ≤ ((l1 * 3) + l2) → P (vz) σ) ∧ (((l1 * 3) + l2) < (6 : Int) → ((0 ≤ ((l1 * 3) + l2) ∧ ((l1 * 3) + l2) < 6) ∧ P (vr 33 ((l1 * 3) + l2)) σ)))))))) : G (d + 0) P 44 0 [vr 0 0, vi l1, vi l2, vu] [] σ := blk (S := noS) (c := cd_44) (bz := false) [] 600 (SV_no _) rfl rfl rfl h
-- RegionStack.refusalOfRun at 0, 1 leaves
set_option maxRecDepth 100000 in
set_option maxHeartbeats 4000000 in
theorem b_45_0 {d : Nat} {P : AV → SS → Prop} {σ : SS} {l1 l2 l3 : Int} (h : (∃ (r2 : Option (Nat × Int)) (σ1 : SS), Rn (d + 6) 15 [vr 2 0, vi l1] σ (.inr (.inl r2)) σ1 ∧ G (d + 6) P 45 4 [vr 0 0, vi l1, vi l2, vi l3] [.inr (.inl r2)] σ1)) : G (d + 6) P 45 0 [vr 0 0, vi l1, vi l2, vi l3] [] σ := blk (S := S1) (c := cd_45) (bz := false) [(4, [true, true, true, true])] 600 (S1_ok (d + 5)) rfl rfl rfl h
-- RegionStack.refusalOfRun at 4, 1 leaves
set_option maxRecDepth 100000 in
set_option maxHeartbeats 4000000 in
theorem b_45_4n {d : Nat} {P : AV → SS → Prop} {σ : SS} {l1 l2 l3 : Int} (h : P (vi ((-1) : Int)) σ) : G (d + 6) P 45 4 [vr 0 0, vi l1, vi l2, vi l3] [vz] σ := blk (S := S1) (c := cd_45) (bz := false) [(4, [true, true, true, true])] 600 (S1_ok (d + 5)) rfl rfl rfl h
-- RegionStack.refusalOfRun at 4, 5 leaves
set_option maxRecDepth 100000 in
set_option maxHeartbeats 4000000 in
theorem b_45_4r {d : Nat} {P : AV → SS → Prop} {σ : SS} {l1 l2 l3 q : Int} (h : (((if (0 : Int) ≤ l2 ∧ l2 ≤ 999 then (1 : Int) else 0) = 0 → P (vi ((-2) : Int)) σ) ∧ ((if (0 : Int) ≤ l2 ∧ l2 ≤ 999 then (1 : Int) else 0) ≠ 0 → ((l3 ≠ 0 → (∃ (x2 : Int) (σ1 : SS), Rn (d + 6) 107 [vr 2 0] σ (vi x2) σ1 ∧ ((x2 ≠ 0 → (∃ (x4 : Int) (σ3 : SS), Rn (d + 6) 114 [vr 1 0, vi l1, vi l2] σ1 (vi x4) σ3 ∧ ((x4 = 0 → P (vi ((-3) : Int)) σ3) ∧ (x4 ≠ 0 → P (vi (0 : Int)) σ3)))) ∧ (x2 = 0 → P (vi ((-5) : Int)) σ1)))) ∧ (l3 = 0 → P (vi ((-2) : Int)) σ))))) : G (d + 6) P 45 4 [vr 0 0, vi l1, vi l2, vi l3] [vr 4 q] σ := blk (S := S1) (c := cd_45) (bz := false) [(4, [true, true, true, true])] 600 (S1_ok (d + 5)) rfl rfl rfl h
-- RegionStack.quotientBits at 0, 3 leaves
set_option maxRecDepth 100000 in
set_option maxHeartbeats 4000000 in
theorem b_46_0 {d : Nat} {P : AV → SS → Prop} {σ : SS} {l0 l1 : Int} (h : ((l0 ≤ 0 → P (vi (0 : Int)) σ) ∧ (0 < l0 → ((0 < l1 → G (d + 0) P 46 16 [vu, vu, vl l0, vu, vl l1, vu, vi 127, vi 0, vu, vu, vu, vu, vu] [] σ) ∧ (l1 ≤ 0 → P (vi (0 : Int)) σ))))) : G (d + 0) P 46 0 [vi l0, vi l1, vu, vu, vu, vu, vu, vu, vu, vu, vu, vu, vu] [] σ := blk (S := noS) (c := cd_46) (bz := false) [(16, [false, false, true, false, true, false, true, true, false, false, false, false, false]), (32, [false, false, true, false, true, false, true, true, false, false, false, false, false]), (48, [false, false, true, false, true, false, true, false, false, false, false, false, false]), (62, [false, false, false, false, true, false, true, false, false, true, false, true, false]), (80, [false, false, false, false, false, false, true, false, false, true, false, false, false])] 600 (SV_no _) rfl rfl rfl h
-- RegionStack.quotientBits at 16, 3 leaves
set_option maxRecDepth 100000 in
set_option maxHeartbeats 4000000 in
theorem b_46_16 {d : Nat} {P : AV → SS → Prop} {σ : SS} {l2 l4 l6 l7 : Int} (h : (((32 : Int) ≤ l7 → G (d + 0) P 46 32 [vu, vu, vl l2, vu, vl l4, vu, vi l6, vi 0, vu, vu, vu, vu, vu] [] σ) ∧ (l7 < (32 : Int) → ((0 ≤ (lc l2 l4) → G (d + 0) P 46 32 [vu, vu, vl l2, vu, vl l4, vu, vi l6, vi 0, vu, vu, vu, vu, vu] [] σ) ∧ ((lc l2 l4) < 0 → (il (l2 * 2) ∧ (ir (l6 + (-1)) ∧ (ir (l7 + 1) ∧ G (d + 0) P 46 16 [vu, vu, vl (l2 * 2), vu, vl l4, vu, vi (l6 + (-1)), vi (l7 + 1), vu, vu, vu, vu, vu] [] σ)))))))) : G (d + 0) P 46 16 [vu, vu, vl l2, vu, vl l4, vu, vi l6, vi l7, vu, vu, vu, vu, vu] [] σ := blk (S := noS) (c := cd_46) (bz := false) [(16, [false, false, true, false, true, false, true, true, false, false, false, false, false]), (32, [false, false, true, false, true, false, true, true, false, false, false, false, false]), (48, [false, false, true, false, true, false, true, false, false, false, false, false, false]), (62, [false, false, false, false, true, false, true, false, false, true, false, true, false]), (80, [false, false, false, false, false, false, true, false, false, true, false, false, false])] 600 (SV_no _) rfl rfl rfl h
-- RegionStack.quotientBits at 32, 3 leaves
set_option maxRecDepth 100000 in
set_option maxHeartbeats 4000000 in
theorem b_46_32 {d : Nat} {P : AV → SS → Prop} {σ : SS} {l2 l4 l6 l7 : Int} (h : (((32 : Int) ≤ l7 → G (d + 0) P 46 48 [vu, vu, vl l2, vu, vl l4, vu, vi l6, vu, vu, vu, vu, vu, vu] [] σ) ∧ (l7 < (32 : Int) → (il (2 * l4) ∧ (((lc l2 (2 * l4)) < 0 → G (d + 0) P 46 48 [vu, vu, vl l2, vu, vl l4, vu, vi l6, vu, vu, vu, vu, vu, vu] [] σ) ∧ (0 ≤ (lc l2 (2 * l4)) → (il (l4 * 2) ∧ (ir (l6 + 1) ∧ (ir (l7 + 1) ∧ G (d + 0) P 46 32 [vu, vu, vl l2, vu, vl (l4 * 2), vu, vi (l6 + 1), vi (l7 + 1), vu, vu, vu, vu, vu] [] σ))))))))) : G (d + 0) P 46 32 [vu, vu, vl l2, vu, vl l4, vu, vi l6, vi l7, vu, vu, vu, vu, vu] [] σ := blk (S := noS) (c := cd_46) (bz := false) [(16, [false, false, true, false, true, false, true, true, false, false, false, false, false]), (32, [false, false, true, false, true, false, true, true, false, false, false, false, false]), (48, [false, false, true, false, true, false, true, false, false, false, false, false, false]), (62, [false, false, false, false, true, false, true, false, false, true, false, true, false]), (80, [false, false, false, false, false, false, true, false, false, true, false, false, false])] 600 (SV_no _) rfl rfl rfl h
-- RegionStack.quotientBits at 48, 1 leaves
set_option maxRecDepth 100000 in
set_option maxHeartbeats 4000000 in
theorem b_46_48 {d : Nat} {P : AV → SS → Prop} {σ : SS} {l2 l4 l6 : Int} (h : ((0 ≤ l2 ∧ (23 : Int) = 23 ∧ il (l2 * 8388608)) ∧ ((0 ≤ (l2 * 8388608) ∧ 0 < l4) ∧ ((0 ≤ (l2 * 8388608) ∧ 0 < l4) ∧ (il (2 * ((l2 * 8388608) % l4)) ∧ G (d + 0) P 46 62 [vu, vu, vu, vu, vl l4, vu, vi l6, vu, vu, vl ((l2 * 8388608) / l4), vu, vl (2 * ((l2 * 8388608) % l4)), vu] [] σ))))) : G (d + 0) P 46 48 [vu, vu, vl l2, vu, vl l4, vu, vi l6, vu, vu, vu, vu, vu, vu] [] σ := blk (S := noS) (c := cd_46) (bz := false) [(16, [false, false, true, false, true, false, true, true, false, false, false, false, false]), (32, [false, false, true, false, true, false, true, true, false, false, false, false, false]), (48, [false, false, true, false, true, false, true, false, false, false, false, false, false]), (62, [false, false, false, false, true, false, true, false, false, true, false, true, false]), (80, [false, false, false, false, false, false, true, false, false, true, false, false, false])] 600 (SV_no _) rfl rfl rfl h
-- RegionStack.quotientBits at 62, 4 leaves
set_option maxRecDepth 100000 in
set_option maxHeartbeats 4000000 in
theorem b_46_62 {d : Nat} {P : AV → SS → Prop} {σ : SS} {l4 l6 l9 l11 : Int} (h : ((0 < (lc l11 l4) → (il (l9 + 1) ∧ G (d + 0) P 46 80 [vu, vu, vu, vu, vu, vu, vi l6, vu, vu, vl (l9 + 1), vu, vu, vu] [] σ)) ∧ ((lc l11 l4) ≤ 0 → (((lc l11 l4) ≠ 0 → G (d + 0) P 46 80 [vu, vu, vu, vu, vu, vu, vi l6, vu, vu, vl l9, vu, vu, vu] [] σ) ∧ ((lc l11 l4) = 0 → ((0 ≤ l9 ∧ (1 : Int) = 1) ∧ (((lc (l9 % 2) 1) ≠ 0 → G (d + 0) P 46 80 [vu, vu, vu, vu, vu, vu, vi l6, vu, vu, vl l9, vu, vu, vu] [] σ) ∧ ((lc (l9 % 2) 1) = 0 → (il (l9 + 1) ∧ G (d + 0) P 46 80 [vu, vu, vu, vu, vu, vu, vi l6, vu, vu, vl (l9 + 1), vu, vu, vu] [] σ))))))))) : G (d + 0) P 46 62 [vu, vu, vu, vu, vl l4, vu, vi l6, vu, vu, vl l9, vu, vl l11, vu] [] σ := blk (S := noS) (c := cd_46) (bz := false) [(16, [false, false, true, false, true, false, true, true, false, false, false, false, false]), (32, [false, false, true, false, true, false, true, true, false, false, false, false, false]), (48, [false, false, true, false, true, false, true, false, false, false, false, false, false]), (62, [false, false, false, false, true, false, true, false, false, true, false, true, false]), (80, [false, false, false, false, false, false, true, false, false, true, false, false, false])] 600 (SV_no _) rfl rfl rfl h
-- RegionStack.quotientBits at 80, 1 leaves
set_option maxRecDepth 100000 in
set_option maxHeartbeats 4000000 in
theorem b_46_80 {d : Nat} {P : AV → SS → Prop} {σ : SS} {l6 l9 : Int} (h : ((0 ≤ l6 ∧ (23 : Int) = 23 ∧ il (l6 * 8388608)) ∧ (il (l9 - 8388608) ∧ (il ((l6 * 8388608) + (l9 - 8388608)) ∧ (ir ((l6 * 8388608) + (l9 - 8388608)) ∧ P (vi ((l6 * 8388608) + (l9 - 8388608))) σ))))) : G (d + 0) P 46 80 [vu, vu, vu, vu, vu, vu, vi l6, vu, vu, vl l9, vu, vu, vu] [] σ := blk (S := noS) (c := cd_46) (bz := false) [(16, [false, false, true, false, true, false, true, true, false, false, false, false, false]), (32, [false, false, true, false, true, false, true, true, false, false, false, false, false]), (48, [false, false, true, false, true, false, true, false, false, false, false, false, false]), (62, [false, false, false, false, true, false, true, false, false, true, false, true, false]), (80, [false, false, false, false, false, false, true, false, false, true, false, false, false])] 600 (SV_no _) rfl rfl rfl h
-- RegionStack$Body.hasOwn at 0, 3 leaves
set_option maxRecDepth 100000 in
set_option maxHeartbeats 4000000 in
theorem b_89_0 {d : Nat} {P : AV → SS → Prop} {σ : SS} {b l1 : Int} (h : ((l1 < (2 : Int) → (((0 : Int) = 0 ∨ (0 : Int) = 1) ∧ P (vi (0 : Int)) σ)) ∧ ((2 : Int) ≤ l1 → (ir ((2 : Int) + (σ 4 b 8)) ∧ ((((2 : Int) + (σ 4 b 8)) ≤ l1 → (((0 : Int) = 0 ∨ (0 : Int) = 1) ∧ P (vi (0 : Int)) σ)) ∧ (l1 < ((2 : Int) + (σ 4 b 8)) → (((1 : Int) = 0 ∨ (1 : Int) = 1) ∧ P (vi (1 : Int)) σ))))))) : G (d + 0) P 89 0 [vr 4 b, vi l1] [] σ := blk (S := noS) (c := cd_89) (bz := true) [] 600 (SV_no _) rfl rfl rfl h
-- RegionStack$Body.joinParts at 0, 1 leaves
set_option maxRecDepth 100000 in
set_option maxHeartbeats 4000000 in
theorem b_90_0 {d : Nat} {P : AV → SS → Prop} {σ : SS} {b : Int} (h : G (d + 3) P 90 2 [vr 4 b, vr 2 0, vi 0] [] σ) : G (d + 3) P 90 0 [vr 4 b, vr 2 0, vu] [] σ := blk (S := S1) (c := cd_90) (bz := false) [(2, [true, true, true]), (14, [true, true, true])] 600 (S1_ok (d + 2)) rfl rfl rfl h
-- RegionStack$Body.joinParts at 2, 2 leaves
set_option maxRecDepth 100000 in
set_option maxHeartbeats 4000000 in
theorem b_90_2 {d : Nat} {P : AV → SS → Prop} {σ : SS} {b l2 : Int} (h : (((42 : Int) ≤ l2 → G (d + 3) P 90 14 [vr 4 b, vr 2 0, vi 0] [] σ) ∧ (l2 < (42 : Int) → (∀ σ1 : SS, σ1 = us 42 σ 46 b l2 l2 → (ir (l2 + 1) ∧ G (d + 3) P 90 2 [vr 4 b, vr 2 0, vi (l2 + 1)] [] σ1))))) : G (d + 3) P 90 2 [vr 4 b, vr 2 0, vi l2] [] σ := blk (S := S1) (c := cd_90) (bz := false) [(2, [true, true, true]), (14, [true, true, true])] 600 (S1_ok (d + 2)) rfl rfl rfl h
-- RegionStack$Body.joinParts at 14, 6 leaves
set_option maxRecDepth 100000 in
set_option maxHeartbeats 4000000 in
theorem b_90_14 {d : Nat} {P : AV → SS → Prop} {σ : SS} {b l2 : Int} (h : (((σ 6 b 1) ≤ l2 → (((σ 6 b 3) ≠ (1 : Int) → (((rg 42 (σ 46 b) 40) ≠ (rg 42 (σ 46 b) 41) → (((0 : Int) = 0 ∨ (0 : Int) = 1) ∧ (∀ σ1 : SS, σ1 = up σ 4 b 6 (0 : Int) → P vu σ1))) ∧ ((rg 42 (σ 46 b) 40) = (rg 42 (σ 46 b) 41) → (((1 : Int) = 0 ∨ (1 : Int) = 1) ∧ (∀ σ2 : SS, σ2 = up σ 4 b 6 (1 : Int) → P vu σ2))))) ∧ ((σ 6 b 3) = (1 : Int) → (∃ σ3 : SS, Rn (d + 3) 92 [vr 4 b, vi 0, vi 41] σ vu σ3 ∧ (((rg 42 (σ3 46 b) 40) ≠ (rg 42 (σ3 46 b) 41) → (((0 : Int) = 0 ∨ (0 : Int) = 1) ∧ (∀ σ4 : SS, σ4 = up σ3 4 b 6 (0 : Int) → P vu σ4))) ∧ ((rg 42 (σ3 46 b) 40) = (rg 42 (σ3 46 b) 41) → (((1 : Int) = 0 ∨ (1 : Int) = 1) ∧ (∀ σ5 : SS, σ5 = up σ3 4 b 6 (1 : Int) → P vu σ5)))))))) ∧ (l2 < (σ 6 b 1) → (((rg 40 (σ 38 b) l2) ≠ (1 : Int) → (ir (l2 + 1) ∧ G (d + 3) P 90 14 [vr 4 b, vr 2 0, vi (l2 + 1)] [] σ)) ∧ ((rg 40 (σ 38 b) l2) = (1 : Int) → (∃ σ6 : SS, Rn (d + 3) 91 [vr 4 b, vr 2 0, vi l2] σ vu σ6 ∧ (ir (l2 + 1) ∧ G (d + 3) P 90 14 [vr 4 b, vr 2 0, vi (l2 + 1)] [] σ6))))))) : G (d + 3) P 90 14 [vr 4 b, vr 2 0, vi l2] [] σ := blk (S := S1) (c := cd_90) (bz := false) [(2, [true, true, true]), (14, [true, true, true])] 600 (S1_ok (d + 2)) rfl rfl rfl h
-- RegionStack$Body.joinPart at 0, 6 leaves
set_option maxRecDepth 100000 in
set_option maxHeartbeats 4000000 in
theorem b_91_0 {d : Nat} {P : AV → SS → Prop} {σ : SS} {b l2 : Int} (h : (((rg 40 (σ 39 b) l2) ≠ 63 → ((rg 40 (σ 39 b) l2) ≠ 64 → ((rg 40 (σ 39 b) l2) ≠ 108 → ((rg 40 (σ 39 b) l2) ≠ 110 → ((rg 40 (σ 39 b) l2) ≠ 120 → ((ir (3 * (rg 40 (σ 44 b) l2)) ∧ ir (3 * (rg 40 (σ 44 b) l2) + 0)) ∧ (∃ σ1 : SS, Rn (d + 2) 92 [vr 4 b, vi l2, vi (rg 120 (σ 41 b) (3 * (rg 40 (σ 44 b) l2) + 0))] σ vu σ1 ∧ P vu σ1))))))) ∧ (((rg 40 (σ 39 b) l2) = 63 → ((ir (3 * l2) ∧ ir (3 * l2 + 1)) ∧ (∃ σ6 : SS, Rn (d + 2) 92 [vr 4 b, vi l2, vi (rg 120 (σ 41 b) (3 * l2 + 1))] σ vu σ6 ∧ ((ir (3 * l2) ∧ ir (3 * l2 + 2)) ∧ (∃ σ7 : SS, Rn (d + 2) 92 [vr 4 b, vi l2, vi (rg 120 (σ6 41 b) (3 * l2 + 2))] σ6 vu σ7 ∧ P vu σ7))))) ∧ (((rg 40 (σ 39 b) l2) = 64 → (∃ (r5 : Option (Nat × Int)) (σ4 : SS), Rn (d + 2) 15 [vr 2 0, vi (rg 40 (σ 40 b) l2)] σ (.inr (.inl r5)) σ4 ∧ G (d + 2) P 91 45 [vr 4 b, vu, vi l2, vu] [.inr (.inl r5)] σ4)) ∧ (((rg 40 (σ 39 b) l2) = 108 → ((ir (3 * l2) ∧ ir (3 * l2 + 1)) ∧ (∃ σ3 : SS, Rn (d + 2) 92 [vr 4 b, vi l2, vi (rg 120 (σ 41 b) (3 * l2 + 1))] σ vu σ3 ∧ P vu σ3))) ∧ (((rg 40 (σ 39 b) l2) = 110 → P vu σ) ∧ (((rg 40 (σ 39 b) l2) = 120 → (∃ σ2 : SS, Rn (d + 2) 92 [vr 4 b, vi l2, vi 40] σ vu σ2 ∧ P vu σ2)) ∧ True))))))) : G (d + 2) P 91 0 [vr 4 b, vr 2 0, vi l2, vu] [] σ := blk (S := S2) (c := cd_91) (bz := false) [(45, [true, false, true, false])] 600 (S2_ok (d + 0)) rfl rfl rfl h
-- RegionStack$Body.joinPart at 45, 1 leaves
set_option maxRecDepth 100000 in
set_option maxHeartbeats 4000000 in
theorem b_91_45n {d : Nat} {P : AV → SS → Prop} {σ : SS} {b l2 : Int} (h : P vu σ) : G (d + 2) P 91 45 [vr 4 b, vu, vi l2, vu] [vz] σ := blk (S := S2) (c := cd_91) (bz := false) [(45, [true, false, true, false])] 600 (S2_ok (d + 0)) rfl rfl rfl h
-- RegionStack$Body.joinPart at 45, 2 leaves
set_option maxRecDepth 100000 in
set_option maxHeartbeats 4000000 in
theorem b_91_45r {d : Nat} {P : AV → SS → Prop} {σ : SS} {b l2 q : Int} (h : (((σ 4 q 6) = 0 → P vu σ) ∧ ((σ 4 q 6) ≠ 0 → ((ir (3 * l2) ∧ ir (3 * l2 + 0)) ∧ (∃ σ1 : SS, Rn (d + 2) 92 [vr 4 b, vi l2, vi (rg 120 (σ 41 b) (3 * l2 + 0))] σ vu σ1 ∧ P vu σ1))))) : G (d + 2) P 91 45 [vr 4 b, vu, vi l2, vu] [vr 4 q] σ := blk (S := S2) (c := cd_91) (bz := false) [(45, [true, false, true, false])] 600 (S2_ok (d + 0)) rfl rfl rfl h
-- RegionStack$Body.join at 0, 1 leaves
set_option maxRecDepth 100000 in
set_option maxHeartbeats 4000000 in
theorem b_92_0 {d : Nat} {P : AV → SS → Prop} {σ : SS} {b l1 l2 : Int} (h : G (d + 1) P 92 12 [vr 4 b, vu, vu, vi (rg 42 (σ 46 b) l1), vi (rg 42 (σ 46 b) l2), vi 0] [] σ) : G (d + 1) P 92 0 [vr 4 b, vi l1, vi l2, vu, vu, vu] [] σ := blk (S := S1) (c := cd_92) (bz := false) [(12, [true, false, false, true, true, true])] 600 (S1_ok (d + 0)) rfl rfl rfl h
-- RegionStack$Body.join at 12, 3 leaves
set_option maxRecDepth 100000 in
set_option maxHeartbeats 4000000 in
theorem b_92_12 {d : Nat} {P : AV → SS → Prop} {σ : SS} {b l3 l4 l5 : Int} (h : (((42 : Int) ≤ l5 → P vu σ) ∧ (l5 < (42 : Int) → (((rg 42 (σ 46 b) l5) ≠ l4 → (ir (l5 + 1) ∧ G (d + 1) P 92 12 [vr 4 b, vu, vu, vi l3, vi l4, vi (l5 + 1)] [] σ)) ∧ ((rg 42 (σ 46 b) l5) = l4 → (∀ σ1 : SS, σ1 = us 42 σ 46 b l5 l3 → (ir (l5 + 1) ∧ G (d + 1) P 92 12 [vr 4 b, vu, vu, vi l3, vi l4, vi (l5 + 1)] [] σ1))))))) : G (d + 1) P 92 12 [vr 4 b, vu, vu, vi l3, vi l4, vi l5] [] σ := blk (S := S1) (c := cd_92) (bz := false) [(12, [true, false, false, true, true, true])] 600 (S1_ok (d + 0)) rfl rfl rfl h
-- RegionStack$Body.numberParts at 0, 1 leaves
set_option maxRecDepth 100000 in
set_option maxHeartbeats 4000000 in
theorem b_93_0 {d : Nat} {P : AV → SS → Prop} {σ : SS} {b : Int} (h : (∀ σ1 : SS, σ1 = up σ 4 b 8 (0 : Int) → G (d + 3) P 93 5 [vr 4 b, vi 0, vu] [] σ1)) : G (d + 3) P 93 0 [vr 4 b, vu, vu] [] σ := blk (S := S3) (c := cd_93) (bz := false) [(5, [true, true, false]), (36, [true, true, false])] 600 (S3_ok (d + 0)) rfl rfl rfl h
-- RegionStack$Body.numberParts at 5, 5 leaves
set_option maxRecDepth 100000 in
set_option maxHeartbeats 4000000 in
theorem b_93_5 {d : Nat} {P : AV → SS → Prop} {σ : SS} {b l1 : Int} (h : (((σ 6 b 1) ≤ l1 → G (d + 3) P 93 36 [vr 4 b, vi 0, vu] [] σ) ∧ (l1 < (σ 6 b 1) → (((rg 40 (σ 38 b) l1) ≠ (1 : Int) → (((0 : Int) = 0 → (∀ σ1 : SS, σ1 = us 40 σ 47 b l1 (-6) → (ir (l1 + 1) ∧ G (d + 3) P 93 5 [vr 4 b, vi (l1 + 1), vu] [] σ1))) ∧ ((0 : Int) ≠ 0 → (∃ (x3 : Int) (σ2 : SS), Rn (d + 3) 94 [vr 4 b, vi l1] σ (vi x3) σ2 ∧ (∀ σ4 : SS, σ4 = us 40 σ2 47 b l1 x3 → (ir (l1 + 1) ∧ G (d + 3) P 93 5 [vr 4 b, vi (l1 + 1), vu] [] σ4)))))) ∧ ((rg 40 (σ 38 b) l1) = (1 : Int) → (((1 : Int) = 0 → (∀ σ5 : SS, σ5 = us 40 σ 47 b l1 (-6) → (ir (l1 + 1) ∧ G (d + 3) P 93 5 [vr 4 b, vi (l1 + 1), vu] [] σ5))) ∧ ((1 : Int) ≠ 0 → (∃ (x7 : Int) (σ6 : SS), Rn (d + 3) 94 [vr 4 b, vi l1] σ (vi x7) σ6 ∧ (∀ σ8 : SS, σ8 = us 40 σ6 47 b l1 x7 → (ir (l1 + 1) ∧ G (d + 3) P 93 5 [vr 4 b, vi (l1 + 1), vu] [] σ8)))))))))) : G (d + 3) P 93 5 [vr 4 b, vi l1, vu] [] σ := blk (S := S3) (c := cd_93) (bz := false) [(5, [true, true, false]), (36, [true, true, false])] 600 (S3_ok (d + 0)) rfl rfl rfl h
-- RegionStack$Body.numberParts at 36, 5 leaves
set_option maxRecDepth 100000 in
set_option maxHeartbeats 4000000 in
theorem b_93_36 {d : Nat} {P : AV → SS → Prop} {σ : SS} {b l1 : Int} (h : (((σ 6 b 1) ≤ l1 → P vu σ) ∧ (l1 < (σ 6 b 1) → (((tin (rg 40 (σ 39 b) l1)) ≤ 0 → (((0 : Int) = 0 → (∀ σ1 : SS, σ1 = us 40 σ 48 b l1 (-6) → (ir (l1 + 1) ∧ G (d + 3) P 93 36 [vr 4 b, vi (l1 + 1), vu] [] σ1))) ∧ ((0 : Int) ≠ 0 → ((ir (3 * l1) ∧ ir (3 * l1 + 0)) ∧ (∀ σ2 : SS, σ2 = us 40 σ 48 b l1 (rg 40 (σ 47 b) (rg 120 (σ 41 b) (3 * l1 + 0))) → (ir (l1 + 1) ∧ G (d + 3) P 93 36 [vr 4 b, vi (l1 + 1), vu] [] σ2)))))) ∧ (0 < (tin (rg 40 (σ 39 b) l1)) → (((1 : Int) = 0 → (∀ σ3 : SS, σ3 = us 40 σ 48 b l1 (-6) → (ir (l1 + 1) ∧ G (d + 3) P 93 36 [vr 4 b, vi (l1 + 1), vu] [] σ3))) ∧ ((1 : Int) ≠ 0 → ((ir (3 * l1) ∧ ir (3 * l1 + 0)) ∧ (∀ σ4 : SS, σ4 = us 40 σ 48 b l1 (rg 40 (σ 47 b) (rg 120 (σ 41 b) (3 * l1 + 0))) → (ir (l1 + 1) ∧ G (d + 3) P 93 36 [vr 4 b, vi (l1 + 1), vu] [] σ4)))))))))) : G (d + 3) P 93 36 [vr 4 b, vi l1, vu] [] σ := blk (S := S3) (c := cd_93) (bz := false) [(5, [true, true, false]), (36, [true, true, false])] 600 (S3_ok (d + 0)) rfl rfl rfl h
-- RegionStack$Body.findNumber at 0, 3 leaves
set_option maxRecDepth 100000 in
set_option maxHeartbeats 4000000 in
theorem b_94_0 {d : Nat} {P : AV → SS → Prop} {σ : SS} {b l1 : Int} (h : (((rg 42 (σ 46 b) l1) ≠ (rg 42 (σ 46 b) 40) → (((rg 42 (σ 46 b) l1) ≠ (rg 42 (σ 46 b) 41) → G (d + 1) P 94 23 [vr 4 b, vi l1, vi (rg 42 (σ 46 b) l1), vi 0] [] σ) ∧ ((rg 42 (σ 46 b) l1) = (rg 42 (σ 46 b) 41) → P (vi (1 : Int)) σ))) ∧ ((rg 42 (σ 46 b) l1) = (rg 42 (σ 46 b) 40) → P (vi (0 : Int)) σ))) : G (d + 1) P 94 0 [vr 4 b, vi l1, vu, vu] [] σ := blk (S := S1) (c := cd_94) (bz := false) [(23, [true, true, true, true])] 600 (S1_ok (d + 0)) rfl rfl rfl h
-- RegionStack$Body.findNumber at 23, 4 leaves
set_option maxRecDepth 100000 in
set_option maxHeartbeats 4000000 in
theorem b_94_23 {d : Nat} {P : AV → SS → Prop} {σ : SS} {b l1 l2 l3 : Int} (h : ((l1 ≤ l3 → (ir ((σ 4 b 8) + 1) ∧ (∀ σ1 : SS, σ1 = up σ 4 b 8 ((σ 4 b 8) + 1) → (ir ((2 : Int) + (σ1 4 b 8)) ∧ (ir (((2 : Int) + (σ1 4 b 8)) - 1) ∧ P (vi (((2 : Int) + (σ1 4 b 8)) - 1)) σ1))))) ∧ (l3 < l1 → (((rg 40 (σ 47 b) l3) = ((-6) : Int) → (ir (l3 + 1) ∧ G (d + 1) P 94 23 [vr 4 b, vi l1, vi l2, vi (l3 + 1)] [] σ)) ∧ ((rg 40 (σ 47 b) l3) ≠ ((-6) : Int) → (((rg 42 (σ 46 b) l3) ≠ l2 → (ir (l3 + 1) ∧ G (d + 1) P 94 23 [vr 4 b, vi l1, vi l2, vi (l3 + 1)] [] σ)) ∧ ((rg 42 (σ 46 b) l3) = l2 → P (vi (rg 40 (σ 47 b) l3)) σ))))))) : G (d + 1) P 94 23 [vr 4 b, vi l1, vi l2, vi l3] [] σ := blk (S := S1) (c := cd_94) (bz := false) [(23, [true, true, true, true])] 600 (S1_ok (d + 0)) rfl rfl rfl h
-- RegionStack$Body.findEffect at 0, 2 leaves
set_option maxRecDepth 100000 in
set_option maxHeartbeats 4000000 in
theorem b_95_0 {d : Nat} {P : AV → SS → Prop} {σ : SS} {b : Int} (h : (((σ 4 b 6) = 0 → G (d + 3) P 95 11 [vr 4 b, vr 2 0, vi 1, vi 0, vi 0] [] σ) ∧ ((σ 4 b 6) ≠ 0 → G (d + 3) P 95 11 [vr 4 b, vr 2 0, vi 0, vi 0, vi 0] [] σ))) : G (d + 3) P 95 0 [vr 4 b, vr 2 0, vu, vu, vu] [] σ := blk (S := noS) (c := cd_95) (bz := false) [(11, [true, true, true, true, true])] 600 (SV_no _) rfl rfl rfl h
-- RegionStack$Body.findEffect at 11, 17 leaves
set_option maxRecDepth 100000 in
set_option maxHeartbeats 4000000 in
theorem b_95_11 {d : Nat} {P : AV → SS → Prop} {σ : SS} {b l2 l3 l4 : Int} (h : (((σ 6 b 1) ≤ l4 → P (vi l3) σ) ∧ (l4 < (σ 6 b 1) → (∃ (x2 : Int) (σ1 : SS), Rn (d + 3) 99 [vr 4 b, vr 2 0, vi l4, vi 0] σ (vi x2) σ1 ∧ ((x2 = 0 → ((0 ≤ l3 ∧ 0 ≤ (0 : Int)) ∧ (∃ (x4 : Int) (σ3 : SS), Rn (d + 3) 100 [vr 4 b, vr 2 0, vi l4, vi 0] σ1 (vi x4) σ3 ∧ ((x4 = 0 → ((0 ≤ (((l3).toNat ||| ((0 : Int)).toNat : Nat) : Int) ∧ 0 ≤ (0 : Int)) ∧ (∃ (x6 : Int) (σ5 : SS), Rn (d + 3) 99 [vr 4 b, vr 2 0, vi l4, vi l2] σ3 (vi x6) σ5 ∧ ((x6 = 0 → ((0 ≤ ((((((l3).toNat ||| ((0 : Int)).toNat : Nat) : Int)).toNat ||| ((0 : Int)).toNat : Nat) : Int) ∧ 0 ≤ (0 : Int)) ∧ (∃ (x8 : Int) (σ7 : SS), Rn (d + 3) 100 [vr 4 b, vr 2 0, vi l4, vi l2] σ5 (vi x8) σ7 ∧ ((x8 = 0 → ((0 ≤ (((((((((l3).toNat ||| ((0 : Int)).toNat : Nat) : Int)).toNat ||| ((0 : Int)).toNat : Nat) : Int)).toNat ||| ((0 : Int)).toNat : Nat) : Int) ∧ 0 ≤ (0 : Int)) ∧ (ir (l4 + 1) ∧ G (d + 3) P 95 11 [vr 4 b, vr 2 0, vi l2, vi ((((((((((((l3).toNat ||| ((0 : Int)).toNat : Nat) : Int)).toNat ||| ((0 : Int)).toNat : Nat) : Int)).toNat ||| ((0 : Int)).toNat : Nat) : Int)).toNat ||| ((0 : Int)).toNat : Nat) : Int), vi (l4 + 1)] [] σ7))) ∧ (x8 ≠ 0 → ((0 ≤ (((((((((l3).toNat ||| ((0 : Int)).toNat : Nat) : Int)).toNat ||| ((0 : Int)).toNat : Nat) : Int)).toNat ||| ((0 : Int)).toNat : Nat) : Int) ∧ 0 ≤ (8 : Int)) ∧ (ir (l4 + 1) ∧ G (d + 3) P 95 11 [vr 4 b, vr 2 0, vi l2, vi ((((((((((((l3).toNat ||| ((0 : Int)).toNat : Nat) : Int)).toNat ||| ((0 : Int)).toNat : Nat) : Int)).toNat ||| ((0 : Int)).toNat : Nat) : Int)).toNat ||| ((8 : Int)).toNat : Nat) : Int), vi (l4 + 1)] [] σ7))))))) ∧ (x6 ≠ 0 → ((0 ≤ ((((((l3).toNat ||| ((0 : Int)).toNat : Nat) : Int)).toNat ||| ((0 : Int)).toNat : Nat) : Int) ∧ 0 ≤ (4 : Int)) ∧ (∃ (x10 : Int) (σ9 : SS), Rn (d + 3) 100 [vr 4 b, vr 2 0, vi l4, vi l2] σ5 (vi x10) σ9 ∧ ((x10 = 0 → ((0 ≤ (((((((((l3).toNat ||| ((0 : Int)).toNat : Nat) : Int)).toNat ||| ((0 : Int)).toNat : Nat) : Int)).toNat ||| ((4 : Int)).toNat : Nat) : Int) ∧ 0 ≤ (0 : Int)) ∧ (ir (l4 + 1) ∧ G (d + 3) P 95 11 [vr 4 b, vr 2 0, vi l2, vi ((((((((((((l3).toNat ||| ((0 : Int)).toNat : Nat) : Int)).toNat ||| ((0 : Int)).toNat : Nat) : Int)).toNat ||| ((4 : Int)).toNat : Nat) : Int)).toNat ||| ((0 : Int)).toNat : Nat) : Int), vi (l4 + 1)] [] σ9))) ∧ (x10 ≠ 0 → ((0 ≤ (((((((((l3).toNat ||| ((0 : Int)).toNat : Nat) : Int)).toNat ||| ((0 : Int)).toNat : Nat) : Int)).toNat ||| ((4 : Int)).toNat : Nat) : Int) ∧ 0 ≤ (8 : Int)) ∧ (ir (l4 + 1) ∧ G (d + 3) P 95 11 [vr 4 b, vr 2 0, vi l2, vi ((((((((((((l3).toNat ||| ((0 : Int)).toNat : Nat) : Int)).toNat ||| ((0 : Int)).toNat : Nat) : Int)).toNat ||| ((4 : Int)).toNat : Nat) : Int)).toNat ||| ((8 : Int)).toNat : Nat) : Int), vi (l4 + 1)] [] σ9))))))))))) ∧ (x4 ≠ 0 → ((0 ≤ (((l3).toNat ||| ((0 : Int)).toNat : Nat) : Int) ∧ 0 ≤ (2 : Int)) ∧ (∃ (x12 : Int) (σ11 : SS), Rn (d + 3) 99 [vr 4 b, vr 2 0, vi l4, vi l2] σ3 (vi x12) σ11 ∧ ((x12 = 0 → ((0 ≤ ((((((l3).toNat ||| ((0 : Int)).toNat : Nat) : Int)).toNat ||| ((2 : Int)).toNat : Nat) : Int) ∧ 0 ≤ (0 : Int)) ∧ (∃ (x14 : Int) (σ13 : SS), Rn (d + 3) 100 [vr 4 b, vr 2 0, vi l4, vi l2] σ11 (vi x14) σ13 ∧ ((x14 = 0 → ((0 ≤ (((((((((l3).toNat ||| ((0 : Int)).toNat : Nat) : Int)).toNat ||| ((2 : Int)).toNat : Nat) : Int)).toNat ||| ((0 : Int)).toNat : Nat) : Int) ∧ 0 ≤ (0 : Int)) ∧ (ir (l4 + 1) ∧ G (d + 3) P 95 11 [vr 4 b, vr 2 0, vi l2, vi ((((((((((((l3).toNat ||| ((0 : Int)).toNat : Nat) : Int)).toNat ||| ((2 : Int)).toNat : Nat) : Int)).toNat ||| ((0 : Int)).toNat : Nat) : Int)).toNat ||| ((0 : Int)).toNat : Nat) : Int), vi (l4 + 1)] [] σ13))) ∧ (x14 ≠ 0 → ((0 ≤ (((((((((l3).toNat ||| ((0 : Int)).toNat : Nat) : Int)).toNat ||| ((2 : Int)).toNat : Nat) : Int)).toNat ||| ((0 : Int)).toNat : Nat) : Int) ∧ 0 ≤ (8 : Int)) ∧ (ir (l4 + 1) ∧ G (d + 3) P 95 11 [vr 4 b, vr 2 0, vi l2, vi ((((((((((((l3).toNat ||| ((0 : Int)).toNat : Nat) : Int)).toNat ||| ((2 : Int)).toNat : Nat) : Int)).toNat ||| ((0 : Int)).toNat : Nat) : Int)).toNat ||| ((8 : Int)).toNat : Nat) : Int), vi (l4 + 1)] [] σ13))))))) ∧ (x12 ≠ 0 → ((0 ≤ ((((((l3).toNat ||| ((0 : Int)).toNat : Nat) : Int)).toNat ||| ((2 : Int)).toNat : Nat) : Int) ∧ 0 ≤ (4 : Int)) ∧ (∃ (x16 : Int) (σ15 : SS), Rn (d + 3) 100 [vr 4 b, vr 2 0, vi l4, vi l2] σ11 (vi x16) σ15 ∧ ((x16 = 0 → ((0 ≤ (((((((((l3).toNat ||| ((0 : Int)).toNat : Nat) : Int)).toNat ||| ((2 : Int)).toNat : Nat) : Int)).toNat ||| ((4 : Int)).toNat : Nat) : Int) ∧ 0 ≤ (0 : Int)) ∧ (ir (l4 + 1) ∧ G (d + 3) P 95 11 [vr 4 b, vr 2 0, vi l2, vi ((((((((((((l3).toNat ||| ((0 : Int)).toNat : Nat) : Int)).toNat ||| ((2 : Int)).toNat : Nat) : Int)).toNat ||| ((4 : Int)).toNat : Nat) : Int)).toNat ||| ((0 : Int)).toNat : Nat) : Int), vi (l4 + 1)] [] σ15))) ∧ (x16 ≠ 0 → ((0 ≤ (((((((((l3).toNat ||| ((0 : Int)).toNat : Nat) : Int)).toNat ||| ((2 : Int)).toNat : Nat) : Int)).toNat ||| ((4 : Int)).toNat : Nat) : Int) ∧ 0 ≤ (8 : Int)) ∧ (ir (l4 + 1) ∧ G (d + 3) P 95 11 [vr 4 b, vr 2 0, vi l2, vi ((((((((((((l3).toNat ||| ((0 : Int)).toNat : Nat) : Int)).toNat ||| ((2 : Int)).toNat : Nat) : Int)).toNat ||| ((4 : Int)).toNat : Nat) : Int)).toNat ||| ((8 : Int)).toNat : Nat) : Int), vi (l4 + 1)] [] σ15))))))))))))))) ∧ (x2 ≠ 0 → ((0 ≤ l3 ∧ 0 ≤ (1 : Int)) ∧ (∃ (x18 : Int) (σ17 : SS), Rn (d + 3) 100 [vr 4 b, vr 2 0, vi l4, vi 0] σ1 (vi x18) σ17 ∧ ((x18 = 0 → ((0 ≤ (((l3).toNat ||| ((1 : Int)).toNat : Nat) : Int) ∧ 0 ≤ (0 : Int)) ∧ (∃ (x20 : Int) (σ19 : SS), Rn (d + 3) 99 [vr 4 b, vr 2 0, vi l4, vi l2] σ17 (vi x20) σ19 ∧ ((x20 = 0 → ((0 ≤ ((((((l3).toNat ||| ((1 : Int)).toNat : Nat) : Int)).toNat ||| ((0 : Int)).toNat : Nat) : Int) ∧ 0 ≤ (0 : Int)) ∧ (∃ (x22 : Int) (σ21 : SS), Rn (d + 3) 100 [vr 4 b, vr 2 0, vi l4, vi l2] σ19 (vi x22) σ21 ∧ ((x22 = 0 → ((0 ≤ (((((((((l3).toNat ||| ((1 : Int)).toNat : Nat) : Int)).toNat ||| ((0 : Int)).toNat : Nat) : Int)).toNat ||| ((0 : Int)).toNat : Nat) : Int) ∧ 0 ≤ (0 : Int)) ∧ (ir (l4 + 1) ∧ G (d + 3) P 95 11 [vr 4 b, vr 2 0, vi l2, vi ((((((((((((l3).toNat ||| ((1 : Int)).toNat : Nat) : Int)).toNat ||| ((0 : Int)).toNat : Nat) : Int)).toNat ||| ((0 : Int)).toNat : Nat) : Int)).toNat ||| ((0 : Int)).toNat : Nat) : Int), vi (l4 + 1)] [] σ21))) ∧ (x22 ≠ 0 → ((0 ≤ (((((((((l3).toNat ||| ((1 : Int)).toNat : Nat) : Int)).toNat ||| ((0 : Int)).toNat : Nat) : Int)).toNat ||| ((0 : Int)).toNat : Nat) : Int) ∧ 0 ≤ (8 : Int)) ∧ (ir (l4 + 1) ∧ G (d + 3) P 95 11 [vr 4 b, vr 2 0, vi l2, vi ((((((((((((l3).toNat ||| ((1 : Int)).toNat : Nat) : Int)).toNat ||| ((0 : Int)).toNat : Nat) : Int)).toNat ||| ((0 : Int)).toNat : Nat) : Int)).toNat ||| ((8 : Int)).toNat : Nat) : Int), vi (l4 + 1)] [] σ21))))))) ∧ (x20 ≠ 0 → ((0 ≤ ((((((l3).toNat ||| ((1 : Int)).toNat : Nat) : Int)).toNat ||| ((0 : Int)).toNat : Nat) : Int) ∧ 0 ≤ (4 : Int)) ∧ (∃ (x24 : Int) (σ23 : SS), Rn (d + 3) 100 [vr 4 b, vr 2 0, vi l4, vi l2] σ19 (vi x24) σ23 ∧ ((x24 = 0 → ((0 ≤ (((((((((l3).toNat ||| ((1 : Int)).toNat : Nat) : Int)).toNat ||| ((0 : Int)).toNat : Nat) : Int)).toNat ||| ((4 : Int)).toNat : Nat) : Int) ∧ 0 ≤ (0 : Int)) ∧ (ir (l4 + 1) ∧ G (d + 3) P 95 11 [vr 4 b, vr 2 0, vi l2, vi ((((((((((((l3).toNat ||| ((1 : Int)).toNat : Nat) : Int)).toNat ||| ((0 : Int)).toNat : Nat) : Int)).toNat ||| ((4 : Int)).toNat : Nat) : Int)).toNat ||| ((0 : Int)).toNat : Nat) : Int), vi (l4 + 1)] [] σ23))) ∧ (x24 ≠ 0 → ((0 ≤ (((((((((l3).toNat ||| ((1 : Int)).toNat : Nat) : Int)).toNat ||| ((0 : Int)).toNat : Nat) : Int)).toNat ||| ((4 : Int)).toNat : Nat) : Int) ∧ 0 ≤ (8 : Int)) ∧ (ir (l4 + 1) ∧ G (d + 3) P 95 11 [vr 4 b, vr 2 0, vi l2, vi ((((((((((((l3).toNat ||| ((1 : Int)).toNat : Nat) : Int)).toNat ||| ((0 : Int)).toNat : Nat) : Int)).toNat ||| ((4 : Int)).toNat : Nat) : Int)).toNat ||| ((8 : Int)).toNat : Nat) : Int), vi (l4 + 1)] [] σ23))))))))))) ∧ (x18 ≠ 0 → ((0 ≤ (((l3).toNat ||| ((1 : Int)).toNat : Nat) : Int) ∧ 0 ≤ (2 : Int)) ∧ (∃ (x26 : Int) (σ25 : SS), Rn (d + 3) 99 [vr 4 b, vr 2 0, vi l4, vi l2] σ17 (vi x26) σ25 ∧ ((x26 = 0 → ((0 ≤ ((((((l3).toNat ||| ((1 : Int)).toNat : Nat) : Int)).toNat ||| ((2 : Int)).toNat : Nat) : Int) ∧ 0 ≤ (0 : Int)) ∧ (∃ (x28 : Int) (σ27 : SS), Rn (d + 3) 100 [vr 4 b, vr 2 0, vi l4, vi l2] σ25 (vi x28) σ27 ∧ ((x28 = 0 → ((0 ≤ (((((((((l3).toNat ||| ((1 : Int)).toNat : Nat) : Int)).toNat ||| ((2 : Int)).toNat : Nat) : Int)).toNat ||| ((0 : Int)).toNat : Nat) : Int) ∧ 0 ≤ (0 : Int)) ∧ (ir (l4 + 1) ∧ G (d + 3) P 95 11 [vr 4 b, vr 2 0, vi l2, vi ((((((((((((l3).toNat ||| ((1 : Int)).toNat : Nat) : Int)).toNat ||| ((2 : Int)).toNat : Nat) : Int)).toNat ||| ((0 : Int)).toNat : Nat) : Int)).toNat ||| ((0 : Int)).toNat : Nat) : Int), vi (l4 + 1)] [] σ27))) ∧ (x28 ≠ 0 → ((0 ≤ (((((((((l3).toNat ||| ((1 : Int)).toNat : Nat) : Int)).toNat ||| ((2 : Int)).toNat : Nat) : Int)).toNat ||| ((0 : Int)).toNat : Nat) : Int) ∧ 0 ≤ (8 : Int)) ∧ (ir (l4 + 1) ∧ G (d + 3) P 95 11 [vr 4 b, vr 2 0, vi l2, vi ((((((((((((l3).toNat ||| ((1 : Int)).toNat : Nat) : Int)).toNat ||| ((2 : Int)).toNat : Nat) : Int)).toNat ||| ((0 : Int)).toNat : Nat) : Int)).toNat ||| ((8 : Int)).toNat : Nat) : Int), vi (l4 + 1)] [] σ27))))))) ∧ (x26 ≠ 0 → ((0 ≤ ((((((l3).toNat ||| ((1 : Int)).toNat : Nat) : Int)).toNat ||| ((2 : Int)).toNat : Nat) : Int) ∧ 0 ≤ (4 : Int)) ∧ (∃ (x30 : Int) (σ29 : SS), Rn (d + 3) 100 [vr 4 b, vr 2 0, vi l4, vi l2] σ25 (vi x30) σ29 ∧ ((x30 = 0 → ((0 ≤ (((((((((l3).toNat ||| ((1 : Int)).toNat : Nat) : Int)).toNat ||| ((2 : Int)).toNat : Nat) : Int)).toNat ||| ((4 : Int)).toNat : Nat) : Int) ∧ 0 ≤ (0 : Int)) ∧ (ir (l4 + 1) ∧ G (d + 3) P 95 11 [vr 4 b, vr 2 0, vi l2, vi ((((((((((((l3).toNat ||| ((1 : Int)).toNat : Nat) : Int)).toNat ||| ((2 : Int)).toNat : Nat) : Int)).toNat ||| ((4 : Int)).toNat : Nat) : Int)).toNat ||| ((0 : Int)).toNat : Nat) : Int), vi (l4 + 1)] [] σ29))) ∧ (x30 ≠ 0 → ((0 ≤ (((((((((l3).toNat ||| ((1 : Int)).toNat : Nat) : Int)).toNat ||| ((2 : Int)).toNat : Nat) : Int)).toNat ||| ((4 : Int)).toNat : Nat) : Int) ∧ 0 ≤ (8 : Int)) ∧ (ir (l4 + 1) ∧ G (d + 3) P 95 11 [vr 4 b, vr 2 0, vi l2, vi ((((((((((((l3).toNat ||| ((1 : Int)).toNat : Nat) : Int)).toNat ||| ((2 : Int)).toNat : Nat) : Int)).toNat ||| ((4 : Int)).toNat : Nat) : Int)).toNat ||| ((8 : Int)).toNat : Nat) : Int), vi (l4 + 1)] [] σ29)))))))))))))))))))) : G (d + 3) P 95 11 [vr 4 b, vr 2 0, vi l2, vi l3, vi l4] [] σ := blk (S := noS) (c := cd_95) (bz := false) [(11, [true, true, true, true, true])] 600 (SV_no _) rfl rfl rfl h
-- RegionStack$Body.findHomes at 0, 1 leaves
set_option maxRecDepth 100000 in
set_option maxHeartbeats 4000000 in
theorem b_96_0 {d : Nat} {P : AV → SS → Prop} {σ : SS} {b : Int} (h : G (d + 2) P 96 2 [vr 4 b, vi 2, vu, vu] [] σ) : G (d + 2) P 96 0 [vr 4 b, vu, vu, vu] [] σ := blk (S := S1) (c := cd_96) (bz := false) [(2, [true, true, false, false]), (12, [true, true, true, true])] 600 (S1_ok (d + 1)) rfl rfl rfl h
-- RegionStack$Body.findHomes at 2, 2 leaves
set_option maxRecDepth 100000 in
set_option maxHeartbeats 4000000 in
theorem b_96_2 {d : Nat} {P : AV → SS → Prop} {σ : SS} {b l1 : Int} (h : (ir ((2 : Int) + (σ 4 b 8)) ∧ ((((2 : Int) + (σ 4 b 8)) ≤ l1 → P vu σ) ∧ (l1 < ((2 : Int) + (σ 4 b 8)) → G (d + 2) P 96 12 [vr 4 b, vi l1, vi (-6), vi 0] [] σ)))) : G (d + 2) P 96 2 [vr 4 b, vi l1, vu, vu] [] σ := blk (S := S1) (c := cd_96) (bz := false) [(2, [true, true, false, false]), (12, [true, true, true, true])] 600 (S1_ok (d + 1)) rfl rfl rfl h
-- RegionStack$Body.findHomes at 12, 4 leaves
set_option maxRecDepth 100000 in
set_option maxHeartbeats 4000000 in
theorem b_96_12 {d : Nat} {P : AV → SS → Prop} {σ : SS} {b l1 l2 l3 : Int} (h : (((σ 6 b 1) ≤ l3 → (∀ σ1 : SS, σ1 = us 42 σ 49 b l1 l2 → (ir (l1 + 1) ∧ G (d + 2) P 96 2 [vr 4 b, vi (l1 + 1), vu, vu] [] σ1))) ∧ (l3 < (σ 6 b 1) → (∃ (x3 : Int) (σ2 : SS), Rn (d + 2) 98 [vr 4 b, vi l3, vi l1] σ (vi x3) σ2 ∧ ((x3 = 0 → (ir (l3 + 1) ∧ G (d + 2) P 96 12 [vr 4 b, vi l1, vi l2, vi (l3 + 1)] [] σ2)) ∧ (x3 ≠ 0 → ((l2 ≠ ((-6) : Int) → (∃ (x5 : Int) (σ4 : SS), Rn (d + 2) 132 [vr 5 b, vi l2, vi l3] σ2 (vi x5) σ4 ∧ (ir (l3 + 1) ∧ G (d + 2) P 96 12 [vr 4 b, vi l1, vi x5, vi (l3 + 1)] [] σ4))) ∧ (l2 = ((-6) : Int) → (ir (l3 + 1) ∧ G (d + 2) P 96 12 [vr 4 b, vi l1, vi l3, vi (l3 + 1)] [] σ2))))))))) : G (d + 2) P 96 12 [vr 4 b, vi l1, vi l2, vi l3] [] σ := blk (S := S1) (c := cd_96) (bz := false) [(2, [true, true, false, false]), (12, [true, true, true, true])] 600 (S1_ok (d + 1)) rfl rfl rfl h
-- RegionStack$Body.countOf at 0, 1 leaves
set_option maxRecDepth 100000 in
set_option maxHeartbeats 4000000 in
theorem b_97_0 {d : Nat} {P : AV → SS → Prop} {σ : SS} {b l2 l3 : Int} (h : G (d + 3) P 97 4 [vr 4 b, vr 2 0, vi l2, vi l3, vi 0, vi 0, vu] [] σ) : G (d + 3) P 97 0 [vr 4 b, vr 2 0, vi l2, vi l3, vu, vu, vu] [] σ := blk (S := noS) (c := cd_97) (bz := false) [(4, [true, true, true, true, true, true, false])] 600 (SV_no _) rfl rfl rfl h
-- RegionStack$Body.countOf at 4, 7 leaves
set_option maxRecDepth 100000 in
set_option maxHeartbeats 4000000 in
theorem b_97_4 {d : Nat} {P : AV → SS → Prop} {σ : SS} {b l2 l3 l4 l5 : Int} (h : (((σ 6 b 1) ≤ l5 → P (vi l4) σ) ∧ (l5 < (σ 6 b 1) → ((l3 ≠ 0 → ((l3 ≠ (1 : Int) → (∃ (x2 : Int) (σ1 : SS), Rn (d + 3) 100 [vr 4 b, vr 2 0, vi l5, vi l2] σ (vi x2) σ1 ∧ ((x2 = 0 → (ir (l4 + 0) ∧ (ir (l5 + 1) ∧ G (d + 3) P 97 4 [vr 4 b, vr 2 0, vi l2, vi l3, vi (l4 + 0), vi (l5 + 1), vu] [] σ1))) ∧ (x2 ≠ 0 → (ir (l4 + 1) ∧ (ir (l5 + 1) ∧ G (d + 3) P 97 4 [vr 4 b, vr 2 0, vi l2, vi l3, vi (l4 + 1), vi (l5 + 1), vu] [] σ1)))))) ∧ (l3 = (1 : Int) → (∃ (x4 : Int) (σ3 : SS), Rn (d + 3) 99 [vr 4 b, vr 2 0, vi l5, vi l2] σ (vi x4) σ3 ∧ ((x4 = 0 → (ir (l4 + 0) ∧ (ir (l5 + 1) ∧ G (d + 3) P 97 4 [vr 4 b, vr 2 0, vi l2, vi l3, vi (l4 + 0), vi (l5 + 1), vu] [] σ3))) ∧ (x4 ≠ 0 → (ir (l4 + 1) ∧ (ir (l5 + 1) ∧ G (d + 3) P 97 4 [vr 4 b, vr 2 0, vi l2, vi l3, vi (l4 + 1), vi (l5 + 1), vu] [] σ3)))))))) ∧ (l3 = 0 → (∃ (x6 : Int) (σ5 : SS), Rn (d + 3) 98 [vr 4 b, vi l5, vi l2] σ (vi x6) σ5 ∧ ((x6 = 0 → (ir (l4 + 0) ∧ (ir (l5 + 1) ∧ G (d + 3) P 97 4 [vr 4 b, vr 2 0, vi l2, vi l3, vi (l4 + 0), vi (l5 + 1), vu] [] σ5))) ∧ (x6 ≠ 0 → (ir (l4 + 1) ∧ (ir (l5 + 1) ∧ G (d + 3) P 97 4 [vr 4 b, vr 2 0, vi l2, vi l3, vi (l4 + 1), vi (l5 + 1), vu] [] σ5)))))))))) : G (d + 3) P 97 4 [vr 4 b, vr 2 0, vi l2, vi l3, vi l4, vi l5, vu] [] σ := blk (S := noS) (c := cd_97) (bz := false) [(4, [true, true, true, true, true, true, false])] 600 (SV_no _) rfl rfl rfl h
-- RegionStack$Body.touchesIt at 0, 12 leaves
set_option maxRecDepth 100000 in
set_option maxHeartbeats 4000000 in
theorem b_98_0 {d : Nat} {P : AV → SS → Prop} {σ : SS} {b l1 l2 : Int} (h : (((rg 40 (σ 39 b) l1) = (42 : Int) → (((rg 40 (σ 47 b) l1) = l2 → (((1 : Int) = 0 ∨ (1 : Int) = 1) ∧ P (vi (1 : Int)) σ)) ∧ ((rg 40 (σ 47 b) l1) ≠ l2 → (((1 : Int) = 0 → (((0 : Int) = 0 ∨ (0 : Int) = 1) ∧ P (vi (0 : Int)) σ)) ∧ ((1 : Int) ≠ 0 → (((rg 40 (σ 48 b) l1) ≠ l2 → (((0 : Int) = 0 ∨ (0 : Int) = 1) ∧ P (vi (0 : Int)) σ)) ∧ ((rg 40 (σ 48 b) l1) = l2 → (((1 : Int) = 0 ∨ (1 : Int) = 1) ∧ P (vi (1 : Int)) σ)))))))) ∧ ((rg 40 (σ 39 b) l1) ≠ (42 : Int) → (((rg 40 (σ 39 b) l1) ≠ (64 : Int) → (((rg 40 (σ 47 b) l1) = l2 → (((1 : Int) = 0 ∨ (1 : Int) = 1) ∧ P (vi (1 : Int)) σ)) ∧ ((rg 40 (σ 47 b) l1) ≠ l2 → (((0 : Int) = 0 → (((0 : Int) = 0 ∨ (0 : Int) = 1) ∧ P (vi (0 : Int)) σ)) ∧ ((0 : Int) ≠ 0 → (((rg 40 (σ 48 b) l1) ≠ l2 → (((0 : Int) = 0 ∨ (0 : Int) = 1) ∧ P (vi (0 : Int)) σ)) ∧ ((rg 40 (σ 48 b) l1) = l2 → (((1 : Int) = 0 ∨ (1 : Int) = 1) ∧ P (vi (1 : Int)) σ)))))))) ∧ ((rg 40 (σ 39 b) l1) = (64 : Int) → (((rg 40 (σ 47 b) l1) = l2 → (((1 : Int) = 0 ∨ (1 : Int) = 1) ∧ P (vi (1 : Int)) σ)) ∧ ((rg 40 (σ 47 b) l1) ≠ l2 → (((1 : Int) = 0 → (((0 : Int) = 0 ∨ (0 : Int) = 1) ∧ P (vi (0 : Int)) σ)) ∧ ((1 : Int) ≠ 0 → (((rg 40 (σ 48 b) l1) ≠ l2 → (((0 : Int) = 0 ∨ (0 : Int) = 1) ∧ P (vi (0 : Int)) σ)) ∧ ((rg 40 (σ 48 b) l1) = l2 → (((1 : Int) = 0 ∨ (1 : Int) = 1) ∧ P (vi (1 : Int)) σ)))))))))))) : G (d + 1) P 98 0 [vr 4 b, vi l1, vi l2, vu, vu] [] σ := blk (S := S1) (c := cd_98) (bz := true) [] 600 (S1_ok (d + 0)) rfl rfl rfl h
-- RegionStack$Body.putsInto at 0, 5 leaves
set_option maxRecDepth 100000 in
set_option maxHeartbeats 4000000 in
theorem b_99_0 {d : Nat} {P : AV → SS → Prop} {σ : SS} {b l2 l3 : Int} (h : (((rg 40 (σ 39 b) l2) ≠ (110 : Int) → (((rg 40 (σ 39 b) l2) ≠ (64 : Int) → (((0 : Int) = 0 ∨ (0 : Int) = 1) ∧ P (vi (0 : Int)) σ)) ∧ ((rg 40 (σ 39 b) l2) = (64 : Int) → (∃ (x2 : Int) (σ1 : SS), Rn (d + 2) 101 [vr 4 b, vr 2 0, vi l2, vi l3, vi 1, vi 4] σ (vi x2) σ1 ∧ ((x2 = 0 → (((0 : Int) = 0 ∨ (0 : Int) = 1) ∧ P (vi (0 : Int)) σ1)) ∧ (x2 ≠ 0 → (((1 : Int) = 0 ∨ (1 : Int) = 1) ∧ P (vi (1 : Int)) σ1))))))) ∧ ((rg 40 (σ 39 b) l2) = (110 : Int) → (((rg 40 (σ 47 b) l2) ≠ l3 → (((0 : Int) = 0 ∨ (0 : Int) = 1) ∧ P (vi (0 : Int)) σ)) ∧ ((rg 40 (σ 47 b) l2) = l3 → (((1 : Int) = 0 ∨ (1 : Int) = 1) ∧ P (vi (1 : Int)) σ)))))) : G (d + 2) P 99 0 [vr 4 b, vr 2 0, vi l2, vi l3, vu] [] σ := blk (S := S1) (c := cd_99) (bz := true) [] 600 (S1_ok (d + 1)) rfl rfl rfl h
-- RegionStack$Body.looksInto at 0, 5 leaves
set_option maxRecDepth 100000 in
set_option maxHeartbeats 4000000 in
theorem b_100_0 {d : Nat} {P : AV → SS → Prop} {σ : SS} {b l2 l3 : Int} (h : (((rg 40 (σ 39 b) l2) ≠ (42 : Int) → (((rg 40 (σ 39 b) l2) ≠ (64 : Int) → (((0 : Int) = 0 ∨ (0 : Int) = 1) ∧ P (vi (0 : Int)) σ)) ∧ ((rg 40 (σ 39 b) l2) = (64 : Int) → (∃ (x2 : Int) (σ1 : SS), Rn (d + 2) 101 [vr 4 b, vr 2 0, vi l2, vi l3, vi 2, vi 8] σ (vi x2) σ1 ∧ ((x2 = 0 → (((0 : Int) = 0 ∨ (0 : Int) = 1) ∧ P (vi (0 : Int)) σ1)) ∧ (x2 ≠ 0 → (((1 : Int) = 0 ∨ (1 : Int) = 1) ∧ P (vi (1 : Int)) σ1))))))) ∧ ((rg 40 (σ 39 b) l2) = (42 : Int) → (((rg 40 (σ 48 b) l2) ≠ l3 → (((0 : Int) = 0 ∨ (0 : Int) = 1) ∧ P (vi (0 : Int)) σ)) ∧ ((rg 40 (σ 48 b) l2) = l3 → (((1 : Int) = 0 ∨ (1 : Int) = 1) ∧ P (vi (1 : Int)) σ)))))) : G (d + 2) P 100 0 [vr 4 b, vr 2 0, vi l2, vi l3, vu] [] σ := blk (S := S1) (c := cd_100) (bz := true) [] 600 (S1_ok (d + 1)) rfl rfl rfl h
-- RegionStack$Body.callDoes at 0, 1 leaves
set_option maxRecDepth 100000 in
set_option maxHeartbeats 4000000 in
theorem b_101_0 {d : Nat} {P : AV → SS → Prop} {σ : SS} {b l2 l3 l4 l5 : Int} (h : (∃ (r2 : Option (Nat × Int)) (σ1 : SS), Rn (d + 1) 15 [vr 2 0, vi (rg 40 (σ 40 b) l2)] σ (.inr (.inl r2)) σ1 ∧ G (d + 1) P 101 7 [vr 4 b, vu, vi l2, vi l3, vi l4, vi l5, vu, vu] [.inr (.inl r2)] σ1)) : G (d + 1) P 101 0 [vr 4 b, vr 2 0, vi l2, vi l3, vi l4, vi l5, vu, vu] [] σ := blk (S := S1) (c := cd_101) (bz := true) [(7, [true, false, true, true, true, true, false, false])] 600 (S1_ok (d + 0)) rfl rfl rfl h
-- RegionStack$Body.callDoes at 7, 1 leaves
set_option maxRecDepth 100000 in
set_option maxHeartbeats 4000000 in
theorem b_101_7n {d : Nat} {P : AV → SS → Prop} {σ : SS} {b l2 l3 l4 l5 : Int} (h : (((0 : Int) = 0 ∨ (0 : Int) = 1) ∧ P (vi (0 : Int)) σ)) : G (d + 1) P 101 7 [vr 4 b, vu, vi l2, vi l3, vi l4, vi l5, vu, vu] [vz] σ := blk (S := S1) (c := cd_101) (bz := true) [(7, [true, false, true, true, true, true, false, false])] 600 (S1_ok (d + 0)) rfl rfl rfl h
-- RegionStack$Body.callDoes at 7, 7 leaves
set_option maxRecDepth 100000 in
set_option maxHeartbeats 4000000 in
theorem b_101_7r {d : Nat} {P : AV → SS → Prop} {σ : SS} {b l2 l3 l4 l5 q : Int} (h : ((0 ≤ (σ 4 q 7) ∧ 0 ≤ l4) ∧ ((((((σ 4 q 7)).toNat &&& (l4).toNat : Nat) : Int) = 0 → ((0 ≤ (σ 4 q 7) ∧ 0 ≤ l5) ∧ ((((((σ 4 q 7)).toNat &&& (l5).toNat : Nat) : Int) = 0 → (((0 : Int) = 0 ∨ (0 : Int) = 1) ∧ P (vi (0 : Int)) σ)) ∧ (((((σ 4 q 7)).toNat &&& (l5).toNat : Nat) : Int) ≠ 0 → (((rg 40 (σ 47 b) l2) ≠ l3 → (((0 : Int) = 0 ∨ (0 : Int) = 1) ∧ P (vi (0 : Int)) σ)) ∧ ((rg 40 (σ 47 b) l2) = l3 → (((1 : Int) = 0 ∨ (1 : Int) = 1) ∧ P (vi (1 : Int)) σ))))))) ∧ (((((σ 4 q 7)).toNat &&& (l4).toNat : Nat) : Int) ≠ 0 → (((rg 40 (σ 48 b) l2) = l3 → (((1 : Int) = 0 ∨ (1 : Int) = 1) ∧ P (vi (1 : Int)) σ)) ∧ ((rg 40 (σ 48 b) l2) ≠ l3 → ((0 ≤ (σ 4 q 7) ∧ 0 ≤ l5) ∧ ((((((σ 4 q 7)).toNat &&& (l5).toNat : Nat) : Int) = 0 → (((0 : Int) = 0 ∨ (0 : Int) = 1) ∧ P (vi (0 : Int)) σ)) ∧ (((((σ 4 q 7)).toNat &&& (l5).toNat : Nat) : Int) ≠ 0 → (((rg 40 (σ 47 b) l2) ≠ l3 → (((0 : Int) = 0 ∨ (0 : Int) = 1) ∧ P (vi (0 : Int)) σ)) ∧ ((rg 40 (σ 47 b) l2) = l3 → (((1 : Int) = 0 ∨ (1 : Int) = 1) ∧ P (vi (1 : Int)) σ)))))))))))) : G (d + 1) P 101 7 [vr 4 b, vu, vi l2, vi l3, vi l4, vi l5, vu, vu] [vr 4 q] σ := blk (S := S1) (c := cd_101) (bz := true) [(7, [true, false, true, true, true, true, false, false])] 600 (S1_ok (d + 0)) rfl rfl rfl h
-- RegionStack$Program.kindsChanged at 0, 1 leaves
set_option maxRecDepth 100000 in
set_option maxHeartbeats 4000000 in
theorem b_103_0 {d : Nat} {P : AV → SS → Prop} {σ : SS} (h : (ir ((σ 2 0 1) + 1) ∧ (∀ σ1 : SS, σ1 = up σ 2 0 1 ((σ 2 0 1) + 1) → G (d + 3) P 103 8 [vr 2 0, vi 0, vu, vu] [] σ1))) : G (d + 3) P 103 0 [vr 2 0, vu, vu, vu] [] σ := blk (S := S2) (c := cd_103) (bz := false) [(8, [true, true, false, false]), (21, [true, true, true, true])] 600 (S2_ok (d + 1)) rfl rfl rfl h
-- RegionStack$Program.kindsChanged at 8, 2 leaves
set_option maxRecDepth 100000 in
set_option maxHeartbeats 4000000 in
theorem b_103_8 {d : Nat} {P : AV → SS → Prop} {σ : SS} {l1 : Int} (h : (((3 : Int) ≤ l1 → P vu σ) ∧ (l1 < (3 : Int) → ((0 ≤ l1 ∧ l1 < 3) ∧ G (d + 3) P 103 21 [vr 2 0, vi l1, vr 5 l1, vi 0] [] σ)))) : G (d + 3) P 103 8 [vr 2 0, vi l1, vu, vu] [] σ := blk (S := S2) (c := cd_103) (bz := false) [(8, [true, true, false, false]), (21, [true, true, true, true])] 600 (S2_ok (d + 1)) rfl rfl rfl h
-- RegionStack$Program.kindsChanged at 21, 4 leaves
set_option maxRecDepth 100000 in
set_option maxHeartbeats 4000000 in
theorem b_103_21 {d : Nat} {P : AV → SS → Prop} {σ : SS} {l1 l3 : Int} (h : (((σ 5 l1 9) ≠ ((-6) : Int) → (ir (l1 + 1) ∧ G (d + 3) P 103 8 [vr 2 0, vi (l1 + 1), vu, vu] [] σ)) ∧ ((σ 5 l1 9) = ((-6) : Int) → (((σ 6 l1 1) ≤ l3 → (ir (l1 + 1) ∧ G (d + 3) P 103 8 [vr 2 0, vi (l1 + 1), vu, vu] [] σ)) ∧ (l3 < (σ 6 l1 1) → (((if rg 40 (σ 39 l1) l3 ≠ 0 then (1 : Int) else 0) = 0 → (∀ σ1 : SS, σ1 = us 40 σ 38 l1 l3 0 → (ir (l3 + 1) ∧ G (d + 3) P 103 21 [vr 2 0, vi l1, vr 5 l1, vi (l3 + 1)] [] σ1))) ∧ ((if rg 40 (σ 39 l1) l3 ≠ 0 then (1 : Int) else 0) ≠ 0 → (∃ (x3 : Int) (σ2 : SS), Rn (d + 3) 104 [vr 2 0, vr 5 l1, vi l3] σ (vi x3) σ2 ∧ (∀ σ4 : SS, σ4 = us 40 σ2 38 l1 l3 x3 → (ir (l3 + 1) ∧ G (d + 3) P 103 21 [vr 2 0, vi l1, vr 5 l1, vi (l3 + 1)] [] σ4)))))))))) : G (d + 3) P 103 21 [vr 2 0, vi l1, vr 5 l1, vi l3] [] σ := blk (S := S2) (c := cd_103) (bz := false) [(8, [true, true, false, false]), (21, [true, true, true, true])] 600 (S2_ok (d + 1)) rfl rfl rfl h
-- RegionStack$Program.findKind at 0, 1 leaves
set_option maxRecDepth 100000 in
set_option maxHeartbeats 4000000 in
theorem b_104_0 {d : Nat} {P : AV → SS → Prop} {σ : SS} {c l2 : Int} (h : G (d + 2) P 104 4 [vr 2 0, vr 5 c, vu, vi l2, vi 0, vu, vu] [] σ) : G (d + 2) P 104 0 [vr 2 0, vr 5 c, vi l2, vu, vu, vu, vu] [] σ := blk (S := S2) (c := cd_104) (bz := false) [(4, [true, true, false, true, true, false, false]), (34, [false, false, false, false, false, false, false])] 600 (S2_ok (d + 0)) rfl rfl rfl h
-- RegionStack$Program.findKind at 4, 9 leaves
set_option maxRecDepth 100000 in
set_option maxHeartbeats 4000000 in
theorem b_104_4 {d : Nat} {P : AV → SS → Prop} {σ : SS} {c l3 l4 : Int} (h : (((40 : Int) ≤ l4 → P (vi (0 : Int)) σ) ∧ (l4 < (40 : Int) → (((rg 40 (σ 37 c) l3) ≠ (110 : Int) → (((rg 40 (σ 37 c) l3) ≠ (120 : Int) → (((rg 40 (σ 37 c) l3) ≠ (64 : Int) → (((rg 40 (σ 37 c) l3) = (63 : Int) → ((ir (3 * l3) ∧ ir (3 * l3 + 1)) ∧ (ir (l4 + 1) ∧ G (d + 2) P 104 4 [vr 2 0, vr 5 c, vu, vi (rg 120 (σ 41 c) (3 * l3 + 1)), vi (l4 + 1), vu, vu] [] σ))) ∧ ((rg 40 (σ 37 c) l3) ≠ (63 : Int) → (((rg 40 (σ 37 c) l3) ≠ (108 : Int) → (((if 97 ≤ (rg 40 (σ 37 c) l3) ∧ (rg 40 (σ 37 c) l3) ≤ 100 then (1 : Int) else 0) = 0 → P (vi (0 : Int)) σ) ∧ ((if 97 ≤ (rg 40 (σ 37 c) l3) ∧ (rg 40 (σ 37 c) l3) ≤ 100 then (1 : Int) else 0) ≠ 0 → (((rg 40 (σ 44 c) l3) = ((-6) : Int) → P (vi (0 : Int)) σ) ∧ ((rg 40 (σ 44 c) l3) ≠ ((-6) : Int) → ((ir (3 * (rg 40 (σ 44 c) l3)) ∧ ir (3 * (rg 40 (σ 44 c) l3) + 0)) ∧ (ir (l4 + 1) ∧ G (d + 2) P 104 4 [vr 2 0, vr 5 c, vu, vi (rg 120 (σ 41 c) (3 * (rg 40 (σ 44 c) l3) + 0)), vi (l4 + 1), vu, vu] [] σ))))))) ∧ ((rg 40 (σ 37 c) l3) = (108 : Int) → ((ir (3 * l3) ∧ ir (3 * l3 + 1)) ∧ (ir (l4 + 1) ∧ G (d + 2) P 104 4 [vr 2 0, vr 5 c, vu, vi (rg 120 (σ 41 c) (3 * l3 + 1)), vi (l4 + 1), vu, vu] [] σ))))))) ∧ ((rg 40 (σ 37 c) l3) = (64 : Int) → (∃ (r2 : Option (Nat × Int)) (σ1 : SS), Rn (d + 2) 15 [vr 2 0, vi (rg 40 (σ 40 c) l3)] σ (.inr (.inl r2)) σ1 ∧ G (d + 2) P 104 34 [vu, vu, vu, vu, vu, vu, vu] [.inr (.inl r2)] σ1)))) ∧ ((rg 40 (σ 37 c) l3) = (120 : Int) → P (vi (σ 6 c 2)) σ))) ∧ ((rg 40 (σ 37 c) l3) = (110 : Int) → P (vi (1 : Int)) σ))))) : G (d + 2) P 104 4 [vr 2 0, vr 5 c, vu, vi l3, vi l4, vu, vu] [] σ := blk (S := S2) (c := cd_104) (bz := false) [(4, [true, true, false, true, true, false, false]), (34, [false, false, false, false, false, false, false])] 600 (S2_ok (d + 0)) rfl rfl rfl h
-- RegionStack$Program.findKind at 34, 1 leaves
set_option maxRecDepth 100000 in
set_option maxHeartbeats 4000000 in
theorem b_104_34n {d : Nat} {P : AV → SS → Prop} {σ : SS} (h : P (vi (0 : Int)) σ) : G (d + 2) P 104 34 [vu, vu, vu, vu, vu, vu, vu] [vz] σ := blk (S := S2) (c := cd_104) (bz := false) [(4, [true, true, false, true, true, false, false]), (34, [false, false, false, false, false, false, false])] 600 (S2_ok (d + 0)) rfl rfl rfl h
-- RegionStack$Program.findKind at 34, 1 leaves
set_option maxRecDepth 100000 in
set_option maxHeartbeats 4000000 in
theorem b_104_34r {d : Nat} {P : AV → SS → Prop} {σ : SS} {q : Int} (h : P (vi (σ 6 q 3)) σ) : G (d + 2) P 104 34 [vu, vu, vu, vu, vu, vu, vu] [vr 4 q] σ := blk (S := S2) (c := cd_104) (bz := false) [(4, [true, true, false, true, true, false, false]), (34, [false, false, false, false, false, false, false])] 600 (S2_ok (d + 0)) rfl rfl rfl h
-- RegionStack$Program.firstIll at 0, 1 leaves
set_option maxRecDepth 100000 in
set_option maxHeartbeats 4000000 in
theorem b_105_0 {d : Nat} {P : AV → SS → Prop} {σ : SS} {c : Int} (h : G (d + 3) P 105 2 [vr 2 0, vr 5 c, vi 0] [] σ) : G (d + 3) P 105 0 [vr 2 0, vr 5 c, vu] [] σ := blk (S := S2) (c := cd_105) (bz := false) [(2, [true, true, true])] 600 (S2_ok (d + 1)) rfl rfl rfl h
-- RegionStack$Program.firstIll at 2, 4 leaves
set_option maxRecDepth 100000 in
set_option maxHeartbeats 4000000 in
theorem b_105_2 {d : Nat} {P : AV → SS → Prop} {σ : SS} {c l2 : Int} (h : (((σ 6 c 1) ≤ l2 → P (vi ((-6) : Int)) σ) ∧ (l2 < (σ 6 c 1) → (((if rg 40 (σ 39 c) l2 ≠ 0 then (1 : Int) else 0) = 0 → (ir (l2 + 1) ∧ G (d + 3) P 105 2 [vr 2 0, vr 5 c, vi (l2 + 1)] [] σ)) ∧ ((if rg 40 (σ 39 c) l2 ≠ 0 then (1 : Int) else 0) ≠ 0 → (∃ (x2 : Int) (σ1 : SS), Rn (d + 3) 106 [vr 2 0, vr 5 c, vi l2] σ (vi x2) σ1 ∧ ((x2 = 0 → (ir (l2 + 1) ∧ G (d + 3) P 105 2 [vr 2 0, vr 5 c, vi (l2 + 1)] [] σ1)) ∧ (x2 ≠ 0 → P (vi l2) σ1)))))))) : G (d + 3) P 105 2 [vr 2 0, vr 5 c, vi l2] [] σ := blk (S := S2) (c := cd_105) (bz := false) [(2, [true, true, true])] 600 (S2_ok (d + 1)) rfl rfl rfl h
-- RegionStack$Program.isIll at 0, 33 leaves
set_option maxRecDepth 100000 in
set_option maxHeartbeats 4000000 in
theorem b_106_0 {d : Nat} {P : AV → SS → Prop} {σ : SS} {c l2 : Int} (h : ((l2 ≠ 0 → (((rg 40 (σ 37 c) l2) ≠ 42 → ((rg 40 (σ 37 c) l2) ≠ 43 → ((rg 40 (σ 37 c) l2) ≠ 45 → ((rg 40 (σ 37 c) l2) ≠ 63 → ((rg 40 (σ 37 c) l2) ≠ 64 → ((rg 40 (σ 37 c) l2) ≠ 110 → (((if 97 ≤ (rg 40 (σ 37 c) l2) ∧ (rg 40 (σ 37 c) l2) ≤ 100 then (1 : Int) else 0) = 0 → (((0 : Int) = 0 ∨ (0 : Int) = 1) ∧ P (vi (0 : Int)) σ)) ∧ ((if 97 ≤ (rg 40 (σ 37 c) l2) ∧ (rg 40 (σ 37 c) l2) ≤ 100 then (1 : Int) else 0) ≠ 0 → (((rg 40 (σ 44 c) l2) ≠ ((-6) : Int) → (((0 : Int) = 0 ∨ (0 : Int) = 1) ∧ P (vi (0 : Int)) σ)) ∧ ((rg 40 (σ 44 c) l2) = ((-6) : Int) → (((1 : Int) = 0 ∨ (1 : Int) = 1) ∧ P (vi (1 : Int)) σ))))))))))) ∧ (((rg 40 (σ 37 c) l2) = 42 → ((ir (3 * l2) ∧ ir (3 * l2 + 0)) ∧ (((rg 40 (σ 38 c) (rg 120 (σ 41 c) (3 * l2 + 0))) = (1 : Int) → (((0 : Int) = 0 ∨ (0 : Int) = 1) ∧ P (vi (0 : Int)) σ)) ∧ ((rg 40 (σ 38 c) (rg 120 (σ 41 c) (3 * l2 + 0))) ≠ (1 : Int) → (((1 : Int) = 0 ∨ (1 : Int) = 1) ∧ P (vi (1 : Int)) σ))))) ∧ (((rg 40 (σ 37 c) l2) = 43 → ((ir (3 * l2) ∧ ir (3 * l2 + 0)) ∧ (((rg 40 (σ 38 c) (rg 120 (σ 41 c) (3 * l2 + 0))) ≠ 0 → (((1 : Int) = 0 ∨ (1 : Int) = 1) ∧ P (vi (1 : Int)) σ)) ∧ ((rg 40 (σ 38 c) (rg 120 (σ 41 c) (3 * l2 + 0))) = 0 → ((ir (3 * l2) ∧ ir (3 * l2 + 1)) ∧ (((rg 40 (σ 38 c) (rg 120 (σ 41 c) (3 * l2 + 1))) = 0 → (((0 : Int) = 0 ∨ (0 : Int) = 1) ∧ P (vi (0 : Int)) σ)) ∧ ((rg 40 (σ 38 c) (rg 120 (σ 41 c) (3 * l2 + 1))) ≠ 0 → (((1 : Int) = 0 ∨ (1 : Int) = 1) ∧ P (vi (1 : Int)) σ)))))))) ∧ (((rg 40 (σ 37 c) l2) = 45 → ((ir (3 * l2) ∧ ir (3 * l2 + 0)) ∧ (((rg 40 (σ 38 c) (rg 120 (σ 41 c) (3 * l2 + 0))) = 0 → (((0 : Int) = 0 ∨ (0 : Int) = 1) ∧ P (vi (0 : Int)) σ)) ∧ ((rg 40 (σ 38 c) (rg 120 (σ 41 c) (3 * l2 + 0))) ≠ 0 → (((1 : Int) = 0 ∨ (1 : Int) = 1) ∧ P (vi (1 : Int)) σ))))) ∧ (((rg 40 (σ 37 c) l2) = 63 → ((ir (3 * l2) ∧ ir (3 * l2 + 0)) ∧ (((rg 40 (σ 38 c) (rg 120 (σ 41 c) (3 * l2 + 0))) ≠ 0 → (((1 : Int) = 0 ∨ (1 : Int) = 1) ∧ P (vi (1 : Int)) σ)) ∧ ((rg 40 (σ 38 c) (rg 120 (σ 41 c) (3 * l2 + 0))) = 0 → ((ir (3 * l2) ∧ ir (3 * l2 + 1)) ∧ ((ir (3 * l2) ∧ ir (3 * l2 + 2)) ∧ (((rg 40 (σ 38 c) (rg 120 (σ 41 c) (3 * l2 + 1))) = (rg 40 (σ 38 c) (rg 120 (σ 41 c) (3 * l2 + 2))) → (((0 : Int) = 0 ∨ (0 : Int) = 1) ∧ P (vi (0 : Int)) σ)) ∧ ((rg 40 (σ 38 c) (rg 120 (σ 41 c) (3 * l2 + 1))) ≠ (rg 40 (σ 38 c) (rg 120 (σ 41 c) (3 * l2 + 2))) → (((1 : Int) = 0 ∨ (1 : Int) = 1) ∧ P (vi (1 : Int)) σ))))))))) ∧ (((rg 40 (σ 37 c) l2) = 64 → (∃ (r2 : Option (Nat × Int)) (σ1 : SS), Rn (d + 2) 15 [vr 2 0, vi (rg 40 (σ 40 c) l2)] σ (.inr (.inl r2)) σ1 ∧ G (d + 2) P 106 77 [vu, vr 5 c, vi l2, vu, vu] [.inr (.inl r2)] σ1)) ∧ (((rg 40 (σ 37 c) l2) = 110 → ((ir (3 * l2) ∧ ir (3 * l2 + 0)) ∧ (((rg 40 (σ 38 c) (rg 120 (σ 41 c) (3 * l2 + 0))) = 0 → (((0 : Int) = 0 ∨ (0 : Int) = 1) ∧ P (vi (0 : Int)) σ)) ∧ ((rg 40 (σ 38 c) (rg 120 (σ 41 c) (3 * l2 + 0))) ≠ 0 → (((1 : Int) = 0 ∨ (1 : Int) = 1) ∧ P (vi (1 : Int)) σ))))) ∧ True)))))))) ∧ (l2 = 0 → (((rg 40 (σ 38 c) 0) = (σ 6 c 3) → (((rg 40 (σ 37 c) l2) ≠ 42 → ((rg 40 (σ 37 c) l2) ≠ 43 → ((rg 40 (σ 37 c) l2) ≠ 45 → ((rg 40 (σ 37 c) l2) ≠ 63 → ((rg 40 (σ 37 c) l2) ≠ 64 → ((rg 40 (σ 37 c) l2) ≠ 110 → (((if 97 ≤ (rg 40 (σ 37 c) l2) ∧ (rg 40 (σ 37 c) l2) ≤ 100 then (1 : Int) else 0) = 0 → (((0 : Int) = 0 ∨ (0 : Int) = 1) ∧ P (vi (0 : Int)) σ)) ∧ ((if 97 ≤ (rg 40 (σ 37 c) l2) ∧ (rg 40 (σ 37 c) l2) ≤ 100 then (1 : Int) else 0) ≠ 0 → (((rg 40 (σ 44 c) l2) ≠ ((-6) : Int) → (((0 : Int) = 0 ∨ (0 : Int) = 1) ∧ P (vi (0 : Int)) σ)) ∧ ((rg 40 (σ 44 c) l2) = ((-6) : Int) → (((1 : Int) = 0 ∨ (1 : Int) = 1) ∧ P (vi (1 : Int)) σ))))))))))) ∧ (((rg 40 (σ 37 c) l2) = 42 → ((ir (3 * l2) ∧ ir (3 * l2 + 0)) ∧ (((rg 40 (σ 38 c) (rg 120 (σ 41 c) (3 * l2 + 0))) = (1 : Int) → (((0 : Int) = 0 ∨ (0 : Int) = 1) ∧ P (vi (0 : Int)) σ)) ∧ ((rg 40 (σ 38 c) (rg 120 (σ 41 c) (3 * l2 + 0))) ≠ (1 : Int) → (((1 : Int) = 0 ∨ (1 : Int) = 1) ∧ P (vi (1 : Int)) σ))))) ∧ (((rg 40 (σ 37 c) l2) = 43 → ((ir (3 * l2) ∧ ir (3 * l2 + 0)) ∧ (((rg 40 (σ 38 c) (rg 120 (σ 41 c) (3 * l2 + 0))) ≠ 0 → (((1 : Int) = 0 ∨ (1 : Int) = 1) ∧ P (vi (1 : Int)) σ)) ∧ ((rg 40 (σ 38 c) (rg 120 (σ 41 c) (3 * l2 + 0))) = 0 → ((ir (3 * l2) ∧ ir (3 * l2 + 1)) ∧ (((rg 40 (σ 38 c) (rg 120 (σ 41 c) (3 * l2 + 1))) = 0 → (((0 : Int) = 0 ∨ (0 : Int) = 1) ∧ P (vi (0 : Int)) σ)) ∧ ((rg 40 (σ 38 c) (rg 120 (σ 41 c) (3 * l2 + 1))) ≠ 0 → (((1 : Int) = 0 ∨ (1 : Int) = 1) ∧ P (vi (1 : Int)) σ)))))))) ∧ (((rg 40 (σ 37 c) l2) = 45 → ((ir (3 * l2) ∧ ir (3 * l2 + 0)) ∧ (((rg 40 (σ 38 c) (rg 120 (σ 41 c) (3 * l2 + 0))) = 0 → (((0 : Int) = 0 ∨ (0 : Int) = 1) ∧ P (vi (0 : Int)) σ)) ∧ ((rg 40 (σ 38 c) (rg 120 (σ 41 c) (3 * l2 + 0))) ≠ 0 → (((1 : Int) = 0 ∨ (1 : Int) = 1) ∧ P (vi (1 : Int)) σ))))) ∧ (((rg 40 (σ 37 c) l2) = 63 → ((ir (3 * l2) ∧ ir (3 * l2 + 0)) ∧ (((rg 40 (σ 38 c) (rg 120 (σ 41 c) (3 * l2 + 0))) ≠ 0 → (((1 : Int) = 0 ∨ (1 : Int) = 1) ∧ P (vi (1 : Int)) σ)) ∧ ((rg 40 (σ 38 c) (rg 120 (σ 41 c) (3 * l2 + 0))) = 0 → ((ir (3 * l2) ∧ ir (3 * l2 + 1)) ∧ ((ir (3 * l2) ∧ ir (3 * l2 + 2)) ∧ (((rg 40 (σ 38 c) (rg 120 (σ 41 c) (3 * l2 + 1))) = (rg 40 (σ 38 c) (rg 120 (σ 41 c) (3 * l2 + 2))) → (((0 : Int) = 0 ∨ (0 : Int) = 1) ∧ P (vi (0 : Int)) σ)) ∧ ((rg 40 (σ 38 c) (rg 120 (σ 41 c) (3 * l2 + 1))) ≠ (rg 40 (σ 38 c) (rg 120 (σ 41 c) (3 * l2 + 2))) → (((1 : Int) = 0 ∨ (1 : Int) = 1) ∧ P (vi (1 : Int)) σ))))))))) ∧ (((rg 40 (σ 37 c) l2) = 64 → (∃ (r4 : Option (Nat × Int)) (σ3 : SS), Rn (d + 2) 15 [vr 2 0, vi (rg 40 (σ 40 c) l2)] σ (.inr (.inl r4)) σ3 ∧ G (d + 2) P 106 77 [vu, vr 5 c, vi l2, vu, vu] [.inr (.inl r4)] σ3)) ∧ (((rg 40 (σ 37 c) l2) = 110 → ((ir (3 * l2) ∧ ir (3 * l2 + 0)) ∧ (((rg 40 (σ 38 c) (rg 120 (σ 41 c) (3 * l2 + 0))) = 0 → (((0 : Int) = 0 ∨ (0 : Int) = 1) ∧ P (vi (0 : Int)) σ)) ∧ ((rg 40 (σ 38 c) (rg 120 (σ 41 c) (3 * l2 + 0))) ≠ 0 → (((1 : Int) = 0 ∨ (1 : Int) = 1) ∧ P (vi (1 : Int)) σ))))) ∧ True)))))))) ∧ ((rg 40 (σ 38 c) 0) ≠ (σ 6 c 3) → (((1 : Int) = 0 ∨ (1 : Int) = 1) ∧ P (vi (1 : Int)) σ)))))) : G (d + 2) P 106 0 [vr 2 0, vr 5 c, vi l2, vu, vu] [] σ := blk (S := S2) (c := cd_106) (bz := true) [(77, [false, true, true, false, false])] 600 (S2_ok (d + 0)) rfl rfl rfl h
-- RegionStack$Program.isIll at 77, 1 leaves
set_option maxRecDepth 100000 in
set_option maxHeartbeats 4000000 in
theorem b_106_77n {d : Nat} {P : AV → SS → Prop} {σ : SS} {c l2 : Int} (h : (((1 : Int) = 0 ∨ (1 : Int) = 1) ∧ P (vi (1 : Int)) σ)) : G (d + 2) P 106 77 [vu, vr 5 c, vi l2, vu, vu] [vz] σ := blk (S := S2) (c := cd_106) (bz := true) [(77, [false, true, true, false, false])] 600 (S2_ok (d + 0)) rfl rfl rfl h
-- RegionStack$Program.isIll at 77, 2 leaves
set_option maxRecDepth 100000 in
set_option maxHeartbeats 4000000 in
theorem b_106_77r {d : Nat} {P : AV → SS → Prop} {σ : SS} {c l2 q : Int} (h : ((ir (3 * l2) ∧ ir (3 * l2 + 0)) ∧ (((rg 40 (σ 38 c) (rg 120 (σ 41 c) (3 * l2 + 0))) = (σ 6 q 2) → (((0 : Int) = 0 ∨ (0 : Int) = 1) ∧ P (vi (0 : Int)) σ)) ∧ ((rg 40 (σ 38 c) (rg 120 (σ 41 c) (3 * l2 + 0))) ≠ (σ 6 q 2) → (((1 : Int) = 0 ∨ (1 : Int) = 1) ∧ P (vi (1 : Int)) σ))))) : G (d + 2) P 106 77 [vu, vr 5 c, vi l2, vu, vu] [vr 4 q] σ := blk (S := S2) (c := cd_106) (bz := true) [(77, [false, true, true, false, false])] 600 (S2_ok (d + 0)) rfl rfl rfl h
-- RegionStack$Program.settle at 0, 3 leaves
set_option maxRecDepth 100000 in
set_option maxHeartbeats 4000000 in
theorem b_107_0 {d : Nat} {P : AV → SS → Prop} {σ : SS} (h : (((σ 2 0 2) ≠ (σ 2 0 1) → (∀ σ1 : SS, σ1 = up σ 2 0 2 (σ 2 0 1) → (∃ (x3 : Int) (σ2 : SS), Rn (d + 5) 108 [vr 2 0] σ1 (vi x3) σ2 ∧ ((x3 = 0 ∨ x3 = 1) ∧ (∀ σ4 : SS, σ4 = up σ2 2 0 3 x3 → (((σ4 2 0 3) = 0 → (((σ4 2 0 3) = 0 ∨ (σ4 2 0 3) = 1) ∧ P (vi (σ4 2 0 3)) σ4)) ∧ ((σ4 2 0 3) ≠ 0 → (∃ σ5 : SS, Rn (d + 5) 109 [vr 2 0] σ4 vu σ5 ∧ G (d + 5) P 107 23 [vr 2 0, vi 0] [] σ5)))))))) ∧ ((σ 2 0 2) = (σ 2 0 1) → (((σ 2 0 3) = 0 ∨ (σ 2 0 3) = 1) ∧ P (vi (σ 2 0 3)) σ)))) : G (d + 5) P 107 0 [vr 2 0, vu] [] σ := blk (S := noS) (c := cd_107) (bz := true) [(23, [true, true]), (39, [true, true])] 600 (SV_no _) rfl rfl rfl h
-- RegionStack$Program.settle at 23, 2 leaves
set_option maxRecDepth 100000 in
set_option maxHeartbeats 4000000 in
theorem b_107_23 {d : Nat} {P : AV → SS → Prop} {σ : SS} {l1 : Int} (h : (((3 : Int) ≤ l1 → (∃ σ1 : SS, Rn (d + 5) 110 [vr 2 0] σ vu σ1 ∧ G (d + 5) P 107 39 [vr 2 0, vi 0] [] σ1)) ∧ (l1 < (3 : Int) → ((0 ≤ l1 ∧ l1 < 3) ∧ (∃ σ2 : SS, Rn (d + 5) 93 [vr 4 l1] σ vu σ2 ∧ (ir (l1 + 1) ∧ G (d + 5) P 107 23 [vr 2 0, vi (l1 + 1)] [] σ2)))))) : G (d + 5) P 107 23 [vr 2 0, vi l1] [] σ := blk (S := noS) (c := cd_107) (bz := true) [(23, [true, true]), (39, [true, true])] 600 (SV_no _) rfl rfl rfl h
-- RegionStack$Program.settle at 39, 2 leaves
set_option maxRecDepth 100000 in
set_option maxHeartbeats 4000000 in
theorem b_107_39 {d : Nat} {P : AV → SS → Prop} {σ : SS} {l1 : Int} (h : (((3 : Int) ≤ l1 → (((σ 2 0 3) = 0 ∨ (σ 2 0 3) = 1) ∧ P (vi (σ 2 0 3)) σ)) ∧ (l1 < (3 : Int) → ((0 ≤ l1 ∧ l1 < 3) ∧ (∃ σ1 : SS, Rn (d + 5) 96 [vr 4 l1] σ vu σ1 ∧ (ir (l1 + 1) ∧ G (d + 5) P 107 39 [vr 2 0, vi (l1 + 1)] [] σ1)))))) : G (d + 5) P 107 39 [vr 2 0, vi l1] [] σ := blk (S := noS) (c := cd_107) (bz := true) [(23, [true, true]), (39, [true, true])] 600 (SV_no _) rfl rfl rfl h
-- RegionStack$Program.areAllWell at 0, 1 leaves
set_option maxRecDepth 100000 in
set_option maxHeartbeats 4000000 in
theorem b_108_0 {d : Nat} {P : AV → SS → Prop} {σ : SS} (h : G (d + 4) P 108 2 [vr 2 0, vi 0, vu] [] σ) : G (d + 4) P 108 0 [vr 2 0, vu, vu] [] σ := blk (S := noS) (c := cd_108) (bz := true) [(2, [true, true, false])] 600 (SV_no _) rfl rfl rfl h
-- RegionStack$Program.areAllWell at 2, 4 leaves
set_option maxRecDepth 100000 in
set_option maxHeartbeats 4000000 in
theorem b_108_2 {d : Nat} {P : AV → SS → Prop} {σ : SS} {l1 : Int} (h : (((3 : Int) ≤ l1 → (((1 : Int) = 0 ∨ (1 : Int) = 1) ∧ P (vi (1 : Int)) σ)) ∧ (l1 < (3 : Int) → ((0 ≤ l1 ∧ l1 < 3) ∧ (((σ 5 l1 9) ≠ ((-6) : Int) → (((0 : Int) = 0 ∨ (0 : Int) = 1) ∧ P (vi (0 : Int)) σ)) ∧ ((σ 5 l1 9) = ((-6) : Int) → (∃ (x2 : Int) (σ1 : SS), Rn (d + 4) 105 [vr 2 0, vr 5 l1] σ (vi x2) σ1 ∧ ((x2 = ((-6) : Int) → (ir (l1 + 1) ∧ G (d + 4) P 108 2 [vr 2 0, vi (l1 + 1), vu] [] σ1)) ∧ (x2 ≠ ((-6) : Int) → (((0 : Int) = 0 ∨ (0 : Int) = 1) ∧ P (vi (0 : Int)) σ1)))))))))) : G (d + 4) P 108 2 [vr 2 0, vi l1, vu] [] σ := blk (S := noS) (c := cd_108) (bz := true) [(2, [true, true, false])] 600 (SV_no _) rfl rfl rfl h
-- RegionStack$Program.findPasses at 0, 1 leaves
set_option maxRecDepth 100000 in
set_option maxHeartbeats 4000000 in
theorem b_109_0 {d : Nat} {P : AV → SS → Prop} {σ : SS} (h : G (d + 4) P 109 2 [vr 2 0, vi 0, vu, vu, vu, vu] [] σ) : G (d + 4) P 109 0 [vr 2 0, vu, vu, vu, vu, vu] [] σ := blk (S := noS) (c := cd_109) (bz := false) [(2, [true, true, false, false, false, false]), (19, [true, true, true, false, false, false]), (28, [true, true, true, true, false, false])] 600 (SV_no _) rfl rfl rfl h
-- RegionStack$Program.findPasses at 2, 2 leaves
set_option maxRecDepth 100000 in
set_option maxHeartbeats 4000000 in
theorem b_109_2 {d : Nat} {P : AV → SS → Prop} {σ : SS} {l1 : Int} (h : (((3 : Int) ≤ l1 → G (d + 4) P 109 19 [vr 2 0, vi 1, vi 0, vu, vu, vu] [] σ) ∧ (l1 < (3 : Int) → ((0 ≤ l1 ∧ l1 < 3) ∧ (((0 : Int) = 0 ∨ (0 : Int) = 1) ∧ (∀ σ1 : SS, σ1 = up σ 4 l1 6 (0 : Int) → (ir (l1 + 1) ∧ G (d + 4) P 109 2 [vr 2 0, vi (l1 + 1), vu, vu, vu, vu] [] σ1))))))) : G (d + 4) P 109 2 [vr 2 0, vi l1, vu, vu, vu, vu] [] σ := blk (S := noS) (c := cd_109) (bz := false) [(2, [true, true, false, false, false, false]), (19, [true, true, true, false, false, false]), (28, [true, true, true, true, false, false])] 600 (SV_no _) rfl rfl rfl h
-- RegionStack$Program.findPasses at 19, 3 leaves
set_option maxRecDepth 100000 in
set_option maxHeartbeats 4000000 in
theorem b_109_19 {d : Nat} {P : AV → SS → Prop} {σ : SS} {l1 l2 : Int} (h : (((3 : Int) < l2 → P vu σ) ∧ (l2 ≤ (3 : Int) → ((l1 = 0 → P vu σ) ∧ (l1 ≠ 0 → G (d + 4) P 109 28 [vr 2 0, vi 0, vi l2, vi 0, vu, vu] [] σ))))) : G (d + 4) P 109 19 [vr 2 0, vi l1, vi l2, vu, vu, vu] [] σ := blk (S := noS) (c := cd_109) (bz := false) [(2, [true, true, false, false, false, false]), (19, [true, true, true, false, false, false]), (28, [true, true, true, true, false, false])] 600 (SV_no _) rfl rfl rfl h
-- RegionStack$Program.findPasses at 28, 4 leaves
set_option maxRecDepth 100000 in
set_option maxHeartbeats 4000000 in
theorem b_109_28 {d : Nat} {P : AV → SS → Prop} {σ : SS} {l1 l2 l3 : Int} (h : (((3 : Int) ≤ l3 → (ir (l2 + 1) ∧ G (d + 4) P 109 19 [vr 2 0, vi l1, vi (l2 + 1), vu, vu, vu] [] σ)) ∧ (l3 < (3 : Int) → ((0 ≤ l3 ∧ l3 < 3) ∧ (∃ σ1 : SS, Rn (d + 4) 90 [vr 4 l3, vr 2 0] σ vu σ1 ∧ ((l1 ≠ 0 → (ir (l3 + 1) ∧ G (d + 4) P 109 28 [vr 2 0, vi 1, vi l2, vi (l3 + 1), vu, vu] [] σ1)) ∧ (l1 = 0 → (((σ1 4 l3 6) = (σ 4 l3 6) → (ir (l3 + 1) ∧ G (d + 4) P 109 28 [vr 2 0, vi 0, vi l2, vi (l3 + 1), vu, vu] [] σ1)) ∧ ((σ1 4 l3 6) ≠ (σ 4 l3 6) → (ir (l3 + 1) ∧ G (d + 4) P 109 28 [vr 2 0, vi 1, vi l2, vi (l3 + 1), vu, vu] [] σ1)))))))))) : G (d + 4) P 109 28 [vr 2 0, vi l1, vi l2, vi l3, vu, vu] [] σ := blk (S := noS) (c := cd_109) (bz := false) [(2, [true, true, false, false, false, false]), (19, [true, true, true, false, false, false]), (28, [true, true, true, true, false, false])] 600 (SV_no _) rfl rfl rfl h
-- RegionStack$Program.findEffects at 0, 1 leaves
set_option maxRecDepth 100000 in
set_option maxHeartbeats 4000000 in
theorem b_110_0 {d : Nat} {P : AV → SS → Prop} {σ : SS} (h : G (d + 4) P 110 2 [vr 2 0, vi 0, vu, vu, vu, vu] [] σ) : G (d + 4) P 110 0 [vr 2 0, vu, vu, vu, vu, vu] [] σ := blk (S := noS) (c := cd_110) (bz := false) [(2, [true, true, false, false, false, false]), (19, [true, true, true, false, false, false]), (28, [true, true, true, true, false, false])] 600 (SV_no _) rfl rfl rfl h
-- RegionStack$Program.findEffects at 2, 2 leaves
set_option maxRecDepth 100000 in
set_option maxHeartbeats 4000000 in
theorem b_110_2 {d : Nat} {P : AV → SS → Prop} {σ : SS} {l1 : Int} (h : (((3 : Int) ≤ l1 → G (d + 4) P 110 19 [vr 2 0, vi 1, vi 0, vu, vu, vu] [] σ) ∧ (l1 < (3 : Int) → ((0 ≤ l1 ∧ l1 < 3) ∧ (∀ σ1 : SS, σ1 = up σ 4 l1 7 (0 : Int) → (ir (l1 + 1) ∧ G (d + 4) P 110 2 [vr 2 0, vi (l1 + 1), vu, vu, vu, vu] [] σ1)))))) : G (d + 4) P 110 2 [vr 2 0, vi l1, vu, vu, vu, vu] [] σ := blk (S := noS) (c := cd_110) (bz := false) [(2, [true, true, false, false, false, false]), (19, [true, true, true, false, false, false]), (28, [true, true, true, true, false, false])] 600 (SV_no _) rfl rfl rfl h
-- RegionStack$Program.findEffects at 19, 3 leaves
set_option maxRecDepth 100000 in
set_option maxHeartbeats 4000000 in
theorem b_110_19 {d : Nat} {P : AV → SS → Prop} {σ : SS} {l1 l2 : Int} (h : (((12 : Int) < l2 → P vu σ) ∧ (l2 ≤ (12 : Int) → ((l1 = 0 → P vu σ) ∧ (l1 ≠ 0 → G (d + 4) P 110 28 [vr 2 0, vi 0, vi l2, vi 0, vu, vu] [] σ))))) : G (d + 4) P 110 19 [vr 2 0, vi l1, vi l2, vu, vu, vu] [] σ := blk (S := noS) (c := cd_110) (bz := false) [(2, [true, true, false, false, false, false]), (19, [true, true, true, false, false, false]), (28, [true, true, true, true, false, false])] 600 (SV_no _) rfl rfl rfl h
-- RegionStack$Program.findEffects at 28, 4 leaves
set_option maxRecDepth 100000 in
set_option maxHeartbeats 4000000 in
theorem b_110_28 {d : Nat} {P : AV → SS → Prop} {σ : SS} {l1 l2 l3 : Int} (h : (((3 : Int) ≤ l3 → (ir (l2 + 1) ∧ G (d + 4) P 110 19 [vr 2 0, vi l1, vi (l2 + 1), vu, vu, vu] [] σ)) ∧ (l3 < (3 : Int) → ((0 ≤ l3 ∧ l3 < 3) ∧ (∃ (x2 : Int) (σ1 : SS), Rn (d + 4) 95 [vr 4 l3, vr 2 0] σ (vi x2) σ1 ∧ (∀ σ3 : SS, σ3 = up σ1 4 l3 7 x2 → ((l1 ≠ 0 → (ir (l3 + 1) ∧ G (d + 4) P 110 28 [vr 2 0, vi 1, vi l2, vi (l3 + 1), vu, vu] [] σ3)) ∧ (l1 = 0 → (((σ3 4 l3 7) = (σ 4 l3 7) → (ir (l3 + 1) ∧ G (d + 4) P 110 28 [vr 2 0, vi 0, vi l2, vi (l3 + 1), vu, vu] [] σ3)) ∧ ((σ3 4 l3 7) ≠ (σ 4 l3 7) → (ir (l3 + 1) ∧ G (d + 4) P 110 28 [vr 2 0, vi 1, vi l2, vi (l3 + 1), vu, vu] [] σ3))))))))))) : G (d + 4) P 110 28 [vr 2 0, vi l1, vi l2, vi l3, vu, vu] [] σ := blk (S := noS) (c := cd_110) (bz := false) [(2, [true, true, false, false, false, false]), (19, [true, true, true, false, false, false]), (28, [true, true, true, true, false, false])] 600 (SV_no _) rfl rfl rfl h
-- RegionStack$Runner.tallyOf at 0, 8 leaves
set_option maxRecDepth 100000 in
set_option maxHeartbeats 4000000 in
theorem b_113_0 {d : Nat} {P : AV → SS → Prop} {σ : SS} {l1 : Int} (h : ((l1 < 0 ∨ 6 < l1 → P (vi (σ 1 0 13)) σ) ∧ ((l1 = 0 → P (vi (σ 1 0 11)) σ) ∧ ((l1 = (0 + 1) → P (vi (σ 1 0 12)) σ) ∧ ((l1 = ((0 + 1) + 1) → P (vi (σ 32 0 6)) σ) ∧ ((l1 = (((0 + 1) + 1) + 1) → P (vi (σ 32 0 7)) σ) ∧ ((l1 = ((((0 + 1) + 1) + 1) + 1) → P (vi (σ 32 0 8)) σ) ∧ ((l1 = (((((0 + 1) + 1) + 1) + 1) + 1) → P (vi (σ 32 0 9)) σ) ∧ ((l1 = ((((((0 + 1) + 1) + 1) + 1) + 1) + 1) → P (vi (σ 32 0 10)) σ) ∧ True))))))))) : G (d + 0) P 113 0 [vr 1 0, vi l1] [] σ := blk (S := noS) (c := cd_113) (bz := false) [] 600 (SV_no _) rfl rfl rfl h
-- RegionStack$Runner.goThrough at 0, 4 leaves
set_option maxRecDepth 100000 in
set_option maxHeartbeats 4000000 in
theorem b_114_0 {d : Nat} {P : AV → SS → Prop} {σ : SS} {l1 l2 : Int} (h : (((σ 1 0 15) ≠ (σ 2 0 1) → (∃ (r2 : Option (Nat × Int)) (σ1 : SS), Rn (d + 5) 15 [vr 2 0, vi l1] σ (.inr (.inl r2)) σ1 ∧ G (d + 5) P 114 21 [vr 1 0, vi l1, vi l2, vu, vu] [.inr (.inl r2)] σ1)) ∧ ((σ 1 0 15) = (σ 2 0 1) → (((σ 1 0 16) ≠ l1 → (∃ (r4 : Option (Nat × Int)) (σ3 : SS), Rn (d + 5) 15 [vr 2 0, vi l1] σ (.inr (.inl r4)) σ3 ∧ G (d + 5) P 114 21 [vr 1 0, vi l1, vi l2, vu, vu] [.inr (.inl r4)] σ3)) ∧ ((σ 1 0 16) = l1 → (((σ 1 0 17) ≠ l2 → (∃ (r6 : Option (Nat × Int)) (σ5 : SS), Rn (d + 5) 15 [vr 2 0, vi l1] σ (.inr (.inl r6)) σ5 ∧ G (d + 5) P 114 21 [vr 1 0, vi l1, vi l2, vu, vu] [.inr (.inl r6)] σ5)) ∧ ((σ 1 0 17) = l2 → (((σ 1 0 14) = 0 ∨ (σ 1 0 14) = 1) ∧ P (vi (σ 1 0 14)) σ)))))))) : G (d + 5) P 114 0 [vr 1 0, vi l1, vi l2, vu, vu] [] σ := blk (S := S2) (c := cd_114) (bz := true) [(21, [true, true, true, false, false]), (33, [true, true, true, true, true])] 600 (S2_ok (d + 3)) rfl rfl rfl h
-- RegionStack$Runner.goThrough at 21, 1 leaves
set_option maxRecDepth 100000 in
set_option maxHeartbeats 4000000 in
theorem b_114_21n {d : Nat} {P : AV → SS → Prop} {σ : SS} {l1 l2 : Int} (h : (((0 : Int) = 0 ∨ (0 : Int) = 1) ∧ P (vi (0 : Int)) σ)) : G (d + 5) P 114 21 [vr 1 0, vi l1, vi l2, vu, vu] [vz] σ := blk (S := S2) (c := cd_114) (bz := true) [(21, [true, true, true, false, false]), (33, [true, true, true, true, true])] 600 (S2_ok (d + 3)) rfl rfl rfl h
-- RegionStack$Runner.goThrough at 21, 1 leaves
set_option maxRecDepth 100000 in
set_option maxHeartbeats 4000000 in
theorem b_114_21r {d : Nat} {P : AV → SS → Prop} {σ : SS} {l1 l2 q : Int} (h : (∃ σ1 : SS, Rn (d + 5) 115 [vr 1 0, vr 4 q, vi l1, vi l2] σ vu σ1 ∧ G (d + 5) P 114 33 [vr 1 0, vi l1, vi l2, vr 4 q, vi 0] [] σ1)) : G (d + 5) P 114 21 [vr 1 0, vi l1, vi l2, vu, vu] [vr 4 q] σ := blk (S := S2) (c := cd_114) (bz := true) [(21, [true, true, true, false, false]), (33, [true, true, true, true, true])] 600 (S2_ok (d + 3)) rfl rfl rfl h
-- RegionStack$Runner.goThrough at 33, 19 leaves
set_option maxRecDepth 100000 in
set_option maxHeartbeats 4000000 in
theorem b_114_33 {d : Nat} {P : AV → SS → Prop} {σ : SS} {l1 l2 q l4 : Int} (h : (((9003 : Int) ≤ l4 → (((σ 1 0 14) = 0 → (((0 : Int) = 0 ∨ (0 : Int) = 1) ∧ (∀ σ1 : SS, σ1 = up σ 1 0 14 (0 : Int) → (((σ1 6 q 3) ≠ (1 : Int) → (∀ σ2 : SS, σ2 = up σ1 1 0 15 (σ1 2 0 1) → (∀ σ3 : SS, σ3 = up σ2 1 0 16 l1 → (∀ σ4 : SS, σ4 = up σ3 1 0 17 l2 → (((σ4 1 0 14) = 0 ∨ (σ4 1 0 14) = 1) ∧ P (vi (σ4 1 0 14)) σ4))))) ∧ ((σ1 6 q 3) = (1 : Int) → (∀ σ5 : SS, σ5 = up σ1 1 0 11 (rg 300 (σ1 58 0) (σ1 1 0 11)) → (∀ σ6 : SS, σ6 = up σ5 1 0 15 (σ5 2 0 1) → (∀ σ7 : SS, σ7 = up σ6 1 0 16 l1 → (∀ σ8 : SS, σ8 = up σ7 1 0 17 l2 → (((σ8 1 0 14) = 0 ∨ (σ8 1 0 14) = 1) ∧ P (vi (σ8 1 0 14)) σ8)))))))))) ∧ ((σ 1 0 14) ≠ 0 → (((σ 1 0 10) ≠ 0 → (((0 : Int) = 0 ∨ (0 : Int) = 1) ∧ (∀ σ9 : SS, σ9 = up σ 1 0 14 (0 : Int) → (((σ9 6 q 3) ≠ (1 : Int) → (∀ σ10 : SS, σ10 = up σ9 1 0 15 (σ9 2 0 1) → (∀ σ11 : SS, σ11 = up σ10 1 0 16 l1 → (∀ σ12 : SS, σ12 = up σ11 1 0 17 l2 → (((σ12 1 0 14) = 0 ∨ (σ12 1 0 14) = 1) ∧ P (vi (σ12 1 0 14)) σ12))))) ∧ ((σ9 6 q 3) = (1 : Int) → (∀ σ13 : SS, σ13 = up σ9 1 0 11 (rg 300 (σ9 58 0) (σ9 1 0 11)) → (∀ σ14 : SS, σ14 = up σ13 1 0 15 (σ13 2 0 1) → (∀ σ15 : SS, σ15 = up σ14 1 0 16 l1 → (∀ σ16 : SS, σ16 = up σ15 1 0 17 l2 → (((σ16 1 0 14) = 0 ∨ (σ16 1 0 14) = 1) ∧ P (vi (σ16 1 0 14)) σ16)))))))))) ∧ ((σ 1 0 10) = 0 → (((1 : Int) = 0 ∨ (1 : Int) = 1) ∧ (∀ σ17 : SS, σ17 = up σ 1 0 14 (1 : Int) → (((σ17 6 q 3) ≠ (1 : Int) → (∀ σ18 : SS, σ18 = up σ17 1 0 15 (σ17 2 0 1) → (∀ σ19 : SS, σ19 = up σ18 1 0 16 l1 → (∀ σ20 : SS, σ20 = up σ19 1 0 17 l2 → (((σ20 1 0 14) = 0 ∨ (σ20 1 0 14) = 1) ∧ P (vi (σ20 1 0 14)) σ20))))) ∧ ((σ17 6 q 3) = (1 : Int) → (∀ σ21 : SS, σ21 = up σ17 1 0 11 (rg 300 (σ17 58 0) (σ17 1 0 11)) → (∀ σ22 : SS, σ22 = up σ21 1 0 15 (σ21 2 0 1) → (∀ σ23 : SS, σ23 = up σ22 1 0 16 l1 → (∀ σ24 : SS, σ24 = up σ23 1 0 17 l2 → (((σ24 1 0 14) = 0 ∨ (σ24 1 0 14) = 1) ∧ P (vi (σ24 1 0 14)) σ24)))))))))))))) ∧ (l4 < (9003 : Int) → (((σ 1 0 10) ≤ 0 → (((σ 1 0 14) = 0 → (((0 : Int) = 0 ∨ (0 : Int) = 1) ∧ (∀ σ25 : SS, σ25 = up σ 1 0 14 (0 : Int) → (((σ25 6 q 3) ≠ (1 : Int) → (∀ σ26 : SS, σ26 = up σ25 1 0 15 (σ25 2 0 1) → (∀ σ27 : SS, σ27 = up σ26 1 0 16 l1 → (∀ σ28 : SS, σ28 = up σ27 1 0 17 l2 → (((σ28 1 0 14) = 0 ∨ (σ28 1 0 14) = 1) ∧ P (vi (σ28 1 0 14)) σ28))))) ∧ ((σ25 6 q 3) = (1 : Int) → (∀ σ29 : SS, σ29 = up σ25 1 0 11 (rg 300 (σ25 58 0) (σ25 1 0 11)) → (∀ σ30 : SS, σ30 = up σ29 1 0 15 (σ29 2 0 1) → (∀ σ31 : SS, σ31 = up σ30 1 0 16 l1 → (∀ σ32 : SS, σ32 = up σ31 1 0 17 l2 → (((σ32 1 0 14) = 0 ∨ (σ32 1 0 14) = 1) ∧ P (vi (σ32 1 0 14)) σ32)))))))))) ∧ ((σ 1 0 14) ≠ 0 → (((σ 1 0 10) ≠ 0 → (((0 : Int) = 0 ∨ (0 : Int) = 1) ∧ (∀ σ33 : SS, σ33 = up σ 1 0 14 (0 : Int) → (((σ33 6 q 3) ≠ (1 : Int) → (∀ σ34 : SS, σ34 = up σ33 1 0 15 (σ33 2 0 1) → (∀ σ35 : SS, σ35 = up σ34 1 0 16 l1 → (∀ σ36 : SS, σ36 = up σ35 1 0 17 l2 → (((σ36 1 0 14) = 0 ∨ (σ36 1 0 14) = 1) ∧ P (vi (σ36 1 0 14)) σ36))))) ∧ ((σ33 6 q 3) = (1 : Int) → (∀ σ37 : SS, σ37 = up σ33 1 0 11 (rg 300 (σ33 58 0) (σ33 1 0 11)) → (∀ σ38 : SS, σ38 = up σ37 1 0 15 (σ37 2 0 1) → (∀ σ39 : SS, σ39 = up σ38 1 0 16 l1 → (∀ σ40 : SS, σ40 = up σ39 1 0 17 l2 → (((σ40 1 0 14) = 0 ∨ (σ40 1 0 14) = 1) ∧ P (vi (σ40 1 0 14)) σ40)))))))))) ∧ ((σ 1 0 10) = 0 → (((1 : Int) = 0 ∨ (1 : Int) = 1) ∧ (∀ σ41 : SS, σ41 = up σ 1 0 14 (1 : Int) → (((σ41 6 q 3) ≠ (1 : Int) → (∀ σ42 : SS, σ42 = up σ41 1 0 15 (σ41 2 0 1) → (∀ σ43 : SS, σ43 = up σ42 1 0 16 l1 → (∀ σ44 : SS, σ44 = up σ43 1 0 17 l2 → (((σ44 1 0 14) = 0 ∨ (σ44 1 0 14) = 1) ∧ P (vi (σ44 1 0 14)) σ44))))) ∧ ((σ41 6 q 3) = (1 : Int) → (∀ σ45 : SS, σ45 = up σ41 1 0 11 (rg 300 (σ41 58 0) (σ41 1 0 11)) → (∀ σ46 : SS, σ46 = up σ45 1 0 15 (σ45 2 0 1) → (∀ σ47 : SS, σ47 = up σ46 1 0 16 l1 → (∀ σ48 : SS, σ48 = up σ47 1 0 17 l2 → (((σ48 1 0 14) = 0 ∨ (σ48 1 0 14) = 1) ∧ P (vi (σ48 1 0 14)) σ48)))))))))))))) ∧ (0 < (σ 1 0 10) → (((σ 1 0 14) = 0 → (((σ 1 0 14) = 0 → (((0 : Int) = 0 ∨ (0 : Int) = 1) ∧ (∀ σ49 : SS, σ49 = up σ 1 0 14 (0 : Int) → (((σ49 6 q 3) ≠ (1 : Int) → (∀ σ50 : SS, σ50 = up σ49 1 0 15 (σ49 2 0 1) → (∀ σ51 : SS, σ51 = up σ50 1 0 16 l1 → (∀ σ52 : SS, σ52 = up σ51 1 0 17 l2 → (((σ52 1 0 14) = 0 ∨ (σ52 1 0 14) = 1) ∧ P (vi (σ52 1 0 14)) σ52))))) ∧ ((σ49 6 q 3) = (1 : Int) → (∀ σ53 : SS, σ53 = up σ49 1 0 11 (rg 300 (σ49 58 0) (σ49 1 0 11)) → (∀ σ54 : SS, σ54 = up σ53 1 0 15 (σ53 2 0 1) → (∀ σ55 : SS, σ55 = up σ54 1 0 16 l1 → (∀ σ56 : SS, σ56 = up σ55 1 0 17 l2 → (((σ56 1 0 14) = 0 ∨ (σ56 1 0 14) = 1) ∧ P (vi (σ56 1 0 14)) σ56)))))))))) ∧ ((σ 1 0 14) ≠ 0 → (((σ 1 0 10) ≠ 0 → (((0 : Int) = 0 ∨ (0 : Int) = 1) ∧ (∀ σ57 : SS, σ57 = up σ 1 0 14 (0 : Int) → (((σ57 6 q 3) ≠ (1 : Int) → (∀ σ58 : SS, σ58 = up σ57 1 0 15 (σ57 2 0 1) → (∀ σ59 : SS, σ59 = up σ58 1 0 16 l1 → (∀ σ60 : SS, σ60 = up σ59 1 0 17 l2 → (((σ60 1 0 14) = 0 ∨ (σ60 1 0 14) = 1) ∧ P (vi (σ60 1 0 14)) σ60))))) ∧ ((σ57 6 q 3) = (1 : Int) → (∀ σ61 : SS, σ61 = up σ57 1 0 11 (rg 300 (σ57 58 0) (σ57 1 0 11)) → (∀ σ62 : SS, σ62 = up σ61 1 0 15 (σ61 2 0 1) → (∀ σ63 : SS, σ63 = up σ62 1 0 16 l1 → (∀ σ64 : SS, σ64 = up σ63 1 0 17 l2 → (((σ64 1 0 14) = 0 ∨ (σ64 1 0 14) = 1) ∧ P (vi (σ64 1 0 14)) σ64)))))))))) ∧ ((σ 1 0 10) = 0 → (((1 : Int) = 0 ∨ (1 : Int) = 1) ∧ (∀ σ65 : SS, σ65 = up σ 1 0 14 (1 : Int) → (((σ65 6 q 3) ≠ (1 : Int) → (∀ σ66 : SS, σ66 = up σ65 1 0 15 (σ65 2 0 1) → (∀ σ67 : SS, σ67 = up σ66 1 0 16 l1 → (∀ σ68 : SS, σ68 = up σ67 1 0 17 l2 → (((σ68 1 0 14) = 0 ∨ (σ68 1 0 14) = 1) ∧ P (vi (σ68 1 0 14)) σ68))))) ∧ ((σ65 6 q 3) = (1 : Int) → (∀ σ69 : SS, σ69 = up σ65 1 0 11 (rg 300 (σ65 58 0) (σ65 1 0 11)) → (∀ σ70 : SS, σ70 = up σ69 1 0 15 (σ69 2 0 1) → (∀ σ71 : SS, σ71 = up σ70 1 0 16 l1 → (∀ σ72 : SS, σ72 = up σ71 1 0 17 l2 → (((σ72 1 0 14) = 0 ∨ (σ72 1 0 14) = 1) ∧ P (vi (σ72 1 0 14)) σ72)))))))))))))) ∧ ((σ 1 0 14) ≠ 0 → (∃ σ73 : SS, Rn (d + 5) 119 [vr 1 0] σ vu σ73 ∧ (ir (l4 + 1) ∧ G (d + 5) P 114 33 [vr 1 0, vi l1, vi l2, vr 4 q, vi (l4 + 1)] [] σ73))))))))) : G (d + 5) P 114 33 [vr 1 0, vi l1, vi l2, vr 4 q, vi l4] [] σ := blk (S := S2) (c := cd_114) (bz := true) [(21, [true, true, true, false, false]), (33, [true, true, true, true, true])] 600 (S2_ok (d + 3)) rfl rfl rfl h
-- RegionStack$Runner.begin at 0, 6 leaves
set_option maxRecDepth 100000 in
set_option maxHeartbeats 4000000 in
theorem b_115_0 {d : Nat} {P : AV → SS → Prop} {σ : SS} {c l2 l3 : Int} (h : (∃ σ1 : SS, Rn (d + 2) 127 [vr 32 0] σ vu σ1 ∧ (∀ σ2 : SS, σ2 = up σ1 1 0 10 (0 : Int) → (∀ σ3 : SS, σ3 = up σ2 1 0 11 (0 : Int) → (∀ σ4 : SS, σ4 = up σ3 1 0 12 (0 : Int) → (∀ σ5 : SS, σ5 = up σ4 1 0 13 (0 : Int) → (((1 : Int) = 0 ∨ (1 : Int) = 1) ∧ (∀ σ6 : SS, σ6 = up σ5 1 0 14 (1 : Int) → (∀ σ7 : SS, σ7 = us 13 σ6 54 0 0 l2 → (∀ σ8 : SS, σ8 = us 13 σ7 55 0 0 l3 → (((σ8 6 c 2) ≠ (1 : Int) → (((σ8 6 c 3) ≠ (1 : Int) → (∃ σ9 : SS, Rn (d + 2) 118 [vr 1 0, vi 0, vi 0] σ8 vu σ9 ∧ P vu σ9)) ∧ ((σ8 6 c 3) = (1 : Int) → (((σ8 4 c 6) ≠ 0 → (∃ σ10 : SS, Rn (d + 2) 118 [vr 1 0, vi 0, vi 0] σ8 vu σ10 ∧ P vu σ10)) ∧ ((σ8 4 c 6) = 0 → (∃ (x12 : Int) (σ11 : SS), Rn (d + 2) 128 [vr 32 0] σ8 (vi x12) σ11 ∧ (∃ σ13 : SS, Rn (d + 2) 116 [vr 1 0, vi 0, vi 1, vi x12] σ11 vu σ13 ∧ (∃ σ14 : SS, Rn (d + 2) 118 [vr 1 0, vi 0, vi 0] σ13 vu σ14 ∧ P vu σ14)))))))) ∧ ((σ8 6 c 2) = (1 : Int) → (∃ (x16 : Int) (σ15 : SS), Rn (d + 2) 128 [vr 32 0] σ8 (vi x16) σ15 ∧ (∃ σ17 : SS, Rn (d + 2) 116 [vr 1 0, vi 0, vi 0, vi x16] σ15 vu σ17 ∧ (∃ (x19 : Int) (σ18 : SS), Rn (d + 2) 130 [vr 32 0, vi x16, vi l3] σ17 (vi x19) σ18 ∧ (∀ σ20 : SS, σ20 = us 13 σ18 55 0 0 x19 → (((σ20 6 c 3) ≠ (1 : Int) → (∃ σ21 : SS, Rn (d + 2) 118 [vr 1 0, vi 0, vi 0] σ20 vu σ21 ∧ P vu σ21)) ∧ ((σ20 6 c 3) = (1 : Int) → (((σ20 4 c 6) ≠ 0 → (∃ σ22 : SS, Rn (d + 2) 118 [vr 1 0, vi 0, vi 0] σ20 vu σ22 ∧ P vu σ22)) ∧ ((σ20 4 c 6) = 0 → (∃ (x24 : Int) (σ23 : SS), Rn (d + 2) 128 [vr 32 0] σ20 (vi x24) σ23 ∧ (∃ σ25 : SS, Rn (d + 2) 116 [vr 1 0, vi 0, vi 1, vi x24] σ23 vu σ25 ∧ (∃ σ26 : SS, Rn (d + 2) 118 [vr 1 0, vi 0, vi 0] σ25 vu σ26 ∧ P vu σ26))))))))))))))))))))))) : G (d + 2) P 115 0 [vr 1 0, vr 4 c, vi l2, vi l3, vu] [] σ := blk (S := S1) (c := cd_115) (bz := false) [] 600 (S1_ok (d + 1)) rfl rfl rfl h
-- RegionStack$Runner.setRegion at 0, 2 leaves
set_option maxRecDepth 100000 in
set_option maxHeartbeats 4000000 in
theorem b_116_0 {d : Nat} {P : AV → SS → Prop} {σ : SS} {l1 l2 l3 : Int} (h : ((l2 < 0 → P vu σ) ∧ (0 ≤ l2 → (ir (l1 * 42) ∧ (ir ((l1 * 42) + l2) ∧ (∀ σ1 : SS, σ1 = us 546 σ 57 0 ((l1 * 42) + l2) l3 → P vu σ1)))))) : G (d + 1) P 116 0 [vr 1 0, vi l1, vi l2, vi l3] [] σ := blk (S := S1) (c := cd_116) (bz := false) [] 600 (S1_ok (d + 0)) rfl rfl rfl h
-- RegionStack$Runner.regionFor at 0, 2 leaves
set_option maxRecDepth 100000 in
set_option maxHeartbeats 4000000 in
theorem b_117_0 {d : Nat} {P : AV → SS → Prop} {σ : SS} {l1 l2 : Int} (h : ((l2 < 0 → P (vi ((-6) : Int)) σ) ∧ (0 ≤ l2 → (ir (l1 * 42) ∧ (ir ((l1 * 42) + l2) ∧ P (vi (rg 546 (σ 57 0) ((l1 * 42) + l2))) σ))))) : G (d + 1) P 117 0 [vr 1 0, vi l1, vi l2] [] σ := blk (S := S1) (c := cd_117) (bz := false) [] 600 (S1_ok (d + 0)) rfl rfl rfl h
-- RegionStack$Runner.push at 0, 1 leaves
set_option maxRecDepth 100000 in
set_option maxHeartbeats 4000000 in
theorem b_118_0 {d : Nat} {P : AV → SS → Prop} {σ : SS} {l1 l2 : Int} (h : (∀ σ1 : SS, σ1 = us 520 σ 52 0 (σ 1 0 10) l1 → (∀ σ2 : SS, σ2 = us 520 σ1 50 0 (σ1 1 0 10) l2 → (∀ σ3 : SS, σ3 = us 520 σ2 51 0 (σ2 1 0 10) 0 → (ir ((σ3 1 0 10) + 1) ∧ (∀ σ4 : SS, σ4 = up σ3 1 0 10 ((σ3 1 0 10) + 1) → P vu σ4)))))) : G (d + 1) P 118 0 [vr 1 0, vi l1, vi l2] [] σ := blk (S := S1) (c := cd_118) (bz := false) [] 600 (S1_ok (d + 0)) rfl rfl rfl h
-- RegionStack$Runner.takeTurn at 0, 1 leaves
set_option maxRecDepth 100000 in
set_option maxHeartbeats 4000000 in
theorem b_119_0 {d : Nat} {P : AV → SS → Prop} {σ : SS} (h : (ir ((σ 1 0 10) - 1) ∧ (∃ (r2 : Option (Nat × Int)) (σ1 : SS), Rn (d + 4) 15 [vr 2 0, vi (rg 13 (σ 54 0) (rg 520 (σ 52 0) ((σ 1 0 10) - 1)))] σ (.inr (.inl r2)) σ1 ∧ G (d + 4) P 119 27 [vr 1 0, vi ((σ 1 0 10) - 1), vi (rg 520 (σ 52 0) ((σ 1 0 10) - 1)), vi (rg 520 (σ 50 0) ((σ 1 0 10) - 1)), vi (rg 520 (σ 51 0) ((σ 1 0 10) - 1)), vu] [.inr (.inl r2)] σ1))) : G (d + 4) P 119 0 [vr 1 0, vu, vu, vu, vu, vu] [] σ := blk (S := S1) (c := cd_119) (bz := false) [(27, [true, true, true, true, true, false])] 600 (S1_ok (d + 3)) rfl rfl rfl h
-- RegionStack$Runner.takeTurn at 27, 1 leaves
set_option maxRecDepth 100000 in
set_option maxHeartbeats 4000000 in
theorem b_119_27n {d : Nat} {P : AV → SS → Prop} {σ : SS} {l1 l2 l3 l4 : Int} (h : (((0 : Int) = 0 ∨ (0 : Int) = 1) ∧ (∀ σ1 : SS, σ1 = up σ 1 0 14 (0 : Int) → P vu σ1))) : G (d + 4) P 119 27 [vr 1 0, vi l1, vi l2, vi l3, vi l4, vu] [vz] σ := blk (S := S1) (c := cd_119) (bz := false) [(27, [true, true, true, true, true, false])] 600 (S1_ok (d + 3)) rfl rfl rfl h
-- RegionStack$Runner.takeTurn at 27, 4 leaves
set_option maxRecDepth 100000 in
set_option maxHeartbeats 4000000 in
theorem b_119_27r {d : Nat} {P : AV → SS → Prop} {σ : SS} {l1 l2 l3 l4 q : Int} (h : (ir (l4 + 1) ∧ (∀ σ1 : SS, σ1 = us 520 σ 51 0 l1 (l4 + 1) → ((l4 ≠ 0 → ((l4 ≠ (1 : Int) → (((rg 40 (σ1 37 q) l3) ≠ (43 : Int) → (∃ σ2 : SS, Rn (d + 4) 122 [vr 1 0, vr 4 q, vi l3] σ1 vu σ2 ∧ P vu σ2)) ∧ ((rg 40 (σ1 37 q) l3) = (43 : Int) → (ir ((rg 520 (σ1 53 0) l1) + (σ1 1 0 11)) ∧ ((0 ≤ ((rg 520 (σ1 53 0) l1) + (σ1 1 0 11)) ∧ 0 < (1000 : Int)) ∧ (∀ σ3 : SS, σ3 = up σ1 1 0 11 (((rg 520 (σ1 53 0) l1) + (σ1 1 0 11)) % 1000) → (∃ σ4 : SS, Rn (d + 4) 122 [vr 1 0, vr 4 q, vi l3] σ3 vu σ4 ∧ P vu σ4))))))) ∧ (l4 = (1 : Int) → (∃ σ5 : SS, Rn (d + 4) 123 [vr 1 0, vr 4 q, vi l2, vi l3] σ1 vu σ5 ∧ P vu σ5)))) ∧ (l4 = 0 → (∃ σ6 : SS, Rn (d + 4) 120 [vr 1 0, vr 4 q, vi l2, vi l3] σ1 vu σ6 ∧ P vu σ6)))))) : G (d + 4) P 119 27 [vr 1 0, vi l1, vi l2, vi l3, vi l4, vu] [vr 4 q] σ := blk (S := S1) (c := cd_119) (bz := false) [(27, [true, true, true, true, true, false])] 600 (S1_ok (d + 3)) rfl rfl rfl h
-- RegionStack$Runner.enter at 0, 2 leaves
set_option maxRecDepth 100000 in
set_option maxHeartbeats 4000000 in
theorem b_120_0 {d : Nat} {P : AV → SS → Prop} {σ : SS} {c l2 l3 : Int} (h : (ir ((σ 1 0 12) + 1) ∧ (∀ σ1 : SS, σ1 = up σ 1 0 12 ((σ 1 0 12) + 1) → (((σ1 1 0 12) ≤ (3000 : Int) → G (d + 3) P 120 16 [vr 1 0, vr 4 c, vi l2, vi l3, vi 2] [] σ1) ∧ ((3000 : Int) < (σ1 1 0 12) → (((0 : Int) = 0 ∨ (0 : Int) = 1) ∧ (∀ σ2 : SS, σ2 = up σ1 1 0 14 (0 : Int) → P vu σ2))))))) : G (d + 3) P 120 0 [vr 1 0, vr 4 c, vi l2, vi l3, vu] [] σ := blk (S := S3) (c := cd_120) (bz := false) [(16, [true, true, true, true, true])] 600 (S3_ok (d + 0)) rfl rfl rfl h
-- RegionStack$Runner.enter at 16, 4 leaves
set_option maxRecDepth 100000 in
set_option maxHeartbeats 4000000 in
theorem b_120_16 {d : Nat} {P : AV → SS → Prop} {σ : SS} {c l2 l3 l4 : Int} (h : (ir ((2 : Int) + (σ 4 c 8)) ∧ ((((2 : Int) + (σ 4 c 8)) ≤ l4 → (((tin (rg 40 (σ 37 c) l3)) ≤ 0 → (∃ (x2 : Int) (σ1 : SS), Rn (d + 3) 121 [vr 1 0, vr 5 c, vi l2, vi l3] σ (vi x2) σ1 ∧ (∀ σ3 : SS, σ3 = up σ1 1 0 11 x2 → (∃ σ4 : SS, Rn (d + 3) 122 [vr 1 0, vr 4 c, vi l3] σ3 vu σ4 ∧ P vu σ4)))) ∧ (0 < (tin (rg 40 (σ 37 c) l3)) → ((ir (3 * l3) ∧ ir (3 * l3 + 0)) ∧ (∃ σ5 : SS, Rn (d + 3) 118 [vr 1 0, vi l2, vi (rg 120 (σ 41 c) (3 * l3 + 0))] σ vu σ5 ∧ P vu σ5))))) ∧ (l4 < ((2 : Int) + (σ 4 c 8)) → (((rg 42 (σ 49 c) l4) ≠ l3 → (ir (l4 + 1) ∧ G (d + 3) P 120 16 [vr 1 0, vr 4 c, vi l2, vi l3, vi (l4 + 1)] [] σ)) ∧ ((rg 42 (σ 49 c) l4) = l3 → (∃ (x7 : Int) (σ6 : SS), Rn (d + 3) 128 [vr 32 0] σ (vi x7) σ6 ∧ (∃ σ8 : SS, Rn (d + 3) 116 [vr 1 0, vi l2, vi l4, vi x7] σ6 vu σ8 ∧ (ir (l4 + 1) ∧ G (d + 3) P 120 16 [vr 1 0, vr 4 c, vi l2, vi l3, vi (l4 + 1)] [] σ8))))))))) : G (d + 3) P 120 16 [vr 1 0, vr 4 c, vi l2, vi l3, vi l4] [] σ := blk (S := S3) (c := cd_120) (bz := false) [(16, [true, true, true, true, true])] 600 (S3_ok (d + 0)) rfl rfl rfl h
-- RegionStack$Runner.valueOf at 0, 3 leaves
set_option maxRecDepth 100000 in
set_option maxHeartbeats 4000000 in
theorem b_121_0 {d : Nat} {P : AV → SS → Prop} {σ : SS} {c l2 l3 : Int} (h : (((rg 40 (σ 37 c) l3) ≠ (120 : Int) → (((if 97 ≤ (rg 40 (σ 37 c) l3) ∧ (rg 40 (σ 37 c) l3) ≤ 100 then (1 : Int) else 0) = 0 → (ir ((rg 40 (σ 37 c) l3) - 48) ∧ P (vi ((rg 40 (σ 37 c) l3) - 48)) σ)) ∧ ((if 97 ≤ (rg 40 (σ 37 c) l3) ∧ (rg 40 (σ 37 c) l3) ≤ 100 then (1 : Int) else 0) ≠ 0 → (ir (l2 * 40) ∧ (ir ((l2 * 40) + (rg 40 (σ 44 c) l3)) ∧ P (vi (rg 520 (σ 56 0) ((l2 * 40) + (rg 40 (σ 44 c) l3)))) σ))))) ∧ ((rg 40 (σ 37 c) l3) = (120 : Int) → P (vi (rg 13 (σ 55 0) l2)) σ))) : G (d + 2) P 121 0 [vr 1 0, vr 5 c, vi l2, vi l3, vu] [] σ := blk (S := S2) (c := cd_121) (bz := false) [] 600 (S2_ok (d + 0)) rfl rfl rfl h
-- RegionStack$Runner.leave at 0, 1 leaves
set_option maxRecDepth 100000 in
set_option maxHeartbeats 4000000 in
theorem b_122_0 {d : Nat} {P : AV → SS → Prop} {σ : SS} {c l2 : Int} (h : G (d + 2) P 122 2 [vr 1 0, vr 4 c, vi l2, vi 2] [] σ) : G (d + 2) P 122 0 [vr 1 0, vr 4 c, vi l2, vu] [] σ := blk (S := S1) (c := cd_122) (bz := false) [(2, [true, true, true, true])] 600 (S1_ok (d + 1)) rfl rfl rfl h
-- RegionStack$Runner.leave at 2, 3 leaves
set_option maxRecDepth 100000 in
set_option maxHeartbeats 4000000 in
theorem b_122_2 {d : Nat} {P : AV → SS → Prop} {σ : SS} {c l2 l3 : Int} (h : (ir ((2 : Int) + (σ 4 c 8)) ∧ ((((2 : Int) + (σ 4 c 8)) ≤ l3 → (ir ((σ 1 0 10) - 1) ∧ (∀ σ1 : SS, σ1 = up σ 1 0 10 ((σ 1 0 10) - 1) → P vu σ1))) ∧ (l3 < ((2 : Int) + (σ 4 c 8)) → (((rg 42 (σ 49 c) l3) ≠ l2 → (ir (l3 + 1) ∧ G (d + 2) P 122 2 [vr 1 0, vr 4 c, vi l2, vi (l3 + 1)] [] σ)) ∧ ((rg 42 (σ 49 c) l3) = l2 → (∃ σ2 : SS, Rn (d + 2) 129 [vr 32 0] σ vu σ2 ∧ (ir (l3 + 1) ∧ G (d + 2) P 122 2 [vr 1 0, vr 4 c, vi l2, vi (l3 + 1)] [] σ2)))))))) : G (d + 2) P 122 2 [vr 1 0, vr 4 c, vi l2, vi l3] [] σ := blk (S := S1) (c := cd_122) (bz := false) [(2, [true, true, true, true])] 600 (S1_ok (d + 1)) rfl rfl rfl h
-- RegionStack$Runner.goOn at 0, 8 leaves
set_option maxRecDepth 100000 in
set_option maxHeartbeats 4000000 in
theorem b_123_0 {d : Nat} {P : AV → SS → Prop} {σ : SS} {c l2 l3 : Int} (h : (((rg 40 (σ 37 c) l3) ≠ 42 → ((rg 40 (σ 37 c) l3) ≠ 43 → ((rg 40 (σ 37 c) l3) ≠ 45 → ((rg 40 (σ 37 c) l3) ≠ 63 → ((rg 40 (σ 37 c) l3) ≠ 108 → ((rg 40 (σ 37 c) l3) ≠ 110 → (∃ σ1 : SS, Rn (d + 3) 125 [vr 1 0, vr 4 c, vi l2, vi l3] σ vu σ1 ∧ P vu σ1))))))) ∧ (((rg 40 (σ 37 c) l3) = 42 → (∀ σ14 : SS, σ14 = up σ 1 0 11 (rg 300 (σ 58 0) (σ 1 0 11)) → (∃ σ15 : SS, Rn (d + 3) 122 [vr 1 0, vr 4 c, vi l3] σ14 vu σ15 ∧ P vu σ15))) ∧ (((rg 40 (σ 37 c) l3) = 43 → (ir ((σ 1 0 10) - 1) ∧ (∀ σ12 : SS, σ12 = us 520 σ 53 0 ((σ 1 0 10) - 1) (σ 1 0 11) → ((ir (3 * l3) ∧ ir (3 * l3 + 1)) ∧ (∃ σ13 : SS, Rn (d + 3) 118 [vr 1 0, vi l2, vi (rg 120 (σ12 41 c) (3 * l3 + 1))] σ12 vu σ13 ∧ P vu σ13))))) ∧ (((rg 40 (σ 37 c) l3) = 45 → (ir ((σ 1 0 11) - 1) ∧ (∀ σ10 : SS, σ10 = up σ 1 0 11 (max 0 ((σ 1 0 11) - 1)) → (∃ σ11 : SS, Rn (d + 3) 122 [vr 1 0, vr 4 c, vi l3] σ10 vu σ11 ∧ P vu σ11)))) ∧ (((rg 40 (σ 37 c) l3) = 63 → (((σ 1 0 11) = 0 → ((ir (3 * l3) ∧ ir (3 * l3 + 2)) ∧ (∃ σ8 : SS, Rn (d + 3) 118 [vr 1 0, vi l2, vi (rg 120 (σ 41 c) (3 * l3 + 2))] σ vu σ8 ∧ P vu σ8))) ∧ ((σ 1 0 11) ≠ 0 → ((ir (3 * l3) ∧ ir (3 * l3 + 1)) ∧ (∃ σ9 : SS, Rn (d + 3) 118 [vr 1 0, vi l2, vi (rg 120 (σ 41 c) (3 * l3 + 1))] σ vu σ9 ∧ P vu σ9))))) ∧ (((rg 40 (σ 37 c) l3) = 108 → (ir (l2 * 40) ∧ (ir ((l2 * 40) + l3) ∧ (∀ σ6 : SS, σ6 = us 520 σ 56 0 ((l2 * 40) + l3) (σ 1 0 11) → ((ir (3 * l3) ∧ ir (3 * l3 + 1)) ∧ (∃ σ7 : SS, Rn (d + 3) 118 [vr 1 0, vi l2, vi (rg 120 (σ6 41 c) (3 * l3 + 1))] σ6 vu σ7 ∧ P vu σ7)))))) ∧ (((rg 40 (σ 37 c) l3) = 110 → (∃ (x3 : Int) (σ2 : SS), Rn (d + 3) 117 [vr 1 0, vi l2, vi (rg 40 (σ 47 c) l3)] σ (vi x3) σ2 ∧ (∃ σ4 : SS, Rn (d + 3) 124 [vr 1 0, vi x3] σ2 vu σ4 ∧ (∃ σ5 : SS, Rn (d + 3) 122 [vr 1 0, vr 4 c, vi l3] σ4 vu σ5 ∧ P vu σ5)))) ∧ True)))))))) : G (d + 3) P 123 0 [vr 1 0, vr 4 c, vi l2, vi l3] [] σ := blk (S := S2) (c := cd_123) (bz := false) [] 600 (S2_ok (d + 1)) rfl rfl rfl h
-- RegionStack$Runner.makeBox at 0, 2 leaves
set_option maxRecDepth 100000 in
set_option maxHeartbeats 4000000 in
theorem b_124_0 {d : Nat} {P : AV → SS → Prop} {σ : SS} {l1 : Int} (h : (((σ 32 0 6) < (300 : Int) → (∃ (x2 : Int) (σ1 : SS), Rn (d + 2) 130 [vr 32 0, vi l1, vi (σ 1 0 11)] σ (vi x2) σ1 ∧ (∀ σ3 : SS, σ3 = up σ1 1 0 11 x2 → P vu σ3))) ∧ ((300 : Int) ≤ (σ 32 0 6) → (((0 : Int) = 0 ∨ (0 : Int) = 1) ∧ (∀ σ4 : SS, σ4 = up σ 1 0 14 (0 : Int) → P vu σ4))))) : G (d + 2) P 124 0 [vr 1 0, vi l1] [] σ := blk (S := noS) (c := cd_124) (bz := false) [] 600 (SV_no _) rfl rfl rfl h
-- RegionStack$Runner.callBody at 0, 2 leaves
set_option maxRecDepth 100000 in
set_option maxHeartbeats 4000000 in
theorem b_125_0 {d : Nat} {P : AV → SS → Prop} {σ : SS} {c l2 l3 : Int} (h : (ir (l2 + 1) ∧ (((l2 + 1) ≤ (12 : Int) → (ir ((σ 1 0 13) + 1) ∧ (∀ σ1 : SS, σ1 = up σ 1 0 13 ((σ 1 0 13) + 1) → (∃ (x3 : Int) (σ2 : SS), Rn (d + 2) 117 [vr 1 0, vi l2, vi (rg 40 (σ1 48 c) l3)] σ1 (vi x3) σ2 ∧ (∃ σ4 : SS, Rn (d + 2) 116 [vr 1 0, vi (l2 + 1), vi 0, vi x3] σ2 vu σ4 ∧ (∃ (x6 : Int) (σ5 : SS), Rn (d + 2) 117 [vr 1 0, vi l2, vi (rg 40 (σ4 47 c) l3)] σ4 (vi x6) σ5 ∧ (∃ σ7 : SS, Rn (d + 2) 116 [vr 1 0, vi (l2 + 1), vi 1, vi x6] σ5 vu σ7 ∧ (∀ σ8 : SS, σ8 = us 13 σ7 54 0 (l2 + 1) (rg 40 (σ7 40 c) l3) → (∀ σ9 : SS, σ9 = us 13 σ8 55 0 (l2 + 1) (σ8 1 0 11) → (∃ σ10 : SS, Rn (d + 2) 118 [vr 1 0, vi (l2 + 1), vi 0] σ9 vu σ10 ∧ P vu σ10)))))))))) ∧ ((12 : Int) < (l2 + 1) → (((0 : Int) = 0 ∨ (0 : Int) = 1) ∧ (∀ σ11 : SS, σ11 = up σ 1 0 14 (0 : Int) → P vu σ11)))))) : G (d + 2) P 125 0 [vr 1 0, vr 4 c, vi l2, vi l3, vu] [] σ := blk (S := S1) (c := cd_125) (bz := false) [] 600 (S1_ok (d + 1)) rfl rfl rfl h
-- RegionStack$Store.clear at 0, 1 leaves
set_option maxRecDepth 100000 in
set_option maxHeartbeats 4000000 in
theorem b_127_0 {d : Nat} {P : AV → SS → Prop} {σ : SS} (h : (∀ σ1 : SS, σ1 = up σ 32 0 3 (0 : Int) → (∀ σ2 : SS, σ2 = up σ1 32 0 4 (0 : Int) → (∀ σ3 : SS, σ3 = up σ2 32 0 5 (0 : Int) → (∀ σ4 : SS, σ4 = up σ3 32 0 6 (0 : Int) → (∀ σ5 : SS, σ5 = up σ4 32 0 7 (0 : Int) → (∀ σ6 : SS, σ6 = up σ5 32 0 8 (0 : Int) → (∀ σ7 : SS, σ7 = up σ6 32 0 9 (0 : Int) → (∀ σ8 : SS, σ8 = up σ7 32 0 10 (0 : Int) → (∀ σ9 : SS, σ9 = up σ8 32 0 11 (0 : Int) → (∀ σ10 : SS, σ10 = up σ9 32 0 12 (0 : Int) → P vu σ10))))))))))) : G (d + 0) P 127 0 [vr 32 0] [] σ := blk (S := noS) (c := cd_127) (bz := false) [] 600 (SV_no _) rfl rfl rfl h
-- RegionStack$Store.openRegion at 0, 1 leaves
set_option maxRecDepth 100000 in
set_option maxHeartbeats 4000000 in
theorem b_128_0 {d : Nat} {P : AV → SS → Prop} {σ : SS} (h : (∀ σ1 : SS, σ1 = us 546 σ 59 0 (σ 32 0 3) 0 → (∀ σ2 : SS, σ2 = us 546 σ1 60 0 (σ 32 0 3) 1 → (ir ((σ2 32 0 3) + 1) ∧ (∀ σ3 : SS, σ3 = up σ2 32 0 3 ((σ2 32 0 3) + 1) → (ir ((σ3 32 0 9) + 1) ∧ (∀ σ4 : SS, σ4 = up σ3 32 0 9 ((σ3 32 0 9) + 1) → (∀ σ5 : SS, σ5 = up σ4 32 0 8 (max (σ4 32 0 8) (σ4 32 0 3)) → P (vi (σ 32 0 3)) σ5)))))))) : G (d + 1) P 128 0 [vr 32 0, vu] [] σ := blk (S := S1) (c := cd_128) (bz := false) [] 600 (S1_ok (d + 0)) rfl rfl rfl h
-- RegionStack$Store.closeLast at 0, 2 leaves
set_option maxRecDepth 100000 in
set_option maxHeartbeats 4000000 in
theorem b_129_0 {d : Nat} {P : AV → SS → Prop} {σ : SS} (h : (((σ 32 0 3) ≤ 0 → P vu σ) ∧ (0 < (σ 32 0 3) → (ir ((σ 32 0 3) - 1) ∧ (∀ σ1 : SS, σ1 = up σ 32 0 3 ((σ 32 0 3) - 1) → (ir ((σ1 32 0 4) - (rg 546 (σ1 59 0) (σ1 32 0 3))) ∧ (∀ σ2 : SS, σ2 = up σ1 32 0 4 ((σ1 32 0 4) - (rg 546 (σ1 59 0) (σ1 32 0 3))) → (ir ((rg 546 (σ1 59 0) (σ1 32 0 3)) * (rg 546 (σ2 60 0) (σ2 32 0 3))) ∧ (ir ((σ2 32 0 5) - ((rg 546 (σ1 59 0) (σ1 32 0 3)) * (rg 546 (σ2 60 0) (σ2 32 0 3)))) ∧ (∀ σ3 : SS, σ3 = up σ2 32 0 5 ((σ2 32 0 5) - ((rg 546 (σ1 59 0) (σ1 32 0 3)) * (rg 546 (σ2 60 0) (σ2 32 0 3)))) → P vu σ3)))))))))) : G (d + 1) P 129 0 [vr 32 0, vu] [] σ := blk (S := S1) (c := cd_129) (bz := false) [] 600 (S1_ok (d + 0)) rfl rfl rfl h
-- RegionStack$Store.putBox at 0, 6 leaves
set_option maxRecDepth 100000 in
set_option maxHeartbeats 4000000 in
theorem b_130_0 {d : Nat} {P : AV → SS → Prop} {σ : SS} {l1 l2 : Int} (h : (∀ σ1 : SS, σ1 = us 300 σ 58 0 (σ 32 0 6) l2 → (ir ((σ1 32 0 6) + 1) ∧ (∀ σ2 : SS, σ2 = up σ1 32 0 6 ((σ1 32 0 6) + 1) → (((10 : Int) ≤ l2 → (ir ((σ2 32 0 12) + 2) ∧ (∀ σ3 : SS, σ3 = up σ2 32 0 12 ((σ2 32 0 12) + 2) → (((2 : Int) ≠ (2 : Int) → (ir ((rg 546 (σ3 59 0) l1) + 1) ∧ (∀ σ4 : SS, σ4 = us 546 σ3 59 0 l1 ((rg 546 (σ3 59 0) l1) + 1) → (ir ((σ4 32 0 4) + 1) ∧ (∀ σ5 : SS, σ5 = up σ4 32 0 4 ((σ4 32 0 4) + 1) → (ir ((σ5 32 0 5) + (rg 546 (σ5 60 0) l1)) ∧ (∀ σ6 : SS, σ6 = up σ5 32 0 5 ((σ5 32 0 5) + (rg 546 (σ5 60 0) l1)) → (∀ σ7 : SS, σ7 = up σ6 32 0 7 (max (σ6 32 0 7) (σ6 32 0 4)) → (∀ σ8 : SS, σ8 = up σ7 32 0 11 (max (σ7 32 0 11) (σ7 32 0 5)) → P (vi (σ 32 0 6)) σ8))))))))) ∧ ((2 : Int) = (2 : Int) → (((rg 546 (σ3 60 0) l1) ≠ (1 : Int) → (ir ((rg 546 (σ3 59 0) l1) + 1) ∧ (∀ σ9 : SS, σ9 = us 546 σ3 59 0 l1 ((rg 546 (σ3 59 0) l1) + 1) → (ir ((σ9 32 0 4) + 1) ∧ (∀ σ10 : SS, σ10 = up σ9 32 0 4 ((σ9 32 0 4) + 1) → (ir ((σ10 32 0 5) + (rg 546 (σ10 60 0) l1)) ∧ (∀ σ11 : SS, σ11 = up σ10 32 0 5 ((σ10 32 0 5) + (rg 546 (σ10 60 0) l1)) → (∀ σ12 : SS, σ12 = up σ11 32 0 7 (max (σ11 32 0 7) (σ11 32 0 4)) → (∀ σ13 : SS, σ13 = up σ12 32 0 11 (max (σ12 32 0 11) (σ12 32 0 5)) → P (vi (σ 32 0 6)) σ13))))))))) ∧ ((rg 546 (σ3 60 0) l1) = (1 : Int) → (∀ σ14 : SS, σ14 = us 546 σ3 60 0 l1 2 → (ir ((σ14 32 0 10) + 1) ∧ (∀ σ15 : SS, σ15 = up σ14 32 0 10 ((σ14 32 0 10) + 1) → (ir ((rg 546 (σ3 59 0) l1) * 1) ∧ (ir ((σ15 32 0 5) + ((rg 546 (σ3 59 0) l1) * 1)) ∧ (∀ σ16 : SS, σ16 = up σ15 32 0 5 ((σ15 32 0 5) + ((rg 546 (σ3 59 0) l1) * 1)) → (ir ((rg 546 (σ3 59 0) l1) + 1) ∧ (∀ σ17 : SS, σ17 = us 546 σ16 59 0 l1 ((rg 546 (σ3 59 0) l1) + 1) → (ir ((σ17 32 0 4) + 1) ∧ (∀ σ18 : SS, σ18 = up σ17 32 0 4 ((σ17 32 0 4) + 1) → (ir ((σ18 32 0 5) + (rg 546 (σ18 60 0) l1)) ∧ (∀ σ19 : SS, σ19 = up σ18 32 0 5 ((σ18 32 0 5) + (rg 546 (σ18 60 0) l1)) → (∀ σ20 : SS, σ20 = up σ19 32 0 7 (max (σ19 32 0 7) (σ19 32 0 4)) → (∀ σ21 : SS, σ21 = up σ20 32 0 11 (max (σ20 32 0 11) (σ20 32 0 5)) → P (vi (σ 32 0 6)) σ21))))))))))))))))))))) ∧ (l2 < (10 : Int) → (ir ((σ2 32 0 12) + 1) ∧ (∀ σ22 : SS, σ22 = up σ2 32 0 12 ((σ2 32 0 12) + 1) → (((1 : Int) ≠ (2 : Int) → (ir ((rg 546 (σ22 59 0) l1) + 1) ∧ (∀ σ23 : SS, σ23 = us 546 σ22 59 0 l1 ((rg 546 (σ22 59 0) l1) + 1) → (ir ((σ23 32 0 4) + 1) ∧ (∀ σ24 : SS, σ24 = up σ23 32 0 4 ((σ23 32 0 4) + 1) → (ir ((σ24 32 0 5) + (rg 546 (σ24 60 0) l1)) ∧ (∀ σ25 : SS, σ25 = up σ24 32 0 5 ((σ24 32 0 5) + (rg 546 (σ24 60 0) l1)) → (∀ σ26 : SS, σ26 = up σ25 32 0 7 (max (σ25 32 0 7) (σ25 32 0 4)) → (∀ σ27 : SS, σ27 = up σ26 32 0 11 (max (σ26 32 0 11) (σ26 32 0 5)) → P (vi (σ 32 0 6)) σ27))))))))) ∧ ((1 : Int) = (2 : Int) → (((rg 546 (σ22 60 0) l1) ≠ (1 : Int) → (ir ((rg 546 (σ22 59 0) l1) + 1) ∧ (∀ σ28 : SS, σ28 = us 546 σ22 59 0 l1 ((rg 546 (σ22 59 0) l1) + 1) → (ir ((σ28 32 0 4) + 1) ∧ (∀ σ29 : SS, σ29 = up σ28 32 0 4 ((σ28 32 0 4) + 1) → (ir ((σ29 32 0 5) + (rg 546 (σ29 60 0) l1)) ∧ (∀ σ30 : SS, σ30 = up σ29 32 0 5 ((σ29 32 0 5) + (rg 546 (σ29 60 0) l1)) → (∀ σ31 : SS, σ31 = up σ30 32 0 7 (max (σ30 32 0 7) (σ30 32 0 4)) → (∀ σ32 : SS, σ32 = up σ31 32 0 11 (max (σ31 32 0 11) (σ31 32 0 5)) → P (vi (σ 32 0 6)) σ32))))))))) ∧ ((rg 546 (σ22 60 0) l1) = (1 : Int) → (∀ σ33 : SS, σ33 = us 546 σ22 60 0 l1 2 → (ir ((σ33 32 0 10) + 1) ∧ (∀ σ34 : SS, σ34 = up σ33 32 0 10 ((σ33 32 0 10) + 1) → (ir ((rg 546 (σ22 59 0) l1) * 1) ∧ (ir ((σ34 32 0 5) + ((rg 546 (σ22 59 0) l1) * 1)) ∧ (∀ σ35 : SS, σ35 = up σ34 32 0 5 ((σ34 32 0 5) + ((rg 546 (σ22 59 0) l1) * 1)) → (ir ((rg 546 (σ22 59 0) l1) + 1) ∧ (∀ σ36 : SS, σ36 = us 546 σ35 59 0 l1 ((rg 546 (σ22 59 0) l1) + 1) → (ir ((σ36 32 0 4) + 1) ∧ (∀ σ37 : SS, σ37 = up σ36 32 0 4 ((σ36 32 0 4) + 1) → (ir ((σ37 32 0 5) + (rg 546 (σ37 60 0) l1)) ∧ (∀ σ38 : SS, σ38 = up σ37 32 0 5 ((σ37 32 0 5) + (rg 546 (σ37 60 0) l1)) → (∀ σ39 : SS, σ39 = up σ38 32 0 7 (max (σ38 32 0 7) (σ38 32 0 4)) → (∀ σ40 : SS, σ40 = up σ39 32 0 11 (max (σ39 32 0 11) (σ39 32 0 5)) → P (vi (σ 32 0 6)) σ40)))))))))))))))))))))))))) : G (d + 1) P 130 0 [vr 32 0, vi l1, vi l2, vu, vu, vu] [] σ := blk (S := S1) (c := cd_130) (bz := false) [] 600 (S1_ok (d + 0)) rfl rfl rfl h
-- RegionStack$Term.leastAround at 0, 1 leaves
set_option maxRecDepth 100000 in
set_option maxHeartbeats 4000000 in
theorem b_132_0 {d : Nat} {P : AV → SS → Prop} {σ : SS} {b l1 l2 : Int} (h : G (d + 1) P 132 4 [vr 5 b, vu, vi l2, vi l1, vi 0] [] σ) : G (d + 1) P 132 0 [vr 5 b, vi l1, vi l2, vu, vu] [] σ := blk (S := S1) (c := cd_132) (bz := false) [(4, [true, false, true, true, true])] 600 (S1_ok (d + 0)) rfl rfl rfl h
-- RegionStack$Term.leastAround at 4, 4 leaves
set_option maxRecDepth 100000 in
set_option maxHeartbeats 4000000 in
theorem b_132_4 {d : Nat} {P : AV → SS → Prop} {σ : SS} {b l2 l3 l4 : Int} (h : (((40 : Int) ≤ l4 → P (vi l3) σ) ∧ (l4 < (40 : Int) → ((l3 ≤ 0 → P (vi l3) σ) ∧ (0 < l3 → ((l2 < (rg 40 (σ 43 b) l3) → P (vi l3) σ) ∧ ((rg 40 (σ 43 b) l3) ≤ l2 → (ir (l4 + 1) ∧ G (d + 1) P 132 4 [vr 5 b, vu, vi l2, vi (rg 40 (σ 42 b) l3), vi (l4 + 1)] [] σ)))))))) : G (d + 1) P 132 4 [vr 5 b, vu, vi l2, vi l3, vi l4] [] σ := blk (S := S1) (c := cd_132) (bz := false) [(4, [true, false, true, true, true])] 600 (S1_ok (d + 0)) rfl rfl rfl h
-- RegionStack$Term.read at 0, 2 leaves
set_option maxRecDepth 100000 in
set_option maxHeartbeats 4000000 in
theorem b_133_0 {d : Nat} {P : AV → SS → Prop} {σ : SS} {b : Int} (h : (∀ σ1 : SS, σ1 = up σ 5 b 10 (0 : Int) → (∃ (x3 : Int) (σ2 : SS), Rn (d + 4) 134 [vr 5 b] σ1 (vi x3) σ2 ∧ (∀ σ4 : SS, σ4 = up σ2 5 b 9 x3 → (((σ4 5 b 9) ≠ ((-6) : Int) → P vu σ4) ∧ ((σ4 5 b 9) = ((-6) : Int) → (∃ σ5 : SS, Rn (d + 4) 135 [vr 5 b] σ4 vu σ5 ∧ (∃ σ6 : SS, Rn (d + 4) 136 [vr 5 b] σ5 vu σ6 ∧ P vu σ6)))))))) : G (d + 4) P 133 0 [vr 5 b] [] σ := blk (S := noS) (c := cd_133) (bz := false) [] 600 (SV_no _) rfl rfl rfl h
-- RegionStack$Term.findFault at 0, 1 leaves
set_option maxRecDepth 100000 in
set_option maxHeartbeats 4000000 in
theorem b_134_0 {d : Nat} {P : AV → SS → Prop} {σ : SS} {b : Int} (h : (∃ σ1 : SS, Rn (d + 3) 2 [vr 9 b, vi 0] σ vu σ1 ∧ G (d + 3) P 134 8 [vr 5 b, vi 1, vi 0, vu, vu] [] σ1)) : G (d + 3) P 134 0 [vr 5 b, vu, vu, vu, vu] [] σ := blk (S := S3) (c := cd_134) (bz := false) [(8, [true, true, true, false, false])] 600 (S3_ok (d + 0)) rfl rfl rfl h
-- RegionStack$Term.findFault at 8, 11 leaves
set_option maxRecDepth 100000 in
set_option maxHeartbeats 4000000 in
theorem b_134_8 {d : Nat} {P : AV → SS → Prop} {σ : SS} {b l1 l2 : Int} (h : (((σ 6 b 1) ≤ l2 → ((l1 ≤ 0 → (((σ 6 b 1) ≤ l2 → P (vi ((-6) : Int)) σ) ∧ (l2 < (σ 6 b 1) → P (vi l2) σ))) ∧ (0 < l1 → P (vi (σ 6 b 1)) σ))) ∧ (l2 < (σ 6 b 1) → ((l1 ≤ 0 → ((l1 ≤ 0 → (((σ 6 b 1) ≤ l2 → P (vi ((-6) : Int)) σ) ∧ (l2 < (σ 6 b 1) → P (vi l2) σ))) ∧ (0 < l1 → P (vi (σ 6 b 1)) σ))) ∧ (0 < l1 → ((0 ≤ (tin (rg 40 (σ 37 b) l2)) → (∀ σ1 : SS, σ1 = us 40 σ 39 b l2 (rg 40 (σ 37 b) l2) → (ir (l2 + 1) ∧ (((if (rg 40 (σ 37 b) l2) = 108 ∨ (rg 40 (σ 37 b) l2) = 64 then (1 : Int) else 0) = 0 → (ir ((tin (rg 40 (σ 37 b) l2)) - 1) ∧ (ir (l1 + ((tin (rg 40 (σ 37 b) l2)) - 1)) ∧ G (d + 3) P 134 8 [vr 5 b, vi (l1 + ((tin (rg 40 (σ 37 b) l2)) - 1)), vi (l2 + 1), vu, vu] [] σ1))) ∧ ((if (rg 40 (σ 37 b) l2) = 108 ∨ (rg 40 (σ 37 b) l2) = 64 then (1 : Int) else 0) ≠ 0 → (((σ1 6 b 1) ≤ (l2 + 1) → (ir ((l2 + 1) + 1) ∧ (ir ((tin (rg 40 (σ 37 b) l2)) - 1) ∧ (ir (l1 + ((tin (rg 40 (σ 37 b) l2)) - 1)) ∧ G (d + 3) P 134 8 [vr 5 b, vi (l1 + ((tin (rg 40 (σ 37 b) l2)) - 1)), vi ((l2 + 1) + 1), vu, vu] [] σ1)))) ∧ ((l2 + 1) < (σ1 6 b 1) → (((nmf (rg 40 (σ 37 b) l2) (rg 40 (σ1 37 b) (l2 + 1))) ≠ 0 → (ir ((l2 + 1) + 1) ∧ (ir ((tin (rg 40 (σ 37 b) l2)) - 1) ∧ (ir (l1 + ((tin (rg 40 (σ 37 b) l2)) - 1)) ∧ G (d + 3) P 134 8 [vr 5 b, vi (l1 + ((tin (rg 40 (σ 37 b) l2)) - 1)), vi ((l2 + 1) + 1), vu, vu] [] σ1)))) ∧ ((nmf (rg 40 (σ 37 b) l2) (rg 40 (σ1 37 b) (l2 + 1))) = 0 → P (vi (l2 + 1)) σ1))))))))) ∧ ((tin (rg 40 (σ 37 b) l2)) < 0 → P (vi l2) σ))))))) : G (d + 3) P 134 8 [vr 5 b, vi l1, vi l2, vu, vu] [] σ := blk (S := S3) (c := cd_134) (bz := false) [(8, [true, true, true, false, false])] 600 (S3_ok (d + 0)) rfl rfl rfl h
-- RegionStack$Term.linkParts at 0, 1 leaves
set_option maxRecDepth 100000 in
set_option maxHeartbeats 4000000 in
theorem b_135_0 {d : Nat} {P : AV → SS → Prop} {σ : SS} {b : Int} (h : (ir ((σ 6 b 1) - 1) ∧ G (d + 3) P 135 8 [vr 5 b, vi 0, vi ((σ 6 b 1) - 1), vu, vu, vu, vu, vu] [] σ)) : G (d + 3) P 135 0 [vr 5 b, vu, vu, vu, vu, vu, vu, vu] [] σ := blk (S := S3) (c := cd_135) (bz := false) [(8, [true, true, true, false, false, false, false, false]), (32, [true, true, true, false, true, true, true, false])] 600 (S3_ok (d + 0)) rfl rfl rfl h
-- RegionStack$Term.linkParts at 8, 4 leaves
set_option maxRecDepth 100000 in
set_option maxHeartbeats 4000000 in
theorem b_135_8 {d : Nat} {P : AV → SS → Prop} {σ : SS} {b l1 l2 : Int} (h : ((l2 < 0 → (∀ σ1 : SS, σ1 = us 40 σ 42 b 0 (-6) → P vu σ1)) ∧ (0 ≤ l2 → (((rg 40 (σ 39 b) l2) ≠ 0 → (((if (rg 40 (σ 39 b) l2) = 108 ∨ (rg 40 (σ 39 b) l2) = 64 then (1 : Int) else 0) = 0 → (ir (l2 + 1) ∧ G (d + 3) P 135 32 [vr 5 b, vi l1, vi l2, vu, vi (l2 + 1), vi (tin (rg 40 (σ 39 b) l2)), vi 0, vu] [] σ)) ∧ ((if (rg 40 (σ 39 b) l2) = 108 ∨ (rg 40 (σ 39 b) l2) = 64 then (1 : Int) else 0) ≠ 0 → (ir (l2 + 2) ∧ G (d + 3) P 135 32 [vr 5 b, vi l1, vi l2, vu, vi (l2 + 2), vi (tin (rg 40 (σ 39 b) l2)), vi 0, vu] [] σ)))) ∧ ((rg 40 (σ 39 b) l2) = 0 → (ir (l2 + (-1)) ∧ G (d + 3) P 135 8 [vr 5 b, vi l1, vi (l2 + (-1)), vu, vu, vu, vu, vu] [] σ)))))) : G (d + 3) P 135 8 [vr 5 b, vi l1, vi l2, vu, vu, vu, vu, vu] [] σ := blk (S := S3) (c := cd_135) (bz := false) [(8, [true, true, true, false, false, false, false, false]), (32, [true, true, true, false, true, true, true, false])] 600 (S3_ok (d + 0)) rfl rfl rfl h
-- RegionStack$Term.linkParts at 32, 2 leaves
set_option maxRecDepth 100000 in
set_option maxHeartbeats 4000000 in
theorem b_135_32 {d : Nat} {P : AV → SS → Prop} {σ : SS} {b l1 l2 l4 l5 l6 : Int} (h : ((l5 ≤ l6 → (∀ σ1 : SS, σ1 = us 40 σ 43 b l2 l4 → (∀ σ2 : SS, σ2 = us 40 σ1 45 b l1 l2 → (ir (l1 + 1) ∧ (ir ((σ2 5 b 10) + 1) ∧ (∀ σ3 : SS, σ3 = up σ2 5 b 10 ((σ2 5 b 10) + 1) → (ir (l2 + (-1)) ∧ G (d + 3) P 135 8 [vr 5 b, vi (l1 + 1), vi (l2 + (-1)), vu, vu, vu, vu, vu] [] σ3))))))) ∧ (l6 < l5 → (ir (l1 + (-1)) ∧ (ir ((3 : Int) * l2) ∧ (ir (((3 : Int) * l2) + l6) ∧ (∀ σ4 : SS, σ4 = us 120 σ 41 b (((3 : Int) * l2) + l6) (rg 40 (σ 45 b) (l1 + (-1))) → (∀ σ5 : SS, σ5 = us 40 σ4 42 b (rg 40 (σ 45 b) (l1 + (-1))) l2 → (ir (l6 + 1) ∧ G (d + 3) P 135 32 [vr 5 b, vi (l1 + (-1)), vi l2, vu, vi (rg 40 (σ5 43 b) (rg 40 (σ 45 b) (l1 + (-1)))), vi l5, vi (l6 + 1), vu] [] σ5))))))))) : G (d + 3) P 135 32 [vr 5 b, vi l1, vi l2, vu, vi l4, vi l5, vi l6, vu] [] σ := blk (S := S3) (c := cd_135) (bz := false) [(8, [true, true, true, false, false, false, false, false]), (32, [true, true, true, false, true, true, true, false])] 600 (S3_ok (d + 0)) rfl rfl rfl h
-- RegionStack$Term.findNames at 0, 1 leaves
set_option maxRecDepth 100000 in
set_option maxHeartbeats 4000000 in
theorem b_136_0 {d : Nat} {P : AV → SS → Prop} {σ : SS} {b : Int} (h : G (d + 3) P 136 2 [vr 5 b, vi 0, vu] [] σ) : G (d + 3) P 136 0 [vr 5 b, vu, vu] [] σ := blk (S := S2) (c := cd_136) (bz := false) [(2, [true, true, false])] 600 (S2_ok (d + 1)) rfl rfl rfl h
-- RegionStack$Term.findNames at 2, 5 leaves
set_option maxRecDepth 100000 in
set_option maxHeartbeats 4000000 in
theorem b_136_2 {d : Nat} {P : AV → SS → Prop} {σ : SS} {b l1 : Int} (h : (((σ 6 b 1) ≤ l1 → P vu σ) ∧ (l1 < (σ 6 b 1) → (((if 97 ≤ (rg 40 (σ 39 b) l1) ∧ (rg 40 (σ 39 b) l1) ≤ 100 then (1 : Int) else 0) = 0 → (∀ σ1 : SS, σ1 = us 40 σ 44 b l1 (-6) → (((rg 40 (σ 39 b) l1) ≠ (64 : Int) → (∀ σ2 : SS, σ2 = us 40 σ1 40 b l1 (-6) → (ir (l1 + 1) ∧ G (d + 3) P 136 2 [vr 5 b, vi (l1 + 1), vu] [] σ2))) ∧ ((rg 40 (σ 39 b) l1) = (64 : Int) → (ir (l1 + 1) ∧ (ir ((rg 40 (σ1 37 b) (l1 + 1)) - 48) ∧ (∀ σ3 : SS, σ3 = us 40 σ1 40 b l1 ((rg 40 (σ1 37 b) (l1 + 1)) - 48) → (ir (l1 + 1) ∧ G (d + 3) P 136 2 [vr 5 b, vi (l1 + 1), vu] [] σ3)))))))) ∧ ((if 97 ≤ (rg 40 (σ 39 b) l1) ∧ (rg 40 (σ 39 b) l1) ≤ 100 then (1 : Int) else 0) ≠ 0 → (∃ (x5 : Int) (σ4 : SS), Rn (d + 3) 137 [vr 5 b, vi l1] σ (vi x5) σ4 ∧ (∀ σ6 : SS, σ6 = us 40 σ4 44 b l1 x5 → (((rg 40 (σ 39 b) l1) ≠ (64 : Int) → (∀ σ7 : SS, σ7 = us 40 σ6 40 b l1 (-6) → (ir (l1 + 1) ∧ G (d + 3) P 136 2 [vr 5 b, vi (l1 + 1), vu] [] σ7))) ∧ ((rg 40 (σ 39 b) l1) = (64 : Int) → (ir (l1 + 1) ∧ (ir ((rg 40 (σ6 37 b) (l1 + 1)) - 48) ∧ (∀ σ8 : SS, σ8 = us 40 σ6 40 b l1 ((rg 40 (σ6 37 b) (l1 + 1)) - 48) → (ir (l1 + 1) ∧ G (d + 3) P 136 2 [vr 5 b, vi (l1 + 1), vu] [] σ8))))))))))))) : G (d + 3) P 136 2 [vr 5 b, vi l1, vu] [] σ := blk (S := S2) (c := cd_136) (bz := false) [(2, [true, true, false])] 600 (S2_ok (d + 1)) rfl rfl rfl h
-- RegionStack$Term.findBinder at 0, 1 leaves
set_option maxRecDepth 100000 in
set_option maxHeartbeats 4000000 in
theorem b_137_0 {d : Nat} {P : AV → SS → Prop} {σ : SS} {b l1 : Int} (h : G (d + 2) P 137 15 [vr 5 b, vu, vi (rg 40 (σ 37 b) l1), vi l1, vi (rg 40 (σ 42 b) l1), vi 0, vu] [] σ) : G (d + 2) P 137 0 [vr 5 b, vi l1, vu, vu, vu, vu, vu] [] σ := blk (S := S2) (c := cd_137) (bz := false) [(15, [true, false, true, true, true, true, false])] 600 (S2_ok (d + 0)) rfl rfl rfl h
-- RegionStack$Term.findBinder at 15, 11 leaves
set_option maxRecDepth 100000 in
set_option maxHeartbeats 4000000 in
theorem b_137_15 {d : Nat} {P : AV → SS → Prop} {σ : SS} {b l2 l3 l4 l5 : Int} (h : (((40 : Int) ≤ l5 → P (vi ((-6) : Int)) σ) ∧ (l5 < (40 : Int) → ((l4 < 0 → P (vi ((-6) : Int)) σ) ∧ (0 ≤ l4 → (((rg 40 (σ 37 b) l4) ≠ (108 : Int) → (((0 : Int) = 0 → (ir (l5 + 1) ∧ G (d + 2) P 137 15 [vr 5 b, vu, vi l2, vi l4, vi (rg 40 (σ 42 b) l4), vi (l5 + 1), vu] [] σ)) ∧ ((0 : Int) ≠ 0 → ((ir (3 * l4) ∧ ir (3 * l4 + 1)) ∧ (((rg 120 (σ 41 b) (3 * l4 + 1)) ≠ l3 → (ir (l5 + 1) ∧ G (d + 2) P 137 15 [vr 5 b, vu, vi l2, vi l4, vi (rg 40 (σ 42 b) l4), vi (l5 + 1), vu] [] σ)) ∧ ((rg 120 (σ 41 b) (3 * l4 + 1)) = l3 → P (vi l4) σ)))))) ∧ ((rg 40 (σ 37 b) l4) = (108 : Int) → (ir (l4 + 1) ∧ (((rg 40 (σ 37 b) (l4 + 1)) ≠ l2 → (((0 : Int) = 0 → (ir (l5 + 1) ∧ G (d + 2) P 137 15 [vr 5 b, vu, vi l2, vi l4, vi (rg 40 (σ 42 b) l4), vi (l5 + 1), vu] [] σ)) ∧ ((0 : Int) ≠ 0 → ((ir (3 * l4) ∧ ir (3 * l4 + 1)) ∧ (((rg 120 (σ 41 b) (3 * l4 + 1)) ≠ l3 → (ir (l5 + 1) ∧ G (d + 2) P 137 15 [vr 5 b, vu, vi l2, vi l4, vi (rg 40 (σ 42 b) l4), vi (l5 + 1), vu] [] σ)) ∧ ((rg 120 (σ 41 b) (3 * l4 + 1)) = l3 → P (vi l4) σ)))))) ∧ ((rg 40 (σ 37 b) (l4 + 1)) = l2 → (((1 : Int) = 0 → (ir (l5 + 1) ∧ G (d + 2) P 137 15 [vr 5 b, vu, vi l2, vi l4, vi (rg 40 (σ 42 b) l4), vi (l5 + 1), vu] [] σ)) ∧ ((1 : Int) ≠ 0 → ((ir (3 * l4) ∧ ir (3 * l4 + 1)) ∧ (((rg 120 (σ 41 b) (3 * l4 + 1)) ≠ l3 → (ir (l5 + 1) ∧ G (d + 2) P 137 15 [vr 5 b, vu, vi l2, vi l4, vi (rg 40 (σ 42 b) l4), vi (l5 + 1), vu] [] σ)) ∧ ((rg 120 (σ 41 b) (3 * l4 + 1)) = l3 → P (vi l4) σ))))))))))))))) : G (d + 2) P 137 15 [vr 5 b, vu, vi l2, vi l3, vi l4, vi l5, vu] [] σ := blk (S := S2) (c := cd_137) (bz := false) [(15, [true, false, true, true, true, true, false])] 600 (S2_ok (d + 0)) rfl rfl rfl h
-- RegionStack$Text.takeFrom at 0, 1 leaves
set_option maxRecDepth 100000 in
set_option maxHeartbeats 4000000 in
theorem b_139a_0 {d : Nat} {P : AV → SS → Prop} {σ : SS} {b c : Int} (h : G (d + 1) P 139 2 [vr 6 b, vr 33 c, vi 0] [] σ) : G (d + 1) P 139 0 [vr 6 b, vr 33 c, vu] [] σ := blk (S := S1) (c := cd_139) (bz := false) [(2, [true, true, true])] 600 (S1_ok (d + 0)) rfl rfl rfl h
-- RegionStack$Text.takeFrom at 2, 2 leaves
set_option maxRecDepth 100000 in
set_option maxHeartbeats 4000000 in
theorem b_139a_2 {d : Nat} {P : AV → SS → Prop} {σ : SS} {b c l2 : Int} (h : (((40 : Int) ≤ l2 → (∀ σ1 : SS, σ1 = up σ 6 b 1 (σ 33 c 1) → (∀ σ2 : SS, σ2 = up σ1 6 b 2 (σ1 33 c 2) → (∀ σ3 : SS, σ3 = up σ2 6 b 3 (σ2 33 c 3) → P vu σ3)))) ∧ (l2 < (40 : Int) → (∀ σ4 : SS, σ4 = us 40 σ 37 b l2 (rg 40 (σ 61 c) l2) → (ir (l2 + 1) ∧ G (d + 1) P 139 2 [vr 6 b, vr 33 c, vi (l2 + 1)] [] σ4))))) : G (d + 1) P 139 2 [vr 6 b, vr 33 c, vi l2] [] σ := blk (S := S1) (c := cd_139) (bz := false) [(2, [true, true, true])] 600 (S1_ok (d + 0)) rfl rfl rfl h
-- RegionStack$Text.takeFrom at 0, 1 leaves
set_option maxRecDepth 100000 in
set_option maxHeartbeats 4000000 in
theorem b_139k_0 {d : Nat} {P : AV → SS → Prop} {σ : SS} {b c : Int} (h : G (d + 1) P 139 2 [vr 33 b, vr 6 c, vi 0] [] σ) : G (d + 1) P 139 0 [vr 33 b, vr 6 c, vu] [] σ := blk (S := S1) (c := cd_139) (bz := false) [(2, [true, true, true])] 600 (S1_ok (d + 0)) rfl rfl rfl h
-- RegionStack$Text.takeFrom at 2, 2 leaves
set_option maxRecDepth 100000 in
set_option maxHeartbeats 4000000 in
theorem b_139k_2 {d : Nat} {P : AV → SS → Prop} {σ : SS} {b c l2 : Int} (h : (((40 : Int) ≤ l2 → (∀ σ1 : SS, σ1 = up σ 33 b 1 (σ 6 c 1) → (∀ σ2 : SS, σ2 = up σ1 33 b 2 (σ1 6 c 2) → (∀ σ3 : SS, σ3 = up σ2 33 b 3 (σ2 6 c 3) → P vu σ3)))) ∧ (l2 < (40 : Int) → (∀ σ4 : SS, σ4 = us 40 σ 61 b l2 (rg 40 (σ 37 c) l2) → (ir (l2 + 1) ∧ G (d + 1) P 139 2 [vr 33 b, vr 6 c, vi (l2 + 1)] [] σ4))))) : G (d + 1) P 139 2 [vr 33 b, vr 6 c, vi l2] [] σ := blk (S := S1) (c := cd_139) (bz := false) [(2, [true, true, true])] 600 (S1_ok (d + 0)) rfl rfl rfl h
end
section
-- RegionStackModel.rootOf at 0, 1 leaves
set_option maxRecDepth 100000 in
set_option maxHeartbeats 4000000 in
theorem b_23_0 {d : Nat} {P : AV → SS → Prop} {σ : SS} {l1 : Int} (h : G (d + 0) P 23 2 [vr 62 0, vu, vi l1] [] σ) : G (d + 0) P 23 0 [vr 62 0, vi l1, vu] [] σ := blk (S := noS) (c := cd_23) (bz := false) [(2, [true, false, true])] 600 (SV_no _) rfl rfl rfl h
-- RegionStackModel.rootOf at 2, 2 leaves
set_option maxRecDepth 100000 in
set_option maxHeartbeats 4000000 in
theorem b_23_2 {d : Nat} {P : AV → SS → Prop} {σ : SS} {l2 : Int} (h : ((0 ≤ l2 ∧ l2 < 126) ∧ (((σ 72 0 l2) = l2 → P (vi l2) σ) ∧ ((σ 72 0 l2) ≠ l2 → ((0 ≤ l2 ∧ l2 < 126) ∧ G (d + 0) P 23 2 [vr 62 0, vu, vi (σ 72 0 l2)] [] σ))))) : G (d + 0) P 23 2 [vr 62 0, vu, vi l2] [] σ := blk (S := noS) (c := cd_23) (bz := false) [(2, [true, false, true])] 600 (SV_no _) rfl rfl rfl h
-- RegionStackModel.unite at 0, 1 leaves
set_option maxRecDepth 100000 in
set_option maxHeartbeats 4000000 in
theorem b_24_0 {d : Nat} {P : AV → SS → Prop} {σ : SS} {l1 l2 : Int} (h : (∃ (x2 : Int) (σ1 : SS), Rn (d + 1) 23 [vr 62 0, vi l1] σ (vi x2) σ1 ∧ (∃ (x4 : Int) (σ3 : SS), Rn (d + 1) 23 [vr 62 0, vi l2] σ1 (vi x4) σ3 ∧ ((0 ≤ x2 ∧ x2 < 126) ∧ (∀ σ5 : SS, σ5 = up σ3 72 0 x2 x4 → P vu σ5))))) : G (d + 1) P 24 0 [vr 62 0, vi l1, vi l2] [] σ := blk (S := noS) (c := cd_24) (bz := false) [] 600 (SV_no _) rfl rfl rfl h
-- RegionStackModel.body at 0, 4 leaves
set_option maxRecDepth 100000 in
set_option maxHeartbeats 4000000 in
theorem b_48_0 {d : Nat} {P : AV → SS → Prop} {σ : SS} {l1 l2 l3 : Int} (h : (((if 0 ≤ l1 ∧ l1 ≤ 2 then (1 : Int) else 0) ≠ 0 → (((if (0 : Int) ≤ l2 ∧ l2 ≤ 1 then (1 : Int) else 0) = 0 → P (vi ((-2) : Int)) σ) ∧ ((if (0 : Int) ≤ l2 ∧ l2 ≤ 1 then (1 : Int) else 0) ≠ 0 → (((if (0 : Int) ≤ l3 ∧ l3 ≤ 1 then (1 : Int) else 0) ≠ 0 → ((0 ≤ l1 ∧ l1 < 3) ∧ (ir ((10 : Int) * (σ 63 0 l1)) ∧ ((0 ≤ l1 ∧ l1 < 3) ∧ (ir (((10 : Int) * (σ 63 0 l1)) + (σ 64 0 l1)) ∧ ((0 ≤ l1 ∧ l1 < 3) ∧ (∀ σ1 : SS, σ1 = up σ 63 0 l1 l2 → ((0 ≤ l1 ∧ l1 < 3) ∧ (∀ σ2 : SS, σ2 = up σ1 64 0 l1 l3 → P (vi (((10 : Int) * (σ 63 0 l1)) + (σ 64 0 l1))) σ2))))))))) ∧ ((if (0 : Int) ≤ l3 ∧ l3 ≤ 1 then (1 : Int) else 0) = 0 → P (vi ((-2) : Int)) σ))))) ∧ ((if 0 ≤ l1 ∧ l1 ≤ 2 then (1 : Int) else 0) = 0 → P (vi ((-1) : Int)) σ))) : G (d + 2) P 48 0 [vr 62 0, vi l1, vi l2, vi l3, vu] [] σ := blk (S := S2) (c := cd_48) (bz := false) [] 600 (S2_ok (d + 0)) rfl rfl rfl h
-- RegionStackModel.say at 0, 4 leaves
set_option maxRecDepth 100000 in
set_option maxHeartbeats 4000000 in
theorem b_49_0 {d : Nat} {P : AV → SS → Prop} {σ : SS} {l1 l2 : Int} (h : (((if 0 ≤ l1 ∧ l1 ≤ 2 then (1 : Int) else 0) ≠ 0 → (((if (33 : Int) ≤ l2 ∧ l2 ≤ 126 then (1 : Int) else 0) ≠ 0 → ((0 ≤ l1 ∧ l1 < 3) ∧ (((σ 65 0 l1) ≠ (40 : Int) → (ir ((40 : Int) * l1) ∧ ((0 ≤ l1 ∧ l1 < 3) ∧ (ir (((40 : Int) * l1) + (σ 65 0 l1)) ∧ ((0 ≤ (((40 : Int) * l1) + (σ 65 0 l1)) ∧ (((40 : Int) * l1) + (σ 65 0 l1)) < 120) ∧ (∀ σ1 : SS, σ1 = up σ 66 0 (((40 : Int) * l1) + (σ 65 0 l1)) l2 → ((0 ≤ l1 ∧ l1 < 3) ∧ (ir ((σ1 65 0 l1) + 1) ∧ ((0 ≤ l1 ∧ l1 < 3) ∧ (∀ σ2 : SS, σ2 = up σ1 65 0 l1 ((σ1 65 0 l1) + 1) → ((0 ≤ l1 ∧ l1 < 3) ∧ P (vi (σ2 65 0 l1)) σ2))))))))))) ∧ ((σ 65 0 l1) = (40 : Int) → P (vi ((-4) : Int)) σ)))) ∧ ((if (33 : Int) ≤ l2 ∧ l2 ≤ 126 then (1 : Int) else 0) = 0 → P (vi ((-2) : Int)) σ))) ∧ ((if 0 ≤ l1 ∧ l1 ≤ 2 then (1 : Int) else 0) = 0 → P (vi ((-1) : Int)) σ))) : G (d + 2) P 49 0 [vr 62 0, vi l1, vi l2] [] σ := blk (S := S2) (c := cd_49) (bz := false) [] 600 (S2_ok (d + 0)) rfl rfl rfl h
-- RegionStackModel.wipe at 0, 2 leaves
set_option maxRecDepth 100000 in
set_option maxHeartbeats 4000000 in
theorem b_50_0 {d : Nat} {P : AV → SS → Prop} {σ : SS} {l1 : Int} (h : (((if 0 ≤ l1 ∧ l1 ≤ 2 then (1 : Int) else 0) ≠ 0 → ((0 ≤ l1 ∧ l1 < 3) ∧ ((0 ≤ l1 ∧ l1 < 3) ∧ (∀ σ1 : SS, σ1 = up σ 65 0 l1 (0 : Int) → P (vi (σ 65 0 l1)) σ1)))) ∧ ((if 0 ≤ l1 ∧ l1 ≤ 2 then (1 : Int) else 0) = 0 → P (vi ((-1) : Int)) σ))) : G (d + 2) P 50 0 [vr 62 0, vi l1, vu] [] σ := blk (S := S2) (c := cd_50) (bz := false) [] 600 (S2_ok (d + 0)) rfl rfl rfl h
-- RegionStackModel.read at 0, 1 leaves
set_option maxRecDepth 100000 in
set_option maxHeartbeats 4000000 in
theorem b_51_0 {d : Nat} {P : AV → SS → Prop} {σ : SS} {l1 : Int} (h : G (d + 2) P 51 6 [vr 62 0, vi l1, vi 1, vi 0, vi 0, vu, vu, vu, vu] [] σ) : G (d + 2) P 51 0 [vr 62 0, vi l1, vu, vu, vu, vu, vu, vu, vu] [] σ := blk (S := S2) (c := cd_51) (bz := false) [(6, [true, true, true, true, true, false, false, false, false]), (103, [true, true, false, false, true, false, false, false, false]), (135, [true, true, false, false, true, true, false, true, true]), (149, [true, true, false, false, true, true, false, true, true]), (164, [true, true, false, false, true, true, false, true, true]), (182, [true, true, false, false, true, false, false, false, false])] 600 (S2_ok (d + 0)) rfl rfl rfl h
-- RegionStackModel.read at 6, 12 leaves
set_option maxRecDepth 100000 in
set_option maxHeartbeats 4000000 in
theorem b_51_6 {d : Nat} {P : AV → SS → Prop} {σ : SS} {l1 l2 l3 l4 : Int} (h : ((0 ≤ l1 ∧ l1 < 3) ∧ (((σ 65 0 l1) ≤ l4 → ((0 < l2 → ((0 ≤ l1 ∧ l1 < 3) ∧ P (vi (σ 65 0 l1)) σ)) ∧ (l2 ≤ 0 → ((l3 ≤ 0 → ((0 ≤ l1 ∧ l1 < 3) ∧ (ir ((σ 65 0 l1) - 1) ∧ G (d + 2) P 51 103 [vr 62 0, vi l1, vu, vu, vi ((σ 65 0 l1) - 1), vu, vu, vu, vu] [] σ))) ∧ (0 < l3 → ((0 ≤ l1 ∧ l1 < 3) ∧ P (vi (σ 65 0 l1)) σ)))))) ∧ (l4 < (σ 65 0 l1) → (ir ((40 : Int) * l1) ∧ (ir (((40 : Int) * l1) + l4) ∧ ((0 ≤ (((40 : Int) * l1) + l4) ∧ (((40 : Int) * l1) + l4) < 120) ∧ ((0 ≤ (((40 : Int) * l1) + l4) ∧ (((40 : Int) * l1) + l4) < 120) ∧ (∀ σ1 : SS, σ1 = up σ 67 0 (((40 : Int) * l1) + l4) ((-6) : Int) → ((l2 ≠ 0 → ((l3 ≤ 0 → ((0 ≤ (kos (σ 66 0 (((40 : Int) * l1) + l4))) → ((0 ≤ (((40 : Int) * l1) + l4) ∧ (((40 : Int) * l1) + l4) < 120) ∧ (∀ σ2 : SS, σ2 = up σ1 67 0 (((40 : Int) * l1) + l4) (kos (σ 66 0 (((40 : Int) * l1) + l4))) → (((kos (σ 66 0 (((40 : Int) * l1) + l4))) ≠ (8 : Int) → (((kos (σ 66 0 (((40 : Int) * l1) + l4))) ≠ (9 : Int) → (ir ((inn (kos (σ 66 0 (((40 : Int) * l1) + l4)))) - 1) ∧ (ir (l2 + ((inn (kos (σ 66 0 (((40 : Int) * l1) + l4)))) - 1)) ∧ (ir (l4 + 1) ∧ G (d + 2) P 51 6 [vr 62 0, vi l1, vi (l2 + ((inn (kos (σ 66 0 (((40 : Int) * l1) + l4)))) - 1)), vi 0, vi (l4 + 1), vu, vu, vu, vu] [] σ2)))) ∧ ((kos (σ 66 0 (((40 : Int) * l1) + l4))) = (9 : Int) → (ir ((inn (kos (σ 66 0 (((40 : Int) * l1) + l4)))) - 1) ∧ (ir (l2 + ((inn (kos (σ 66 0 (((40 : Int) * l1) + l4)))) - 1)) ∧ (ir (l4 + 1) ∧ G (d + 2) P 51 6 [vr 62 0, vi l1, vi (l2 + ((inn (kos (σ 66 0 (((40 : Int) * l1) + l4)))) - 1)), vi 2, vi (l4 + 1), vu, vu, vu, vu] [] σ2)))))) ∧ ((kos (σ 66 0 (((40 : Int) * l1) + l4))) = (8 : Int) → (ir ((inn (kos (σ 66 0 (((40 : Int) * l1) + l4)))) - 1) ∧ (ir (l2 + ((inn (kos (σ 66 0 (((40 : Int) * l1) + l4)))) - 1)) ∧ (ir (l4 + 1) ∧ G (d + 2) P 51 6 [vr 62 0, vi l1, vi (l2 + ((inn (kos (σ 66 0 (((40 : Int) * l1) + l4)))) - 1)), vi 1, vi (l4 + 1), vu, vu, vu, vu] [] σ2)))))))) ∧ ((kos (σ 66 0 (((40 : Int) * l1) + l4))) < 0 → P (vi l4) σ1))) ∧ (0 < l3 → ((l3 ≠ (1 : Int) → (((if (48 : Int) ≤ (σ 66 0 (((40 : Int) * l1) + l4)) ∧ (σ 66 0 (((40 : Int) * l1) + l4)) ≤ 50 then (1 : Int) else 0) ≠ 0 → (ir (l4 + 1) ∧ G (d + 2) P 51 6 [vr 62 0, vi l1, vi l2, vi 0, vi (l4 + 1), vu, vu, vu, vu] [] σ1)) ∧ ((if (48 : Int) ≤ (σ 66 0 (((40 : Int) * l1) + l4)) ∧ (σ 66 0 (((40 : Int) * l1) + l4)) ≤ 50 then (1 : Int) else 0) = 0 → P (vi l4) σ1))) ∧ (l3 = (1 : Int) → (((if (97 : Int) ≤ (σ 66 0 (((40 : Int) * l1) + l4)) ∧ (σ 66 0 (((40 : Int) * l1) + l4)) ≤ 100 then (1 : Int) else 0) ≠ 0 → (ir (l4 + 1) ∧ G (d + 2) P 51 6 [vr 62 0, vi l1, vi l2, vi 0, vi (l4 + 1), vu, vu, vu, vu] [] σ1)) ∧ ((if (97 : Int) ≤ (σ 66 0 (((40 : Int) * l1) + l4)) ∧ (σ 66 0 (((40 : Int) * l1) + l4)) ≤ 100 then (1 : Int) else 0) = 0 → P (vi l4) σ1))))))) ∧ (l2 = 0 → P (vi l4) σ1))))))))))) : G (d + 2) P 51 6 [vr 62 0, vi l1, vi l2, vi l3, vi l4, vu, vu, vu, vu] [] σ := blk (S := S2) (c := cd_51) (bz := false) [(6, [true, true, true, true, true, false, false, false, false]), (103, [true, true, false, false, true, false, false, false, false]), (135, [true, true, false, false, true, true, false, true, true]), (149, [true, true, false, false, true, true, false, true, true]), (164, [true, true, false, false, true, true, false, true, true]), (182, [true, true, false, false, true, false, false, false, false])] 600 (S2_ok (d + 0)) rfl rfl rfl h
-- RegionStackModel.read at 103, 5 leaves
set_option maxRecDepth 100000 in
set_option maxHeartbeats 4000000 in
theorem b_51_103 {d : Nat} {P : AV → SS → Prop} {σ : SS} {l1 l4 : Int} (h : ((l4 < 0 → P (vi ((-6) : Int)) σ) ∧ (0 ≤ l4 → (ir ((40 : Int) * l1) ∧ (ir (((40 : Int) * l1) + l4) ∧ ((0 ≤ (((40 : Int) * l1) + l4) ∧ (((40 : Int) * l1) + l4) < 120) ∧ (((σ 67 0 (((40 : Int) * l1) + l4)) < 0 → G (d + 2) P 51 182 [vr 62 0, vi l1, vu, vu, vi l4, vu, vu, vu, vu] [] σ) ∧ (0 ≤ (σ 67 0 (((40 : Int) * l1) + l4)) → (((σ 67 0 (((40 : Int) * l1) + l4)) = (8 : Int) → (ir ((((40 : Int) * l1) + l4) + 2) ∧ G (d + 2) P 51 135 [vr 62 0, vi l1, vu, vu, vi l4, vi (((40 : Int) * l1) + l4), vu, vi (inn (σ 67 0 (((40 : Int) * l1) + l4))), vi ((((40 : Int) * l1) + l4) + 2)] [] σ)) ∧ ((σ 67 0 (((40 : Int) * l1) + l4)) ≠ (8 : Int) → (((σ 67 0 (((40 : Int) * l1) + l4)) ≠ (9 : Int) → (ir ((((40 : Int) * l1) + l4) + 1) ∧ G (d + 2) P 51 135 [vr 62 0, vi l1, vu, vu, vi l4, vi (((40 : Int) * l1) + l4), vu, vi (inn (σ 67 0 (((40 : Int) * l1) + l4))), vi ((((40 : Int) * l1) + l4) + 1)] [] σ)) ∧ ((σ 67 0 (((40 : Int) * l1) + l4)) = (9 : Int) → (ir ((((40 : Int) * l1) + l4) + 2) ∧ G (d + 2) P 51 135 [vr 62 0, vi l1, vu, vu, vi l4, vi (((40 : Int) * l1) + l4), vu, vi (inn (σ 67 0 (((40 : Int) * l1) + l4))), vi ((((40 : Int) * l1) + l4) + 2)] [] σ))))))))))))) : G (d + 2) P 51 103 [vr 62 0, vi l1, vu, vu, vi l4, vu, vu, vu, vu] [] σ := blk (S := S2) (c := cd_51) (bz := false) [(6, [true, true, true, true, true, false, false, false, false]), (103, [true, true, false, false, true, false, false, false, false]), (135, [true, true, false, false, true, true, false, true, true]), (149, [true, true, false, false, true, true, false, true, true]), (164, [true, true, false, false, true, true, false, true, true]), (182, [true, true, false, false, true, false, false, false, false])] 600 (S2_ok (d + 0)) rfl rfl rfl h
-- RegionStackModel.read at 182, 1 leaves
set_option maxRecDepth 100000 in
set_option maxHeartbeats 4000000 in
theorem b_51_182 {d : Nat} {P : AV → SS → Prop} {σ : SS} {l1 l4 : Int} (h : (ir (l4 + (-1)) ∧ G (d + 2) P 51 103 [vr 62 0, vi l1, vu, vu, vi (l4 + (-1)), vu, vu, vu, vu] [] σ)) : G (d + 2) P 51 182 [vr 62 0, vi l1, vu, vu, vi l4, vu, vu, vu, vu] [] σ := blk (S := S2) (c := cd_51) (bz := false) [(6, [true, true, true, true, true, false, false, false, false]), (103, [true, true, false, false, true, false, false, false, false]), (135, [true, true, false, false, true, true, false, true, true]), (149, [true, true, false, false, true, true, false, true, true]), (164, [true, true, false, false, true, true, false, true, true]), (182, [true, true, false, false, true, false, false, false, false])] 600 (S2_ok (d + 0)) rfl rfl rfl h
-- RegionStackModel.read at 135, 2 leaves
set_option maxRecDepth 100000 in
set_option maxHeartbeats 4000000 in
theorem b_51_135 {d : Nat} {P : AV → SS → Prop} {σ : SS} {l1 l4 l5 l7 l8 : Int} (h : ((0 ≤ l5 ∧ l5 < 120) ∧ (∀ σ1 : SS, σ1 = up σ 68 0 l5 l8 → ((l7 ≤ 0 → G (d + 2) P 51 149 [vr 62 0, vi l1, vu, vu, vi l4, vi l5, vu, vi l7, vi l8] [] σ1) ∧ (0 < l7 → ((0 ≤ l8 ∧ l8 < 120) ∧ G (d + 2) P 51 149 [vr 62 0, vi l1, vu, vu, vi l4, vi l5, vu, vi l7, vi (σ1 71 0 l8)] [] σ1)))))) : G (d + 2) P 51 135 [vr 62 0, vi l1, vu, vu, vi l4, vi l5, vu, vi l7, vi l8] [] σ := blk (S := S2) (c := cd_51) (bz := false) [(6, [true, true, true, true, true, false, false, false, false]), (103, [true, true, false, false, true, false, false, false, false]), (135, [true, true, false, false, true, true, false, true, true]), (149, [true, true, false, false, true, true, false, true, true]), (164, [true, true, false, false, true, true, false, true, true]), (182, [true, true, false, false, true, false, false, false, false])] 600 (S2_ok (d + 0)) rfl rfl rfl h
-- RegionStackModel.read at 149, 2 leaves
set_option maxRecDepth 100000 in
set_option maxHeartbeats 4000000 in
theorem b_51_149 {d : Nat} {P : AV → SS → Prop} {σ : SS} {l1 l4 l5 l7 l8 : Int} (h : ((0 ≤ l5 ∧ l5 < 120) ∧ (∀ σ1 : SS, σ1 = up σ 69 0 l5 l8 → ((l7 ≤ (1 : Int) → G (d + 2) P 51 164 [vr 62 0, vi l1, vu, vu, vi l4, vi l5, vu, vi l7, vi l8] [] σ1) ∧ ((1 : Int) < l7 → ((0 ≤ l8 ∧ l8 < 120) ∧ G (d + 2) P 51 164 [vr 62 0, vi l1, vu, vu, vi l4, vi l5, vu, vi l7, vi (σ1 71 0 l8)] [] σ1)))))) : G (d + 2) P 51 149 [vr 62 0, vi l1, vu, vu, vi l4, vi l5, vu, vi l7, vi l8] [] σ := blk (S := S2) (c := cd_51) (bz := false) [(6, [true, true, true, true, true, false, false, false, false]), (103, [true, true, false, false, true, false, false, false, false]), (135, [true, true, false, false, true, true, false, true, true]), (149, [true, true, false, false, true, true, false, true, true]), (164, [true, true, false, false, true, true, false, true, true]), (182, [true, true, false, false, true, false, false, false, false])] 600 (S2_ok (d + 0)) rfl rfl rfl h
-- RegionStackModel.read at 164, 2 leaves
set_option maxRecDepth 100000 in
set_option maxHeartbeats 4000000 in
theorem b_51_164 {d : Nat} {P : AV → SS → Prop} {σ : SS} {l1 l4 l5 l7 l8 : Int} (h : ((0 ≤ l5 ∧ l5 < 120) ∧ (∀ σ1 : SS, σ1 = up σ 70 0 l5 l8 → ((l7 ≤ (2 : Int) → ((0 ≤ l5 ∧ l5 < 120) ∧ (∀ σ2 : SS, σ2 = up σ1 71 0 l5 l8 → G (d + 2) P 51 182 [vr 62 0, vi l1, vu, vu, vi l4, vu, vu, vu, vu] [] σ2))) ∧ ((2 : Int) < l7 → ((0 ≤ l8 ∧ l8 < 120) ∧ ((0 ≤ l5 ∧ l5 < 120) ∧ (∀ σ3 : SS, σ3 = up σ1 71 0 l5 (σ1 71 0 l8) → G (d + 2) P 51 182 [vr 62 0, vi l1, vu, vu, vi l4, vu, vu, vu, vu] [] σ3)))))))) : G (d + 2) P 51 164 [vr 62 0, vi l1, vu, vu, vi l4, vi l5, vu, vi l7, vi l8] [] σ := blk (S := S2) (c := cd_51) (bz := false) [(6, [true, true, true, true, true, false, false, false, false]), (103, [true, true, false, false, true, false, false, false, false]), (135, [true, true, false, false, true, true, false, true, true]), (149, [true, true, false, false, true, true, false, true, true]), (164, [true, true, false, false, true, true, false, true, true]), (182, [true, true, false, false, true, false, false, false, false])] 600 (S2_ok (d + 0)) rfl rfl rfl h
-- RegionStackModel.fault at 0, 2 leaves
set_option maxRecDepth 100000 in
set_option maxHeartbeats 4000000 in
theorem b_52_0 {d : Nat} {P : AV → SS → Prop} {σ : SS} {l1 : Int} (h : (((if 0 ≤ l1 ∧ l1 ≤ 2 then (1 : Int) else 0) = 0 → P (vi ((-1) : Int)) σ) ∧ ((if 0 ≤ l1 ∧ l1 ≤ 2 then (1 : Int) else 0) ≠ 0 → (∃ (x2 : Int) (σ1 : SS), Rn (d + 3) 51 [vr 62 0, vi l1] σ (vi x2) σ1 ∧ P (vi x2) σ1)))) : G (d + 3) P 52 0 [vr 62 0, vi l1] [] σ := blk (S := S2) (c := cd_52) (bz := false) [] 600 (S2_ok (d + 1)) rfl rfl rfl h
-- RegionStackModel.binder at 0, 1 leaves
set_option maxRecDepth 100000 in
set_option maxHeartbeats 4000000 in
theorem b_53_0 {d : Nat} {P : AV → SS → Prop} {σ : SS} {l1 l2 : Int} (h : (ir ((40 : Int) * l1) ∧ G (d + 0) P 53 6 [vr 62 0, vu, vi l2, vi (-6), vi ((40 : Int) * l1), vu] [] σ)) : G (d + 0) P 53 0 [vr 62 0, vi l1, vi l2, vu, vu, vu] [] σ := blk (S := noS) (c := cd_53) (bz := false) [(6, [true, false, true, true, true, false])] 600 (SV_no _) rfl rfl rfl h
-- RegionStackModel.binder at 6, 11 leaves
set_option maxRecDepth 100000 in
set_option maxHeartbeats 4000000 in
theorem b_53_6 {d : Nat} {P : AV → SS → Prop} {σ : SS} {l2 l3 l4 : Int} (h : ((l2 ≤ l4 → P (vi l3) σ) ∧ (l4 < l2 → ((0 ≤ l4 ∧ l4 < 120) ∧ (((σ 67 0 l4) ≠ (8 : Int) → (((0 : Int) = 0 → (ir (l4 + 1) ∧ G (d + 0) P 53 6 [vr 62 0, vu, vi l2, vi l3, vi (l4 + 1), vu] [] σ)) ∧ ((0 : Int) ≠ 0 → (ir (l4 + 1) ∧ G (d + 0) P 53 6 [vr 62 0, vu, vi l2, vi l4, vi (l4 + 1), vu] [] σ)))) ∧ ((σ 67 0 l4) = (8 : Int) → (ir (l4 + 1) ∧ ((0 ≤ (l4 + 1) ∧ (l4 + 1) < 120) ∧ ((0 ≤ l2 ∧ l2 < 120) ∧ (((σ 66 0 (l4 + 1)) ≠ (σ 66 0 l2) → (((0 : Int) = 0 → (ir (l4 + 1) ∧ G (d + 0) P 53 6 [vr 62 0, vu, vi l2, vi l3, vi (l4 + 1), vu] [] σ)) ∧ ((0 : Int) ≠ 0 → (ir (l4 + 1) ∧ G (d + 0) P 53 6 [vr 62 0, vu, vi l2, vi l4, vi (l4 + 1), vu] [] σ)))) ∧ ((σ 66 0 (l4 + 1)) = (σ 66 0 l2) → ((0 ≤ l4 ∧ l4 < 120) ∧ ((l2 < (σ 69 0 l4) → (((0 : Int) = 0 → (ir (l4 + 1) ∧ G (d + 0) P 53 6 [vr 62 0, vu, vi l2, vi l3, vi (l4 + 1), vu] [] σ)) ∧ ((0 : Int) ≠ 0 → (ir (l4 + 1) ∧ G (d + 0) P 53 6 [vr 62 0, vu, vi l2, vi l4, vi (l4 + 1), vu] [] σ)))) ∧ ((σ 69 0 l4) ≤ l2 → ((0 ≤ l4 ∧ l4 < 120) ∧ (((σ 71 0 l4) ≤ l2 → (((0 : Int) = 0 → (ir (l4 + 1) ∧ G (d + 0) P 53 6 [vr 62 0, vu, vi l2, vi l3, vi (l4 + 1), vu] [] σ)) ∧ ((0 : Int) ≠ 0 → (ir (l4 + 1) ∧ G (d + 0) P 53 6 [vr 62 0, vu, vi l2, vi l4, vi (l4 + 1), vu] [] σ)))) ∧ (l2 < (σ 71 0 l4) → (((1 : Int) = 0 → (ir (l4 + 1) ∧ G (d + 0) P 53 6 [vr 62 0, vu, vi l2, vi l3, vi (l4 + 1), vu] [] σ)) ∧ ((1 : Int) ≠ 0 → (ir (l4 + 1) ∧ G (d + 0) P 53 6 [vr 62 0, vu, vi l2, vi l4, vi (l4 + 1), vu] [] σ)))))))))))))))))))) : G (d + 0) P 53 6 [vr 62 0, vu, vi l2, vi l3, vi l4, vu] [] σ := blk (S := noS) (c := cd_53) (bz := false) [(6, [true, false, true, true, true, false])] 600 (SV_no _) rfl rfl rfl h
-- RegionStackModel.kindAt at 0, 1 leaves
set_option maxRecDepth 100000 in
set_option maxHeartbeats 4000000 in
theorem b_54_0 {d : Nat} {P : AV → SS → Prop} {σ : SS} {l1 l2 : Int} (h : G (d + 1) P 54 2 [vr 62 0, vi l1, vu, vi l2, vu] [] σ) : G (d + 1) P 54 0 [vr 62 0, vi l1, vi l2, vu, vu] [] σ := blk (S := S1) (c := cd_54) (bz := false) [(2, [true, true, false, true, false])] 600 (S1_ok (d + 0)) rfl rfl rfl h
-- RegionStackModel.kindAt at 2, 11 leaves
set_option maxRecDepth 100000 in
set_option maxHeartbeats 4000000 in
theorem b_54_2 {d : Nat} {P : AV → SS → Prop} {σ : SS} {l1 l3 : Int} (h : ((0 ≤ l3 ∧ l3 < 120) ∧ (((σ 67 0 l3) < 1 ∨ 9 < (σ 67 0 l3) → P (vi (0 : Int)) σ) ∧ (((σ 67 0 l3) = 1 → ((0 ≤ l1 ∧ l1 < 3) ∧ P (vi (σ 63 0 l1)) σ)) ∧ (((σ 67 0 l3) = (1 + 1) → (∃ (x2 : Int) (σ1 : SS), Rn (d + 1) 53 [vr 62 0, vi l1, vi l3] σ (vi x2) σ1 ∧ ((0 ≤ x2 → ((0 ≤ x2 ∧ x2 < 120) ∧ G (d + 1) P 54 2 [vr 62 0, vi l1, vu, vi (σ1 68 0 x2), vu] [] σ1)) ∧ (x2 < 0 → P (vi (0 : Int)) σ1)))) ∧ (((σ 67 0 l3) = ((1 + 1) + 1) → P (vi (1 : Int)) σ) ∧ (((σ 67 0 l3) = (((1 + 1) + 1) + 1) → P (vi (0 : Int)) σ) ∧ (((σ 67 0 l3) = ((((1 + 1) + 1) + 1) + 1) → P (vi (0 : Int)) σ) ∧ (((σ 67 0 l3) = (((((1 + 1) + 1) + 1) + 1) + 1) → P (vi (0 : Int)) σ) ∧ (((σ 67 0 l3) = ((((((1 + 1) + 1) + 1) + 1) + 1) + 1) → ((0 ≤ l3 ∧ l3 < 120) ∧ G (d + 1) P 54 2 [vr 62 0, vi l1, vu, vi (σ 69 0 l3), vu] [] σ)) ∧ (((σ 67 0 l3) = (((((((1 + 1) + 1) + 1) + 1) + 1) + 1) + 1) → ((0 ≤ l3 ∧ l3 < 120) ∧ G (d + 1) P 54 2 [vr 62 0, vi l1, vu, vi (σ 69 0 l3), vu] [] σ)) ∧ (((σ 67 0 l3) = ((((((((1 + 1) + 1) + 1) + 1) + 1) + 1) + 1) + 1) → ((ir (l3 + 1) ∧ (0 ≤ l3 + 1 ∧ l3 + 1 < 120) ∧ ir (σ 66 0 (l3 + 1) - 48)) ∧ ((0 ≤ (σ 66 0 (l3 + 1) - 48) ∧ (σ 66 0 (l3 + 1) - 48) < 3) ∧ P (vi (σ 64 0 (σ 66 0 (l3 + 1) - 48))) σ))) ∧ True)))))))))))) : G (d + 1) P 54 2 [vr 62 0, vi l1, vu, vi l3, vu] [] σ := blk (S := S1) (c := cd_54) (bz := false) [(2, [true, true, false, true, false])] 600 (S1_ok (d + 0)) rfl rfl rfl h
-- RegionStackModel.isIll at 0, 2 leaves
set_option maxRecDepth 100000 in
set_option maxHeartbeats 4000000 in
theorem b_55_0 {d : Nat} {P : AV → SS → Prop} {σ : SS} {l1 l2 : Int} (h : ((0 ≤ l2 ∧ l2 < 120) ∧ (((inn (σ 67 0 l2)) ≤ 0 → G (d + 2) P 55 16 [vr 62 0, vi l1, vi l2, vi 0, vu] [] σ) ∧ (0 < (inn (σ 67 0 l2)) → ((0 ≤ l2 ∧ l2 < 120) ∧ (∃ (x2 : Int) (σ1 : SS), Rn (d + 2) 54 [vr 62 0, vi l1, vi (σ 68 0 l2)] σ (vi x2) σ1 ∧ G (d + 2) P 55 16 [vr 62 0, vi l1, vi l2, vi x2, vu] [] σ1)))))) : G (d + 2) P 55 0 [vr 62 0, vi l1, vi l2, vu, vu] [] σ := blk (S := S1) (c := cd_55) (bz := true) [(16, [true, true, true, true, false]), (34, [true, true, true, true, true])] 600 (S1_ok (d + 1)) rfl rfl rfl h
-- RegionStackModel.isIll at 16, 3 leaves
set_option maxRecDepth 100000 in
set_option maxHeartbeats 4000000 in
theorem b_55_16 {d : Nat} {P : AV → SS → Prop} {σ : SS} {l1 l2 l3 : Int} (h : (ir ((40 : Int) * l1) ∧ ((l2 ≠ ((40 : Int) * l1) → G (d + 2) P 55 34 [vr 62 0, vi l1, vi l2, vi l3, vi 0] [] σ) ∧ (l2 = ((40 : Int) * l1) → (∃ (x2 : Int) (σ1 : SS), Rn (d + 2) 54 [vr 62 0, vi l1, vi l2] σ (vi x2) σ1 ∧ ((0 ≤ l1 ∧ l1 < 3) ∧ ((x2 = (σ1 64 0 l1) → G (d + 2) P 55 34 [vr 62 0, vi l1, vi l2, vi l3, vi 0] [] σ1) ∧ (x2 ≠ (σ1 64 0 l1) → G (d + 2) P 55 34 [vr 62 0, vi l1, vi l2, vi l3, vi 1] [] σ1)))))))) : G (d + 2) P 55 16 [vr 62 0, vi l1, vi l2, vi l3, vu] [] σ := blk (S := S1) (c := cd_55) (bz := true) [(16, [true, true, true, true, false]), (34, [true, true, true, true, true])] 600 (S1_ok (d + 1)) rfl rfl rfl h
-- RegionStackModel.isIll at 34, 25 leaves
set_option maxRecDepth 100000 in
set_option maxHeartbeats 4000000 in
theorem b_55_34 {d : Nat} {P : AV → SS → Prop} {σ : SS} {l1 l2 l3 l4 : Int} (h : ((0 ≤ l2 ∧ l2 < 120) ∧ (((σ 67 0 l2) < 2 ∨ 9 < (σ 67 0 l2) → ((l4 = 0 ∨ l4 = 1) ∧ P (vi l4) σ)) ∧ (((σ 67 0 l2) = 2 → ((l4 ≠ 0 → (((1 : Int) = 0 ∨ (1 : Int) = 1) ∧ P (vi (1 : Int)) σ)) ∧ (l4 = 0 → (∃ (x2 : Int) (σ1 : SS), Rn (d + 2) 53 [vr 62 0, vi l1, vi l2] σ (vi x2) σ1 ∧ ((0 ≤ x2 → (((0 : Int) = 0 ∨ (0 : Int) = 1) ∧ P (vi (0 : Int)) σ1)) ∧ (x2 < 0 → (((1 : Int) = 0 ∨ (1 : Int) = 1) ∧ P (vi (1 : Int)) σ1))))))) ∧ (((σ 67 0 l2) = (2 + 1) → ((l4 ≠ 0 → (((1 : Int) = 0 ∨ (1 : Int) = 1) ∧ P (vi (1 : Int)) σ)) ∧ (l4 = 0 → ((l3 ≠ (1 : Int) → (((0 : Int) = 0 ∨ (0 : Int) = 1) ∧ P (vi (0 : Int)) σ)) ∧ (l3 = (1 : Int) → (((1 : Int) = 0 ∨ (1 : Int) = 1) ∧ P (vi (1 : Int)) σ)))))) ∧ (((σ 67 0 l2) = ((2 + 1) + 1) → ((l4 ≠ 0 → (((1 : Int) = 0 ∨ (1 : Int) = 1) ∧ P (vi (1 : Int)) σ)) ∧ (l4 = 0 → ((l3 ≠ 0 → (((0 : Int) = 0 ∨ (0 : Int) = 1) ∧ P (vi (0 : Int)) σ)) ∧ (l3 = 0 → (((1 : Int) = 0 ∨ (1 : Int) = 1) ∧ P (vi (1 : Int)) σ)))))) ∧ (((σ 67 0 l2) = (((2 + 1) + 1) + 1) → ((l4 ≠ 0 → (((1 : Int) = 0 ∨ (1 : Int) = 1) ∧ P (vi (1 : Int)) σ)) ∧ (l4 = 0 → ((l3 ≠ (1 : Int) → (((0 : Int) = 0 ∨ (0 : Int) = 1) ∧ P (vi (0 : Int)) σ)) ∧ (l3 = (1 : Int) → (((1 : Int) = 0 ∨ (1 : Int) = 1) ∧ P (vi (1 : Int)) σ)))))) ∧ (((σ 67 0 l2) = ((((2 + 1) + 1) + 1) + 1) → ((l4 ≠ 0 → (((1 : Int) = 0 ∨ (1 : Int) = 1) ∧ P (vi (1 : Int)) σ)) ∧ (l4 = 0 → ((l3 = (1 : Int) → (((1 : Int) = 0 ∨ (1 : Int) = 1) ∧ P (vi (1 : Int)) σ)) ∧ (l3 ≠ (1 : Int) → ((0 ≤ l2 ∧ l2 < 120) ∧ (∃ (x4 : Int) (σ3 : SS), Rn (d + 2) 54 [vr 62 0, vi l1, vi (σ 69 0 l2)] σ (vi x4) σ3 ∧ ((x4 ≠ (1 : Int) → (((0 : Int) = 0 ∨ (0 : Int) = 1) ∧ P (vi (0 : Int)) σ3)) ∧ (x4 = (1 : Int) → (((1 : Int) = 0 ∨ (1 : Int) = 1) ∧ P (vi (1 : Int)) σ3)))))))))) ∧ (((σ 67 0 l2) = (((((2 + 1) + 1) + 1) + 1) + 1) → ((l4 ≠ 0 → (((1 : Int) = 0 ∨ (1 : Int) = 1) ∧ P (vi (1 : Int)) σ)) ∧ (l4 = 0 → ((l3 = (1 : Int) → (((1 : Int) = 0 ∨ (1 : Int) = 1) ∧ P (vi (1 : Int)) σ)) ∧ (l3 ≠ (1 : Int) → ((0 ≤ l2 ∧ l2 < 120) ∧ (∃ (x6 : Int) (σ5 : SS), Rn (d + 2) 54 [vr 62 0, vi l1, vi (σ 69 0 l2)] σ (vi x6) σ5 ∧ ((0 ≤ l2 ∧ l2 < 120) ∧ (∃ (x8 : Int) (σ7 : SS), Rn (d + 2) 54 [vr 62 0, vi l1, vi (σ5 70 0 l2)] σ5 (vi x8) σ7 ∧ ((x6 = x8 → (((0 : Int) = 0 ∨ (0 : Int) = 1) ∧ P (vi (0 : Int)) σ7)) ∧ (x6 ≠ x8 → (((1 : Int) = 0 ∨ (1 : Int) = 1) ∧ P (vi (1 : Int)) σ7)))))))))))) ∧ (((σ 67 0 l2) = ((((((2 + 1) + 1) + 1) + 1) + 1) + 1) → ((l4 = 0 ∨ l4 = 1) ∧ P (vi l4) σ)) ∧ (((σ 67 0 l2) = (((((((2 + 1) + 1) + 1) + 1) + 1) + 1) + 1) → ((l4 ≠ 0 → (((1 : Int) = 0 ∨ (1 : Int) = 1) ∧ P (vi (1 : Int)) σ)) ∧ (l4 = 0 → ((ir (l2 + 1) ∧ (0 ≤ l2 + 1 ∧ l2 + 1 < 120) ∧ ir (σ 66 0 (l2 + 1) - 48)) ∧ ((0 ≤ (σ 66 0 (l2 + 1) - 48) ∧ (σ 66 0 (l2 + 1) - 48) < 3) ∧ ((l3 = (σ 63 0 (σ 66 0 (l2 + 1) - 48)) → (((0 : Int) = 0 ∨ (0 : Int) = 1) ∧ P (vi (0 : Int)) σ)) ∧ (l3 ≠ (σ 63 0 (σ 66 0 (l2 + 1) - 48)) → (((1 : Int) = 0 ∨ (1 : Int) = 1) ∧ P (vi (1 : Int)) σ)))))))) ∧ True))))))))))) : G (d + 2) P 55 34 [vr 62 0, vi l1, vi l2, vi l3, vi l4] [] σ := blk (S := S1) (c := cd_55) (bz := true) [(16, [true, true, true, true, false]), (34, [true, true, true, true, true])] 600 (S1_ok (d + 1)) rfl rfl rfl h
-- RegionStackModel.illOne at 0, 1 leaves
set_option maxRecDepth 100000 in
set_option maxHeartbeats 4000000 in
theorem b_56_0 {d : Nat} {P : AV → SS → Prop} {σ : SS} {l1 : Int} (h : G (d + 3) P 56 2 [vr 62 0, vi l1, vi 0] [] σ) : G (d + 3) P 56 0 [vr 62 0, vi l1, vu] [] σ := blk (S := noS) (c := cd_56) (bz := false) [(2, [true, true, true])] 600 (SV_no _) rfl rfl rfl h
-- RegionStackModel.illOne at 2, 4 leaves
set_option maxRecDepth 100000 in
set_option maxHeartbeats 4000000 in
theorem b_56_2 {d : Nat} {P : AV → SS → Prop} {σ : SS} {l1 l2 : Int} (h : ((0 ≤ l1 ∧ l1 < 3) ∧ (((σ 65 0 l1) ≤ l2 → P (vi ((-6) : Int)) σ) ∧ (l2 < (σ 65 0 l1) → (ir ((40 : Int) * l1) ∧ (ir (((40 : Int) * l1) + l2) ∧ ((0 ≤ (((40 : Int) * l1) + l2) ∧ (((40 : Int) * l1) + l2) < 120) ∧ (((σ 67 0 (((40 : Int) * l1) + l2)) < 0 → (ir (l2 + 1) ∧ G (d + 3) P 56 2 [vr 62 0, vi l1, vi (l2 + 1)] [] σ)) ∧ (0 ≤ (σ 67 0 (((40 : Int) * l1) + l2)) → (ir ((40 : Int) * l1) ∧ (ir (((40 : Int) * l1) + l2) ∧ (∃ (x2 : Int) (σ1 : SS), Rn (d + 3) 55 [vr 62 0, vi l1, vi (((40 : Int) * l1) + l2)] σ (vi x2) σ1 ∧ ((x2 = 0 → (ir (l2 + 1) ∧ G (d + 3) P 56 2 [vr 62 0, vi l1, vi (l2 + 1)] [] σ1)) ∧ (x2 ≠ 0 → P (vi l2) σ1)))))))))))))) : G (d + 3) P 56 2 [vr 62 0, vi l1, vi l2] [] σ := blk (S := noS) (c := cd_56) (bz := false) [(2, [true, true, true])] 600 (SV_no _) rfl rfl rfl h
-- RegionStackModel.parts at 0, 4 leaves
set_option maxRecDepth 100000 in
set_option maxHeartbeats 4000000 in
theorem b_57_0 {d : Nat} {P : AV → SS → Prop} {σ : SS} {l1 l2 : Int} (h : (((if 0 ≤ l1 ∧ l1 ≤ 2 then (1 : Int) else 0) ≠ 0 → (((if (0 : Int) ≤ l2 ∧ l2 ≤ 1 then (1 : Int) else 0) ≠ 0 → (∃ (x2 : Int) (σ1 : SS), Rn (d + 4) 51 [vr 62 0, vi l1] σ (vi x2) σ1 ∧ ((x2 < 0 → G (d + 4) P 57 22 [vr 62 0, vi l1, vi l2, vi 0, vi 0] [] σ1) ∧ (0 ≤ x2 → P (vi ((-5) : Int)) σ1)))) ∧ ((if (0 : Int) ≤ l2 ∧ l2 ≤ 1 then (1 : Int) else 0) = 0 → P (vi ((-2) : Int)) σ))) ∧ ((if 0 ≤ l1 ∧ l1 ≤ 2 then (1 : Int) else 0) = 0 → P (vi ((-1) : Int)) σ))) : G (d + 4) P 57 0 [vr 62 0, vi l1, vi l2, vu, vu] [] σ := blk (S := S2) (c := cd_57) (bz := false) [(22, [true, true, true, true, true])] 600 (S2_ok (d + 2)) rfl rfl rfl h
-- RegionStackModel.parts at 22, 4 leaves
set_option maxRecDepth 100000 in
set_option maxHeartbeats 4000000 in
theorem b_57_22 {d : Nat} {P : AV → SS → Prop} {σ : SS} {l1 l2 l3 l4 : Int} (h : ((0 ≤ l1 ∧ l1 < 3) ∧ (((σ 65 0 l1) ≤ l4 → ((l2 ≠ 0 → (∃ (x2 : Int) (σ1 : SS), Rn (d + 4) 56 [vr 62 0, vi l1] σ (vi x2) σ1 ∧ P (vi x2) σ1)) ∧ (l2 = 0 → P (vi l3) σ))) ∧ (l4 < (σ 65 0 l1) → (ir ((40 : Int) * l1) ∧ (ir (((40 : Int) * l1) + l4) ∧ ((0 ≤ (((40 : Int) * l1) + l4) ∧ (((40 : Int) * l1) + l4) < 120) ∧ (((σ 67 0 (((40 : Int) * l1) + l4)) < 0 → (ir (l3 + 0) ∧ (ir (l4 + 1) ∧ G (d + 4) P 57 22 [vr 62 0, vi l1, vi l2, vi (l3 + 0), vi (l4 + 1)] [] σ))) ∧ (0 ≤ (σ 67 0 (((40 : Int) * l1) + l4)) → (ir (l3 + 1) ∧ (ir (l4 + 1) ∧ G (d + 4) P 57 22 [vr 62 0, vi l1, vi l2, vi (l3 + 1), vi (l4 + 1)] [] σ))))))))))) : G (d + 4) P 57 22 [vr 62 0, vi l1, vi l2, vi l3, vi l4] [] σ := blk (S := S2) (c := cd_57) (bz := false) [(22, [true, true, true, true, true])] 600 (S2_ok (d + 2)) rfl rfl rfl h
-- RegionStackModel.kind at 0, 5 leaves
set_option maxRecDepth 100000 in
set_option maxHeartbeats 4000000 in
theorem b_58_0 {d : Nat} {P : AV → SS → Prop} {σ : SS} {l1 l2 : Int} (h : (((if 0 ≤ l1 ∧ l1 ≤ 2 then (1 : Int) else 0) ≠ 0 → ((0 ≤ l1 ∧ l1 < 3) ∧ (ir ((σ 65 0 l1) - 1) ∧ (((if (0 : Int) ≤ l2 ∧ l2 ≤ ((σ 65 0 l1) - 1) then (1 : Int) else 0) ≠ 0 → (∃ (x2 : Int) (σ1 : SS), Rn (d + 3) 51 [vr 62 0, vi l1] σ (vi x2) σ1 ∧ ((x2 < 0 → (ir ((40 : Int) * l1) ∧ (ir (((40 : Int) * l1) + l2) ∧ ((0 ≤ (((40 : Int) * l1) + l2) ∧ (((40 : Int) * l1) + l2) < 120) ∧ ((0 ≤ (σ1 67 0 (((40 : Int) * l1) + l2)) → (ir ((40 : Int) * l1) ∧ (ir (((40 : Int) * l1) + l2) ∧ (∃ (x4 : Int) (σ3 : SS), Rn (d + 3) 54 [vr 62 0, vi l1, vi (((40 : Int) * l1) + l2)] σ1 (vi x4) σ3 ∧ P (vi x4) σ3)))) ∧ ((σ1 67 0 (((40 : Int) * l1) + l2)) < 0 → P (vi ((-6) : Int)) σ1)))))) ∧ (0 ≤ x2 → P (vi ((-5) : Int)) σ1)))) ∧ ((if (0 : Int) ≤ l2 ∧ l2 ≤ ((σ 65 0 l1) - 1) then (1 : Int) else 0) = 0 → P (vi ((-2) : Int)) σ))))) ∧ ((if 0 ≤ l1 ∧ l1 ≤ 2 then (1 : Int) else 0) = 0 → P (vi ((-1) : Int)) σ))) : G (d + 3) P 58 0 [vr 62 0, vi l1, vi l2] [] σ := blk (S := S2) (c := cd_58) (bz := false) [] 600 (S2_ok (d + 1)) rfl rfl rfl h
-- RegionStackModel.isWell at 0, 1 leaves
set_option maxRecDepth 100000 in
set_option maxHeartbeats 4000000 in
theorem b_59_0 {d : Nat} {P : AV → SS → Prop} {σ : SS} (h : G (d + 4) P 59 4 [vr 62 0, vi 1, vi 0] [] σ) : G (d + 4) P 59 0 [vr 62 0, vu, vu] [] σ := blk (S := noS) (c := cd_59) (bz := true) [(4, [true, true, true])] 600 (SV_no _) rfl rfl rfl h
-- RegionStackModel.isWell at 4, 5 leaves
set_option maxRecDepth 100000 in
set_option maxHeartbeats 4000000 in
theorem b_59_4 {d : Nat} {P : AV → SS → Prop} {σ : SS} {l1 l2 : Int} (h : (((3 : Int) ≤ l2 → ((l1 = 0 ∨ l1 = 1) ∧ P (vi l1) σ)) ∧ (l2 < (3 : Int) → ((l1 = 0 → (ir (l2 + 1) ∧ G (d + 4) P 59 4 [vr 62 0, vi 0, vi (l2 + 1)] [] σ)) ∧ (l1 ≠ 0 → (∃ (x2 : Int) (σ1 : SS), Rn (d + 4) 51 [vr 62 0, vi l2] σ (vi x2) σ1 ∧ ((0 ≤ x2 → (ir (l2 + 1) ∧ G (d + 4) P 59 4 [vr 62 0, vi 0, vi (l2 + 1)] [] σ1)) ∧ (x2 < 0 → (∃ (x4 : Int) (σ3 : SS), Rn (d + 4) 56 [vr 62 0, vi l2] σ1 (vi x4) σ3 ∧ ((0 ≤ x4 → (ir (l2 + 1) ∧ G (d + 4) P 59 4 [vr 62 0, vi 0, vi (l2 + 1)] [] σ3)) ∧ (x4 < 0 → (ir (l2 + 1) ∧ G (d + 4) P 59 4 [vr 62 0, vi 1, vi (l2 + 1)] [] σ3)))))))))))) : G (d + 4) P 59 4 [vr 62 0, vi l1, vi l2] [] σ := blk (S := noS) (c := cd_59) (bz := true) [(4, [true, true, true])] 600 (SV_no _) rfl rfl rfl h
-- RegionStackModel.well at 0, 2 leaves
set_option maxRecDepth 100000 in
set_option maxHeartbeats 4000000 in
theorem b_60_0 {d : Nat} {P : AV → SS → Prop} {σ : SS} (h : (∃ (x2 : Int) (σ1 : SS), Rn (d + 5) 59 [vr 62 0] σ (vi x2) σ1 ∧ ((x2 = 0 → P (vi (0 : Int)) σ1) ∧ (x2 ≠ 0 → P (vi (1 : Int)) σ1)))) : G (d + 5) P 60 0 [vr 62 0] [] σ := blk (S := noS) (c := cd_60) (bz := false) [] 600 (SV_no _) rfl rfl rfl h
-- RegionStackModel.uniteAll at 0, 1 leaves
set_option maxRecDepth 100000 in
set_option maxHeartbeats 4000000 in
theorem b_61_0 {d : Nat} {P : AV → SS → Prop} {σ : SS} {l1 : Int} (h : G (d + 2) P 61 2 [vr 62 0, vi l1, vi 0, vu] [] σ) : G (d + 2) P 61 0 [vr 62 0, vi l1, vu, vu] [] σ := blk (S := S1) (c := cd_61) (bz := false) [(2, [true, true, true, false]), (24, [true, true, true, false])] 600 (S1_ok (d + 1)) rfl rfl rfl h
-- RegionStackModel.uniteAll at 2, 2 leaves
set_option maxRecDepth 100000 in
set_option maxHeartbeats 4000000 in
theorem b_61_2 {d : Nat} {P : AV → SS → Prop} {σ : SS} {l1 l2 : Int} (h : (((42 : Int) ≤ l2 → (ir ((40 : Int) * l1) ∧ G (d + 2) P 61 24 [vr 62 0, vi l1, vi ((40 : Int) * l1), vu] [] σ)) ∧ (l2 < (42 : Int) → (ir ((42 : Int) * l1) ∧ (ir (((42 : Int) * l1) + l2) ∧ (ir ((42 : Int) * l1) ∧ (ir (((42 : Int) * l1) + l2) ∧ ((0 ≤ (((42 : Int) * l1) + l2) ∧ (((42 : Int) * l1) + l2) < 126) ∧ (∀ σ1 : SS, σ1 = up σ 72 0 (((42 : Int) * l1) + l2) (((42 : Int) * l1) + l2) → (ir (l2 + 1) ∧ G (d + 2) P 61 2 [vr 62 0, vi l1, vi (l2 + 1), vu] [] σ1)))))))))) : G (d + 2) P 61 2 [vr 62 0, vi l1, vi l2, vu] [] σ := blk (S := S1) (c := cd_61) (bz := false) [(2, [true, true, true, false]), (24, [true, true, true, false])] 600 (S1_ok (d + 1)) rfl rfl rfl h
-- RegionStackModel.uniteAll at 24, 25 leaves
set_option maxRecDepth 100000 in
set_option maxHeartbeats 4000000 in
theorem b_61_24 {d : Nat} {P : AV → SS → Prop} {σ : SS} {l1 l2 : Int} (h : (ir ((40 : Int) * l1) ∧ ((0 ≤ l1 ∧ l1 < 3) ∧ (ir (((40 : Int) * l1) + (σ 65 0 l1)) ∧ (((((40 : Int) * l1) + (σ 65 0 l1)) ≤ l2 → P vu σ) ∧ (l2 < (((40 : Int) * l1) + (σ 65 0 l1)) → ((0 ≤ l2 ∧ l2 < 120) ∧ (((σ 67 0 l2) < 0 → (ir (l2 + 1) ∧ G (d + 2) P 61 24 [vr 62 0, vi l1, vi (l2 + 1), vu] [] σ)) ∧ (0 ≤ (σ 67 0 l2) → (∃ (x2 : Int) (σ1 : SS), Rn (d + 2) 54 [vr 62 0, vi l1, vi l2] σ (vi x2) σ1 ∧ ((x2 ≠ (1 : Int) → (ir (l2 + 1) ∧ G (d + 2) P 61 24 [vr 62 0, vi l1, vi (l2 + 1), vu] [] σ1)) ∧ (x2 = (1 : Int) → ((ir (42 * l1) ∧ ir (42 * l1 + l2) ∧ ir (40 * l1) ∧ ir (42 * l1 + l2 - 40 * l1)) ∧ ((0 ≤ l2 ∧ l2 < 120) ∧ (((σ1 67 0 l2) < 1 ∨ 9 < (σ1 67 0 l2) → (ir ((40 : Int) * l1) ∧ ((l2 ≠ ((40 : Int) * l1) → (ir (l2 + 1) ∧ G (d + 2) P 61 24 [vr 62 0, vi l1, vi (l2 + 1), vu] [] σ1)) ∧ (l2 = ((40 : Int) * l1) → (ir ((42 : Int) * l1) ∧ (ir (((42 : Int) * l1) + 41) ∧ (∃ σ21 : SS, Rn (d + 2) 24 [vr 62 0, vi (42 * l1 + l2 - 40 * l1), vi (((42 : Int) * l1) + 41)] σ1 vu σ21 ∧ (ir (l2 + 1) ∧ G (d + 2) P 61 24 [vr 62 0, vi l1, vi (l2 + 1), vu] [] σ21)))))))) ∧ (((σ1 67 0 l2) = 1 → (ir ((42 : Int) * l1) ∧ (ir (((42 : Int) * l1) + 40) ∧ (∃ σ3 : SS, Rn (d + 2) 24 [vr 62 0, vi (42 * l1 + l2 - 40 * l1), vi (((42 : Int) * l1) + 40)] σ1 vu σ3 ∧ (ir ((40 : Int) * l1) ∧ ((l2 ≠ ((40 : Int) * l1) → (ir (l2 + 1) ∧ G (d + 2) P 61 24 [vr 62 0, vi l1, vi (l2 + 1), vu] [] σ3)) ∧ (l2 = ((40 : Int) * l1) → (ir ((42 : Int) * l1) ∧ (ir (((42 : Int) * l1) + 41) ∧ (∃ σ4 : SS, Rn (d + 2) 24 [vr 62 0, vi (42 * l1 + l2 - 40 * l1), vi (((42 : Int) * l1) + 41)] σ3 vu σ4 ∧ (ir (l2 + 1) ∧ G (d + 2) P 61 24 [vr 62 0, vi l1, vi (l2 + 1), vu] [] σ4))))))))))) ∧ (((σ1 67 0 l2) = (1 + 1) → (∃ (x6 : Int) (σ5 : SS), Rn (d + 2) 53 [vr 62 0, vi l1, vi l2] σ1 (vi x6) σ5 ∧ ((0 ≤ x6 ∧ x6 < 120) ∧ ((ir (42 * l1) ∧ ir (42 * l1 + (σ5 68 0 x6)) ∧ ir (40 * l1) ∧ ir (42 * l1 + (σ5 68 0 x6) - 40 * l1)) ∧ (∃ σ7 : SS, Rn (d + 2) 24 [vr 62 0, vi (42 * l1 + l2 - 40 * l1), vi (42 * l1 + (σ5 68 0 x6) - 40 * l1)] σ5 vu σ7 ∧ (ir ((40 : Int) * l1) ∧ ((l2 ≠ ((40 : Int) * l1) → (ir (l2 + 1) ∧ G (d + 2) P 61 24 [vr 62 0, vi l1, vi (l2 + 1), vu] [] σ7)) ∧ (l2 = ((40 : Int) * l1) → (ir ((42 : Int) * l1) ∧ (ir (((42 : Int) * l1) + 41) ∧ (∃ σ8 : SS, Rn (d + 2) 24 [vr 62 0, vi (42 * l1 + l2 - 40 * l1), vi (((42 : Int) * l1) + 41)] σ7 vu σ8 ∧ (ir (l2 + 1) ∧ G (d + 2) P 61 24 [vr 62 0, vi l1, vi (l2 + 1), vu] [] σ8)))))))))))) ∧ (((σ1 67 0 l2) = ((1 + 1) + 1) → (ir ((40 : Int) * l1) ∧ ((l2 ≠ ((40 : Int) * l1) → (ir (l2 + 1) ∧ G (d + 2) P 61 24 [vr 62 0, vi l1, vi (l2 + 1), vu] [] σ1)) ∧ (l2 = ((40 : Int) * l1) → (ir ((42 : Int) * l1) ∧ (ir (((42 : Int) * l1) + 41) ∧ (∃ σ9 : SS, Rn (d + 2) 24 [vr 62 0, vi (42 * l1 + l2 - 40 * l1), vi (((42 : Int) * l1) + 41)] σ1 vu σ9 ∧ (ir (l2 + 1) ∧ G (d + 2) P 61 24 [vr 62 0, vi l1, vi (l2 + 1), vu] [] σ9)))))))) ∧ (((σ1 67 0 l2) = (((1 + 1) + 1) + 1) → (ir ((40 : Int) * l1) ∧ ((l2 ≠ ((40 : Int) * l1) → (ir (l2 + 1) ∧ G (d + 2) P 61 24 [vr 62 0, vi l1, vi (l2 + 1), vu] [] σ1)) ∧ (l2 = ((40 : Int) * l1) → (ir ((42 : Int) * l1) ∧ (ir (((42 : Int) * l1) + 41) ∧ (∃ σ10 : SS, Rn (d + 2) 24 [vr 62 0, vi (42 * l1 + l2 - 40 * l1), vi (((42 : Int) * l1) + 41)] σ1 vu σ10 ∧ (ir (l2 + 1) ∧ G (d + 2) P 61 24 [vr 62 0, vi l1, vi (l2 + 1), vu] [] σ10)))))))) ∧ (((σ1 67 0 l2) = ((((1 + 1) + 1) + 1) + 1) → (ir ((40 : Int) * l1) ∧ ((l2 ≠ ((40 : Int) * l1) → (ir (l2 + 1) ∧ G (d + 2) P 61 24 [vr 62 0, vi l1, vi (l2 + 1), vu] [] σ1)) ∧ (l2 = ((40 : Int) * l1) → (ir ((42 : Int) * l1) ∧ (ir (((42 : Int) * l1) + 41) ∧ (∃ σ11 : SS, Rn (d + 2) 24 [vr 62 0, vi (42 * l1 + l2 - 40 * l1), vi (((42 : Int) * l1) + 41)] σ1 vu σ11 ∧ (ir (l2 + 1) ∧ G (d + 2) P 61 24 [vr 62 0, vi l1, vi (l2 + 1), vu] [] σ11)))))))) ∧ (((σ1 67 0 l2) = (((((1 + 1) + 1) + 1) + 1) + 1) → (ir ((40 : Int) * l1) ∧ ((l2 ≠ ((40 : Int) * l1) → (ir (l2 + 1) ∧ G (d + 2) P 61 24 [vr 62 0, vi l1, vi (l2 + 1), vu] [] σ1)) ∧ (l2 = ((40 : Int) * l1) → (ir ((42 : Int) * l1) ∧ (ir (((42 : Int) * l1) + 41) ∧ (∃ σ12 : SS, Rn (d + 2) 24 [vr 62 0, vi (42 * l1 + l2 - 40 * l1), vi (((42 : Int) * l1) + 41)] σ1 vu σ12 ∧ (ir (l2 + 1) ∧ G (d + 2) P 61 24 [vr 62 0, vi l1, vi (l2 + 1), vu] [] σ12)))))))) ∧ (((σ1 67 0 l2) = ((((((1 + 1) + 1) + 1) + 1) + 1) + 1) → ((0 ≤ l2 ∧ l2 < 120) ∧ ((ir (42 * l1) ∧ ir (42 * l1 + (σ1 69 0 l2)) ∧ ir (40 * l1) ∧ ir (42 * l1 + (σ1 69 0 l2) - 40 * l1)) ∧ (∃ σ13 : SS, Rn (d + 2) 24 [vr 62 0, vi (42 * l1 + l2 - 40 * l1), vi (42 * l1 + (σ1 69 0 l2) - 40 * l1)] σ1 vu σ13 ∧ ((0 ≤ l2 ∧ l2 < 120) ∧ ((ir (42 * l1) ∧ ir (42 * l1 + (σ13 70 0 l2)) ∧ ir (40 * l1) ∧ ir (42 * l1 + (σ13 70 0 l2) - 40 * l1)) ∧ (∃ σ14 : SS, Rn (d + 2) 24 [vr 62 0, vi (42 * l1 + l2 - 40 * l1), vi (42 * l1 + (σ13 70 0 l2) - 40 * l1)] σ13 vu σ14 ∧ (ir ((40 : Int) * l1) ∧ ((l2 ≠ ((40 : Int) * l1) → (ir (l2 + 1) ∧ G (d + 2) P 61 24 [vr 62 0, vi l1, vi (l2 + 1), vu] [] σ14)) ∧ (l2 = ((40 : Int) * l1) → (ir ((42 : Int) * l1) ∧ (ir (((42 : Int) * l1) + 41) ∧ (∃ σ15 : SS, Rn (d + 2) 24 [vr 62 0, vi (42 * l1 + l2 - 40 * l1), vi (((42 : Int) * l1) + 41)] σ14 vu σ15 ∧ (ir (l2 + 1) ∧ G (d + 2) P 61 24 [vr 62 0, vi l1, vi (l2 + 1), vu] [] σ15)))))))))))))) ∧ (((σ1 67 0 l2) = (((((((1 + 1) + 1) + 1) + 1) + 1) + 1) + 1) → ((0 ≤ l2 ∧ l2 < 120) ∧ ((ir (42 * l1) ∧ ir (42 * l1 + (σ1 69 0 l2)) ∧ ir (40 * l1) ∧ ir (42 * l1 + (σ1 69 0 l2) - 40 * l1)) ∧ (∃ σ16 : SS, Rn (d + 2) 24 [vr 62 0, vi (42 * l1 + l2 - 40 * l1), vi (42 * l1 + (σ1 69 0 l2) - 40 * l1)] σ1 vu σ16 ∧ (ir ((40 : Int) * l1) ∧ ((l2 ≠ ((40 : Int) * l1) → (ir (l2 + 1) ∧ G (d + 2) P 61 24 [vr 62 0, vi l1, vi (l2 + 1), vu] [] σ16)) ∧ (l2 = ((40 : Int) * l1) → (ir ((42 : Int) * l1) ∧ (ir (((42 : Int) * l1) + 41) ∧ (∃ σ17 : SS, Rn (d + 2) 24 [vr 62 0, vi (42 * l1 + l2 - 40 * l1), vi (((42 : Int) * l1) + 41)] σ16 vu σ17 ∧ (ir (l2 + 1) ∧ G (d + 2) P 61 24 [vr 62 0, vi l1, vi (l2 + 1), vu] [] σ17))))))))))) ∧ (((σ1 67 0 l2) = ((((((((1 + 1) + 1) + 1) + 1) + 1) + 1) + 1) + 1) → ((ir (l2 + 1) ∧ (0 ≤ l2 + 1 ∧ l2 + 1 < 120) ∧ ir (σ1 66 0 (l2 + 1) - 48)) ∧ ((0 ≤ (σ1 66 0 (l2 + 1) - 48) ∧ (σ1 66 0 (l2 + 1) - 48) < 3) ∧ (((σ1 73 0 (σ1 66 0 (l2 + 1) - 48)) = 0 → (ir ((40 : Int) * l1) ∧ ((l2 ≠ ((40 : Int) * l1) → (ir (l2 + 1) ∧ G (d + 2) P 61 24 [vr 62 0, vi l1, vi (l2 + 1), vu] [] σ1)) ∧ (l2 = ((40 : Int) * l1) → (ir ((42 : Int) * l1) ∧ (ir (((42 : Int) * l1) + 41) ∧ (∃ σ18 : SS, Rn (d + 2) 24 [vr 62 0, vi (42 * l1 + l2 - 40 * l1), vi (((42 : Int) * l1) + 41)] σ1 vu σ18 ∧ (ir (l2 + 1) ∧ G (d + 2) P 61 24 [vr 62 0, vi l1, vi (l2 + 1), vu] [] σ18)))))))) ∧ ((σ1 73 0 (σ1 66 0 (l2 + 1) - 48)) ≠ 0 → ((0 ≤ l2 ∧ l2 < 120) ∧ ((ir (42 * l1) ∧ ir (42 * l1 + (σ1 68 0 l2)) ∧ ir (40 * l1) ∧ ir (42 * l1 + (σ1 68 0 l2) - 40 * l1)) ∧ (∃ σ19 : SS, Rn (d + 2) 24 [vr 62 0, vi (42 * l1 + l2 - 40 * l1), vi (42 * l1 + (σ1 68 0 l2) - 40 * l1)] σ1 vu σ19 ∧ (ir ((40 : Int) * l1) ∧ ((l2 ≠ ((40 : Int) * l1) → (ir (l2 + 1) ∧ G (d + 2) P 61 24 [vr 62 0, vi l1, vi (l2 + 1), vu] [] σ19)) ∧ (l2 = ((40 : Int) * l1) → (ir ((42 : Int) * l1) ∧ (ir (((42 : Int) * l1) + 41) ∧ (∃ σ20 : SS, Rn (d + 2) 24 [vr 62 0, vi (42 * l1 + l2 - 40 * l1), vi (((42 : Int) * l1) + 41)] σ19 vu σ20 ∧ (ir (l2 + 1) ∧ G (d + 2) P 61 24 [vr 62 0, vi l1, vi (l2 + 1), vu] [] σ20))))))))))))))) ∧ True)))))))))))))))))))))))) : G (d + 2) P 61 24 [vr 62 0, vi l1, vi l2, vu] [] σ := blk (S := S1) (c := cd_61) (bz := false) [(2, [true, true, true, false]), (24, [true, true, true, false])] 600 (S1_ok (d + 1)) rfl rfl rfl h
-- RegionStackModel.layRegions at 0, 2 leaves
set_option maxRecDepth 100000 in
set_option maxHeartbeats 4000000 in
theorem b_62_0 {d : Nat} {P : AV → SS → Prop} {σ : SS} (h : (∃ (x2 : Int) (σ1 : SS), Rn (d + 5) 59 [vr 62 0] σ (vi x2) σ1 ∧ ((x2 ≠ 0 → G (d + 5) P 62 7 [vr 62 0, vi 0, vu, vu] [] σ1) ∧ (x2 = 0 → (((0 : Int) = 0 ∨ (0 : Int) = 1) ∧ P (vi (0 : Int)) σ1))))) : G (d + 5) P 62 0 [vr 62 0, vu, vu, vu] [] σ := blk (S := noS) (c := cd_62) (bz := true) [(7, [true, true, false, false]), (19, [true, true, false, false]), (25, [true, true, true, false]), (35, [true, true, true, false]), (91, [true, false, true, false])] 600 (SV_no _) rfl rfl rfl h
-- RegionStackModel.layRegions at 7, 2 leaves
set_option maxRecDepth 100000 in
set_option maxHeartbeats 4000000 in
theorem b_62_7 {d : Nat} {P : AV → SS → Prop} {σ : SS} {l1 : Int} (h : (((3 : Int) ≤ l1 → G (d + 5) P 62 19 [vr 62 0, vi 1, vu, vu] [] σ) ∧ (l1 < (3 : Int) → (((0 ≤ l1 ∧ l1 < 3) ∧ ((0 : Int) = 0 ∨ (0 : Int) = 1)) ∧ (∀ σ1 : SS, σ1 = up σ 73 0 l1 (0 : Int) → (ir (l1 + 1) ∧ G (d + 5) P 62 7 [vr 62 0, vi (l1 + 1), vu, vu] [] σ1)))))) : G (d + 5) P 62 7 [vr 62 0, vi l1, vu, vu] [] σ := blk (S := noS) (c := cd_62) (bz := true) [(7, [true, true, false, false]), (19, [true, true, false, false]), (25, [true, true, true, false]), (35, [true, true, true, false]), (91, [true, false, true, false])] 600 (SV_no _) rfl rfl rfl h
-- RegionStackModel.layRegions at 19, 2 leaves
set_option maxRecDepth 100000 in
set_option maxHeartbeats 4000000 in
theorem b_62_19 {d : Nat} {P : AV → SS → Prop} {σ : SS} {l1 : Int} (h : ((l1 = 0 → G (d + 5) P 62 91 [vr 62 0, vu, vi 0, vu] [] σ) ∧ (l1 ≠ 0 → G (d + 5) P 62 25 [vr 62 0, vi 0, vi 0, vu] [] σ))) : G (d + 5) P 62 19 [vr 62 0, vi l1, vu, vu] [] σ := blk (S := noS) (c := cd_62) (bz := true) [(7, [true, true, false, false]), (19, [true, true, false, false]), (25, [true, true, true, false]), (35, [true, true, true, false]), (91, [true, false, true, false])] 600 (SV_no _) rfl rfl rfl h
-- RegionStackModel.layRegions at 91, 2 leaves
set_option maxRecDepth 100000 in
set_option maxHeartbeats 4000000 in
theorem b_62_91 {d : Nat} {P : AV → SS → Prop} {σ : SS} {l2 : Int} (h : (((3 : Int) ≤ l2 → (∃ σ1 : SS, Rn (d + 5) 67 [vr 62 0] σ vu σ1 ∧ (((1 : Int) = 0 ∨ (1 : Int) = 1) ∧ P (vi (1 : Int)) σ1))) ∧ (l2 < (3 : Int) → (∃ σ2 : SS, Rn (d + 5) 63 [vr 62 0, vi l2] σ vu σ2 ∧ (∃ σ3 : SS, Rn (d + 5) 65 [vr 62 0, vi l2] σ2 vu σ3 ∧ (ir (l2 + 1) ∧ G (d + 5) P 62 91 [vr 62 0, vu, vi (l2 + 1), vu] [] σ3)))))) : G (d + 5) P 62 91 [vr 62 0, vu, vi l2, vu] [] σ := blk (S := noS) (c := cd_62) (bz := true) [(7, [true, true, false, false]), (19, [true, true, false, false]), (25, [true, true, true, false]), (35, [true, true, true, false]), (91, [true, false, true, false])] 600 (SV_no _) rfl rfl rfl h
-- RegionStackModel.layRegions at 25, 2 leaves
set_option maxRecDepth 100000 in
set_option maxHeartbeats 4000000 in
theorem b_62_25 {d : Nat} {P : AV → SS → Prop} {σ : SS} {l1 l2 : Int} (h : (((3 : Int) ≤ l2 → G (d + 5) P 62 35 [vr 62 0, vi l1, vi 0, vu] [] σ) ∧ (l2 < (3 : Int) → (∃ σ1 : SS, Rn (d + 5) 61 [vr 62 0, vi l2] σ vu σ1 ∧ (ir (l2 + 1) ∧ G (d + 5) P 62 25 [vr 62 0, vi l1, vi (l2 + 1), vu] [] σ1))))) : G (d + 5) P 62 25 [vr 62 0, vi l1, vi l2, vu] [] σ := blk (S := noS) (c := cd_62) (bz := true) [(7, [true, true, false, false]), (19, [true, true, false, false]), (25, [true, true, true, false]), (35, [true, true, true, false]), (91, [true, false, true, false])] 600 (SV_no _) rfl rfl rfl h
-- RegionStackModel.layRegions at 35, 13 leaves
set_option maxRecDepth 100000 in
set_option maxHeartbeats 4000000 in
theorem b_62_35 {d : Nat} {P : AV → SS → Prop} {σ : SS} {l1 l2 : Int} (h : (((3 : Int) ≤ l2 → G (d + 5) P 62 19 [vr 62 0, vi l1, vu, vu] [] σ) ∧ (l2 < (3 : Int) → ((0 ≤ l2 ∧ l2 < 3) ∧ (((σ 63 0 l2) ≠ (1 : Int) → ((l1 ≠ 0 → (((0 ≤ l2 ∧ l2 < 3) ∧ ((0 : Int) = 0 ∨ (0 : Int) = 1)) ∧ (∀ σ1 : SS, σ1 = up σ 73 0 l2 (0 : Int) → (ir (l2 + 1) ∧ G (d + 5) P 62 35 [vr 62 0, vi 1, vi (l2 + 1), vu] [] σ1)))) ∧ (l1 = 0 → ((0 ≤ l2 ∧ l2 < 3) ∧ (((0 : Int) = (σ 73 0 l2) → (((0 ≤ l2 ∧ l2 < 3) ∧ ((0 : Int) = 0 ∨ (0 : Int) = 1)) ∧ (∀ σ2 : SS, σ2 = up σ 73 0 l2 (0 : Int) → (ir (l2 + 1) ∧ G (d + 5) P 62 35 [vr 62 0, vi 0, vi (l2 + 1), vu] [] σ2)))) ∧ ((0 : Int) ≠ (σ 73 0 l2) → (((0 ≤ l2 ∧ l2 < 3) ∧ ((0 : Int) = 0 ∨ (0 : Int) = 1)) ∧ (∀ σ3 : SS, σ3 = up σ 73 0 l2 (0 : Int) → (ir (l2 + 1) ∧ G (d + 5) P 62 35 [vr 62 0, vi 1, vi (l2 + 1), vu] [] σ3))))))))) ∧ ((σ 63 0 l2) = (1 : Int) → ((0 ≤ l2 ∧ l2 < 3) ∧ (((σ 64 0 l2) ≠ (1 : Int) → ((l1 ≠ 0 → (((0 ≤ l2 ∧ l2 < 3) ∧ ((0 : Int) = 0 ∨ (0 : Int) = 1)) ∧ (∀ σ4 : SS, σ4 = up σ 73 0 l2 (0 : Int) → (ir (l2 + 1) ∧ G (d + 5) P 62 35 [vr 62 0, vi 1, vi (l2 + 1), vu] [] σ4)))) ∧ (l1 = 0 → ((0 ≤ l2 ∧ l2 < 3) ∧ (((0 : Int) = (σ 73 0 l2) → (((0 ≤ l2 ∧ l2 < 3) ∧ ((0 : Int) = 0 ∨ (0 : Int) = 1)) ∧ (∀ σ5 : SS, σ5 = up σ 73 0 l2 (0 : Int) → (ir (l2 + 1) ∧ G (d + 5) P 62 35 [vr 62 0, vi 0, vi (l2 + 1), vu] [] σ5)))) ∧ ((0 : Int) ≠ (σ 73 0 l2) → (((0 ≤ l2 ∧ l2 < 3) ∧ ((0 : Int) = 0 ∨ (0 : Int) = 1)) ∧ (∀ σ6 : SS, σ6 = up σ 73 0 l2 (0 : Int) → (ir (l2 + 1) ∧ G (d + 5) P 62 35 [vr 62 0, vi 1, vi (l2 + 1), vu] [] σ6))))))))) ∧ ((σ 64 0 l2) = (1 : Int) → (ir ((42 : Int) * l2) ∧ (ir (((42 : Int) * l2) + 40) ∧ (∃ (x8 : Int) (σ7 : SS), Rn (d + 5) 23 [vr 62 0, vi (((42 : Int) * l2) + 40)] σ (vi x8) σ7 ∧ (ir ((42 : Int) * l2) ∧ (ir (((42 : Int) * l2) + 41) ∧ (∃ (x10 : Int) (σ9 : SS), Rn (d + 5) 23 [vr 62 0, vi (((42 : Int) * l2) + 41)] σ7 (vi x10) σ9 ∧ ((x8 ≠ x10 → ((l1 ≠ 0 → (((0 ≤ l2 ∧ l2 < 3) ∧ ((0 : Int) = 0 ∨ (0 : Int) = 1)) ∧ (∀ σ11 : SS, σ11 = up σ9 73 0 l2 (0 : Int) → (ir (l2 + 1) ∧ G (d + 5) P 62 35 [vr 62 0, vi 1, vi (l2 + 1), vu] [] σ11)))) ∧ (l1 = 0 → ((0 ≤ l2 ∧ l2 < 3) ∧ (((0 : Int) = (σ9 73 0 l2) → (((0 ≤ l2 ∧ l2 < 3) ∧ ((0 : Int) = 0 ∨ (0 : Int) = 1)) ∧ (∀ σ12 : SS, σ12 = up σ9 73 0 l2 (0 : Int) → (ir (l2 + 1) ∧ G (d + 5) P 62 35 [vr 62 0, vi 0, vi (l2 + 1), vu] [] σ12)))) ∧ ((0 : Int) ≠ (σ9 73 0 l2) → (((0 ≤ l2 ∧ l2 < 3) ∧ ((0 : Int) = 0 ∨ (0 : Int) = 1)) ∧ (∀ σ13 : SS, σ13 = up σ9 73 0 l2 (0 : Int) → (ir (l2 + 1) ∧ G (d + 5) P 62 35 [vr 62 0, vi 1, vi (l2 + 1), vu] [] σ13))))))))) ∧ (x8 = x10 → ((l1 ≠ 0 → (((0 ≤ l2 ∧ l2 < 3) ∧ ((1 : Int) = 0 ∨ (1 : Int) = 1)) ∧ (∀ σ14 : SS, σ14 = up σ9 73 0 l2 (1 : Int) → (ir (l2 + 1) ∧ G (d + 5) P 62 35 [vr 62 0, vi 1, vi (l2 + 1), vu] [] σ14)))) ∧ (l1 = 0 → ((0 ≤ l2 ∧ l2 < 3) ∧ (((1 : Int) = (σ9 73 0 l2) → (((0 ≤ l2 ∧ l2 < 3) ∧ ((1 : Int) = 0 ∨ (1 : Int) = 1)) ∧ (∀ σ15 : SS, σ15 = up σ9 73 0 l2 (1 : Int) → (ir (l2 + 1) ∧ G (d + 5) P 62 35 [vr 62 0, vi 0, vi (l2 + 1), vu] [] σ15)))) ∧ ((1 : Int) ≠ (σ9 73 0 l2) → (((0 ≤ l2 ∧ l2 < 3) ∧ ((1 : Int) = 0 ∨ (1 : Int) = 1)) ∧ (∀ σ16 : SS, σ16 = up σ9 73 0 l2 (1 : Int) → (ir (l2 + 1) ∧ G (d + 5) P 62 35 [vr 62 0, vi 1, vi (l2 + 1), vu] [] σ16))))))))))))))))))))))))) : G (d + 5) P 62 35 [vr 62 0, vi l1, vi l2, vu] [] σ := blk (S := noS) (c := cd_62) (bz := true) [(7, [true, true, false, false]), (19, [true, true, false, false]), (25, [true, true, true, false]), (35, [true, true, true, false]), (91, [true, false, true, false])] 600 (SV_no _) rfl rfl rfl h
-- RegionStackModel.numberAll at 0, 1 leaves
set_option maxRecDepth 100000 in
set_option maxHeartbeats 4000000 in
theorem b_63_0 {d : Nat} {P : AV → SS → Prop} {σ : SS} {l1 : Int} (h : G (d + 2) P 63 4 [vr 62 0, vi l1, vi 2, vi 0, vu, vu, vu] [] σ) : G (d + 2) P 63 0 [vr 62 0, vi l1, vu, vu, vu, vu, vu] [] σ := blk (S := noS) (c := cd_63) (bz := false) [(4, [true, true, true, true, false, false, false]), (81, [true, true, true, true, true, true, true])] 600 (SV_no _) rfl rfl rfl h
-- RegionStackModel.numberAll at 4, 9 leaves
set_option maxRecDepth 100000 in
set_option maxHeartbeats 4000000 in
theorem b_63_4 {d : Nat} {P : AV → SS → Prop} {σ : SS} {l1 l2 l3 : Int} (h : (((40 : Int) ≤ l3 → (ir (l2 - 2) ∧ ((0 ≤ l1 ∧ l1 < 3) ∧ (∀ σ1 : SS, σ1 = up σ 76 0 l1 (l2 - 2) → P vu σ1)))) ∧ (l3 < (40 : Int) → (ir ((40 : Int) * l1) ∧ (ir (((40 : Int) * l1) + l3) ∧ ((0 ≤ (((40 : Int) * l1) + l3) ∧ (((40 : Int) * l1) + l3) < 120) ∧ (∀ σ2 : SS, σ2 = up σ 74 0 (((40 : Int) * l1) + l3) ((-6) : Int) → ((0 ≤ l1 ∧ l1 < 3) ∧ (((σ2 65 0 l1) ≤ l3 → (ir (l3 + 1) ∧ G (d + 2) P 63 4 [vr 62 0, vi l1, vi l2, vi (l3 + 1), vu, vu, vu] [] σ2)) ∧ (l3 < (σ2 65 0 l1) → ((0 ≤ (((40 : Int) * l1) + l3) ∧ (((40 : Int) * l1) + l3) < 120) ∧ (((σ2 67 0 (((40 : Int) * l1) + l3)) < 0 → (ir (l3 + 1) ∧ G (d + 2) P 63 4 [vr 62 0, vi l1, vi l2, vi (l3 + 1), vu, vu, vu] [] σ2)) ∧ (0 ≤ (σ2 67 0 (((40 : Int) * l1) + l3)) → (∃ (x4 : Int) (σ3 : SS), Rn (d + 2) 54 [vr 62 0, vi l1, vi (((40 : Int) * l1) + l3)] σ2 (vi x4) σ3 ∧ ((x4 ≠ (1 : Int) → (ir (l3 + 1) ∧ G (d + 2) P 63 4 [vr 62 0, vi l1, vi l2, vi (l3 + 1), vu, vu, vu] [] σ3)) ∧ (x4 = (1 : Int) → (ir ((42 : Int) * l1) ∧ (ir (((42 : Int) * l1) + l3) ∧ (∃ (x6 : Int) (σ5 : SS), Rn (d + 2) 23 [vr 62 0, vi (((42 : Int) * l1) + l3)] σ3 (vi x6) σ5 ∧ ((0 ≤ l1 ∧ l1 < 3) ∧ (((σ5 63 0 l1) ≠ (1 : Int) → (ir ((42 : Int) * l1) ∧ (ir (((42 : Int) * l1) + 41) ∧ (∃ (x8 : Int) (σ7 : SS), Rn (d + 2) 23 [vr 62 0, vi (((42 : Int) * l1) + 41)] σ5 (vi x8) σ7 ∧ ((x6 ≠ x8 → G (d + 2) P 63 81 [vr 62 0, vi l1, vi l2, vi l3, vi (((40 : Int) * l1) + l3), vi x6, vi 0] [] σ7) ∧ (x6 = x8 → ((0 ≤ (((40 : Int) * l1) + l3) ∧ (((40 : Int) * l1) + l3) < 120) ∧ (∀ σ9 : SS, σ9 = up σ7 74 0 (((40 : Int) * l1) + l3) (1 : Int) → (ir (l3 + 1) ∧ G (d + 2) P 63 4 [vr 62 0, vi l1, vi l2, vi (l3 + 1), vu, vu, vu] [] σ9))))))))) ∧ ((σ5 63 0 l1) = (1 : Int) → (ir ((42 : Int) * l1) ∧ (ir (((42 : Int) * l1) + 40) ∧ (∃ (x11 : Int) (σ10 : SS), Rn (d + 2) 23 [vr 62 0, vi (((42 : Int) * l1) + 40)] σ5 (vi x11) σ10 ∧ ((x6 ≠ x11 → (ir ((42 : Int) * l1) ∧ (ir (((42 : Int) * l1) + 41) ∧ (∃ (x13 : Int) (σ12 : SS), Rn (d + 2) 23 [vr 62 0, vi (((42 : Int) * l1) + 41)] σ10 (vi x13) σ12 ∧ ((x6 ≠ x13 → G (d + 2) P 63 81 [vr 62 0, vi l1, vi l2, vi l3, vi (((40 : Int) * l1) + l3), vi x6, vi 0] [] σ12) ∧ (x6 = x13 → ((0 ≤ (((40 : Int) * l1) + l3) ∧ (((40 : Int) * l1) + l3) < 120) ∧ (∀ σ14 : SS, σ14 = up σ12 74 0 (((40 : Int) * l1) + l3) (1 : Int) → (ir (l3 + 1) ∧ G (d + 2) P 63 4 [vr 62 0, vi l1, vi l2, vi (l3 + 1), vu, vu, vu] [] σ14))))))))) ∧ (x6 = x11 → ((0 ≤ (((40 : Int) * l1) + l3) ∧ (((40 : Int) * l1) + l3) < 120) ∧ (∀ σ15 : SS, σ15 = up σ10 74 0 (((40 : Int) * l1) + l3) (0 : Int) → (ir (l3 + 1) ∧ G (d + 2) P 63 4 [vr 62 0, vi l1, vi l2, vi (l3 + 1), vu, vu, vu] [] σ15)))))))))))))))))))))))))))))) : G (d + 2) P 63 4 [vr 62 0, vi l1, vi l2, vi l3, vu, vu, vu] [] σ := blk (S := noS) (c := cd_63) (bz := false) [(4, [true, true, true, true, false, false, false]), (81, [true, true, true, true, true, true, true])] 600 (SV_no _) rfl rfl rfl h
-- RegionStackModel.numberAll at 81, 7 leaves
set_option maxRecDepth 100000 in
set_option maxHeartbeats 4000000 in
theorem b_63_81 {d : Nat} {P : AV → SS → Prop} {σ : SS} {l1 l2 l3 l4 l5 l6 : Int} (h : ((l3 ≤ l6 → ((0 ≤ l4 ∧ l4 < 120) ∧ ((0 ≤ (σ 74 0 l4) → (ir (l2 + 0) ∧ ((0 ≤ l4 ∧ l4 < 120) ∧ ((0 ≤ (σ 74 0 l4) → ((0 ≤ l4 ∧ l4 < 120) ∧ ((0 ≤ l4 ∧ l4 < 120) ∧ (∀ σ1 : SS, σ1 = up σ 74 0 l4 (σ 74 0 l4) → (ir (l3 + 1) ∧ G (d + 2) P 63 4 [vr 62 0, vi l1, vi (l2 + 0), vi (l3 + 1), vu, vu, vu] [] σ1))))) ∧ ((σ 74 0 l4) < 0 → (ir ((l2 + 0) - 1) ∧ ((0 ≤ l4 ∧ l4 < 120) ∧ (∀ σ2 : SS, σ2 = up σ 74 0 l4 ((l2 + 0) - 1) → (ir (l3 + 1) ∧ G (d + 2) P 63 4 [vr 62 0, vi l1, vi (l2 + 0), vi (l3 + 1), vu, vu, vu] [] σ2))))))))) ∧ ((σ 74 0 l4) < 0 → (ir (l2 + 1) ∧ ((0 ≤ l4 ∧ l4 < 120) ∧ ((0 ≤ (σ 74 0 l4) → ((0 ≤ l4 ∧ l4 < 120) ∧ ((0 ≤ l4 ∧ l4 < 120) ∧ (∀ σ3 : SS, σ3 = up σ 74 0 l4 (σ 74 0 l4) → (ir (l3 + 1) ∧ G (d + 2) P 63 4 [vr 62 0, vi l1, vi (l2 + 1), vi (l3 + 1), vu, vu, vu] [] σ3))))) ∧ ((σ 74 0 l4) < 0 → (ir ((l2 + 1) - 1) ∧ ((0 ≤ l4 ∧ l4 < 120) ∧ (∀ σ4 : SS, σ4 = up σ 74 0 l4 ((l2 + 1) - 1) → (ir (l3 + 1) ∧ G (d + 2) P 63 4 [vr 62 0, vi l1, vi (l2 + 1), vi (l3 + 1), vu, vu, vu] [] σ4)))))))))))) ∧ (l6 < l3 → (ir ((40 : Int) * l1) ∧ (ir (((40 : Int) * l1) + l6) ∧ ((0 ≤ (((40 : Int) * l1) + l6) ∧ (((40 : Int) * l1) + l6) < 120) ∧ (((σ 74 0 (((40 : Int) * l1) + l6)) ≤ (1 : Int) → ((0 ≤ l4 ∧ l4 < 120) ∧ ((0 ≤ l4 ∧ l4 < 120) ∧ (∀ σ5 : SS, σ5 = up σ 74 0 l4 (σ 74 0 l4) → (ir (l6 + 1) ∧ G (d + 2) P 63 81 [vr 62 0, vi l1, vi l2, vi l3, vi l4, vi l5, vi (l6 + 1)] [] σ5))))) ∧ ((1 : Int) < (σ 74 0 (((40 : Int) * l1) + l6)) → (ir ((42 : Int) * l1) ∧ (ir (((42 : Int) * l1) + l6) ∧ (∃ (x7 : Int) (σ6 : SS), Rn (d + 2) 23 [vr 62 0, vi (((42 : Int) * l1) + l6)] σ (vi x7) σ6 ∧ ((x7 ≠ l5 → ((0 ≤ l4 ∧ l4 < 120) ∧ ((0 ≤ l4 ∧ l4 < 120) ∧ (∀ σ8 : SS, σ8 = up σ6 74 0 l4 (σ6 74 0 l4) → (ir (l6 + 1) ∧ G (d + 2) P 63 81 [vr 62 0, vi l1, vi l2, vi l3, vi l4, vi l5, vi (l6 + 1)] [] σ8))))) ∧ (x7 = l5 → (ir ((40 : Int) * l1) ∧ (ir (((40 : Int) * l1) + l6) ∧ ((0 ≤ (((40 : Int) * l1) + l6) ∧ (((40 : Int) * l1) + l6) < 120) ∧ ((0 ≤ l4 ∧ l4 < 120) ∧ (∀ σ9 : SS, σ9 = up σ6 74 0 l4 (σ6 74 0 (((40 : Int) * l1) + l6)) → (ir (l6 + 1) ∧ G (d + 2) P 63 81 [vr 62 0, vi l1, vi l2, vi l3, vi l4, vi l5, vi (l6 + 1)] [] σ9))))))))))))))))))) : G (d + 2) P 63 81 [vr 62 0, vi l1, vi l2, vi l3, vi l4, vi l5, vi l6] [] σ := blk (S := noS) (c := cd_63) (bz := false) [(4, [true, true, true, true, false, false, false]), (81, [true, true, true, true, true, true, true])] 600 (SV_no _) rfl rfl rfl h
-- RegionStackModel.touchesOne at 0, 15 leaves
set_option maxRecDepth 100000 in
set_option maxHeartbeats 4000000 in
theorem b_64_0 {d : Nat} {P : AV → SS → Prop} {σ : SS} {l1 l2 : Int} (h : ((0 ≤ l1 ∧ l1 < 120) ∧ (((σ 67 0 l1) = (4 : Int) → ((0 ≤ l1 ∧ l1 < 120) ∧ (((σ 67 0 l1) < 0 → (((0 : Int) = 0 ∨ (0 : Int) = 1) ∧ P (vi (0 : Int)) σ)) ∧ (0 ≤ (σ 67 0 l1) → ((0 ≤ l1 ∧ l1 < 120) ∧ (((σ 74 0 l1) = l2 → (((1 : Int) = 0 ∨ (1 : Int) = 1) ∧ P (vi (1 : Int)) σ)) ∧ ((σ 74 0 l1) ≠ l2 → (((1 : Int) = 0 → (((0 : Int) = 0 ∨ (0 : Int) = 1) ∧ P (vi (0 : Int)) σ)) ∧ ((1 : Int) ≠ 0 → ((0 ≤ l1 ∧ l1 < 120) ∧ ((0 ≤ (σ 68 0 l1) ∧ (σ 68 0 l1) < 120) ∧ (((σ 74 0 (σ 68 0 l1)) ≠ l2 → (((0 : Int) = 0 ∨ (0 : Int) = 1) ∧ P (vi (0 : Int)) σ)) ∧ ((σ 74 0 (σ 68 0 l1)) = l2 → (((1 : Int) = 0 ∨ (1 : Int) = 1) ∧ P (vi (1 : Int)) σ)))))))))))))) ∧ ((σ 67 0 l1) ≠ (4 : Int) → ((0 ≤ l1 ∧ l1 < 120) ∧ (((σ 67 0 l1) ≠ (9 : Int) → ((0 ≤ l1 ∧ l1 < 120) ∧ (((σ 67 0 l1) < 0 → (((0 : Int) = 0 ∨ (0 : Int) = 1) ∧ P (vi (0 : Int)) σ)) ∧ (0 ≤ (σ 67 0 l1) → ((0 ≤ l1 ∧ l1 < 120) ∧ (((σ 74 0 l1) = l2 → (((1 : Int) = 0 ∨ (1 : Int) = 1) ∧ P (vi (1 : Int)) σ)) ∧ ((σ 74 0 l1) ≠ l2 → (((0 : Int) = 0 → (((0 : Int) = 0 ∨ (0 : Int) = 1) ∧ P (vi (0 : Int)) σ)) ∧ ((0 : Int) ≠ 0 → ((0 ≤ l1 ∧ l1 < 120) ∧ ((0 ≤ (σ 68 0 l1) ∧ (σ 68 0 l1) < 120) ∧ (((σ 74 0 (σ 68 0 l1)) ≠ l2 → (((0 : Int) = 0 ∨ (0 : Int) = 1) ∧ P (vi (0 : Int)) σ)) ∧ ((σ 74 0 (σ 68 0 l1)) = l2 → (((1 : Int) = 0 ∨ (1 : Int) = 1) ∧ P (vi (1 : Int)) σ)))))))))))))) ∧ ((σ 67 0 l1) = (9 : Int) → ((0 ≤ l1 ∧ l1 < 120) ∧ (((σ 67 0 l1) < 0 → (((0 : Int) = 0 ∨ (0 : Int) = 1) ∧ P (vi (0 : Int)) σ)) ∧ (0 ≤ (σ 67 0 l1) → ((0 ≤ l1 ∧ l1 < 120) ∧ (((σ 74 0 l1) = l2 → (((1 : Int) = 0 ∨ (1 : Int) = 1) ∧ P (vi (1 : Int)) σ)) ∧ ((σ 74 0 l1) ≠ l2 → (((1 : Int) = 0 → (((0 : Int) = 0 ∨ (0 : Int) = 1) ∧ P (vi (0 : Int)) σ)) ∧ ((1 : Int) ≠ 0 → ((0 ≤ l1 ∧ l1 < 120) ∧ ((0 ≤ (σ 68 0 l1) ∧ (σ 68 0 l1) < 120) ∧ (((σ 74 0 (σ 68 0 l1)) ≠ l2 → (((0 : Int) = 0 ∨ (0 : Int) = 1) ∧ P (vi (0 : Int)) σ)) ∧ ((σ 74 0 (σ 68 0 l1)) = l2 → (((1 : Int) = 0 ∨ (1 : Int) = 1) ∧ P (vi (1 : Int)) σ)))))))))))))))))))) : G (d + 0) P 64 0 [vr 62 0, vi l1, vi l2, vu] [] σ := blk (S := noS) (c := cd_64) (bz := true) [] 600 (SV_no _) rfl rfl rfl h
-- RegionStackModel.layHomes at 0, 1 leaves
set_option maxRecDepth 100000 in
set_option maxHeartbeats 4000000 in
theorem b_65_0 {d : Nat} {P : AV → SS → Prop} {σ : SS} {l1 : Int} (h : G (d + 1) P 65 2 [vr 62 0, vi l1, vi 2, vu, vu, vu] [] σ) : G (d + 1) P 65 0 [vr 62 0, vi l1, vu, vu, vu, vu] [] σ := blk (S := noS) (c := cd_65) (bz := false) [(2, [true, true, true, false, false, false]), (18, [true, true, true, true, true, true]), (47, [true, true, true, true, true, true])] 600 (SV_no _) rfl rfl rfl h
-- RegionStackModel.layHomes at 2, 2 leaves
set_option maxRecDepth 100000 in
set_option maxHeartbeats 4000000 in
theorem b_65_2 {d : Nat} {P : AV → SS → Prop} {σ : SS} {l1 l2 : Int} (h : ((0 ≤ l1 ∧ l1 < 3) ∧ (ir ((2 : Int) + (σ 76 0 l1)) ∧ ((((2 : Int) + (σ 76 0 l1)) ≤ l2 → P vu σ) ∧ (l2 < ((2 : Int) + (σ 76 0 l1)) → (ir ((40 : Int) * l1) ∧ G (d + 1) P 65 18 [vr 62 0, vi l1, vi l2, vi (-6), vi (-6), vi ((40 : Int) * l1)] [] σ)))))) : G (d + 1) P 65 2 [vr 62 0, vi l1, vi l2, vu, vu, vu] [] σ := blk (S := noS) (c := cd_65) (bz := false) [(2, [true, true, true, false, false, false]), (18, [true, true, true, true, true, true]), (47, [true, true, true, true, true, true])] 600 (SV_no _) rfl rfl rfl h
-- RegionStackModel.layHomes at 18, 4 leaves
set_option maxRecDepth 100000 in
set_option maxHeartbeats 4000000 in
theorem b_65_18 {d : Nat} {P : AV → SS → Prop} {σ : SS} {l1 l2 l3 l4 l5 : Int} (h : (ir ((40 : Int) * l1) ∧ ((0 ≤ l1 ∧ l1 < 3) ∧ (ir (((40 : Int) * l1) + (σ 65 0 l1)) ∧ (((((40 : Int) * l1) + (σ 65 0 l1)) ≤ l5 → (ir ((40 : Int) * l1) ∧ G (d + 1) P 65 47 [vr 62 0, vi l1, vi l2, vi l3, vi l4, vi ((40 : Int) * l1)] [] σ)) ∧ (l5 < (((40 : Int) * l1) + (σ 65 0 l1)) → (∃ (x2 : Int) (σ1 : SS), Rn (d + 1) 64 [vr 62 0, vi l5, vi l2] σ (vi x2) σ1 ∧ ((x2 = 0 → (ir (l5 + 1) ∧ G (d + 1) P 65 18 [vr 62 0, vi l1, vi l2, vi l3, vi l4, vi (l5 + 1)] [] σ1)) ∧ (x2 ≠ 0 → ((0 ≤ l3 → (ir (l5 + 1) ∧ G (d + 1) P 65 18 [vr 62 0, vi l1, vi l2, vi l3, vi l5, vi (l5 + 1)] [] σ1)) ∧ (l3 < 0 → (ir (l5 + 1) ∧ G (d + 1) P 65 18 [vr 62 0, vi l1, vi l2, vi l5, vi l5, vi (l5 + 1)] [] σ1)))))))))))) : G (d + 1) P 65 18 [vr 62 0, vi l1, vi l2, vi l3, vi l4, vi l5] [] σ := blk (S := noS) (c := cd_65) (bz := false) [(2, [true, true, true, false, false, false]), (18, [true, true, true, true, true, true]), (47, [true, true, true, true, true, true])] 600 (SV_no _) rfl rfl rfl h
-- RegionStackModel.layHomes at 47, 4 leaves
set_option maxRecDepth 100000 in
set_option maxHeartbeats 4000000 in
theorem b_65_47 {d : Nat} {P : AV → SS → Prop} {σ : SS} {l1 l2 l3 l4 l5 : Int} (h : ((l3 < l5 → (ir (l2 + 1) ∧ G (d + 1) P 65 2 [vr 62 0, vi l1, vi (l2 + 1), vu, vu, vu] [] σ)) ∧ (l5 ≤ l3 → ((0 ≤ l5 ∧ l5 < 120) ∧ (((σ 67 0 l5) < 0 → (ir (l5 + 1) ∧ G (d + 1) P 65 47 [vr 62 0, vi l1, vi l2, vi l3, vi l4, vi (l5 + 1)] [] σ)) ∧ (0 ≤ (σ 67 0 l5) → ((0 ≤ l5 ∧ l5 < 120) ∧ (((σ 71 0 l5) ≤ l4 → (ir (l5 + 1) ∧ G (d + 1) P 65 47 [vr 62 0, vi l1, vi l2, vi l3, vi l4, vi (l5 + 1)] [] σ)) ∧ (l4 < (σ 71 0 l5) → (ir ((44 : Int) * l1) ∧ (ir (((44 : Int) * l1) + l2) ∧ ((0 ≤ (((44 : Int) * l1) + l2) ∧ (((44 : Int) * l1) + l2) < 132) ∧ (∀ σ1 : SS, σ1 = up σ 75 0 (((44 : Int) * l1) + l2) l5 → (ir (l5 + 1) ∧ G (d + 1) P 65 47 [vr 62 0, vi l1, vi l2, vi l3, vi l4, vi (l5 + 1)] [] σ1)))))))))))))) : G (d + 1) P 65 47 [vr 62 0, vi l1, vi l2, vi l3, vi l4, vi l5] [] σ := blk (S := noS) (c := cd_65) (bz := false) [(2, [true, true, true, false, false, false]), (18, [true, true, true, true, true, true]), (47, [true, true, true, true, true, true])] 600 (SV_no _) rfl rfl rfl h
-- RegionStackModel.does at 0, 12 leaves
set_option maxRecDepth 100000 in
set_option maxHeartbeats 4000000 in
theorem b_66_0 {d : Nat} {P : AV → SS → Prop} {σ : SS} {l1 l2 l3 : Int} (h : ((0 ≤ l1 ∧ l1 < 120) ∧ ((l3 = 0 → (((σ 67 0 l1) ≠ (3 : Int) → ((0 ≤ l1 ∧ l1 < 120) ∧ (((σ 67 0 l1) = (9 : Int) → ((ir (l1 + 1) ∧ (0 ≤ l1 + 1 ∧ l1 + 1 < 120) ∧ ir (σ 66 0 (l1 + 1) - 48)) ∧ ((0 ≤ (σ 66 0 (l1 + 1) - 48) ∧ (σ 66 0 (l1 + 1) - 48) < 3) ∧ G (d + 1) P 66 42 [vr 62 0, vi l1, vi l2, vi l3, vi (σ 77 0 (σ 66 0 (l1 + 1) - 48)), vu] [] σ))) ∧ ((σ 67 0 l1) ≠ (9 : Int) → (((0 : Int) = 0 ∨ (0 : Int) = 1) ∧ P (vi (0 : Int)) σ))))) ∧ ((σ 67 0 l1) = (3 : Int) → ((l3 = 0 → ((0 ≤ l1 ∧ l1 < 120) ∧ (((σ 74 0 l1) ≠ l2 → (((0 : Int) = 0 ∨ (0 : Int) = 1) ∧ P (vi (0 : Int)) σ)) ∧ ((σ 74 0 l1) = l2 → (((1 : Int) = 0 ∨ (1 : Int) = 1) ∧ P (vi (1 : Int)) σ))))) ∧ (l3 ≠ 0 → ((0 ≤ l1 ∧ l1 < 120) ∧ ((0 ≤ (σ 68 0 l1) ∧ (σ 68 0 l1) < 120) ∧ (((σ 74 0 (σ 68 0 l1)) ≠ l2 → (((0 : Int) = 0 ∨ (0 : Int) = 1) ∧ P (vi (0 : Int)) σ)) ∧ ((σ 74 0 (σ 68 0 l1)) = l2 → (((1 : Int) = 0 ∨ (1 : Int) = 1) ∧ P (vi (1 : Int)) σ)))))))))) ∧ (l3 ≠ 0 → (((σ 67 0 l1) ≠ (4 : Int) → ((0 ≤ l1 ∧ l1 < 120) ∧ (((σ 67 0 l1) = (9 : Int) → ((ir (l1 + 1) ∧ (0 ≤ l1 + 1 ∧ l1 + 1 < 120) ∧ ir (σ 66 0 (l1 + 1) - 48)) ∧ ((0 ≤ (σ 66 0 (l1 + 1) - 48) ∧ (σ 66 0 (l1 + 1) - 48) < 3) ∧ G (d + 1) P 66 42 [vr 62 0, vi l1, vi l2, vi l3, vi (σ 77 0 (σ 66 0 (l1 + 1) - 48)), vu] [] σ))) ∧ ((σ 67 0 l1) ≠ (9 : Int) → (((0 : Int) = 0 ∨ (0 : Int) = 1) ∧ P (vi (0 : Int)) σ))))) ∧ ((σ 67 0 l1) = (4 : Int) → ((l3 = 0 → ((0 ≤ l1 ∧ l1 < 120) ∧ (((σ 74 0 l1) ≠ l2 → (((0 : Int) = 0 ∨ (0 : Int) = 1) ∧ P (vi (0 : Int)) σ)) ∧ ((σ 74 0 l1) = l2 → (((1 : Int) = 0 ∨ (1 : Int) = 1) ∧ P (vi (1 : Int)) σ))))) ∧ (l3 ≠ 0 → ((0 ≤ l1 ∧ l1 < 120) ∧ ((0 ≤ (σ 68 0 l1) ∧ (σ 68 0 l1) < 120) ∧ (((σ 74 0 (σ 68 0 l1)) ≠ l2 → (((0 : Int) = 0 ∨ (0 : Int) = 1) ∧ P (vi (0 : Int)) σ)) ∧ ((σ 74 0 (σ 68 0 l1)) = l2 → (((1 : Int) = 0 ∨ (1 : Int) = 1) ∧ P (vi (1 : Int)) σ))))))))))))) : G (d + 1) P 66 0 [vr 62 0, vi l1, vi l2, vi l3, vu, vu] [] σ := blk (S := S1) (c := cd_66) (bz := true) [(42, [true, true, true, true, true, false]), (63, [true, true, true, true, true, true])] 600 (S1_ok (d + 0)) rfl rfl rfl h
-- RegionStackModel.does at 42, 6 leaves
set_option maxRecDepth 100000 in
set_option maxHeartbeats 4000000 in
theorem b_66_42 {d : Nat} {P : AV → SS → Prop} {σ : SS} {l1 l2 l3 l4 : Int} (h : ((l3 = 0 → ((0 ≤ l4 ∧ 0 ≤ (1 : Int)) ∧ (((((l4).toNat &&& ((1 : Int)).toNat : Nat) : Int) = 0 → G (d + 1) P 66 63 [vr 62 0, vi l1, vi l2, vi l3, vi l4, vi 0] [] σ) ∧ ((((l4).toNat &&& ((1 : Int)).toNat : Nat) : Int) ≠ 0 → ((0 ≤ l1 ∧ l1 < 120) ∧ ((0 ≤ (σ 68 0 l1) ∧ (σ 68 0 l1) < 120) ∧ (((σ 74 0 (σ 68 0 l1)) ≠ l2 → G (d + 1) P 66 63 [vr 62 0, vi l1, vi l2, vi l3, vi l4, vi 0] [] σ) ∧ ((σ 74 0 (σ 68 0 l1)) = l2 → G (d + 1) P 66 63 [vr 62 0, vi l1, vi l2, vi l3, vi l4, vi 1] [] σ)))))))) ∧ (l3 ≠ 0 → ((0 ≤ l4 ∧ 0 ≤ (2 : Int)) ∧ (((((l4).toNat &&& ((2 : Int)).toNat : Nat) : Int) = 0 → G (d + 1) P 66 63 [vr 62 0, vi l1, vi l2, vi l3, vi l4, vi 0] [] σ) ∧ ((((l4).toNat &&& ((2 : Int)).toNat : Nat) : Int) ≠ 0 → ((0 ≤ l1 ∧ l1 < 120) ∧ ((0 ≤ (σ 68 0 l1) ∧ (σ 68 0 l1) < 120) ∧ (((σ 74 0 (σ 68 0 l1)) ≠ l2 → G (d + 1) P 66 63 [vr 62 0, vi l1, vi l2, vi l3, vi l4, vi 0] [] σ) ∧ ((σ 74 0 (σ 68 0 l1)) = l2 → G (d + 1) P 66 63 [vr 62 0, vi l1, vi l2, vi l3, vi l4, vi 1] [] σ)))))))))) : G (d + 1) P 66 42 [vr 62 0, vi l1, vi l2, vi l3, vi l4, vu] [] σ := blk (S := S1) (c := cd_66) (bz := true) [(42, [true, true, true, true, true, false]), (63, [true, true, true, true, true, true])] 600 (S1_ok (d + 0)) rfl rfl rfl h
-- RegionStackModel.does at 63, 7 leaves
set_option maxRecDepth 100000 in
set_option maxHeartbeats 4000000 in
theorem b_66_63 {d : Nat} {P : AV → SS → Prop} {σ : SS} {l1 l2 l3 l4 l5 : Int} (h : ((l5 ≠ 0 → (((1 : Int) = 0 ∨ (1 : Int) = 1) ∧ P (vi (1 : Int)) σ)) ∧ (l5 = 0 → ((l3 = 0 → ((0 ≤ l4 ∧ 0 ≤ (4 : Int)) ∧ (((((l4).toNat &&& ((4 : Int)).toNat : Nat) : Int) = 0 → (((0 : Int) = 0 ∨ (0 : Int) = 1) ∧ P (vi (0 : Int)) σ)) ∧ ((((l4).toNat &&& ((4 : Int)).toNat : Nat) : Int) ≠ 0 → ((0 ≤ l1 ∧ l1 < 120) ∧ (((σ 74 0 l1) ≠ l2 → (((0 : Int) = 0 ∨ (0 : Int) = 1) ∧ P (vi (0 : Int)) σ)) ∧ ((σ 74 0 l1) = l2 → (((1 : Int) = 0 ∨ (1 : Int) = 1) ∧ P (vi (1 : Int)) σ)))))))) ∧ (l3 ≠ 0 → ((0 ≤ l4 ∧ 0 ≤ (8 : Int)) ∧ (((((l4).toNat &&& ((8 : Int)).toNat : Nat) : Int) = 0 → (((0 : Int) = 0 ∨ (0 : Int) = 1) ∧ P (vi (0 : Int)) σ)) ∧ ((((l4).toNat &&& ((8 : Int)).toNat : Nat) : Int) ≠ 0 → ((0 ≤ l1 ∧ l1 < 120) ∧ (((σ 74 0 l1) ≠ l2 → (((0 : Int) = 0 ∨ (0 : Int) = 1) ∧ P (vi (0 : Int)) σ)) ∧ ((σ 74 0 l1) = l2 → (((1 : Int) = 0 ∨ (1 : Int) = 1) ∧ P (vi (1 : Int)) σ)))))))))))) : G (d + 1) P 66 63 [vr 62 0, vi l1, vi l2, vi l3, vi l4, vi l5] [] σ := blk (S := S1) (c := cd_66) (bz := true) [(42, [true, true, true, true, true, false]), (63, [true, true, true, true, true, true])] 600 (S1_ok (d + 0)) rfl rfl rfl h
-- RegionStackModel.layEffects at 0, 1 leaves
set_option maxRecDepth 100000 in
set_option maxHeartbeats 4000000 in
theorem b_67_0 {d : Nat} {P : AV → SS → Prop} {σ : SS} (h : G (d + 2) P 67 2 [vr 62 0, vi 0, vu, vu, vu, vu, vu, vu] [] σ) : G (d + 2) P 67 0 [vr 62 0, vu, vu, vu, vu, vu, vu, vu] [] σ := blk (S := noS) (c := cd_67) (bz := false) [(2, [true, true, false, false, false, false, false, false]), (14, [true, true, false, false, false, false, false, false]), (20, [true, true, true, false, false, false, false, false]), (29, [true, true, true, true, true, false, false, false]), (48, [true, true, true, true, true, true, false, false]), (58, [true, true, true, true, true, true, true, false]), (68, [true, true, true, true, true, true, true, true]), (82, [true, true, true, true, true, true, true, true]), (96, [true, true, true, true, true, true, false, true]), (110, [true, true, true, true, true, true, false, true]), (124, [true, true, true, true, true, false, false, false]), (138, [true, true, true, true, false, false, false, false])] 600 (SV_no _) rfl rfl rfl h
-- RegionStackModel.layEffects at 2, 2 leaves
set_option maxRecDepth 100000 in
set_option maxHeartbeats 4000000 in
theorem b_67_2 {d : Nat} {P : AV → SS → Prop} {σ : SS} {l1 : Int} (h : (((3 : Int) ≤ l1 → G (d + 2) P 67 14 [vr 62 0, vi 1, vu, vu, vu, vu, vu, vu] [] σ) ∧ (l1 < (3 : Int) → ((0 ≤ l1 ∧ l1 < 3) ∧ (∀ σ1 : SS, σ1 = up σ 77 0 l1 (0 : Int) → (ir (l1 + 1) ∧ G (d + 2) P 67 2 [vr 62 0, vi (l1 + 1), vu, vu, vu, vu, vu, vu] [] σ1)))))) : G (d + 2) P 67 2 [vr 62 0, vi l1, vu, vu, vu, vu, vu, vu] [] σ := blk (S := noS) (c := cd_67) (bz := false) [(2, [true, true, false, false, false, false, false, false]), (14, [true, true, false, false, false, false, false, false]), (20, [true, true, true, false, false, false, false, false]), (29, [true, true, true, true, true, false, false, false]), (48, [true, true, true, true, true, true, false, false]), (58, [true, true, true, true, true, true, true, false]), (68, [true, true, true, true, true, true, true, true]), (82, [true, true, true, true, true, true, true, true]), (96, [true, true, true, true, true, true, false, true]), (110, [true, true, true, true, true, true, false, true]), (124, [true, true, true, true, true, false, false, false]), (138, [true, true, true, true, false, false, false, false])] 600 (SV_no _) rfl rfl rfl h
-- RegionStackModel.layEffects at 14, 2 leaves
set_option maxRecDepth 100000 in
set_option maxHeartbeats 4000000 in
theorem b_67_14 {d : Nat} {P : AV → SS → Prop} {σ : SS} {l1 : Int} (h : ((l1 = 0 → P vu σ) ∧ (l1 ≠ 0 → G (d + 2) P 67 20 [vr 62 0, vi 0, vi 0, vu, vu, vu, vu, vu] [] σ))) : G (d + 2) P 67 14 [vr 62 0, vi l1, vu, vu, vu, vu, vu, vu] [] σ := blk (S := noS) (c := cd_67) (bz := false) [(2, [true, true, false, false, false, false, false, false]), (14, [true, true, false, false, false, false, false, false]), (20, [true, true, true, false, false, false, false, false]), (29, [true, true, true, true, true, false, false, false]), (48, [true, true, true, true, true, true, false, false]), (58, [true, true, true, true, true, true, true, false]), (68, [true, true, true, true, true, true, true, true]), (82, [true, true, true, true, true, true, true, true]), (96, [true, true, true, true, true, true, false, true]), (110, [true, true, true, true, true, true, false, true]), (124, [true, true, true, true, true, false, false, false]), (138, [true, true, true, true, false, false, false, false])] 600 (SV_no _) rfl rfl rfl h
-- RegionStackModel.layEffects at 20, 2 leaves
set_option maxRecDepth 100000 in
set_option maxHeartbeats 4000000 in
theorem b_67_20 {d : Nat} {P : AV → SS → Prop} {σ : SS} {l1 l2 : Int} (h : (((3 : Int) ≤ l2 → G (d + 2) P 67 14 [vr 62 0, vi l1, vu, vu, vu, vu, vu, vu] [] σ) ∧ (l2 < (3 : Int) → (ir ((40 : Int) * l2) ∧ G (d + 2) P 67 29 [vr 62 0, vi l1, vi l2, vi 0, vi ((40 : Int) * l2), vu, vu, vu] [] σ)))) : G (d + 2) P 67 20 [vr 62 0, vi l1, vi l2, vu, vu, vu, vu, vu] [] σ := blk (S := noS) (c := cd_67) (bz := false) [(2, [true, true, false, false, false, false, false, false]), (14, [true, true, false, false, false, false, false, false]), (20, [true, true, true, false, false, false, false, false]), (29, [true, true, true, true, true, false, false, false]), (48, [true, true, true, true, true, true, false, false]), (58, [true, true, true, true, true, true, true, false]), (68, [true, true, true, true, true, true, true, true]), (82, [true, true, true, true, true, true, true, true]), (96, [true, true, true, true, true, true, false, true]), (110, [true, true, true, true, true, true, false, true]), (124, [true, true, true, true, true, false, false, false]), (138, [true, true, true, true, false, false, false, false])] 600 (SV_no _) rfl rfl rfl h
-- RegionStackModel.layEffects at 29, 5 leaves
set_option maxRecDepth 100000 in
set_option maxHeartbeats 4000000 in
theorem b_67_29 {d : Nat} {P : AV → SS → Prop} {σ : SS} {l1 l2 l3 l4 : Int} (h : (ir ((40 : Int) * l2) ∧ ((0 ≤ l2 ∧ l2 < 3) ∧ (ir (((40 : Int) * l2) + (σ 65 0 l2)) ∧ (((((40 : Int) * l2) + (σ 65 0 l2)) ≤ l4 → ((l1 ≠ 0 → G (d + 2) P 67 138 [vr 62 0, vi 1, vi l2, vi l3, vu, vu, vu, vu] [] σ) ∧ (l1 = 0 → ((0 ≤ l2 ∧ l2 < 3) ∧ ((l3 = (σ 77 0 l2) → G (d + 2) P 67 138 [vr 62 0, vi 0, vi l2, vi l3, vu, vu, vu, vu] [] σ) ∧ (l3 ≠ (σ 77 0 l2) → G (d + 2) P 67 138 [vr 62 0, vi 1, vi l2, vi l3, vu, vu, vu, vu] [] σ)))))) ∧ (l4 < (((40 : Int) * l2) + (σ 65 0 l2)) → ((0 ≤ l2 ∧ l2 < 3) ∧ (((σ 73 0 l2) = 0 → G (d + 2) P 67 48 [vr 62 0, vi l1, vi l2, vi l3, vi l4, vi 1, vu, vu] [] σ) ∧ ((σ 73 0 l2) ≠ 0 → G (d + 2) P 67 48 [vr 62 0, vi l1, vi l2, vi l3, vi l4, vi 0, vu, vu] [] σ))))))))) : G (d + 2) P 67 29 [vr 62 0, vi l1, vi l2, vi l3, vi l4, vu, vu, vu] [] σ := blk (S := noS) (c := cd_67) (bz := false) [(2, [true, true, false, false, false, false, false, false]), (14, [true, true, false, false, false, false, false, false]), (20, [true, true, true, false, false, false, false, false]), (29, [true, true, true, true, true, false, false, false]), (48, [true, true, true, true, true, true, false, false]), (58, [true, true, true, true, true, true, true, false]), (68, [true, true, true, true, true, true, true, true]), (82, [true, true, true, true, true, true, true, true]), (96, [true, true, true, true, true, true, false, true]), (110, [true, true, true, true, true, true, false, true]), (124, [true, true, true, true, true, false, false, false]), (138, [true, true, true, true, false, false, false, false])] 600 (SV_no _) rfl rfl rfl h
-- RegionStackModel.layEffects at 138, 1 leaves
set_option maxRecDepth 100000 in
set_option maxHeartbeats 4000000 in
theorem b_67_138 {d : Nat} {P : AV → SS → Prop} {σ : SS} {l1 l2 l3 : Int} (h : ((0 ≤ l2 ∧ l2 < 3) ∧ (∀ σ1 : SS, σ1 = up σ 77 0 l2 l3 → (ir (l2 + 1) ∧ G (d + 2) P 67 20 [vr 62 0, vi l1, vi (l2 + 1), vu, vu, vu, vu, vu] [] σ1)))) : G (d + 2) P 67 138 [vr 62 0, vi l1, vi l2, vi l3, vu, vu, vu, vu] [] σ := blk (S := noS) (c := cd_67) (bz := false) [(2, [true, true, false, false, false, false, false, false]), (14, [true, true, false, false, false, false, false, false]), (20, [true, true, true, false, false, false, false, false]), (29, [true, true, true, true, true, false, false, false]), (48, [true, true, true, true, true, true, false, false]), (58, [true, true, true, true, true, true, true, false]), (68, [true, true, true, true, true, true, true, true]), (82, [true, true, true, true, true, true, true, true]), (96, [true, true, true, true, true, true, false, true]), (110, [true, true, true, true, true, true, false, true]), (124, [true, true, true, true, true, false, false, false]), (138, [true, true, true, true, false, false, false, false])] 600 (SV_no _) rfl rfl rfl h
-- RegionStackModel.layEffects at 48, 2 leaves
set_option maxRecDepth 100000 in
set_option maxHeartbeats 4000000 in
theorem b_67_48 {d : Nat} {P : AV → SS → Prop} {σ : SS} {l1 l2 l3 l4 l5 : Int} (h : ((0 ≤ l2 ∧ l2 < 3) ∧ (((σ 63 0 l2) ≠ (1 : Int) → G (d + 2) P 67 58 [vr 62 0, vi l1, vi l2, vi l3, vi l4, vi l5, vi 0, vu] [] σ) ∧ ((σ 63 0 l2) = (1 : Int) → G (d + 2) P 67 58 [vr 62 0, vi l1, vi l2, vi l3, vi l4, vi l5, vi 1, vu] [] σ)))) : G (d + 2) P 67 48 [vr 62 0, vi l1, vi l2, vi l3, vi l4, vi l5, vu, vu] [] σ := blk (S := noS) (c := cd_67) (bz := false) [(2, [true, true, false, false, false, false, false, false]), (14, [true, true, false, false, false, false, false, false]), (20, [true, true, true, false, false, false, false, false]), (29, [true, true, true, true, true, false, false, false]), (48, [true, true, true, true, true, true, false, false]), (58, [true, true, true, true, true, true, true, false]), (68, [true, true, true, true, true, true, true, true]), (82, [true, true, true, true, true, true, true, true]), (96, [true, true, true, true, true, true, false, true]), (110, [true, true, true, true, true, true, false, true]), (124, [true, true, true, true, true, false, false, false]), (138, [true, true, true, true, false, false, false, false])] 600 (SV_no _) rfl rfl rfl h
-- RegionStackModel.layEffects at 58, 2 leaves
set_option maxRecDepth 100000 in
set_option maxHeartbeats 4000000 in
theorem b_67_58 {d : Nat} {P : AV → SS → Prop} {σ : SS} {l1 l2 l3 l4 l5 l6 : Int} (h : ((0 ≤ l2 ∧ l2 < 3) ∧ (((σ 64 0 l2) ≠ (1 : Int) → G (d + 2) P 67 68 [vr 62 0, vi l1, vi l2, vi l3, vi l4, vi l5, vi l6, vi 0] [] σ) ∧ ((σ 64 0 l2) = (1 : Int) → G (d + 2) P 67 68 [vr 62 0, vi l1, vi l2, vi l3, vi l4, vi l5, vi l6, vi 1] [] σ)))) : G (d + 2) P 67 58 [vr 62 0, vi l1, vi l2, vi l3, vi l4, vi l5, vi l6, vu] [] σ := blk (S := noS) (c := cd_67) (bz := false) [(2, [true, true, false, false, false, false, false, false]), (14, [true, true, false, false, false, false, false, false]), (20, [true, true, true, false, false, false, false, false]), (29, [true, true, true, true, true, false, false, false]), (48, [true, true, true, true, true, true, false, false]), (58, [true, true, true, true, true, true, true, false]), (68, [true, true, true, true, true, true, true, true]), (82, [true, true, true, true, true, true, true, true]), (96, [true, true, true, true, true, true, false, true]), (110, [true, true, true, true, true, true, false, true]), (124, [true, true, true, true, true, false, false, false]), (138, [true, true, true, true, false, false, false, false])] 600 (SV_no _) rfl rfl rfl h
-- RegionStackModel.layEffects at 68, 3 leaves
set_option maxRecDepth 100000 in
set_option maxHeartbeats 4000000 in
theorem b_67_68 {d : Nat} {P : AV → SS → Prop} {σ : SS} {l1 l2 l3 l4 l5 l6 l7 : Int} (h : ((l6 = 0 → ((0 ≤ l3 ∧ 0 ≤ (0 : Int)) ∧ G (d + 2) P 67 82 [vr 62 0, vi l1, vi l2, vi (((l3).toNat ||| ((0 : Int)).toNat : Nat) : Int), vi l4, vi l5, vi l6, vi l7] [] σ)) ∧ (l6 ≠ 0 → (∃ (x2 : Int) (σ1 : SS), Rn (d + 2) 66 [vr 62 0, vi l4, vi 0, vi 0] σ (vi x2) σ1 ∧ ((x2 = 0 → ((0 ≤ l3 ∧ 0 ≤ (0 : Int)) ∧ G (d + 2) P 67 82 [vr 62 0, vi l1, vi l2, vi (((l3).toNat ||| ((0 : Int)).toNat : Nat) : Int), vi l4, vi l5, vi l6, vi l7] [] σ1)) ∧ (x2 ≠ 0 → ((0 ≤ l3 ∧ 0 ≤ (1 : Int)) ∧ G (d + 2) P 67 82 [vr 62 0, vi l1, vi l2, vi (((l3).toNat ||| ((1 : Int)).toNat : Nat) : Int), vi l4, vi l5, vi l6, vi l7] [] σ1))))))) : G (d + 2) P 67 68 [vr 62 0, vi l1, vi l2, vi l3, vi l4, vi l5, vi l6, vi l7] [] σ := blk (S := noS) (c := cd_67) (bz := false) [(2, [true, true, false, false, false, false, false, false]), (14, [true, true, false, false, false, false, false, false]), (20, [true, true, true, false, false, false, false, false]), (29, [true, true, true, true, true, false, false, false]), (48, [true, true, true, true, true, true, false, false]), (58, [true, true, true, true, true, true, true, false]), (68, [true, true, true, true, true, true, true, true]), (82, [true, true, true, true, true, true, true, true]), (96, [true, true, true, true, true, true, false, true]), (110, [true, true, true, true, true, true, false, true]), (124, [true, true, true, true, true, false, false, false]), (138, [true, true, true, true, false, false, false, false])] 600 (SV_no _) rfl rfl rfl h
-- RegionStackModel.layEffects at 82, 3 leaves
set_option maxRecDepth 100000 in
set_option maxHeartbeats 4000000 in
theorem b_67_82 {d : Nat} {P : AV → SS → Prop} {σ : SS} {l1 l2 l3 l4 l5 l6 l7 : Int} (h : ((l6 = 0 → ((0 ≤ l3 ∧ 0 ≤ (0 : Int)) ∧ G (d + 2) P 67 96 [vr 62 0, vi l1, vi l2, vi (((l3).toNat ||| ((0 : Int)).toNat : Nat) : Int), vi l4, vi l5, vu, vi l7] [] σ)) ∧ (l6 ≠ 0 → (∃ (x2 : Int) (σ1 : SS), Rn (d + 2) 66 [vr 62 0, vi l4, vi 0, vi 1] σ (vi x2) σ1 ∧ ((x2 = 0 → ((0 ≤ l3 ∧ 0 ≤ (0 : Int)) ∧ G (d + 2) P 67 96 [vr 62 0, vi l1, vi l2, vi (((l3).toNat ||| ((0 : Int)).toNat : Nat) : Int), vi l4, vi l5, vu, vi l7] [] σ1)) ∧ (x2 ≠ 0 → ((0 ≤ l3 ∧ 0 ≤ (2 : Int)) ∧ G (d + 2) P 67 96 [vr 62 0, vi l1, vi l2, vi (((l3).toNat ||| ((2 : Int)).toNat : Nat) : Int), vi l4, vi l5, vu, vi l7] [] σ1))))))) : G (d + 2) P 67 82 [vr 62 0, vi l1, vi l2, vi l3, vi l4, vi l5, vi l6, vi l7] [] σ := blk (S := noS) (c := cd_67) (bz := false) [(2, [true, true, false, false, false, false, false, false]), (14, [true, true, false, false, false, false, false, false]), (20, [true, true, true, false, false, false, false, false]), (29, [true, true, true, true, true, false, false, false]), (48, [true, true, true, true, true, true, false, false]), (58, [true, true, true, true, true, true, true, false]), (68, [true, true, true, true, true, true, true, true]), (82, [true, true, true, true, true, true, true, true]), (96, [true, true, true, true, true, true, false, true]), (110, [true, true, true, true, true, true, false, true]), (124, [true, true, true, true, true, false, false, false]), (138, [true, true, true, true, false, false, false, false])] 600 (SV_no _) rfl rfl rfl h
-- RegionStackModel.layEffects at 96, 3 leaves
set_option maxRecDepth 100000 in
set_option maxHeartbeats 4000000 in
theorem b_67_96 {d : Nat} {P : AV → SS → Prop} {σ : SS} {l1 l2 l3 l4 l5 l7 : Int} (h : ((l7 = 0 → ((0 ≤ l3 ∧ 0 ≤ (0 : Int)) ∧ G (d + 2) P 67 110 [vr 62 0, vi l1, vi l2, vi (((l3).toNat ||| ((0 : Int)).toNat : Nat) : Int), vi l4, vi l5, vu, vi l7] [] σ)) ∧ (l7 ≠ 0 → (∃ (x2 : Int) (σ1 : SS), Rn (d + 2) 66 [vr 62 0, vi l4, vi l5, vi 0] σ (vi x2) σ1 ∧ ((x2 = 0 → ((0 ≤ l3 ∧ 0 ≤ (0 : Int)) ∧ G (d + 2) P 67 110 [vr 62 0, vi l1, vi l2, vi (((l3).toNat ||| ((0 : Int)).toNat : Nat) : Int), vi l4, vi l5, vu, vi l7] [] σ1)) ∧ (x2 ≠ 0 → ((0 ≤ l3 ∧ 0 ≤ (4 : Int)) ∧ G (d + 2) P 67 110 [vr 62 0, vi l1, vi l2, vi (((l3).toNat ||| ((4 : Int)).toNat : Nat) : Int), vi l4, vi l5, vu, vi l7] [] σ1))))))) : G (d + 2) P 67 96 [vr 62 0, vi l1, vi l2, vi l3, vi l4, vi l5, vu, vi l7] [] σ := blk (S := noS) (c := cd_67) (bz := false) [(2, [true, true, false, false, false, false, false, false]), (14, [true, true, false, false, false, false, false, false]), (20, [true, true, true, false, false, false, false, false]), (29, [true, true, true, true, true, false, false, false]), (48, [true, true, true, true, true, true, false, false]), (58, [true, true, true, true, true, true, true, false]), (68, [true, true, true, true, true, true, true, true]), (82, [true, true, true, true, true, true, true, true]), (96, [true, true, true, true, true, true, false, true]), (110, [true, true, true, true, true, true, false, true]), (124, [true, true, true, true, true, false, false, false]), (138, [true, true, true, true, false, false, false, false])] 600 (SV_no _) rfl rfl rfl h
-- RegionStackModel.layEffects at 110, 3 leaves
set_option maxRecDepth 100000 in
set_option maxHeartbeats 4000000 in
theorem b_67_110 {d : Nat} {P : AV → SS → Prop} {σ : SS} {l1 l2 l3 l4 l5 l7 : Int} (h : ((l7 = 0 → ((0 ≤ l3 ∧ 0 ≤ (0 : Int)) ∧ G (d + 2) P 67 124 [vr 62 0, vi l1, vi l2, vi (((l3).toNat ||| ((0 : Int)).toNat : Nat) : Int), vi l4, vu, vu, vu] [] σ)) ∧ (l7 ≠ 0 → (∃ (x2 : Int) (σ1 : SS), Rn (d + 2) 66 [vr 62 0, vi l4, vi l5, vi 1] σ (vi x2) σ1 ∧ ((x2 = 0 → ((0 ≤ l3 ∧ 0 ≤ (0 : Int)) ∧ G (d + 2) P 67 124 [vr 62 0, vi l1, vi l2, vi (((l3).toNat ||| ((0 : Int)).toNat : Nat) : Int), vi l4, vu, vu, vu] [] σ1)) ∧ (x2 ≠ 0 → ((0 ≤ l3 ∧ 0 ≤ (8 : Int)) ∧ G (d + 2) P 67 124 [vr 62 0, vi l1, vi l2, vi (((l3).toNat ||| ((8 : Int)).toNat : Nat) : Int), vi l4, vu, vu, vu] [] σ1))))))) : G (d + 2) P 67 110 [vr 62 0, vi l1, vi l2, vi l3, vi l4, vi l5, vu, vi l7] [] σ := blk (S := noS) (c := cd_67) (bz := false) [(2, [true, true, false, false, false, false, false, false]), (14, [true, true, false, false, false, false, false, false]), (20, [true, true, true, false, false, false, false, false]), (29, [true, true, true, true, true, false, false, false]), (48, [true, true, true, true, true, true, false, false]), (58, [true, true, true, true, true, true, true, false]), (68, [true, true, true, true, true, true, true, true]), (82, [true, true, true, true, true, true, true, true]), (96, [true, true, true, true, true, true, false, true]), (110, [true, true, true, true, true, true, false, true]), (124, [true, true, true, true, true, false, false, false]), (138, [true, true, true, true, false, false, false, false])] 600 (SV_no _) rfl rfl rfl h
-- RegionStackModel.layEffects at 124, 1 leaves
set_option maxRecDepth 100000 in
set_option maxHeartbeats 4000000 in
theorem b_67_124 {d : Nat} {P : AV → SS → Prop} {σ : SS} {l1 l2 l3 l4 : Int} (h : (ir (l4 + 1) ∧ G (d + 2) P 67 29 [vr 62 0, vi l1, vi l2, vi l3, vi (l4 + 1), vu, vu, vu] [] σ)) : G (d + 2) P 67 124 [vr 62 0, vi l1, vi l2, vi l3, vi l4, vu, vu, vu] [] σ := blk (S := noS) (c := cd_67) (bz := false) [(2, [true, true, false, false, false, false, false, false]), (14, [true, true, false, false, false, false, false, false]), (20, [true, true, true, false, false, false, false, false]), (29, [true, true, true, true, true, false, false, false]), (48, [true, true, true, true, true, true, false, false]), (58, [true, true, true, true, true, true, true, false]), (68, [true, true, true, true, true, true, true, true]), (82, [true, true, true, true, true, true, true, true]), (96, [true, true, true, true, true, true, false, true]), (110, [true, true, true, true, true, true, false, true]), (124, [true, true, true, true, true, false, false, false]), (138, [true, true, true, true, false, false, false, false])] 600 (SV_no _) rfl rfl rfl h
-- RegionStackModel.tells at 0, 7 leaves
set_option maxRecDepth 100000 in
set_option maxHeartbeats 4000000 in
theorem b_68_0 {d : Nat} {P : AV → SS → Prop} {σ : SS} {l1 l2 : Int} (h : (((if 0 ≤ l1 ∧ l1 ≤ 2 then (1 : Int) else 0) ≠ 0 → (((if (0 : Int) ≤ l2 ∧ l2 ≤ 2 then (1 : Int) else 0) ≠ 0 → (∃ (x2 : Int) (σ1 : SS), Rn (d + 6) 62 [vr 62 0] σ (vi x2) σ1 ∧ ((x2 ≠ 0 → ((l2 ≠ 0 → ((l2 ≠ (1 : Int) → ((0 ≤ l1 ∧ l1 < 3) ∧ P (vi (σ1 76 0 l1)) σ1)) ∧ (l2 = (1 : Int) → ((0 ≤ l1 ∧ l1 < 3) ∧ P (vi (σ1 77 0 l1)) σ1)))) ∧ (l2 = 0 → ((0 ≤ l1 ∧ l1 < 3) ∧ (((σ1 73 0 l1) = 0 → P (vi (0 : Int)) σ1) ∧ ((σ1 73 0 l1) ≠ 0 → P (vi (1 : Int)) σ1)))))) ∧ (x2 = 0 → P (vi ((-5) : Int)) σ1)))) ∧ ((if (0 : Int) ≤ l2 ∧ l2 ≤ 2 then (1 : Int) else 0) = 0 → P (vi ((-2) : Int)) σ))) ∧ ((if 0 ≤ l1 ∧ l1 ≤ 2 then (1 : Int) else 0) = 0 → P (vi ((-1) : Int)) σ))) : G (d + 6) P 68 0 [vr 62 0, vi l1, vi l2] [] σ := blk (S := S2) (c := cd_68) (bz := false) [] 600 (S2_ok (d + 4)) rfl rfl rfl h
-- RegionStackModel.region at 0, 4 leaves
set_option maxRecDepth 100000 in
set_option maxHeartbeats 4000000 in
theorem b_69_0 {d : Nat} {P : AV → SS → Prop} {σ : SS} {l1 l2 : Int} (h : (((if 0 ≤ l1 ∧ l1 ≤ 2 then (1 : Int) else 0) ≠ 0 → ((0 ≤ l1 ∧ l1 < 3) ∧ (ir ((σ 65 0 l1) - 1) ∧ (((if (0 : Int) ≤ l2 ∧ l2 ≤ ((σ 65 0 l1) - 1) then (1 : Int) else 0) ≠ 0 → (∃ (x2 : Int) (σ1 : SS), Rn (d + 6) 62 [vr 62 0] σ (vi x2) σ1 ∧ ((x2 = 0 → P (vi ((-5) : Int)) σ1) ∧ (x2 ≠ 0 → (ir ((40 : Int) * l1) ∧ (ir (((40 : Int) * l1) + l2) ∧ ((0 ≤ (((40 : Int) * l1) + l2) ∧ (((40 : Int) * l1) + l2) < 120) ∧ P (vi (σ1 74 0 (((40 : Int) * l1) + l2))) σ1))))))) ∧ ((if (0 : Int) ≤ l2 ∧ l2 ≤ ((σ 65 0 l1) - 1) then (1 : Int) else 0) = 0 → P (vi ((-2) : Int)) σ))))) ∧ ((if 0 ≤ l1 ∧ l1 ≤ 2 then (1 : Int) else 0) = 0 → P (vi ((-1) : Int)) σ))) : G (d + 6) P 69 0 [vr 62 0, vi l1, vi l2] [] σ := blk (S := S2) (c := cd_69) (bz := false) [] 600 (S2_ok (d + 4)) rfl rfl rfl h
-- RegionStackModel.home at 0, 4 leaves
set_option maxRecDepth 100000 in
set_option maxHeartbeats 4000000 in
theorem b_70_0 {d : Nat} {P : AV → SS → Prop} {σ : SS} {l1 l2 : Int} (h : (((if 0 ≤ l1 ∧ l1 ≤ 2 then (1 : Int) else 0) ≠ 0 → (∃ (x2 : Int) (σ1 : SS), Rn (d + 6) 62 [vr 62 0] σ (vi x2) σ1 ∧ ((x2 ≠ 0 → ((0 ≤ l1 ∧ l1 < 3) ∧ (ir ((1 : Int) + (σ1 76 0 l1)) ∧ (((if (2 : Int) ≤ l2 ∧ l2 ≤ ((1 : Int) + (σ1 76 0 l1)) then (1 : Int) else 0) = 0 → P (vi ((-2) : Int)) σ1) ∧ ((if (2 : Int) ≤ l2 ∧ l2 ≤ ((1 : Int) + (σ1 76 0 l1)) then (1 : Int) else 0) ≠ 0 → (ir ((44 : Int) * l1) ∧ (ir (((44 : Int) * l1) + l2) ∧ ((0 ≤ (((44 : Int) * l1) + l2) ∧ (((44 : Int) * l1) + l2) < 132) ∧ (ir ((40 : Int) * l1) ∧ (ir ((σ1 75 0 (((44 : Int) * l1) + l2)) - ((40 : Int) * l1)) ∧ P (vi ((σ1 75 0 (((44 : Int) * l1) + l2)) - ((40 : Int) * l1))) σ1)))))))))) ∧ (x2 = 0 → P (vi ((-5) : Int)) σ1)))) ∧ ((if 0 ≤ l1 ∧ l1 ≤ 2 then (1 : Int) else 0) = 0 → P (vi ((-1) : Int)) σ))) : G (d + 6) P 70 0 [vr 62 0, vi l1, vi l2] [] σ := blk (S := S2) (c := cd_70) (bz := false) [] 600 (S2_ok (d + 4)) rfl rfl rfl h
-- RegionStackModel.touches at 0, 5 leaves
set_option maxRecDepth 100000 in
set_option maxHeartbeats 4000000 in
theorem b_71_0 {d : Nat} {P : AV → SS → Prop} {σ : SS} {l1 l2 l3 : Int} (h : (((if 0 ≤ l1 ∧ l1 ≤ 2 then (1 : Int) else 0) ≠ 0 → (((if (0 : Int) ≤ l2 ∧ l2 ≤ 99 then (1 : Int) else 0) = 0 → P (vi ((-2) : Int)) σ) ∧ ((if (0 : Int) ≤ l2 ∧ l2 ≤ 99 then (1 : Int) else 0) ≠ 0 → (((if (0 : Int) ≤ l3 ∧ l3 ≤ 2 then (1 : Int) else 0) ≠ 0 → (∃ (x2 : Int) (σ1 : SS), Rn (d + 6) 62 [vr 62 0] σ (vi x2) σ1 ∧ ((x2 ≠ 0 → (ir ((40 : Int) * l1) ∧ G (d + 6) P 71 28 [vr 62 0, vi l1, vi l2, vi l3, vi 0, vi ((40 : Int) * l1)] [] σ1)) ∧ (x2 = 0 → P (vi ((-5) : Int)) σ1)))) ∧ ((if (0 : Int) ≤ l3 ∧ l3 ≤ 2 then (1 : Int) else 0) = 0 → P (vi ((-2) : Int)) σ))))) ∧ ((if 0 ≤ l1 ∧ l1 ≤ 2 then (1 : Int) else 0) = 0 → P (vi ((-1) : Int)) σ))) : G (d + 6) P 71 0 [vr 62 0, vi l1, vi l2, vi l3, vu, vu] [] σ := blk (S := S2) (c := cd_71) (bz := false) [(28, [true, true, true, true, true, true])] 600 (S2_ok (d + 4)) rfl rfl rfl h
-- RegionStackModel.touches at 28, 7 leaves
set_option maxRecDepth 100000 in
set_option maxHeartbeats 4000000 in
theorem b_71_28 {d : Nat} {P : AV → SS → Prop} {σ : SS} {l1 l2 l3 l4 l5 : Int} (h : (ir ((40 : Int) * l1) ∧ ((0 ≤ l1 ∧ l1 < 3) ∧ (ir (((40 : Int) * l1) + (σ 65 0 l1)) ∧ (((((40 : Int) * l1) + (σ 65 0 l1)) ≤ l5 → P (vi l4) σ) ∧ (l5 < (((40 : Int) * l1) + (σ 65 0 l1)) → ((l3 ≠ 0 → ((l3 ≠ (2 : Int) → (∃ (x2 : Int) (σ1 : SS), Rn (d + 6) 66 [vr 62 0, vi l5, vi l2, vi 0] σ (vi x2) σ1 ∧ ((x2 = 0 → (ir (l4 + 0) ∧ (ir (l5 + 1) ∧ G (d + 6) P 71 28 [vr 62 0, vi l1, vi l2, vi l3, vi (l4 + 0), vi (l5 + 1)] [] σ1))) ∧ (x2 ≠ 0 → (ir (l4 + 1) ∧ (ir (l5 + 1) ∧ G (d + 6) P 71 28 [vr 62 0, vi l1, vi l2, vi l3, vi (l4 + 1), vi (l5 + 1)] [] σ1)))))) ∧ (l3 = (2 : Int) → (∃ (x4 : Int) (σ3 : SS), Rn (d + 6) 66 [vr 62 0, vi l5, vi l2, vi 1] σ (vi x4) σ3 ∧ ((x4 = 0 → (ir (l4 + 0) ∧ (ir (l5 + 1) ∧ G (d + 6) P 71 28 [vr 62 0, vi l1, vi l2, vi l3, vi (l4 + 0), vi (l5 + 1)] [] σ3))) ∧ (x4 ≠ 0 → (ir (l4 + 1) ∧ (ir (l5 + 1) ∧ G (d + 6) P 71 28 [vr 62 0, vi l1, vi l2, vi l3, vi (l4 + 1), vi (l5 + 1)] [] σ3)))))))) ∧ (l3 = 0 → (∃ (x6 : Int) (σ5 : SS), Rn (d + 6) 64 [vr 62 0, vi l5, vi l2] σ (vi x6) σ5 ∧ ((x6 = 0 → (ir (l4 + 0) ∧ (ir (l5 + 1) ∧ G (d + 6) P 71 28 [vr 62 0, vi l1, vi l2, vi l3, vi (l4 + 0), vi (l5 + 1)] [] σ5))) ∧ (x6 ≠ 0 → (ir (l4 + 1) ∧ (ir (l5 + 1) ∧ G (d + 6) P 71 28 [vr 62 0, vi l1, vi l2, vi l3, vi (l4 + 1), vi (l5 + 1)] [] σ5))))))))))))) : G (d + 6) P 71 28 [vr 62 0, vi l1, vi l2, vi l3, vi l4, vi l5] [] σ := blk (S := S2) (c := cd_71) (bz := false) [(28, [true, true, true, true, true, true])] 600 (S2_ok (d + 4)) rfl rfl rfl h
-- RegionStackModel.openOne at 0, 2 leaves
set_option maxRecDepth 100000 in
set_option maxHeartbeats 4000000 in
theorem b_72_0 {d : Nat} {P : AV → SS → Prop} {σ : SS} (h : ((0 ≤ (σ 62 0 28) ∧ (σ 62 0 28) < 700) ∧ (∀ σ1 : SS, σ1 = up σ 87 0 (σ 62 0 28) (0 : Int) → (((0 ≤ (σ1 62 0 28) ∧ (σ1 62 0 28) < 700) ∧ ((0 : Int) = 0 ∨ (0 : Int) = 1)) ∧ (∀ σ2 : SS, σ2 = up σ1 88 0 (σ1 62 0 28) (0 : Int) → (ir ((σ2 62 0 28) + 1) ∧ (∀ σ3 : SS, σ3 = up σ2 62 0 28 ((σ2 62 0 28) + 1) → (ir ((σ3 62 0 35) + 1) ∧ (∀ σ4 : SS, σ4 = up σ3 62 0 35 ((σ3 62 0 35) + 1) → (((σ4 62 0 28) ≤ (σ4 62 0 34) → (∀ σ5 : SS, σ5 = up σ4 62 0 34 (σ4 62 0 34) → (ir ((σ5 62 0 28) - 1) ∧ P (vi ((σ5 62 0 28) - 1)) σ5))) ∧ ((σ4 62 0 34) < (σ4 62 0 28) → (∀ σ6 : SS, σ6 = up σ4 62 0 34 (σ4 62 0 28) → (ir ((σ6 62 0 28) - 1) ∧ P (vi ((σ6 62 0 28) - 1)) σ6))))))))))))) : G (d + 0) P 72 0 [vr 62 0] [] σ := blk (S := noS) (c := cd_72) (bz := false) [] 600 (SV_no _) rfl rfl rfl h
-- RegionStackModel.closeOne at 0, 2 leaves
set_option maxRecDepth 100000 in
set_option maxHeartbeats 4000000 in
theorem b_73_0 {d : Nat} {P : AV → SS → Prop} {σ : SS} (h : (ir ((σ 62 0 28) - 1) ∧ (∀ σ1 : SS, σ1 = up σ 62 0 28 ((σ 62 0 28) - 1) → ((0 ≤ (σ1 62 0 28) ∧ (σ1 62 0 28) < 700) ∧ (ir ((σ1 62 0 32) - (σ1 87 0 (σ1 62 0 28))) ∧ (∀ σ2 : SS, σ2 = up σ1 62 0 32 ((σ1 62 0 32) - (σ1 87 0 (σ1 62 0 28))) → ((0 ≤ (σ2 62 0 28) ∧ (σ2 62 0 28) < 700) ∧ (((σ2 88 0 (σ2 62 0 28)) = 0 → ((0 ≤ (σ2 62 0 28) ∧ (σ2 62 0 28) < 700) ∧ (ir ((σ2 62 0 38) - (σ2 87 0 (σ2 62 0 28))) ∧ (∀ σ3 : SS, σ3 = up σ2 62 0 38 ((σ2 62 0 38) - (σ2 87 0 (σ2 62 0 28))) → P vu σ3)))) ∧ ((σ2 88 0 (σ2 62 0 28)) ≠ 0 → ((0 ≤ (σ2 62 0 28) ∧ (σ2 62 0 28) < 700) ∧ (ir ((2 : Int) * (σ2 87 0 (σ2 62 0 28))) ∧ (ir ((σ2 62 0 38) - ((2 : Int) * (σ2 87 0 (σ2 62 0 28)))) ∧ (∀ σ4 : SS, σ4 = up σ2 62 0 38 ((σ2 62 0 38) - ((2 : Int) * (σ2 87 0 (σ2 62 0 28)))) → P vu σ4))))))))))))) : G (d + 0) P 73 0 [vr 62 0] [] σ := blk (S := noS) (c := cd_73) (bz := false) [] 600 (SV_no _) rfl rfl rfl h
-- RegionStackModel.put at 0, 4 leaves
set_option maxRecDepth 100000 in
set_option maxHeartbeats 4000000 in
theorem b_74_0 {d : Nat} {P : AV → SS → Prop} {σ : SS} {l1 l2 : Int} (h : (ir ((σ 62 0 31) + 1) ∧ (∀ σ1 : SS, σ1 = up σ 62 0 31 ((σ 62 0 31) + 1) → (((σ1 62 0 31) ≤ (300 : Int) → ((0 ≤ (σ1 62 0 31) ∧ (σ1 62 0 31) < 302) ∧ (∀ σ2 : SS, σ2 = up σ1 86 0 (σ1 62 0 31) l2 → ((l2 ≤ (9 : Int) → G (d + 0) P 74 46 [vr 62 0, vi l1, vi l2] [] σ2) ∧ ((9 : Int) < l2 → ((0 ≤ l1 ∧ l1 < 700) ∧ (((σ2 88 0 l1) ≠ 0 → G (d + 0) P 74 46 [vr 62 0, vi l1, vi l2] [] σ2) ∧ ((σ2 88 0 l1) = 0 → (((0 ≤ l1 ∧ l1 < 700) ∧ ((1 : Int) = 0 ∨ (1 : Int) = 1)) ∧ (∀ σ3 : SS, σ3 = up σ2 88 0 l1 (1 : Int) → (ir ((σ3 62 0 36) + 1) ∧ (∀ σ4 : SS, σ4 = up σ3 62 0 36 ((σ3 62 0 36) + 1) → ((0 ≤ l1 ∧ l1 < 700) ∧ (ir ((σ4 62 0 38) + (σ4 87 0 l1)) ∧ (∀ σ5 : SS, σ5 = up σ4 62 0 38 ((σ4 62 0 38) + (σ4 87 0 l1)) → G (d + 0) P 74 46 [vr 62 0, vi l1, vi l2] [] σ5))))))))))))))) ∧ ((300 : Int) < (σ1 62 0 31) → P (vi (0 : Int)) σ1))))) : G (d + 0) P 74 0 [vr 62 0, vi l1, vi l2] [] σ := blk (S := noS) (c := cd_74) (bz := false) [(46, [true, true, true])] 600 (SV_no _) rfl rfl rfl h
-- RegionStackModel.put at 46, 16 leaves
set_option maxRecDepth 100000 in
set_option maxHeartbeats 4000000 in
theorem b_74_46 {d : Nat} {P : AV → SS → Prop} {σ : SS} {l1 l2 : Int} (h : ((0 ≤ l1 ∧ l1 < 700) ∧ (ir ((σ 87 0 l1) + 1) ∧ ((0 ≤ l1 ∧ l1 < 700) ∧ (∀ σ1 : SS, σ1 = up σ 87 0 l1 ((σ 87 0 l1) + 1) → ((0 ≤ l1 ∧ l1 < 700) ∧ (((σ1 88 0 l1) = 0 → (ir ((σ1 62 0 38) + 1) ∧ (∀ σ2 : SS, σ2 = up σ1 62 0 38 ((σ1 62 0 38) + 1) → ((l2 ≤ (9 : Int) → (ir ((σ2 62 0 40) + 1) ∧ (∀ σ3 : SS, σ3 = up σ2 62 0 40 ((σ2 62 0 40) + 1) → (ir ((σ3 62 0 32) + 1) ∧ (∀ σ4 : SS, σ4 = up σ3 62 0 32 ((σ3 62 0 32) + 1) → (((σ4 62 0 32) ≤ (σ4 62 0 33) → (∀ σ5 : SS, σ5 = up σ4 62 0 33 (σ4 62 0 33) → (((σ5 62 0 38) ≤ (σ5 62 0 39) → (∀ σ6 : SS, σ6 = up σ5 62 0 39 (σ5 62 0 39) → P (vi (σ6 62 0 31)) σ6)) ∧ ((σ5 62 0 39) < (σ5 62 0 38) → (∀ σ7 : SS, σ7 = up σ5 62 0 39 (σ5 62 0 38) → P (vi (σ7 62 0 31)) σ7))))) ∧ ((σ4 62 0 33) < (σ4 62 0 32) → (∀ σ8 : SS, σ8 = up σ4 62 0 33 (σ4 62 0 32) → (((σ8 62 0 38) ≤ (σ8 62 0 39) → (∀ σ9 : SS, σ9 = up σ8 62 0 39 (σ8 62 0 39) → P (vi (σ9 62 0 31)) σ9)) ∧ ((σ8 62 0 39) < (σ8 62 0 38) → (∀ σ10 : SS, σ10 = up σ8 62 0 39 (σ8 62 0 38) → P (vi (σ10 62 0 31)) σ10))))))))))) ∧ ((9 : Int) < l2 → (ir ((σ2 62 0 40) + 2) ∧ (∀ σ11 : SS, σ11 = up σ2 62 0 40 ((σ2 62 0 40) + 2) → (ir ((σ11 62 0 32) + 1) ∧ (∀ σ12 : SS, σ12 = up σ11 62 0 32 ((σ11 62 0 32) + 1) → (((σ12 62 0 32) ≤ (σ12 62 0 33) → (∀ σ13 : SS, σ13 = up σ12 62 0 33 (σ12 62 0 33) → (((σ13 62 0 38) ≤ (σ13 62 0 39) → (∀ σ14 : SS, σ14 = up σ13 62 0 39 (σ13 62 0 39) → P (vi (σ14 62 0 31)) σ14)) ∧ ((σ13 62 0 39) < (σ13 62 0 38) → (∀ σ15 : SS, σ15 = up σ13 62 0 39 (σ13 62 0 38) → P (vi (σ15 62 0 31)) σ15))))) ∧ ((σ12 62 0 33) < (σ12 62 0 32) → (∀ σ16 : SS, σ16 = up σ12 62 0 33 (σ12 62 0 32) → (((σ16 62 0 38) ≤ (σ16 62 0 39) → (∀ σ17 : SS, σ17 = up σ16 62 0 39 (σ16 62 0 39) → P (vi (σ17 62 0 31)) σ17)) ∧ ((σ16 62 0 39) < (σ16 62 0 38) → (∀ σ18 : SS, σ18 = up σ16 62 0 39 (σ16 62 0 38) → P (vi (σ18 62 0 31)) σ18))))))))))))))) ∧ ((σ1 88 0 l1) ≠ 0 → (ir ((σ1 62 0 38) + 2) ∧ (∀ σ19 : SS, σ19 = up σ1 62 0 38 ((σ1 62 0 38) + 2) → ((l2 ≤ (9 : Int) → (ir ((σ19 62 0 40) + 1) ∧ (∀ σ20 : SS, σ20 = up σ19 62 0 40 ((σ19 62 0 40) + 1) → (ir ((σ20 62 0 32) + 1) ∧ (∀ σ21 : SS, σ21 = up σ20 62 0 32 ((σ20 62 0 32) + 1) → (((σ21 62 0 32) ≤ (σ21 62 0 33) → (∀ σ22 : SS, σ22 = up σ21 62 0 33 (σ21 62 0 33) → (((σ22 62 0 38) ≤ (σ22 62 0 39) → (∀ σ23 : SS, σ23 = up σ22 62 0 39 (σ22 62 0 39) → P (vi (σ23 62 0 31)) σ23)) ∧ ((σ22 62 0 39) < (σ22 62 0 38) → (∀ σ24 : SS, σ24 = up σ22 62 0 39 (σ22 62 0 38) → P (vi (σ24 62 0 31)) σ24))))) ∧ ((σ21 62 0 33) < (σ21 62 0 32) → (∀ σ25 : SS, σ25 = up σ21 62 0 33 (σ21 62 0 32) → (((σ25 62 0 38) ≤ (σ25 62 0 39) → (∀ σ26 : SS, σ26 = up σ25 62 0 39 (σ25 62 0 39) → P (vi (σ26 62 0 31)) σ26)) ∧ ((σ25 62 0 39) < (σ25 62 0 38) → (∀ σ27 : SS, σ27 = up σ25 62 0 39 (σ25 62 0 38) → P (vi (σ27 62 0 31)) σ27))))))))))) ∧ ((9 : Int) < l2 → (ir ((σ19 62 0 40) + 2) ∧ (∀ σ28 : SS, σ28 = up σ19 62 0 40 ((σ19 62 0 40) + 2) → (ir ((σ28 62 0 32) + 1) ∧ (∀ σ29 : SS, σ29 = up σ28 62 0 32 ((σ28 62 0 32) + 1) → (((σ29 62 0 32) ≤ (σ29 62 0 33) → (∀ σ30 : SS, σ30 = up σ29 62 0 33 (σ29 62 0 33) → (((σ30 62 0 38) ≤ (σ30 62 0 39) → (∀ σ31 : SS, σ31 = up σ30 62 0 39 (σ30 62 0 39) → P (vi (σ31 62 0 31)) σ31)) ∧ ((σ30 62 0 39) < (σ30 62 0 38) → (∀ σ32 : SS, σ32 = up σ30 62 0 39 (σ30 62 0 38) → P (vi (σ32 62 0 31)) σ32))))) ∧ ((σ29 62 0 33) < (σ29 62 0 32) → (∀ σ33 : SS, σ33 = up σ29 62 0 33 (σ29 62 0 32) → (((σ33 62 0 38) ≤ (σ33 62 0 39) → (∀ σ34 : SS, σ34 = up σ33 62 0 39 (σ33 62 0 39) → P (vi (σ34 62 0 31)) σ34)) ∧ ((σ33 62 0 39) < (σ33 62 0 38) → (∀ σ35 : SS, σ35 = up σ33 62 0 39 (σ33 62 0 38) → P (vi (σ35 62 0 31)) σ35)))))))))))))))))))))) : G (d + 0) P 74 46 [vr 62 0, vi l1, vi l2] [] σ := blk (S := noS) (c := cd_74) (bz := false) [(46, [true, true, true])] 600 (SV_no _) rfl rfl rfl h
-- RegionStackModel.begin at 0, 1 leaves
set_option maxRecDepth 100000 in
set_option maxHeartbeats 4000000 in
theorem b_75_0 {d : Nat} {P : AV → SS → Prop} {σ : SS} {l1 l2 l3 l4 : Int} (h : ((0 ≤ (σ 62 0 24) ∧ (σ 62 0 24) < 16) ∧ (∀ σ1 : SS, σ1 = up σ 82 0 (σ 62 0 24) l1 → ((0 ≤ (σ1 62 0 24) ∧ (σ1 62 0 24) < 16) ∧ (∀ σ2 : SS, σ2 = up σ1 83 0 (σ1 62 0 24) l2 → (ir ((44 : Int) * (σ2 62 0 24)) ∧ ((0 ≤ ((44 : Int) * (σ2 62 0 24)) ∧ ((44 : Int) * (σ2 62 0 24)) < 704) ∧ (∀ σ3 : SS, σ3 = up σ2 85 0 ((44 : Int) * (σ2 62 0 24)) l3 → (ir ((44 : Int) * (σ3 62 0 24)) ∧ (ir (((44 : Int) * (σ3 62 0 24)) + 1) ∧ ((0 ≤ (((44 : Int) * (σ3 62 0 24)) + 1) ∧ (((44 : Int) * (σ3 62 0 24)) + 1) < 704) ∧ (∀ σ4 : SS, σ4 = up σ3 85 0 (((44 : Int) * (σ3 62 0 24)) + 1) l4 → (ir ((σ4 62 0 24) + 1) ∧ (∀ σ5 : SS, σ5 = up σ4 62 0 24 ((σ4 62 0 24) + 1) → (ir ((σ5 62 0 24) - 1) ∧ P (vi ((σ5 62 0 24) - 1)) σ5))))))))))))))) : G (d + 0) P 75 0 [vr 62 0, vi l1, vi l2, vi l3, vi l4] [] σ := blk (S := noS) (c := cd_75) (bz := false) [] 600 (SV_no _) rfl rfl rfl h
-- RegionStackModel.start at 0, 1 leaves
set_option maxRecDepth 100000 in
set_option maxHeartbeats 4000000 in
theorem b_76_0 {d : Nat} {P : AV → SS → Prop} {σ : SS} {l1 l2 : Int} (h : ((0 ≤ (σ 62 0 19) ∧ (σ 62 0 19) < 600) ∧ (∀ σ1 : SS, σ1 = up σ 78 0 (σ 62 0 19) l1 → ((0 ≤ (σ1 62 0 19) ∧ (σ1 62 0 19) < 600) ∧ (∀ σ2 : SS, σ2 = up σ1 79 0 (σ1 62 0 19) l2 → ((0 ≤ (σ2 62 0 19) ∧ (σ2 62 0 19) < 600) ∧ (∀ σ3 : SS, σ3 = up σ2 80 0 (σ2 62 0 19) (0 : Int) → (ir ((σ3 62 0 19) + 1) ∧ (∀ σ4 : SS, σ4 = up σ3 62 0 19 ((σ3 62 0 19) + 1) → P vu σ4))))))))) : G (d + 0) P 76 0 [vr 62 0, vi l1, vi l2] [] σ := blk (S := noS) (c := cd_76) (bz := false) [] 600 (SV_no _) rfl rfl rfl h
-- RegionStackModel.turnHomes at 0, 1 leaves
set_option maxRecDepth 100000 in
set_option maxHeartbeats 4000000 in
theorem b_77_0 {d : Nat} {P : AV → SS → Prop} {σ : SS} {l1 l2 l3 : Int} (h : ((0 ≤ l1 ∧ l1 < 16) ∧ G (d + 1) P 77 7 [vr 62 0, vi l1, vi l2, vi l3, vi (σ 82 0 l1), vi 2] [] σ)) : G (d + 1) P 77 0 [vr 62 0, vi l1, vi l2, vi l3, vu, vu] [] σ := blk (S := noS) (c := cd_77) (bz := false) [(7, [true, true, true, true, true, true])] 600 (SV_no _) rfl rfl rfl h
-- RegionStackModel.turnHomes at 7, 6 leaves
set_option maxRecDepth 100000 in
set_option maxHeartbeats 4000000 in
theorem b_77_7 {d : Nat} {P : AV → SS → Prop} {σ : SS} {l1 l2 l3 l4 l5 : Int} (h : ((0 ≤ l4 ∧ l4 < 3) ∧ (ir ((2 : Int) + (σ 76 0 l4)) ∧ ((((2 : Int) + (σ 76 0 l4)) ≤ l5 → P vu σ) ∧ (l5 < ((2 : Int) + (σ 76 0 l4)) → (ir ((44 : Int) * l4) ∧ (ir (((44 : Int) * l4) + l5) ∧ ((0 ≤ (((44 : Int) * l4) + l5) ∧ (((44 : Int) * l4) + l5) < 132) ∧ (((σ 75 0 (((44 : Int) * l4) + l5)) ≠ l2 → (ir ((44 : Int) * l4) ∧ (ir (((44 : Int) * l4) + l5) ∧ ((0 ≤ (((44 : Int) * l4) + l5) ∧ (((44 : Int) * l4) + l5) < 132) ∧ (((σ 75 0 (((44 : Int) * l4) + l5)) ≠ l2 → (ir (l5 + 1) ∧ G (d + 1) P 77 7 [vr 62 0, vi l1, vi l2, vi l3, vi l4, vi (l5 + 1)] [] σ)) ∧ ((σ 75 0 (((44 : Int) * l4) + l5)) = l2 → (∃ σ1 : SS, Rn (d + 1) 73 [vr 62 0] σ vu σ1 ∧ (ir (l5 + 1) ∧ G (d + 1) P 77 7 [vr 62 0, vi l1, vi l2, vi l3, vi l4, vi (l5 + 1)] [] σ1)))))))) ∧ ((σ 75 0 (((44 : Int) * l4) + l5)) = l2 → ((l3 = 0 → (ir ((44 : Int) * l4) ∧ (ir (((44 : Int) * l4) + l5) ∧ ((0 ≤ (((44 : Int) * l4) + l5) ∧ (((44 : Int) * l4) + l5) < 132) ∧ (((σ 75 0 (((44 : Int) * l4) + l5)) ≠ l2 → (ir (l5 + 1) ∧ G (d + 1) P 77 7 [vr 62 0, vi l1, vi l2, vi l3, vi l4, vi (l5 + 1)] [] σ)) ∧ ((σ 75 0 (((44 : Int) * l4) + l5)) = l2 → (∃ σ2 : SS, Rn (d + 1) 73 [vr 62 0] σ vu σ2 ∧ (ir (l5 + 1) ∧ G (d + 1) P 77 7 [vr 62 0, vi l1, vi l2, vi l3, vi l4, vi (l5 + 1)] [] σ2)))))))) ∧ (l3 ≠ 0 → (ir ((44 : Int) * l1) ∧ (ir (((44 : Int) * l1) + l5) ∧ (∃ (x4 : Int) (σ3 : SS), Rn (d + 1) 72 [vr 62 0] σ (vi x4) σ3 ∧ ((0 ≤ (((44 : Int) * l1) + l5) ∧ (((44 : Int) * l1) + l5) < 704) ∧ (∀ σ5 : SS, σ5 = up σ3 85 0 (((44 : Int) * l1) + l5) x4 → (ir (l5 + 1) ∧ G (d + 1) P 77 7 [vr 62 0, vi l1, vi l2, vi l3, vi l4, vi (l5 + 1)] [] σ5)))))))))))))))))) : G (d + 1) P 77 7 [vr 62 0, vi l1, vi l2, vi l3, vi l4, vi l5] [] σ := blk (S := noS) (c := cd_77) (bz := false) [(7, [true, true, true, true, true, true])] 600 (SV_no _) rfl rfl rfl h
-- RegionStackModel.finish at 0, 1 leaves
set_option maxRecDepth 100000 in
set_option maxHeartbeats 4000000 in
theorem b_78_0 {d : Nat} {P : AV → SS → Prop} {σ : SS} {l1 l2 : Int} (h : (∃ σ1 : SS, Rn (d + 2) 77 [vr 62 0, vi l1, vi l2, vi 0] σ vu σ1 ∧ (ir ((σ1 62 0 19) - 1) ∧ (∀ σ2 : SS, σ2 = up σ1 62 0 19 ((σ1 62 0 19) - 1) → P vu σ2)))) : G (d + 2) P 78 0 [vr 62 0, vi l1, vi l2] [] σ := blk (S := noS) (c := cd_78) (bz := false) [] 600 (SV_no _) rfl rfl rfl h
-- RegionStackModel.goOn at 0, 13 leaves
set_option maxRecDepth 100000 in
set_option maxHeartbeats 4000000 in
theorem b_79_0 {d : Nat} {P : AV → SS → Prop} {σ : SS} {l1 l2 l3 : Int} (h : ((0 ≤ l1 ∧ l1 < 16) ∧ ((0 ≤ l3 ∧ l3 < 600) ∧ (∀ σ1 : SS, σ1 = up σ 80 0 l3 (3 : Int) → ((0 ≤ l2 ∧ l2 < 120) ∧ (((σ1 67 0 l2) < 3 ∨ 8 < (σ1 67 0 l2) → (ir ((σ1 62 0 37) + 1) ∧ (∀ σ19 : SS, σ19 = up σ1 62 0 37 ((σ1 62 0 37) + 1) → (((13 : Int) ≤ (σ19 62 0 24) → (∀ σ20 : SS, σ20 = up σ19 62 0 30 (4000 : Int) → P vu σ20)) ∧ ((σ19 62 0 24) < (13 : Int) → ((ir (l2 + 1) ∧ (0 ≤ l2 + 1 ∧ l2 + 1 < 120) ∧ ir (σ19 66 0 (l2 + 1) - 48)) ∧ ((0 ≤ (σ19 66 0 (l2 + 1) - 48) ∧ (σ19 66 0 (l2 + 1) - 48) < 3) ∧ (((σ19 63 0 (σ19 66 0 (l2 + 1) - 48)) ≠ (1 : Int) → ((0 ≤ (σ19 66 0 (l2 + 1) - 48) ∧ (σ19 66 0 (l2 + 1) - 48) < 3) ∧ (((σ19 64 0 (σ19 66 0 (l2 + 1) - 48)) ≠ (1 : Int) → (∃ (x22 : Int) (σ21 : SS), Rn (d + 3) 75 [vr 62 0, vi (σ19 66 0 (l2 + 1) - 48), vi (σ19 62 0 29), vi 0, vi 0] σ19 (vi x22) σ21 ∧ (ir ((40 : Int) * (σ19 66 0 (l2 + 1) - 48)) ∧ (∃ σ23 : SS, Rn (d + 3) 76 [vr 62 0, vi x22, vi ((40 : Int) * (σ19 66 0 (l2 + 1) - 48))] σ21 vu σ23 ∧ P vu σ23)))) ∧ ((σ19 64 0 (σ19 66 0 (l2 + 1) - 48)) = (1 : Int) → (ir ((44 : Int) * l1) ∧ ((0 ≤ l2 ∧ l2 < 120) ∧ (ir (((44 : Int) * l1) + (σ19 74 0 l2)) ∧ ((0 ≤ (((44 : Int) * l1) + (σ19 74 0 l2)) ∧ (((44 : Int) * l1) + (σ19 74 0 l2)) < 704) ∧ (∃ (x25 : Int) (σ24 : SS), Rn (d + 3) 75 [vr 62 0, vi (σ19 66 0 (l2 + 1) - 48), vi (σ19 62 0 29), vi 0, vi (σ19 85 0 (((44 : Int) * l1) + (σ19 74 0 l2)))] σ19 (vi x25) σ24 ∧ (ir ((40 : Int) * (σ19 66 0 (l2 + 1) - 48)) ∧ (∃ σ26 : SS, Rn (d + 3) 76 [vr 62 0, vi x25, vi ((40 : Int) * (σ19 66 0 (l2 + 1) - 48))] σ24 vu σ26 ∧ P vu σ26))))))))))) ∧ ((σ19 63 0 (σ19 66 0 (l2 + 1) - 48)) = (1 : Int) → (ir ((44 : Int) * l1) ∧ ((0 ≤ l2 ∧ l2 < 120) ∧ ((0 ≤ (σ19 68 0 l2) ∧ (σ19 68 0 l2) < 120) ∧ (ir (((44 : Int) * l1) + (σ19 74 0 (σ19 68 0 l2))) ∧ ((0 ≤ (((44 : Int) * l1) + (σ19 74 0 (σ19 68 0 l2))) ∧ (((44 : Int) * l1) + (σ19 74 0 (σ19 68 0 l2))) < 704) ∧ ((0 ≤ (σ19 66 0 (l2 + 1) - 48) ∧ (σ19 66 0 (l2 + 1) - 48) < 3) ∧ (((σ19 64 0 (σ19 66 0 (l2 + 1) - 48)) ≠ (1 : Int) → (∃ (x28 : Int) (σ27 : SS), Rn (d + 3) 75 [vr 62 0, vi (σ19 66 0 (l2 + 1) - 48), vi (σ19 62 0 29), vi (σ19 85 0 (((44 : Int) * l1) + (σ19 74 0 (σ19 68 0 l2)))), vi 0] σ19 (vi x28) σ27 ∧ (ir ((40 : Int) * (σ19 66 0 (l2 + 1) - 48)) ∧ (∃ σ29 : SS, Rn (d + 3) 76 [vr 62 0, vi x28, vi ((40 : Int) * (σ19 66 0 (l2 + 1) - 48))] σ27 vu σ29 ∧ P vu σ29)))) ∧ ((σ19 64 0 (σ19 66 0 (l2 + 1) - 48)) = (1 : Int) → (ir ((44 : Int) * l1) ∧ ((0 ≤ l2 ∧ l2 < 120) ∧ (ir (((44 : Int) * l1) + (σ19 74 0 l2)) ∧ ((0 ≤ (((44 : Int) * l1) + (σ19 74 0 l2)) ∧ (((44 : Int) * l1) + (σ19 74 0 l2)) < 704) ∧ (∃ (x31 : Int) (σ30 : SS), Rn (d + 3) 75 [vr 62 0, vi (σ19 66 0 (l2 + 1) - 48), vi (σ19 62 0 29), vi (σ19 85 0 (((44 : Int) * l1) + (σ19 74 0 (σ19 68 0 l2)))), vi (σ19 85 0 (((44 : Int) * l1) + (σ19 74 0 l2)))] σ19 (vi x31) σ30 ∧ (ir ((40 : Int) * (σ19 66 0 (l2 + 1) - 48)) ∧ (∃ σ32 : SS, Rn (d + 3) 76 [vr 62 0, vi x31, vi ((40 : Int) * (σ19 66 0 (l2 + 1) - 48))] σ30 vu σ32 ∧ P vu σ32)))))))))))))))))))))))) ∧ (((σ1 67 0 l2) = 3 → (ir ((44 : Int) * l1) ∧ ((0 ≤ l2 ∧ l2 < 120) ∧ (ir (((44 : Int) * l1) + (σ1 74 0 l2)) ∧ ((0 ≤ (((44 : Int) * l1) + (σ1 74 0 l2)) ∧ (((44 : Int) * l1) + (σ1 74 0 l2)) < 704) ∧ (∃ (x3 : Int) (σ2 : SS), Rn (d + 3) 74 [vr 62 0, vi (σ1 85 0 (((44 : Int) * l1) + (σ1 74 0 l2))), vi (σ1 62 0 29)] σ1 (vi x3) σ2 ∧ (∀ σ4 : SS, σ4 = up σ2 62 0 29 x3 → (∃ σ5 : SS, Rn (d + 3) 78 [vr 62 0, vi l1, vi l2] σ4 vu σ5 ∧ P vu σ5)))))))) ∧ (((σ1 67 0 l2) = (3 + 1) → ((0 ≤ (σ1 62 0 29) ∧ (σ1 62 0 29) < 302) ∧ (∀ σ6 : SS, σ6 = up σ1 62 0 29 (σ1 86 0 (σ1 62 0 29)) → (∃ σ7 : SS, Rn (d + 3) 78 [vr 62 0, vi l1, vi l2] σ6 vu σ7 ∧ P vu σ7)))) ∧ (((σ1 67 0 l2) = ((3 + 1) + 1) → (((σ1 62 0 29) ≤ 0 → (∀ σ8 : SS, σ8 = up σ1 62 0 29 (0 : Int) → (∃ σ9 : SS, Rn (d + 3) 78 [vr 62 0, vi l1, vi l2] σ8 vu σ9 ∧ P vu σ9))) ∧ (0 < (σ1 62 0 29) → (ir ((σ1 62 0 29) - 1) ∧ (∀ σ10 : SS, σ10 = up σ1 62 0 29 ((σ1 62 0 29) - 1) → (∃ σ11 : SS, Rn (d + 3) 78 [vr 62 0, vi l1, vi l2] σ10 vu σ11 ∧ P vu σ11)))))) ∧ (((σ1 67 0 l2) = (((3 + 1) + 1) + 1) → ((0 ≤ l3 ∧ l3 < 600) ∧ (∀ σ12 : SS, σ12 = up σ1 81 0 l3 (σ1 62 0 29) → ((0 ≤ l3 ∧ l3 < 600) ∧ (∀ σ13 : SS, σ13 = up σ12 80 0 l3 (2 : Int) → ((0 ≤ l2 ∧ l2 < 120) ∧ (∃ σ14 : SS, Rn (d + 3) 76 [vr 62 0, vi l1, vi (σ13 69 0 l2)] σ13 vu σ14 ∧ P vu σ14))))))) ∧ (((σ1 67 0 l2) = ((((3 + 1) + 1) + 1) + 1) → (((σ1 62 0 29) = 0 → ((0 ≤ l2 ∧ l2 < 120) ∧ (∃ σ15 : SS, Rn (d + 3) 76 [vr 62 0, vi l1, vi (σ1 70 0 l2)] σ1 vu σ15 ∧ P vu σ15))) ∧ ((σ1 62 0 29) ≠ 0 → ((0 ≤ l2 ∧ l2 < 120) ∧ (∃ σ16 : SS, Rn (d + 3) 76 [vr 62 0, vi l1, vi (σ1 69 0 l2)] σ1 vu σ16 ∧ P vu σ16))))) ∧ (((σ1 67 0 l2) = (((((3 + 1) + 1) + 1) + 1) + 1) → (ir ((40 : Int) * l1) ∧ (ir (((40 : Int) * l1) + l2) ∧ (ir ((40 : Int) * (σ 82 0 l1)) ∧ (ir ((((40 : Int) * l1) + l2) - ((40 : Int) * (σ 82 0 l1))) ∧ ((0 ≤ ((((40 : Int) * l1) + l2) - ((40 : Int) * (σ 82 0 l1))) ∧ ((((40 : Int) * l1) + l2) - ((40 : Int) * (σ 82 0 l1))) < 640) ∧ (∀ σ17 : SS, σ17 = up σ1 84 0 ((((40 : Int) * l1) + l2) - ((40 : Int) * (σ 82 0 l1))) (σ1 62 0 29) → ((0 ≤ l2 ∧ l2 < 120) ∧ (∃ σ18 : SS, Rn (d + 3) 76 [vr 62 0, vi l1, vi (σ17 69 0 l2)] σ17 vu σ18 ∧ P vu σ18))))))))) ∧ True)))))))))))) : G (d + 3) P 79 0 [vr 62 0, vi l1, vi l2, vi l3, vu, vu, vu, vu] [] σ := blk (S := S1) (c := cd_79) (bz := false) [] 600 (S1_ok (d + 2)) rfl rfl rfl h
-- RegionStackModel.step at 0, 8 leaves
set_option maxRecDepth 100000 in
set_option maxHeartbeats 4000000 in
theorem b_80_0 {d : Nat} {P : AV → SS → Prop} {σ : SS} (h : (ir ((σ 62 0 19) - 1) ∧ ((0 ≤ ((σ 62 0 19) - 1) ∧ ((σ 62 0 19) - 1) < 600) ∧ ((0 ≤ ((σ 62 0 19) - 1) ∧ ((σ 62 0 19) - 1) < 600) ∧ ((0 ≤ ((σ 62 0 19) - 1) ∧ ((σ 62 0 19) - 1) < 600) ∧ (((σ 80 0 ((σ 62 0 19) - 1)) ≠ (1 : Int) → (((σ 80 0 ((σ 62 0 19) - 1)) ≤ (1 : Int) → (ir ((σ 62 0 30) + 1) ∧ (∀ σ1 : SS, σ1 = up σ 62 0 30 ((σ 62 0 30) + 1) → (∃ σ2 : SS, Rn (d + 4) 77 [vr 62 0, vi (σ 78 0 ((σ 62 0 19) - 1)), vi (σ 79 0 ((σ 62 0 19) - 1)), vi 1] σ1 vu σ2 ∧ ((0 ≤ ((σ 62 0 19) - 1) ∧ ((σ 62 0 19) - 1) < 600) ∧ (∀ σ3 : SS, σ3 = up σ2 80 0 ((σ 62 0 19) - 1) (1 : Int) → ((0 ≤ (σ 79 0 ((σ 62 0 19) - 1)) ∧ (σ 79 0 ((σ 62 0 19) - 1)) < 120) ∧ (((inn (σ3 67 0 (σ 79 0 ((σ 62 0 19) - 1)))) ≤ 0 → ((0 ≤ (σ 78 0 ((σ 62 0 19) - 1)) ∧ (σ 78 0 ((σ 62 0 19) - 1)) < 16) ∧ ((0 ≤ (σ 79 0 ((σ 62 0 19) - 1)) ∧ (σ 79 0 ((σ 62 0 19) - 1)) < 120) ∧ (((σ3 67 0 (σ 79 0 ((σ 62 0 19) - 1))) ≠ 0 → ((0 ≤ (σ 79 0 ((σ 62 0 19) - 1)) ∧ (σ 79 0 ((σ 62 0 19) - 1)) < 120) ∧ (((σ3 67 0 (σ 79 0 ((σ 62 0 19) - 1))) ≠ (1 : Int) → (ir ((40 : Int) * (σ 78 0 ((σ 62 0 19) - 1))) ∧ (∃ (x5 : Int) (σ4 : SS), Rn (d + 4) 53 [vr 62 0, vi (σ3 82 0 (σ 78 0 ((σ 62 0 19) - 1))), vi (σ 79 0 ((σ 62 0 19) - 1))] σ3 (vi x5) σ4 ∧ (ir (((40 : Int) * (σ 78 0 ((σ 62 0 19) - 1))) + x5) ∧ (ir ((40 : Int) * (σ3 82 0 (σ 78 0 ((σ 62 0 19) - 1)))) ∧ (ir ((((40 : Int) * (σ 78 0 ((σ 62 0 19) - 1))) + x5) - ((40 : Int) * (σ3 82 0 (σ 78 0 ((σ 62 0 19) - 1))))) ∧ ((0 ≤ ((((40 : Int) * (σ 78 0 ((σ 62 0 19) - 1))) + x5) - ((40 : Int) * (σ3 82 0 (σ 78 0 ((σ 62 0 19) - 1))))) ∧ ((((40 : Int) * (σ 78 0 ((σ 62 0 19) - 1))) + x5) - ((40 : Int) * (σ3 82 0 (σ 78 0 ((σ 62 0 19) - 1))))) < 640) ∧ (∀ σ6 : SS, σ6 = up σ4 62 0 29 (σ4 84 0 ((((40 : Int) * (σ 78 0 ((σ 62 0 19) - 1))) + x5) - ((40 : Int) * (σ3 82 0 (σ 78 0 ((σ 62 0 19) - 1)))))) → (∃ σ7 : SS, Rn (d + 4) 78 [vr 62 0, vi (σ 78 0 ((σ 62 0 19) - 1)), vi (σ 79 0 ((σ 62 0 19) - 1))] σ6 vu σ7 ∧ P vu σ7))))))))) ∧ ((σ3 67 0 (σ 79 0 ((σ 62 0 19) - 1))) = (1 : Int) → ((0 ≤ (σ 78 0 ((σ 62 0 19) - 1)) ∧ (σ 78 0 ((σ 62 0 19) - 1)) < 16) ∧ (∀ σ8 : SS, σ8 = up σ3 62 0 29 (σ3 83 0 (σ 78 0 ((σ 62 0 19) - 1))) → (∃ σ9 : SS, Rn (d + 4) 78 [vr 62 0, vi (σ 78 0 ((σ 62 0 19) - 1)), vi (σ 79 0 ((σ 62 0 19) - 1))] σ8 vu σ9 ∧ P vu σ9))))))) ∧ ((σ3 67 0 (σ 79 0 ((σ 62 0 19) - 1))) = 0 → ((0 ≤ (σ 79 0 ((σ 62 0 19) - 1)) ∧ (σ 79 0 ((σ 62 0 19) - 1)) < 120) ∧ (ir ((σ3 66 0 (σ 79 0 ((σ 62 0 19) - 1))) - 48) ∧ (∀ σ10 : SS, σ10 = up σ3 62 0 29 ((σ3 66 0 (σ 79 0 ((σ 62 0 19) - 1))) - 48) → (∃ σ11 : SS, Rn (d + 4) 78 [vr 62 0, vi (σ 78 0 ((σ 62 0 19) - 1)), vi (σ 79 0 ((σ 62 0 19) - 1))] σ10 vu σ11 ∧ P vu σ11))))))))) ∧ (0 < (inn (σ3 67 0 (σ 79 0 ((σ 62 0 19) - 1)))) → ((0 ≤ (σ 79 0 ((σ 62 0 19) - 1)) ∧ (σ 79 0 ((σ 62 0 19) - 1)) < 120) ∧ (∃ σ12 : SS, Rn (d + 4) 76 [vr 62 0, vi (σ 78 0 ((σ 62 0 19) - 1)), vi (σ3 68 0 (σ 79 0 ((σ 62 0 19) - 1)))] σ3 vu σ12 ∧ P vu σ12))))))))))) ∧ ((1 : Int) < (σ 80 0 ((σ 62 0 19) - 1)) → (((σ 80 0 ((σ 62 0 19) - 1)) ≠ (2 : Int) → ((0 ≤ (σ 79 0 ((σ 62 0 19) - 1)) ∧ (σ 79 0 ((σ 62 0 19) - 1)) < 120) ∧ (((σ 67 0 (σ 79 0 ((σ 62 0 19) - 1))) ≠ (9 : Int) → (∃ σ13 : SS, Rn (d + 4) 78 [vr 62 0, vi (σ 78 0 ((σ 62 0 19) - 1)), vi (σ 79 0 ((σ 62 0 19) - 1))] σ vu σ13 ∧ P vu σ13)) ∧ ((σ 67 0 (σ 79 0 ((σ 62 0 19) - 1))) = (9 : Int) → (ir ((σ 62 0 24) - 1) ∧ (∀ σ14 : SS, σ14 = up σ 62 0 24 ((σ 62 0 24) - 1) → (∃ σ15 : SS, Rn (d + 4) 78 [vr 62 0, vi (σ 78 0 ((σ 62 0 19) - 1)), vi (σ 79 0 ((σ 62 0 19) - 1))] σ14 vu σ15 ∧ P vu σ15))))))) ∧ ((σ 80 0 ((σ 62 0 19) - 1)) = (2 : Int) → ((0 ≤ ((σ 62 0 19) - 1) ∧ ((σ 62 0 19) - 1) < 600) ∧ (ir ((σ 81 0 ((σ 62 0 19) - 1)) + (σ 62 0 29)) ∧ ((0 ≤ ((σ 81 0 ((σ 62 0 19) - 1)) + (σ 62 0 29)) ∧ 0 < (1000 : Int)) ∧ (∀ σ16 : SS, σ16 = up σ 62 0 29 (((σ 81 0 ((σ 62 0 19) - 1)) + (σ 62 0 29)) % 1000) → (∃ σ17 : SS, Rn (d + 4) 78 [vr 62 0, vi (σ 78 0 ((σ 62 0 19) - 1)), vi (σ 79 0 ((σ 62 0 19) - 1))] σ16 vu σ17 ∧ P vu σ17)))))))))) ∧ ((σ 80 0 ((σ 62 0 19) - 1)) = (1 : Int) → (∃ σ18 : SS, Rn (d + 4) 79 [vr 62 0, vi (σ 78 0 ((σ 62 0 19) - 1)), vi (σ 79 0 ((σ 62 0 19) - 1)), vi ((σ 62 0 19) - 1)] σ vu σ18 ∧ P vu σ18)))))))) : G (d + 4) P 80 0 [vr 62 0, vu, vu, vu, vu, vu] [] σ := blk (S := S1) (c := cd_80) (bz := false) [] 600 (S1_ok (d + 3)) rfl rfl rfl h
-- RegionStackModel.barOfRun at 0, 13 leaves
set_option maxRecDepth 100000 in
set_option maxHeartbeats 4000000 in
theorem b_81_0 {d : Nat} {P : AV → SS → Prop} {σ : SS} {l1 l2 : Int} (h : (∃ (x2 : Int) (σ1 : SS), Rn (d + 6) 62 [vr 62 0] σ (vi x2) σ1 ∧ ((x2 ≠ 0 → (∀ σ3 : SS, σ3 = up σ1 62 0 19 (0 : Int) → (∀ σ4 : SS, σ4 = up σ3 62 0 24 (0 : Int) → (∀ σ5 : SS, σ5 = up σ4 62 0 28 (0 : Int) → (∀ σ6 : SS, σ6 = up σ5 62 0 30 (0 : Int) → (∀ σ7 : SS, σ7 = up σ6 62 0 31 (0 : Int) → (∀ σ8 : SS, σ8 = up σ7 62 0 32 (0 : Int) → (∀ σ9 : SS, σ9 = up σ8 62 0 33 (0 : Int) → (∀ σ10 : SS, σ10 = up σ9 62 0 34 (0 : Int) → (∀ σ11 : SS, σ11 = up σ10 62 0 35 (0 : Int) → (∀ σ12 : SS, σ12 = up σ11 62 0 36 (0 : Int) → (∀ σ13 : SS, σ13 = up σ12 62 0 37 (0 : Int) → (∀ σ14 : SS, σ14 = up σ13 62 0 38 (0 : Int) → (∀ σ15 : SS, σ15 = up σ14 62 0 39 (0 : Int) → (∀ σ16 : SS, σ16 = up σ15 62 0 40 (0 : Int) → ((0 ≤ l1 ∧ l1 < 3) ∧ (((σ16 63 0 l1) ≠ (1 : Int) → ((0 ≤ l1 ∧ l1 < 3) ∧ (((σ16 63 0 l1) ≠ (1 : Int) → ((0 ≤ l1 ∧ l1 < 3) ∧ (((σ16 64 0 l1) ≠ (1 : Int) → (∃ (x18 : Int) (σ17 : SS), Rn (d + 6) 75 [vr 62 0, vi l1, vi l2, vi 0, vi 0] σ16 (vi x18) σ17 ∧ (ir ((40 : Int) * l1) ∧ (∃ σ19 : SS, Rn (d + 6) 76 [vr 62 0, vi x18, vi ((40 : Int) * l1)] σ17 vu σ19 ∧ G (d + 6) P 81 98 [vr 62 0, vu, vu, vu, vu, vu] [] σ19)))) ∧ ((σ16 64 0 l1) = (1 : Int) → ((0 ≤ l1 ∧ l1 < 3) ∧ (((σ16 73 0 l1) ≠ 0 → (∃ (x21 : Int) (σ20 : SS), Rn (d + 6) 75 [vr 62 0, vi l1, vi l2, vi 0, vi 0] σ16 (vi x21) σ20 ∧ (ir ((40 : Int) * l1) ∧ (∃ σ22 : SS, Rn (d + 6) 76 [vr 62 0, vi x21, vi ((40 : Int) * l1)] σ20 vu σ22 ∧ G (d + 6) P 81 98 [vr 62 0, vu, vu, vu, vu, vu] [] σ22)))) ∧ ((σ16 73 0 l1) = 0 → (∃ (x24 : Int) (σ23 : SS), Rn (d + 6) 72 [vr 62 0] σ16 (vi x24) σ23 ∧ (∃ (x26 : Int) (σ25 : SS), Rn (d + 6) 75 [vr 62 0, vi l1, vi l2, vi 0, vi x24] σ23 (vi x26) σ25 ∧ (ir ((40 : Int) * l1) ∧ (∃ σ27 : SS, Rn (d + 6) 76 [vr 62 0, vi x26, vi ((40 : Int) * l1)] σ25 vu σ27 ∧ G (d + 6) P 81 98 [vr 62 0, vu, vu, vu, vu, vu] [] σ27))))))))))) ∧ ((σ16 63 0 l1) = (1 : Int) → (∃ (x29 : Int) (σ28 : SS), Rn (d + 6) 74 [vr 62 0, vi 0, vi l2] σ16 (vi x29) σ28 ∧ ((0 ≤ l1 ∧ l1 < 3) ∧ (((σ28 64 0 l1) ≠ (1 : Int) → (∃ (x31 : Int) (σ30 : SS), Rn (d + 6) 75 [vr 62 0, vi l1, vi x29, vi 0, vi 0] σ28 (vi x31) σ30 ∧ (ir ((40 : Int) * l1) ∧ (∃ σ32 : SS, Rn (d + 6) 76 [vr 62 0, vi x31, vi ((40 : Int) * l1)] σ30 vu σ32 ∧ G (d + 6) P 81 98 [vr 62 0, vu, vu, vu, vu, vu] [] σ32)))) ∧ ((σ28 64 0 l1) = (1 : Int) → ((0 ≤ l1 ∧ l1 < 3) ∧ (((σ28 73 0 l1) ≠ 0 → (∃ (x34 : Int) (σ33 : SS), Rn (d + 6) 75 [vr 62 0, vi l1, vi x29, vi 0, vi 0] σ28 (vi x34) σ33 ∧ (ir ((40 : Int) * l1) ∧ (∃ σ35 : SS, Rn (d + 6) 76 [vr 62 0, vi x34, vi ((40 : Int) * l1)] σ33 vu σ35 ∧ G (d + 6) P 81 98 [vr 62 0, vu, vu, vu, vu, vu] [] σ35)))) ∧ ((σ28 73 0 l1) = 0 → (∃ (x37 : Int) (σ36 : SS), Rn (d + 6) 72 [vr 62 0] σ28 (vi x37) σ36 ∧ (∃ (x39 : Int) (σ38 : SS), Rn (d + 6) 75 [vr 62 0, vi l1, vi x29, vi 0, vi x37] σ36 (vi x39) σ38 ∧ (ir ((40 : Int) * l1) ∧ (∃ σ40 : SS, Rn (d + 6) 76 [vr 62 0, vi x39, vi ((40 : Int) * l1)] σ38 vu σ40 ∧ G (d + 6) P 81 98 [vr 62 0, vu, vu, vu, vu, vu] [] σ40))))))))))))))) ∧ ((σ16 63 0 l1) = (1 : Int) → (∃ (x42 : Int) (σ41 : SS), Rn (d + 6) 72 [vr 62 0] σ16 (vi x42) σ41 ∧ ((0 ≤ l1 ∧ l1 < 3) ∧ (((σ41 63 0 l1) ≠ (1 : Int) → ((0 ≤ l1 ∧ l1 < 3) ∧ (((σ41 64 0 l1) ≠ (1 : Int) → (∃ (x44 : Int) (σ43 : SS), Rn (d + 6) 75 [vr 62 0, vi l1, vi l2, vi x42, vi x42] σ41 (vi x44) σ43 ∧ (ir ((40 : Int) * l1) ∧ (∃ σ45 : SS, Rn (d + 6) 76 [vr 62 0, vi x44, vi ((40 : Int) * l1)] σ43 vu σ45 ∧ G (d + 6) P 81 98 [vr 62 0, vu, vu, vu, vu, vu] [] σ45)))) ∧ ((σ41 64 0 l1) = (1 : Int) → ((0 ≤ l1 ∧ l1 < 3) ∧ (((σ41 73 0 l1) ≠ 0 → (∃ (x47 : Int) (σ46 : SS), Rn (d + 6) 75 [vr 62 0, vi l1, vi l2, vi x42, vi x42] σ41 (vi x47) σ46 ∧ (ir ((40 : Int) * l1) ∧ (∃ σ48 : SS, Rn (d + 6) 76 [vr 62 0, vi x47, vi ((40 : Int) * l1)] σ46 vu σ48 ∧ G (d + 6) P 81 98 [vr 62 0, vu, vu, vu, vu, vu] [] σ48)))) ∧ ((σ41 73 0 l1) = 0 → (∃ (x50 : Int) (σ49 : SS), Rn (d + 6) 72 [vr 62 0] σ41 (vi x50) σ49 ∧ (∃ (x52 : Int) (σ51 : SS), Rn (d + 6) 75 [vr 62 0, vi l1, vi l2, vi x42, vi x50] σ49 (vi x52) σ51 ∧ (ir ((40 : Int) * l1) ∧ (∃ σ53 : SS, Rn (d + 6) 76 [vr 62 0, vi x52, vi ((40 : Int) * l1)] σ51 vu σ53 ∧ G (d + 6) P 81 98 [vr 62 0, vu, vu, vu, vu, vu] [] σ53))))))))))) ∧ ((σ41 63 0 l1) = (1 : Int) → (∃ (x55 : Int) (σ54 : SS), Rn (d + 6) 74 [vr 62 0, vi x42, vi l2] σ41 (vi x55) σ54 ∧ ((0 ≤ l1 ∧ l1 < 3) ∧ (((σ54 64 0 l1) ≠ (1 : Int) → (∃ (x57 : Int) (σ56 : SS), Rn (d + 6) 75 [vr 62 0, vi l1, vi x55, vi x42, vi x42] σ54 (vi x57) σ56 ∧ (ir ((40 : Int) * l1) ∧ (∃ σ58 : SS, Rn (d + 6) 76 [vr 62 0, vi x57, vi ((40 : Int) * l1)] σ56 vu σ58 ∧ G (d + 6) P 81 98 [vr 62 0, vu, vu, vu, vu, vu] [] σ58)))) ∧ ((σ54 64 0 l1) = (1 : Int) → ((0 ≤ l1 ∧ l1 < 3) ∧ (((σ54 73 0 l1) ≠ 0 → (∃ (x60 : Int) (σ59 : SS), Rn (d + 6) 75 [vr 62 0, vi l1, vi x55, vi x42, vi x42] σ54 (vi x60) σ59 ∧ (ir ((40 : Int) * l1) ∧ (∃ σ61 : SS, Rn (d + 6) 76 [vr 62 0, vi x60, vi ((40 : Int) * l1)] σ59 vu σ61 ∧ G (d + 6) P 81 98 [vr 62 0, vu, vu, vu, vu, vu] [] σ61)))) ∧ ((σ54 73 0 l1) = 0 → (∃ (x63 : Int) (σ62 : SS), Rn (d + 6) 72 [vr 62 0] σ54 (vi x63) σ62 ∧ (∃ (x65 : Int) (σ64 : SS), Rn (d + 6) 75 [vr 62 0, vi l1, vi x55, vi x42, vi x63] σ62 (vi x65) σ64 ∧ (ir ((40 : Int) * l1) ∧ (∃ σ66 : SS, Rn (d + 6) 76 [vr 62 0, vi x65, vi ((40 : Int) * l1)] σ64 vu σ66 ∧ G (d + 6) P 81 98 [vr 62 0, vu, vu, vu, vu, vu] [] σ66))))))))))))))))))))))))))))))))) ∧ (x2 = 0 → P (vi ((-5) : Int)) σ1)))) : G (d + 6) P 81 0 [vr 62 0, vi l1, vi l2, vu, vu, vu] [] σ := blk (S := noS) (c := cd_81) (bz := false) [(98, [true, false, false, false, false, false])] 600 (SV_no _) rfl rfl rfl h
-- RegionStackModel.barOfRun at 98, 10 leaves
set_option maxRecDepth 100000 in
set_option maxHeartbeats 4000000 in
theorem b_81_98 {d : Nat} {P : AV → SS → Prop} {σ : SS} (h : (((σ 62 0 19) ≤ 0 → (((3000 : Int) < (σ 62 0 30) → P (vi ((-3) : Int)) σ) ∧ ((σ 62 0 30) ≤ (3000 : Int) → (((σ 62 0 31) ≤ (300 : Int) → P (vi (0 : Int)) σ) ∧ ((300 : Int) < (σ 62 0 31) → P (vi ((-3) : Int)) σ))))) ∧ (0 < (σ 62 0 19) → (((3001 : Int) ≤ (σ 62 0 30) → (((3000 : Int) < (σ 62 0 30) → P (vi ((-3) : Int)) σ) ∧ ((σ 62 0 30) ≤ (3000 : Int) → (((σ 62 0 31) ≤ (300 : Int) → P (vi (0 : Int)) σ) ∧ ((300 : Int) < (σ 62 0 31) → P (vi ((-3) : Int)) σ))))) ∧ ((σ 62 0 30) < (3001 : Int) → (((301 : Int) ≤ (σ 62 0 31) → (((3000 : Int) < (σ 62 0 30) → P (vi ((-3) : Int)) σ) ∧ ((σ 62 0 30) ≤ (3000 : Int) → (((σ 62 0 31) ≤ (300 : Int) → P (vi (0 : Int)) σ) ∧ ((300 : Int) < (σ 62 0 31) → P (vi ((-3) : Int)) σ))))) ∧ ((σ 62 0 31) < (301 : Int) → (∃ σ1 : SS, Rn (d + 6) 80 [vr 62 0] σ vu σ1 ∧ G (d + 6) P 81 98 [vr 62 0, vu, vu, vu, vu, vu] [] σ1)))))))) : G (d + 6) P 81 98 [vr 62 0, vu, vu, vu, vu, vu] [] σ := blk (S := noS) (c := cd_81) (bz := false) [(98, [true, false, false, false, false, false])] 600 (SV_no _) rfl rfl rfl h
-- RegionStackModel.run at 0, 13 leaves
set_option maxRecDepth 100000 in
set_option maxHeartbeats 4000000 in
theorem b_82_0 {d : Nat} {P : AV → SS → Prop} {σ : SS} {l1 l2 l3 : Int} (h : (((if 0 ≤ l1 ∧ l1 ≤ 2 then (1 : Int) else 0) ≠ 0 → (((if (0 : Int) ≤ l2 ∧ l2 ≤ 999 then (1 : Int) else 0) = 0 → P (vi ((-2) : Int)) σ) ∧ ((if (0 : Int) ≤ l2 ∧ l2 ≤ 999 then (1 : Int) else 0) ≠ 0 → (((if (0 : Int) ≤ l3 ∧ l3 ≤ 7 then (1 : Int) else 0) ≠ 0 → (∃ (x2 : Int) (σ1 : SS), Rn (d + 7) 81 [vr 62 0, vi l1, vi l2] σ (vi x2) σ1 ∧ ((0 ≤ x2 → ((l3 < 0 ∨ 5 < l3 → ((l3 ≠ (6 : Int) → P (vi (σ1 62 0 37)) σ1) ∧ (l3 = (6 : Int) → P (vi (σ1 62 0 36)) σ1))) ∧ ((l3 = 0 → ((0 ≤ l1 ∧ l1 < 3) ∧ (((σ1 64 0 l1) ≠ (1 : Int) → P (vi (σ1 62 0 29)) σ1) ∧ ((σ1 64 0 l1) = (1 : Int) → ((0 ≤ (σ1 62 0 29) ∧ (σ1 62 0 29) < 302) ∧ P (vi (σ1 86 0 (σ1 62 0 29))) σ1))))) ∧ ((l3 = (0 + 1) → P (vi (σ1 62 0 30)) σ1) ∧ ((l3 = ((0 + 1) + 1) → P (vi (σ1 62 0 31)) σ1) ∧ ((l3 = (((0 + 1) + 1) + 1) → P (vi (σ1 62 0 33)) σ1) ∧ ((l3 = ((((0 + 1) + 1) + 1) + 1) → P (vi (σ1 62 0 34)) σ1) ∧ ((l3 = (((((0 + 1) + 1) + 1) + 1) + 1) → P (vi (σ1 62 0 35)) σ1) ∧ True)))))))) ∧ (x2 < 0 → P (vi x2) σ1)))) ∧ ((if (0 : Int) ≤ l3 ∧ l3 ≤ 7 then (1 : Int) else 0) = 0 → P (vi ((-2) : Int)) σ))))) ∧ ((if 0 ≤ l1 ∧ l1 ≤ 2 then (1 : Int) else 0) = 0 → P (vi ((-1) : Int)) σ))) : G (d + 7) P 82 0 [vr 62 0, vi l1, vi l2, vi l3, vu] [] σ := blk (S := S2) (c := cd_82) (bz := false) [] 600 (S2_ok (d + 5)) rfl rfl rfl h
-- RegionStackModel.words at 0, 6 leaves
set_option maxRecDepth 100000 in
set_option maxHeartbeats 4000000 in
theorem b_83_0 {d : Nat} {P : AV → SS → Prop} {σ : SS} {l1 l2 l3 : Int} (h : (((if 0 ≤ l1 ∧ l1 ≤ 2 then (1 : Int) else 0) ≠ 0 → (((if (0 : Int) ≤ l2 ∧ l2 ≤ 999 then (1 : Int) else 0) = 0 → P (vi ((-2) : Int)) σ) ∧ ((if (0 : Int) ≤ l2 ∧ l2 ≤ 999 then (1 : Int) else 0) ≠ 0 → (((if (0 : Int) ≤ l3 ∧ l3 ≤ 1 then (1 : Int) else 0) ≠ 0 → (∃ (x2 : Int) (σ1 : SS), Rn (d + 7) 81 [vr 62 0, vi l1, vi l2] σ (vi x2) σ1 ∧ ((0 ≤ x2 → ((l3 ≠ 0 → P (vi (σ1 62 0 40)) σ1) ∧ (l3 = 0 → P (vi (σ1 62 0 39)) σ1))) ∧ (x2 < 0 → P (vi x2) σ1)))) ∧ ((if (0 : Int) ≤ l3 ∧ l3 ≤ 1 then (1 : Int) else 0) = 0 → P (vi ((-2) : Int)) σ))))) ∧ ((if 0 ≤ l1 ∧ l1 ≤ 2 then (1 : Int) else 0) = 0 → P (vi ((-1) : Int)) σ))) : G (d + 7) P 83 0 [vr 62 0, vi l1, vi l2, vi l3, vu] [] σ := blk (S := S2) (c := cd_83) (bz := false) [] 600 (S2_ok (d + 5)) rfl rfl rfl h
-- RegionStackModel.mixed at 0, 5 leaves
set_option maxRecDepth 100000 in
set_option maxHeartbeats 4000000 in
theorem b_84_0 {d : Nat} {P : AV → SS → Prop} {σ : SS} {l1 l2 : Int} (h : (((if 0 ≤ l1 ∧ l1 ≤ 2 then (1 : Int) else 0) ≠ 0 → (((if (0 : Int) ≤ l2 ∧ l2 ≤ 999 then (1 : Int) else 0) ≠ 0 → (∃ (x2 : Int) (σ1 : SS), Rn (d + 7) 81 [vr 62 0, vi l1, vi l2] σ (vi x2) σ1 ∧ ((x2 < 0 → P (vi x2) σ1) ∧ (0 ≤ x2 → (((σ1 62 0 40) ≠ 0 → ((0 ≤ (σ1 62 0 39) ∧ 0 < (σ1 62 0 40)) ∧ ((0 ≤ (σ1 62 0 39) ∧ 0 < (σ1 62 0 40)) ∧ G (d + 7) P 84 38 [vr 62 0, vu, vu, vu, vi ((σ1 62 0 39) / (σ1 62 0 40)), vi ((σ1 62 0 39) % (σ1 62 0 40)), vi 0] [] σ1))) ∧ ((σ1 62 0 40) = 0 → P (vi x2) σ1)))))) ∧ ((if (0 : Int) ≤ l2 ∧ l2 ≤ 999 then (1 : Int) else 0) = 0 → P (vi ((-2) : Int)) σ))) ∧ ((if 0 ≤ l1 ∧ l1 ≤ 2 then (1 : Int) else 0) = 0 → P (vi ((-1) : Int)) σ))) : G (d + 7) P 84 0 [vr 62 0, vi l1, vi l2, vu, vu, vu, vu] [] σ := blk (S := S2) (c := cd_84) (bz := false) [(38, [true, false, false, false, true, true, true])] 600 (S2_ok (d + 5)) rfl rfl rfl h
-- RegionStackModel.mixed at 38, 9 leaves
set_option maxRecDepth 100000 in
set_option maxHeartbeats 4000000 in
theorem b_84_38 {d : Nat} {P : AV → SS → Prop} {σ : SS} {l4 l5 l6 : Int} (h : (((8388608 : Int) ≤ l4 → (ir ((2 : Int) * l5) ∧ (((σ 62 0 40) < ((2 : Int) * l5) → (ir (l4 + 1) ∧ (((l4 + 1) ≠ (16777216 : Int) → (ir (l6 + 23) ∧ (ir ((l6 + 23) + 127) ∧ (ir (((l6 + 23) + 127) * 8388608) ∧ (ir ((((l6 + 23) + 127) * 8388608) + (l4 + 1)) ∧ (ir (((((l6 + 23) + 127) * 8388608) + (l4 + 1)) - 8388608) ∧ P (vi (((((l6 + 23) + 127) * 8388608) + (l4 + 1)) - 8388608)) σ)))))) ∧ ((l4 + 1) = (16777216 : Int) → ((0 ≤ (l4 + 1) ∧ 0 < (2 : Int)) ∧ (ir (l6 + 1) ∧ (ir ((l6 + 1) + 23) ∧ (ir (((l6 + 1) + 23) + 127) ∧ (ir ((((l6 + 1) + 23) + 127) * 8388608) ∧ (ir (((((l6 + 1) + 23) + 127) * 8388608) + ((l4 + 1) / 2)) ∧ (ir ((((((l6 + 1) + 23) + 127) * 8388608) + ((l4 + 1) / 2)) - 8388608) ∧ P (vi ((((((l6 + 1) + 23) + 127) * 8388608) + ((l4 + 1) / 2)) - 8388608)) σ))))))))))) ∧ (((2 : Int) * l5) ≤ (σ 62 0 40) → (ir ((2 : Int) * l5) ∧ ((((2 : Int) * l5) ≠ (σ 62 0 40) → ((l4 ≠ (16777216 : Int) → (ir (l6 + 23) ∧ (ir ((l6 + 23) + 127) ∧ (ir (((l6 + 23) + 127) * 8388608) ∧ (ir ((((l6 + 23) + 127) * 8388608) + l4) ∧ (ir (((((l6 + 23) + 127) * 8388608) + l4) - 8388608) ∧ P (vi (((((l6 + 23) + 127) * 8388608) + l4) - 8388608)) σ)))))) ∧ (l4 = (16777216 : Int) → ((0 ≤ l4 ∧ 0 < (2 : Int)) ∧ (ir (l6 + 1) ∧ (ir ((l6 + 1) + 23) ∧ (ir (((l6 + 1) + 23) + 127) ∧ (ir ((((l6 + 1) + 23) + 127) * 8388608) ∧ (ir (((((l6 + 1) + 23) + 127) * 8388608) + (l4 / 2)) ∧ (ir ((((((l6 + 1) + 23) + 127) * 8388608) + (l4 / 2)) - 8388608) ∧ P (vi ((((((l6 + 1) + 23) + 127) * 8388608) + (l4 / 2)) - 8388608)) σ)))))))))) ∧ (((2 : Int) * l5) = (σ 62 0 40) → ((0 ≤ l4 ∧ 0 < (2 : Int)) ∧ (((l4 % 2) ≠ (1 : Int) → ((l4 ≠ (16777216 : Int) → (ir (l6 + 23) ∧ (ir ((l6 + 23) + 127) ∧ (ir (((l6 + 23) + 127) * 8388608) ∧ (ir ((((l6 + 23) + 127) * 8388608) + l4) ∧ (ir (((((l6 + 23) + 127) * 8388608) + l4) - 8388608) ∧ P (vi (((((l6 + 23) + 127) * 8388608) + l4) - 8388608)) σ)))))) ∧ (l4 = (16777216 : Int) → ((0 ≤ l4 ∧ 0 < (2 : Int)) ∧ (ir (l6 + 1) ∧ (ir ((l6 + 1) + 23) ∧ (ir (((l6 + 1) + 23) + 127) ∧ (ir ((((l6 + 1) + 23) + 127) * 8388608) ∧ (ir (((((l6 + 1) + 23) + 127) * 8388608) + (l4 / 2)) ∧ (ir ((((((l6 + 1) + 23) + 127) * 8388608) + (l4 / 2)) - 8388608) ∧ P (vi ((((((l6 + 1) + 23) + 127) * 8388608) + (l4 / 2)) - 8388608)) σ)))))))))) ∧ ((l4 % 2) = (1 : Int) → (ir (l4 + 1) ∧ (((l4 + 1) ≠ (16777216 : Int) → (ir (l6 + 23) ∧ (ir ((l6 + 23) + 127) ∧ (ir (((l6 + 23) + 127) * 8388608) ∧ (ir ((((l6 + 23) + 127) * 8388608) + (l4 + 1)) ∧ (ir (((((l6 + 23) + 127) * 8388608) + (l4 + 1)) - 8388608) ∧ P (vi (((((l6 + 23) + 127) * 8388608) + (l4 + 1)) - 8388608)) σ)))))) ∧ ((l4 + 1) = (16777216 : Int) → ((0 ≤ (l4 + 1) ∧ 0 < (2 : Int)) ∧ (ir (l6 + 1) ∧ (ir ((l6 + 1) + 23) ∧ (ir (((l6 + 1) + 23) + 127) ∧ (ir ((((l6 + 1) + 23) + 127) * 8388608) ∧ (ir (((((l6 + 1) + 23) + 127) * 8388608) + ((l4 + 1) / 2)) ∧ (ir ((((((l6 + 1) + 23) + 127) * 8388608) + ((l4 + 1) / 2)) - 8388608) ∧ P (vi ((((((l6 + 1) + 23) + 127) * 8388608) + ((l4 + 1) / 2)) - 8388608)) σ)))))))))))))))))))) ∧ (l4 < (8388608 : Int) → (ir (l5 * 2) ∧ (ir ((2 : Int) * l4) ∧ ((0 ≤ (l5 * 2) ∧ 0 < (σ 62 0 40)) ∧ (ir (((2 : Int) * l4) + ((l5 * 2) / (σ 62 0 40))) ∧ ((0 ≤ (l5 * 2) ∧ 0 < (σ 62 0 40)) ∧ (ir (l6 + (-1)) ∧ G (d + 7) P 84 38 [vr 62 0, vu, vu, vu, vi (((2 : Int) * l4) + ((l5 * 2) / (σ 62 0 40))), vi ((l5 * 2) % (σ 62 0 40)), vi (l6 + (-1))] [] σ))))))))) : G (d + 7) P 84 38 [vr 62 0, vu, vu, vu, vi l4, vi l5, vi l6] [] σ := blk (S := S2) (c := cd_84) (bz := false) [(38, [true, false, false, false, true, true, true])] 600 (S2_ok (d + 5)) rfl rfl rfl h
-- RegionStackModel.image at 0, 2 leaves
set_option maxRecDepth 100000 in
set_option maxHeartbeats 4000000 in
theorem b_85_0 {d : Nat} {P : AV → SS → Prop} {σ : SS} {l1 : Int} (h : (((if (0 : Int) ≤ l1 ∧ l1 ≤ 1 then (1 : Int) else 0) ≠ 0 → (ir ((130 : Int) * l1) ∧ G (d + 1) P 85 13 [vr 62 0, vi l1, vi ((130 : Int) * l1), vi 0] [] σ)) ∧ ((if (0 : Int) ≤ l1 ∧ l1 ≤ 1 then (1 : Int) else 0) = 0 → P (vi ((-2) : Int)) σ))) : G (d + 1) P 85 0 [vr 62 0, vi l1, vu, vu] [] σ := blk (S := S1) (c := cd_85) (bz := false) [(13, [true, true, true, true]), (54, [true, true, true, true])] 600 (S1_ok (d + 0)) rfl rfl rfl h
-- RegionStackModel.image at 13, 2 leaves
set_option maxRecDepth 100000 in
set_option maxHeartbeats 4000000 in
theorem b_85_13 {d : Nat} {P : AV → SS → Prop} {σ : SS} {l1 l2 l3 : Int} (h : (((3 : Int) ≤ l3 → G (d + 1) P 85 54 [vr 62 0, vi l1, vi l2, vi 0] [] σ) ∧ (l3 < (3 : Int) → (ir (l2 + l3) ∧ ((0 ≤ l3 ∧ l3 < 3) ∧ ((0 ≤ (l2 + l3) ∧ (l2 + l3) < 260) ∧ (∀ σ1 : SS, σ1 = up σ 89 0 (l2 + l3) (σ 63 0 l3) → (ir (l2 + 3) ∧ (ir ((l2 + 3) + l3) ∧ ((0 ≤ l3 ∧ l3 < 3) ∧ ((0 ≤ ((l2 + 3) + l3) ∧ ((l2 + 3) + l3) < 260) ∧ (∀ σ2 : SS, σ2 = up σ1 89 0 ((l2 + 3) + l3) (σ1 64 0 l3) → (ir (l2 + 6) ∧ (ir ((l2 + 6) + l3) ∧ ((0 ≤ l3 ∧ l3 < 3) ∧ ((0 ≤ ((l2 + 6) + l3) ∧ ((l2 + 6) + l3) < 260) ∧ (∀ σ3 : SS, σ3 = up σ2 89 0 ((l2 + 6) + l3) (σ2 65 0 l3) → (ir (l3 + 1) ∧ G (d + 1) P 85 13 [vr 62 0, vi l1, vi l2, vi (l3 + 1)] [] σ3)))))))))))))))))) : G (d + 1) P 85 13 [vr 62 0, vi l1, vi l2, vi l3] [] σ := blk (S := S1) (c := cd_85) (bz := false) [(13, [true, true, true, true]), (54, [true, true, true, true])] 600 (S1_ok (d + 0)) rfl rfl rfl h
-- RegionStackModel.image at 54, 2 leaves
set_option maxRecDepth 100000 in
set_option maxHeartbeats 4000000 in
theorem b_85_54 {d : Nat} {P : AV → SS → Prop} {σ : SS} {l1 l2 l3 : Int} (h : (((120 : Int) ≤ l3 → (((0 ≤ l1 ∧ l1 < 2) ∧ ((1 : Int) = 0 ∨ (1 : Int) = 1)) ∧ (∀ σ1 : SS, σ1 = up σ 90 0 l1 (1 : Int) → P (vi (1 : Int)) σ1))) ∧ (l3 < (120 : Int) → (ir (l2 + 9) ∧ (ir ((l2 + 9) + l3) ∧ ((0 ≤ l3 ∧ l3 < 120) ∧ ((0 ≤ ((l2 + 9) + l3) ∧ ((l2 + 9) + l3) < 260) ∧ (∀ σ2 : SS, σ2 = up σ 89 0 ((l2 + 9) + l3) (σ 66 0 l3) → (ir (l3 + 1) ∧ G (d + 1) P 85 54 [vr 62 0, vi l1, vi l2, vi (l3 + 1)] [] σ2))))))))) : G (d + 1) P 85 54 [vr 62 0, vi l1, vi l2, vi l3] [] σ := blk (S := S1) (c := cd_85) (bz := false) [(13, [true, true, true, true]), (54, [true, true, true, true])] 600 (S1_ok (d + 0)) rfl rfl rfl h
-- RegionStackModel.restore at 0, 3 leaves
set_option maxRecDepth 100000 in
set_option maxHeartbeats 4000000 in
theorem b_86_0 {d : Nat} {P : AV → SS → Prop} {σ : SS} {l1 : Int} (h : (((if (0 : Int) ≤ l1 ∧ l1 ≤ 1 then (1 : Int) else 0) ≠ 0 → ((0 ≤ l1 ∧ l1 < 2) ∧ (((σ 90 0 l1) ≠ 0 → (ir ((130 : Int) * l1) ∧ G (d + 1) P 86 20 [vr 62 0, vu, vi ((130 : Int) * l1), vi 0] [] σ)) ∧ ((σ 90 0 l1) = 0 → P (vi ((-3) : Int)) σ)))) ∧ ((if (0 : Int) ≤ l1 ∧ l1 ≤ 1 then (1 : Int) else 0) = 0 → P (vi ((-2) : Int)) σ))) : G (d + 1) P 86 0 [vr 62 0, vi l1, vu, vu] [] σ := blk (S := S1) (c := cd_86) (bz := false) [(20, [true, false, true, true]), (61, [true, false, true, true])] 600 (S1_ok (d + 0)) rfl rfl rfl h
-- RegionStackModel.restore at 20, 2 leaves
set_option maxRecDepth 100000 in
set_option maxHeartbeats 4000000 in
theorem b_86_20 {d : Nat} {P : AV → SS → Prop} {σ : SS} {l2 l3 : Int} (h : (((3 : Int) ≤ l3 → G (d + 1) P 86 61 [vr 62 0, vu, vi l2, vi 0] [] σ) ∧ (l3 < (3 : Int) → (ir (l2 + l3) ∧ ((0 ≤ (l2 + l3) ∧ (l2 + l3) < 260) ∧ ((0 ≤ l3 ∧ l3 < 3) ∧ (∀ σ1 : SS, σ1 = up σ 63 0 l3 (σ 89 0 (l2 + l3)) → (ir (l2 + 3) ∧ (ir ((l2 + 3) + l3) ∧ ((0 ≤ ((l2 + 3) + l3) ∧ ((l2 + 3) + l3) < 260) ∧ ((0 ≤ l3 ∧ l3 < 3) ∧ (∀ σ2 : SS, σ2 = up σ1 64 0 l3 (σ1 89 0 ((l2 + 3) + l3)) → (ir (l2 + 6) ∧ (ir ((l2 + 6) + l3) ∧ ((0 ≤ ((l2 + 6) + l3) ∧ ((l2 + 6) + l3) < 260) ∧ ((0 ≤ l3 ∧ l3 < 3) ∧ (∀ σ3 : SS, σ3 = up σ2 65 0 l3 (σ2 89 0 ((l2 + 6) + l3)) → (ir (l3 + 1) ∧ G (d + 1) P 86 20 [vr 62 0, vu, vi l2, vi (l3 + 1)] [] σ3)))))))))))))))))) : G (d + 1) P 86 20 [vr 62 0, vu, vi l2, vi l3] [] σ := blk (S := S1) (c := cd_86) (bz := false) [(20, [true, false, true, true]), (61, [true, false, true, true])] 600 (S1_ok (d + 0)) rfl rfl rfl h
-- RegionStackModel.restore at 61, 2 leaves
set_option maxRecDepth 100000 in
set_option maxHeartbeats 4000000 in
theorem b_86_61 {d : Nat} {P : AV → SS → Prop} {σ : SS} {l2 l3 : Int} (h : (((120 : Int) ≤ l3 → P (vi (1 : Int)) σ) ∧ (l3 < (120 : Int) → (ir (l2 + 9) ∧ (ir ((l2 + 9) + l3) ∧ ((0 ≤ ((l2 + 9) + l3) ∧ ((l2 + 9) + l3) < 260) ∧ ((0 ≤ l3 ∧ l3 < 120) ∧ (∀ σ1 : SS, σ1 = up σ 66 0 l3 (σ 89 0 ((l2 + 9) + l3)) → (ir (l3 + 1) ∧ G (d + 1) P 86 61 [vr 62 0, vu, vi l2, vi (l3 + 1)] [] σ1))))))))) : G (d + 1) P 86 61 [vr 62 0, vu, vi l2, vi l3] [] σ := blk (S := S1) (c := cd_86) (bz := false) [(20, [true, false, true, true]), (61, [true, false, true, true])] 600 (S1_ok (d + 0)) rfl rfl rfl h
-- RegionStackModel.told at 0, 7 leaves
set_option maxRecDepth 100000 in
set_option maxHeartbeats 4000000 in
theorem b_87_0 {d : Nat} {P : AV → SS → Prop} {σ : SS} {l1 : Int} (h : ((l1 < (100 : Int) → ((l1 < (10 : Int) → (((if 0 ≤ l1 ∧ l1 ≤ 2 then (1 : Int) else 0) = 0 → P (vi ((-2) : Int)) σ) ∧ ((if 0 ≤ l1 ∧ l1 ≤ 2 then (1 : Int) else 0) ≠ 0 → ((0 ≤ l1 ∧ l1 < 3) ∧ P (vi (σ 65 0 l1)) σ)))) ∧ ((10 : Int) ≤ l1 → (((13 : Int) ≤ l1 → P (vi ((-2) : Int)) σ) ∧ (l1 < (13 : Int) → (ir (l1 - 10) ∧ ((0 ≤ (l1 - 10) ∧ (l1 - 10) < 3) ∧ (ir ((10 : Int) * (σ 63 0 (l1 - 10))) ∧ (ir (l1 - 10) ∧ ((0 ≤ (l1 - 10) ∧ (l1 - 10) < 3) ∧ (ir (((10 : Int) * (σ 63 0 (l1 - 10))) + (σ 64 0 (l1 - 10))) ∧ P (vi (((10 : Int) * (σ 63 0 (l1 - 10))) + (σ 64 0 (l1 - 10)))) σ))))))))))) ∧ ((100 : Int) ≤ l1 → ((0 ≤ l1 ∧ 0 < (100 : Int)) ∧ (ir ((l1 / 100) - 1) ∧ ((0 ≤ l1 ∧ 0 < (100 : Int)) ∧ (((if 0 ≤ ((l1 / 100) - 1) ∧ ((l1 / 100) - 1) ≤ 2 then (1 : Int) else 0) = 0 → P (vi ((-2) : Int)) σ) ∧ ((if 0 ≤ ((l1 / 100) - 1) ∧ ((l1 / 100) - 1) ≤ 2 then (1 : Int) else 0) ≠ 0 → ((0 ≤ ((l1 / 100) - 1) ∧ ((l1 / 100) - 1) < 3) ∧ (((σ 65 0 ((l1 / 100) - 1)) ≤ (l1 % 100) → P (vi ((-2) : Int)) σ) ∧ ((l1 % 100) < (σ 65 0 ((l1 / 100) - 1)) → (ir ((40 : Int) * ((l1 / 100) - 1)) ∧ (ir (((40 : Int) * ((l1 / 100) - 1)) + (l1 % 100)) ∧ ((0 ≤ (((40 : Int) * ((l1 / 100) - 1)) + (l1 % 100)) ∧ (((40 : Int) * ((l1 / 100) - 1)) + (l1 % 100)) < 120) ∧ P (vi (σ 66 0 (((40 : Int) * ((l1 / 100) - 1)) + (l1 % 100)))) σ)))))))))))))) : G (d + 2) P 87 0 [vr 62 0, vi l1, vu, vu] [] σ := blk (S := S2) (c := cd_87) (bz := false) [] 600 (S2_ok (d + 0)) rfl rfl rfl h
end
section
-- the law at its head, 36 leaves
set_option maxRecDepth 100000 in
set_option maxHeartbeats 4000000 in
theorem b_140_10 {d : Nat} {P : AV → SS → Prop} {σ : SS} {l3 : Int} (h : (ir ((σ 99 0 (-1)) - 4) ∧ ((((σ 99 0 (-1)) - 4) < l3 → (((1 : Int) = 0 ∨ (1 : Int) = 1) ∧ P (vi (1 : Int)) σ)) ∧ (l3 ≤ ((σ 99 0 (-1)) - 4) → ((0 ≤ l3 ∧ l3 < (σ 99 0 (-1))) ∧ ((31 : Int) = 31 ∧ ((((σ 99 0 l3) % 32) < 0 ∨ 16 < ((σ 99 0 l3) % 32) → (ir (l3 + 4) ∧ G d P 140 10 [vr 99 0, vr 0 0, vr 62 0, vi (l3 + 4)] [] σ)) ∧ ((((σ 99 0 l3) % 32) = 0 → (ir (l3 + 1) ∧ ((0 ≤ (l3 + 1) ∧ (l3 + 1) < (σ 99 0 (-1))) ∧ (ir (l3 + 2) ∧ ((0 ≤ (l3 + 2) ∧ (l3 + 2) < (σ 99 0 (-1))) ∧ (ir (l3 + 3) ∧ ((0 ≤ (l3 + 3) ∧ (l3 + 3) < (σ 99 0 (-1))) ∧ (∃ (x2 : Int) (σ1 : SS), Rn d 26 [vr 0 0, vi (σ 99 0 (l3 + 1)), vi (σ 99 0 (l3 + 2)), vi (σ 99 0 (l3 + 3))] σ (vi x2) σ1 ∧ (ir (l3 + 1) ∧ ((0 ≤ (l3 + 1) ∧ (l3 + 1) < (σ1 99 0 (-1))) ∧ (ir (l3 + 2) ∧ ((0 ≤ (l3 + 2) ∧ (l3 + 2) < (σ1 99 0 (-1))) ∧ (ir (l3 + 3) ∧ ((0 ≤ (l3 + 3) ∧ (l3 + 3) < (σ1 99 0 (-1))) ∧ (∃ (x4 : Int) (σ3 : SS), Rn d 48 [vr 62 0, vi (σ1 99 0 (l3 + 1)), vi (σ1 99 0 (l3 + 2)), vi (σ1 99 0 (l3 + 3))] σ1 (vi x4) σ3 ∧ ((x2 = x4 → (ir (l3 + 4) ∧ G d P 140 10 [vr 99 0, vr 0 0, vr 62 0, vi (l3 + 4)] [] σ3)) ∧ (x2 ≠ x4 → (((0 : Int) = 0 ∨ (0 : Int) = 1) ∧ P (vi (0 : Int)) σ3)))))))))))))))))) ∧ ((((σ 99 0 l3) % 32) = (0 + 1) → (ir (l3 + 1) ∧ ((0 ≤ (l3 + 1) ∧ (l3 + 1) < (σ 99 0 (-1))) ∧ (ir (l3 + 2) ∧ ((0 ≤ (l3 + 2) ∧ (l3 + 2) < (σ 99 0 (-1))) ∧ (∃ (x6 : Int) (σ5 : SS), Rn d 27 [vr 0 0, vi (σ 99 0 (l3 + 1)), vi (σ 99 0 (l3 + 2))] σ (vi x6) σ5 ∧ (ir (l3 + 1) ∧ ((0 ≤ (l3 + 1) ∧ (l3 + 1) < (σ5 99 0 (-1))) ∧ (ir (l3 + 2) ∧ ((0 ≤ (l3 + 2) ∧ (l3 + 2) < (σ5 99 0 (-1))) ∧ (∃ (x8 : Int) (σ7 : SS), Rn d 49 [vr 62 0, vi (σ5 99 0 (l3 + 1)), vi (σ5 99 0 (l3 + 2))] σ5 (vi x8) σ7 ∧ ((x6 = x8 → (ir (l3 + 4) ∧ G d P 140 10 [vr 99 0, vr 0 0, vr 62 0, vi (l3 + 4)] [] σ7)) ∧ (x6 ≠ x8 → (((0 : Int) = 0 ∨ (0 : Int) = 1) ∧ P (vi (0 : Int)) σ7)))))))))))))) ∧ ((((σ 99 0 l3) % 32) = ((0 + 1) + 1) → (ir (l3 + 1) ∧ ((0 ≤ (l3 + 1) ∧ (l3 + 1) < (σ 99 0 (-1))) ∧ (∃ (x10 : Int) (σ9 : SS), Rn d 28 [vr 0 0, vi (σ 99 0 (l3 + 1))] σ (vi x10) σ9 ∧ (ir (l3 + 1) ∧ ((0 ≤ (l3 + 1) ∧ (l3 + 1) < (σ9 99 0 (-1))) ∧ (∃ (x12 : Int) (σ11 : SS), Rn d 50 [vr 62 0, vi (σ9 99 0 (l3 + 1))] σ9 (vi x12) σ11 ∧ ((x10 = x12 → (ir (l3 + 4) ∧ G d P 140 10 [vr 99 0, vr 0 0, vr 62 0, vi (l3 + 4)] [] σ11)) ∧ (x10 ≠ x12 → (((0 : Int) = 0 ∨ (0 : Int) = 1) ∧ P (vi (0 : Int)) σ11)))))))))) ∧ ((((σ 99 0 l3) % 32) = (((0 + 1) + 1) + 1) → (ir (l3 + 1) ∧ ((0 ≤ (l3 + 1) ∧ (l3 + 1) < (σ 99 0 (-1))) ∧ (∃ (x14 : Int) (σ13 : SS), Rn d 29 [vr 0 0, vi (σ 99 0 (l3 + 1))] σ (vi x14) σ13 ∧ (ir (l3 + 1) ∧ ((0 ≤ (l3 + 1) ∧ (l3 + 1) < (σ13 99 0 (-1))) ∧ (∃ (x16 : Int) (σ15 : SS), Rn d 52 [vr 62 0, vi (σ13 99 0 (l3 + 1))] σ13 (vi x16) σ15 ∧ ((x14 = x16 → (ir (l3 + 4) ∧ G d P 140 10 [vr 99 0, vr 0 0, vr 62 0, vi (l3 + 4)] [] σ15)) ∧ (x14 ≠ x16 → (((0 : Int) = 0 ∨ (0 : Int) = 1) ∧ P (vi (0 : Int)) σ15)))))))))) ∧ ((((σ 99 0 l3) % 32) = ((((0 + 1) + 1) + 1) + 1) → (ir (l3 + 1) ∧ ((0 ≤ (l3 + 1) ∧ (l3 + 1) < (σ 99 0 (-1))) ∧ (ir (l3 + 2) ∧ ((0 ≤ (l3 + 2) ∧ (l3 + 2) < (σ 99 0 (-1))) ∧ (∃ (x18 : Int) (σ17 : SS), Rn d 30 [vr 0 0, vi (σ 99 0 (l3 + 1)), vi (σ 99 0 (l3 + 2))] σ (vi x18) σ17 ∧ (ir (l3 + 1) ∧ ((0 ≤ (l3 + 1) ∧ (l3 + 1) < (σ17 99 0 (-1))) ∧ (ir (l3 + 2) ∧ ((0 ≤ (l3 + 2) ∧ (l3 + 2) < (σ17 99 0 (-1))) ∧ (∃ (x20 : Int) (σ19 : SS), Rn d 57 [vr 62 0, vi (σ17 99 0 (l3 + 1)), vi (σ17 99 0 (l3 + 2))] σ17 (vi x20) σ19 ∧ ((x18 = x20 → (ir (l3 + 4) ∧ G d P 140 10 [vr 99 0, vr 0 0, vr 62 0, vi (l3 + 4)] [] σ19)) ∧ (x18 ≠ x20 → (((0 : Int) = 0 ∨ (0 : Int) = 1) ∧ P (vi (0 : Int)) σ19)))))))))))))) ∧ ((((σ 99 0 l3) % 32) = (((((0 + 1) + 1) + 1) + 1) + 1) → (ir (l3 + 1) ∧ ((0 ≤ (l3 + 1) ∧ (l3 + 1) < (σ 99 0 (-1))) ∧ (ir (l3 + 2) ∧ ((0 ≤ (l3 + 2) ∧ (l3 + 2) < (σ 99 0 (-1))) ∧ (∃ (x22 : Int) (σ21 : SS), Rn d 31 [vr 0 0, vi (σ 99 0 (l3 + 1)), vi (σ 99 0 (l3 + 2))] σ (vi x22) σ21 ∧ (ir (l3 + 1) ∧ ((0 ≤ (l3 + 1) ∧ (l3 + 1) < (σ21 99 0 (-1))) ∧ (ir (l3 + 2) ∧ ((0 ≤ (l3 + 2) ∧ (l3 + 2) < (σ21 99 0 (-1))) ∧ (∃ (x24 : Int) (σ23 : SS), Rn d 58 [vr 62 0, vi (σ21 99 0 (l3 + 1)), vi (σ21 99 0 (l3 + 2))] σ21 (vi x24) σ23 ∧ ((x22 = x24 → (ir (l3 + 4) ∧ G d P 140 10 [vr 99 0, vr 0 0, vr 62 0, vi (l3 + 4)] [] σ23)) ∧ (x22 ≠ x24 → (((0 : Int) = 0 ∨ (0 : Int) = 1) ∧ P (vi (0 : Int)) σ23)))))))))))))) ∧ ((((σ 99 0 l3) % 32) = ((((((0 + 1) + 1) + 1) + 1) + 1) + 1) → (∃ (x26 : Int) (σ25 : SS), Rn d 32 [vr 0 0] σ (vi x26) σ25 ∧ (∃ (x28 : Int) (σ27 : SS), Rn d 60 [vr 62 0] σ25 (vi x28) σ27 ∧ ((x26 = x28 → (ir (l3 + 4) ∧ G d P 140 10 [vr 99 0, vr 0 0, vr 62 0, vi (l3 + 4)] [] σ27)) ∧ (x26 ≠ x28 → (((0 : Int) = 0 ∨ (0 : Int) = 1) ∧ P (vi (0 : Int)) σ27)))))) ∧ ((((σ 99 0 l3) % 32) = (((((((0 + 1) + 1) + 1) + 1) + 1) + 1) + 1) → (ir (l3 + 1) ∧ ((0 ≤ (l3 + 1) ∧ (l3 + 1) < (σ 99 0 (-1))) ∧ (ir (l3 + 2) ∧ ((0 ≤ (l3 + 2) ∧ (l3 + 2) < (σ 99 0 (-1))) ∧ (∃ (x30 : Int) (σ29 : SS), Rn d 33 [vr 0 0, vi (σ 99 0 (l3 + 1)), vi (σ 99 0 (l3 + 2))] σ (vi x30) σ29 ∧ (ir (l3 + 1) ∧ ((0 ≤ (l3 + 1) ∧ (l3 + 1) < (σ29 99 0 (-1))) ∧ (ir (l3 + 2) ∧ ((0 ≤ (l3 + 2) ∧ (l3 + 2) < (σ29 99 0 (-1))) ∧ (∃ (x32 : Int) (σ31 : SS), Rn d 68 [vr 62 0, vi (σ29 99 0 (l3 + 1)), vi (σ29 99 0 (l3 + 2))] σ29 (vi x32) σ31 ∧ ((x30 = x32 → (ir (l3 + 4) ∧ G d P 140 10 [vr 99 0, vr 0 0, vr 62 0, vi (l3 + 4)] [] σ31)) ∧ (x30 ≠ x32 → (((0 : Int) = 0 ∨ (0 : Int) = 1) ∧ P (vi (0 : Int)) σ31)))))))))))))) ∧ ((((σ 99 0 l3) % 32) = ((((((((0 + 1) + 1) + 1) + 1) + 1) + 1) + 1) + 1) → (ir (l3 + 1) ∧ ((0 ≤ (l3 + 1) ∧ (l3 + 1) < (σ 99 0 (-1))) ∧ (ir (l3 + 2) ∧ ((0 ≤ (l3 + 2) ∧ (l3 + 2) < (σ 99 0 (-1))) ∧ (∃ (x34 : Int) (σ33 : SS), Rn d 34 [vr 0 0, vi (σ 99 0 (l3 + 1)), vi (σ 99 0 (l3 + 2))] σ (vi x34) σ33 ∧ (ir (l3 + 1) ∧ ((0 ≤ (l3 + 1) ∧ (l3 + 1) < (σ33 99 0 (-1))) ∧ (ir (l3 + 2) ∧ ((0 ≤ (l3 + 2) ∧ (l3 + 2) < (σ33 99 0 (-1))) ∧ (∃ (x36 : Int) (σ35 : SS), Rn d 69 [vr 62 0, vi (σ33 99 0 (l3 + 1)), vi (σ33 99 0 (l3 + 2))] σ33 (vi x36) σ35 ∧ ((x34 = x36 → (ir (l3 + 4) ∧ G d P 140 10 [vr 99 0, vr 0 0, vr 62 0, vi (l3 + 4)] [] σ35)) ∧ (x34 ≠ x36 → (((0 : Int) = 0 ∨ (0 : Int) = 1) ∧ P (vi (0 : Int)) σ35)))))))))))))) ∧ ((((σ 99 0 l3) % 32) = (((((((((0 + 1) + 1) + 1) + 1) + 1) + 1) + 1) + 1) + 1) → (ir (l3 + 1) ∧ ((0 ≤ (l3 + 1) ∧ (l3 + 1) < (σ 99 0 (-1))) ∧ (ir (l3 + 2) ∧ ((0 ≤ (l3 + 2) ∧ (l3 + 2) < (σ 99 0 (-1))) ∧ (∃ (x38 : Int) (σ37 : SS), Rn d 35 [vr 0 0, vi (σ 99 0 (l3 + 1)), vi (σ 99 0 (l3 + 2))] σ (vi x38) σ37 ∧ (ir (l3 + 1) ∧ ((0 ≤ (l3 + 1) ∧ (l3 + 1) < (σ37 99 0 (-1))) ∧ (ir (l3 + 2) ∧ ((0 ≤ (l3 + 2) ∧ (l3 + 2) < (σ37 99 0 (-1))) ∧ (∃ (x40 : Int) (σ39 : SS), Rn d 70 [vr 62 0, vi (σ37 99 0 (l3 + 1)), vi (σ37 99 0 (l3 + 2))] σ37 (vi x40) σ39 ∧ ((x38 = x40 → (ir (l3 + 4) ∧ G d P 140 10 [vr 99 0, vr 0 0, vr 62 0, vi (l3 + 4)] [] σ39)) ∧ (x38 ≠ x40 → (((0 : Int) = 0 ∨ (0 : Int) = 1) ∧ P (vi (0 : Int)) σ39)))))))))))))) ∧ ((((σ 99 0 l3) % 32) = ((((((((((0 + 1) + 1) + 1) + 1) + 1) + 1) + 1) + 1) + 1) + 1) → (ir (l3 + 1) ∧ ((0 ≤ (l3 + 1) ∧ (l3 + 1) < (σ 99 0 (-1))) ∧ (ir (l3 + 2) ∧ ((0 ≤ (l3 + 2) ∧ (l3 + 2) < (σ 99 0 (-1))) ∧ (ir (l3 + 3) ∧ ((0 ≤ (l3 + 3) ∧ (l3 + 3) < (σ 99 0 (-1))) ∧ (∃ (x42 : Int) (σ41 : SS), Rn d 36 [vr 0 0, vi (σ 99 0 (l3 + 1)), vi (σ 99 0 (l3 + 2)), vi (σ 99 0 (l3 + 3))] σ (vi x42) σ41 ∧ (ir (l3 + 1) ∧ ((0 ≤ (l3 + 1) ∧ (l3 + 1) < (σ41 99 0 (-1))) ∧ (ir (l3 + 2) ∧ ((0 ≤ (l3 + 2) ∧ (l3 + 2) < (σ41 99 0 (-1))) ∧ (ir (l3 + 3) ∧ ((0 ≤ (l3 + 3) ∧ (l3 + 3) < (σ41 99 0 (-1))) ∧ (∃ (x44 : Int) (σ43 : SS), Rn d 71 [vr 62 0, vi (σ41 99 0 (l3 + 1)), vi (σ41 99 0 (l3 + 2)), vi (σ41 99 0 (l3 + 3))] σ41 (vi x44) σ43 ∧ ((x42 = x44 → (ir (l3 + 4) ∧ G d P 140 10 [vr 99 0, vr 0 0, vr 62 0, vi (l3 + 4)] [] σ43)) ∧ (x42 ≠ x44 → (((0 : Int) = 0 ∨ (0 : Int) = 1) ∧ P (vi (0 : Int)) σ43)))))))))))))))))) ∧ ((((σ 99 0 l3) % 32) = (((((((((((0 + 1) + 1) + 1) + 1) + 1) + 1) + 1) + 1) + 1) + 1) + 1) → (ir (l3 + 1) ∧ ((0 ≤ (l3 + 1) ∧ (l3 + 1) < (σ 99 0 (-1))) ∧ (ir (l3 + 2) ∧ ((0 ≤ (l3 + 2) ∧ (l3 + 2) < (σ 99 0 (-1))) ∧ (ir (l3 + 3) ∧ ((0 ≤ (l3 + 3) ∧ (l3 + 3) < (σ 99 0 (-1))) ∧ (∃ (x46 : Int) (σ45 : SS), Rn d 37 [vr 0 0, vi (σ 99 0 (l3 + 1)), vi (σ 99 0 (l3 + 2)), vi (σ 99 0 (l3 + 3))] σ (vi x46) σ45 ∧ (ir (l3 + 1) ∧ ((0 ≤ (l3 + 1) ∧ (l3 + 1) < (σ45 99 0 (-1))) ∧ (ir (l3 + 2) ∧ ((0 ≤ (l3 + 2) ∧ (l3 + 2) < (σ45 99 0 (-1))) ∧ (ir (l3 + 3) ∧ ((0 ≤ (l3 + 3) ∧ (l3 + 3) < (σ45 99 0 (-1))) ∧ (∃ (x48 : Int) (σ47 : SS), Rn d 82 [vr 62 0, vi (σ45 99 0 (l3 + 1)), vi (σ45 99 0 (l3 + 2)), vi (σ45 99 0 (l3 + 3))] σ45 (vi x48) σ47 ∧ ((x46 = x48 → (ir (l3 + 4) ∧ G d P 140 10 [vr 99 0, vr 0 0, vr 62 0, vi (l3 + 4)] [] σ47)) ∧ (x46 ≠ x48 → (((0 : Int) = 0 ∨ (0 : Int) = 1) ∧ P (vi (0 : Int)) σ47)))))))))))))))))) ∧ ((((σ 99 0 l3) % 32) = ((((((((((((0 + 1) + 1) + 1) + 1) + 1) + 1) + 1) + 1) + 1) + 1) + 1) + 1) → (ir (l3 + 1) ∧ ((0 ≤ (l3 + 1) ∧ (l3 + 1) < (σ 99 0 (-1))) ∧ (ir (l3 + 2) ∧ ((0 ≤ (l3 + 2) ∧ (l3 + 2) < (σ 99 0 (-1))) ∧ (ir (l3 + 3) ∧ ((0 ≤ (l3 + 3) ∧ (l3 + 3) < (σ 99 0 (-1))) ∧ (∃ (x50 : Int) (σ49 : SS), Rn d 38 [vr 0 0, vi (σ 99 0 (l3 + 1)), vi (σ 99 0 (l3 + 2)), vi (σ 99 0 (l3 + 3))] σ (vi x50) σ49 ∧ (ir (l3 + 1) ∧ ((0 ≤ (l3 + 1) ∧ (l3 + 1) < (σ49 99 0 (-1))) ∧ (ir (l3 + 2) ∧ ((0 ≤ (l3 + 2) ∧ (l3 + 2) < (σ49 99 0 (-1))) ∧ (ir (l3 + 3) ∧ ((0 ≤ (l3 + 3) ∧ (l3 + 3) < (σ49 99 0 (-1))) ∧ (∃ (x52 : Int) (σ51 : SS), Rn d 83 [vr 62 0, vi (σ49 99 0 (l3 + 1)), vi (σ49 99 0 (l3 + 2)), vi (σ49 99 0 (l3 + 3))] σ49 (vi x52) σ51 ∧ ((x50 = x52 → (ir (l3 + 4) ∧ G d P 140 10 [vr 99 0, vr 0 0, vr 62 0, vi (l3 + 4)] [] σ51)) ∧ (x50 ≠ x52 → (((0 : Int) = 0 ∨ (0 : Int) = 1) ∧ P (vi (0 : Int)) σ51)))))))))))))))))) ∧ ((((σ 99 0 l3) % 32) = (((((((((((((0 + 1) + 1) + 1) + 1) + 1) + 1) + 1) + 1) + 1) + 1) + 1) + 1) + 1) → (ir (l3 + 1) ∧ ((0 ≤ (l3 + 1) ∧ (l3 + 1) < (σ 99 0 (-1))) ∧ (ir (l3 + 2) ∧ ((0 ≤ (l3 + 2) ∧ (l3 + 2) < (σ 99 0 (-1))) ∧ (∃ (x54 : Int) (σ53 : SS), Rn d 39 [vr 0 0, vi (σ 99 0 (l3 + 1)), vi (σ 99 0 (l3 + 2))] σ (vi x54) σ53 ∧ (ir (l3 + 1) ∧ ((0 ≤ (l3 + 1) ∧ (l3 + 1) < (σ53 99 0 (-1))) ∧ (ir (l3 + 2) ∧ ((0 ≤ (l3 + 2) ∧ (l3 + 2) < (σ53 99 0 (-1))) ∧ (∃ (x56 : Int) (σ55 : SS), Rn d 84 [vr 62 0, vi (σ53 99 0 (l3 + 1)), vi (σ53 99 0 (l3 + 2))] σ53 (vi x56) σ55 ∧ ((x54 = x56 → (ir (l3 + 4) ∧ G d P 140 10 [vr 99 0, vr 0 0, vr 62 0, vi (l3 + 4)] [] σ55)) ∧ (x54 ≠ x56 → (((0 : Int) = 0 ∨ (0 : Int) = 1) ∧ P (vi (0 : Int)) σ55)))))))))))))) ∧ ((((σ 99 0 l3) % 32) = ((((((((((((((0 + 1) + 1) + 1) + 1) + 1) + 1) + 1) + 1) + 1) + 1) + 1) + 1) + 1) + 1) → (ir (l3 + 1) ∧ ((0 ≤ (l3 + 1) ∧ (l3 + 1) < (σ 99 0 (-1))) ∧ (∃ (x58 : Int) (σ57 : SS), Rn d 40 [vr 0 0, vi (σ 99 0 (l3 + 1))] σ (vi x58) σ57 ∧ (ir (l3 + 1) ∧ ((0 ≤ (l3 + 1) ∧ (l3 + 1) < (σ57 99 0 (-1))) ∧ (∃ (x60 : Int) (σ59 : SS), Rn d 85 [vr 62 0, vi (σ57 99 0 (l3 + 1))] σ57 (vi x60) σ59 ∧ ((x58 = x60 → (ir (l3 + 4) ∧ G d P 140 10 [vr 99 0, vr 0 0, vr 62 0, vi (l3 + 4)] [] σ59)) ∧ (x58 ≠ x60 → (((0 : Int) = 0 ∨ (0 : Int) = 1) ∧ P (vi (0 : Int)) σ59)))))))))) ∧ ((((σ 99 0 l3) % 32) = (((((((((((((((0 + 1) + 1) + 1) + 1) + 1) + 1) + 1) + 1) + 1) + 1) + 1) + 1) + 1) + 1) + 1) → (ir (l3 + 1) ∧ ((0 ≤ (l3 + 1) ∧ (l3 + 1) < (σ 99 0 (-1))) ∧ (∃ (x62 : Int) (σ61 : SS), Rn d 41 [vr 0 0, vi (σ 99 0 (l3 + 1))] σ (vi x62) σ61 ∧ (ir (l3 + 1) ∧ ((0 ≤ (l3 + 1) ∧ (l3 + 1) < (σ61 99 0 (-1))) ∧ (∃ (x64 : Int) (σ63 : SS), Rn d 86 [vr 62 0, vi (σ61 99 0 (l3 + 1))] σ61 (vi x64) σ63 ∧ ((x62 = x64 → (ir (l3 + 4) ∧ G d P 140 10 [vr 99 0, vr 0 0, vr 62 0, vi (l3 + 4)] [] σ63)) ∧ (x62 ≠ x64 → (((0 : Int) = 0 ∨ (0 : Int) = 1) ∧ P (vi (0 : Int)) σ63)))))))))) ∧ ((((σ 99 0 l3) % 32) = ((((((((((((((((0 + 1) + 1) + 1) + 1) + 1) + 1) + 1) + 1) + 1) + 1) + 1) + 1) + 1) + 1) + 1) + 1) → (ir (l3 + 1) ∧ ((0 ≤ (l3 + 1) ∧ (l3 + 1) < (σ 99 0 (-1))) ∧ (∃ (x66 : Int) (σ65 : SS), Rn d 42 [vr 0 0, vi (σ 99 0 (l3 + 1))] σ (vi x66) σ65 ∧ (ir (l3 + 1) ∧ ((0 ≤ (l3 + 1) ∧ (l3 + 1) < (σ65 99 0 (-1))) ∧ (∃ (x68 : Int) (σ67 : SS), Rn d 87 [vr 62 0, vi (σ65 99 0 (l3 + 1))] σ65 (vi x68) σ67 ∧ ((x66 = x68 → (ir (l3 + 4) ∧ G d P 140 10 [vr 99 0, vr 0 0, vr 62 0, vi (l3 + 4)] [] σ67)) ∧ (x66 ≠ x68 → (((0 : Int) = 0 ∨ (0 : Int) = 1) ∧ P (vi (0 : Int)) σ67)))))))))) ∧ True)))))))))))))))))))))))) : G d P 140 10 [vr 99 0, vr 0 0, vr 62 0, vi l3] [] σ := blk (S := noS) (c := cd_140) (bz := true) [(10, [true, true, true, true])] 600 (SV_no _) rfl rfl rfl h
/-- both sides answer alike, at call number k -/
def Agr (I : Nat → SS → Prop) (yc ym : Nat) (as : List AV) : Prop := ∀ (k : Nat) (σ : SS), k < 512 → I k σ → ∃ x σ1 σ2, Rn 9 yc (vr 0 0 :: as) σ (vi x) σ1 ∧ Rn 9 ym (vr 62 0 :: as) σ1 (vi x) σ2 ∧ I (k + 1) σ2 ∧ σ1 99 = σ 99 ∧ σ2 99 = σ 99
def AgrAll (I : Nat → SS → Prop) : Prop := (∀ k σ, I k σ → I (k + 1) σ) ∧
  (∀ a1 a2 a3 : Int, ir a1 → ir a2 → ir a3 → Agr I 26 48 [vi a1, vi a2, vi a3]) ∧
  (∀ a1 a2 : Int, ir a1 → ir a2 → Agr I 27 49 [vi a1, vi a2]) ∧
  (∀ a1 : Int, ir a1 → Agr I 28 50 [vi a1]) ∧
  (∀ a1 : Int, ir a1 → Agr I 29 52 [vi a1]) ∧
  (∀ a1 a2 : Int, ir a1 → ir a2 → Agr I 30 57 [vi a1, vi a2]) ∧
  (∀ a1 a2 : Int, ir a1 → ir a2 → Agr I 31 58 [vi a1, vi a2]) ∧
  (Agr I 32 60 []) ∧
  (∀ a1 a2 : Int, ir a1 → ir a2 → Agr I 33 68 [vi a1, vi a2]) ∧
  (∀ a1 a2 : Int, ir a1 → ir a2 → Agr I 34 69 [vi a1, vi a2]) ∧
  (∀ a1 a2 : Int, ir a1 → ir a2 → Agr I 35 70 [vi a1, vi a2]) ∧
  (∀ a1 a2 a3 : Int, ir a1 → ir a2 → ir a3 → Agr I 36 71 [vi a1, vi a2, vi a3]) ∧
  (∀ a1 a2 a3 : Int, ir a1 → ir a2 → ir a3 → Agr I 37 82 [vi a1, vi a2, vi a3]) ∧
  (∀ a1 a2 a3 : Int, ir a1 → ir a2 → ir a3 → Agr I 38 83 [vi a1, vi a2, vi a3]) ∧
  (∀ a1 a2 : Int, ir a1 → ir a2 → Agr I 39 84 [vi a1, vi a2]) ∧
  (∀ a1 : Int, ir a1 → Agr I 40 85 [vi a1]) ∧
  (∀ a1 : Int, ir a1 → Agr I 41 86 [vi a1]) ∧
  (∀ a1 : Int, ir a1 → Agr I 42 87 [vi a1])
theorem law_G {I : Nat → SS → Prop} (hA : AgrAll I) {L : Nat} (hL : L ≤ 2048) : ∀ (n k : Nat) (σ : SS), I k σ → 4 * k ≤ L + 3 → L + 4 ≤ 4 * k + 4 * n → σ 99 0 (-1) = (L : Int) → (∀ j, ir (σ 99 0 j)) → G 9 (fun v _ => v = vi 1) 140 10 [vr 99 0, vr 0 0, vr 62 0, vi (4 * (k : Int))] [] σ
  | 0, k, σ, hI, h1, h2, h3, h4 => by omega
  | n + 1, k, σ, hI, h1, h2, h3, h4 => by
    have ih := law_G hA hL n (k + 1)
    refine b_140_10 ?_
    rw [h3]
    refine ⟨by unfold ir; omega, fun q1 => ⟨Or.inr rfl, rfl⟩, fun q1 => ⟨by omega, rfl, ?_⟩⟩
    have hk : k < 512 := by omega
    have go : ∀ σ2 : SS, I (k + 1) σ2 → σ2 99 = σ 99 → ir (4 * (k : Int) + 4) ∧ G 9 (fun v _ => v = vi 1) 140 10 [vr 99 0, vr 0 0, vr 62 0, vi (4 * (k : Int) + 4)] [] σ2 := by
      intro σ2 g1 g2
      refine ⟨by unfold ir; omega, ?_⟩
      have := ih σ2 g1 (by omega) (by omega) (by rw [g2]; exact h3) (by rw [g2]; exact h4)
      rw [show (4 * ((k + 1 : Nat) : Int)) = 4 * (k : Int) + 4 by push_cast; omega] at this
      exact this
    obtain ⟨hi, a0, a1, a2, a3, a4, a5, a6, a7, a8, a9, a10, a11, a12, a13, a14, a15, a16⟩ := hA
    have b1 : (0 : Int) ≤ 4 * (k : Int) + 1 ∧ 4 * (k : Int) + 1 < (L : Int) := by omega
    have b2 : (0 : Int) ≤ 4 * (k : Int) + 2 ∧ 4 * (k : Int) + 2 < (L : Int) := by omega
    have b3 : (0 : Int) ≤ 4 * (k : Int) + 3 ∧ 4 * (k : Int) + 3 < (L : Int) := by omega
    have i1 : ir (4 * (k : Int) + 1) := by unfold ir; omega
    have i2 : ir (4 * (k : Int) + 2) := by unfold ir; omega
    have i3 : ir (4 * (k : Int) + 3) := by unfold ir; omega
    refine ⟨fun _ => go σ (hi k σ hI) rfl, ?_, ?_, ?_, ?_, ?_, ?_, ?_, ?_, ?_, ?_, ?_, ?_, ?_, ?_, ?_, ?_, ?_, trivial⟩
    · intro _
      obtain ⟨x, σ1, σ2, r1, r2, r3, r4, r5⟩ := a0 _ _ _ (h4 _) (h4 _) (h4 _) k σ hk hI
      exact ⟨i1, b1, i2, b2, i3, b3, x, σ1, r1, i1, (by rw [r4, h3]; exact b1), i2, (by rw [r4, h3]; exact b2), i3, (by rw [r4, h3]; exact b3), x, σ2, by first | exact r2 | (rw [r4]; exact r2), fun _ => go σ2 r3 r5, fun q => absurd rfl q⟩
    · intro _
      obtain ⟨x, σ1, σ2, r1, r2, r3, r4, r5⟩ := a1 _ _ (h4 _) (h4 _) k σ hk hI
      exact ⟨i1, b1, i2, b2, x, σ1, r1, i1, (by rw [r4, h3]; exact b1), i2, (by rw [r4, h3]; exact b2), x, σ2, by first | exact r2 | (rw [r4]; exact r2), fun _ => go σ2 r3 r5, fun q => absurd rfl q⟩
    · intro _
      obtain ⟨x, σ1, σ2, r1, r2, r3, r4, r5⟩ := a2 _ (h4 _) k σ hk hI
      exact ⟨i1, b1, x, σ1, r1, i1, (by rw [r4, h3]; exact b1), x, σ2, by first | exact r2 | (rw [r4]; exact r2), fun _ => go σ2 r3 r5, fun q => absurd rfl q⟩
    · intro _
      obtain ⟨x, σ1, σ2, r1, r2, r3, r4, r5⟩ := a3 _ (h4 _) k σ hk hI
      exact ⟨i1, b1, x, σ1, r1, i1, (by rw [r4, h3]; exact b1), x, σ2, by first | exact r2 | (rw [r4]; exact r2), fun _ => go σ2 r3 r5, fun q => absurd rfl q⟩
    · intro _
      obtain ⟨x, σ1, σ2, r1, r2, r3, r4, r5⟩ := a4 _ _ (h4 _) (h4 _) k σ hk hI
      exact ⟨i1, b1, i2, b2, x, σ1, r1, i1, (by rw [r4, h3]; exact b1), i2, (by rw [r4, h3]; exact b2), x, σ2, by first | exact r2 | (rw [r4]; exact r2), fun _ => go σ2 r3 r5, fun q => absurd rfl q⟩
    · intro _
      obtain ⟨x, σ1, σ2, r1, r2, r3, r4, r5⟩ := a5 _ _ (h4 _) (h4 _) k σ hk hI
      exact ⟨i1, b1, i2, b2, x, σ1, r1, i1, (by rw [r4, h3]; exact b1), i2, (by rw [r4, h3]; exact b2), x, σ2, by first | exact r2 | (rw [r4]; exact r2), fun _ => go σ2 r3 r5, fun q => absurd rfl q⟩
    · intro _
      obtain ⟨x, σ1, σ2, r1, r2, r3, r4, r5⟩ := a6 k σ hk hI
      exact ⟨x, σ1, r1, x, σ2, by first | exact r2 | (rw [r4]; exact r2), fun _ => go σ2 r3 r5, fun q => absurd rfl q⟩
    · intro _
      obtain ⟨x, σ1, σ2, r1, r2, r3, r4, r5⟩ := a7 _ _ (h4 _) (h4 _) k σ hk hI
      exact ⟨i1, b1, i2, b2, x, σ1, r1, i1, (by rw [r4, h3]; exact b1), i2, (by rw [r4, h3]; exact b2), x, σ2, by first | exact r2 | (rw [r4]; exact r2), fun _ => go σ2 r3 r5, fun q => absurd rfl q⟩
    · intro _
      obtain ⟨x, σ1, σ2, r1, r2, r3, r4, r5⟩ := a8 _ _ (h4 _) (h4 _) k σ hk hI
      exact ⟨i1, b1, i2, b2, x, σ1, r1, i1, (by rw [r4, h3]; exact b1), i2, (by rw [r4, h3]; exact b2), x, σ2, by first | exact r2 | (rw [r4]; exact r2), fun _ => go σ2 r3 r5, fun q => absurd rfl q⟩
    · intro _
      obtain ⟨x, σ1, σ2, r1, r2, r3, r4, r5⟩ := a9 _ _ (h4 _) (h4 _) k σ hk hI
      exact ⟨i1, b1, i2, b2, x, σ1, r1, i1, (by rw [r4, h3]; exact b1), i2, (by rw [r4, h3]; exact b2), x, σ2, by first | exact r2 | (rw [r4]; exact r2), fun _ => go σ2 r3 r5, fun q => absurd rfl q⟩
    · intro _
      obtain ⟨x, σ1, σ2, r1, r2, r3, r4, r5⟩ := a10 _ _ _ (h4 _) (h4 _) (h4 _) k σ hk hI
      exact ⟨i1, b1, i2, b2, i3, b3, x, σ1, r1, i1, (by rw [r4, h3]; exact b1), i2, (by rw [r4, h3]; exact b2), i3, (by rw [r4, h3]; exact b3), x, σ2, by first | exact r2 | (rw [r4]; exact r2), fun _ => go σ2 r3 r5, fun q => absurd rfl q⟩
    · intro _
      obtain ⟨x, σ1, σ2, r1, r2, r3, r4, r5⟩ := a11 _ _ _ (h4 _) (h4 _) (h4 _) k σ hk hI
      exact ⟨i1, b1, i2, b2, i3, b3, x, σ1, r1, i1, (by rw [r4, h3]; exact b1), i2, (by rw [r4, h3]; exact b2), i3, (by rw [r4, h3]; exact b3), x, σ2, by first | exact r2 | (rw [r4]; exact r2), fun _ => go σ2 r3 r5, fun q => absurd rfl q⟩
    · intro _
      obtain ⟨x, σ1, σ2, r1, r2, r3, r4, r5⟩ := a12 _ _ _ (h4 _) (h4 _) (h4 _) k σ hk hI
      exact ⟨i1, b1, i2, b2, i3, b3, x, σ1, r1, i1, (by rw [r4, h3]; exact b1), i2, (by rw [r4, h3]; exact b2), i3, (by rw [r4, h3]; exact b3), x, σ2, by first | exact r2 | (rw [r4]; exact r2), fun _ => go σ2 r3 r5, fun q => absurd rfl q⟩
    · intro _
      obtain ⟨x, σ1, σ2, r1, r2, r3, r4, r5⟩ := a13 _ _ (h4 _) (h4 _) k σ hk hI
      exact ⟨i1, b1, i2, b2, x, σ1, r1, i1, (by rw [r4, h3]; exact b1), i2, (by rw [r4, h3]; exact b2), x, σ2, by first | exact r2 | (rw [r4]; exact r2), fun _ => go σ2 r3 r5, fun q => absurd rfl q⟩
    · intro _
      obtain ⟨x, σ1, σ2, r1, r2, r3, r4, r5⟩ := a14 _ (h4 _) k σ hk hI
      exact ⟨i1, b1, x, σ1, r1, i1, (by rw [r4, h3]; exact b1), x, σ2, by first | exact r2 | (rw [r4]; exact r2), fun _ => go σ2 r3 r5, fun q => absurd rfl q⟩
    · intro _
      obtain ⟨x, σ1, σ2, r1, r2, r3, r4, r5⟩ := a15 _ (h4 _) k σ hk hI
      exact ⟨i1, b1, x, σ1, r1, i1, (by rw [r4, h3]; exact b1), x, σ2, by first | exact r2 | (rw [r4]; exact r2), fun _ => go σ2 r3 r5, fun q => absurd rfl q⟩
    · intro _
      obtain ⟨x, σ1, σ2, r1, r2, r3, r4, r5⟩ := a16 _ (h4 _) k σ hk hI
      exact ⟨i1, b1, x, σ1, r1, i1, (by rw [r4, h3]; exact b1), x, σ2, by first | exact r2 | (rw [r4]; exact r2), fun _ => go σ2 r3 r5, fun q => absurd rfl q⟩
end
section
def lkcl : List (Nat × Nat × Nat × Nat) := [
  (9, 7, 7, 68), (7, 9, 3, 76), (3, 9, 1, 82), (1, 9, 0, 88), (0, 9, 5, 95), (5, 9, 6, 101), (6, 9, 2, 107), (5, 18, 2, 146),
  (0, 23, 2, 195), (3, 18, 4, 257), (4, 9, 2, 263), (3, 25, 2, 312), (7, 21, 6, 371), (9, 10, 8, 746)
]
def lko : List (Nat × Nat × Nat) := [
  (7, 3, 73), (3, 3, 81), (1, 3, 87), (0, 3, 94), (5, 3, 100), (6, 3, 106), (2, 1, 112), (4, 3, 262),
  (8, 1, 751)
]
def insL : List (Nat) := [
  90, 83, 108, 77, 258, 96, 102, 69, 747
]
def iniL : List (Nat) := [
  61, 60, 64, 59, 65, 62, 63, 58, 66
]
theorem lkcl_ok : lkcl.all (fun e => lw_at e.2.2.2 (.classLink (cn e.1) e.2.1 (kc e.2.2.1).1) && decide (e.2.2.1 < 9)) = true := by decide +kernel
theorem lko_ok : lko.all (fun e => lw_at e.2.2 (.methodLink (cn e.1) e.2.1 Lib.objectInit)) = true := by decide +kernel
theorem insL_ok : (List.range 9).all (fun c => lw_at (nd insL c) (.instantiable (kc c).1 (kc c).2.2) && lw_at (nd iniL c) (.initialized (kc c).1)) = true := by decide +kernel
theorem ob_inst : Jvm.Cond.instanceMethod Lib.objectInit ∈ lw_tbl := List.mem_of_getElem? (i := 74) (by decide +kernel)
set_option maxRecDepth 100000 in
theorem ob_code : Jvm.Cond.code Lib.objectInit ⟨#[0xb1]⟩ 1 none ∈ lw_tbl := List.mem_of_getElem? (i := 75) rfl
theorem ar_int : Jvm.Cond.arrayClass .int ∈ lw_tbl := List.mem_of_getElem? (i := 117) (by decide +kernel)
theorem ar_bool : Jvm.Cond.arrayClass .boolean ∈ lw_tbl := List.mem_of_getElem? (i := 387) (by decide +kernel)
theorem ar_body : Jvm.Cond.arrayOver (.object "RegionStack$Body") ∈ lw_tbl := List.mem_of_getElem? (i := 89) (by decide +kernel)
theorem ar_text : Jvm.Cond.arrayOver (.object "RegionStack$Text") ∈ lw_tbl := List.mem_of_getElem? (i := 372) (by decide +kernel)
theorem chk_25 : chkM 7 prog_1_method_1_code bp_25 0 cd_25 = true := by decide +kernel
theorem chk_47 : chkM 8 prog_10_method_1_code bp_47 0 cd_47 = true := by decide +kernel
theorem chk_88 : chkM 0 prog_2_method_1_code bp_88 0 cd_88 = true := by decide +kernel
theorem chk_102 : chkM 1 prog_3_method_1_code bp_102 0 cd_102 = true := by decide +kernel
theorem chk_111 : chkM 2 prog_4_method_1_code bp_111 0 cd_111 = true := by decide +kernel
theorem chk_112 : chkM 3 prog_5_method_1_code bp_112 0 cd_112 = true := by decide +kernel
theorem chk_126 : chkM 4 prog_6_method_1_code bp_126 0 cd_126 = true := by decide +kernel
theorem chk_131 : chkM 5 prog_7_method_1_code bp_131 0 cd_131 = true := by decide +kernel
theorem chk_138 : chkM 6 prog_8_method_1_code bp_138 0 cd_138 = true := by decide +kernel
theorem chk_in1 {y : Nat} (h : y ∈ inL) : chkM (oc y) (byt y) (bp y) 0 (cd y) = true := by
  simp only [inL, List.mem_cons, List.not_mem_nil, or_false] at h
  rcases h with rfl | rfl | rfl | rfl | rfl | rfl | rfl | rfl | rfl
  · exact chk_25
  · exact chk_47
  · exact chk_88
  · exact chk_102
  · exact chk_111
  · exact chk_112
  · exact chk_126
  · exact chk_131
  · exact chk_138
abbrev PV : Type := Int ⊕ Option Nat
abbrev PC : Type := (Nat × List PV) ⊕ (Nat × Nat × List (Option Nat))
abbrev PH : Type := List PC
def clk (o x : Nat) : Option Nat := (lkcl.find? (fun e => decide (e.1 = o) && decide (e.2.1 = x))).map (fun e => e.2.2.1)
def olk (o x : Nat) : Bool := lko.any (fun e => decide (e.1 = o) && decide (e.2.1 = x))
def mlk (o x y : Nat) : Bool := lkm.any (fun e => decide (e.1 = o) && decide (e.2.1 = x) && decide (e.2.2.1 = y)) || lkn.any (fun e => decide (e.1 = o) && decide (e.2.1 = x) && decide (e.2.2.1 = y))
def cmB (c : ClassFile.Cond) (x y : Int) : Bool := match c with
  | .eq => decide (x = y)
  | .ne => decide (x ≠ y)
  | .lt => decide (x < y)
  | .ge => decide (y ≤ x)
  | .gt => decide (y < x)
  | .le => decide (x ≤ y)
def irB (x : Int) : Bool := decide (-2147483648 ≤ x) && decide (x ≤ 2147483647)
def stP (l : List (Option PV)) : Nat → Option PV → List (Option PV)
  | 0, v => match l with
    | [] => []
    | _ :: l => v :: l
  | n + 1, v => match l with
    | [] => []
    | a :: l => a :: stP l n v
def blankF (ci : Nat) : List PV := (List.range (kc ci).2.2).map (fun k => if isI ((kc ci).2.1 k).2.2.1 then .inl 0 else .inr none)
def takeN : Nat → List PV → List PV → Option (List PV × List PV)
  | 0, acc, st => some (acc, st)
  | n + 1, acc, v :: st => takeN n (v :: acc) st
  | _ + 1, _, [] => none
def hdR : List PV → Bool
  | .inr (some _) :: _ => true
  | _ => false
def p1 (Cal : Nat → List PV → PH → Option PH) (o : Nat) (c : List AI) : Nat → Nat → List (Option PV) → List PV → PH → Option PH
  | 0, _, _, _, _ => none
  | n + 1, pc, ls, st, h => match nth c pc with
    | none => none
    | some ins => match ins.1, ins.2.1, st with
      | .aload_n i, _, st => (match nth ls i.1 with
        | some (some (.inr (some r))) => p1 Cal o c n (pc + 1) ls (.inr (some r) :: st) h
        | _ => none)
      | .iload_n i, _, st => (match nth ls i.1 with
        | some (some (.inl x)) => p1 Cal o c n (pc + 1) ls (.inl x :: st) h
        | _ => none)
      | .istore_n i, _, .inl x :: st => bif Nat.ble (i.1 + 1) ls.length then p1 Cal o c n (pc + 1) (stP ls i.1 (some (.inl x))) st h else none
      | .iconst k, _, st => p1 Cal o c n (pc + 1) ls (.inl k :: st) h
      | .bipush k, _, st => p1 Cal o c n (pc + 1) ls (.inl k :: st) h
      | .sipush k, _, st => p1 Cal o c n (pc + 1) ls (.inl k :: st) h
      | .dup, _, v :: st => p1 Cal o c n (pc + 1) ls (v :: v :: st) h
      | .new x, _, st => (match clk o x with
        | some ci => p1 Cal o c n (pc + 1) ls (.inr (some h.length) :: st) (h ++ [.inl (ci, blankF ci)])
        | none => none)
      | .newarray .int, _, .inl k :: st => bif decide (0 ≤ k) && decide (k ≤ 100000) then p1 Cal o c n (pc + 1) ls (.inr (some h.length) :: st) (h ++ [.inr (1, k.toNat, [])]) else none
      | .newarray .boolean, _, .inl k :: st => bif decide (0 ≤ k) && decide (k ≤ 100000) then p1 Cal o c n (pc + 1) ls (.inr (some h.length) :: st) (h ++ [.inr (2, k.toNat, [])]) else none
      | .anewarray x, _, .inl k :: st => (match clk o x with
        | some 0 => bif decide (0 ≤ k) && decide (k ≤ 100000) then p1 Cal o c n (pc + 1) ls (.inr (some h.length) :: st) (h ++ [.inr (3, k.toNat, [])]) else none
        | some 6 => bif decide (0 ≤ k) && decide (k ≤ 100000) then p1 Cal o c n (pc + 1) ls (.inr (some h.length) :: st) (h ++ [.inr (4, k.toNat, [])]) else none
        | _ => none)
      | .aastore, _, .inr (some v) :: .inl j :: .inr (some a) :: st => (match h[a]?, h[v]? with
        | some (.inr (3, k, l)), some (.inl (0, _)) => bif decide (0 ≤ j) && decide (j < k) && decide (k < 100000) && decide (j.toNat = l.length) then p1 Cal o c n (pc + 1) ls st (h.set a (.inr (3, k, l ++ [some v]))) else none
        | some (.inr (4, k, l)), some (.inl (6, _)) => bif decide (0 ≤ j) && decide (j < k) && decide (k < 100000) && decide (j.toNat = l.length) then p1 Cal o c n (pc + 1) ls st (h.set a (.inr (4, k, l ++ [some v]))) else none
        | _, _ => none)
      | .getfield _, [ci, k, _], .inr (some a) :: st => (match h[a]? with
        | some (.inl (cj, fs)) => (match nth fs k with
          | some v => bif Nat.beq ci (cj + 1) then p1 Cal o c n (pc + 1) ls (v :: st) h else none
          | none => none)
        | _ => none)
      | .putfield _, [ci, k, q], v :: .inr (some a) :: st => (match h[a]? with
        | some (.inl (cj, fs)) => bif Nat.beq ci (cj + 1) && Nat.beq o cj && Nat.ble (k + 1) fs.length && (match v with
            | .inl _ => Nat.beq q 0
            | .inr _ => Nat.beq q 2) then p1 Cal o c n (pc + 1) ls st (h.set a (.inl (cj, fs.set k v))) else none
        | _ => none)
      | .arraylength, _, .inr (some a) :: st => (match h[a]? with
        | some (.inr (k, m, _)) => bif Nat.ble 1 k && Nat.ble k 4 && Nat.ble m 100000 then p1 Cal o c n (pc + 1) ls (.inl (m : Int) :: st) h else none
        | _ => none)
      | .if_icmp .ge _, [t], .inl y :: .inl x :: st => bif irB x && irB y then p1 Cal o c n (bif decide (y ≤ x) then t else pc + 1) ls st h else none
      | .ifCond .le _, [t], .inl x :: st => bif irB x then p1 Cal o c n (bif decide (x ≤ 0) then t else pc + 1) ls st h else none
      | .goto _, [t], st => p1 Cal o c n t ls st h
      | .iinc i k, _, st => (match nth ls i with
        | some (some (.inl x)) => bif irB (x + k) then p1 Cal o c n (pc + 1) (stP ls i (some (.inl (x + k)))) st h else none
        | _ => none)
      | .invokespecial x, [], .inr (some _) :: st => bif olk o x && Nat.ble st.length 8 then p1 Cal o c n (pc + 1) ls st h else none
      | .invokespecial x, [y, k, _, 0], st => (match takeN k [] st with
        | some (as, st) => bif (mlk o x y && Nat.beq k (np y + 1)) && (Nat.ble st.length 8 && hdR as) then
            (match Cal y as h with
            | some h' => p1 Cal o c n (pc + 1) ls st h'
            | none => none) else none
        | none => none)
      | .return_, _, [] => some h
      | _, _, _ => none
def P1 : Nat → Nat → List PV → PH → Option PH
  | 0 => fun _ _ _ => none
  | d + 1 => fun y as h => bif inL.elem y && decide (y < 140) && Nat.ble as.length (nl y) then p1 (P1 d) (oc y) (cd y) 400 0 (as.map some ++ List.replicate (nl y - as.length) none) [] h else none
def h1a : PH := [.inl (7, blankF 7)]
def szC : PC → Nat
  | .inl q => q.2.length
  | .inr q => q.2.1
def szs (h : PH) : Nat := (h.map szC).sum
def h1b : PH := ((P1 8 25 [.inr (some 0)] h1a).getD [])
def h1c : PH := h1b ++ [.inl (8, blankF 8)]
def h1d : PH := ((P1 8 47 [.inr (some 134)] h1c).getD [])
theorem h1b_ok : (P1 8 25 [.inr (some 0)] h1a).isSome = true := by decide +kernel
theorem h1d_ok : (P1 8 47 [.inr (some 134)] h1c).isSome = true := by decide +kernel
theorem h1d_len : h1d.length = 163 ∧ szs h1d = 13717 ∧ h1b.length = 134 := by decide +kernel
end
section
theorem bif_o {α : Type} {q : Bool} {A : Option α} {b : α} (h : (bif q then A else none) = some b) : q = true ∧ A = some b := by cases q <;> simp_all
theorem szs_app (h : PH) (c : PC) : szs (h ++ [c]) = szs h + szC c := by simp [szs]
theorem szs_set : ∀ (h : PH) (a : Nat) (c c' : PC), h[a]? = some c → szC c' = szC c → szs (h.set a c') = szs h
  | [], _, _, _, h, _ => by simp at h
  | x :: h, 0, c, c', hh, e => by simp only [List.getElem?_cons_zero, Option.some.injEq] at hh; subst hh; simp [szs, e]
  | x :: h, a + 1, c, c', hh, e => by
    have := szs_set h a c c' (by simpa using hh) e
    simp only [szs, List.set_cons_succ, List.map_cons, List.sum_cons] at this ⊢
    omega
def Mon (h h' : PH) : Prop := h.length ≤ h'.length ∧ szs h ≤ szs h'
theorem Mon.app {h h' : PH} {c : PC} (m : Mon (h ++ [c]) h') : Mon h h' := by
  have h1 := m.1; have h2 := m.2
  rw [szs_app] at h2
  simp at h1
  exact ⟨by omega, by omega⟩
theorem Mon.set {h h' : PH} {a : Nat} {c c' : PC} (hc : h[a]? = some c) (e : szC c' = szC c) (m : Mon (h.set a c') h') : Mon h h' := by
  have h1 := m.1; have h2 := m.2
  rw [szs_set h a c c' hc e] at h2
  simp at h1
  exact ⟨h1, h2⟩
theorem p1_mono {Cal : Nat → List PV → PH → Option PH} {o : Nat} {c : List AI} {hf : PH} (hC : ∀ y as h h', Cal y as h = some h' → Mon h h') : ∀ (n pc : Nat) (ls : List (Option PV)) (st : List PV) (h : PH), p1 Cal o c n pc ls st h = some hf → Mon h hf
  | 0, _, _, _, _, hp => by simp [p1] at hp
  | n + 1, pc, ls, st, h, hp => by
    have ih := fun pc ls st h => p1_mono (o := o) (c := c) (hf := hf) hC n pc ls st h
    simp only [p1] at hp
    split at hp
    · cases hp
    split at hp
    · split at hp
      · exact ih _ _ _ _ hp
      · cases hp
    · split at hp
      · exact ih _ _ _ _ hp
      · cases hp
    · exact ih _ _ _ _ (bif_o hp).2
    · exact ih _ _ _ _ hp
    · exact ih _ _ _ _ hp
    · exact ih _ _ _ _ hp
    · exact ih _ _ _ _ hp
    · split at hp
      · exact (ih _ _ _ _ hp).app
      · cases hp
    · exact (ih _ _ _ _ (bif_o hp).2).app
    · exact (ih _ _ _ _ (bif_o hp).2).app
    · split at hp
      · exact (ih _ _ _ _ (bif_o hp).2).app
      · exact (ih _ _ _ _ (bif_o hp).2).app
      · cases hp
    · split at hp
      · rename_i h1 h2
        have m := ih _ _ _ _ (bif_o hp).2
        exact Mon.set h1 (by rfl) m
      · rename_i h1 h2
        have m := ih _ _ _ _ (bif_o hp).2
        exact Mon.set h1 (by rfl) m
      · cases hp
    · split at hp
      · split at hp
        · exact ih _ _ _ _ (bif_o hp).2
        · cases hp
      · cases hp
    · split at hp
      · rename_i h1
        exact Mon.set h1 (by simp [szC]) (ih _ _ _ _ (bif_o hp).2)
      · cases hp
    · split at hp
      · exact ih _ _ _ _ (bif_o hp).2
      · cases hp
    · exact ih _ _ _ _ (bif_o hp).2
    · exact ih _ _ _ _ (bif_o hp).2
    · exact ih _ _ _ _ hp
    · split at hp
      · exact ih _ _ _ _ (bif_o hp).2
      · cases hp
    · exact ih _ _ _ _ (bif_o hp).2
    · split at hp
      · obtain ⟨-, hp⟩ := bif_o hp
        split at hp
        · rename_i h1
          have m1 := hC _ _ _ _ h1
          have m2 := ih _ _ _ _ hp
          exact ⟨Nat.le_trans m1.1 m2.1, Nat.le_trans m1.2 m2.2⟩
        · cases hp
      · cases hp
    · cases hp; exact ⟨Nat.le_refl _, Nat.le_refl _⟩
    · cases hp
theorem P1_mono : ∀ (d y : Nat) (as : List PV) (h h' : PH), P1 d y as h = some h' → Mon h h'
  | 0, _, _, _, _, hp => by simp [P1] at hp
  | d + 1, y, as, h, h', hp => by
    simp only [P1] at hp
    exact p1_mono (fun y as h h' q => P1_mono d y as h h' q) _ _ _ _ _ (bif_o hp).2
/-! ===== what the list heap stands for ===== -/
def pvV (N0 : Nat) : PV → Value
  | .inl x => .int (Int32.ofInt x)
  | .inr none => .null
  | .inr (some k) => .ref (N0 + k)
def pE (cA : Nat → ClassId) (N0 : Nat) : PC → va_E
  | .inl (ci, vs) => .inr (ci, vs.map (pvV N0))
  | .inr (1, n, _) => .inl (cA 1, n, .inl (fun _ => 0))
  | .inr (2, n, _) => .inl (cA 2, n, .inl (fun _ => 0))
  | .inr (3, n, l) => .inl (cA 3, n, .inr (.inr (.inr (.inr (fun j => (l.getD j none).map (fun k => N0 + k))))))
  | .inr (_, n, l) => .inl (cA 4, n, .inr (.inr (.inr (.inr (fun j => (l.getD j none).map (fun k => N0 + k))))))
def ws1 (cA : Nat → ClassId) (N0 : Nat) (h : PH) : va_W := h.mapIdx (fun k c => (N0 + k, pE cA N0 c))
section WS1
variable {D : va_G} {cA : Nat → ClassId} {N0 : Nat}
theorem ws1_at {h : PH} {a : Nat} {c : PC} (hc : h[a]? = some c) : (ws1 cA N0 h)[a]? = some (N0 + a, pE cA N0 c) := by
  simp only [ws1, List.getElem?_mapIdx, hc, Option.map_some]
theorem ws1_app (h : PH) (c : PC) : ws1 cA N0 (h ++ [c]) = ws1 cA N0 h ++ [(N0 + h.length, pE cA N0 c)] := by
  simp [ws1]
theorem ws1_set {h : PH} {a : Nat} {c : PC} : ws1 cA N0 (h.set a c) = (ws1 cA N0 h).set a (N0 + a, pE cA N0 c) := by
  apply List.ext_getElem?
  intro k
  simp only [ws1, List.getElem?_mapIdx, List.getElem?_set, List.length_mapIdx]
  split
  · rename_i e
    subst e
    split
    · rfl
    · rfl
  · rfl
theorem ws1_D (h : PH) : va_D (fun q => N0 ≤ q) (ws1 cA N0 h) := by
  have key : ∀ (k : Nat) (q : Nat × va_E), (ws1 cA N0 h)[k]? = some q → q.1 = N0 + k := by
    intro k q hk
    simp only [ws1, List.getElem?_mapIdx, Option.map_eq_some_iff] at hk
    obtain ⟨c, -, rfl⟩ := hk
    rfl
  exact ⟨fun i j p q h1 h2 h3 => by have := key i p h1; have := key j q h2; omega, fun k q h => by have := key k q h; show N0 ≤ q.1; omega⟩
end WS1
def L1 (N0 nL : Nat) (ls : Array Slot) (la : List (Option PV)) : Prop := la.length = nL ∧ ∃ l, lv_has ls nL l ∧ ∀ (i : Nat) (v : PV), nth la i = some (some v) → (i, pvV N0 v) ∈ l
theorem L1.at {N0 nL : Nat} {ls : Array Slot} {la : List (Option PV)} (h : L1 N0 nL ls la) {i : Nat} {v : PV} (hi : nth la i = some (some v)) : ls[i]? = some (.val (pvV N0 v)) := by
  obtain ⟨-, l, h1, h2⟩ := h
  exact h1.2.2 _ (h2 i v hi)
theorem stP_len : ∀ (l : List (Option PV)) (i : Nat) (v : Option PV), (stP l i v).length = l.length
  | [], 0, _ => rfl
  | [], _ + 1, _ => rfl
  | _ :: _, 0, _ => rfl
  | _ :: l, i + 1, v => by simp [stP, stP_len l i v]
theorem nth_stP : ∀ (l : List (Option PV)) (i j : Nat) (v w : Option PV), nth (stP l i v) j = some w → (j = i ∧ w = v) ∨ (j ≠ i ∧ nth l j = some w)
  | [], 0, _, _, _, h => by simp [stP, nth] at h
  | [], _ + 1, _, _, _, h => by simp [stP, nth] at h
  | _ :: _, 0, 0, v, w, h => by simp only [stP, nth, Option.some.injEq] at h; exact Or.inl ⟨rfl, h.symm⟩
  | _ :: l, 0, j + 1, v, w, h => by simp only [stP, nth] at h; exact Or.inr ⟨by omega, h⟩
  | a :: l, i + 1, 0, v, w, h => by simp only [stP, nth] at h; exact Or.inr ⟨by omega, h⟩
  | a :: l, i + 1, j + 1, v, w, h => by
    simp only [stP, nth] at h
    rcases nth_stP l i j v w h with ⟨a, b⟩ | ⟨a, b⟩
    · exact Or.inl ⟨by omega, b⟩
    · exact Or.inr ⟨by omega, b⟩
theorem pcat (N0 : Nat) (v : PV) : (pvV N0 v).category = 1 := by
  rcases v with x | _ | k <;> rfl
theorem L1.set {N0 nL : Nat} {ls' : Array Slot} {la : List (Option PV)} {l : List (Nat × Value)} {i : Nat} {v : PV} (hl : la.length = nL) (h2 : ∀ (i : Nat) (v : PV), nth la i = some (some v) → (i, pvV N0 v) ∈ l)
    (h : lv_has ls' nL ((i, pvV N0 v) :: l.filter (fun q => !(q.1 == i) && !(q.1 + 1 == i && q.2.category == 2)))) : L1 N0 nL ls' (stP la i (some v)) := by
  refine ⟨by rw [stP_len, hl], _, h, fun j w hw => ?_⟩
  rcases nth_stP _ _ _ _ _ hw with ⟨e1, e2⟩ | ⟨e1, e2⟩
  · subst e1; cases e2; exact List.mem_cons_self
  · refine List.mem_cons_of_mem _ (List.mem_filter.mpr ⟨h2 j w e2, ?_⟩)
    simp only [pcat]
    simp [e1]
end
section
def rm1 (d mc ms : Nat) : Room := { frames := d, cells := mc, slots := ms, locals := 32 * d }
def AO (U : State) : Prop := va_AO "RegionStack$Body" U ∧ va_AO "RegionStack$Text" U
def Pc1 (D : va_G) (cA : Nat → ClassId) (N0 : Nat) (as : List PV) (h : PH) : Array Value → State → Prop := va_Pc (as.map (pvV N0)) (fun U => va_P D vwCl (ws1 cA N0 h) U.heap ∧ U.heap.size = N0 + h.length ∧ va_K D vwCl (tyA cA) U ∧ NW U ∧ AO U)
def Qc1 (D : va_G) (cA : Nat → ClassId) (N0 : Nat) (h : PH) : Array Value → State → Outcome → State → Prop := fun _ st o t => o = .returned none ∧ (va_P D vwCl (ws1 cA N0 h) t.heap ∧ t.heap.size = N0 + h.length) ∧ va_F (fun q => N0 ≤ q) st t
section N1
variable {p : Program} {l : Launch} {e₀ : Env} {R : Room} {s : State} {m : MethodId} {args : Array Value} {below : List Frame} {meth : Method} {c : Code} {H H0 : Heap} {locs : List Loc} {cells slots : Nat} {Q : State → Prop}
variable {cc : ByteArray} {pc : Nat} {ls : Array Slot} {rest : List Value} {D : va_G} {cl : List vw_C} {tys : List (ClassId × FieldType)} {ws : va_W} {A : Nat → Prop}
theorem push_P {x : Nat × va_E} {H1 : Heap} (hP : va_P D cl ws H) (o1 : ∀ q, q < H.size → H1[q]? = H[q]?) (hx : va_at D cl x H1) : va_P D cl (ws ++ [x]) H1 := by
  refine (hP.kept fun k y hy => o1 y.1 ((hP k y hy).lt)).app fun k y hy => ?_
  have hz : k < 1 := (List.getElem?_eq_some_iff.mp hy).1
  rw [show k = 0 by omega] at hy
  cases hy
  exact hx
theorem push_S {H1 : Heap} (hS : va_S A H0 H locs) (z1 : H1.size = H.size + 1) (o1 : ∀ q, q < H.size → H1[q]? = H[q]?) : va_S A H0 H1 locs := ⟨Nat.le_trans hS.1 (by omega), fun x h1 h2 => (o1 x (Nat.lt_of_lt_of_le h1 hS.1)).trans (hS.2.1 x h1 h2), hS.2.2⟩
theorem n1_new {ci index : Nat} {C : String} {T : u_T} {N : Nat} {own : String} {Ts : List Jvm.Cond} (hx : p.tables.exec = Jvm.exec) (hb : c.code = cc) (hts : ∀ w ∈ Ts, w.before args s = true) (hin : ∀ w ∈ u_ws C T N, w ∈ Ts) (ty : Nat → FieldType) (hty : ∀ k, k < N → parseFieldDescriptor (T k).2.2.1 = some (ty k)) (hown : s.vm.findClass own = some m.cls) (h1 : (Jvm.Cond.classLink own index C).before args s = true) (h2 : (Jvm.Cond.instantiable C N).before args s = true) (h3 : (Jvm.Cond.initialized C).before args s = true) (hK : va_K D cl tys s) (hP : va_P D cl ws H) (hS : va_S A H0 H locs) (hc : cl[ci]? = some (C, T, N)) {fs : List Value} (hfs : ∀ j, j < N → defaultValue (ty j) = vp_V fs j) (hce : cells + 1 ≤ R.cells) (hsl : slots + N ≤ R.slots) (hd : decode cc pc = .ok (.new index, 3))
    (kk : ∀ H1 : Heap, va_P D cl (ws ++ [(H.size, .inr (ci, fs))]) H1 → H1.size = H.size + 1 → va_S A H0 H1 locs → W p l e₀ R s m args below meth c H1 locs (cells + 1) (slots + N) Q (F0 m (pc + 3) ls (.ref H.size :: rest))) : W p l e₀ R s m args below meth c H locs cells slots Q (F0 m pc ls rest) := by
  have hKn := hK.1 ci _ hc
  refine W.newcK hx hb hown h1 h2 h3 rfl hd hce hsl hKn.2.1 rfl fun H1 kC hkC e1 z1 o1 => ?_
  exact kk H1 (push_P hP o1 ⟨_, hc, (u_born ty hts hin hKn hkC e1 hty).to hfs⟩) z1 (push_S hS z1 o1)
theorem n1_newa {atype : ArrayType} (hx : p.tables.exec = Jvm.exec) (hb : c.code = cc) {cI : ClassId} (harr : (Jvm.Cond.arrayClass (newarray.typeOf atype)).before args s = true) (hcI : s.vm.findClass ("[" ++ (newarray.typeOf atype).toString) = some cI) (hP : va_P D cl ws H) (hS : va_S A H0 H locs) {n : Int32} {N : Nat} {a0 : vp_A} (ha : ∀ cA : ClassId, vp_cell cA a0 = arrV cA N (fun _ => defaultValue (newarray.typeOf atype))) (hn : ¬ n < 0) (hN : n.toNatClampNeg = N) (hby : N * componentBytes (newarray.typeOf atype) ≤ 536870912) (hce : cells + 1 ≤ R.cells) (hsl : slots + N ≤ R.slots) (hd : decode cc pc = .ok (.newarray atype, 2))
    (kk : ∀ H1 : Heap, va_P D cl (ws ++ [(H.size, .inl (cI, a0))]) H1 → H1.size = H.size + 1 → va_S A H0 H1 locs → W p l e₀ R s m args below meth c H1 locs (cells + 1) (slots + N) Q (F0 m (pc + 2) ls (.ref H.size :: rest))) : W p l e₀ R s m args below meth c H locs cells slots Q (F0 m pc ls (.int n :: rest)) := by
  refine va_newaK hx hb harr rfl hd rfl hn hN hby hce hsl rfl fun H1 cA e1 z1 o1 _ hNm => ?_
  rw [hcI] at hNm
  cases hNm
  refine kk H1 (push_P hP o1 ?_) z1 (push_S hS z1 o1)
  show H1[H.size]? = some (vp_cell _ _)
  rw [ha]
  exact e1
theorem n1_newq (hx : p.tables.exec = Jvm.exec) (hb : c.code = cc) {own C : String} {index : Nat} {cI : ClassId} (hown : s.vm.findClass own = some m.cls) (h1 : (Jvm.Cond.classLink own index C).before args s = true) (h2 : va_AO C s) (hcI : s.vm.findClass ("[" ++ (FieldType.object C).toString) = some cI) (hP : va_P D cl ws H) (hS : va_S A H0 H locs) {n : Int32} {N : Nat} (hn : ¬ n < 0) (hN : n.toNatClampNeg = N) (hby : N * 4 ≤ 536870912) (hce : cells + 1 ≤ R.cells) (hsl : slots + N ≤ R.slots) (hd : decode cc pc = .ok (.anewarray index, 3))
    (kk : ∀ H1 : Heap, va_P D cl (ws ++ [(H.size, .inl (cI, N, .inr (.inr (.inr (.inr (fun _ => none))))))]) H1 → H1.size = H.size + 1 → va_S A H0 H1 locs → W p l e₀ R s m args below meth c H1 locs (cells + 1) (slots + N) Q (F0 m (pc + 3) ls (.ref H.size :: rest))) : W p l e₀ R s m args below meth c H locs cells slots Q (F0 m pc ls (.int n :: rest)) := by
  subst hN
  refine W.anew hx hb hown h1 (va_AO.use h2) rfl hd rfl hn hby hce hsl fun cA kA comp f1 f2 f3 f4 => ?_
  generalize hH1 : H.push ({ cls := cA, slots := Array.replicate n.toNatClampNeg .null, vm := .none } : Cell) = H1
  have z1 : H1.size = H.size + 1 := by rw [← hH1, Array.size_push]
  have e1 : H1[H.size]? = some (arrV cA n.toNatClampNeg (fun _ => .null)) := by rw [← hH1, Array.getElem?_push_size, ← arrV_new]
  have o1 : ∀ q : Nat, q < H.size → H1[q]? = H[q]? := fun q hq => by rw [← hH1, Array.getElem?_push, if_neg (Nat.ne_of_lt hq)]
  have e4 : cA = cI := by
    have := f1
    rw [hcI] at this
    exact (Option.some.inj this).symm
  subst e4
  refine kk H1 (push_P hP o1 ?_) z1 (push_S hS z1 o1)
  show H1[H.size]? = some (vp_cell _ _)
  rw [vp_cell_q]
  exact e1
theorem n1_put (hx : p.tables.exec = Jvm.exec) (hb : c.code = cc) {own ref C : String} {T : u_T} {N ci index a : Nat} {Ts : List Jvm.Cond} (hts : ∀ w ∈ Ts, w.before args s = true) (hin : ∀ w ∈ u_ws C T N, w ∈ Ts) (ty0 : Nat → FieldType) (hty : ∀ k, k < N → parseFieldDescriptor (T k).2.2.1 = some (ty0 k)) (hnm : ∀ a, a < N → ∀ b, b < N → a ≠ b → (T a).2.1 ≠ (T b).2.1) (hown : s.vm.findClass own = some m.cls) (hK : va_K D cl tys s) (hP : va_P D cl ws H) (hD : va_D A ws) (hS0 : va_S A H0 H locs) (q0 : Nat) {fs : List Value} (he : ws[q0]? = some (a, .inr (ci, fs))) (hc : cl[ci]? = some (C, T, N)) (k : Nat) (hk : k < N) (hlink : (Jvm.Cond.fieldLink own index ref (T k).2.1 (T k).2.2.1).before args s = true) (hsame : ∀ x, s.fieldFound? (T k).1 (T k).2.1 (T k).2.2.1 = some x → s.fieldFound? ref (T k).2.1 (T k).2.2.1 = some x) (hin2 : (T k).2.2.2 = true → meth.name = "<init>" ∧ (T k).1 = own) {ty : FieldType} {v : Value} (hd : parseFieldDescriptor (T k).2.2.1 = some ty) (hn : narrow ty v = v) (hfit : fits ty v = true) (hl : k < fs.length) (hdg : decode cc pc = .ok (.putfield index, 3))
    (kk : ∀ (H1 : Heap) (locs1 : List Loc), va_P D cl (ws.set q0 (a, .inr (ci, fs.set k v))) H1 → H1.size = H.size → va_S A H0 H1 locs1 → W p l e₀ R s m args below meth c H1 locs1 cells slots Q (F0 m (pc + 3) ls rest)) : W p l e₀ R s m args below meth c H locs cells slots Q (F0 m pc ls (v :: .ref a :: rest)) := by
  have hap := va_apart (own := own) hts hin ty0 hty hnm hK hc
  obtain ⟨r, h1, cell, q1, q2, q3, q4⟩ := hP q0 _ he
  cases h1.symm.trans hc
  obtain ⟨hS, hfc, kC, hkC, hkind⟩ := hK.1 ci _ hc
  obtain ⟨cf, kf, fi, f, hi, hsl⟩ := hS k hk
  have hlay := hts _ (hin _ (u_in_lay hk))
  unfold u_lay at hlay
  have hst := (u_facts hfc hkC (u_lays hts hin hk) hi).1
  have fin : ∀ H' : Heap, H'[a]? = some (cell.setSlot f.slot v) → H'.size = H.size → (∀ q, q ≠ a → H'[q]? = H[q]?) → W p l e₀ R s m args below meth c H' (locs ++ [⟨a, f.slot⟩]) cells slots Q (F0 m (pc + 3) ls rest) := by
    intro H' e1 e2 e3
    rw [hsl] at e1 ⊢
    exact kk H' _ (hP.set hD he ⟨_, hc, t_OB.to (V := updV (vp_V fs) k v) ⟨_, e1, q2, q3, t_set q4 hap hk v⟩ (fun j _ => vp_updV_set hl v j)⟩ e3) e2 (hS0.put e2 e3 (hD.2 q0 _ he))
  cases hfin : (T k).2.2.2
  · rw [if_neg (by rw [hfin]; decide)] at hlay
    have h6 := u_store hfc hkC hkind hlay hi hd hn hfit
    exact W.putK hx hb (f := f) ⟨hown, hlink, ⟨_, _, _, hsame _ hi⟩, hst⟩ (by rw [q2]; exact h6) q1 q3 (by rw [hsl]; exact k2_hasslot (q4 k hk)) rfl rfl hdg fin
  · rw [if_pos hfin] at hlay
    obtain ⟨hi2, hdecl⟩ := hin2 hfin
    have hcf : m.cls = cf := by
      obtain ⟨_, _, c', _, _, _, -, -, hf', -, -, -, hown2, -⟩ := Cond.laysFinal_spec hlay
      have e1 : c' = cf := by have := hi.symm.trans hf'; simp at this; exact this.1.symm
      rw [hdecl] at hown2
      rw [← e1]; exact Option.some.inj (hown.symm.trans hown2)
    have h6 := u_fits hfc hkC hkind (Or.inr hlay) hi hd hn hfit
    exact W.putFinK hx hb hown hlink (hsame _ hi) hst hcf hi2 (by rw [q2]; exact h6) q1 q3 (by rw [hsl]; exact k2_hasslot (q4 k hk)) rfl rfl hdg fin
theorem n1_ast (hx : p.tables.exec = Jvm.exec) (hb : c.code = cc) (hK : va_K D cl tys s) (hP : va_P D cl ws H) (hD : va_D A ws) (hS : va_S A H0 H locs) (q0 t0 qk ci : Nat) {cA : ClassId} {r : vw_C} {n v a : Nat} {vs : List Value} {f : Nat → Option Nat} (ha : ws[q0]? = some (a, .inl (cA, n, .inr (.inr (.inr (.inr f)))))) (ht : tys[t0]? = some (cA, .object r.1)) (hv : ws[qk]? = some (v, .inr (ci, vs))) (hc : cl[ci]? = some r) {i : Int32} (hin : vp_in i n) (hdg : decode cc pc = .ok (.aastore, 1))
    (kk : ∀ (H1 : Heap) (locs1 : List Loc), va_P D cl (ws.set q0 (a, .inl (cA, n, .inr (.inr (.inr (.inr (va_up f i.toNatClampNeg (some v)))))))) H1 → H1.size = H.size → va_S A H0 H1 locs1 → W p l e₀ R s m args below meth c H1 locs1 cells slots Q (F0 m (pc + 1) ls rest)) : W p l e₀ R s m args below meth c H locs cells slots Q (F0 m pc ls (.ref v :: .int i :: .ref a :: rest)) := by
  have hlt : i.toNatClampNeg < n := Nat.not_le.mp fun q => hin (Or.inr q)
  have h0 : ¬ i < 0 := fun q => hin (Or.inl q)
  obtain ⟨r', hr', cellV, g1, g2, g3, -⟩ := hP qk _ hv
  have hcls := (hK.1 ci r hc).2
  obtain ⟨kA, comp, k1, k2, k3, -⟩ := (hK.2 t0 _ ht).2
  have hcomp : comp = D.1 ci := Option.some.inj (k3.symm.trans hcls.1)
  subst hcomp
  obtain ⟨kC, hkC, -⟩ := hcls.2
  refine W.aast hx hb (hP q0 _ ha) (fun q h => by cases h) (fun h => by cases h) k1 k2 rfl hkC ⟨h0, by show _ < (arrV _ _ _).slots.size; rw [arrV_size]; exact hlt⟩ g1 (fun q h => by rw [g3] at h; cases h) (by rw [g2]; exact hkC) (by rw [g2]; exact va_assign hcls) rfl rfl hdg fun H1 e z oq => ?_
  refine kk H1 _ (hP.set hD ha ?_ oq) z (hS.put z oq (hD.2 q0 _ ha))
  show H1[a]? = some (vp_cell _ _)
  rw [e, vp_cell_q, vp_cell_q, arrV_store]
  congr 2
  funext q
  by_cases hq : q = i.toNatClampNeg
  · subst hq
    simp [updV, va_up, va_rf]
  · simp [updV, va_up, hq]
end N1
theorem clk_at {o x ci : Nat} (h : clk o x = some ci) : Jvm.Cond.classLink (cn o) x (kc ci).1 ∈ lw_tbl ∧ ci < 9 := by
  unfold clk at h
  cases hf : lkcl.find? (fun e => decide (e.1 = o) && decide (e.2.1 = x)) with
  | none => rw [hf] at h; cases h
  | some e =>
    rw [hf] at h
    cases h
    have h1 := List.find?_some hf
    have h2 := List.mem_of_find?_eq_some hf
    simp only [Bool.and_eq_true, decide_eq_true_eq] at h1
    have := List.all_eq_true.mp lkcl_ok _ h2
    simp only [Bool.and_eq_true, decide_eq_true_eq] at this
    obtain ⟨rfl, rfl⟩ := h1
    exact ⟨lw_mem this.1, this.2⟩
theorem ins_at {c : Nat} (h : c < 9) : Jvm.Cond.instantiable (kc c).1 (kc c).2.2 ∈ lw_tbl ∧ Jvm.Cond.initialized (kc c).1 ∈ lw_tbl := by
  have := List.all_eq_true.mp insL_ok c (List.mem_range.mpr h)
  simp only [Bool.and_eq_true] at this
  exact ⟨lw_mem this.1, lw_mem this.2⟩
theorem blank_V {ci k : Nat} {N0 : Nat} (hc : ci < 9) (hk : k < (kc ci).2.2) : defaultValue (ty0 ci k) = vp_V ((blankF ci).map (pvV N0)) k := by
  have hb : (List.range 9).all (fun c => (List.range (kc c).2.2).all (fun k => decide (defaultValue (ty0 c k) = if isI ((kc c).2.1 k).2.2.1 then .int 0 else .null))) = true := by decide +kernel
  have h1 := List.all_eq_true.mp hb ci (List.mem_range.mpr hc)
  have h2 := of_decide_eq_true (List.all_eq_true.mp h1 k (List.mem_range.mpr hk))
  rw [h2]
  simp only [vp_V, blankF, List.map_map, List.getD_eq_getElem?_getD, List.getElem?_map, List.getElem?_range hk, Option.map_some, Option.getD_some, Function.comp]
  split <;> rfl
theorem kA_name {cA : Nat → ClassId} {D : va_G} {s : State} (hK : va_K D vwCl (tyA cA) s) (k : Nat) (ty : FieldType) (h : (tyA cA)[k]? = some (cA (k + 1), ty)) : s.vm.findClass ("[" ++ ty.toString) = some (cA (k + 1)) := by
  have := (hK.2 k _ h).2
  cases ty with
  | object C =>
    obtain ⟨kA, comp, h1, h2, h3, h4⟩ := this
    exact h4
  | _ => exact this
end
section
theorem nth_get {α : Type} : ∀ {l : List α} {i : Nat} {v : α}, nth l i = some v → l[i]? = some v
  | [], _, _, h => by simp [nth] at h
  | _ :: _, 0, _, h => by simpa [nth] using h
  | _ :: l, i + 1, _, h => by simp only [nth] at h; simpa using nth_get h
def FX1 (p : Program) (s : State) (m : MethodId) (args : Array Value) (meth : Method) (c : Code) (D : va_G) (cA : Nat → ClassId) (N0 y : Nat) : Prop :=
  p.tables.exec = Jvm.exec ∧ c.code = byt y ∧ c.maxLocals = nl y ∧ s.vm.findClass (cn (oc y)) = some m.cls ∧ (∀ w ∈ UW, w.before args s = true) ∧ va_K D vwCl (tyA cA) s ∧ NW s ∧ AO s ∧ N0 ≤ s.heap.size ∧ meth.name = "<init>"
def C1 (p : Program) (l : Launch) (e : Env) (R : Room) (s : State) (m : MethodId) (args : Array Value) (below : List Frame) (meth : Method) (c : Code) (Q : State → Prop) (D : va_G) (cA : Nat → ClassId) (N0 y b0 z0 pc : Nat) (la : List (Option PV)) (st : List PV) (h : PH) : Prop :=
  ∀ (ls : Array Slot) (H : Heap) (locs : List Loc) (cl sl : Nat), L1 N0 (nl y) ls la → va_P D vwCl (ws1 cA N0 h) H → H.size = N0 + h.length → va_S (fun q => N0 ≤ q) s.heap H locs → cl + b0 = h.length → sl + z0 = szs h → W p l e R s m args below meth c H locs cl sl Q (F0 m (nd (bp y) pc) ls (st.map (pvV N0)))
theorem takeN_at : ∀ (n : Nat) (acc st as st' : List PV), takeN n acc st = some (as, st') → ∃ us : List PV, us.length = n ∧ st = us ++ st' ∧ as = us.reverse ++ acc
  | 0, acc, st, as, st', h => by
    simp only [takeN, Option.some.injEq, Prod.mk.injEq] at h
    exact ⟨[], rfl, by simp [h.2], by simp [h.1]⟩
  | n + 1, acc, [], as, st', h => by simp [takeN] at h
  | n + 1, acc, v :: st, as, st', h => by
    simp only [takeN] at h
    obtain ⟨us, h1, h2, h3⟩ := takeN_at n (v :: acc) st as st' h
    exact ⟨v :: us, by simp [h1], by simp [h2], by simp [h3]⟩
theorem p_sum {N0 : Nat} (st : List PV) : ((st.map (pvV N0)).map fun v => v.category).sum = st.length := by
  induction st with
  | nil => rfl
  | cons v st ih =>
    simp only [List.map_cons, List.sum_cons, List.length_cons, ih, pcat]
    omega
theorem irB_at {x : Int} (h : irB x = true) : ir x := by
  simp only [irB, Bool.and_eq_true, decide_eq_true_eq] at h
  exact h
theorem getD_fun (l : List (Option Nat)) (v N0 : Nat) (j : Int32) (hj : j.toNatClampNeg = l.length) : va_up (fun q => (l.getD q none).map (fun k => N0 + k)) j.toNatClampNeg (some (N0 + v)) = fun q => ((l ++ [some v]).getD q none).map (fun k => N0 + k) := by
  funext q
  rw [hj]
  simp only [va_up, List.getD_eq_getElem?_getD]
  by_cases h : q = l.length
  · subst h; simp
  · rw [if_neg h]
    by_cases h2 : q < l.length
    · rw [List.getElem?_append_left h2]
    · rw [List.getElem?_eq_none (by omega), List.getElem?_eq_none (by simp; omega)]
def refTy : FieldType → Bool
  | .object _ => true
  | .array _ => true
  | _ => false
theorem refTy_all : (List.range 9).all (fun c => (List.range (kc c).2.2).all (fun k => isI ((kc c).2.1 k).2.2.1 || refTy (ty0 c k))) = true := by decide +kernel
theorem in_nm : inL.all (fun y => !isS y && decide ((nm y).name = "<init>") && decide (rt y = none) && decide (y < 140)) = true := by decide +kernel
theorem in_at {y : Nat} (h : y ∈ inL) : isS y = false ∧ (nm y).name = "<init>" ∧ rt y = none ∧ y < 140 := by
  have := List.all_eq_true.mp in_nm y h
  simp only [Bool.and_eq_true, Bool.not_eq_true', decide_eq_true_eq] at this
  exact ⟨this.1.1.1, this.1.1.2, this.1.2, this.2⟩
section P1S
variable {p : Program} {l : Launch} {e₀ : Env} {R : Room} {s : State} {m : MethodId} {args : Array Value} {below : List Frame} {meth : Method} {c : Code} {Q : State → Prop}
variable {D : va_G} {cA : Nat → ClassId} {N0 y d b0 z0 : Nat}
set_option maxHeartbeats 4000000 in
theorem p1_sound (hF : FX1 p s m args meth c D cA N0 y) (hn : y ∈ inL) {hf : PH} {Cal : Nat → List PV → PH → Option PH} (hCm : ∀ y' as h h', Cal y' as h = some h' → Mon h h')
  (hCal : ∀ y' as h h', Cal y' as h = some h' → y' < 140 ∧ y' ∈ inL ∧ Met l (nm y') (wsM y') (rm1 d (h'.length - h.length) (szs h' - szs h)) (Pc1 D cA N0 as h) (Qc1 D cA N0 h') (h'.length - h.length) (szs h' - szs h) (fun q => N0 ≤ q))
  (hfr : d + 1 ≤ R.frames) (hlo : 32 * (d + 1) ≤ R.locals) (hce : hf.length ≤ b0 + R.cells) (hsl : szs hf ≤ z0 + R.slots)
  (hret : ∀ (pc0 : Nat) (ls : Array Slot) (H : Heap) (locs : List Loc) (cl sl : Nat), va_P D vwCl (ws1 cA N0 hf) H → H.size = N0 + hf.length → va_S (fun q => N0 ≤ q) s.heap H locs → cl + b0 = hf.length → sl + z0 = szs hf → decode (byt y) pc0 = .ok (.return_, 1) → W p l e₀ R s m args below meth c H locs cl sl Q (F0 m pc0 ls [])) :
    ∀ (n pc : Nat) (la : List (Option PV)) (st : List PV) (h : PH), p1 Cal (oc y) (cd y) n pc la st h = some hf → C1 p l e₀ R s m args below meth c Q D cA N0 y b0 z0 pc la st h
  | 0, _, _, _, _, hp => by simp [p1] at hp
  | n + 1, pc, la, st, h, hp => by
    have ih := fun pc la st h => p1_sound hF hn (hf := hf) hCm hCal hfr hlo hce hsl hret n pc la st h
    obtain ⟨hx, hb, hml, hown, hts, hKs, hNW, hAO, hN0, hin⟩ := hF
    have mono := fun pc la st h (q : p1 Cal (oc y) (cd y) n pc la st h = some hf) => p1_mono hCm n pc la st h q
    intro ls H locs cl sl hls hP hH hS hcl hsz
    simp only [p1] at hp
    split at hp
    · cases hp
    rename_i ins hins
    have hck := chkM_at _ 0 pc ins (chk_in1 hn) hins
    rw [Nat.zero_add] at hck
    obtain ⟨hd, hT, hLn, hCk⟩ := chk_split hck
    obtain ⟨J, ns, z⟩ := ins
    simp only at hp
    split at hp
    · -- aload_n
      have nx : nd (bp y) (pc + 1) = nd (bp y) pc + 1 := of_decide_eq_true hLn
      have hd := dec1 hd nx
      split at hp
      · rename_i r hr
        have w := ih _ _ _ _ hp ls H locs cl sl hls hP hH hS hcl hsz
        rw [nx] at w
        exact lv_aload_n hx hb hd rfl (hls.at hr) w
      · cases hp
    · -- iload_n
      have nx : nd (bp y) (pc + 1) = nd (bp y) pc + 1 := of_decide_eq_true hLn
      have hd := dec1 hd nx
      split at hp
      · rename_i r hr
        have w := ih _ _ _ _ hp ls H locs cl sl hls hP hH hS hcl hsz
        rw [nx] at w
        exact lv_iload_n hx hb hd rfl (hls.at hr) w
      · cases hp
    · -- istore_n
      have nx : nd (bp y) (pc + 1) = nd (bp y) pc + 1 := of_decide_eq_true hLn
      have hd := dec1 hd nx
      obtain ⟨hi, hp⟩ := bif_o hp
      have hi := Nat.le_of_ble_eq_true hi
      obtain ⟨e1, l0, e2, e3⟩ := hls
      refine lv_istore_n hx hb hd rfl e2 (by rw [← e1]; exact hi) rfl fun ls' hl' => ?_
      have w := ih _ _ _ _ hp ls' H locs cl sl (L1.set (v := .inl _) e1 e3 hl') hP hH hS hcl hsz
      rw [nx] at w
      exact w
    · -- iconst
      have nx : nd (bp y) (pc + 1) = nd (bp y) pc + 1 := of_decide_eq_true hLn
      have hd := dec1 hd nx
      have w := ih _ _ _ _ hp ls H locs cl sl hls hP hH hS hcl hsz
      rw [nx] at w
      exact lv_iconst hx hb hd rfl w
    · -- bipush
      have nx : nd (bp y) (pc + 1) = nd (bp y) pc + 2 := of_decide_eq_true hLn
      have hd := dec1 hd nx
      have w := ih _ _ _ _ hp ls H locs cl sl hls hP hH hS hcl hsz
      rw [nx] at w
      exact lv_bipush hx hb hd (i8_oi (of_decide_eq_true hCk)) w
    · -- sipush
      have nx : nd (bp y) (pc + 1) = nd (bp y) pc + 3 := of_decide_eq_true hLn
      have hd := dec1 hd nx
      have w := ih _ _ _ _ hp ls H locs cl sl hls hP hH hS hcl hsz
      rw [nx] at w
      exact lv_sipush hx hb hd (i16_oi (of_decide_eq_true hCk)) w
    · -- dup
      have nx : nd (bp y) (pc + 1) = nd (bp y) pc + 1 := of_decide_eq_true hLn
      have hd := dec1 hd nx
      have w := ih _ _ _ _ hp ls H locs cl sl hls hP hH hS hcl hsz
      rw [nx] at w
      exact lv_dup hx hb hd (pcat N0 _) w
    · -- new
      have nx : nd (bp y) (pc + 1) = nd (bp y) pc + 3 := of_decide_eq_true hLn
      have hd := dec1 hd nx
      split at hp
      · rename_i ci hci
        obtain ⟨g1, g2⟩ := clk_at hci
        obtain ⟨g3, g4⟩ := ins_at g2
        have mo := mono _ _ _ _ hp
        have mo1 := mo.1; have mo2 := mo.2
        rw [szs_app] at mo2
        simp only [List.length_append, List.length_singleton] at mo1
        have hbl : (blankF ci).length = (kc ci).2.2 := by simp [blankF]
        have hsC : szC (.inl (ci, blankF ci)) = (kc ci).2.2 := hbl
        rw [hsC] at mo2
        refine n1_new (fs := (blankF ci).map (pvV N0)) hx hb hts (uw_lay g2) (ty0 ci) (tyq_all g2) hown (hts _ (uw_mem g1 rfl)) (hts _ (uw_mem g3 rfl)) (hts _ (uw_mem g4 rfl)) hKs hP hS (kc_at g2) (fun j hj => blank_V g2 hj) (by omega) (by omega) hd (fun H1 hP1 hz1 hS1 => ?_)
        have w := ih _ _ _ _ hp ls H1 locs (cl + 1) (sl + (kc ci).2.2) hls (by rw [ws1_app, ← hH]; exact hP1) (by rw [hz1, hH]; simp; omega) hS1 (by simp; omega) (by rw [szs_app, hsC]; omega)
        rw [nx] at w
        rw [hH]
        exact w
      · cases hp
    · -- newarray int
      rename_i k0 st0
      have nx : nd (bp y) (pc + 1) = nd (bp y) pc + 2 := of_decide_eq_true hLn
      have hd := dec1 hd nx
      obtain ⟨hk, hp⟩ := bif_o hp
      simp only [Bool.and_eq_true, decide_eq_true_eq] at hk
      have mo := mono _ _ _ _ hp
      have mo1 := mo.1; have mo2 := mo.2
      rw [szs_app] at mo2
      simp only [List.length_append, List.length_singleton, szC] at mo1 mo2
      have hir : ir k0 := by unfold ir; omega
      refine n1_newa (atype := .int) (a0 := (k0.toNat, .inl (fun _ => 0))) hx hb (hts (Jvm.Cond.arrayClass .int) (uw_mem ar_int rfl)) (kA_name hKs 0 .int rfl) hP hS (fun cA => rfl) (by rw [oi_0, oi_lt hir ir_0]; omega) (oi_nat hir hk.1) (show k0.toNat * 4 ≤ 536870912 by omega) (by omega) (by omega) hd (fun H1 hP1 hz1 hS1 => ?_)
      have w := ih _ _ _ _ hp ls H1 locs (cl + 1) (sl + k0.toNat) hls (by rw [ws1_app, ← hH]; exact hP1) (by rw [hz1, hH]; simp; omega) hS1 (by simp; omega) (by rw [szs_app]; simp only [szC]; omega)
      rw [nx] at w
      rw [hH]
      exact w
    · -- newarray boolean
      rename_i k0 st0
      have nx : nd (bp y) (pc + 1) = nd (bp y) pc + 2 := of_decide_eq_true hLn
      have hd := dec1 hd nx
      obtain ⟨hk, hp⟩ := bif_o hp
      simp only [Bool.and_eq_true, decide_eq_true_eq] at hk
      have mo := mono _ _ _ _ hp
      have mo1 := mo.1; have mo2 := mo.2
      rw [szs_app] at mo2
      simp only [List.length_append, List.length_singleton, szC] at mo1 mo2
      have hir : ir k0 := by unfold ir; omega
      refine n1_newa (atype := .boolean) (a0 := (k0.toNat, .inl (fun _ => 0))) hx hb (hts (Jvm.Cond.arrayClass .boolean) (uw_mem ar_bool rfl)) (kA_name hKs 1 .boolean rfl) hP hS (fun cA => rfl) (by rw [oi_0, oi_lt hir ir_0]; omega) (oi_nat hir hk.1) (show k0.toNat * 1 ≤ 536870912 by omega) (by omega) (by omega) hd (fun H1 hP1 hz1 hS1 => ?_)
      have w := ih _ _ _ _ hp ls H1 locs (cl + 1) (sl + k0.toNat) hls (by rw [ws1_app, ← hH]; exact hP1) (by rw [hz1, hH]; simp; omega) hS1 (by simp; omega) (by rw [szs_app]; simp only [szC]; omega)
      rw [nx] at w
      rw [hH]
      exact w
    · -- anewarray
      rename_i x0 k0 st0
      have nx : nd (bp y) (pc + 1) = nd (bp y) pc + 3 := of_decide_eq_true hLn
      have hd := dec1 hd nx
      split at hp
      · rename_i hci
        obtain ⟨g1, g2⟩ := clk_at hci
        obtain ⟨hk, hp2⟩ := bif_o hp
        simp only [Bool.and_eq_true, decide_eq_true_eq] at hk
        have mo := mono _ _ _ _ hp2
        have mo1 := mo.1; have mo2 := mo.2
        rw [szs_app] at mo2
        simp only [List.length_append, List.length_singleton, szC] at mo1 mo2
        have hir : ir k0 := by unfold ir; omega
        refine n1_newq hx hb hown (hts (Jvm.Cond.classLink (cn (oc y)) x0 "RegionStack$Body") (uw_mem g1 rfl)) hAO.1 (kA_name hKs 2 (.object "RegionStack$Body") rfl) hP hS (by rw [oi_0, oi_lt hir ir_0]; omega) (oi_nat hir hk.1) (show k0.toNat * 4 ≤ 536870912 by omega) (by omega) (by omega) hd (fun H1 hP1 hz1 hS1 => ?_)
        have w := ih _ _ _ _ hp2 ls H1 locs (cl + 1) (sl + k0.toNat) hls (by rw [ws1_app, ← hH]; simp only [pE, List.getD_nil, Option.map_none]; exact hP1) (by rw [hz1, hH]; simp; omega) hS1 (by simp; omega) (by rw [szs_app]; simp only [szC]; omega)
        rw [nx] at w
        rw [hH]
        exact w
      · rename_i hci
        obtain ⟨g1, g2⟩ := clk_at hci
        obtain ⟨hk, hp2⟩ := bif_o hp
        simp only [Bool.and_eq_true, decide_eq_true_eq] at hk
        have mo := mono _ _ _ _ hp2
        have mo1 := mo.1; have mo2 := mo.2
        rw [szs_app] at mo2
        simp only [List.length_append, List.length_singleton, szC] at mo1 mo2
        have hir : ir k0 := by unfold ir; omega
        refine n1_newq hx hb hown (hts (Jvm.Cond.classLink (cn (oc y)) x0 "RegionStack$Text") (uw_mem g1 rfl)) hAO.2 (kA_name hKs 3 (.object "RegionStack$Text") rfl) hP hS (by rw [oi_0, oi_lt hir ir_0]; omega) (oi_nat hir hk.1) (show k0.toNat * 4 ≤ 536870912 by omega) (by omega) (by omega) hd (fun H1 hP1 hz1 hS1 => ?_)
        have w := ih _ _ _ _ hp2 ls H1 locs (cl + 1) (sl + k0.toNat) hls (by rw [ws1_app, ← hH]; simp only [pE, List.getD_nil, Option.map_none]; exact hP1) (by rw [hz1, hH]; simp; omega) hS1 (by simp; omega) (by rw [szs_app]; simp only [szC]; omega)
        rw [nx] at w
        rw [hH]
        exact w
      · cases hp
    · -- aastore
      rename_i v0 j0 a0 st0
      have nx : nd (bp y) (pc + 1) = nd (bp y) pc + 1 := of_decide_eq_true hLn
      have hd := dec1 hd nx
      split at hp
      · rename_i kk0 l0 fs0 ha hv
        obtain ⟨hk, hp2⟩ := bif_o hp
        simp only [Bool.and_eq_true, decide_eq_true_eq] at hk
        have hir : ir j0 := by unfold ir; omega
        have e1 := ws1_at (cA := cA) (N0 := N0) ha
        have e2 := ws1_at (cA := cA) (N0 := N0) hv
        refine n1_ast hx hb hKs hP (ws1_D h) hS a0 2 v0 0 e1 rfl e2 (kc_at (by omega)) ((oi_in hir).mpr ⟨hk.1.1.1, hk.1.1.2⟩) hd (fun H1 locs1 hP1 hz1 hS1 => ?_)
        rw [getD_fun l0 v0 N0 (Int32.ofInt j0) (by rw [oi_nat hir hk.1.1.1]; exact hk.2)] at hP1
        have w := ih _ _ _ _ hp2 ls H1 locs1 cl sl hls (by rw [ws1_set]; exact hP1) (by rw [hz1, hH]; simp) hS1 (by simp; omega) (by rw [szs_set h a0 _ _ ha (by rfl)]; exact hsz)
        rw [nx] at w
        exact w
      · rename_i kk0 l0 fs0 ha hv
        obtain ⟨hk, hp2⟩ := bif_o hp
        simp only [Bool.and_eq_true, decide_eq_true_eq] at hk
        have hir : ir j0 := by unfold ir; omega
        have e1 := ws1_at (cA := cA) (N0 := N0) ha
        have e2 := ws1_at (cA := cA) (N0 := N0) hv
        refine n1_ast hx hb hKs hP (ws1_D h) hS a0 3 v0 6 e1 rfl e2 (kc_at (by omega)) ((oi_in hir).mpr ⟨hk.1.1.1, hk.1.1.2⟩) hd (fun H1 locs1 hP1 hz1 hS1 => ?_)
        rw [getD_fun l0 v0 N0 (Int32.ofInt j0) (by rw [oi_nat hir hk.1.1.1]; exact hk.2)] at hP1
        have w := ih _ _ _ _ hp2 ls H1 locs1 cl sl hls (by rw [ws1_set]; exact hP1) (by rw [hz1, hH]; simp) hS1 (by simp; omega) (by rw [szs_set h a0 _ _ ha (by rfl)]; exact hsz)
        rw [nx] at w
        exact w
      · cases hp
    · -- getfield
      rename_i x0 ci0 k0 q0 a0 st0
      have nx : nd (bp y) (pc + 1) = nd (bp y) pc + 3 := of_decide_eq_true hLn
      have hd := dec1 hd nx
      split at hp
      · rename_i cj fs ha
        split at hp
        · rename_i v0 hv
          obtain ⟨hc, hp2⟩ := bif_o hp
          clear hp
          have hc := beq_t hc
          subst hc
          obtain ⟨g0, g0'⟩ := lkf_get hCk
          obtain ⟨g1, g2, g3, g4, g5, g6, g7⟩ := lkf_use g0
          rw [Nat.add_sub_cancel] at g1 g2 g6
          have w := ih _ _ _ _ hp2 ls H locs cl sl hls hP hH hS hcl hsz
          rw [nx] at w
          have e1 := ws1_at (cA := cA) (N0 := N0) ha
          have g6 : ((kc cj).2.1 k0).1 = (kc cj).1 := g6
          refine va_get (D := D) (ci := cj) (C := (kc cj).1) (T := (kc cj).2.1) (N := (kc cj).2.2) (v := pvV N0 v0) hx hb hts (uw_lay (by omega)) hown hKs hP a0 e1 (kc_at (by omega)) k0 g2 (hts _ (uw_mem g1 rfl)) (fun x hx' => by rw [g6] at hx'; exact hx') (by rw [List.getElem?_map, nth_get hv]; rfl) hd w
        · cases hp
      · cases hp
    · -- putfield
      rename_i x0 ci0 k0 q0 v0 a0 st0
      have nx : nd (bp y) (pc + 1) = nd (bp y) pc + 3 := of_decide_eq_true hLn
      have hd := dec1 hd nx
      split at hp
      · rename_i cj fs ha
        obtain ⟨hc, hp2⟩ := bif_o hp
        clear hp
        simp only [Bool.and_eq_true] at hc
        obtain ⟨⟨⟨hc, hoc⟩, hkl⟩, hq⟩ := hc
        have hc := beq_t hc
        have hoc := beq_t hoc
        subst hc
        have hkl := Nat.le_of_ble_eq_true hkl
        obtain ⟨g0, g0'⟩ := lkf_put hCk
        obtain ⟨g1, g2, g3, g4, g5, g6, g7⟩ := lkf_use g0
        rw [Nat.add_sub_cancel] at g1 g2 g6
        have e1 := ws1_at (cA := cA) (N0 := N0) ha
        have g6 : ((kc cj).2.1 k0).1 = (kc cj).1 := g6
        have g5 : tyq q0 ((kc cj).2.1 k0).2.2.1 = true := g5
        have hsame : ∀ x, s.fieldFound? ((kc cj).2.1 k0).1 ((kc cj).2.1 k0).2.1 ((kc cj).2.1 k0).2.2.1 = some x → s.fieldFound? (kc cj).1 ((kc cj).2.1 k0).2.1 ((kc cj).2.1 k0).2.2.1 = some x := fun x hx' => by rw [g6] at hx'; exact hx'
        have hown2 : cn (oc y) = (kc cj).1 := by rw [hoc]; exact cn_at (by omega)
        have ht := tyq_all (c := cj) (by omega) k0 g2
        have hnf : narrow (ty0 cj k0) (pvV N0 v0) = pvV N0 v0 ∧ fits (ty0 cj k0) (pvV N0 v0) = true := by
          rcases v0 with x | r
          · have hq := beq_t hq
            subst hq
            have e9 := of_decide_eq_true g5
            rw [e9] at ht
            have : parseFieldDescriptor "I" = some .int := by decide +kernel
            rw [this] at ht
            have ht2 := Option.some.inj ht
            rw [← ht2]
            exact ⟨rfl, rfl⟩
          · have hq := beq_t hq
            subst hq
            simp only [tyq, Bool.and_eq_true, Bool.not_eq_true'] at g5
            have h9 := List.all_eq_true.mp (List.all_eq_true.mp refTy_all cj (List.mem_range.mpr (by omega))) k0 (List.mem_range.mpr g2)
            simp only [isI, g5.1, g5.2, Bool.or_self, Bool.false_or] at h9
            cases hty : ty0 cj k0 <;> rw [hty] at h9 <;> first | cases h9 | skip
            all_goals rcases r with _ | r <;> exact ⟨rfl, rfl⟩
        refine n1_put (D := D) (ci := cj) (C := (kc cj).1) (T := (kc cj).2.1) (N := (kc cj).2.2) hx hb hts (uw_lay (by omega)) (ty0 cj) (tyq_all (by omega)) (nmq_all (by omega)) hown hKs hP (ws1_D h) hS a0 e1 (kc_at (by omega)) k0 g2 (hts _ (uw_mem g1 rfl)) hsame (fun _ => ⟨hin, by rw [g6, hown2]⟩) ht hnf.1 hnf.2 (by simp; omega) hd (fun H1 locs1 hP1 hz1 hS1 => ?_)
        have w := ih _ _ _ _ hp2 ls H1 locs1 cl sl hls (by rw [ws1_set]; simp only [pE, List.map_set]; exact hP1) (by rw [hz1, hH]; simp) hS1 (by simp; omega) (by rw [szs_set h a0 _ _ ha (by simp [szC])]; exact hsz)
        rw [nx] at w
        exact w
      · cases hp
    · -- arraylength
      rename_i a0 st0
      have nx : nd (bp y) (pc + 1) = nd (bp y) pc + 1 := of_decide_eq_true hLn
      have hd := dec1 hd nx
      split at hp
      · rename_i k0 m0 l0 ha
        obtain ⟨hk, hp2⟩ := bif_o hp
        simp only [Bool.and_eq_true] at hk
        obtain ⟨⟨hk1, hk2⟩, hk3⟩ := hk
        have hk1 := Nat.le_of_ble_eq_true hk1
        have hk2 := Nat.le_of_ble_eq_true hk2
        have hk3 := Nat.le_of_ble_eq_true hk3
        have w := ih _ _ _ _ hp2 ls H locs cl sl hls hP hH hS hcl hsz
        rw [nx] at w
        have e1 := ws1_at (cA := cA) (N0 := N0) ha
        have h4 : k0 = 1 ∨ k0 = 2 ∨ k0 = 3 ∨ k0 = 4 := by omega
        rcases h4 with rfl | rfl | rfl | rfl
        · exact va_alen hx hb hKs hP a0 0 e1 (ty := .int) rfl rfl hd w
        · exact va_alen hx hb hKs hP a0 1 e1 (ty := .boolean) rfl rfl hd w
        · exact va_alen hx hb hKs hP a0 2 e1 (ty := .object "RegionStack$Body") rfl rfl hd w
        · exact va_alen hx hb hKs hP a0 3 e1 (ty := .object "RegionStack$Text") rfl rfl hd w
      · cases hp
    · -- if_icmp ge
      rename_i off t0 y0 x0 st0
      have nx : nd (bp y) (pc + 1) = nd (bp y) pc + 3 := of_decide_eq_true hLn
      have hd := dec1 hd nx
      obtain ⟨hk, hp2⟩ := bif_o hp
      simp only [Bool.and_eq_true] at hk
      have hx0 := irB_at hk.1
      have hy0 := irB_at hk.2
      refine lv_icmp_ge hx hb hd (of_decide_eq_true hT) (fun q => ?_) (fun q => ?_)
      · have q := (oi_le hy0 hx0).mp q
        rw [decide_eq_true q, cond_true] at hp2
        exact ih _ _ _ _ hp2 ls H locs cl sl hls hP hH hS hcl hsz
      · have q : ¬ y0 ≤ x0 := fun z => q ((oi_le hy0 hx0).mpr z)
        rw [decide_eq_false q, cond_false] at hp2
        have w := ih _ _ _ _ hp2 ls H locs cl sl hls hP hH hS hcl hsz
        rw [nx] at w
        exact w
    · -- ifle
      rename_i off t0 x0 st0
      have nx : nd (bp y) (pc + 1) = nd (bp y) pc + 3 := of_decide_eq_true hLn
      have hd := dec1 hd nx
      obtain ⟨hk, hp2⟩ := bif_o hp
      have hx0 := irB_at hk
      refine lv_if_le hx hb hd (of_decide_eq_true hT) (fun q => ?_) (fun q => ?_)
      · have q := (oi_le hx0 ir_0).mp q
        rw [decide_eq_true q, cond_true] at hp2
        exact ih _ _ _ _ hp2 ls H locs cl sl hls hP hH hS hcl hsz
      · have q : ¬ x0 ≤ 0 := fun z => q ((oi_le hx0 ir_0).mpr z)
        rw [decide_eq_false q, cond_false] at hp2
        have w := ih _ _ _ _ hp2 ls H locs cl sl hls hP hH hS hcl hsz
        rw [nx] at w
        exact w
    · -- goto
      rename_i off t0
      have nx : nd (bp y) (pc + 1) = nd (bp y) pc + 3 := of_decide_eq_true hLn
      have hd := dec1 hd nx
      have w := ih _ _ _ _ hp ls H locs cl sl hls hP hH hS hcl hsz
      exact lv_goto hx hb hd (of_decide_eq_true hT) w
    · -- iinc
      rename_i i0 k0
      have nx : nd (bp y) (pc + 1) = nd (bp y) pc + 3 := of_decide_eq_true hLn
      have hd := dec1 hd nx
      split at hp
      · rename_i x0 hr
        obtain ⟨hk, hp2⟩ := bif_o hp
        have hi := nth_lt _ _ _ hr
        obtain ⟨e1, l0, e2, e3⟩ := hls
        obtain ⟨k, hk⟩ := List.getElem?_of_mem (e3 _ _ hr)
        refine lv_iinc (v := Int32.ofInt (x0 + k0)) hx hb hd e2 hk (by rw [Int32.ofInt_add]) (by rw [← e1]; exact hi) rfl fun ls' hl' => ?_
        have w := ih _ _ _ _ hp2 ls' H locs cl sl (L1.set (v := .inl (x0 + k0)) e1 e3 hl') hP hH hS hcl hsz
        rw [nx] at w
        exact w
      · cases hp
    · -- Object.<init>
      rename_i x0 a0 st0
      have nx : nd (bp y) (pc + 1) = nd (bp y) pc + 3 := of_decide_eq_true hLn
      have hd := dec1 hd nx
      obtain ⟨hk, hp2⟩ := bif_o hp
      simp only [Bool.and_eq_true] at hk
      have hlink : Jvm.Cond.methodLink (cn (oc y)) x0 Lib.objectInit ∈ lw_tbl := by
        obtain ⟨⟨e1, e2, e3⟩, he, hc⟩ := List.any_eq_true.mp hk.1
        simp only [Bool.and_eq_true, decide_eq_true_eq] at hc
        obtain ⟨rfl, rfl⟩ := hc
        exact lw_mem (List.all_eq_true.mp lko_ok _ he)
      have h8 := Nat.le_of_ble_eq_true hk.2
      have w := ih _ _ _ _ hp2 ls H locs cl sl hls hP hH hS hcl hsz
      rw [nx] at w
      obtain ⟨e1, l0, e2, e3⟩ := hls
      refine W.objInit hx hb hown (hts _ (uw_mem hlink rfl)) (hts _ (uw_mem ob_inst rfl)) (hts _ (uw_mem ob_code rfl)) rfl (by rw [hml]; exact e2.1) rfl hd (by omega) (by rw [p_sum]; show 2 * 0 + _ + 12 ≤ _; omega) ?_
      exact w
    · -- a constructor
      rename_i x0 y0 n0 c0
      have nx : nd (bp y) (pc + 1) = nd (bp y) pc + 3 := of_decide_eq_true hLn
      have hd := dec1 hd nx
      split at hp
      · rename_i as0 st0 htk
        obtain ⟨hk, hp2⟩ := bif_o hp
        clear hp
        simp only [Bool.and_eq_true, Bool.or_eq_true, mlk] at hk
        obtain ⟨⟨hlk, hk2⟩, h8, hrf⟩ := hk
        have hk2 := beq_t hk2
        have h8 := Nat.le_of_ble_eq_true h8
        split at hp2
        · rename_i h' hcl'
          obtain ⟨hy0, hyn, hM⟩ := hCal _ _ _ _ hcl'
          obtain ⟨p1', p2', p3', p4', p5', p6', p7', p8', p9', p10'⟩ := pl_at hy0
          obtain ⟨i1, i2, i3, i4⟩ := in_at hyn
          have mo0 := hCm _ _ _ _ hcl'
          have mo := mono _ _ _ _ hp2
          have m1 := mo0.1; have m2 := mo0.2; have m3 := mo.1; have m4 := mo.2
          obtain ⟨us, u1, u2, u3⟩ := takeN_at _ _ _ _ _ htk
          rw [List.append_nil] at u3
          rcases as0 with _ | ⟨v0, as1⟩
          · cases hrf
          rcases v0 with v0 | r0
          · cases hrf
          rcases r0 with _ | b9
          · cases hrf
          have hst : st.map (pvV N0) = (as1.map (pvV N0)).reverse ++ .ref (N0 + b9) :: st0.map (pvV N0) := by
            have : us = as1.reverse ++ [.inr (some b9)] := by rw [← List.reverse_reverse us, ← u3, List.reverse_cons]
            rw [u2, this]
            simp only [List.map_append, List.map_reverse, List.map_cons, List.map_nil, pvV, List.append_assoc, List.singleton_append]
          have hlen : (as1.map (pvV N0)).length = np y0 := by
            have : (us.length) = as1.length + 1 := by rw [← List.length_reverse, ← u3]; rfl
            rw [List.length_map]; omega
          have hblind : FrameBlind (Pc1 D cA N0 (.inr (some b9) :: as1) h) := fun a U g mk q => by
            obtain ⟨q0, qP, qz, qK, qN, qA⟩ := q
            exact ⟨q0, qP, qz, va_K.moved (u := U) (U := U.calling g mk a) (Vm.Alike.refl U.vm) qK, NW.same (u := U) rfl qN, ⟨va_AO.moved (u := U) (U := U.calling g mk a) (Vm.Alike.refl U.vm) qA.1, va_AO.moved (u := U) (U := U.calling g mk a) (Vm.Alike.refl U.vm) qA.2⟩⟩
          have hpre : ∀ U : State, U.heap = H → s.WarmedH U.vm → Pc1 D cA N0 (.inr (some b9) :: as1) h (Value.ref (N0 + b9) :: as1.map (pvV N0)).toArray U := fun U hU hW => ⟨rfl, by rw [hU]; exact hP, by rw [hU]; exact hH, va_K.moved hW.alike hKs, NW.moved hW hNW, ⟨va_AO.moved hW.alike hAO.1, va_AO.moved hW.alike hAO.2⟩⟩
          have hroom : (rm1 d (h'.length - h.length) (szs h' - szs h)).frames + 1 ≤ R.frames ∧ 8 + (nl y0 + 11) + (rm1 d (h'.length - h.length) (szs h' - szs h)).locals ≤ R.locals := ⟨hfr, by show 8 + (nl y0 + 11) + 32 * d ≤ R.locals; omega⟩
          have hWr : 2 * (F0 m (nd (bp y) pc) ls (st.map (pvV N0))).monitorRoom + ((st0.map (pvV N0)).map fun v => v.category).sum ≤ 8 := lv_room (by rw [p_sum]; exact h8)
          have hsz9 : ls.size = nl y := by obtain ⟨-, l0, q, -⟩ := hls; exact q.1
          have hro : cl + (h'.length - h.length) ≤ R.cells ∧ sl + (szs h' - szs h) ≤ R.slots := ⟨by omega, by omega⟩
          have kk : ∀ (t : State) (H1 : Heap) (locs1 : List Loc), t.heap = H1 → s.vm.Alike t.vm → (va_P D vwCl (ws1 cA N0 h') t.heap ∧ t.heap.size = N0 + h'.length) → va_S (fun q => N0 ≤ q) s.heap H1 locs1 → W p l e₀ R s m args below meth c H1 locs1 (cl + (h'.length - h.length)) (sl + (szs h' - szs h)) Q (F0 m (nd (bp y) pc + 3) ls ((none : Option Value).toList ++ st0.map (pvV N0))) := by
            intro t H1 locs1 ht _ hB hS1
            rw [ht] at hB
            have w := ih _ _ _ _ hp2 ls H1 locs1 (cl + (h'.length - h.length)) (sl + (szs h' - szs h)) hls hB.1 hB.2 hS1 (by omega) (by omega)
            rw [nx] at w
            exact w
          rcases hlk with hlk | hlk
          · have hlink : Jvm.Cond.methodLink (cn (oc y)) x0 (nm y0) ∈ lw_tbl := by
              obtain ⟨⟨e1, e2, e3, e4⟩, he, hc⟩ := List.any_eq_true.mp hlk
              simp only [Bool.and_eq_true, decide_eq_true_eq] at hc
              obtain ⟨⟨rfl, rfl⟩, rfl⟩ := hc
              exact lw_mem (List.all_eq_true.mp lkm_ok _ he)
            have cw := cwI (R := R) (s := s) (args := args) (own := cn (oc y)) (index := x0) (y := nm y0) (bytes := byt y0) (maxL := nl y0) (ws := wsM y0) (rm := rm1 d (h'.length - h.length) (szs h' - szs h)) (mc := h'.length - h.length) (ms := szs h' - szs h) (np y0) hts (good_wsM p10') (by unfold wsM; rw [i3]) rfl rfl (hts _ p1') (hts _ (uw_mem hlink rfl)) (hts _ (p3' i1)) i2 p6' hroom
            have hrun := va_runI (p := p) (l := l) (e := e₀) (below := below) (meth := meth) (locs := locs) (cells := cl) (slots := sl) (g := F0 m (nd (bp y) pc) ls (st.map (pvV N0))) (As := as1.map (pvV N0)) (rest := st0.map (pvV N0)) ⟨hx, hb, hml, hown, hts⟩ hM cw ⟨hblind, hpre⟩ rfl hlen hsz9 hst hWr hd hro
            exact va_callg hrun hS kk
          · have hl9 : va_Nw (.methodLinkNest (cn (oc y)) x0 (nm y0) "RegionStack") s := by
              obtain ⟨⟨e1, e2, e3, e4⟩, he, hc⟩ := List.any_eq_true.mp hlk
              simp only [Bool.and_eq_true, decide_eq_true_eq] at hc
              obtain ⟨⟨rfl, rfl⟩, rfl⟩ := hc
              exact hNW _ he
            have cw := va_cnB (R := R) (s := s) (args := args) (own := cn (oc y)) (host := "RegionStack") (index := x0) (y := nm y0) (bytes := byt y0) (maxL := nl y0) (ret := none) (ws := wsM y0) (rm := rm1 d (h'.length - h.length) (szs h' - szs h)) (mc := h'.length - h.length) (ms := szs h' - szs h) (np y0) hts (good_wsM p10') (by unfold wsM; rw [i3]) rfl rfl hl9 (hts _ p1') p6' hroom
            have hrun := va_runIN (p := p) (l := l) (e := e₀) (below := below) (meth := meth) (locs := locs) (cells := cl) (slots := sl) (g := F0 m (nd (bp y) pc) ls (st.map (pvV N0))) (As := as1.map (pvV N0)) (rest := st0.map (pvV N0)) ⟨hx, hb, hml, hown, hts⟩ hM ⟨cw, i2, hts _ (p3' i1)⟩ ⟨hblind, hpre⟩ rfl hlen hsz9 hst hWr hd hro
            exact va_callg hrun hS kk
        · cases hp2
      · cases hp
    · -- return
      have hd : decode (byt y) (nd (bp y) pc) = .ok (.return_, 1) := dec1 hd (of_decide_eq_true hLn)
      cases hp
      exact hret _ ls H locs cl sl hP hH hS hcl hsz hd
    · cases hp
end P1S
theorem p_args {N0 : Nat} : ∀ (as : List PV), lg_sl (as.map (pvV N0)) = (as.map (pvV N0)).map Slot.val
  | [] => rfl
  | a :: as => by
    have := p_args (N0 := N0) as
    simp only [lg_sl, List.map_cons, List.flatMap_cons] at this ⊢
    rw [this, pcat]
    simp
theorem p_lv {N0 : Nat} : ∀ (as : List PV) (k i : Nat) (v : PV), nth (as.map some) i = some (some v) → (k + i, pvV N0 v) ∈ lv_args k (as.map (pvV N0))
  | [], _, _, _, h => by simp [nth] at h
  | a :: as, k, i, v, h => by
    simp only [List.map_cons, lv_args, pcat]
    cases i with
    | zero =>
      simp only [List.map_cons, nth, Option.some.injEq] at h
      subst h
      exact List.mem_cons_self
    | succ i =>
      simp only [List.map_cons, nth] at h
      have := p_lv (N0 := N0) as (k + 1) i v h
      rw [show k + (i + 1) = k + 1 + i by omega]
      refine List.mem_cons_of_mem _ ?_
      simpa using this
theorem nth_app2 {α : Type} : ∀ (as bs : List α) (i : Nat) (v : α), nth (as ++ bs) i = some v → nth as i = some v ∨ ∃ j, nth bs j = some v
  | [], bs, i, v, h => Or.inr ⟨i, h⟩
  | a :: as, bs, 0, v, h => Or.inl h
  | a :: as, bs, i + 1, v, h => nth_app2 as bs i v h
theorem L1_ent {N0 n : Nat} {as : List PV} (hl : as.length ≤ n) : L1 N0 n ((lg_sl (as.map (pvV N0)) ++ List.replicate (n - (lg_sl (as.map (pvV N0))).length) Slot.unset).toArray) (as.map some ++ List.replicate (n - as.length) none) := by
  have hs := p_args (N0 := N0) as
  have hlen : (lg_sl (as.map (pvV N0))).length = as.length := by rw [hs]; simp
  refine ⟨by simp; omega, _, lv_entry (as.map (pvV N0)) (by rw [hlen]; exact hl), fun i v hi => ?_⟩
  rcases nth_app2 _ _ _ _ hi with q | ⟨j, q⟩
  · have := p_lv (N0 := N0) as 0 i v q
    rwa [Nat.zero_add] at this
  · have := (List.mem_replicate.mp (nth_mem _ _ _ q)).2
    cases this
/-- a run of the list machine gives a constructor's contract -/
theorem P1_met {l : Launch} {D : va_G} {cA : Nat → ClassId} {N0 : Nat} : ∀ (d y : Nat) (as : List PV) (h h' : PH), P1 d y as h = some h' → y < 140 ∧ y ∈ inL ∧ Met l (nm y) (wsM y) (rm1 d (h'.length - h.length) (szs h' - szs h)) (Pc1 D cA N0 as h) (Qc1 D cA N0 h') (h'.length - h.length) (szs h' - szs h) (fun q => N0 ≤ q)
  | 0, _, _, _, _, hp => by simp [P1] at hp
  | d + 1, y, as, h, h', hp => by
    have mo := P1_mono _ _ _ _ _ hp
    simp only [P1] at hp
    obtain ⟨hk, hp⟩ := bif_o hp
    simp only [Bool.and_eq_true, decide_eq_true_eq] at hk
    obtain ⟨⟨hn, hy⟩, hl⟩ := hk
    have hn : y ∈ inL := by rw [List.elem_eq_mem] at hn; exact of_decide_eq_true hn
    have hl := Nat.le_of_ble_eq_true hl
    obtain ⟨p1', p2', p3', p4', p5', p6', p7', p8', p9', p10'⟩ := pl_at hy
    obtain ⟨i1, i2, i3, i4⟩ := in_at hn
    refine ⟨hy, hn, ?_⟩
    refine Met.ofW (cc := byt y) (maxL := nl y) (ret := rt y) p5' rfl ?_
    intro p e s m args below meth c s₁ B hml hv
    obtain ⟨rfl, hP, hz, hK, hN, hA⟩ := hv
    have hts := atoms_spec (ws := wsM y) B.pre
    have hown : s.vm.findClass (nm y).cls = some m.cls := findClass_of_methodNamed B.named
    have hlocks := B.notSynchronized
    have hr := B.returns
    have hF : FX1 p s m (as.map (pvV N0)).toArray meth c D cA N0 y := ⟨B.exec, B.bytes, hml, by rw [← p8']; exact hown, fun w hw => hts w (List.mem_cons_of_mem _ hw), hK, hN, hA, by omega, by rw [← i2]; exact (name_of_methodNamed B.named B.method).1⟩
    have m1 := mo.1; have m2 := mo.2
    have hw := p1_sound (p := p) (l := l) (e₀ := e) (below := below) (meth := meth) (R := (headSpec (wsM y) (rm1 (d + 1) (h'.length - h.length) (szs h' - szs h))).room) (Q := MQ below (Qc1 D cA N0 h') (as.map (pvV N0)).toArray s (h'.length - h.length) (szs h' - szs h) (fun q => N0 ≤ q)) (d := d) (b0 := h.length) (z0 := szs h) hF hn (hf := h') (fun y' as h h' q => P1_mono d y' as h h' q) (fun y' as h h' q => P1_met d y' as h h' q) (Nat.le_refl _) (Nat.le_refl _) (show h'.length ≤ h.length + (h'.length - h.length) by omega) (show szs h' ≤ szs h + (szs h' - szs h) by omega) ?_ 400 0 _ [] h hp
    · have hb0 : nd (bp y) 0 = 0 := bp0 hy
      have := hw _ s.heap [] 0 0 (L1_ent hl) hP hz va_S.rf (by omega) (by omega)
      rw [hb0] at this
      rw [lg_entry_eq]
      exact this
    · intro pc0 ls H locs cl sl k1 k2 k3 k4 k5 k6
      obtain rfl : cl = h'.length - h.length := by omega
      obtain rfl : sl = szs h' - szs h := by omega
      exact W.vret B.exec B.bytes (by rw [hr, i3]) (fun t ht hW => ⟨rfl, ⟨by rw [ht]; exact k1, by rw [ht]; exact k2⟩, k3.F ht⟩) k3.2.2 k6
end
section
/-! ===== texts, without any heap: which places are names, how many terms are due, where a part ends ===== -/
/-- a name stands at place k -/
def nmA (s : Int → Int) : Nat → Bool
  | 0 => false
  | k + 1 => !nmA s k && (decide (s k = 108) || decide (s k = 64))
/-- how many terms are due ahead of place k -/
def opA (s : Int → Int) : Nat → Int
  | 0 => 1
  | k + 1 => if nmA s k = true then opA s k else opA s k + inn (kos (s k)) - 1
def badA (s : Int → Int) (k : Nat) : Prop := opA s k = 0 ∨ (nmA s k = true ∧ nmf (s ((k : Int) - 1)) (s k) = 0) ∨ (nmA s k = false ∧ kos (s k) < 0)
def GoodA (n : Nat) (s : Int → Int) : Prop := (∀ k, k < n → ¬ badA s k) ∧ opA s n = 0 ∧ nmA s n = false
def IsFA (n : Nat) (s : Int → Int) (f : Int) : Prop := (f = -6 ∧ GoodA n s) ∨ (f = n ∧ (∀ k, k < n → ¬ badA s k) ∧ (opA s n ≠ 0 ∨ nmA s n = true)) ∨ (∃ k : Nat, k < n ∧ f = k ∧ badA s k ∧ ∀ j, j < k → ¬ badA s j)
theorem IsFA_uniq {n : Nat} {s : Int → Int} {f g : Int} (h1 : IsFA n s f) (h2 : IsFA n s g) : f = g := by
  rcases h1 with ⟨a1, a2, a3, a4⟩ | ⟨a1, a2, a3⟩ | ⟨k, a1, a2, a3, a4⟩ <;> rcases h2 with ⟨b1, b2, b3, b4⟩ | ⟨b1, b2, b3⟩ | ⟨j, b1, b2, b3, b4⟩
  · omega
  · rcases b3 with q | q
    · exact absurd a3 q
    · rw [a4] at q; cases q
  · exact absurd b3 (a2 j b1)
  · rcases a3 with q | q
    · exact absurd b3 q
    · rw [b4] at q; cases q
  · omega
  · exact absurd b3 (a2 j b1)
  · exact absurd a3 (b2 k a1)
  · exact absurd a3 (b2 k a1)
  · rcases Nat.lt_trichotomy k j with q | q | q
    · exact absurd a3 (b4 k q)
    · subst q; omega
    · exact absurd b3 (a4 j q)
theorem IsFA_cong {n : Nat} {s s' : Int → Int} (h : ∀ k : Nat, k < n → s k = s' k) : (∀ k, k ≤ n → nmA s k = nmA s' k ∧ opA s k = opA s' k) ∧ (∀ k, k < n → (badA s k ↔ badA s' k)) := by
  have h1 : ∀ k, k ≤ n → nmA s k = nmA s' k ∧ opA s k = opA s' k := by
    intro k
    induction k with
    | zero => intro _; exact ⟨rfl, rfl⟩
    | succ k ih =>
      intro hk
      obtain ⟨i1, i2⟩ := ih (by omega)
      simp only [nmA, opA, i1, i2, h k (by omega)]
      exact ⟨trivial, trivial⟩
  refine ⟨h1, fun k hk => ?_⟩
  obtain ⟨i1, i2⟩ := h1 k (by omega)
  unfold badA
  rw [i1, i2, h k hk]
  cases k with
  | zero => simp [nmA]
  | succ k =>
    have := h k (by omega)
    rw [show (((k + 1 : Nat) : Int) - 1) = (k : Int) by omega, this]
theorem inn_rng (k : Int) : 0 ≤ inn k ∧ inn k ≤ 3 := by unfold inn; split; · omega
                                                        split; · omega
                                                        split <;> omega
theorem kos_rng (x : Int) : kos x = -6 ∨ (0 ≤ kos x ∧ kos x ≤ 9) := by
  unfold kos
  repeat' split
  all_goals omega
theorem kos_nam (x : Int) : (kos x = 8 ↔ x = 108) ∧ (kos x = 9 ↔ x = 64) ∧ (kos x = 7 ↔ x = 63) ∧ (kos x = 6 ↔ x = 43) ∧ (kos x = 5 ↔ x = 45) ∧ (kos x = 4 ↔ x = 42) ∧ (kos x = 3 ↔ x = 110) ∧ (kos x = 1 ↔ x = 120) ∧ (kos x = 2 ↔ (97 ≤ x ∧ x ≤ 100)) ∧ (kos x = 0 ↔ (48 ≤ x ∧ x ≤ 57)) := by
  unfold kos
  repeat' split
  all_goals omega
theorem tin_kos (x : Int) : tin x = if kos x < 0 then -1 else inn (kos x) := by
  have h := kos_nam x
  have r := kos_rng x
  generalize kos x = k at *
  unfold tin inn
  repeat' split
  all_goals omega
theorem inn_nam {x : Int} (h : x = 108 ∨ x = 64) : 1 ≤ inn (kos x) := by
  rcases h with rfl | rfl <;> decide
theorem op_step {s : Int → Int} {k : Nat} (h : nmA s k = false) : opA s (k + 1) = opA s k + inn (kos (s k)) - 1 := by
  simp only [opA, h]; rfl
theorem op_name {s : Int → Int} {k : Nat} (h : nmA s k = true) : opA s (k + 1) = opA s k := by
  simp only [opA, h]; rfl
theorem op_low {s : Int → Int} (k : Nat) : opA s k - 1 ≤ opA s (k + 1) := by
  have := inn_rng (kos (s k))
  cases h : nmA s k
  · rw [op_step h]; omega
  · rw [op_name h]; omega
theorem op_pos {n : Nat} {s : Int → Int} (h : ∀ k, k < n → ¬ badA s k) : ∀ k, k ≤ n → 0 ≤ opA s k ∧ (k < n → 1 ≤ opA s k) := by
  intro k
  have hb : ∀ k, k < n → 0 ≤ opA s k → 1 ≤ opA s k := fun k hk h0 => by
    rcases (show 1 ≤ opA s k ∨ opA s k = 0 by omega) with q | q
    · exact q
    · exact absurd (Or.inl q) (h k hk)
  induction k with
  | zero => intro _; exact ⟨by simp [opA], fun hk => hb 0 hk (by simp [opA])⟩
  | succ k ih =>
    intro hk
    have i := (ih (by omega)).2 (by omega)
    have := op_low (s := s) k
    exact ⟨by omega, fun q => hb _ q (by omega)⟩
theorem nm_next {s : Int → Int} {k : Nat} (h : nmA s k = false) : nmA s (k + 1) = true ↔ (s k = 108 ∨ s k = 64) := by
  simp [nmA, h]
theorem nm_after {s : Int → Int} {k : Nat} (h : nmA s k = true) : nmA s (k + 1) = false := by simp [nmA, h]
theorem nm_pred {s : Int → Int} {k : Nat} (h : nmA s k = true) : ∃ j, k = j + 1 ∧ nmA s j = false ∧ (s j = 108 ∨ s j = 64) := by
  cases k with
  | zero => simp [nmA] at h
  | succ k =>
    simp only [nmA, Bool.and_eq_true, Bool.not_eq_true', Bool.or_eq_true, decide_eq_true_eq] at h
    exact ⟨k, rfl, h.1, h.2⟩
/-- where the first term in a part begins -/
def c0A (s : Int → Int) (p : Nat) : Nat := if s p = 108 ∨ s p = 64 then p + 2 else p + 1
def feA (s : Int → Int) (v : Int) : Nat → Nat → Nat
  | 0, e => e
  | f + 1, e => if opA s e < v then e else feA s v f (e + 1)
/-- the end of a part: the first place behind it at which fewer terms are due -/
def enA (n : Nat) (s : Int → Int) (p : Nat) : Nat := feA s (opA s p) (n - p - 1) (p + 1)
theorem fe_spec {s : Int → Int} {v : Int} : ∀ (f e : Nat), opA s (e + f) < v → e ≤ feA s v f e ∧ feA s v f e ≤ e + f ∧ opA s (feA s v f e) < v ∧ ∀ x, e ≤ x → x < feA s v f e → v ≤ opA s x
  | 0, e, h => ⟨Nat.le_refl _, Nat.le_refl _, h, fun x h1 h2 => by simp only [feA] at h2; omega⟩
  | f + 1, e, h => by
    simp only [feA]
    split
    · rename_i h1
      exact ⟨Nat.le_refl _, by omega, h1, fun x h2 h3 => by omega⟩
    · rename_i h1
      obtain ⟨a, b, c, d⟩ := fe_spec (s := s) (v := v) f (e + 1) (by rw [show e + 1 + f = e + (f + 1) by omega]; exact h)
      refine ⟨by omega, by omega, c, fun x h2 h3 => ?_⟩
      rcases Nat.eq_or_lt_of_le h2 with q | q
      · subst q; omega
      · exact d x q h3
section GOOD
variable {n : Nat} {s : Int → Int}
theorem Good_n (h : GoodA n s) : 0 < n := by
  rcases Nat.eq_zero_or_pos n with q | q
  · subst q; have := h.2.1; simp [opA] at this
  · exact q
theorem op1 (h : GoodA n s) {k : Nat} (hk : k < n) : 1 ≤ opA s k := (op_pos h.1 k (by omega)).2 hk
theorem en_spec (h : GoodA n s) {p : Nat} (hp : p < n) : p < enA n s p ∧ enA n s p ≤ n ∧ opA s (enA n s p) < opA s p ∧ ∀ x, p < x → x < enA n s p → opA s p ≤ opA s x := by
  have h1 := op1 h hp
  obtain ⟨a, b, c, d⟩ := fe_spec (s := s) (v := opA s p) (n - p - 1) (p + 1) (by rw [show p + 1 + (n - p - 1) = n by omega, h.2.1]; omega)
  exact ⟨a, by unfold enA; omega, c, d⟩
theorem en_uniq (h : GoodA n s) {p e : Nat} (hp : p < n) (h1 : p < e) (h2 : e ≤ n) (h3 : opA s e < opA s p) (h4 : ∀ x, p < x → x < e → opA s p ≤ opA s x) : enA n s p = e := by
  obtain ⟨a, b, c, d⟩ := en_spec h hp
  rcases Nat.lt_trichotomy (enA n s p) e with q | q | q
  · have := h4 _ a q; omega
  · exact q
  · have := d _ h1 q; omega
theorem en_op (h : GoodA n s) {p : Nat} (hp : p < n) : opA s (enA n s p) = opA s p - 1 ∧ nmA s (enA n s p) = false := by
  obtain ⟨a, b, c, d⟩ := en_spec h hp
  obtain ⟨e, he⟩ : ∃ e, enA n s p = e + 1 := ⟨enA n s p - 1, by omega⟩
  rw [he] at a b c d ⊢
  have h1 : opA s p ≤ opA s e := by
    rcases Nat.eq_or_lt_of_le (Nat.le_of_lt_succ a) with q | q
    · subst q; exact Int.le_refl _
    · exact d e q (by omega)
  have h2 := op_low (s := s) e
  refine ⟨by omega, ?_⟩
  cases h3 : nmA s e
  · have h4 := op_step h3
    cases h5 : nmA s (e + 1)
    · rfl
    · have := inn_nam ((nm_next h3).mp h5)
      omega
  · exact nm_after h3
theorem c0_spec (h : GoodA n s) {p : Nat} (hp : p < n) (hm : nmA s p = false) : p < c0A s p ∧ c0A s p ≤ n ∧ nmA s (c0A s p) = false ∧ opA s (c0A s p) = opA s p + inn (kos (s p)) - 1 ∧ (∀ x, p < x → x < c0A s p → opA s p ≤ opA s x ∧ nmA s x = true) := by
  unfold c0A
  split
  · rename_i hs
    have h1 := (nm_next hm).mpr hs
    have h2 : p + 1 ≠ n := by intro q; rw [q, h.2.2] at h1; cases h1
    have h3 := nm_after h1
    have h4 : opA s (p + 2) = opA s (p + 1) := op_name h1
    have h5 := op_step hm
    have h6 := inn_nam hs
    refine ⟨by omega, by omega, h3, by omega, fun x h7 h8 => ?_⟩
    obtain rfl : x = p + 1 := by omega
    exact ⟨by omega, h1⟩
  · rename_i hs
    refine ⟨by omega, by omega, ?_, op_step hm, fun x h7 h8 => by omega⟩
    cases h1 : nmA s (p + 1)
    · rfl
    · exact absurd ((nm_next hm).mp h1) hs
/-- the second and the third term -/
def c1A (n : Nat) (s : Int → Int) (p : Nat) : Nat := enA n s (c0A s p)
def c2A (n : Nat) (s : Int → Int) (p : Nat) : Nat := enA n s (c1A n s p)
theorem lt_of_op (h : GoodA n s) {k : Nat} (hk : k ≤ n) (h1 : 1 ≤ opA s k) : k < n := by
  rcases Nat.eq_or_lt_of_le hk with q | q
  · rw [q, h.2.1] at h1; omega
  · exact q
theorem kids0 (h : GoodA n s) {p : Nat} (hp : p < n) (hm : nmA s p = false) (ha : inn (kos (s p)) = 0) : enA n s p = c0A s p ∧ c0A s p = p + 1 := by
  obtain ⟨a, b, c, d, e⟩ := c0_spec h hp hm
  refine ⟨en_uniq h hp a b (by omega) (fun x h1 h2 => (e x h1 h2).1), ?_⟩
  unfold c0A
  rw [if_neg]
  intro q
  have := inn_nam q
  omega
theorem kid1 (h : GoodA n s) {p : Nat} (hp : p < n) (hm : nmA s p = false) (ha : 1 ≤ inn (kos (s p))) : c0A s p < n ∧ c0A s p < c1A n s p ∧ c1A n s p ≤ n ∧ opA s (c1A n s p) = opA s p + inn (kos (s p)) - 2 ∧ nmA s (c1A n s p) = false ∧ (∀ x, p < x → x < c1A n s p → opA s p ≤ opA s x) := by
  obtain ⟨a, b, c, d, e⟩ := c0_spec h hp hm
  have h1 := op1 h hp
  have h2 := lt_of_op h b (by omega)
  obtain ⟨f1, f2, f3, f4⟩ := en_spec h h2
  obtain ⟨g1, g2⟩ := en_op h h2
  refine ⟨h2, f1, f2, by unfold c1A; omega, g2, fun x h3 h4 => ?_⟩
  rcases Nat.lt_trichotomy x (c0A s p) with q | q | q
  · exact (e x h3 q).1
  · subst q; omega
  · have := f4 x q h4; omega
theorem kids1 (h : GoodA n s) {p : Nat} (hp : p < n) (hm : nmA s p = false) (ha : inn (kos (s p)) = 1) : enA n s p = c1A n s p := by
  obtain ⟨a, b, c, d, e, f⟩ := kid1 h hp hm (by omega)
  have := (c0_spec h hp hm).1
  exact en_uniq h hp (by omega) c (by omega) f
theorem kid2 (h : GoodA n s) {p : Nat} (hp : p < n) (hm : nmA s p = false) (ha : 2 ≤ inn (kos (s p))) : c1A n s p < n ∧ c1A n s p < c2A n s p ∧ c2A n s p ≤ n ∧ opA s (c2A n s p) = opA s p + inn (kos (s p)) - 3 ∧ nmA s (c2A n s p) = false ∧ (∀ x, p < x → x < c2A n s p → opA s p ≤ opA s x) := by
  obtain ⟨a, b, c, d, e, f⟩ := kid1 h hp hm (by omega)
  have h1 := op1 h hp
  have h2 := lt_of_op h c (by omega)
  obtain ⟨f1, f2, f3, f4⟩ := en_spec h h2
  obtain ⟨g1, g2⟩ := en_op h h2
  refine ⟨h2, f1, f2, by unfold c2A; omega, g2, fun x h3 h4 => ?_⟩
  rcases Nat.lt_trichotomy x (c1A n s p) with q | q | q
  · exact f x h3 q
  · subst q; omega
  · have := f4 x q h4; omega
theorem kids2 (h : GoodA n s) {p : Nat} (hp : p < n) (hm : nmA s p = false) (ha : inn (kos (s p)) = 2) : enA n s p = c2A n s p := by
  obtain ⟨a, b, c, d, e, f⟩ := kid2 h hp hm (by omega)
  have := (c0_spec h hp hm).1
  have := kid1 h hp hm (by omega)
  exact en_uniq h hp (by omega) c (by omega) f
theorem kids3 (h : GoodA n s) {p : Nat} (hp : p < n) (hm : nmA s p = false) (ha : inn (kos (s p)) = 3) : c2A n s p < n ∧ enA n s p = enA n s (c2A n s p) := by
  obtain ⟨a, b, c, d, e, f⟩ := kid2 h hp hm (by omega)
  have h1 := op1 h hp
  have h2 := lt_of_op h c (by omega)
  obtain ⟨f1, f2, f3, f4⟩ := en_spec h h2
  obtain ⟨g1, g2⟩ := en_op h h2
  have := (c0_spec h hp hm).1
  have := kid1 h hp hm (by omega)
  refine ⟨h2, en_uniq h hp (by omega) f2 (by omega) fun x h3 h4 => ?_⟩
  rcases Nat.lt_trichotomy x (c2A n s p) with q | q | q
  · exact f x h3 q
  · subst q; omega
  · have := f4 x q h4; omega
/-- two parts: one in the other, or apart -/
theorem nest (h : GoodA n s) {p q : Nat} (hp : p < n) (hq : p < q) (hqe : q < enA n s p) : enA n s q ≤ enA n s p := by
  obtain ⟨a, b, c, d⟩ := en_spec h hp
  have hqn : q < n := by omega
  obtain ⟨a', b', c', d'⟩ := en_spec h hqn
  have h1 := d q hq hqe
  rcases Nat.lt_or_ge (enA n s p) (enA n s q) with x | x
  · have := d' _ hqe x; omega
  · exact x
theorem en_root (h : GoodA n s) : enA n s 0 = n := by
  have hn := Good_n h
  refine en_uniq h hn hn (Nat.le_refl _) (by rw [h.2.1]; simp [opA]) fun x _ h2 => ?_
  have := op1 h h2
  simp only [opA]; omega
end GOOD
/-- the last place below k where f holds; none: -6 -/
def lastA (f : Nat → Bool) : Nat → Int
  | 0 => -6
  | k + 1 => if f k = true then (k : Int) else lastA f k
theorem last_spec (f : Nat → Bool) : ∀ k : Nat, (lastA f k = -6 ∧ ∀ j, j < k → f j = false) ∨ ∃ q : Nat, q < k ∧ lastA f k = q ∧ f q = true ∧ ∀ j, q < j → j < k → f j = false
  | 0 => Or.inl ⟨rfl, fun j h => by omega⟩
  | k + 1 => by
    simp only [lastA]
    cases h : f k
    · simp only [Bool.false_eq_true, if_false]
      rcases last_spec f k with ⟨a, b⟩ | ⟨q, a, b, c, d⟩
      · refine Or.inl ⟨a, fun j hj => ?_⟩
        rcases Nat.eq_or_lt_of_le (Nat.le_of_lt_succ hj) with e | e
        · subst e; exact h
        · exact b j e
      · refine Or.inr ⟨q, by omega, b, c, fun j h1 h2 => ?_⟩
        rcases Nat.eq_or_lt_of_le (Nat.le_of_lt_succ h2) with e | e
        · subst e; exact h
        · exact d j h1 e
    · simp only [if_true]
      exact Or.inr ⟨k, by omega, rfl, h, fun j h1 h2 => by omega⟩
theorem last_uniq {f : Nat → Bool} {k q : Nat} (h1 : q < k) (h2 : f q = true) (h3 : ∀ j, q < j → j < k → f j = false) : lastA f k = q := by
  rcases last_spec f k with ⟨a, b⟩ | ⟨r, a, b, c, d⟩
  · rw [b q h1] at h2; cases h2
  · rcases Nat.lt_trichotomy q r with e | e | e
    · rw [h3 r e a] at c; cases c
    · subst e; exact b
    · rw [d q e h1] at h2; cases h2
theorem last_none {f : Nat → Bool} {k : Nat} (h : ∀ j, j < k → f j = false) : lastA f k = -6 := by
  rcases last_spec f k with ⟨a, b⟩ | ⟨r, a, b, c, d⟩
  · exact a
  · rw [h r a] at c; cases c
/-- the part in which a part stands -/
def parA (n : Nat) (s : Int → Int) (q : Nat) : Int := lastA (fun p => !nmA s p && decide (q < enA n s p)) q
/-- the let that binds the letter at p -/
def bnA (n : Nat) (s : Int → Int) (p : Nat) : Int := lastA (fun q => !nmA s q && (decide (s q = 108) && (decide (s ((q : Int) + 1) = s p) && (decide (c1A n s q ≤ p) && decide (p < enA n s q))))) p
/-- how many of the first k places fulfil f -/
def cntA (f : Nat → Bool) : Nat → Nat
  | 0 => 0
  | k + 1 => cntA f k + if f k = true then 1 else 0
theorem cnt_le (f : Nat → Bool) : ∀ k, cntA f k ≤ k
  | 0 => Nat.le_refl _
  | k + 1 => by have := cnt_le f k; simp only [cntA]; split <;> omega
theorem cnt_mono {f g : Nat → Bool} : ∀ {k : Nat}, (∀ j, j < k → f j = true → g j = true) → cntA f k ≤ cntA g k
  | 0, _ => Nat.le_refl _
  | k + 1, h => by
    have := cnt_mono (k := k) fun j hj => h j (by omega)
    simp only [cntA]
    split
    · rename_i q; rw [if_pos (h k (by omega) q)]; omega
    · split <;> omega
theorem cnt_lt {f g : Nat → Bool} : ∀ {k : Nat}, (∀ j, j < k → f j = true → g j = true) → ∀ x, x < k → f x = false → g x = true → cntA f k < cntA g k
  | 0, _, x, hx, _, _ => by omega
  | k + 1, h, x, hx, h1, h2 => by
    simp only [cntA]
    rcases Nat.eq_or_lt_of_le (Nat.le_of_lt_succ hx) with q | q
    · subst q
      have := cnt_mono (k := x) fun j hj => h j (by omega)
      rw [if_neg (by rw [h1]; decide), if_pos h2]; omega
    · have := cnt_lt (k := k) (fun j hj => h j (by omega)) x q h1 h2
      split
      · rename_i q; rw [if_pos (h k (by omega) q)]; omega
      · split <;> omega
theorem cnt_lt_all {f : Nat → Bool} {k x : Nat} (hx : x < k) (h : f x = false) : cntA f k < k := by
  have h1 := cnt_lt (f := f) (g := fun _ => true) (k := k) (fun _ _ _ => rfl) x hx h rfl
  have h2 := cnt_le (fun _ => true) k
  omega
theorem cnt_cong {f g : Nat → Bool} {k : Nat} (h : ∀ j, j < k → f j = g j) : cntA f k = cntA g k :=
  Nat.le_antisymm (cnt_mono fun j hj q => by rw [← h j hj]; exact q) (cnt_mono fun j hj q => by rw [h j hj]; exact q)
end
section
section GOOD2
variable {n : Nat} {s : Int → Int}
/-- a part that stands in another, is in one of its terms -/
theorem in_kid (h : GoodA n s) {p q : Nat} (hp : p < n) (hm : nmA s p = false) (h1 : p < q) (h2 : q < enA n s p) (hq : nmA s q = false) :
    (1 ≤ inn (kos (s p)) ∧ c0A s p ≤ q ∧ q < c1A n s p) ∨ (2 ≤ inn (kos (s p)) ∧ c1A n s p ≤ q ∧ q < c2A n s p) ∨ (inn (kos (s p)) = 3 ∧ c2A n s p ≤ q ∧ q < enA n s p) := by
  obtain ⟨a, b, c, d, e⟩ := c0_spec h hp hm
  have ha := inn_rng (kos (s p))
  have h3 : c0A s p ≤ q := by
    rcases Nat.lt_or_ge q (c0A s p) with x | x
    · have := (e q h1 x).2; rw [hq] at this; cases this
    · exact x
  have h4 : inn (kos (s p)) = 0 ∨ inn (kos (s p)) = 1 ∨ inn (kos (s p)) = 2 ∨ inn (kos (s p)) = 3 := by omega
  rcases h4 with h4 | h4 | h4 | h4
  · have := kids0 h hp hm h4; omega
  · have := kids1 h hp hm h4; exact Or.inl ⟨by omega, h3, by omega⟩
  · have := kids2 h hp hm h4
    rcases Nat.lt_or_ge q (c1A n s p) with x | x
    · exact Or.inl ⟨by omega, h3, x⟩
    · exact Or.inr (Or.inl ⟨by omega, x, by omega⟩)
  · rcases Nat.lt_or_ge q (c1A n s p) with x | x
    · exact Or.inl ⟨by omega, h3, x⟩
    · rcases Nat.lt_or_ge q (c2A n s p) with y | y
      · exact Or.inr (Or.inl ⟨by omega, x, y⟩)
      · exact Or.inr (Or.inr ⟨h4, y, h2⟩)
/-- c is the i-th term in p -/
def kidA (n : Nat) (s : Int → Int) (p i c : Nat) : Prop := ((i : Int) < inn (kos (s p))) ∧ ((i = 0 ∧ c = c0A s p) ∨ (i = 1 ∧ c = c1A n s p) ∨ (i = 2 ∧ c = c2A n s p))
theorem kid_lt (h : GoodA n s) {p i c : Nat} (hp : p < n) (hm : nmA s p = false) (hk : kidA n s p i c) : p < c ∧ c < n ∧ nmA s c = false ∧ enA n s c ≤ enA n s p ∧ c < enA n s p := by
  obtain ⟨h1, h2⟩ := hk
  have ha := inn_rng (kos (s p))
  obtain ⟨a, b, c', d, e⟩ := c0_spec h hp hm
  have key : c < n ∧ nmA s c = false ∧ p < c ∧ c < enA n s p := by
    rcases h2 with ⟨rfl, rfl⟩ | ⟨rfl, rfl⟩ | ⟨rfl, rfl⟩
    · have k1 := kid1 h hp hm (by omega)
      refine ⟨k1.1, c', a, ?_⟩
      have h4 : inn (kos (s p)) = 1 ∨ inn (kos (s p)) = 2 ∨ inn (kos (s p)) = 3 := by omega
      rcases h4 with h4 | h4 | h4
      · have := kids1 h hp hm h4; omega
      · have := kids2 h hp hm h4; have := kid2 h hp hm (by omega); omega
      · have := kids3 h hp hm h4; have := kid2 h hp hm (by omega); have := en_spec h this.1; have := en_spec h (kids3 h hp hm h4).1; omega
    · have k1 := kid1 h hp hm (by omega)
      have k2 := kid2 h hp hm (by omega)
      refine ⟨k2.1, k1.2.2.2.2.1, by omega, ?_⟩
      have h4 : inn (kos (s p)) = 2 ∨ inn (kos (s p)) = 3 := by omega
      rcases h4 with h4 | h4
      · have := kids2 h hp hm h4; omega
      · have := kids3 h hp hm h4; have := en_spec h this.1; omega
    · have k1 := kid1 h hp hm (by omega)
      have k2 := kid2 h hp hm (by omega)
      have k3 := kids3 h hp hm (by omega)
      refine ⟨k3.1, k2.2.2.2.2.1, by omega, ?_⟩
      have := en_spec h k3.1; omega
  exact ⟨key.2.2.1, key.1, key.2.1, nest h hp key.2.2.1 key.2.2.2, key.2.2.2⟩
theorem par_kid (h : GoodA n s) {p i c : Nat} (hp : p < n) (hm : nmA s p = false) (hk : kidA n s p i c) : parA n s c = p := by
  obtain ⟨a, b, c1, d, e⟩ := kid_lt h hp hm hk
  refine last_uniq a (by simp [hm, e]) fun j h1 h2 => ?_
  cases hj : nmA s j
  · have hjn : j < n := by omega
    have he := en_spec h hjn
    -- j lies in an earlier term
    have hlow : enA n s j ≤ c := by
      obtain ⟨i1, i2⟩ := hk
      have ha := inn_rng (kos (s p))
      rcases in_kid h hp hm h1 (by omega) hj with ⟨x1, x2, x3⟩ | ⟨x1, x2, x3⟩ | ⟨x1, x2, x3⟩
      · have k1 := kid1 h hp hm x1
        have hle : enA n s j ≤ c1A n s p := by
          rcases Nat.eq_or_lt_of_le x2 with y | y
          · rw [← y]; exact Nat.le_refl _
          · exact nest h k1.1 y x3
        rcases i2 with ⟨rfl, rfl⟩ | ⟨rfl, rfl⟩ | ⟨rfl, rfl⟩
        · omega
        · exact hle
        · have := kid2 h hp hm (by omega); omega
      · have k2 := kid2 h hp hm x1
        have hle : enA n s j ≤ c2A n s p := by
          rcases Nat.eq_or_lt_of_le x2 with y | y
          · rw [← y]; exact Nat.le_refl _
          · exact nest h k2.1 y x3
        have := kid1 h hp hm (by omega)
        rcases i2 with ⟨rfl, rfl⟩ | ⟨rfl, rfl⟩ | ⟨rfl, rfl⟩
        · omega
        · omega
        · exact hle
      · have k2 := kid2 h hp hm (by omega)
        have := kid1 h hp hm (by omega)
        rcases i2 with ⟨rfl, rfl⟩ | ⟨rfl, rfl⟩ | ⟨rfl, rfl⟩ <;> omega
    simp; omega
  · rfl
theorem par_ex (h : GoodA n s) {q : Nat} (hq : q < n) (hq0 : 0 < q) (hm : nmA s q = false) : ∃ p i : Nat, parA n s q = p ∧ p < q ∧ nmA s p = false ∧ q < enA n s p ∧ kidA n s p i q := by
  rcases last_spec (fun p => !nmA s p && decide (q < enA n s p)) q with ⟨a, b⟩ | ⟨p, a, b, c, d⟩
  · have := b 0 hq0
    rw [en_root h] at this
    simp [nmA, hq] at this
  · simp only [Bool.and_eq_true, Bool.not_eq_true', decide_eq_true_eq] at c
    have hp : p < n := by omega
    have ha := inn_rng (kos (s p))
    refine ⟨p, ?_⟩
    have key : ∀ c, p < c → c ≤ q → nmA s c = false → q < enA n s c → c = q := by
      intro x h1 h2 h3 h4
      rcases Nat.eq_or_lt_of_le h2 with y | y
      · exact y
      · have := d x h1 y; simp [h3, h4] at this
    rcases in_kid h hp c.1 a c.2 hm with ⟨x1, x2, x3⟩ | ⟨x1, x2, x3⟩ | ⟨x1, x2, x3⟩
    · obtain ⟨y1, y2, y3, y4, y5⟩ := kid_lt h hp c.1 (show kidA n s p 0 (c0A s p) from ⟨by omega, Or.inl ⟨rfl, rfl⟩⟩)
      have := key _ y1 x2 y3 x3
      exact ⟨0, b, a, c.1, c.2, by omega, Or.inl ⟨rfl, this.symm⟩⟩
    · obtain ⟨y1, y2, y3, y4, y5⟩ := kid_lt h hp c.1 (show kidA n s p 1 (c1A n s p) from ⟨by omega, Or.inr (Or.inl ⟨rfl, rfl⟩)⟩)
      have := key _ y1 x2 y3 x3
      exact ⟨1, b, a, c.1, c.2, by omega, Or.inr (Or.inl ⟨rfl, this.symm⟩)⟩
    · have k3 := kids3 h hp c.1 x1
      obtain ⟨y1, y2, y3, y4, y5⟩ := kid_lt h hp c.1 (show kidA n s p 2 (c2A n s p) from ⟨by omega, Or.inr (Or.inr ⟨rfl, rfl⟩)⟩)
      have := key _ y1 x2 y3 (by omega)
      exact ⟨2, b, a, c.1, c.2, by omega, Or.inr (Or.inr ⟨rfl, this.symm⟩)⟩
/-- what the binder is -/
theorem bn_spec (h : GoodA n s) {p : Nat} (hp : p < n) : bnA n s p = -6 ∨ ∃ q : Nat, bnA n s p = q ∧ q < p ∧ nmA s q = false ∧ s q = 108 ∧ s ((q : Int) + 1) = s p ∧ c1A n s q ≤ p ∧ p < enA n s q := by
  rcases last_spec (fun q => !nmA s q && (decide (s q = 108) && (decide (s ((q : Int) + 1) = s p) && (decide (c1A n s q ≤ p) && decide (p < enA n s q))))) p with ⟨a, b⟩ | ⟨q, a, b, c, d⟩
  · exact Or.inl a
  · simp only [Bool.and_eq_true, Bool.not_eq_true', decide_eq_true_eq] at c
    exact Or.inr ⟨q, b, a, c.1, c.2.1, c.2.2.1, c.2.2.2.1, c.2.2.2.2⟩
end GOOD2
/-! ===== programs: the signs of each body, how many, what it is given, what it gives ===== -/
abbrev TP : Type := (Int → Int → Int) × (Int → Nat) × (Int → Int) × (Int → Int)
abbrev tS (T : TP) (b : Int) : Int → Int := T.1 b
abbrev tN (T : TP) (b : Int) : Nat := T.2.1 b
abbrev tG (T : TP) (b : Int) : Int := T.2.2.1 b
abbrev tV (T : TP) (b : Int) : Int := T.2.2.2 b
def isB (b : Int) : Prop := 0 ≤ b ∧ b < 3
/-- what a call calls -/
def ofA (s : Int → Int) (p : Nat) : Int := s ((p : Int) + 1) - 48
def kfA (T : TP) (b : Int) : Nat → Nat → Int
  | 0, _ => 0
  | f + 1, p => if kos (tS T b p) = 3 then 1 else if kos (tS T b p) = 1 then tG T b else if kos (tS T b p) = 9 then tV T (ofA (tS T b) p) else if kos (tS T b p) = 7 ∨ kos (tS T b p) = 8 then kfA T b f (c1A (tN T b) (tS T b) p) else if kos (tS T b p) = 2 then (if bnA (tN T b) (tS T b) p < 0 then 0 else kfA T b f (c0A (tS T b) (bnA (tN T b) (tS T b) p).toNat)) else 0
/-- the kind of a part -/
def kdA (T : TP) (b : Int) (p : Nat) : Int := kfA T b (tN T b) p
/-- how many parts end ahead of it -/
def rkA (n : Nat) (s : Int → Int) (p : Nat) : Nat := cntA (fun q => !nmA s q && (decide (enA n s q < enA n s p) || (decide (enA n s q = enA n s p) && decide (p < q)))) n
section GOOD3
variable {n : Nat} {s : Int → Int}
theorem rk_lt (h : GoodA n s) {p : Nat} (hp : p < n) : rkA n s p < n := cnt_lt_all (x := p) hp (by simp)
theorem rk_step (h : GoodA n s) {p q : Nat} (hp : p < n) (hq : q < n) (hqm : nmA s q = false) (hlt : enA n s q < enA n s p ∨ (enA n s q = enA n s p ∧ p < q)) : rkA n s q < rkA n s p := by
  refine cnt_lt (fun j hj hf => ?_) q hq (by simp) ?_
  · simp only [Bool.and_eq_true, Bool.not_eq_true', Bool.or_eq_true, decide_eq_true_eq] at hf ⊢
    exact ⟨hf.1, by omega⟩
  · simp only [Bool.and_eq_true, Bool.not_eq_true', Bool.or_eq_true, decide_eq_true_eq]
    exact ⟨hqm, hlt⟩
theorem inn_of {k : Int} (h : k = 7 ∨ k = 8) : 2 ≤ inn k := by rcases h with rfl | rfl <;> decide
theorem hop_c1 (h : GoodA n s) {p : Nat} (hp : p < n) (hm : nmA s p = false) (hk : kos (s p) = 7 ∨ kos (s p) = 8) : c1A n s p < n ∧ nmA s (c1A n s p) = false ∧ rkA n s (c1A n s p) < rkA n s p := by
  have h2 := inn_of hk
  have k1 := kid1 h hp hm (by omega)
  have k2 := kid2 h hp hm h2
  have c0 := c0_spec h hp hm
  refine ⟨k2.1, k1.2.2.2.2.1, rk_step h hp k2.1 k1.2.2.2.2.1 ?_⟩
  rcases hk with hk | hk
  · have k3 := kids3 h hp hm (by rw [hk]; decide)
    have := en_spec h k3.1
    left; show c2A n s p < _; omega
  · have k3 := kids2 h hp hm (by rw [hk]; decide)
    right; exact ⟨k3.symm, by omega⟩
theorem hop_let (h : GoodA n s) {p q : Nat} (hp : p < n) (hq : nmA s q = false) (hs : s q = 108) (h1 : c1A n s q ≤ p) (h2 : p < enA n s q) (hqp : q < p) : c0A s q < n ∧ nmA s (c0A s q) = false ∧ rkA n s (c0A s q) < rkA n s p := by
  have hi : inn (kos (s q)) = 2 := by rw [hs]; decide
  have hqn : q < n := by omega
  have k1 := kid1 h hqn hq (by omega)
  have c0 := c0_spec h hqn hq
  refine ⟨k1.1, c0.2.2.1, rk_step h hp k1.1 c0.2.2.1 ?_⟩
  have := en_spec h hp
  left; show c1A n s q < _; omega
end GOOD3
theorem kf_stab {T : TP} {b : Int} (h : GoodA (tN T b) (tS T b)) : ∀ (f f' p : Nat), p < tN T b → nmA (tS T b) p = false → rkA (tN T b) (tS T b) p < f → rkA (tN T b) (tS T b) p < f' → kfA T b f p = kfA T b f' p
  | 0, _, _, _, _, h1, _ => by omega
  | f + 1, 0, _, _, _, _, h2 => by omega
  | f + 1, f' + 1, p, hp, hm, h1, h2 => by
    simp only [kfA]
    by_cases e1 : kos (tS T b p) = 3
    · rw [if_pos e1, if_pos e1]
    rw [if_neg e1, if_neg e1]
    by_cases e2 : kos (tS T b p) = 1
    · rw [if_pos e2, if_pos e2]
    rw [if_neg e2, if_neg e2]
    by_cases e3 : kos (tS T b p) = 9
    · rw [if_pos e3, if_pos e3]
    rw [if_neg e3, if_neg e3]
    by_cases e4 : kos (tS T b p) = 7 ∨ kos (tS T b p) = 8
    · rw [if_pos e4, if_pos e4]
      obtain ⟨a1, a2, a3⟩ := hop_c1 h hp hm e4
      exact kf_stab h f f' _ a1 a2 (by omega) (by omega)
    rw [if_neg e4, if_neg e4]
    by_cases e5 : kos (tS T b p) = 2
    · rw [if_pos e5, if_pos e5]
      rcases bn_spec h hp with q | ⟨q, q1, q2, q3, q4, q5, q6, q7⟩
      · rw [q, if_pos (by decide), if_pos (by decide)]
      · rw [q1, if_neg (by omega), if_neg (by omega), Int.toNat_natCast]
        obtain ⟨a1, a2, a3⟩ := hop_let h hp q3 q4 q6 q7 q2
        exact kf_stab h f f' _ a1 a2 (by omega) (by omega)
    rw [if_neg e5, if_neg e5]
theorem kd_eq {T : TP} {b : Int} (h : GoodA (tN T b) (tS T b)) {p : Nat} (hp : p < tN T b) (hm : nmA (tS T b) p = false) :
    kdA T b p = if kos (tS T b p) = 3 then 1 else if kos (tS T b p) = 1 then tG T b else if kos (tS T b p) = 9 then tV T (ofA (tS T b) p) else if kos (tS T b p) = 7 ∨ kos (tS T b p) = 8 then kdA T b (c1A (tN T b) (tS T b) p) else if kos (tS T b p) = 2 then (if bnA (tN T b) (tS T b) p < 0 then 0 else kdA T b (c0A (tS T b) (bnA (tN T b) (tS T b) p).toNat)) else 0 := by
  have h1 := rk_lt h hp
  have h2 : kdA T b p = kfA T b (tN T b + 1) p := kf_stab h _ _ _ hp hm h1 (by omega)
  rw [h2]
  rfl
def TOKA (T : TP) : Prop := ∀ b, isB b → tN T b ≤ 40 ∧ (tG T b = 0 ∨ tG T b = 1) ∧ (tV T b = 0 ∨ tV T b = 1) ∧ ∀ k : Nat, k < tN T b → 33 ≤ tS T b k ∧ tS T b k ≤ 126
/-- a call bears the name of a body -/
theorem of_B {n : Nat} {s : Int → Int} (h : GoodA n s) {p : Nat} (hp : p < n) (hm : nmA s p = false) (hk : s p = 64) : isB (ofA s p) ∧ p + 1 < n := by
  have h1 := (nm_next hm).mpr (Or.inr hk)
  have h2 : p + 1 ≠ n := by intro q; rw [q, h.2.2] at h1; cases h1
  have h3 : p + 1 < n := by omega
  have h4 := h.1 _ h3
  refine ⟨?_, h3⟩
  have h5 : nmf (s (((p + 1 : Nat) : Int) - 1)) (s ((p + 1 : Nat) : Int)) ≠ 0 := fun q => h4 (Or.inr (Or.inl ⟨h1, q⟩))
  rw [show (((p + 1 : Nat) : Int) - 1) = (p : Int) by omega, hk] at h5
  have h6 : 48 ≤ s ((p + 1 : Nat) : Int) ∧ s ((p + 1 : Nat) : Int) ≤ 50 := by
    by_cases x : 48 ≤ s ((p + 1 : Nat) : Int) ∧ s ((p + 1 : Nat) : Int) ≤ 50
    · exact x
    · exfalso; apply h5; unfold nmf; rw [if_neg]; rw [if_neg (by decide)]; exact x
  unfold isB ofA
  rw [show ((p : Int) + 1) = ((p + 1 : Nat) : Int) by omega]
  omega
theorem kd_01 {T : TP} (hT : TOKA T) {b : Int} (hb : isB b) (h : GoodA (tN T b) (tS T b)) : ∀ (f p : Nat), p < tN T b → nmA (tS T b) p = false → (kfA T b f p = 0 ∨ kfA T b f p = 1)
  | 0, _, _, _ => Or.inl rfl
  | f + 1, p, hp, hm => by
    simp only [kfA]
    by_cases e1 : kos (tS T b p) = 3
    · rw [if_pos e1]; exact Or.inr rfl
    rw [if_neg e1]
    by_cases e2 : kos (tS T b p) = 1
    · rw [if_pos e2]; exact (hT b hb).2.1
    rw [if_neg e2]
    by_cases e3 : kos (tS T b p) = 9
    · rw [if_pos e3]; exact (hT _ (of_B h hp hm ((kos_nam _).2.1.mp e3)).1).2.2.1
    rw [if_neg e3]
    by_cases e4 : kos (tS T b p) = 7 ∨ kos (tS T b p) = 8
    · rw [if_pos e4]
      obtain ⟨a1, a2, a3⟩ := hop_c1 h hp hm e4
      exact kd_01 hT hb h f _ a1 a2
    rw [if_neg e4]
    by_cases e5 : kos (tS T b p) = 2
    · rw [if_pos e5]
      rcases bn_spec h hp with q | ⟨q, q1, q2, q3, q4, q5, q6, q7⟩
      · rw [q, if_pos (by decide)]; exact Or.inl rfl
      · rw [q1, if_neg (by omega), Int.toNat_natCast]
        obtain ⟨a1, a2, a3⟩ := hop_let h hp q3 q4 q6 q7 q2
        exact kd_01 hT hb h f _ a1 a2
    rw [if_neg e5]; exact Or.inl rfl
/-- whether a part is ill -/
def illA (T : TP) (b : Int) (p : Nat) : Bool :=
  (decide (p = 0) && decide (kdA T b p ≠ tV T b)) ||
  (if kos (tS T b p) = 2 then decide (bnA (tN T b) (tS T b) p < 0)
   else if kos (tS T b p) = 3 ∨ kos (tS T b p) = 5 then decide (kdA T b (c0A (tS T b) p) = 1)
   else if kos (tS T b p) = 4 then decide (kdA T b (c0A (tS T b) p) = 0)
   else if kos (tS T b p) = 6 then decide (kdA T b (c0A (tS T b) p) = 1) || decide (kdA T b (c1A (tN T b) (tS T b) p) = 1)
   else if kos (tS T b p) = 7 then decide (kdA T b (c0A (tS T b) p) = 1) || decide (kdA T b (c1A (tN T b) (tS T b) p) ≠ kdA T b (c2A (tN T b) (tS T b) p))
   else if kos (tS T b p) = 9 then decide (kdA T b (c0A (tS T b) p) ≠ tG T (ofA (tS T b) p))
   else false)
/-- the first place below n where f holds; none: -6 -/
def frstA (f : Nat → Bool) : Nat → Nat → Int
  | 0, _ => -6
  | m + 1, k => if f k = true then (k : Int) else frstA f m (k + 1)
def iloA (T : TP) (b : Int) : Int := frstA (fun p => !nmA (tS T b) p && illA T b p) (tN T b) 0
def welA (T : TP) : Prop := ∀ b, isB b → GoodA (tN T b) (tS T b) ∧ iloA T b = -6
end
section
/-! ===== heaps: what is kept, what is read ===== -/
theorem up_eq {σ : SS} {t t' : Nat} {i i' j j' v : Int} (h : t' = t ∧ i' = i ∧ j' = j) : up σ t i j v t' i' j' = v := if_pos h
theorem up_ne {σ : SS} {t t' : Nat} {i i' j j' v : Int} (h : ¬ (t' = t ∧ i' = i ∧ j' = j)) : up σ t i j v t' i' j' = σ t' i' j' := if_neg h
/-- outside C nothing has changed -/
def Fm (C : Nat → Int → Int → Prop) (σ σ' : SS) : Prop := ∀ t i j, ¬ C t i j → σ' t i j = σ t i j
theorem Fm.rf {C : Nat → Int → Int → Prop} (σ : SS) : Fm C σ σ := fun _ _ _ _ => rfl
theorem Fm.tr {C : Nat → Int → Int → Prop} {σ σ1 σ2 : SS} (h1 : Fm C σ σ1) (h2 : Fm C σ1 σ2) : Fm C σ σ2 := fun t i j h => (h2 t i j h).trans (h1 t i j h)
theorem Fm.mono {C C' : Nat → Int → Int → Prop} {σ σ' : SS} (h : Fm C σ σ') (hc : ∀ t i j, C t i j → C' t i j) : Fm C' σ σ' := fun t i j q => h t i j fun x => q (hc t i j x)
theorem Fm.up {C : Nat → Int → Int → Prop} {σ σ1 : SS} {t : Nat} {i j v : Int} (h : Fm C σ σ1) (hc : C t i j) : Fm C σ (up σ1 t i j v) := fun t' i' j' q => by
  rw [up_ne (fun e => by obtain ⟨rfl, rfl, rfl⟩ := e; exact q hc)]
  exact h t' i' j' q
theorem Fm.us {C : Nat → Int → Int → Prop} {σ σ1 : SS} {t : Nat} {n i j v : Int} (h : Fm C σ σ1) (hc : 0 ≤ j → j < n → C t i j) : Fm C σ (us n σ1 t i j v) := by
  by_cases q : 0 ≤ j ∧ j < n
  · rw [us_in q]; exact h.up (hc q.1 q.2)
  · rw [us_out q]; exact h
/-- the text as the class has it, as the model has it -/
def CTx (T : TP) (σ : SS) : Prop := ∀ b, isB b → σ 6 b 1 = (tN T b : Int) ∧ σ 6 b 2 = tG T b ∧ σ 6 b 3 = tV T b ∧ ∀ p : Int, 0 ≤ p → p < 40 → σ 37 b p = tS T b p
def MTx (T : TP) (σ : SS) : Prop := ∀ b, isB b → σ 65 0 b = (tN T b : Int) ∧ σ 63 0 b = tG T b ∧ σ 64 0 b = tV T b ∧ ∀ p : Int, 0 ≤ p → p < 40 → σ 66 0 (40 * b + p) = tS T b p
theorem MTx.keep {T : TP} {C : Nat → Int → Int → Prop} {σ σ' : SS} (h : MTx T σ) (hF : Fm C σ σ') (hc : ∀ t i j, C t i j → t ≠ 63 ∧ t ≠ 64 ∧ t ≠ 65 ∧ t ≠ 66) : MTx T σ' := by
  intro b hb
  obtain ⟨h1, h2, h3, h4⟩ := h b hb
  refine ⟨?_, ?_, ?_, fun p q1 q2 => ?_⟩
  · rw [hF 65 0 b fun x => (hc _ _ _ x).2.2.1 rfl]; exact h1
  · rw [hF 63 0 b fun x => (hc _ _ _ x).1 rfl]; exact h2
  · rw [hF 64 0 b fun x => (hc _ _ _ x).2.1 rfl]; exact h3
  · rw [hF 66 0 _ fun x => (hc _ _ _ x).2.2.2 rfl]; exact h4 p q1 q2
theorem CTx.keep {T : TP} {C : Nat → Int → Int → Prop} {σ σ' : SS} (h : CTx T σ) (hF : Fm C σ σ') (hc : ∀ t i j, C t i j → t ≠ 6 ∧ t ≠ 37) : CTx T σ' := by
  intro b hb
  obtain ⟨h1, h2, h3, h4⟩ := h b hb
  refine ⟨?_, ?_, ?_, fun p q1 q2 => ?_⟩
  · rw [hF 6 b 1 fun x => (hc _ _ _ x).1 rfl]; exact h1
  · rw [hF 6 b 2 fun x => (hc _ _ _ x).1 rfl]; exact h2
  · rw [hF 6 b 3 fun x => (hc _ _ _ x).1 rfl]; exact h3
  · rw [hF 37 b p fun x => (hc _ _ _ x).2 rfl]; exact h4 p q1 q2
/-- what begins at a place -/
def whA (s : Int → Int) (p : Nat) : Int := if nmA s p = true then -6 else kos (s p)
/-- the name that must come: 1 of a let, 2 of a call, 0 none -/
def muA (s : Int → Int) (p : Nat) : Int := if nmA s p = true then (if s ((p : Int) - 1) = 108 then 1 else 2) else 0
/-- the tree as the model has it -/
def MTp (n : Nat) (s : Int → Int) (b : Int) (σ : SS) (p : Nat) : Prop :=
  σ 68 0 (40 * b + p) = 40 * b + c0A s p ∧ (1 ≤ inn (kos (s p)) → σ 69 0 (40 * b + p) = 40 * b + c1A n s p) ∧ (2 ≤ inn (kos (s p)) → σ 70 0 (40 * b + p) = 40 * b + c2A n s p) ∧ σ 71 0 (40 * b + p) = 40 * b + enA n s p
def MTr (T : TP) (b : Int) (σ : SS) : Prop := ∀ p : Nat, p < tN T b → σ 67 0 (40 * b + p) = whA (tS T b) p ∧ (nmA (tS T b) p = false → MTp (tN T b) (tS T b) b σ p)
/-- what reading body b changes in the model -/
def Crd (b : Int) : Nat → Int → Int → Prop := fun t _ j => (67 ≤ t ∧ t ≤ 71) ∧ 40 * b ≤ j ∧ j < 40 * b + 40
def Crm : Nat → Int → Int → Prop := fun t _ _ => 67 ≤ t ∧ t ≤ 71
theorem MTr.keep {T : TP} {b : Int} {C : Nat → Int → Int → Prop} {σ σ' : SS} (h : MTr T b σ) (hn : tN T b ≤ 40) (hF : Fm C σ σ') (hc : ∀ t i j, C t i j → 67 ≤ t → t ≤ 71 → 40 * b ≤ j → j < 40 * b + 40 → False) : MTr T b σ' := by
  intro p hp
  have e : ∀ t : Nat, 67 ≤ t → t ≤ 71 → σ' t 0 (40 * b + p) = σ t 0 (40 * b + p) := fun t h1 h2 => hF _ _ _ fun x => hc _ _ _ x h1 h2 (by omega) (by omega)
  unfold MTp
  rw [e 67 (by omega) (by omega), e 68 (by omega) (by omega), e 69 (by omega) (by omega), e 70 (by omega) (by omega), e 71 (by omega) (by omega)]
  exact h p hp
end
section
theorem irI {x : Int} (h1 : -1000000000 ≤ x) (h2 : x ≤ 1000000000) : ir x := by unfold ir; omega
theorem mu_part {s : Int → Int} {k : Nat} (h : nmA s k = false) : muA s (k + 1) = if s k = 108 then 1 else if s k = 64 then 2 else 0 := by
  unfold muA
  rw [show (((k + 1 : Nat) : Int) - 1) = (k : Int) by omega]
  by_cases h1 : s k = 108
  · rw [if_pos ((nm_next h).mpr (Or.inl h1)), if_pos h1, if_pos h1]
  · by_cases h2 : s k = 64
    · rw [if_pos ((nm_next h).mpr (Or.inr h2)), if_neg h1, if_neg h1, if_pos h2]
    · rw [if_neg (fun q => by rcases (nm_next h).mp q with q | q <;> contradiction), if_neg h1, if_neg h2]
theorem mu_name {s : Int → Int} {k : Nat} (h : nmA s k = true) : muA s (k + 1) = 0 := by
  unfold muA
  rw [if_neg]
  rw [nm_after h]; decide
theorem mu_pos {s : Int → Int} {k : Nat} : (0 < muA s k ↔ nmA s k = true) ∧ 0 ≤ muA s k := by
  unfold muA
  cases h : nmA s k
  · simp
  · simp only [if_true, true_iff, iff_true]
    split <;> omega
theorem mu_one {s : Int → Int} {k : Nat} (h : nmA s k = true) : (muA s k = 1 ↔ s ((k : Int) - 1) = 108) := by
  unfold muA
  rw [if_pos h]
  split
  · rename_i q; simp [q]
  · rename_i q; simp [q]
theorem nat1 {k : Nat} : ((k + 1 : Nat) : Int) = (k : Int) + 1 := by omega
theorem nmf_l {s n : Int} (h : s = 108) : nmf s n = if 97 ≤ n ∧ n ≤ 100 then 1 else 0 := by unfold nmf; simp only [if_pos h]
theorem nmf_c {s n : Int} (h : s ≠ 108) : nmf s n = if 48 ≤ n ∧ n ≤ 50 then 1 else 0 := by unfold nmf; simp only [if_neg h]
section READ
variable {T : TP} {b : Int} {d : Nat}
/-- the first loop of read -/
theorem rd_1 (hT : TOKA T) (hb : isB b) {σ0 : SS} (hM : MTx T σ0) {P : AV → SS → Prop}
    (hP : ∀ f σ, Fm (Crd b) σ0 σ → IsFA (tN T b) (tS T b) f → f ≠ -6 → P (vi f) σ)
    (hG : ∀ σ, Fm (Crd b) σ0 σ → GoodA (tN T b) (tS T b) → (∀ p : Nat, p < tN T b → σ 67 0 (40 * b + p) = whA (tS T b) p) → G (d + 2) P 51 103 [vr 62 0, vi b, vu, vu, vi ((tN T b : Int) - 1), vu, vu, vu, vu] [] σ) :
    ∀ (m k : Nat) (σ : SS), k + m = tN T b → Fm (Crd b) σ0 σ → (∀ j, j < k → ¬ badA (tS T b) j) → (∀ p : Nat, p < k → σ 67 0 (40 * b + p) = whA (tS T b) p) →
      G (d + 2) P 51 6 [vr 62 0, vi b, vi (opA (tS T b) k), vi (muA (tS T b) k), vi (k : Int), vu, vu, vu, vu] [] σ := by
  have hb' := hb
  unfold isB at hb'
  have hn := (hT b hb).1
  obtain ⟨m1, -, -, m4⟩ := hM b hb
  generalize hs : tS T b = s at *
  generalize hnn : tN T b = n at *
  intro m
  induction m with
  | zero =>
    intro k σ hk hF hbad hw
    obtain rfl : k = n := by omega
    have e65 : σ 65 0 b = (k : Int) := (hF 65 0 b (by unfold Crd; omega)).trans m1
    have hmu := @mu_pos s k
    refine b_51_6 ⟨hb, fun _ => ⟨fun h2 => ⟨hb, ?_⟩, fun h2 => ⟨fun h3 => ⟨hb, ?_, ?_⟩, fun h3 => ⟨hb, ?_⟩⟩⟩, fun h1 => absurd h1 (by omega)⟩
    · rw [e65]; exact hP _ σ hF (Or.inr (Or.inl ⟨rfl, hbad, Or.inl (by omega)⟩)) (by omega)
    · rw [e65]; exact irI (by omega) (by omega)
    · rw [e65]
      have := (op_pos hbad k (Nat.le_refl _)).1
      refine hG σ hF ⟨hbad, by omega, ?_⟩ hw
      cases h4 : nmA s k
      · rfl
      · have := hmu.1.mpr h4; omega
    · rw [e65]; exact hP _ σ hF (Or.inr (Or.inl ⟨rfl, hbad, Or.inr (hmu.1.mp h3)⟩)) (by omega)
  | succ m ih =>
    intro k σ hk hF hbad hw
    have hkn : k < n := by omega
    have e65 : σ 65 0 b = (n : Int) := (hF 65 0 b (by unfold Crd; omega)).trans m1
    have e66 : σ 66 0 (40 * b + (k : Int)) = s k := (hF 66 0 _ (by unfold Crd; omega)).trans (m4 k (by omega) (by omega))
    have hmu := @mu_pos s k
    have hop := (op_pos (n := k) hbad k (Nat.le_refl _)).1
    have hrg : (0 : Int) ≤ 40 * b + k ∧ 40 * b + (k : Int) < 120 := by omega
    have hC : Crd b 67 0 (40 * b + k) := by unfold Crd; omega
    have hin := inn_rng (kos (s k))
    have hopb : opA s k ≤ 1 + 3 * k := by
      clear hk hF hw e65 e66 hmu hop hrg hC hin ih hkn
      induction k with
      | zero => simp [opA]
      | succ j ihj =>
        have i := ihj (fun x hx => hbad x (by omega))
        have := inn_rng (kos (s j))
        cases h : nmA s j
        · rw [op_step h]; omega
        · rw [op_name h]; omega
    refine b_51_6 ⟨hb, fun h1 => absurd h1 (by omega), fun _ => ?_⟩
    simp only [e66]
    refine ⟨irI (by omega) (by omega), irI (by omega) (by omega), hrg, hrg, ?_⟩
    intro σ1 e1
    have hF1 : Fm (Crd b) σ0 σ1 := by rw [e1]; exact hF.up hC
    have hw1 : ∀ p : Nat, p < k → σ1 67 0 (40 * b + p) = whA s p := fun p hp => by
      rw [e1, up_ne (by omega)]; exact hw p hp
    have hbk : badA s k → P (vi (k : Int)) σ1 := fun q => hP _ σ1 hF1 (Or.inr (Or.inr ⟨k, hkn, rfl, q, hbad⟩)) (by omega)
    have hnext : ¬ badA s k → ∀ j, j < k + 1 → ¬ badA s j := fun q j hj => by
      rcases Nat.eq_or_lt_of_le (Nat.le_of_lt_succ hj) with x | x
      · subst x; exact q
      · exact hbad j x
    have name : nmA s k = true → nmf (s ((k : Int) - 1)) (s k) ≠ 0 → opA s k ≠ 0 → G (d + 2) P 51 6 [vr 62 0, vi b, vi (opA s k), vi 0, vi ((k : Int) + 1), vu, vu, vu, vu] [] σ1 := by
      intro q1 q2 q3
      have nb : ¬ badA s k := by
        rintro (x | x | x)
        · exact q3 x
        · exact q2 x.2
        · rw [q1] at x; cases x.1
      have := ih (k + 1) σ1 (by omega) hF1 (hnext nb) (fun p hp => by
        rcases Nat.eq_or_lt_of_le (Nat.le_of_lt_succ hp) with x | x
        · subst x; rw [e1, up_eq ⟨rfl, rfl, rfl⟩]; unfold whA; rw [if_pos q1]
        · exact hw1 p x)
      rw [op_name q1, mu_name q1, nat1] at this
      exact this
    refine ⟨fun ho => ⟨fun hu => ⟨fun hk0 => ⟨hrg, ?_⟩, fun hk0 => ?_⟩, fun hu => ⟨fun h1 => ⟨fun h2 => ⟨irI (by omega) (by omega), ?_⟩, fun h2 => ?_⟩, fun h1 => ⟨fun h2 => ⟨irI (by omega) (by omega), ?_⟩, fun h2 => ?_⟩⟩⟩, fun ho => hbk (Or.inl ho)⟩
    · have hm : nmA s k = false := by
        cases h4 : nmA s k
        · rfl
        · have := hmu.1.mpr h4; omega
      have nb : ¬ badA s k := by
        rintro (x | x | x)
        · exact ho x
        · rw [hm] at x; cases x.1
        · omega
      intro σ2 e2
      have := ih (k + 1) σ2 (by omega) (by rw [e2]; exact hF1.up hC) (hnext nb) (fun p hp => by
        rcases Nat.eq_or_lt_of_le (Nat.le_of_lt_succ hp) with x | x
        · subst x; rw [e2, up_eq ⟨rfl, rfl, rfl⟩]; unfold whA; rw [hm]; rfl
        · rw [e2, up_ne (by omega)]; exact hw1 p x)
      rw [op_step hm, mu_part hm, nat1, show opA s k + inn (kos (s k)) - 1 = opA s k + (inn (kos (s k)) - 1) by omega] at this
      have hna := kos_nam (s k)
      refine ⟨fun h8 => ⟨fun h9 => ⟨irI (by omega) (by omega), irI (by omega) (by omega), irI (by omega) (by omega), ?_⟩, fun h9 => ⟨irI (by omega) (by omega), irI (by omega) (by omega), irI (by omega) (by omega), ?_⟩⟩, fun h8 => ⟨irI (by omega) (by omega), irI (by omega) (by omega), irI (by omega) (by omega), ?_⟩⟩
      · rw [if_neg (by omega), if_neg (by omega)] at this; exact this
      · rw [if_neg (by omega), if_pos (by omega)] at this; exact this
      · rw [if_pos (by omega)] at this; exact this
    · have hm : nmA s k = false := by
        cases h4 : nmA s k
        · rfl
        · have := hmu.1.mpr h4; omega
      exact hbk (Or.inr (Or.inr ⟨hm, hk0⟩))
    · have hm := hmu.1.mp hu
      refine name hm ?_ ho
      have h108 : s ((k : Int) - 1) ≠ 108 := fun q => h1 ((mu_one hm).mpr q)
      rw [nmf_c h108]
      rw [ite1] at h2
      rw [if_pos h2]; decide
    · have hm := hmu.1.mp hu
      have h108 : s ((k : Int) - 1) ≠ 108 := fun q => h1 ((mu_one hm).mpr q)
      refine hbk (Or.inr (Or.inl ⟨hm, ?_⟩))
      rw [nmf_c h108]
      rw [ite0] at h2
      rw [if_neg h2]
    · have hm := hmu.1.mp hu
      refine name hm ?_ ho
      have h108 : s ((k : Int) - 1) = 108 := (mu_one hm).mp h1
      rw [nmf_l h108]
      rw [ite1] at h2
      rw [if_pos h2]; decide
    · have hm := hmu.1.mp hu
      have h108 : s ((k : Int) - 1) = 108 := (mu_one hm).mp h1
      refine hbk (Or.inr (Or.inl ⟨hm, ?_⟩))
      rw [nmf_l h108]
      rw [ite0] at h2
      rw [if_neg h2]
theorem MTp.keep {n : Nat} {s : Int → Int} {σ σ' : SS} {p k : Nat} {C : Nat → Int → Int → Prop} (h : MTp n s b σ p) (hF : Fm C σ σ') (hc : ∀ t i j, C t i j → j = 40 * b + (k : Int)) (hne : p ≠ k) : MTp n s b σ' p := by
  have e : ∀ t : Nat, σ' t 0 (40 * b + p) = σ t 0 (40 * b + p) := fun t => hF _ _ _ fun x => by have := hc _ _ _ x; omega
  unfold MTp
  rw [e 68, e 69, e 70, e 71]
  exact h
/-- the second loop of read -/
theorem rd_2 (hT : TOKA T) (hb : isB b) (hg : GoodA (tN T b) (tS T b)) {σ0 : SS} {P : AV → SS → Prop}
    (hP : ∀ σ, Fm (Crd b) σ0 σ → MTr T b σ → P (vi (-6)) σ) :
    ∀ (k : Nat) (σ : SS), k ≤ tN T b → Fm (Crd b) σ0 σ → (∀ p : Nat, p < tN T b → σ 67 0 (40 * b + p) = whA (tS T b) p) → (∀ p : Nat, k ≤ p → p < tN T b → nmA (tS T b) p = false → MTp (tN T b) (tS T b) b σ p) →
      G (d + 2) P 51 103 [vr 62 0, vi b, vu, vu, vi ((k : Int) - 1), vu, vu, vu, vu] [] σ := by
  have hb' := hb
  unfold isB at hb'
  have hn := (hT b hb).1
  have hMTr : ∀ σ, MTr T b σ = (∀ p : Nat, p < tN T b → σ 67 0 (40 * b + p) = whA (tS T b) p ∧ (nmA (tS T b) p = false → MTp (tN T b) (tS T b) b σ p)) := fun σ => rfl
  simp only [hMTr] at hP
  clear hMTr
  generalize hs : tS T b = s at *
  generalize hnn : tN T b = n at *
  intro k
  induction k with
  | zero =>
    intro σ hk hF hw ht
    exact b_51_103 ⟨fun _ => hP σ hF fun p hp => ⟨hw p hp, fun hm => ht p (by omega) hp hm⟩, fun h => absurd h (by omega)⟩
  | succ k ih =>
    intro σ hk hF hw ht
    have hkn : k < n := by omega
    rw [show ((k + 1 : Nat) : Int) - 1 = (k : Int) by omega]
    have hwk := hw k hkn
    have hrg : (0 : Int) ≤ 40 * b + k ∧ 40 * b + (k : Int) < 120 := by omega
    have back : ∀ σ', Fm (Crd b) σ0 σ' → (∀ p : Nat, p < n → σ' 67 0 (40 * b + p) = whA s p) → (∀ p : Nat, k ≤ p → p < n → nmA s p = false → MTp n s b σ' p) → G (d + 2) P 51 182 [vr 62 0, vi b, vu, vu, vi (k : Int), vu, vu, vu, vu] [] σ' := fun σ' g1 g2 g3 => by
      have := ih σ' (by omega) g1 g2 g3
      refine b_51_182 ⟨irI (by omega) (by omega), ?_⟩
      rw [show (k : Int) + -1 = (k : Int) - 1 by omega]
      exact this
    refine b_51_103 ⟨fun h => absurd h (by omega), fun _ => ⟨irI (by omega) (by omega), irI (by omega) (by omega), hrg, ?_⟩⟩
    simp only [hwk]
    cases hm : nmA s k
    · -- a part
      have hwp : whA s k = kos (s k) := by unfold whA; rw [hm]; rfl
      rw [hwp]
      have hk0 : 0 ≤ kos (s k) := by
        rcases (show kos (s k) < 0 ∨ 0 ≤ kos (s k) by omega) with q | q
        · exact absurd (Or.inr (Or.inr ⟨hm, q⟩)) (hg.1 k hkn)
        · exact q
      have c0 := c0_spec hg hkn hm
      have hi := inn_rng (kos (s k))
      have key : G (d + 2) P 51 135 [vr 62 0, vi b, vu, vu, vi (k : Int), vi (40 * b + (k : Int)), vu, vi (inn (kos (s k))), vi (40 * b + (c0A s k : Int))] [] σ := by
        refine b_51_135 ⟨hrg, ?_⟩
        intro σ1 e1
        let x1 : Nat := if 0 < inn (kos (s k)) then c1A n s k else c0A s k
        let x2 : Nat := if 1 < inn (kos (s k)) then c2A n s k else x1
        have en : ∀ (σ' : SS) (p : Nat), (∀ t i j, ¬ (j = 40 * b + (k : Int)) → σ' t i j = σ t i j) → k + 1 ≤ p → p < n → nmA s p = false → σ' 71 0 (40 * b + p) = 40 * b + enA n s p := fun σ' p h1 h2 h3 h4 => by
          rw [h1 _ _ _ (by omega)]; exact (ht p h2 h3 h4).2.2.2
        have k1 : 0 < inn (kos (s k)) → c0A s k < n ∧ nmA s (c0A s k) = false := fun q => ⟨(kid1 hg hkn hm (by omega)).1, c0.2.2.1⟩
        have k2 : 1 < inn (kos (s k)) → c1A n s k < n ∧ nmA s (c1A n s k) = false ∧ c0A s k < c1A n s k := fun q => ⟨(kid2 hg hkn hm (by omega)).1, (kid1 hg hkn hm (by omega)).2.2.2.2.1, (kid1 hg hkn hm (by omega)).2.1⟩
        have k3 : 2 < inn (kos (s k)) → c2A n s k < n ∧ nmA s (c2A n s k) = false ∧ c1A n s k < c2A n s k ∧ enA n s k = enA n s (c2A n s k) := fun q => ⟨(kids3 hg hkn hm (by omega)).1, (kid2 hg hkn hm (by omega)).2.2.2.2.1, (kid2 hg hkn hm (by omega)).2.1, (kids3 hg hkn hm (by omega)).2⟩
        have step3 : ∀ σ3, Fm (fun t i j => (t = 68 ∨ t = 69 ∨ t = 70) ∧ j = 40 * b + (k : Int)) σ σ3 → σ3 68 0 (40 * b + k) = 40 * b + c0A s k → σ3 69 0 (40 * b + k) = 40 * b + x1 → σ3 70 0 (40 * b + k) = 40 * b + x2 → (2 ≥ inn (kos (s k)) → ∀ σ4, σ4 = up σ3 71 0 (40 * b + k) (40 * b + x2) → G (d + 2) P 51 182 [vr 62 0, vi b, vu, vu, vi (k : Int), vu, vu, vu, vu] [] σ4) ∧ (2 < inn (kos (s k)) → ∀ σ4, σ4 = up σ3 71 0 (40 * b + k) (40 * b + enA n s (c2A n s k)) → G (d + 2) P 51 182 [vr 62 0, vi b, vu, vu, vi (k : Int), vu, vu, vu, vu] [] σ4) := by
          intro σ3 f1 f2 f3 f4
          have fin : ∀ σ4, σ4 = up σ3 71 0 (40 * b + k) (40 * b + enA n s k) → G (d + 2) P 51 182 [vr 62 0, vi b, vu, vu, vi (k : Int), vu, vu, vu, vu] [] σ4 := by
            intro σ4 e4
            have hF4 : Fm (fun t i j => (68 ≤ t ∧ t ≤ 71) ∧ j = 40 * b + (k : Int)) σ σ4 := by
              rw [e4]
              exact (f1.mono fun t i j h => ⟨by omega, h.2⟩).up ⟨by omega, rfl⟩
            refine back σ4 (hF.tr (hF4.mono fun t i j h => by unfold Crd; omega)) (fun p hp => ?_) (fun p hp1 hp2 hp3 => ?_)
            · rw [hF4 _ _ _ (by omega)]; exact hw p hp
            · rcases Nat.eq_or_lt_of_le hp1 with x | x
              · subst x
                refine ⟨?_, fun q => ?_, fun q => ?_, ?_⟩
                · rw [e4, up_ne (by omega)]; exact f2
                · rw [e4, up_ne (by omega), f3]
                  show _ = 40 * b + ((c1A n s k : Nat) : Int)
                  simp only [x1]; rw [if_pos (by omega)]
                · rw [e4, up_ne (by omega), f4]
                  simp only [x2]; rw [if_pos (by omega)]
                · rw [e4, up_eq ⟨rfl, rfl, rfl⟩]
              · exact (ht p (by omega) hp2 hp3).keep hF4 (fun t i j h => h.2) (by omega)
          refine ⟨fun q σ4 e4 => fin σ4 ?_, fun q σ4 e4 => fin σ4 ?_⟩
          · rw [e4]
            have : x2 = enA n s k := by
              have h4 : inn (kos (s k)) = 0 ∨ inn (kos (s k)) = 1 ∨ inn (kos (s k)) = 2 := by omega
              simp only [x2, x1]
              rcases h4 with h4 | h4 | h4 <;> rw [h4]
              · rw [if_neg (by decide), if_neg (by decide)]; exact (kids0 hg hkn hm h4).1.symm
              · rw [if_neg (by decide), if_pos (by decide)]; exact (kids1 hg hkn hm h4).symm
              · rw [if_pos (by decide)]; exact (kids2 hg hkn hm h4).symm
            rw [this]
          · rw [e4, (k3 q).2.2.2]
        have hC1 : Fm (fun t i j => (t = 68 ∨ t = 69 ∨ t = 70) ∧ j = 40 * b + (k : Int)) σ σ1 := by
          rw [e1]; exact (Fm.rf σ).up ⟨by omega, rfl⟩
        have step2 : ∀ σ2, σ2 = up σ1 69 0 (40 * b + k) (40 * b + x1) → ∀ σ3, σ3 = up σ2 70 0 (40 * b + k) (40 * b + x2) → Fm (fun t i j => (t = 68 ∨ t = 69 ∨ t = 70) ∧ j = 40 * b + (k : Int)) σ σ2 ∧ G (d + 2) P 51 164 [vr 62 0, vi b, vu, vu, vi (k : Int), vi (40 * b + (k : Int)), vu, vi (inn (kos (s k))), vi (40 * b + (x2 : Int))] [] σ2 := by
          intro σ2 e2 σ3 e3
          have hC2 : Fm (fun t i j => (t = 68 ∨ t = 69 ∨ t = 70) ∧ j = 40 * b + (k : Int)) σ σ2 := by rw [e2]; exact hC1.up ⟨by omega, rfl⟩
          have hC3 : Fm (fun t i j => (t = 68 ∨ t = 69 ∨ t = 70) ∧ j = 40 * b + (k : Int)) σ σ3 := by rw [e3]; exact hC2.up ⟨by omega, rfl⟩
          refine ⟨hC2, b_51_164 ⟨hrg, ?_⟩⟩
          intro σ3' e3'
          obtain rfl : σ3' = σ3 := by rw [e3', e3]
          have s3 := step3 σ3' hC3 (by rw [e3, up_ne (by omega), e2, up_ne (by omega), e1, up_eq ⟨rfl, rfl, rfl⟩]) (by rw [e3, up_ne (by omega), e2, up_eq ⟨rfl, rfl, rfl⟩]) (by rw [e3, up_eq ⟨rfl, rfl, rfl⟩])
          refine ⟨fun q => ⟨hrg, s3.1 q⟩, fun q => ?_⟩
          have hx2 : x2 = c2A n s k := by simp only [x2]; rw [if_pos (by omega)]
          obtain ⟨y1, y2, y3, y4⟩ := k3 q
          obtain ⟨z1, z2, z3⟩ := k2 (by omega)
          have hr : σ3' 71 0 (40 * b + (x2 : Int)) = 40 * b + enA n s (c2A n s k) := by
            rw [hx2]; exact en σ3' _ (fun t i j h => hC3 t i j (fun w => h w.2)) (by omega) y1 y2
          rw [hr]
          exact ⟨by omega, hrg, s3.2 q⟩
        have step1 : G (d + 2) P 51 149 [vr 62 0, vi b, vu, vu, vi (k : Int), vi (40 * b + (k : Int)), vu, vi (inn (kos (s k))), vi (40 * b + (x1 : Int))] [] σ1 := by
          refine b_51_149 ⟨hrg, ?_⟩
          intro σ2 e2
          obtain ⟨hC2, s2⟩ := step2 σ2 e2 _ rfl
          refine ⟨fun q => ?_, fun q => ?_⟩
          · have : x2 = x1 := by simp only [x2]; rw [if_neg (by omega)]
            rw [this] at s2; exact s2
          · have hx1 : x1 = c1A n s k := by simp only [x1]; rw [if_pos (by omega)]
            have hx2 : x2 = c2A n s k := by simp only [x2]; rw [if_pos (by omega)]
            obtain ⟨z1, z2, z3⟩ := k2 q
            have hr : σ2 71 0 (40 * b + (x1 : Int)) = 40 * b + c2A n s k := by
              rw [hx1]; exact en σ2 _ (fun t i j h => hC2 t i j (fun w => h w.2)) (by omega) z1 z2
            rw [hr]
            rw [hx2] at s2
            exact ⟨by omega, s2⟩
        refine ⟨fun q => ?_, fun q => ?_⟩
        · have : x1 = c0A s k := by simp only [x1]; rw [if_neg (by omega)]
          rw [this] at step1; exact step1
        · have hx1 : x1 = c1A n s k := by simp only [x1]; rw [if_pos (by omega)]
          obtain ⟨z1, z2⟩ := k1 q
          have hr : σ1 71 0 (40 * b + (c0A s k : Int)) = 40 * b + c1A n s k := en σ1 _ (fun t i j h => hC1 t i j (fun w => h w.2)) (by omega) z1 z2
          rw [hr]
          rw [hx1] at step1
          exact ⟨by omega, step1⟩
      have hna := kos_nam (s k)
      refine ⟨fun q => absurd q (by omega), fun _ => ⟨fun h8 => ⟨irI (by omega) (by omega), ?_⟩, fun h8 => ⟨fun h9 => ⟨irI (by omega) (by omega), ?_⟩, fun h9 => ⟨irI (by omega) (by omega), ?_⟩⟩⟩⟩
      · have : c0A s k = k + 2 := by unfold c0A; rw [if_pos (by omega)]
        rw [this, show (40 * b + ((k + 2 : Nat) : Int)) = 40 * b + k + 2 by omega] at key; exact key
      · have : c0A s k = k + 1 := by unfold c0A; rw [if_neg (by omega)]
        rw [this, show (40 * b + ((k + 1 : Nat) : Int)) = 40 * b + k + 1 by omega] at key; exact key
      · have : c0A s k = k + 2 := by unfold c0A; rw [if_pos (by omega)]
        rw [this, show (40 * b + ((k + 2 : Nat) : Int)) = 40 * b + k + 2 by omega] at key; exact key
    · -- a name
      have hwp : whA s k = -6 := by unfold whA; rw [if_pos hm]
      rw [hwp]
      refine ⟨fun _ => back σ hF hw (fun p hp1 hp2 hp3 => ?_), fun q => absurd q (by decide)⟩
      rcases Nat.eq_or_lt_of_le hp1 with x | x
      · subst x; rw [hm] at hp3; cases hp3
      · exact ht p x hp2 hp3
/-- read: the fault; and, where there is none, the tree -/
theorem m_read (hT : TOKA T) (hb : isB b) {σ : SS} (hM : MTx T σ) : ∃ (f : Int) (σ' : SS), Rn (d + 3) 51 [vr 62 0, vi b] σ (vi f) σ' ∧ IsFA (tN T b) (tS T b) f ∧ Fm (Crd b) σ σ' ∧ (f = -6 → MTr T b σ') := by
  have h : Ok (d + 3) 51 [vr 62 0, vi b] σ (fun v σ' => ∃ f, v = vi f ∧ IsFA (tN T b) (tS T b) f ∧ Fm (Crd b) σ σ' ∧ (f = -6 → MTr T b σ')) := by
    refine G_ok rfl (b_51_0 ?_)
    refine rd_1 hT hb hM (fun f σ1 h1 h2 h3 => ⟨f, rfl, h2, h1, fun q => absurd q h3⟩) (fun σ1 h1 h2 h3 => ?_) (tN T b) 0 σ (by omega) (Fm.rf σ) (fun j hj => by omega) (fun p hp => by omega)
    exact rd_2 hT hb h2 (fun σ2 g1 g2 => ⟨-6, rfl, Or.inl ⟨rfl, h2⟩, g1, fun _ => g2⟩) (tN T b) σ1 (Nat.le_refl _) h1 h3 (fun p hp1 hp2 => by omega)
  obtain ⟨v, σ', h1, f, rfl, h2, h3, h4⟩ := h
  exact ⟨f, σ', h1, h2, h3, h4⟩
end READ
end
