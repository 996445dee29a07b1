-- ===== PART A: goes FIRST, ahead of the names: the tables' words, and 'selects' of the private methods out of them =====
/-- a private method of a class that the tables say can be made, by its rows of tables_1 -/
def lw_okq (q : MethodName × Nat) : Prop := (q.1.cls ≠ "java/lang/invoke/MethodHandle" ∧ q.1.cls ≠ "java/lang/invoke/VarHandle") ∧ Cond.instantiable q.1.cls q.2 ∈ tables_1 ∧ Cond.privateMethod q.1 ∈ tables_1 ∧ Cond.instanceMethod q.1 ∈ tables_1
theorem lw_p0 : lw_okq (⟨"IceForCoast$Page", "takes", "(I)Z"⟩, 7) := ⟨⟨by decide +kernel, by decide +kernel⟩, List.mem_of_getElem? (i := 23) (by decide +kernel), List.mem_of_getElem? (i := 373) (by decide +kernel), List.mem_of_getElem? (i := 374) (by decide +kernel)⟩
theorem lw_p1 : lw_okq (⟨"IceForCoast$Page", "takesRowEnd", "()Z"⟩, 7) := ⟨⟨by decide +kernel, by decide +kernel⟩, List.mem_of_getElem? (i := 23) (by decide +kernel), List.mem_of_getElem? (i := 377) (by decide +kernel), List.mem_of_getElem? (i := 378) (by decide +kernel)⟩
theorem lw_p2 : lw_okq (⟨"IceForCoast$Page", "takesSquare", "(I)Z"⟩, 7) := ⟨⟨by decide +kernel, by decide +kernel⟩, List.mem_of_getElem? (i := 23) (by decide +kernel), List.mem_of_getElem? (i := 384) (by decide +kernel), List.mem_of_getElem? (i := 385) (by decide +kernel)⟩
theorem lw_p3 : lw_okq (⟨"IceForCoast$Sea", "layLetter", "(I)V"⟩, 8) := ⟨⟨by decide +kernel, by decide +kernel⟩, List.mem_of_getElem? (i := 60) (by decide +kernel), List.mem_of_getElem? (i := 405) (by decide +kernel), List.mem_of_getElem? (i := 406) (by decide +kernel)⟩
theorem lw_p4 : lw_okq (⟨"IceForCoast$Sea", "measure", "()V"⟩, 8) := ⟨⟨by decide +kernel, by decide +kernel⟩, List.mem_of_getElem? (i := 60) (by decide +kernel), List.mem_of_getElem? (i := 410) (by decide +kernel), List.mem_of_getElem? (i := 411) (by decide +kernel)⟩
theorem lw_p5 : lw_okq (⟨"IceForCoast$Sea", "openWays", "(I)V"⟩, 8) := ⟨⟨by decide +kernel, by decide +kernel⟩, List.mem_of_getElem? (i := 60) (by decide +kernel), List.mem_of_getElem? (i := 417) (by decide +kernel), List.mem_of_getElem? (i := 418) (by decide +kernel)⟩
theorem lw_p6 : lw_okq (⟨"IceForCoast$Sea", "beside", "(II)I"⟩, 8) := ⟨⟨by decide +kernel, by decide +kernel⟩, List.mem_of_getElem? (i := 60) (by decide +kernel), List.mem_of_getElem? (i := 421) (by decide +kernel), List.mem_of_getElem? (i := 422) (by decide +kernel)⟩
theorem lw_p7 : lw_okq (⟨"IceForCoast", "isBerg", "(I)Z"⟩, 12) := ⟨⟨by decide +kernel, by decide +kernel⟩, List.mem_of_getElem? (i := 15) (by decide +kernel), List.mem_of_getElem? (i := 476) (by decide +kernel), List.mem_of_getElem? (i := 477) (by decide +kernel)⟩
theorem lw_p8 : lw_okq (⟨"IceForCoast", "hasWay", "(I)Z"⟩, 12) := ⟨⟨by decide +kernel, by decide +kernel⟩, List.mem_of_getElem? (i := 15) (by decide +kernel), List.mem_of_getElem? (i := 521) (by decide +kernel), List.mem_of_getElem? (i := 522) (by decide +kernel)⟩
theorem lw_p9 : lw_okq (⟨"IceForCoast$Tow", "isHopeless", "(I)Z"⟩, 17) := ⟨⟨by decide +kernel, by decide +kernel⟩, List.mem_of_getElem? (i := 54) (by decide +kernel), List.mem_of_getElem? (i := 534) (by decide +kernel), List.mem_of_getElem? (i := 535) (by decide +kernel)⟩
theorem lw_p10 : lw_okq (⟨"IceForCoast$Tow", "choose", "(I)V"⟩, 17) := ⟨⟨by decide +kernel, by decide +kernel⟩, List.mem_of_getElem? (i := 54) (by decide +kernel), List.mem_of_getElem? (i := 542) (by decide +kernel), List.mem_of_getElem? (i := 543) (by decide +kernel)⟩
theorem lw_p11 : lw_okq (⟨"IceForCoast$Tow", "pass", "(III)V"⟩, 17) := ⟨⟨by decide +kernel, by decide +kernel⟩, List.mem_of_getElem? (i := 54) (by decide +kernel), List.mem_of_getElem? (i := 549) (by decide +kernel), List.mem_of_getElem? (i := 550) (by decide +kernel)⟩
theorem lw_p12 : lw_okq (⟨"IceForCoast$Tow", "daysOfStep", "(III)I"⟩, 17) := ⟨⟨by decide +kernel, by decide +kernel⟩, List.mem_of_getElem? (i := 54) (by decide +kernel), List.mem_of_getElem? (i := 553) (by decide +kernel), List.mem_of_getElem? (i := 554) (by decide +kernel)⟩
theorem lw_p13 : lw_okq (⟨"IceForCoast$Tow", "drawnWarmth", "(I)I"⟩, 17) := ⟨⟨by decide +kernel, by decide +kernel⟩, List.mem_of_getElem? (i := 54) (by decide +kernel), List.mem_of_getElem? (i := 557) (by decide +kernel), List.mem_of_getElem? (i := 558) (by decide +kernel)⟩
theorem lw_p14 : lw_okq (⟨"IceForCoast", "weigh", "(I)V"⟩, 12) := ⟨⟨by decide +kernel, by decide +kernel⟩, List.mem_of_getElem? (i := 15) (by decide +kernel), List.mem_of_getElem? (i := 586) (by decide +kernel), List.mem_of_getElem? (i := 587) (by decide +kernel)⟩
theorem lw_p15 : lw_okq (⟨"IceForCoast$Ledger", "mostFrom", "(II)I"⟩, 4) := ⟨⟨by decide +kernel, by decide +kernel⟩, List.mem_of_getElem? (i := 260) (by decide +kernel), List.mem_of_getElem? (i := 608) (by decide +kernel), List.mem_of_getElem? (i := 609) (by decide +kernel)⟩
def lw_privs_1 : List (MethodName × Nat) := [(⟨"IceForCoast$Page", "takes", "(I)Z"⟩, 7), (⟨"IceForCoast$Page", "takesRowEnd", "()Z"⟩, 7), (⟨"IceForCoast$Page", "takesSquare", "(I)Z"⟩, 7), (⟨"IceForCoast$Sea", "layLetter", "(I)V"⟩, 8), (⟨"IceForCoast$Sea", "measure", "()V"⟩, 8), (⟨"IceForCoast$Sea", "openWays", "(I)V"⟩, 8), (⟨"IceForCoast$Sea", "beside", "(II)I"⟩, 8), (⟨"IceForCoast", "isBerg", "(I)Z"⟩, 12), (⟨"IceForCoast", "hasWay", "(I)Z"⟩, 12), (⟨"IceForCoast$Tow", "isHopeless", "(I)Z"⟩, 17), (⟨"IceForCoast$Tow", "choose", "(I)V"⟩, 17), (⟨"IceForCoast$Tow", "pass", "(III)V"⟩, 17), (⟨"IceForCoast$Tow", "daysOfStep", "(III)I"⟩, 17), (⟨"IceForCoast$Tow", "drawnWarmth", "(I)I"⟩, 17), (⟨"IceForCoast", "weigh", "(I)V"⟩, 12), (⟨"IceForCoast$Ledger", "mostFrom", "(II)I"⟩, 4)]
theorem lw_r1 : ∀ q ∈ lw_privs_1, lw_okq q := List.forall_mem_cons.mpr ⟨lw_p0, List.forall_mem_cons.mpr ⟨lw_p1, List.forall_mem_cons.mpr ⟨lw_p2, List.forall_mem_cons.mpr ⟨lw_p3, List.forall_mem_cons.mpr ⟨lw_p4, List.forall_mem_cons.mpr ⟨lw_p5, List.forall_mem_cons.mpr ⟨lw_p6, List.forall_mem_cons.mpr ⟨lw_p7, List.forall_mem_cons.mpr ⟨lw_p8, List.forall_mem_cons.mpr ⟨lw_p9, List.forall_mem_cons.mpr ⟨lw_p10, List.forall_mem_cons.mpr ⟨lw_p11, List.forall_mem_cons.mpr ⟨lw_p12, List.forall_mem_cons.mpr ⟨lw_p13, List.forall_mem_cons.mpr ⟨lw_p14, List.forall_mem_cons.mpr ⟨lw_p15, fun _ h => absurd h List.not_mem_nil⟩⟩⟩⟩⟩⟩⟩⟩⟩⟩⟩⟩⟩⟩⟩⟩
theorem lw_p16 : lw_okq (⟨"IceForCoast$Ledger", "gainBy", "(II)I"⟩, 4) := ⟨⟨by decide +kernel, by decide +kernel⟩, List.mem_of_getElem? (i := 260) (by decide +kernel), List.mem_of_getElem? (i := 612) (by decide +kernel), List.mem_of_getElem? (i := 613) (by decide +kernel)⟩
theorem lw_p17 : lw_okq (⟨"IceForCoast$Ledger", "fewestFor", "(II)I"⟩, 4) := ⟨⟨by decide +kernel, by decide +kernel⟩, List.mem_of_getElem? (i := 260) (by decide +kernel), List.mem_of_getElem? (i := 621) (by decide +kernel), List.mem_of_getElem? (i := 622) (by decide +kernel)⟩
theorem lw_p18 : lw_okq (⟨"IceForCoast$Odds", "letOffNow", "(II)J"⟩, 4) := ⟨⟨by decide +kernel, by decide +kernel⟩, List.mem_of_getElem? (i := 285) (by decide +kernel), List.mem_of_getElem? (i := 651) (by decide +kernel), List.mem_of_getElem? (i := 652) (by decide +kernel)⟩
theorem lw_p19 : lw_okq (⟨"IceForCoast$Odds", "heldNow", "(III)J"⟩, 4) := ⟨⟨by decide +kernel, by decide +kernel⟩, List.mem_of_getElem? (i := 285) (by decide +kernel), List.mem_of_getElem? (i := 657) (by decide +kernel), List.mem_of_getElem? (i := 658) (by decide +kernel)⟩
theorem lw_p20 : lw_okq (⟨"IceForCoast$Lines", "counts", "(III)Z"⟩, 4) := ⟨⟨by decide +kernel, by decide +kernel⟩, List.mem_of_getElem? (i := 209) (by decide +kernel), List.mem_of_getElem? (i := 686) (by decide +kernel), List.mem_of_getElem? (i := 687) (by decide +kernel)⟩
theorem lw_p21 : lw_okq (⟨"IceForCoastModel", "faultOf", "()I"⟩, 52) := ⟨⟨by decide +kernel, by decide +kernel⟩, List.mem_of_getElem? (i := 739) (by decide +kernel), List.mem_of_getElem? (i := 915) (by decide +kernel), List.mem_of_getElem? (i := 916) (by decide +kernel)⟩
theorem lw_p22 : lw_okq (⟨"IceForCoastModel", "go", "(I)Z"⟩, 52) := ⟨⟨by decide +kernel, by decide +kernel⟩, List.mem_of_getElem? (i := 739) (by decide +kernel), List.mem_of_getElem? (i := 919) (by decide +kernel), List.mem_of_getElem? (i := 920) (by decide +kernel)⟩
theorem lw_p23 : lw_okq (⟨"IceForCoastModel", "readAt", "()I"⟩, 52) := ⟨⟨by decide +kernel, by decide +kernel⟩, List.mem_of_getElem? (i := 739) (by decide +kernel), List.mem_of_getElem? (i := 926) (by decide +kernel), List.mem_of_getElem? (i := 927) (by decide +kernel)⟩
theorem lw_p24 : lw_okq (⟨"IceForCoastModel", "isSquare", "(I)Z"⟩, 52) := ⟨⟨by decide +kernel, by decide +kernel⟩, List.mem_of_getElem? (i := 739) (by decide +kernel), List.mem_of_getElem? (i := 943) (by decide +kernel), List.mem_of_getElem? (i := 944) (by decide +kernel)⟩
theorem lw_p25 : lw_okq (⟨"IceForCoastModel", "tellSquare", "(II)I"⟩, 52) := ⟨⟨by decide +kernel, by decide +kernel⟩, List.mem_of_getElem? (i := 739) (by decide +kernel), List.mem_of_getElem? (i := 947) (by decide +kernel), List.mem_of_getElem? (i := 948) (by decide +kernel)⟩
theorem lw_p26 : lw_okq (⟨"IceForCoastModel", "farOf", "(I)I"⟩, 52) := ⟨⟨by decide +kernel, by decide +kernel⟩, List.mem_of_getElem? (i := 739) (by decide +kernel), List.mem_of_getElem? (i := 951) (by decide +kernel), List.mem_of_getElem? (i := 952) (by decide +kernel)⟩
theorem lw_p27 : lw_okq (⟨"IceForCoastModel", "isBerg", "(I)Z"⟩, 52) := ⟨⟨by decide +kernel, by decide +kernel⟩, List.mem_of_getElem? (i := 739) (by decide +kernel), List.mem_of_getElem? (i := 972) (by decide +kernel), List.mem_of_getElem? (i := 973) (by decide +kernel)⟩
theorem lw_p28 : lw_okq (⟨"IceForCoastModel", "tellTow", "(IIZI)I"⟩, 52) := ⟨⟨by decide +kernel, by decide +kernel⟩, List.mem_of_getElem? (i := 739) (by decide +kernel), List.mem_of_getElem? (i := 999) (by decide +kernel), List.mem_of_getElem? (i := 1000) (by decide +kernel)⟩
theorem lw_p29 : lw_okq (⟨"IceForCoastModel", "ownSize", "(I)I"⟩, 52) := ⟨⟨by decide +kernel, by decide +kernel⟩, List.mem_of_getElem? (i := 739) (by decide +kernel), List.mem_of_getElem? (i := 1003) (by decide +kernel), List.mem_of_getElem? (i := 1004) (by decide +kernel)⟩
theorem lw_p30 : lw_okq (⟨"IceForCoastModel", "layWays", "(IIIZ)V"⟩, 52) := ⟨⟨by decide +kernel, by decide +kernel⟩, List.mem_of_getElem? (i := 739) (by decide +kernel), List.mem_of_getElem? (i := 1007) (by decide +kernel), List.mem_of_getElem? (i := 1008) (by decide +kernel)⟩
theorem lw_p31 : lw_okq (⟨"IceForCoastModel", "to", "(II)I"⟩, 52) := ⟨⟨by decide +kernel, by decide +kernel⟩, List.mem_of_getElem? (i := 739) (by decide +kernel), List.mem_of_getElem? (i := 1011) (by decide +kernel), List.mem_of_getElem? (i := 1012) (by decide +kernel)⟩
def lw_privs_2 : List (MethodName × Nat) := [(⟨"IceForCoast$Ledger", "gainBy", "(II)I"⟩, 4), (⟨"IceForCoast$Ledger", "fewestFor", "(II)I"⟩, 4), (⟨"IceForCoast$Odds", "letOffNow", "(II)J"⟩, 4), (⟨"IceForCoast$Odds", "heldNow", "(III)J"⟩, 4), (⟨"IceForCoast$Lines", "counts", "(III)Z"⟩, 4), (⟨"IceForCoastModel", "faultOf", "()I"⟩, 52), (⟨"IceForCoastModel", "go", "(I)Z"⟩, 52), (⟨"IceForCoastModel", "readAt", "()I"⟩, 52), (⟨"IceForCoastModel", "isSquare", "(I)Z"⟩, 52), (⟨"IceForCoastModel", "tellSquare", "(II)I"⟩, 52), (⟨"IceForCoastModel", "farOf", "(I)I"⟩, 52), (⟨"IceForCoastModel", "isBerg", "(I)Z"⟩, 52), (⟨"IceForCoastModel", "tellTow", "(IIZI)I"⟩, 52), (⟨"IceForCoastModel", "ownSize", "(I)I"⟩, 52), (⟨"IceForCoastModel", "layWays", "(IIIZ)V"⟩, 52), (⟨"IceForCoastModel", "to", "(II)I"⟩, 52)]
theorem lw_r2 : ∀ q ∈ lw_privs_2, lw_okq q := List.forall_mem_cons.mpr ⟨lw_p16, List.forall_mem_cons.mpr ⟨lw_p17, List.forall_mem_cons.mpr ⟨lw_p18, List.forall_mem_cons.mpr ⟨lw_p19, List.forall_mem_cons.mpr ⟨lw_p20, List.forall_mem_cons.mpr ⟨lw_p21, List.forall_mem_cons.mpr ⟨lw_p22, List.forall_mem_cons.mpr ⟨lw_p23, List.forall_mem_cons.mpr ⟨lw_p24, List.forall_mem_cons.mpr ⟨lw_p25, List.forall_mem_cons.mpr ⟨lw_p26, List.forall_mem_cons.mpr ⟨lw_p27, List.forall_mem_cons.mpr ⟨lw_p28, List.forall_mem_cons.mpr ⟨lw_p29, List.forall_mem_cons.mpr ⟨lw_p30, List.forall_mem_cons.mpr ⟨lw_p31, fun _ h => absurd h List.not_mem_nil⟩⟩⟩⟩⟩⟩⟩⟩⟩⟩⟩⟩⟩⟩⟩⟩
theorem lw_p32 : lw_okq (⟨"IceForCoastModel", "tryWay", "(IIIZI)V"⟩, 52) := ⟨⟨by decide +kernel, by decide +kernel⟩, List.mem_of_getElem? (i := 739) (by decide +kernel), List.mem_of_getElem? (i := 1015) (by decide +kernel), List.mem_of_getElem? (i := 1016) (by decide +kernel)⟩
theorem lw_p33 : lw_okq (⟨"IceForCoastModel", "begin", "(IIIZ)V"⟩, 52) := ⟨⟨by decide +kernel, by decide +kernel⟩, List.mem_of_getElem? (i := 739) (by decide +kernel), List.mem_of_getElem? (i := 1019) (by decide +kernel), List.mem_of_getElem? (i := 1020) (by decide +kernel)⟩
theorem lw_p34 : lw_okq (⟨"IceForCoastModel", "towAll", "(I)V"⟩, 52) := ⟨⟨by decide +kernel, by decide +kernel⟩, List.mem_of_getElem? (i := 739) (by decide +kernel), List.mem_of_getElem? (i := 1023) (by decide +kernel), List.mem_of_getElem? (i := 1024) (by decide +kernel)⟩
theorem lw_p35 : lw_okq (⟨"IceForCoastModel", "step", "(II)V"⟩, 52) := ⟨⟨by decide +kernel, by decide +kernel⟩, List.mem_of_getElem? (i := 739) (by decide +kernel), List.mem_of_getElem? (i := 1027) (by decide +kernel), List.mem_of_getElem? (i := 1028) (by decide +kernel)⟩
theorem lw_p36 : lw_okq (⟨"IceForCoastModel", "day", "(I)V"⟩, 52) := ⟨⟨by decide +kernel, by decide +kernel⟩, List.mem_of_getElem? (i := 739) (by decide +kernel), List.mem_of_getElem? (i := 1031) (by decide +kernel), List.mem_of_getElem? (i := 1032) (by decide +kernel)⟩
theorem lw_p37 : lw_okq (⟨"IceForCoastModel", "draw", "(I)I"⟩, 52) := ⟨⟨by decide +kernel, by decide +kernel⟩, List.mem_of_getElem? (i := 739) (by decide +kernel), List.mem_of_getElem? (i := 1035) (by decide +kernel), List.mem_of_getElem? (i := 1036) (by decide +kernel)⟩
theorem lw_p38 : lw_okq (⟨"IceForCoastModel", "waysOf", "(I)I"⟩, 52) := ⟨⟨by decide +kernel, by decide +kernel⟩, List.mem_of_getElem? (i := 739) (by decide +kernel), List.mem_of_getElem? (i := 1049) (by decide +kernel), List.mem_of_getElem? (i := 1050) (by decide +kernel)⟩
theorem lw_p39 : lw_okq (⟨"IceForCoastModel", "tellBest", "(II)I"⟩, 52) := ⟨⟨by decide +kernel, by decide +kernel⟩, List.mem_of_getElem? (i := 739) (by decide +kernel), List.mem_of_getElem? (i := 1057) (by decide +kernel), List.mem_of_getElem? (i := 1058) (by decide +kernel)⟩
theorem lw_p40 : lw_okq (⟨"IceForCoastModel", "lacks", "()Z"⟩, 52) := ⟨⟨by decide +kernel, by decide +kernel⟩, List.mem_of_getElem? (i := 739) (by decide +kernel), List.mem_of_getElem? (i := 1066) (by decide +kernel), List.mem_of_getElem? (i := 1067) (by decide +kernel)⟩
theorem lw_p41 : lw_okq (⟨"IceForCoastModel", "seasonOf", "(II)I"⟩, 52) := ⟨⟨by decide +kernel, by decide +kernel⟩, List.mem_of_getElem? (i := 739) (by decide +kernel), List.mem_of_getElem? (i := 1071) (by decide +kernel), List.mem_of_getElem? (i := 1072) (by decide +kernel)⟩
theorem lw_p42 : lw_okq (⟨"IceForCoastModel", "countOf", "(I)I"⟩, 52) := ⟨⟨by decide +kernel, by decide +kernel⟩, List.mem_of_getElem? (i := 739) (by decide +kernel), List.mem_of_getElem? (i := 1118) (by decide +kernel), List.mem_of_getElem? (i := 1119) (by decide +kernel)⟩
theorem lw_p43 : lw_okq (⟨"IceForCoastModel", "say", "(J)V"⟩, 52) := ⟨⟨by decide +kernel, by decide +kernel⟩, List.mem_of_getElem? (i := 739) (by decide +kernel), List.mem_of_getElem? (i := 1127) (by decide +kernel), List.mem_of_getElem? (i := 1128) (by decide +kernel)⟩
theorem lw_p44 : lw_okq (⟨"IceForCoastModel", "sayBerg", "(I)V"⟩, 52) := ⟨⟨by decide +kernel, by decide +kernel⟩, List.mem_of_getElem? (i := 739) (by decide +kernel), List.mem_of_getElem? (i := 1132) (by decide +kernel), List.mem_of_getElem? (i := 1133) (by decide +kernel)⟩
def lw_privs_3 : List (MethodName × Nat) := [(⟨"IceForCoastModel", "tryWay", "(IIIZI)V"⟩, 52), (⟨"IceForCoastModel", "begin", "(IIIZ)V"⟩, 52), (⟨"IceForCoastModel", "towAll", "(I)V"⟩, 52), (⟨"IceForCoastModel", "step", "(II)V"⟩, 52), (⟨"IceForCoastModel", "day", "(I)V"⟩, 52), (⟨"IceForCoastModel", "draw", "(I)I"⟩, 52), (⟨"IceForCoastModel", "waysOf", "(I)I"⟩, 52), (⟨"IceForCoastModel", "tellBest", "(II)I"⟩, 52), (⟨"IceForCoastModel", "lacks", "()Z"⟩, 52), (⟨"IceForCoastModel", "seasonOf", "(II)I"⟩, 52), (⟨"IceForCoastModel", "countOf", "(I)I"⟩, 52), (⟨"IceForCoastModel", "say", "(J)V"⟩, 52), (⟨"IceForCoastModel", "sayBerg", "(I)V"⟩, 52)]
theorem lw_r3 : ∀ q ∈ lw_privs_3, lw_okq q := List.forall_mem_cons.mpr ⟨lw_p32, List.forall_mem_cons.mpr ⟨lw_p33, List.forall_mem_cons.mpr ⟨lw_p34, List.forall_mem_cons.mpr ⟨lw_p35, List.forall_mem_cons.mpr ⟨lw_p36, List.forall_mem_cons.mpr ⟨lw_p37, List.forall_mem_cons.mpr ⟨lw_p38, List.forall_mem_cons.mpr ⟨lw_p39, List.forall_mem_cons.mpr ⟨lw_p40, List.forall_mem_cons.mpr ⟨lw_p41, List.forall_mem_cons.mpr ⟨lw_p42, List.forall_mem_cons.mpr ⟨lw_p43, List.forall_mem_cons.mpr ⟨lw_p44, fun _ h => absurd h List.not_mem_nil⟩⟩⟩⟩⟩⟩⟩⟩⟩⟩⟩⟩⟩
def lw_privs : List (MethodName × Nat) := lw_privs_1 ++ (lw_privs_2 ++ (lw_privs_3))
def lw_tbl : List Cond := k2_sels lw_privs ++ tables_1
theorem lw_privs_ok : ∀ q ∈ lw_privs, lw_okq q := by
  show ∀ q ∈ lw_privs_1 ++ (lw_privs_2 ++ (lw_privs_3)), lw_okq q
  exact List.forall_mem_append.mpr ⟨lw_r1, List.forall_mem_append.mpr ⟨lw_r2, lw_r3⟩⟩
/-! ===== BEGIN printed: names, fields, word lists, decode rows ===== -/
def RX0 : String := "IceForCoast$Berg"
def TX0 : u_T := fun k => match k with
  | 0 => ("IceForCoast$Berg", "kind", "I", false)
  | 1 => ("IceForCoast$Berg", "square", "I", false)
  | 2 => ("IceForCoast$Berg", "size", "I", false)
  | 3 => ("IceForCoast$Berg", "foot", "I", false)
  | 4 => ("IceForCoast$Berg", "n", "I", false)
  | _ => ("IceForCoast$Berg", "flat", "Z", false)
def tyX0 : Nat → FieldType := fun k => match k with
  | 0 => .int
  | 1 => .int
  | 2 => .int
  | 3 => .int
  | 4 => .int
  | _ => .boolean
abbrev wsX00 : List Cond := u_ws RX0 TX0 6
theorem nmX0 : ∀ a, a < 6 → ∀ b, b < 6 → a ≠ b → (TX0 a).2.1 ≠ (TX0 b).2.1 := by decide +kernel
theorem tyX0_ok : ∀ k, k < 6 → parseFieldDescriptor (TX0 k).2.2.1 = some (tyX0 k) := by decide +kernel
abbrev cX0_init : ByteArray := prog_2_method_1_code
def yX0_init : MethodName := ⟨RX0, "<init>", "()V"⟩
abbrev cX0_isKind : ByteArray := prog_2_method_2_code
def yX0_isKind : MethodName := ⟨RX0, "isKind", "(I)Z"⟩
abbrev cX0_mayBreak : ByteArray := prog_2_method_3_code
def yX0_mayBreak : MethodName := ⟨RX0, "mayBreak", "(II)Z"⟩
abbrev cX0_become : ByteArray := prog_2_method_4_code
def yX0_become : MethodName := ⟨RX0, "become", "(IIIII)V"⟩
abbrev cX0_isA : ByteArray := prog_2_method_5_code
def yX0_isA : MethodName := ⟨RX0, "isA", "(I)Z"⟩
abbrev cX0_meltOf : ByteArray := prog_2_method_6_code
def yX0_meltOf : MethodName := ⟨RX0, "meltOf", "(II)I"⟩
abbrev cX0_breaksOn : ByteArray := prog_2_method_7_code
def yX0_breaksOn : MethodName := ⟨RX0, "breaksOn", "(I)Z"⟩
def RX1 : String := "IceForCoast$Coins"
def TX1 : u_T := fun k => match k with
  | _ => ("IceForCoast$Coins", "value", "[I", true)
def tyX1 : Nat → FieldType := fun k => match k with
  | _ => .array .int
abbrev wsX10 : List Cond := u_ws RX1 TX1 1
theorem nmX1 : ∀ a, a < 1 → ∀ b, b < 1 → a ≠ b → (TX1 a).2.1 ≠ (TX1 b).2.1 := by decide +kernel
theorem tyX1_ok : ∀ k, k < 1 → parseFieldDescriptor (TX1 k).2.2.1 = some (tyX1 k) := by decide +kernel
abbrev cX1_init : ByteArray := prog_3_method_1_code
def yX1_init : MethodName := ⟨RX1, "<init>", "()V"⟩
abbrev cX1_mayBe : ByteArray := prog_3_method_2_code
def yX1_mayBe : MethodName := ⟨RX1, "mayBe", "(II)Z"⟩
abbrev cX1_put : ByteArray := prog_3_method_3_code
def yX1_put : MethodName := ⟨RX1, "put", "(II)I"⟩
abbrev cX1_copy : ByteArray := prog_3_method_4_code
def yX1_copy : MethodName := ⟨RX1, "copy", "(LIceForCoast$Coins;)V"⟩
abbrev cX1_gainOf : ByteArray := prog_3_method_5_code
def yX1_gainOf : MethodName := ⟨RX1, "gainOf", "(IIIZ)I"⟩
def RX2 : String := "IceForCoast$Image"
def TX2 : u_T := fun k => match k with
  | 0 => ("IceForCoast$Image", "sizes", "[I", true)
  | 1 => ("IceForCoast$Image", "feet", "[I", true)
  | 2 => ("IceForCoast$Image", "coins", "LIceForCoast$Coins;", true)
  | 3 => ("IceForCoast$Image", "bergCount", "I", false)
  | 4 => ("IceForCoast$Image", "lineCount", "I", false)
  | _ => ("IceForCoast$Image", "seaNumber", "I", false)
def tyX2 : Nat → FieldType := fun k => match k with
  | 0 => .array .int
  | 1 => .array .int
  | 2 => .object "IceForCoast$Coins"
  | 3 => .int
  | 4 => .int
  | _ => .int
abbrev wsX20 : List Cond := u_ws RX2 TX2 6
theorem nmX2 : ∀ a, a < 6 → ∀ b, b < 6 → a ≠ b → (TX2 a).2.1 ≠ (TX2 b).2.1 := by decide +kernel
theorem tyX2_ok : ∀ k, k < 6 → parseFieldDescriptor (TX2 k).2.2.1 = some (tyX2 k) := by decide +kernel
abbrev cX2_init : ByteArray := prog_4_method_1_code
def yX2_init : MethodName := ⟨RX2, "<init>", "()V"⟩
abbrev cX2_keep : ByteArray := prog_4_method_2_code
def yX2_keep : MethodName := ⟨RX2, "keep", "([LIceForCoast$Berg;ILIceForCoast$Coins;)V"⟩
abbrev cX2_giveBack : ByteArray := prog_4_method_3_code
def yX2_giveBack : MethodName := ⟨RX2, "giveBack", "([LIceForCoast$Berg;LIceForCoast$Coins;)V"⟩
def RX3 : String := "IceForCoast$Ledger"
def TX3 : u_T := fun k => match k with
  | 0 => ("IceForCoast$Ledger", "gains", "[[I", true)
  | 1 => ("IceForCoast$Ledger", "known", "[Z", true)
  | 2 => ("IceForCoast$Ledger", "towable", "[Z", true)
  | _ => ("IceForCoast$Ledger", "most", "[[I", true)
def tyX3 : Nat → FieldType := fun k => match k with
  | 0 => .array (.array .int)
  | 1 => .array .boolean
  | 2 => .array .boolean
  | _ => .array (.array .int)
abbrev wsX30 : List Cond := u_ws RX3 TX3 4
theorem nmX3 : ∀ a, a < 4 → ∀ b, b < 4 → a ≠ b → (TX3 a).2.1 ≠ (TX3 b).2.1 := by decide +kernel
theorem tyX3_ok : ∀ k, k < 4 → parseFieldDescriptor (TX3 k).2.2.1 = some (tyX3 k) := by decide +kernel
abbrev cX3_init : ByteArray := prog_5_method_1_code
def yX3_init : MethodName := ⟨RX3, "<init>", "()V"⟩
abbrev cX3_tugsOf : ByteArray := prog_5_method_2_code
def yX3_tugsOf : MethodName := ⟨RX3, "tugsOf", "(I)I"⟩
abbrev cX3_hasSkirt : ByteArray := prog_5_method_3_code
def yX3_hasSkirt : MethodName := ⟨RX3, "hasSkirt", "(I)Z"⟩
abbrev cX3_forget : ByteArray := prog_5_method_4_code
def yX3_forget : MethodName := ⟨RX3, "forget", "(I)V"⟩
abbrev cX3_forgetAll : ByteArray := prog_5_method_5_code
def yX3_forgetAll : MethodName := ⟨RX3, "forgetAll", "()V"⟩
abbrev cX3_bestEntry : ByteArray := prog_5_method_6_code
def yX3_bestEntry : MethodName := ⟨RX3, "bestEntry", "(I)I"⟩
abbrev cX3_deal : ByteArray := prog_5_method_7_code
def yX3_deal : MethodName := ⟨RX3, "deal", "(I)V"⟩
abbrev cX3_mostFrom : ByteArray := prog_5_method_8_code
def yX3_mostFrom : MethodName := ⟨RX3, "mostFrom", "(II)I"⟩
abbrev cX3_gainBy : ByteArray := prog_5_method_9_code
def yX3_gainBy : MethodName := ⟨RX3, "gainBy", "(II)I"⟩
abbrev cX3_tugsFor : ByteArray := prog_5_method_10_code
def yX3_tugsFor : MethodName := ⟨RX3, "tugsFor", "(II)I"⟩
abbrev cX3_fewestFor : ByteArray := prog_5_method_11_code
def yX3_fewestFor : MethodName := ⟨RX3, "fewestFor", "(II)I"⟩
def RX4 : String := "IceForCoast$Lines"
def TX4 : u_T := fun k => match k with
  | 0 => ("IceForCoast$Lines", "house", "[I", true)
  | 1 => ("IceForCoast$Lines", "berg", "[I", true)
  | 2 => ("IceForCoast$Lines", "day", "[I", true)
  | _ => ("IceForCoast$Lines", "length", "I", false)
def tyX4 : Nat → FieldType := fun k => match k with
  | 0 => .array .int
  | 1 => .array .int
  | 2 => .array .int
  | _ => .int
abbrev wsX40 : List Cond := u_ws RX4 TX4 4
theorem nmX4 : ∀ a, a < 4 → ∀ b, b < 4 → a ≠ b → (TX4 a).2.1 ≠ (TX4 b).2.1 := by decide +kernel
theorem tyX4_ok : ∀ k, k < 4 → parseFieldDescriptor (TX4 k).2.2.1 = some (tyX4 k) := by decide +kernel
abbrev cX4_init : ByteArray := prog_6_method_1_code
def yX4_init : MethodName := ⟨RX4, "<init>", "()V"⟩
abbrev cX4_add : ByteArray := prog_6_method_2_code
def yX4_add : MethodName := ⟨RX4, "add", "(III)Z"⟩
abbrev cX4_cutTo : ByteArray := prog_6_method_3_code
def yX4_cutTo : MethodName := ⟨RX4, "cutTo", "(I)V"⟩
abbrev cX4_counts : ByteArray := prog_6_method_4_code
def yX4_counts : MethodName := ⟨RX4, "counts", "(III)Z"⟩
abbrev cX4_allIfFirst : ByteArray := prog_6_method_5_code
def yX4_allIfFirst : MethodName := ⟨RX4, "allIfFirst", "(III)I"⟩
abbrev cX4_sharesOf : ByteArray := prog_6_method_6_code
def yX4_sharesOf : MethodName := ⟨RX4, "sharesOf", "(IIIZ)I"⟩
abbrev cX4_sharesOfAll : ByteArray := prog_6_method_7_code
def yX4_sharesOfAll : MethodName := ⟨RX4, "sharesOfAll", "(IIZ)I"⟩
def RX5 : String := "IceForCoast$Odds"
def TX5 : u_T := fun k => match k with
  | 0 => ("IceForCoast$Odds", "water", "[J", true)
  | 1 => ("IceForCoast$Odds", "above", "J", false)
  | 2 => ("IceForCoast$Odds", "below", "J", false)
  | _ => ("IceForCoast$Odds", "letsOff", "Z", false)
def tyX5 : Nat → FieldType := fun k => match k with
  | 0 => .array .long
  | 1 => .long
  | 2 => .long
  | _ => .boolean
abbrev wsX50 : List Cond := u_ws RX5 TX5 4
theorem nmX5 : ∀ a, a < 4 → ∀ b, b < 4 → a ≠ b → (TX5 a).2.1 ≠ (TX5 b).2.1 := by decide +kernel
theorem tyX5_ok : ∀ k, k < 4 → parseFieldDescriptor (TX5 k).2.2.1 = some (tyX5 k) := by decide +kernel
abbrev cX5_init : ByteArray := prog_7_method_1_code
def yX5_init : MethodName := ⟨RX5, "<init>", "()V"⟩
abbrev cX5_reckon : ByteArray := prog_7_method_2_code
def yX5_reckon : MethodName := ⟨RX5, "reckon", "(IIII)V"⟩
abbrev cX5_letOffNow : ByteArray := prog_7_method_3_code
def yX5_letOffNow : MethodName := ⟨RX5, "letOffNow", "(II)J"⟩
abbrev cX5_heldNow : ByteArray := prog_7_method_4_code
def yX5_heldNow : MethodName := ⟨RX5, "heldNow", "(III)J"⟩
def RX6 : String := "IceForCoast$Page"
def TX6 : u_T := fun k => match k with
  | 0 => ("IceForCoast$Page", "codes", "[I", true)
  | 1 => ("IceForCoast$Page", "length", "I", false)
  | 2 => ("IceForCoast$Page", "row", "I", false)
  | 3 => ("IceForCoast$Page", "inRow", "I", false)
  | 4 => ("IceForCoast$Page", "width", "I", false)
  | 5 => ("IceForCoast$Page", "harbours", "I", false)
  | _ => ("IceForCoast$Page", "currentMayCome", "Z", false)
def tyX6 : Nat → FieldType := fun k => match k with
  | 0 => .array .int
  | 1 => .int
  | 2 => .int
  | 3 => .int
  | 4 => .int
  | 5 => .int
  | _ => .boolean
abbrev wsX60 : List Cond := u_ws RX6 TX6 7
theorem nmX6 : ∀ a, a < 7 → ∀ b, b < 7 → a ≠ b → (TX6 a).2.1 ≠ (TX6 b).2.1 := by decide +kernel
theorem tyX6_ok : ∀ k, k < 7 → parseFieldDescriptor (TX6 k).2.2.1 = some (tyX6 k) := by decide +kernel
abbrev cX6_init : ByteArray := prog_8_method_1_code
def yX6_init : MethodName := ⟨RX6, "<init>", "()V"⟩
abbrev cX6_append : ByteArray := prog_8_method_2_code
def yX6_append : MethodName := ⟨RX6, "append", "(J)I"⟩
abbrev cX6_byteOf : ByteArray := prog_8_method_3_code
def yX6_byteOf : MethodName := ⟨RX6, "byteOf", "(JI)I"⟩
abbrev cX6_clear : ByteArray := prog_8_method_4_code
def yX6_clear : MethodName := ⟨RX6, "clear", "()I"⟩
abbrev cX6_codeAt : ByteArray := prog_8_method_5_code
def yX6_codeAt : MethodName := ⟨RX6, "codeAt", "(I)I"⟩
abbrev cX6_firstWrong : ByteArray := prog_8_method_6_code
def yX6_firstWrong : MethodName := ⟨RX6, "firstWrong", "()I"⟩
abbrev cX6_isSea : ByteArray := prog_8_method_7_code
def yX6_isSea : MethodName := ⟨RX6, "isSea", "()Z"⟩
abbrev cX6_takes : ByteArray := prog_8_method_8_code
def yX6_takes : MethodName := ⟨RX6, "takes", "(I)Z"⟩
abbrev cX6_takesRowEnd : ByteArray := prog_8_method_9_code
def yX6_takesRowEnd : MethodName := ⟨RX6, "takesRowEnd", "()Z"⟩
abbrev cX6_takesSquare : ByteArray := prog_8_method_10_code
def yX6_takesSquare : MethodName := ⟨RX6, "takesSquare", "(I)Z"⟩
def RX7 : String := "IceForCoast$Sea"
def TX7 : u_T := fun k => match k with
  | 0 => ("IceForCoast$Sea", "warmth", "[I", true)
  | 1 => ("IceForCoast$Sea", "current", "[I", true)
  | 2 => ("IceForCoast$Sea", "far", "[I", true)
  | 3 => ("IceForCoast$Sea", "waysFrom", "[I", true)
  | 4 => ("IceForCoast$Sea", "next", "[[I", true)
  | 5 => ("IceForCoast$Sea", "squares", "I", false)
  | 6 => ("IceForCoast$Sea", "width", "I", false)
  | _ => ("IceForCoast$Sea", "harbour", "I", false)
def tyX7 : Nat → FieldType := fun k => match k with
  | 0 => .array .int
  | 1 => .array .int
  | 2 => .array .int
  | 3 => .array .int
  | 4 => .array (.array .int)
  | 5 => .int
  | 6 => .int
  | _ => .int
abbrev wsX70 : List Cond := u_ws RX7 TX7 8
theorem nmX7 : ∀ a, a < 8 → ∀ b, b < 8 → a ≠ b → (TX7 a).2.1 ≠ (TX7 b).2.1 := by decide +kernel
theorem tyX7_ok : ∀ k, k < 8 → parseFieldDescriptor (TX7 k).2.2.1 = some (tyX7 k) := by decide +kernel
abbrev cX7_init : ByteArray := prog_9_method_1_code
def yX7_init : MethodName := ⟨RX7, "<init>", "()V"⟩
abbrev cX7_wayOf : ByteArray := prog_9_method_2_code
def yX7_wayOf : MethodName := ⟨RX7, "wayOf", "(I)I"⟩
abbrev cX7_has : ByteArray := prog_9_method_3_code
def yX7_has : MethodName := ⟨RX7, "has", "(I)Z"⟩
abbrev cX7_hasWarmth : ByteArray := prog_9_method_4_code
def yX7_hasWarmth : MethodName := ⟨RX7, "hasWarmth", "(I)Z"⟩
abbrev cX7_lay : ByteArray := prog_9_method_5_code
def yX7_lay : MethodName := ⟨RX7, "lay", "(LIceForCoast$Page;)V"⟩
abbrev cX7_layLetter : ByteArray := prog_9_method_6_code
def yX7_layLetter : MethodName := ⟨RX7, "layLetter", "(I)V"⟩
abbrev cX7_measure : ByteArray := prog_9_method_7_code
def yX7_measure : MethodName := ⟨RX7, "measure", "()V"⟩
abbrev cX7_openWays : ByteArray := prog_9_method_8_code
def yX7_openWays : MethodName := ⟨RX7, "openWays", "(I)V"⟩
abbrev cX7_beside : ByteArray := prog_9_method_9_code
def yX7_beside : MethodName := ⟨RX7, "beside", "(II)I"⟩
def RX8 : String := "IceForCoast$Tow"
def TX8 : u_T := fun k => match k with
  | 0 => ("IceForCoast$Tow", "sea", "LIceForCoast$Sea;", true)
  | 1 => ("IceForCoast$Tow", "coins", "LIceForCoast$Coins;", true)
  | 2 => ("IceForCoast$Tow", "sizeAt", "[I", true)
  | 3 => ("IceForCoast$Tow", "footAt", "[I", true)
  | 4 => ("IceForCoast$Tow", "dayAt", "[I", true)
  | 5 => ("IceForCoast$Tow", "trial", "[I", true)
  | 6 => ("IceForCoast$Tow", "chosen", "[I", true)
  | 7 => ("IceForCoast$Tow", "berg", "LIceForCoast$Berg;", false)
  | 8 => ("IceForCoast$Tow", "tugs", "I", false)
  | 9 => ("IceForCoast$Tow", "skirt", "Z", false)
  | 10 => ("IceForCoast$Tow", "found", "Z", false)
  | 11 => ("IceForCoast$Tow", "water", "I", false)
  | 12 => ("IceForCoast$Tow", "days", "I", false)
  | 13 => ("IceForCoast$Tow", "gain", "I", false)
  | 14 => ("IceForCoast$Tow", "steps", "I", false)
  | 15 => ("IceForCoast$Tow", "drawing", "Z", false)
  | _ => ("IceForCoast$Tow", "seed", "J", false)
def tyX8 : Nat → FieldType := fun k => match k with
  | 0 => .object "IceForCoast$Sea"
  | 1 => .object "IceForCoast$Coins"
  | 2 => .array .int
  | 3 => .array .int
  | 4 => .array .int
  | 5 => .array .int
  | 6 => .array .int
  | 7 => .object "IceForCoast$Berg"
  | 8 => .int
  | 9 => .boolean
  | 10 => .boolean
  | 11 => .int
  | 12 => .int
  | 13 => .int
  | 14 => .int
  | 15 => .boolean
  | _ => .long
abbrev wsX80 : List Cond := u_ws RX8 TX8 17
theorem nmX8 : ∀ a, a < 17 → ∀ b, b < 17 → a ≠ b → (TX8 a).2.1 ≠ (TX8 b).2.1 := by decide +kernel
theorem tyX8_ok : ∀ k, k < 17 → parseFieldDescriptor (TX8 k).2.2.1 = some (tyX8 k) := by decide +kernel
abbrev cX8_init : ByteArray := prog_10_method_1_code
def yX8_init : MethodName := ⟨RX8, "<init>", "()V"⟩
abbrev cX8_seek : ByteArray := prog_10_method_2_code
def yX8_seek : MethodName := ⟨RX8, "seek", "(LIceForCoast$Berg;IIZ)V"⟩
abbrev cX8_towAgain : ByteArray := prog_10_method_3_code
def yX8_towAgain : MethodName := ⟨RX8, "towAgain", "(I)V"⟩
abbrev cX8_stepAt : ByteArray := prog_10_method_4_code
def yX8_stepAt : MethodName := ⟨RX8, "stepAt", "(I)I"⟩
abbrev cX8_follow : ByteArray := prog_10_method_5_code
def yX8_follow : MethodName := ⟨RX8, "follow", "(LIceForCoast$Tow;II)V"⟩
abbrev cX8_isHopeless : ByteArray := prog_10_method_6_code
def yX8_isHopeless : MethodName := ⟨RX8, "isHopeless", "(I)Z"⟩
abbrev cX8_choose : ByteArray := prog_10_method_7_code
def yX8_choose : MethodName := ⟨RX8, "choose", "(I)V"⟩
abbrev cX8_pass : ByteArray := prog_10_method_8_code
def yX8_pass : MethodName := ⟨RX8, "pass", "(III)V"⟩
abbrev cX8_daysOfStep : ByteArray := prog_10_method_9_code
def yX8_daysOfStep : MethodName := ⟨RX8, "daysOfStep", "(III)I"⟩
abbrev cX8_drawnWarmth : ByteArray := prog_10_method_10_code
def yX8_drawnWarmth : MethodName := ⟨RX8, "drawnWarmth", "(I)I"⟩
def RX9 : String := "IceForCoast"
def TX9 : u_T := fun k => match k with
  | 0 => ("IceForCoast", "thePage", "LIceForCoast$Page;", true)
  | 1 => ("IceForCoast", "theTow", "LIceForCoast$Tow;", true)
  | 2 => ("IceForCoast", "theSea", "LIceForCoast$Sea;", true)
  | 3 => ("IceForCoast", "coins", "LIceForCoast$Coins;", true)
  | 4 => ("IceForCoast", "bergs", "[LIceForCoast$Berg;", true)
  | 5 => ("IceForCoast", "lines", "LIceForCoast$Lines;", true)
  | 6 => ("IceForCoast", "kept", "LIceForCoast$Image;", true)
  | 7 => ("IceForCoast", "ledger", "LIceForCoast$Ledger;", true)
  | 8 => ("IceForCoast", "theOdds", "LIceForCoast$Odds;", true)
  | 9 => ("IceForCoast", "bergCount", "I", false)
  | 10 => ("IceForCoast", "seasRead", "I", false)
  | _ => ("IceForCoast", "cameDone", "I", false)
def tyX9 : Nat → FieldType := fun k => match k with
  | 0 => .object "IceForCoast$Page"
  | 1 => .object "IceForCoast$Tow"
  | 2 => .object "IceForCoast$Sea"
  | 3 => .object "IceForCoast$Coins"
  | 4 => .array (.object "IceForCoast$Berg")
  | 5 => .object "IceForCoast$Lines"
  | 6 => .object "IceForCoast$Image"
  | 7 => .object "IceForCoast$Ledger"
  | 8 => .object "IceForCoast$Odds"
  | 9 => .int
  | 10 => .int
  | _ => .int
abbrev wsX90 : List Cond := u_ws RX9 TX9 12
theorem nmX9 : ∀ a, a < 12 → ∀ b, b < 12 → a ≠ b → (TX9 a).2.1 ≠ (TX9 b).2.1 := by decide +kernel
theorem tyX9_ok : ∀ k, k < 12 → parseFieldDescriptor (TX9 k).2.2.1 = some (tyX9 k) := by decide +kernel
abbrev cX9_init : ByteArray := prog_1_method_1_code
def yX9_init : MethodName := ⟨RX9, "<init>", "()V"⟩
abbrev cX9_letters : ByteArray := prog_1_method_2_code
def yX9_letters : MethodName := ⟨RX9, "letters", "(J)I"⟩
abbrev cX9_blank : ByteArray := prog_1_method_3_code
def yX9_blank : MethodName := ⟨RX9, "blank", "()I"⟩
abbrev cX9_fault : ByteArray := prog_1_method_4_code
def yX9_fault : MethodName := ⟨RX9, "fault", "()I"⟩
abbrev cX9_sea : ByteArray := prog_1_method_5_code
def yX9_sea : MethodName := ⟨RX9, "sea", "()I"⟩
abbrev cX9_square : ByteArray := prog_1_method_6_code
def yX9_square : MethodName := ⟨RX9, "square", "(II)I"⟩
abbrev cX9_berg : ByteArray := prog_1_method_7_code
def yX9_berg : MethodName := ⟨RX9, "berg", "(IIIII)I"⟩
abbrev cX9_as : ByteArray := prog_1_method_8_code
def yX9_as : MethodName := ⟨RX9, "as", "(II)I"⟩
abbrev cX9_about : ByteArray := prog_1_method_9_code
def yX9_about : MethodName := ⟨RX9, "about", "(II)I"⟩
abbrev cX9_change : ByteArray := prog_1_method_10_code
def yX9_change : MethodName := ⟨RX9, "change", "(III)I"⟩
abbrev cX9_coin : ByteArray := prog_1_method_11_code
def yX9_coin : MethodName := ⟨RX9, "coin", "(II)I"⟩
abbrev cX9_tow : ByteArray := prog_1_method_12_code
def yX9_tow : MethodName := ⟨RX9, "tow", "(IIZI)I"⟩
abbrev cX9_ways : ByteArray := prog_1_method_13_code
def yX9_ways : MethodName := ⟨RX9, "ways", "(I)I"⟩
abbrev cX9_best : ByteArray := prog_1_method_14_code
def yX9_best : MethodName := ⟨RX9, "best", "(II)I"⟩
abbrev cX9_season : ByteArray := prog_1_method_15_code
def yX9_season : MethodName := ⟨RX9, "season", "(II)I"⟩
abbrev cX9_more : ByteArray := prog_1_method_16_code
def yX9_more : MethodName := ⟨RX9, "more", "(I)I"⟩
abbrev cX9_drawn : ByteArray := prog_1_method_17_code
def yX9_drawn : MethodName := ⟨RX9, "drawn", "(IIZII)I"⟩
abbrev cX9_came : ByteArray := prog_1_method_18_code
def yX9_came : MethodName := ⟨RX9, "came", "(IIZII)I"⟩
abbrev cX9_letOff : ByteArray := prog_1_method_19_code
def yX9_letOff : MethodName := ⟨RX9, "letOff", "(IIIII)J"⟩
abbrev cX9_line : ByteArray := prog_1_method_20_code
def yX9_line : MethodName := ⟨RX9, "line", "(III)I"⟩
abbrev cX9_claims : ByteArray := prog_1_method_21_code
def yX9_claims : MethodName := ⟨RX9, "claims", "(IIIII)I"⟩
abbrev cX9_image : ByteArray := prog_1_method_22_code
def yX9_image : MethodName := ⟨RX9, "image", "()I"⟩
abbrev cX9_restore : ByteArray := prog_1_method_23_code
def yX9_restore : MethodName := ⟨RX9, "restore", "()I"⟩
abbrev cX9_count : ByteArray := prog_1_method_24_code
def yX9_count : MethodName := ⟨RX9, "count", "(I)I"⟩
abbrev cX9_digest : ByteArray := prog_1_method_25_code
def yX9_digest : MethodName := ⟨RX9, "digest", "()J"⟩
abbrev cX9_isBerg : ByteArray := prog_1_method_26_code
def yX9_isBerg : MethodName := ⟨RX9, "isBerg", "(I)Z"⟩
abbrev cX9_hasWay : ByteArray := prog_1_method_27_code
def yX9_hasWay : MethodName := ⟨RX9, "hasWay", "(I)Z"⟩
abbrev cX9_isTugs : ByteArray := prog_1_method_28_code
def yX9_isTugs : MethodName := ⟨RX9, "isTugs", "(I)Z"⟩
abbrev cX9_isHouse : ByteArray := prog_1_method_29_code
def yX9_isHouse : MethodName := ⟨RX9, "isHouse", "(I)Z"⟩
abbrev cX9_isSize : ByteArray := prog_1_method_30_code
def yX9_isSize : MethodName := ⟨RX9, "isSize", "(I)Z"⟩
abbrev cX9_isFoot : ByteArray := prog_1_method_31_code
def yX9_isFoot : MethodName := ⟨RX9, "isFoot", "(I)Z"⟩
abbrev cX9_weigh : ByteArray := prog_1_method_32_code
def yX9_weigh : MethodName := ⟨RX9, "weigh", "(I)V"⟩
abbrev cX9_commonDivisor : ByteArray := prog_1_method_33_code
def yX9_commonDivisor : MethodName := ⟨RX9, "commonDivisor", "(JJ)J"⟩
def RX10 : String := "IceForCoastModel"
def TX10 : u_T := fun k => match k with
  | 0 => ("IceForCoastModel", "page", "[I", true)
  | 1 => ("IceForCoastModel", "pageMany", "I", false)
  | 2 => ("IceForCoastModel", "readRows", "I", false)
  | 3 => ("IceForCoastModel", "readWide", "I", false)
  | 4 => ("IceForCoastModel", "readMany", "I", false)
  | 5 => ("IceForCoastModel", "readHarbour", "I", false)
  | 6 => ("IceForCoastModel", "mayFlow", "Z", false)
  | 7 => ("IceForCoastModel", "readWarm", "[I", true)
  | 8 => ("IceForCoastModel", "readFlow", "[I", true)
  | 9 => ("IceForCoastModel", "rows", "I", false)
  | 10 => ("IceForCoastModel", "wide", "I", false)
  | 11 => ("IceForCoastModel", "harbour", "I", false)
  | 12 => ("IceForCoastModel", "seasRead", "I", false)
  | 13 => ("IceForCoastModel", "warm", "[I", true)
  | 14 => ("IceForCoastModel", "flow", "[I", true)
  | 15 => ("IceForCoastModel", "bergs", "I", false)
  | 16 => ("IceForCoastModel", "bergRows", "[I", true)
  | 17 => ("IceForCoastModel", "price", "I", false)
  | 18 => ("IceForCoastModel", "wage", "I", false)
  | 19 => ("IceForCoastModel", "cloth", "I", false)
  | 20 => ("IceForCoastModel", "lines", "I", false)
  | 21 => ("IceForCoastModel", "lineRows", "[I", true)
  | 22 => ("IceForCoastModel", "kindNow", "I", false)
  | 23 => ("IceForCoastModel", "sizeNow", "I", false)
  | 24 => ("IceForCoastModel", "footNow", "I", false)
  | 25 => ("IceForCoastModel", "everyNow", "I", false)
  | 26 => ("IceForCoastModel", "daysNow", "I", false)
  | 27 => ("IceForCoastModel", "hasSkirt", "Z", false)
  | 28 => ("IceForCoastModel", "tugsNow", "I", false)
  | 29 => ("IceForCoastModel", "seedNow", "I", false)
  | 30 => ("IceForCoastModel", "way", "[I", true)
  | 31 => ("IceForCoastModel", "places", "[I", true)
  | 32 => ("IceForCoastModel", "bestWay", "[I", true)
  | 33 => ("IceForCoastModel", "bestSteps", "I", false)
  | 34 => ("IceForCoastModel", "bestWater", "I", false)
  | 35 => ("IceForCoastModel", "bestDays", "I", false)
  | 36 => ("IceForCoastModel", "bestGain", "I", false)
  | 37 => ("IceForCoastModel", "wayMany", "I", false)
  | 38 => ("IceForCoastModel", "gains", "[I", true)
  | 39 => ("IceForCoastModel", "most", "[I", true)
  | 40 => ("IceForCoastModel", "done", "I", false)
  | 41 => ("IceForCoastModel", "waterNow", "[J", true)
  | 42 => ("IceForCoastModel", "waterNext", "[J", true)
  | 43 => ("IceForCoastModel", "kept", "I", false)
  | 44 => ("IceForCoastModel", "keptSea", "I", false)
  | 45 => ("IceForCoastModel", "keptPrice", "I", false)
  | 46 => ("IceForCoastModel", "keptWage", "I", false)
  | 47 => ("IceForCoastModel", "keptCloth", "I", false)
  | 48 => ("IceForCoastModel", "keptLines", "I", false)
  | 49 => ("IceForCoastModel", "keptBergs", "[I", true)
  | 50 => ("IceForCoastModel", "keptRows", "[I", true)
  | _ => ("IceForCoastModel", "hash", "J", false)
def tyX10 : Nat → FieldType := fun k => match k with
  | 0 => .array .int
  | 1 => .int
  | 2 => .int
  | 3 => .int
  | 4 => .int
  | 5 => .int
  | 6 => .boolean
  | 7 => .array .int
  | 8 => .array .int
  | 9 => .int
  | 10 => .int
  | 11 => .int
  | 12 => .int
  | 13 => .array .int
  | 14 => .array .int
  | 15 => .int
  | 16 => .array .int
  | 17 => .int
  | 18 => .int
  | 19 => .int
  | 20 => .int
  | 21 => .array .int
  | 22 => .int
  | 23 => .int
  | 24 => .int
  | 25 => .int
  | 26 => .int
  | 27 => .boolean
  | 28 => .int
  | 29 => .int
  | 30 => .array .int
  | 31 => .array .int
  | 32 => .array .int
  | 33 => .int
  | 34 => .int
  | 35 => .int
  | 36 => .int
  | 37 => .int
  | 38 => .array .int
  | 39 => .array .int
  | 40 => .int
  | 41 => .array .long
  | 42 => .array .long
  | 43 => .int
  | 44 => .int
  | 45 => .int
  | 46 => .int
  | 47 => .int
  | 48 => .int
  | 49 => .array .int
  | 50 => .array .int
  | _ => .long
abbrev wsX100 : List Cond := u_ws RX10 TX10 52
theorem nmX10 : ∀ a, a < 52 → ∀ b, b < 52 → a ≠ b → (TX10 a).2.1 ≠ (TX10 b).2.1 := by decide +kernel
theorem tyX10_ok : ∀ k, k < 52 → parseFieldDescriptor (TX10 k).2.2.1 = some (tyX10 k) := by decide +kernel
abbrev cX10_init : ByteArray := prog_12_method_1_code
def yX10_init : MethodName := ⟨RX10, "<init>", "()V"⟩
abbrev cX10_in : ByteArray := prog_12_method_2_code
def yX10_in : MethodName := ⟨RX10, "in", "(JJJ)Z"⟩
abbrev cX10_letters : ByteArray := prog_12_method_3_code
def yX10_letters : MethodName := ⟨RX10, "letters", "(J)I"⟩
abbrev cX10_blank : ByteArray := prog_12_method_4_code
def yX10_blank : MethodName := ⟨RX10, "blank", "()I"⟩
abbrev cX10_flowOf : ByteArray := prog_12_method_5_code
def yX10_flowOf : MethodName := ⟨RX10, "flowOf", "(I)I"⟩
abbrev cX10_go : ByteArray := prog_12_method_6_code
def yX10_go : MethodName := ⟨RX10, "go", "(I)Z"⟩
abbrev cX10_readAt : ByteArray := prog_12_method_7_code
def yX10_readAt : MethodName := ⟨RX10, "readAt", "()I"⟩
abbrev cX10_faultOf : ByteArray := prog_12_method_8_code
def yX10_faultOf : MethodName := ⟨RX10, "faultOf", "()I"⟩
abbrev cX10_fault : ByteArray := prog_12_method_9_code
def yX10_fault : MethodName := ⟨RX10, "fault", "()I"⟩
abbrev cX10_sea : ByteArray := prog_12_method_10_code
def yX10_sea : MethodName := ⟨RX10, "sea", "()I"⟩
abbrev cX10_lacks : ByteArray := prog_12_method_11_code
def yX10_lacks : MethodName := ⟨RX10, "lacks", "()Z"⟩
abbrev cX10_isSquare : ByteArray := prog_12_method_12_code
def yX10_isSquare : MethodName := ⟨RX10, "isSquare", "(I)Z"⟩
abbrev cX10_size : ByteArray := prog_12_method_13_code
def yX10_size : MethodName := ⟨RX10, "size", "(I)I"⟩
abbrev cX10_farOf : ByteArray := prog_12_method_14_code
def yX10_farOf : MethodName := ⟨RX10, "farOf", "(I)I"⟩
abbrev cX10_tellSquare : ByteArray := prog_12_method_15_code
def yX10_tellSquare : MethodName := ⟨RX10, "tellSquare", "(II)I"⟩
abbrev cX10_square : ByteArray := prog_12_method_16_code
def yX10_square : MethodName := ⟨RX10, "square", "(II)I"⟩
abbrev cX10_berg : ByteArray := prog_12_method_17_code
def yX10_berg : MethodName := ⟨RX10, "berg", "(IIIII)I"⟩
abbrev cX10_isBerg : ByteArray := prog_12_method_18_code
def yX10_isBerg : MethodName := ⟨RX10, "isBerg", "(I)Z"⟩
abbrev cX10_as : ByteArray := prog_12_method_19_code
def yX10_as : MethodName := ⟨RX10, "as", "(II)I"⟩
abbrev cX10_about : ByteArray := prog_12_method_20_code
def yX10_about : MethodName := ⟨RX10, "about", "(II)I"⟩
abbrev cX10_change : ByteArray := prog_12_method_21_code
def yX10_change : MethodName := ⟨RX10, "change", "(III)I"⟩
abbrev cX10_coin : ByteArray := prog_12_method_22_code
def yX10_coin : MethodName := ⟨RX10, "coin", "(II)I"⟩
abbrev cX10_draw : ByteArray := prog_12_method_23_code
def yX10_draw : MethodName := ⟨RX10, "draw", "(I)I"⟩
abbrev cX10_day : ByteArray := prog_12_method_24_code
def yX10_day : MethodName := ⟨RX10, "day", "(I)V"⟩
abbrev cX10_step : ByteArray := prog_12_method_25_code
def yX10_step : MethodName := ⟨RX10, "step", "(II)V"⟩
abbrev cX10_to : ByteArray := prog_12_method_26_code
def yX10_to : MethodName := ⟨RX10, "to", "(II)I"⟩
abbrev cX10_begin : ByteArray := prog_12_method_27_code
def yX10_begin : MethodName := ⟨RX10, "begin", "(IIIZ)V"⟩
abbrev cX10_towAll : ByteArray := prog_12_method_28_code
def yX10_towAll : MethodName := ⟨RX10, "towAll", "(I)V"⟩
abbrev cX10_tryWay : ByteArray := prog_12_method_29_code
def yX10_tryWay : MethodName := ⟨RX10, "tryWay", "(IIIZI)V"⟩
abbrev cX10_layWays : ByteArray := prog_12_method_30_code
def yX10_layWays : MethodName := ⟨RX10, "layWays", "(IIIZ)V"⟩
abbrev cX10_ownSize : ByteArray := prog_12_method_31_code
def yX10_ownSize : MethodName := ⟨RX10, "ownSize", "(I)I"⟩
abbrev cX10_tellTow : ByteArray := prog_12_method_32_code
def yX10_tellTow : MethodName := ⟨RX10, "tellTow", "(IIZI)I"⟩
abbrev cX10_areTugs : ByteArray := prog_12_method_33_code
def yX10_areTugs : MethodName := ⟨RX10, "areTugs", "(I)Z"⟩
abbrev cX10_tow : ByteArray := prog_12_method_34_code
def yX10_tow : MethodName := ⟨RX10, "tow", "(IIZI)I"⟩
abbrev cX10_waysOf : ByteArray := prog_12_method_35_code
def yX10_waysOf : MethodName := ⟨RX10, "waysOf", "(I)I"⟩
abbrev cX10_ways : ByteArray := prog_12_method_36_code
def yX10_ways : MethodName := ⟨RX10, "ways", "(I)I"⟩
abbrev cX10_tellBest : ByteArray := prog_12_method_37_code
def yX10_tellBest : MethodName := ⟨RX10, "tellBest", "(II)I"⟩
abbrev cX10_best : ByteArray := prog_12_method_38_code
def yX10_best : MethodName := ⟨RX10, "best", "(II)I"⟩
abbrev cX10_seasonOf : ByteArray := prog_12_method_39_code
def yX10_seasonOf : MethodName := ⟨RX10, "seasonOf", "(II)I"⟩
abbrev cX10_season : ByteArray := prog_12_method_40_code
def yX10_season : MethodName := ⟨RX10, "season", "(II)I"⟩
abbrev cX10_more : ByteArray := prog_12_method_41_code
def yX10_more : MethodName := ⟨RX10, "more", "(I)I"⟩
abbrev cX10_drawn : ByteArray := prog_12_method_42_code
def yX10_drawn : MethodName := ⟨RX10, "drawn", "(IIZII)I"⟩
abbrev cX10_came : ByteArray := prog_12_method_43_code
def yX10_came : MethodName := ⟨RX10, "came", "(IIZII)I"⟩
abbrev cX10_common : ByteArray := prog_12_method_44_code
def yX10_common : MethodName := ⟨RX10, "common", "(JJ)J"⟩
abbrev cX10_melted : ByteArray := prog_12_method_45_code
def yX10_melted : MethodName := ⟨RX10, "melted", "(II)I"⟩
abbrev cX10_letOff : ByteArray := prog_12_method_46_code
def yX10_letOff : MethodName := ⟨RX10, "letOff", "(IIIII)J"⟩
abbrev cX10_line : ByteArray := prog_12_method_47_code
def yX10_line : MethodName := ⟨RX10, "line", "(III)I"⟩
abbrev cX10_claims : ByteArray := prog_12_method_48_code
def yX10_claims : MethodName := ⟨RX10, "claims", "(IIIII)I"⟩
abbrev cX10_image : ByteArray := prog_12_method_49_code
def yX10_image : MethodName := ⟨RX10, "image", "()I"⟩
abbrev cX10_restore : ByteArray := prog_12_method_50_code
def yX10_restore : MethodName := ⟨RX10, "restore", "()I"⟩
abbrev cX10_countOf : ByteArray := prog_12_method_51_code
def yX10_countOf : MethodName := ⟨RX10, "countOf", "(I)I"⟩
abbrev cX10_count : ByteArray := prog_12_method_52_code
def yX10_count : MethodName := ⟨RX10, "count", "(I)I"⟩
abbrev cX10_say : ByteArray := prog_12_method_53_code
def yX10_say : MethodName := ⟨RX10, "say", "(J)V"⟩
abbrev cX10_sayBerg : ByteArray := prog_12_method_54_code
def yX10_sayBerg : MethodName := ⟨RX10, "sayBerg", "(I)V"⟩
abbrev cX10_digest : ByteArray := prog_12_method_55_code
def yX10_digest : MethodName := ⟨RX10, "digest", "()J"⟩
def RJ9 : String := "java/lang/Math"
def TJ9 : u_T := fun k => match k with
  | _ => ("", "", "", false)
def tyJ9 : Nat → FieldType := fun k => match k with
  | _ => .int
abbrev wsJ90 : List Cond := u_ws RJ9 TJ9 0
theorem nmJ9 : ∀ a, a < 0 → ∀ b, b < 0 → a ≠ b → (TJ9 a).2.1 ≠ (TJ9 b).2.1 := by decide +kernel
theorem tyJ9_ok : ∀ k, k < 0 → parseFieldDescriptor (TJ9 k).2.2.1 = some (tyJ9 k) := by decide +kernel
abbrev cJ9_abs_0f7a4 : ByteArray := prog_13_method_59_code
def yJ9_abs_0f7a4 : MethodName := ⟨RJ9, "abs", "(I)I"⟩
abbrev cJ9_max_7cf53 : ByteArray := prog_13_method_65_code
def yJ9_max_7cf53 : MethodName := ⟨RJ9, "max", "(II)I"⟩
abbrev cJ9_max_f86c9 : ByteArray := prog_13_method_66_code
def yJ9_max_f86c9 : MethodName := ⟨RJ9, "max", "(JJ)J"⟩
abbrev cJ9_min_7cf53 : ByteArray := prog_13_method_69_code
def yJ9_min_7cf53 : MethodName := ⟨RJ9, "min", "(II)I"⟩
def RJ10 : String := "java/lang/System"
def TJ10 : u_T := fun k => match k with
  | _ => ("", "", "", false)
def tyJ10 : Nat → FieldType := fun k => match k with
  | _ => .int
abbrev wsJ100 : List Cond := u_ws RJ10 TJ10 0
theorem nmJ10 : ∀ a, a < 0 → ∀ b, b < 0 → a ≠ b → (TJ10 a).2.1 ≠ (TJ10 b).2.1 := by decide +kernel
theorem tyJ10_ok : ∀ k, k < 0 → parseFieldDescriptor (TJ10 k).2.2.1 = some (tyJ10 k) := by decide +kernel
def RL : String := "IceForCoastLaw"
abbrev cL_law : ByteArray := code
def yL_law : MethodName := ⟨RL, "law", "([I)Z"⟩
abbrev vwCl : List vw_C := [(RX0, TX0, 6), (RX1, TX1, 1), (RX2, TX2, 6), (RX3, TX3, 4), (RX4, TX4, 4), (RX5, TX5, 4), (RX6, TX6, 7), (RX7, TX7, 8), (RX8, TX8, 17), (RX9, TX9, 12), (RX10, TX10, 52)]
def AL : List Cond := lw_tbl.filter goodWord
def isNest : Cond → Bool
  | .fieldLinkNest .. => true
  | .methodLinkNest .. => true
  | _ => false
def NW : List Cond := lw_tbl.filter isNest
theorem AL_in {w : Cond} (h : w ∈ lw_tbl) (g : goodWord w = true) : w ∈ AL := List.mem_filter.mpr ⟨h, g⟩
theorem NW_in {w : Cond} (h : w ∈ lw_tbl) (g : isNest w = true) : w ∈ NW := List.mem_filter.mpr ⟨h, g⟩
theorem AL_good {w : Cond} (h : w ∈ AL) : w ∈ AL ∧ ((w.onTables && w.keeps) = true ∨ ∃ ty, w = .arrayClass ty) := ⟨h, good_of_word (List.mem_filter.mp h).2⟩
theorem AL_of (ws : List Cond) (ps : List Nat) (hp : ws = ps.filterMap (fun i => lw_tbl[i]?)) (h : ws.all goodWord = true) : ∀ w ∈ ws, w ∈ AL := by
  intro w hw
  have h1 := List.all_eq_true.mp h w hw
  rw [hp] at hw
  obtain ⟨i, -, hi⟩ := List.mem_filterMap.mp hw
  exact AL_in (List.mem_of_getElem? hi) h1
theorem NW_of (ws : List Cond) (ps : List Nat) (hp : ws = ps.filterMap (fun i => lw_tbl[i]?)) (h : ws.all isNest = true) : ∀ w ∈ ws, w ∈ NW := by
  intro w hw
  have h1 := List.all_eq_true.mp h w hw
  rw [hp] at hw
  obtain ⟨i, -, hi⟩ := List.mem_filterMap.mp hw
  exact NW_in (List.mem_of_getElem? hi) h1
