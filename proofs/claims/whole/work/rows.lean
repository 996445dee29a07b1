section
-- ===== PART A: goes FIRST, ahead of the names: the tables' words, and 'selects' of the private methods out of them =====
/-- a private method of a class that the tables say can be made, by its rows of tables_1 -/
def lw_okq (q : MethodName × Nat) : Prop := (q.1.cls ≠ "java/lang/invoke/MethodHandle" ∧ q.1.cls ≠ "java/lang/invoke/VarHandle") ∧ Cond.instantiable q.1.cls q.2 ∈ tables_1 ∧ Cond.privateMethod q.1 ∈ tables_1 ∧ Cond.instanceMethod q.1 ∈ tables_1
theorem lw_p0 : lw_okq (⟨"IceForCoast$Page", "takes", "(I)Z"⟩, 7) := ⟨⟨by decide +kernel, by decide +kernel⟩, List.mem_of_getElem? (i := 23) (by decide +kernel), List.mem_of_getElem? (i := 373) (by decide +kernel), List.mem_of_getElem? (i := 374) (by decide +kernel)⟩
theorem lw_p1 : lw_okq (⟨"IceForCoast$Page", "takesRowEnd", "()Z"⟩, 7) := ⟨⟨by decide +kernel, by decide +kernel⟩, List.mem_of_getElem? (i := 23) (by decide +kernel), List.mem_of_getElem? (i := 377) (by decide +kernel), List.mem_of_getElem? (i := 378) (by decide +kernel)⟩
theorem lw_p2 : lw_okq (⟨"IceForCoast$Page", "takesSquare", "(I)Z"⟩, 7) := ⟨⟨by decide +kernel, by decide +kernel⟩, List.mem_of_getElem? (i := 23) (by decide +kernel), List.mem_of_getElem? (i := 384) (by decide +kernel), List.mem_of_getElem? (i := 385) (by decide +kernel)⟩
theorem lw_p3 : lw_okq (⟨"IceForCoast$Sea", "layLetter", "(I)V"⟩, 8) := ⟨⟨by decide +kernel, by decide +kernel⟩, List.mem_of_getElem? (i := 60) (by decide +kernel), List.mem_of_getElem? (i := 405) (by decide +kernel), List.mem_of_getElem? (i := 406) (by decide +kernel)⟩
theorem lw_p4 : lw_okq (⟨"IceForCoast$Sea", "measure", "()V"⟩, 8) := ⟨⟨by decide +kernel, by decide +kernel⟩, List.mem_of_getElem? (i := 60) (by decide +kernel), List.mem_of_getElem? (i := 410) (by decide +kernel), List.mem_of_getElem? (i := 411) (by decide +kernel)⟩
theorem lw_p5 : lw_okq (⟨"IceForCoast$Sea", "openWays", "(I)V"⟩, 8) := ⟨⟨by decide +kernel, by decide +kernel⟩, List.mem_of_getElem? (i := 60) (by decide +kernel), List.mem_of_getElem? (i := 417) (by decide +kernel), List.mem_of_getElem? (i := 418) (by decide +kernel)⟩
theorem lw_p6 : lw_okq (⟨"IceForCoast$Sea", "beside", "(II)I"⟩, 8) := ⟨⟨by decide +kernel, by decide +kernel⟩, List.mem_of_getElem? (i := 60) (by decide +kernel), List.mem_of_getElem? (i := 421) (by decide +kernel), List.mem_of_getElem? (i := 422) (by decide +kernel)⟩
theorem lw_p7 : lw_okq (⟨"IceForCoast", "isBerg", "(I)Z"⟩, 12) := ⟨⟨by decide +kernel, by decide +kernel⟩, List.mem_of_getElem? (i := 15) (by decide +kernel), List.mem_of_getElem? (i := 476) (by decide +kernel), List.mem_of_getElem? (i := 477) (by decide +kernel)⟩
theorem lw_p8 : lw_okq (⟨"IceForCoast", "hasWay", "(I)Z"⟩, 12) := ⟨⟨by decide +kernel, by decide +kernel⟩, List.mem_of_getElem? (i := 15) (by decide +kernel), List.mem_of_getElem? (i := 521) (by decide +kernel), List.mem_of_getElem? (i := 522) (by decide +kernel)⟩
theorem lw_p9 : lw_okq (⟨"IceForCoast$Tow", "isHopeless", "(I)Z"⟩, 17) := ⟨⟨by decide +kernel, by decide +kernel⟩, List.mem_of_getElem? (i := 54) (by decide +kernel), List.mem_of_getElem? (i := 534) (by decide +kernel), List.mem_of_getElem? (i := 535) (by decide +kernel)⟩
theorem lw_p10 : lw_okq (⟨"IceForCoast$Tow", "choose", "(I)V"⟩, 17) := ⟨⟨by decide +kernel, by decide +kernel⟩, List.mem_of_getElem? (i := 54) (by decide +kernel), List.mem_of_getElem? (i := 542) (by decide +kernel), List.mem_of_getElem? (i := 543) (by decide +kernel)⟩
theorem lw_p11 : lw_okq (⟨"IceForCoast$Tow", "pass", "(III)V"⟩, 17) := ⟨⟨by decide +kernel, by decide +kernel⟩, List.mem_of_getElem? (i := 54) (by decide +kernel), List.mem_of_getElem? (i := 549) (by decide +kernel), List.mem_of_getElem? (i := 550) (by decide +kernel)⟩
theorem lw_p12 : lw_okq (⟨"IceForCoast$Tow", "daysOfStep", "(III)I"⟩, 17) := ⟨⟨by decide +kernel, by decide +kernel⟩, List.mem_of_getElem? (i := 54) (by decide +kernel), List.mem_of_getElem? (i := 553) (by decide +kernel), List.mem_of_getElem? (i := 554) (by decide +kernel)⟩
theorem lw_p13 : lw_okq (⟨"IceForCoast$Tow", "drawnWarmth", "(I)I"⟩, 17) := ⟨⟨by decide +kernel, by decide +kernel⟩, List.mem_of_getElem? (i := 54) (by decide +kernel), List.mem_of_getElem? (i := 557) (by decide +kernel), List.mem_of_getElem? (i := 558) (by decide +kernel)⟩
theorem lw_p14 : lw_okq (⟨"IceForCoast", "weigh", "(I)V"⟩, 12) := ⟨⟨by decide +kernel, by decide +kernel⟩, List.mem_of_getElem? (i := 15) (by decide +kernel), List.mem_of_getElem? (i := 586) (by decide +kernel), List.mem_of_getElem? (i := 587) (by decide +kernel)⟩
theorem lw_p15 : lw_okq (⟨"IceForCoast$Ledger", "mostFrom", "(II)I"⟩, 4) := ⟨⟨by decide +kernel, by decide +kernel⟩, List.mem_of_getElem? (i := 260) (by decide +kernel), List.mem_of_getElem? (i := 608) (by decide +kernel), List.mem_of_getElem? (i := 609) (by decide +kernel)⟩
def lw_privs_1 : List (MethodName × Nat) := [(⟨"IceForCoast$Page", "takes", "(I)Z"⟩, 7), (⟨"IceForCoast$Page", "takesRowEnd", "()Z"⟩, 7), (⟨"IceForCoast$Page", "takesSquare", "(I)Z"⟩, 7), (⟨"IceForCoast$Sea", "layLetter", "(I)V"⟩, 8), (⟨"IceForCoast$Sea", "measure", "()V"⟩, 8), (⟨"IceForCoast$Sea", "openWays", "(I)V"⟩, 8), (⟨"IceForCoast$Sea", "beside", "(II)I"⟩, 8), (⟨"IceForCoast", "isBerg", "(I)Z"⟩, 12), (⟨"IceForCoast", "hasWay", "(I)Z"⟩, 12), (⟨"IceForCoast$Tow", "isHopeless", "(I)Z"⟩, 17), (⟨"IceForCoast$Tow", "choose", "(I)V"⟩, 17), (⟨"IceForCoast$Tow", "pass", "(III)V"⟩, 17), (⟨"IceForCoast$Tow", "daysOfStep", "(III)I"⟩, 17), (⟨"IceForCoast$Tow", "drawnWarmth", "(I)I"⟩, 17), (⟨"IceForCoast", "weigh", "(I)V"⟩, 12), (⟨"IceForCoast$Ledger", "mostFrom", "(II)I"⟩, 4)]
theorem lw_r1 : ∀ q ∈ lw_privs_1, lw_okq q := List.forall_mem_cons.mpr ⟨lw_p0, List.forall_mem_cons.mpr ⟨lw_p1, List.forall_mem_cons.mpr ⟨lw_p2, List.forall_mem_cons.mpr ⟨lw_p3, List.forall_mem_cons.mpr ⟨lw_p4, List.forall_mem_cons.mpr ⟨lw_p5, List.forall_mem_cons.mpr ⟨lw_p6, List.forall_mem_cons.mpr ⟨lw_p7, List.forall_mem_cons.mpr ⟨lw_p8, List.forall_mem_cons.mpr ⟨lw_p9, List.forall_mem_cons.mpr ⟨lw_p10, List.forall_mem_cons.mpr ⟨lw_p11, List.forall_mem_cons.mpr ⟨lw_p12, List.forall_mem_cons.mpr ⟨lw_p13, List.forall_mem_cons.mpr ⟨lw_p14, List.forall_mem_cons.mpr ⟨lw_p15, fun _ h => absurd h List.not_mem_nil⟩⟩⟩⟩⟩⟩⟩⟩⟩⟩⟩⟩⟩⟩⟩⟩
theorem lw_p16 : lw_okq (⟨"IceForCoast$Ledger", "gainBy", "(II)I"⟩, 4) := ⟨⟨by decide +kernel, by decide +kernel⟩, List.mem_of_getElem? (i := 260) (by decide +kernel), List.mem_of_getElem? (i := 612) (by decide +kernel), List.mem_of_getElem? (i := 613) (by decide +kernel)⟩
theorem lw_p17 : lw_okq (⟨"IceForCoast$Ledger", "fewestFor", "(II)I"⟩, 4) := ⟨⟨by decide +kernel, by decide +kernel⟩, List.mem_of_getElem? (i := 260) (by decide +kernel), List.mem_of_getElem? (i := 621) (by decide +kernel), List.mem_of_getElem? (i := 622) (by decide +kernel)⟩
theorem lw_p18 : lw_okq (⟨"IceForCoast$Odds", "letOffNow", "(II)J"⟩, 4) := ⟨⟨by decide +kernel, by decide +kernel⟩, List.mem_of_getElem? (i := 285) (by decide +kernel), List.mem_of_getElem? (i := 651) (by decide +kernel), List.mem_of_getElem? (i := 652) (by decide +kernel)⟩
theorem lw_p19 : lw_okq (⟨"IceForCoast$Odds", "heldNow", "(III)J"⟩, 4) := ⟨⟨by decide +kernel, by decide +kernel⟩, List.mem_of_getElem? (i := 285) (by decide +kernel), List.mem_of_getElem? (i := 657) (by decide +kernel), List.mem_of_getElem? (i := 658) (by decide +kernel)⟩
theorem lw_p20 : lw_okq (⟨"IceForCoast$Lines", "counts", "(III)Z"⟩, 4) := ⟨⟨by decide +kernel, by decide +kernel⟩, List.mem_of_getElem? (i := 209) (by decide +kernel), List.mem_of_getElem? (i := 686) (by decide +kernel), List.mem_of_getElem? (i := 687) (by decide +kernel)⟩
theorem lw_p21 : lw_okq (⟨"IceForCoastModel", "faultOf", "()I"⟩, 52) := ⟨⟨by decide +kernel, by decide +kernel⟩, List.mem_of_getElem? (i := 739) (by decide +kernel), List.mem_of_getElem? (i := 915) (by decide +kernel), List.mem_of_getElem? (i := 916) (by decide +kernel)⟩
theorem lw_p22 : lw_okq (⟨"IceForCoastModel", "go", "(I)Z"⟩, 52) := ⟨⟨by decide +kernel, by decide +kernel⟩, List.mem_of_getElem? (i := 739) (by decide +kernel), List.mem_of_getElem? (i := 919) (by decide +kernel), List.mem_of_getElem? (i := 920) (by decide +kernel)⟩
theorem lw_p23 : lw_okq (⟨"IceForCoastModel", "readAt", "()I"⟩, 52) := ⟨⟨by decide +kernel, by decide +kernel⟩, List.mem_of_getElem? (i := 739) (by decide +kernel), List.mem_of_getElem? (i := 926) (by decide +kernel), List.mem_of_getElem? (i := 927) (by decide +kernel)⟩
theorem lw_p24 : lw_okq (⟨"IceForCoastModel", "isSquare", "(I)Z"⟩, 52) := ⟨⟨by decide +kernel, by decide +kernel⟩, List.mem_of_getElem? (i := 739) (by decide +kernel), List.mem_of_getElem? (i := 943) (by decide +kernel), List.mem_of_getElem? (i := 944) (by decide +kernel)⟩
theorem lw_p25 : lw_okq (⟨"IceForCoastModel", "tellSquare", "(II)I"⟩, 52) := ⟨⟨by decide +kernel, by decide +kernel⟩, List.mem_of_getElem? (i := 739) (by decide +kernel), List.mem_of_getElem? (i := 947) (by decide +kernel), List.mem_of_getElem? (i := 948) (by decide +kernel)⟩
theorem lw_p26 : lw_okq (⟨"IceForCoastModel", "farOf", "(I)I"⟩, 52) := ⟨⟨by decide +kernel, by decide +kernel⟩, List.mem_of_getElem? (i := 739) (by decide +kernel), List.mem_of_getElem? (i := 951) (by decide +kernel), List.mem_of_getElem? (i := 952) (by decide +kernel)⟩
theorem lw_p27 : lw_okq (⟨"IceForCoastModel", "isBerg", "(I)Z"⟩, 52) := ⟨⟨by decide +kernel, by decide +kernel⟩, List.mem_of_getElem? (i := 739) (by decide +kernel), List.mem_of_getElem? (i := 972) (by decide +kernel), List.mem_of_getElem? (i := 973) (by decide +kernel)⟩
theorem lw_p28 : lw_okq (⟨"IceForCoastModel", "tellTow", "(IIZI)I"⟩, 52) := ⟨⟨by decide +kernel, by decide +kernel⟩, List.mem_of_getElem? (i := 739) (by decide +kernel), List.mem_of_getElem? (i := 999) (by decide +kernel), List.mem_of_getElem? (i := 1000) (by decide +kernel)⟩
theorem lw_p29 : lw_okq (⟨"IceForCoastModel", "ownSize", "(I)I"⟩, 52) := ⟨⟨by decide +kernel, by decide +kernel⟩, List.mem_of_getElem? (i := 739) (by decide +kernel), List.mem_of_getElem? (i := 1003) (by decide +kernel), List.mem_of_getElem? (i := 1004) (by decide +kernel)⟩
theorem lw_p30 : lw_okq (⟨"IceForCoastModel", "layWays", "(IIIZ)V"⟩, 52) := ⟨⟨by decide +kernel, by decide +kernel⟩, List.mem_of_getElem? (i := 739) (by decide +kernel), List.mem_of_getElem? (i := 1007) (by decide +kernel), List.mem_of_getElem? (i := 1008) (by decide +kernel)⟩
theorem lw_p31 : lw_okq (⟨"IceForCoastModel", "to", "(II)I"⟩, 52) := ⟨⟨by decide +kernel, by decide +kernel⟩, List.mem_of_getElem? (i := 739) (by decide +kernel), List.mem_of_getElem? (i := 1011) (by decide +kernel), List.mem_of_getElem? (i := 1012) (by decide +kernel)⟩
def lw_privs_2 : List (MethodName × Nat) := [(⟨"IceForCoast$Ledger", "gainBy", "(II)I"⟩, 4), (⟨"IceForCoast$Ledger", "fewestFor", "(II)I"⟩, 4), (⟨"IceForCoast$Odds", "letOffNow", "(II)J"⟩, 4), (⟨"IceForCoast$Odds", "heldNow", "(III)J"⟩, 4), (⟨"IceForCoast$Lines", "counts", "(III)Z"⟩, 4), (⟨"IceForCoastModel", "faultOf", "()I"⟩, 52), (⟨"IceForCoastModel", "go", "(I)Z"⟩, 52), (⟨"IceForCoastModel", "readAt", "()I"⟩, 52), (⟨"IceForCoastModel", "isSquare", "(I)Z"⟩, 52), (⟨"IceForCoastModel", "tellSquare", "(II)I"⟩, 52), (⟨"IceForCoastModel", "farOf", "(I)I"⟩, 52), (⟨"IceForCoastModel", "isBerg", "(I)Z"⟩, 52), (⟨"IceForCoastModel", "tellTow", "(IIZI)I"⟩, 52), (⟨"IceForCoastModel", "ownSize", "(I)I"⟩, 52), (⟨"IceForCoastModel", "layWays", "(IIIZ)V"⟩, 52), (⟨"IceForCoastModel", "to", "(II)I"⟩, 52)]
theorem lw_r2 : ∀ q ∈ lw_privs_2, lw_okq q := List.forall_mem_cons.mpr ⟨lw_p16, List.forall_mem_cons.mpr ⟨lw_p17, List.forall_mem_cons.mpr ⟨lw_p18, List.forall_mem_cons.mpr ⟨lw_p19, List.forall_mem_cons.mpr ⟨lw_p20, List.forall_mem_cons.mpr ⟨lw_p21, List.forall_mem_cons.mpr ⟨lw_p22, List.forall_mem_cons.mpr ⟨lw_p23, List.forall_mem_cons.mpr ⟨lw_p24, List.forall_mem_cons.mpr ⟨lw_p25, List.forall_mem_cons.mpr ⟨lw_p26, List.forall_mem_cons.mpr ⟨lw_p27, List.forall_mem_cons.mpr ⟨lw_p28, List.forall_mem_cons.mpr ⟨lw_p29, List.forall_mem_cons.mpr ⟨lw_p30, List.forall_mem_cons.mpr ⟨lw_p31, fun _ h => absurd h List.not_mem_nil⟩⟩⟩⟩⟩⟩⟩⟩⟩⟩⟩⟩⟩⟩⟩⟩
theorem lw_p32 : lw_okq (⟨"IceForCoastModel", "tryWay", "(IIIZI)V"⟩, 52) := ⟨⟨by decide +kernel, by decide +kernel⟩, List.mem_of_getElem? (i := 739) (by decide +kernel), List.mem_of_getElem? (i := 1015) (by decide +kernel), List.mem_of_getElem? (i := 1016) (by decide +kernel)⟩
theorem lw_p33 : lw_okq (⟨"IceForCoastModel", "begin", "(IIIZ)V"⟩, 52) := ⟨⟨by decide +kernel, by decide +kernel⟩, List.mem_of_getElem? (i := 739) (by decide +kernel), List.mem_of_getElem? (i := 1019) (by decide +kernel), List.mem_of_getElem? (i := 1020) (by decide +kernel)⟩
theorem lw_p34 : lw_okq (⟨"IceForCoastModel", "towAll", "(I)V"⟩, 52) := ⟨⟨by decide +kernel, by decide +kernel⟩, List.mem_of_getElem? (i := 739) (by decide +kernel), List.mem_of_getElem? (i := 1023) (by decide +kernel), List.mem_of_getElem? (i := 1024) (by decide +kernel)⟩
theorem lw_p35 : lw_okq (⟨"IceForCoastModel", "step", "(II)V"⟩, 52) := ⟨⟨by decide +kernel, by decide +kernel⟩, List.mem_of_getElem? (i := 739) (by decide +kernel), List.mem_of_getElem? (i := 1027) (by decide +kernel), List.mem_of_getElem? (i := 1028) (by decide +kernel)⟩
theorem lw_p36 : lw_okq (⟨"IceForCoastModel", "day", "(I)V"⟩, 52) := ⟨⟨by decide +kernel, by decide +kernel⟩, List.mem_of_getElem? (i := 739) (by decide +kernel), List.mem_of_getElem? (i := 1031) (by decide +kernel), List.mem_of_getElem? (i := 1032) (by decide +kernel)⟩
theorem lw_p37 : lw_okq (⟨"IceForCoastModel", "draw", "(I)I"⟩, 52) := ⟨⟨by decide +kernel, by decide +kernel⟩, List.mem_of_getElem? (i := 739) (by decide +kernel), List.mem_of_getElem? (i := 1035) (by decide +kernel), List.mem_of_getElem? (i := 1036) (by decide +kernel)⟩
theorem lw_p38 : lw_okq (⟨"IceForCoastModel", "waysOf", "(I)I"⟩, 52) := ⟨⟨by decide +kernel, by decide +kernel⟩, List.mem_of_getElem? (i := 739) (by decide +kernel), List.mem_of_getElem? (i := 1049) (by decide +kernel), List.mem_of_getElem? (i := 1050) (by decide +kernel)⟩
theorem lw_p39 : lw_okq (⟨"IceForCoastModel", "tellBest", "(II)I"⟩, 52) := ⟨⟨by decide +kernel, by decide +kernel⟩, List.mem_of_getElem? (i := 739) (by decide +kernel), List.mem_of_getElem? (i := 1057) (by decide +kernel), List.mem_of_getElem? (i := 1058) (by decide +kernel)⟩
theorem lw_p40 : lw_okq (⟨"IceForCoastModel", "lacks", "()Z"⟩, 52) := ⟨⟨by decide +kernel, by decide +kernel⟩, List.mem_of_getElem? (i := 739) (by decide +kernel), List.mem_of_getElem? (i := 1066) (by decide +kernel), List.mem_of_getElem? (i := 1067) (by decide +kernel)⟩
theorem lw_p41 : lw_okq (⟨"IceForCoastModel", "seasonOf", "(II)I"⟩, 52) := ⟨⟨by decide +kernel, by decide +kernel⟩, List.mem_of_getElem? (i := 739) (by decide +kernel), List.mem_of_getElem? (i := 1071) (by decide +kernel), List.mem_of_getElem? (i := 1072) (by decide +kernel)⟩
theorem lw_p42 : lw_okq (⟨"IceForCoastModel", "countOf", "(I)I"⟩, 52) := ⟨⟨by decide +kernel, by decide +kernel⟩, List.mem_of_getElem? (i := 739) (by decide +kernel), List.mem_of_getElem? (i := 1118) (by decide +kernel), List.mem_of_getElem? (i := 1119) (by decide +kernel)⟩
theorem lw_p43 : lw_okq (⟨"IceForCoastModel", "say", "(J)V"⟩, 52) := ⟨⟨by decide +kernel, by decide +kernel⟩, List.mem_of_getElem? (i := 739) (by decide +kernel), List.mem_of_getElem? (i := 1127) (by decide +kernel), List.mem_of_getElem? (i := 1128) (by decide +kernel)⟩
theorem lw_p44 : lw_okq (⟨"IceForCoastModel", "sayBerg", "(I)V"⟩, 52) := ⟨⟨by decide +kernel, by decide +kernel⟩, List.mem_of_getElem? (i := 739) (by decide +kernel), List.mem_of_getElem? (i := 1132) (by decide +kernel), List.mem_of_getElem? (i := 1133) (by decide +kernel)⟩
def lw_privs_3 : List (MethodName × Nat) := [(⟨"IceForCoastModel", "tryWay", "(IIIZI)V"⟩, 52), (⟨"IceForCoastModel", "begin", "(IIIZ)V"⟩, 52), (⟨"IceForCoastModel", "towAll", "(I)V"⟩, 52), (⟨"IceForCoastModel", "step", "(II)V"⟩, 52), (⟨"IceForCoastModel", "day", "(I)V"⟩, 52), (⟨"IceForCoastModel", "draw", "(I)I"⟩, 52), (⟨"IceForCoastModel", "waysOf", "(I)I"⟩, 52), (⟨"IceForCoastModel", "tellBest", "(II)I"⟩, 52), (⟨"IceForCoastModel", "lacks", "()Z"⟩, 52), (⟨"IceForCoastModel", "seasonOf", "(II)I"⟩, 52), (⟨"IceForCoastModel", "countOf", "(I)I"⟩, 52), (⟨"IceForCoastModel", "say", "(J)V"⟩, 52), (⟨"IceForCoastModel", "sayBerg", "(I)V"⟩, 52)]
theorem lw_r3 : ∀ q ∈ lw_privs_3, lw_okq q := List.forall_mem_cons.mpr ⟨lw_p32, List.forall_mem_cons.mpr ⟨lw_p33, List.forall_mem_cons.mpr ⟨lw_p34, List.forall_mem_cons.mpr ⟨lw_p35, List.forall_mem_cons.mpr ⟨lw_p36, List.forall_mem_cons.mpr ⟨lw_p37, List.forall_mem_cons.mpr ⟨lw_p38, List.forall_mem_cons.mpr ⟨lw_p39, List.forall_mem_cons.mpr ⟨lw_p40, List.forall_mem_cons.mpr ⟨lw_p41, List.forall_mem_cons.mpr ⟨lw_p42, List.forall_mem_cons.mpr ⟨lw_p43, List.forall_mem_cons.mpr ⟨lw_p44, fun _ h => absurd h List.not_mem_nil⟩⟩⟩⟩⟩⟩⟩⟩⟩⟩⟩⟩⟩
def lw_privs : List (MethodName × Nat) := lw_privs_1 ++ (lw_privs_2 ++ (lw_privs_3))
def lw_tbl : List Cond := k2_sels lw_privs ++ tables_1
theorem lw_privs_ok : ∀ q ∈ lw_privs, lw_okq q := by
  show ∀ q ∈ lw_privs_1 ++ (lw_privs_2 ++ (lw_privs_3)), lw_okq q
  exact List.forall_mem_append.mpr ⟨lw_r1, List.forall_mem_append.mpr ⟨lw_r2, lw_r3⟩⟩
/-! ===== BEGIN printed: names, fields, word lists, decode rows ===== -/
def RX0 : String := "IceForCoast$Berg"
def TX0 : u_T := fun k => match k with
  | 0 => ("IceForCoast$Berg", "kind", "I", false)
  | 1 => ("IceForCoast$Berg", "square", "I", false)
  | 2 => ("IceForCoast$Berg", "size", "I", false)
  | 3 => ("IceForCoast$Berg", "foot", "I", false)
  | 4 => ("IceForCoast$Berg", "n", "I", false)
  | _ => ("IceForCoast$Berg", "flat", "Z", false)
def tyX0 : Nat → FieldType := fun k => match k with
  | 0 => .int
  | 1 => .int
  | 2 => .int
  | 3 => .int
  | 4 => .int
  | _ => .boolean
abbrev wsX00 : List Cond := u_ws RX0 TX0 6
theorem nmX0 : ∀ a, a < 6 → ∀ b, b < 6 → a ≠ b → (TX0 a).2.1 ≠ (TX0 b).2.1 := by decide +kernel
theorem tyX0_ok : ∀ k, k < 6 → parseFieldDescriptor (TX0 k).2.2.1 = some (tyX0 k) := by decide +kernel
abbrev cX0_init : ByteArray := prog_2_method_1_code
def yX0_init : MethodName := ⟨RX0, "<init>", "()V"⟩
abbrev cX0_isKind : ByteArray := prog_2_method_2_code
def yX0_isKind : MethodName := ⟨RX0, "isKind", "(I)Z"⟩
abbrev cX0_mayBreak : ByteArray := prog_2_method_3_code
def yX0_mayBreak : MethodName := ⟨RX0, "mayBreak", "(II)Z"⟩
abbrev cX0_become : ByteArray := prog_2_method_4_code
def yX0_become : MethodName := ⟨RX0, "become", "(IIIII)V"⟩
abbrev cX0_isA : ByteArray := prog_2_method_5_code
def yX0_isA : MethodName := ⟨RX0, "isA", "(I)Z"⟩
abbrev cX0_meltOf : ByteArray := prog_2_method_6_code
def yX0_meltOf : MethodName := ⟨RX0, "meltOf", "(II)I"⟩
abbrev cX0_breaksOn : ByteArray := prog_2_method_7_code
def yX0_breaksOn : MethodName := ⟨RX0, "breaksOn", "(I)Z"⟩
def RX1 : String := "IceForCoast$Coins"
def TX1 : u_T := fun k => match k with
  | _ => ("IceForCoast$Coins", "value", "[I", true)
def tyX1 : Nat → FieldType := fun k => match k with
  | _ => .array .int
abbrev wsX10 : List Cond := u_ws RX1 TX1 1
theorem nmX1 : ∀ a, a < 1 → ∀ b, b < 1 → a ≠ b → (TX1 a).2.1 ≠ (TX1 b).2.1 := by decide +kernel
theorem tyX1_ok : ∀ k, k < 1 → parseFieldDescriptor (TX1 k).2.2.1 = some (tyX1 k) := by decide +kernel
abbrev cX1_init : ByteArray := prog_3_method_1_code
def yX1_init : MethodName := ⟨RX1, "<init>", "()V"⟩
abbrev cX1_mayBe : ByteArray := prog_3_method_2_code
def yX1_mayBe : MethodName := ⟨RX1, "mayBe", "(II)Z"⟩
abbrev cX1_put : ByteArray := prog_3_method_3_code
def yX1_put : MethodName := ⟨RX1, "put", "(II)I"⟩
abbrev cX1_copy : ByteArray := prog_3_method_4_code
def yX1_copy : MethodName := ⟨RX1, "copy", "(LIceForCoast$Coins;)V"⟩
abbrev cX1_gainOf : ByteArray := prog_3_method_5_code
def yX1_gainOf : MethodName := ⟨RX1, "gainOf", "(IIIZ)I"⟩
def RX2 : String := "IceForCoast$Image"
def TX2 : u_T := fun k => match k with
  | 0 => ("IceForCoast$Image", "sizes", "[I", true)
  | 1 => ("IceForCoast$Image", "feet", "[I", true)
  | 2 => ("IceForCoast$Image", "coins", "LIceForCoast$Coins;", true)
  | 3 => ("IceForCoast$Image", "bergCount", "I", false)
  | 4 => ("IceForCoast$Image", "lineCount", "I", false)
  | _ => ("IceForCoast$Image", "seaNumber", "I", false)
def tyX2 : Nat → FieldType := fun k => match k with
  | 0 => .array .int
  | 1 => .array .int
  | 2 => .object "IceForCoast$Coins"
  | 3 => .int
  | 4 => .int
  | _ => .int
abbrev wsX20 : List Cond := u_ws RX2 TX2 6
theorem nmX2 : ∀ a, a < 6 → ∀ b, b < 6 → a ≠ b → (TX2 a).2.1 ≠ (TX2 b).2.1 := by decide +kernel
theorem tyX2_ok : ∀ k, k < 6 → parseFieldDescriptor (TX2 k).2.2.1 = some (tyX2 k) := by decide +kernel
abbrev cX2_init : ByteArray := prog_4_method_1_code
def yX2_init : MethodName := ⟨RX2, "<init>", "()V"⟩
abbrev cX2_keep : ByteArray := prog_4_method_2_code
def yX2_keep : MethodName := ⟨RX2, "keep", "([LIceForCoast$Berg;ILIceForCoast$Coins;)V"⟩
abbrev cX2_giveBack : ByteArray := prog_4_method_3_code
def yX2_giveBack : MethodName := ⟨RX2, "giveBack", "([LIceForCoast$Berg;LIceForCoast$Coins;)V"⟩
def RX3 : String := "IceForCoast$Ledger"
def TX3 : u_T := fun k => match k with
  | 0 => ("IceForCoast$Ledger", "gains", "[[I", true)
  | 1 => ("IceForCoast$Ledger", "known", "[Z", true)
  | 2 => ("IceForCoast$Ledger", "towable", "[Z", true)
  | _ => ("IceForCoast$Ledger", "most", "[[I", true)
def tyX3 : Nat → FieldType := fun k => match k with
  | 0 => .array (.array .int)
  | 1 => .array .boolean
  | 2 => .array .boolean
  | _ => .array (.array .int)
abbrev wsX30 : List Cond := u_ws RX3 TX3 4
theorem nmX3 : ∀ a, a < 4 → ∀ b, b < 4 → a ≠ b → (TX3 a).2.1 ≠ (TX3 b).2.1 := by decide +kernel
theorem tyX3_ok : ∀ k, k < 4 → parseFieldDescriptor (TX3 k).2.2.1 = some (tyX3 k) := by decide +kernel
abbrev cX3_init : ByteArray := prog_5_method_1_code
def yX3_init : MethodName := ⟨RX3, "<init>", "()V"⟩
abbrev cX3_tugsOf : ByteArray := prog_5_method_2_code
def yX3_tugsOf : MethodName := ⟨RX3, "tugsOf", "(I)I"⟩
abbrev cX3_hasSkirt : ByteArray := prog_5_method_3_code
def yX3_hasSkirt : MethodName := ⟨RX3, "hasSkirt", "(I)Z"⟩
abbrev cX3_forget : ByteArray := prog_5_method_4_code
def yX3_forget : MethodName := ⟨RX3, "forget", "(I)V"⟩
abbrev cX3_forgetAll : ByteArray := prog_5_method_5_code
def yX3_forgetAll : MethodName := ⟨RX3, "forgetAll", "()V"⟩
abbrev cX3_bestEntry : ByteArray := prog_5_method_6_code
def yX3_bestEntry : MethodName := ⟨RX3, "bestEntry", "(I)I"⟩
abbrev cX3_deal : ByteArray := prog_5_method_7_code
def yX3_deal : MethodName := ⟨RX3, "deal", "(I)V"⟩
abbrev cX3_mostFrom : ByteArray := prog_5_method_8_code
def yX3_mostFrom : MethodName := ⟨RX3, "mostFrom", "(II)I"⟩
abbrev cX3_gainBy : ByteArray := prog_5_method_9_code
def yX3_gainBy : MethodName := ⟨RX3, "gainBy", "(II)I"⟩
abbrev cX3_tugsFor : ByteArray := prog_5_method_10_code
def yX3_tugsFor : MethodName := ⟨RX3, "tugsFor", "(II)I"⟩
abbrev cX3_fewestFor : ByteArray := prog_5_method_11_code
def yX3_fewestFor : MethodName := ⟨RX3, "fewestFor", "(II)I"⟩
def RX4 : String := "IceForCoast$Lines"
def TX4 : u_T := fun k => match k with
  | 0 => ("IceForCoast$Lines", "house", "[I", true)
  | 1 => ("IceForCoast$Lines", "berg", "[I", true)
  | 2 => ("IceForCoast$Lines", "day", "[I", true)
  | _ => ("IceForCoast$Lines", "length", "I", false)
def tyX4 : Nat → FieldType := fun k => match k with
  | 0 => .array .int
  | 1 => .array .int
  | 2 => .array .int
  | _ => .int
abbrev wsX40 : List Cond := u_ws RX4 TX4 4
theorem nmX4 : ∀ a, a < 4 → ∀ b, b < 4 → a ≠ b → (TX4 a).2.1 ≠ (TX4 b).2.1 := by decide +kernel
theorem tyX4_ok : ∀ k, k < 4 → parseFieldDescriptor (TX4 k).2.2.1 = some (tyX4 k) := by decide +kernel
abbrev cX4_init : ByteArray := prog_6_method_1_code
def yX4_init : MethodName := ⟨RX4, "<init>", "()V"⟩
abbrev cX4_add : ByteArray := prog_6_method_2_code
def yX4_add : MethodName := ⟨RX4, "add", "(III)Z"⟩
abbrev cX4_cutTo : ByteArray := prog_6_method_3_code
def yX4_cutTo : MethodName := ⟨RX4, "cutTo", "(I)V"⟩
abbrev cX4_counts : ByteArray := prog_6_method_4_code
def yX4_counts : MethodName := ⟨RX4, "counts", "(III)Z"⟩
abbrev cX4_allIfFirst : ByteArray := prog_6_method_5_code
def yX4_allIfFirst : MethodName := ⟨RX4, "allIfFirst", "(III)I"⟩
abbrev cX4_sharesOf : ByteArray := prog_6_method_6_code
def yX4_sharesOf : MethodName := ⟨RX4, "sharesOf", "(IIIZ)I"⟩
abbrev cX4_sharesOfAll : ByteArray := prog_6_method_7_code
def yX4_sharesOfAll : MethodName := ⟨RX4, "sharesOfAll", "(IIZ)I"⟩
def RX5 : String := "IceForCoast$Odds"
def TX5 : u_T := fun k => match k with
  | 0 => ("IceForCoast$Odds", "water", "[J", true)
  | 1 => ("IceForCoast$Odds", "above", "J", false)
  | 2 => ("IceForCoast$Odds", "below", "J", false)
  | _ => ("IceForCoast$Odds", "letsOff", "Z", false)
def tyX5 : Nat → FieldType := fun k => match k with
  | 0 => .array .long
  | 1 => .long
  | 2 => .long
  | _ => .boolean
abbrev wsX50 : List Cond := u_ws RX5 TX5 4
theorem nmX5 : ∀ a, a < 4 → ∀ b, b < 4 → a ≠ b → (TX5 a).2.1 ≠ (TX5 b).2.1 := by decide +kernel
theorem tyX5_ok : ∀ k, k < 4 → parseFieldDescriptor (TX5 k).2.2.1 = some (tyX5 k) := by decide +kernel
abbrev cX5_init : ByteArray := prog_7_method_1_code
def yX5_init : MethodName := ⟨RX5, "<init>", "()V"⟩
abbrev cX5_reckon : ByteArray := prog_7_method_2_code
def yX5_reckon : MethodName := ⟨RX5, "reckon", "(IIII)V"⟩
abbrev cX5_letOffNow : ByteArray := prog_7_method_3_code
def yX5_letOffNow : MethodName := ⟨RX5, "letOffNow", "(II)J"⟩
abbrev cX5_heldNow : ByteArray := prog_7_method_4_code
def yX5_heldNow : MethodName := ⟨RX5, "heldNow", "(III)J"⟩
def RX6 : String := "IceForCoast$Page"
def TX6 : u_T := fun k => match k with
  | 0 => ("IceForCoast$Page", "codes", "[I", true)
  | 1 => ("IceForCoast$Page", "length", "I", false)
  | 2 => ("IceForCoast$Page", "row", "I", false)
  | 3 => ("IceForCoast$Page", "inRow", "I", false)
  | 4 => ("IceForCoast$Page", "width", "I", false)
  | 5 => ("IceForCoast$Page", "harbours", "I", false)
  | _ => ("IceForCoast$Page", "currentMayCome", "Z", false)
def tyX6 : Nat → FieldType := fun k => match k with
  | 0 => .array .int
  | 1 => .int
  | 2 => .int
  | 3 => .int
  | 4 => .int
  | 5 => .int
  | _ => .boolean
abbrev wsX60 : List Cond := u_ws RX6 TX6 7
theorem nmX6 : ∀ a, a < 7 → ∀ b, b < 7 → a ≠ b → (TX6 a).2.1 ≠ (TX6 b).2.1 := by decide +kernel
theorem tyX6_ok : ∀ k, k < 7 → parseFieldDescriptor (TX6 k).2.2.1 = some (tyX6 k) := by decide +kernel
abbrev cX6_init : ByteArray := prog_8_method_1_code
def yX6_init : MethodName := ⟨RX6, "<init>", "()V"⟩
abbrev cX6_append : ByteArray := prog_8_method_2_code
def yX6_append : MethodName := ⟨RX6, "append", "(J)I"⟩
abbrev cX6_byteOf : ByteArray := prog_8_method_3_code
def yX6_byteOf : MethodName := ⟨RX6, "byteOf", "(JI)I"⟩
abbrev cX6_clear : ByteArray := prog_8_method_4_code
def yX6_clear : MethodName := ⟨RX6, "clear", "()I"⟩
abbrev cX6_codeAt : ByteArray := prog_8_method_5_code
def yX6_codeAt : MethodName := ⟨RX6, "codeAt", "(I)I"⟩
abbrev cX6_firstWrong : ByteArray := prog_8_method_6_code
def yX6_firstWrong : MethodName := ⟨RX6, "firstWrong", "()I"⟩
abbrev cX6_isSea : ByteArray := prog_8_method_7_code
def yX6_isSea : MethodName := ⟨RX6, "isSea", "()Z"⟩
abbrev cX6_takes : ByteArray := prog_8_method_8_code
def yX6_takes : MethodName := ⟨RX6, "takes", "(I)Z"⟩
abbrev cX6_takesRowEnd : ByteArray := prog_8_method_9_code
def yX6_takesRowEnd : MethodName := ⟨RX6, "takesRowEnd", "()Z"⟩
abbrev cX6_takesSquare : ByteArray := prog_8_method_10_code
def yX6_takesSquare : MethodName := ⟨RX6, "takesSquare", "(I)Z"⟩
def RX7 : String := "IceForCoast$Sea"
def TX7 : u_T := fun k => match k with
  | 0 => ("IceForCoast$Sea", "warmth", "[I", true)
  | 1 => ("IceForCoast$Sea", "current", "[I", true)
  | 2 => ("IceForCoast$Sea", "far", "[I", true)
  | 3 => ("IceForCoast$Sea", "waysFrom", "[I", true)
  | 4 => ("IceForCoast$Sea", "next", "[[I", true)
  | 5 => ("IceForCoast$Sea", "squares", "I", false)
  | 6 => ("IceForCoast$Sea", "width", "I", false)
  | _ => ("IceForCoast$Sea", "harbour", "I", false)
def tyX7 : Nat → FieldType := fun k => match k with
  | 0 => .array .int
  | 1 => .array .int
  | 2 => .array .int
  | 3 => .array .int
  | 4 => .array (.array .int)
  | 5 => .int
  | 6 => .int
  | _ => .int
abbrev wsX70 : List Cond := u_ws RX7 TX7 8
theorem nmX7 : ∀ a, a < 8 → ∀ b, b < 8 → a ≠ b → (TX7 a).2.1 ≠ (TX7 b).2.1 := by decide +kernel
theorem tyX7_ok : ∀ k, k < 8 → parseFieldDescriptor (TX7 k).2.2.1 = some (tyX7 k) := by decide +kernel
abbrev cX7_init : ByteArray := prog_9_method_1_code
def yX7_init : MethodName := ⟨RX7, "<init>", "()V"⟩
abbrev cX7_wayOf : ByteArray := prog_9_method_2_code
def yX7_wayOf : MethodName := ⟨RX7, "wayOf", "(I)I"⟩
abbrev cX7_has : ByteArray := prog_9_method_3_code
def yX7_has : MethodName := ⟨RX7, "has", "(I)Z"⟩
abbrev cX7_hasWarmth : ByteArray := prog_9_method_4_code
def yX7_hasWarmth : MethodName := ⟨RX7, "hasWarmth", "(I)Z"⟩
abbrev cX7_lay : ByteArray := prog_9_method_5_code
def yX7_lay : MethodName := ⟨RX7, "lay", "(LIceForCoast$Page;)V"⟩
abbrev cX7_layLetter : ByteArray := prog_9_method_6_code
def yX7_layLetter : MethodName := ⟨RX7, "layLetter", "(I)V"⟩
abbrev cX7_measure : ByteArray := prog_9_method_7_code
def yX7_measure : MethodName := ⟨RX7, "measure", "()V"⟩
abbrev cX7_openWays : ByteArray := prog_9_method_8_code
def yX7_openWays : MethodName := ⟨RX7, "openWays", "(I)V"⟩
abbrev cX7_beside : ByteArray := prog_9_method_9_code
def yX7_beside : MethodName := ⟨RX7, "beside", "(II)I"⟩
def RX8 : String := "IceForCoast$Tow"
def TX8 : u_T := fun k => match k with
  | 0 => ("IceForCoast$Tow", "sea", "LIceForCoast$Sea;", true)
  | 1 => ("IceForCoast$Tow", "coins", "LIceForCoast$Coins;", true)
  | 2 => ("IceForCoast$Tow", "sizeAt", "[I", true)
  | 3 => ("IceForCoast$Tow", "footAt", "[I", true)
  | 4 => ("IceForCoast$Tow", "dayAt", "[I", true)
  | 5 => ("IceForCoast$Tow", "trial", "[I", true)
  | 6 => ("IceForCoast$Tow", "chosen", "[I", true)
  | 7 => ("IceForCoast$Tow", "berg", "LIceForCoast$Berg;", false)
  | 8 => ("IceForCoast$Tow", "tugs", "I", false)
  | 9 => ("IceForCoast$Tow", "skirt", "Z", false)
  | 10 => ("IceForCoast$Tow", "found", "Z", false)
  | 11 => ("IceForCoast$Tow", "water", "I", false)
  | 12 => ("IceForCoast$Tow", "days", "I", false)
  | 13 => ("IceForCoast$Tow", "gain", "I", false)
  | 14 => ("IceForCoast$Tow", "steps", "I", false)
  | 15 => ("IceForCoast$Tow", "drawing", "Z", false)
  | _ => ("IceForCoast$Tow", "seed", "J", false)
def tyX8 : Nat → FieldType := fun k => match k with
  | 0 => .object "IceForCoast$Sea"
  | 1 => .object "IceForCoast$Coins"
  | 2 => .array .int
  | 3 => .array .int
  | 4 => .array .int
  | 5 => .array .int
  | 6 => .array .int
  | 7 => .object "IceForCoast$Berg"
  | 8 => .int
  | 9 => .boolean
  | 10 => .boolean
  | 11 => .int
  | 12 => .int
  | 13 => .int
  | 14 => .int
  | 15 => .boolean
  | _ => .long
abbrev wsX80 : List Cond := u_ws RX8 TX8 17
theorem nmX8 : ∀ a, a < 17 → ∀ b, b < 17 → a ≠ b → (TX8 a).2.1 ≠ (TX8 b).2.1 := by decide +kernel
theorem tyX8_ok : ∀ k, k < 17 → parseFieldDescriptor (TX8 k).2.2.1 = some (tyX8 k) := by decide +kernel
abbrev cX8_init : ByteArray := prog_10_method_1_code
def yX8_init : MethodName := ⟨RX8, "<init>", "()V"⟩
abbrev cX8_seek : ByteArray := prog_10_method_2_code
def yX8_seek : MethodName := ⟨RX8, "seek", "(LIceForCoast$Berg;IIZ)V"⟩
abbrev cX8_towAgain : ByteArray := prog_10_method_3_code
def yX8_towAgain : MethodName := ⟨RX8, "towAgain", "(I)V"⟩
abbrev cX8_stepAt : ByteArray := prog_10_method_4_code
def yX8_stepAt : MethodName := ⟨RX8, "stepAt", "(I)I"⟩
abbrev cX8_follow : ByteArray := prog_10_method_5_code
def yX8_follow : MethodName := ⟨RX8, "follow", "(LIceForCoast$Tow;II)V"⟩
abbrev cX8_isHopeless : ByteArray := prog_10_method_6_code
def yX8_isHopeless : MethodName := ⟨RX8, "isHopeless", "(I)Z"⟩
abbrev cX8_choose : ByteArray := prog_10_method_7_code
def yX8_choose : MethodName := ⟨RX8, "choose", "(I)V"⟩
abbrev cX8_pass : ByteArray := prog_10_method_8_code
def yX8_pass : MethodName := ⟨RX8, "pass", "(III)V"⟩
abbrev cX8_daysOfStep : ByteArray := prog_10_method_9_code
def yX8_daysOfStep : MethodName := ⟨RX8, "daysOfStep", "(III)I"⟩
abbrev cX8_drawnWarmth : ByteArray := prog_10_method_10_code
def yX8_drawnWarmth : MethodName := ⟨RX8, "drawnWarmth", "(I)I"⟩
def RX9 : String := "IceForCoast"
def TX9 : u_T := fun k => match k with
  | 0 => ("IceForCoast", "thePage", "LIceForCoast$Page;", true)
  | 1 => ("IceForCoast", "theTow", "LIceForCoast$Tow;", true)
  | 2 => ("IceForCoast", "theSea", "LIceForCoast$Sea;", true)
  | 3 => ("IceForCoast", "coins", "LIceForCoast$Coins;", true)
  | 4 => ("IceForCoast", "bergs", "[LIceForCoast$Berg;", true)
  | 5 => ("IceForCoast", "lines", "LIceForCoast$Lines;", true)
  | 6 => ("IceForCoast", "kept", "LIceForCoast$Image;", true)
  | 7 => ("IceForCoast", "ledger", "LIceForCoast$Ledger;", true)
  | 8 => ("IceForCoast", "theOdds", "LIceForCoast$Odds;", true)
  | 9 => ("IceForCoast", "bergCount", "I", false)
  | 10 => ("IceForCoast", "seasRead", "I", false)
  | _ => ("IceForCoast", "cameDone", "I", false)
def tyX9 : Nat → FieldType := fun k => match k with
  | 0 => .object "IceForCoast$Page"
  | 1 => .object "IceForCoast$Tow"
  | 2 => .object "IceForCoast$Sea"
  | 3 => .object "IceForCoast$Coins"
  | 4 => .array (.object "IceForCoast$Berg")
  | 5 => .object "IceForCoast$Lines"
  | 6 => .object "IceForCoast$Image"
  | 7 => .object "IceForCoast$Ledger"
  | 8 => .object "IceForCoast$Odds"
  | 9 => .int
  | 10 => .int
  | _ => .int
abbrev wsX90 : List Cond := u_ws RX9 TX9 12
theorem nmX9 : ∀ a, a < 12 → ∀ b, b < 12 → a ≠ b → (TX9 a).2.1 ≠ (TX9 b).2.1 := by decide +kernel
theorem tyX9_ok : ∀ k, k < 12 → parseFieldDescriptor (TX9 k).2.2.1 = some (tyX9 k) := by decide +kernel
abbrev cX9_init : ByteArray := prog_1_method_1_code
def yX9_init : MethodName := ⟨RX9, "<init>", "()V"⟩
abbrev cX9_letters : ByteArray := prog_1_method_2_code
def yX9_letters : MethodName := ⟨RX9, "letters", "(J)I"⟩
abbrev cX9_blank : ByteArray := prog_1_method_3_code
def yX9_blank : MethodName := ⟨RX9, "blank", "()I"⟩
abbrev cX9_fault : ByteArray := prog_1_method_4_code
def yX9_fault : MethodName := ⟨RX9, "fault", "()I"⟩
abbrev cX9_sea : ByteArray := prog_1_method_5_code
def yX9_sea : MethodName := ⟨RX9, "sea", "()I"⟩
abbrev cX9_square : ByteArray := prog_1_method_6_code
def yX9_square : MethodName := ⟨RX9, "square", "(II)I"⟩
abbrev cX9_berg : ByteArray := prog_1_method_7_code
def yX9_berg : MethodName := ⟨RX9, "berg", "(IIIII)I"⟩
abbrev cX9_as : ByteArray := prog_1_method_8_code
def yX9_as : MethodName := ⟨RX9, "as", "(II)I"⟩
abbrev cX9_about : ByteArray := prog_1_method_9_code
def yX9_about : MethodName := ⟨RX9, "about", "(II)I"⟩
abbrev cX9_change : ByteArray := prog_1_method_10_code
def yX9_change : MethodName := ⟨RX9, "change", "(III)I"⟩
abbrev cX9_coin : ByteArray := prog_1_method_11_code
def yX9_coin : MethodName := ⟨RX9, "coin", "(II)I"⟩
abbrev cX9_tow : ByteArray := prog_1_method_12_code
def yX9_tow : MethodName := ⟨RX9, "tow", "(IIZI)I"⟩
abbrev cX9_ways : ByteArray := prog_1_method_13_code
def yX9_ways : MethodName := ⟨RX9, "ways", "(I)I"⟩
abbrev cX9_best : ByteArray := prog_1_method_14_code
def yX9_best : MethodName := ⟨RX9, "best", "(II)I"⟩
abbrev cX9_season : ByteArray := prog_1_method_15_code
def yX9_season : MethodName := ⟨RX9, "season", "(II)I"⟩
abbrev cX9_more : ByteArray := prog_1_method_16_code
def yX9_more : MethodName := ⟨RX9, "more", "(I)I"⟩
abbrev cX9_drawn : ByteArray := prog_1_method_17_code
def yX9_drawn : MethodName := ⟨RX9, "drawn", "(IIZII)I"⟩
abbrev cX9_came : ByteArray := prog_1_method_18_code
def yX9_came : MethodName := ⟨RX9, "came", "(IIZII)I"⟩
abbrev cX9_letOff : ByteArray := prog_1_method_19_code
def yX9_letOff : MethodName := ⟨RX9, "letOff", "(IIIII)J"⟩
abbrev cX9_line : ByteArray := prog_1_method_20_code
def yX9_line : MethodName := ⟨RX9, "line", "(III)I"⟩
abbrev cX9_claims : ByteArray := prog_1_method_21_code
def yX9_claims : MethodName := ⟨RX9, "claims", "(IIIII)I"⟩
abbrev cX9_image : ByteArray := prog_1_method_22_code
def yX9_image : MethodName := ⟨RX9, "image", "()I"⟩
abbrev cX9_restore : ByteArray := prog_1_method_23_code
def yX9_restore : MethodName := ⟨RX9, "restore", "()I"⟩
abbrev cX9_count : ByteArray := prog_1_method_24_code
def yX9_count : MethodName := ⟨RX9, "count", "(I)I"⟩
abbrev cX9_digest : ByteArray := prog_1_method_25_code
def yX9_digest : MethodName := ⟨RX9, "digest", "()J"⟩
abbrev cX9_isBerg : ByteArray := prog_1_method_26_code
def yX9_isBerg : MethodName := ⟨RX9, "isBerg", "(I)Z"⟩
abbrev cX9_hasWay : ByteArray := prog_1_method_27_code
def yX9_hasWay : MethodName := ⟨RX9, "hasWay", "(I)Z"⟩
abbrev cX9_isTugs : ByteArray := prog_1_method_28_code
def yX9_isTugs : MethodName := ⟨RX9, "isTugs", "(I)Z"⟩
abbrev cX9_isHouse : ByteArray := prog_1_method_29_code
def yX9_isHouse : MethodName := ⟨RX9, "isHouse", "(I)Z"⟩
abbrev cX9_isSize : ByteArray := prog_1_method_30_code
def yX9_isSize : MethodName := ⟨RX9, "isSize", "(I)Z"⟩
abbrev cX9_isFoot : ByteArray := prog_1_method_31_code
def yX9_isFoot : MethodName := ⟨RX9, "isFoot", "(I)Z"⟩
abbrev cX9_weigh : ByteArray := prog_1_method_32_code
def yX9_weigh : MethodName := ⟨RX9, "weigh", "(I)V"⟩
abbrev cX9_commonDivisor : ByteArray := prog_1_method_33_code
def yX9_commonDivisor : MethodName := ⟨RX9, "commonDivisor", "(JJ)J"⟩
def RX10 : String := "IceForCoastModel"
def TX10 : u_T := fun k => match k with
  | 0 => ("IceForCoastModel", "page", "[I", true)
  | 1 => ("IceForCoastModel", "pageMany", "I", false)
  | 2 => ("IceForCoastModel", "readRows", "I", false)
  | 3 => ("IceForCoastModel", "readWide", "I", false)
  | 4 => ("IceForCoastModel", "readMany", "I", false)
  | 5 => ("IceForCoastModel", "readHarbour", "I", false)
  | 6 => ("IceForCoastModel", "mayFlow", "Z", false)
  | 7 => ("IceForCoastModel", "readWarm", "[I", true)
  | 8 => ("IceForCoastModel", "readFlow", "[I", true)
  | 9 => ("IceForCoastModel", "rows", "I", false)
  | 10 => ("IceForCoastModel", "wide", "I", false)
  | 11 => ("IceForCoastModel", "harbour", "I", false)
  | 12 => ("IceForCoastModel", "seasRead", "I", false)
  | 13 => ("IceForCoastModel", "warm", "[I", true)
  | 14 => ("IceForCoastModel", "flow", "[I", true)
  | 15 => ("IceForCoastModel", "bergs", "I", false)
  | 16 => ("IceForCoastModel", "bergRows", "[I", true)
  | 17 => ("IceForCoastModel", "price", "I", false)
  | 18 => ("IceForCoastModel", "wage", "I", false)
  | 19 => ("IceForCoastModel", "cloth", "I", false)
  | 20 => ("IceForCoastModel", "lines", "I", false)
  | 21 => ("IceForCoastModel", "lineRows", "[I", true)
  | 22 => ("IceForCoastModel", "kindNow", "I", false)
  | 23 => ("IceForCoastModel", "sizeNow", "I", false)
  | 24 => ("IceForCoastModel", "footNow", "I", false)
  | 25 => ("IceForCoastModel", "everyNow", "I", false)
  | 26 => ("IceForCoastModel", "daysNow", "I", false)
  | 27 => ("IceForCoastModel", "hasSkirt", "Z", false)
  | 28 => ("IceForCoastModel", "tugsNow", "I", false)
  | 29 => ("IceForCoastModel", "seedNow", "I", false)
  | 30 => ("IceForCoastModel", "way", "[I", true)
  | 31 => ("IceForCoastModel", "places", "[I", true)
  | 32 => ("IceForCoastModel", "bestWay", "[I", true)
  | 33 => ("IceForCoastModel", "bestSteps", "I", false)
  | 34 => ("IceForCoastModel", "bestWater", "I", false)
  | 35 => ("IceForCoastModel", "bestDays", "I", false)
  | 36 => ("IceForCoastModel", "bestGain", "I", false)
  | 37 => ("IceForCoastModel", "wayMany", "I", false)
  | 38 => ("IceForCoastModel", "gains", "[I", true)
  | 39 => ("IceForCoastModel", "most", "[I", true)
  | 40 => ("IceForCoastModel", "done", "I", false)
  | 41 => ("IceForCoastModel", "waterNow", "[J", true)
  | 42 => ("IceForCoastModel", "waterNext", "[J", true)
  | 43 => ("IceForCoastModel", "kept", "I", false)
  | 44 => ("IceForCoastModel", "keptSea", "I", false)
  | 45 => ("IceForCoastModel", "keptPrice", "I", false)
  | 46 => ("IceForCoastModel", "keptWage", "I", false)
  | 47 => ("IceForCoastModel", "keptCloth", "I", false)
  | 48 => ("IceForCoastModel", "keptLines", "I", false)
  | 49 => ("IceForCoastModel", "keptBergs", "[I", true)
  | 50 => ("IceForCoastModel", "keptRows", "[I", true)
  | _ => ("IceForCoastModel", "hash", "J", false)
def tyX10 : Nat → FieldType := fun k => match k with
  | 0 => .array .int
  | 1 => .int
  | 2 => .int
  | 3 => .int
  | 4 => .int
  | 5 => .int
  | 6 => .boolean
  | 7 => .array .int
  | 8 => .array .int
  | 9 => .int
  | 10 => .int
  | 11 => .int
  | 12 => .int
  | 13 => .array .int
  | 14 => .array .int
  | 15 => .int
  | 16 => .array .int
  | 17 => .int
  | 18 => .int
  | 19 => .int
  | 20 => .int
  | 21 => .array .int
  | 22 => .int
  | 23 => .int
  | 24 => .int
  | 25 => .int
  | 26 => .int
  | 27 => .boolean
  | 28 => .int
  | 29 => .int
  | 30 => .array .int
  | 31 => .array .int
  | 32 => .array .int
  | 33 => .int
  | 34 => .int
  | 35 => .int
  | 36 => .int
  | 37 => .int
  | 38 => .array .int
  | 39 => .array .int
  | 40 => .int
  | 41 => .array .long
  | 42 => .array .long
  | 43 => .int
  | 44 => .int
  | 45 => .int
  | 46 => .int
  | 47 => .int
  | 48 => .int
  | 49 => .array .int
  | 50 => .array .int
  | _ => .long
abbrev wsX100 : List Cond := u_ws RX10 TX10 52
theorem nmX10 : ∀ a, a < 52 → ∀ b, b < 52 → a ≠ b → (TX10 a).2.1 ≠ (TX10 b).2.1 := by decide +kernel
theorem tyX10_ok : ∀ k, k < 52 → parseFieldDescriptor (TX10 k).2.2.1 = some (tyX10 k) := by decide +kernel
abbrev cX10_init : ByteArray := prog_12_method_1_code
def yX10_init : MethodName := ⟨RX10, "<init>", "()V"⟩
abbrev cX10_in : ByteArray := prog_12_method_2_code
def yX10_in : MethodName := ⟨RX10, "in", "(JJJ)Z"⟩
abbrev cX10_letters : ByteArray := prog_12_method_3_code
def yX10_letters : MethodName := ⟨RX10, "letters", "(J)I"⟩
abbrev cX10_blank : ByteArray := prog_12_method_4_code
def yX10_blank : MethodName := ⟨RX10, "blank", "()I"⟩
abbrev cX10_flowOf : ByteArray := prog_12_method_5_code
def yX10_flowOf : MethodName := ⟨RX10, "flowOf", "(I)I"⟩
abbrev cX10_go : ByteArray := prog_12_method_6_code
def yX10_go : MethodName := ⟨RX10, "go", "(I)Z"⟩
abbrev cX10_readAt : ByteArray := prog_12_method_7_code
def yX10_readAt : MethodName := ⟨RX10, "readAt", "()I"⟩
abbrev cX10_faultOf : ByteArray := prog_12_method_8_code
def yX10_faultOf : MethodName := ⟨RX10, "faultOf", "()I"⟩
abbrev cX10_fault : ByteArray := prog_12_method_9_code
def yX10_fault : MethodName := ⟨RX10, "fault", "()I"⟩
abbrev cX10_sea : ByteArray := prog_12_method_10_code
def yX10_sea : MethodName := ⟨RX10, "sea", "()I"⟩
abbrev cX10_lacks : ByteArray := prog_12_method_11_code
def yX10_lacks : MethodName := ⟨RX10, "lacks", "()Z"⟩
abbrev cX10_isSquare : ByteArray := prog_12_method_12_code
def yX10_isSquare : MethodName := ⟨RX10, "isSquare", "(I)Z"⟩
abbrev cX10_size : ByteArray := prog_12_method_13_code
def yX10_size : MethodName := ⟨RX10, "size", "(I)I"⟩
abbrev cX10_farOf : ByteArray := prog_12_method_14_code
def yX10_farOf : MethodName := ⟨RX10, "farOf", "(I)I"⟩
abbrev cX10_tellSquare : ByteArray := prog_12_method_15_code
def yX10_tellSquare : MethodName := ⟨RX10, "tellSquare", "(II)I"⟩
abbrev cX10_square : ByteArray := prog_12_method_16_code
def yX10_square : MethodName := ⟨RX10, "square", "(II)I"⟩
abbrev cX10_berg : ByteArray := prog_12_method_17_code
def yX10_berg : MethodName := ⟨RX10, "berg", "(IIIII)I"⟩
abbrev cX10_isBerg : ByteArray := prog_12_method_18_code
def yX10_isBerg : MethodName := ⟨RX10, "isBerg", "(I)Z"⟩
abbrev cX10_as : ByteArray := prog_12_method_19_code
def yX10_as : MethodName := ⟨RX10, "as", "(II)I"⟩
abbrev cX10_about : ByteArray := prog_12_method_20_code
def yX10_about : MethodName := ⟨RX10, "about", "(II)I"⟩
abbrev cX10_change : ByteArray := prog_12_method_21_code
def yX10_change : MethodName := ⟨RX10, "change", "(III)I"⟩
abbrev cX10_coin : ByteArray := prog_12_method_22_code
def yX10_coin : MethodName := ⟨RX10, "coin", "(II)I"⟩
abbrev cX10_draw : ByteArray := prog_12_method_23_code
def yX10_draw : MethodName := ⟨RX10, "draw", "(I)I"⟩
abbrev cX10_day : ByteArray := prog_12_method_24_code
def yX10_day : MethodName := ⟨RX10, "day", "(I)V"⟩
abbrev cX10_step : ByteArray := prog_12_method_25_code
def yX10_step : MethodName := ⟨RX10, "step", "(II)V"⟩
abbrev cX10_to : ByteArray := prog_12_method_26_code
def yX10_to : MethodName := ⟨RX10, "to", "(II)I"⟩
abbrev cX10_begin : ByteArray := prog_12_method_27_code
def yX10_begin : MethodName := ⟨RX10, "begin", "(IIIZ)V"⟩
abbrev cX10_towAll : ByteArray := prog_12_method_28_code
def yX10_towAll : MethodName := ⟨RX10, "towAll", "(I)V"⟩
abbrev cX10_tryWay : ByteArray := prog_12_method_29_code
def yX10_tryWay : MethodName := ⟨RX10, "tryWay", "(IIIZI)V"⟩
abbrev cX10_layWays : ByteArray := prog_12_method_30_code
def yX10_layWays : MethodName := ⟨RX10, "layWays", "(IIIZ)V"⟩
abbrev cX10_ownSize : ByteArray := prog_12_method_31_code
def yX10_ownSize : MethodName := ⟨RX10, "ownSize", "(I)I"⟩
abbrev cX10_tellTow : ByteArray := prog_12_method_32_code
def yX10_tellTow : MethodName := ⟨RX10, "tellTow", "(IIZI)I"⟩
abbrev cX10_areTugs : ByteArray := prog_12_method_33_code
def yX10_areTugs : MethodName := ⟨RX10, "areTugs", "(I)Z"⟩
abbrev cX10_tow : ByteArray := prog_12_method_34_code
def yX10_tow : MethodName := ⟨RX10, "tow", "(IIZI)I"⟩
abbrev cX10_waysOf : ByteArray := prog_12_method_35_code
def yX10_waysOf : MethodName := ⟨RX10, "waysOf", "(I)I"⟩
abbrev cX10_ways : ByteArray := prog_12_method_36_code
def yX10_ways : MethodName := ⟨RX10, "ways", "(I)I"⟩
abbrev cX10_tellBest : ByteArray := prog_12_method_37_code
def yX10_tellBest : MethodName := ⟨RX10, "tellBest", "(II)I"⟩
abbrev cX10_best : ByteArray := prog_12_method_38_code
def yX10_best : MethodName := ⟨RX10, "best", "(II)I"⟩
abbrev cX10_seasonOf : ByteArray := prog_12_method_39_code
def yX10_seasonOf : MethodName := ⟨RX10, "seasonOf", "(II)I"⟩
abbrev cX10_season : ByteArray := prog_12_method_40_code
def yX10_season : MethodName := ⟨RX10, "season", "(II)I"⟩
abbrev cX10_more : ByteArray := prog_12_method_41_code
def yX10_more : MethodName := ⟨RX10, "more", "(I)I"⟩
abbrev cX10_drawn : ByteArray := prog_12_method_42_code
def yX10_drawn : MethodName := ⟨RX10, "drawn", "(IIZII)I"⟩
abbrev cX10_came : ByteArray := prog_12_method_43_code
def yX10_came : MethodName := ⟨RX10, "came", "(IIZII)I"⟩
abbrev cX10_common : ByteArray := prog_12_method_44_code
def yX10_common : MethodName := ⟨RX10, "common", "(JJ)J"⟩
abbrev cX10_melted : ByteArray := prog_12_method_45_code
def yX10_melted : MethodName := ⟨RX10, "melted", "(II)I"⟩
abbrev cX10_letOff : ByteArray := prog_12_method_46_code
def yX10_letOff : MethodName := ⟨RX10, "letOff", "(IIIII)J"⟩
abbrev cX10_line : ByteArray := prog_12_method_47_code
def yX10_line : MethodName := ⟨RX10, "line", "(III)I"⟩
abbrev cX10_claims : ByteArray := prog_12_method_48_code
def yX10_claims : MethodName := ⟨RX10, "claims", "(IIIII)I"⟩
abbrev cX10_image : ByteArray := prog_12_method_49_code
def yX10_image : MethodName := ⟨RX10, "image", "()I"⟩
abbrev cX10_restore : ByteArray := prog_12_method_50_code
def yX10_restore : MethodName := ⟨RX10, "restore", "()I"⟩
abbrev cX10_countOf : ByteArray := prog_12_method_51_code
def yX10_countOf : MethodName := ⟨RX10, "countOf", "(I)I"⟩
abbrev cX10_count : ByteArray := prog_12_method_52_code
def yX10_count : MethodName := ⟨RX10, "count", "(I)I"⟩
abbrev cX10_say : ByteArray := prog_12_method_53_code
def yX10_say : MethodName := ⟨RX10, "say", "(J)V"⟩
abbrev cX10_sayBerg : ByteArray := prog_12_method_54_code
def yX10_sayBerg : MethodName := ⟨RX10, "sayBerg", "(I)V"⟩
abbrev cX10_digest : ByteArray := prog_12_method_55_code
def yX10_digest : MethodName := ⟨RX10, "digest", "()J"⟩
def RJ9 : String := "java/lang/Math"
def TJ9 : u_T := fun k => match k with
  | _ => ("", "", "", false)
def tyJ9 : Nat → FieldType := fun k => match k with
  | _ => .int
abbrev wsJ90 : List Cond := u_ws RJ9 TJ9 0
theorem nmJ9 : ∀ a, a < 0 → ∀ b, b < 0 → a ≠ b → (TJ9 a).2.1 ≠ (TJ9 b).2.1 := by decide +kernel
theorem tyJ9_ok : ∀ k, k < 0 → parseFieldDescriptor (TJ9 k).2.2.1 = some (tyJ9 k) := by decide +kernel
abbrev cJ9_abs_0f7a4 : ByteArray := prog_13_method_59_code
def yJ9_abs_0f7a4 : MethodName := ⟨RJ9, "abs", "(I)I"⟩
abbrev cJ9_max_7cf53 : ByteArray := prog_13_method_65_code
def yJ9_max_7cf53 : MethodName := ⟨RJ9, "max", "(II)I"⟩
abbrev cJ9_max_f86c9 : ByteArray := prog_13_method_66_code
def yJ9_max_f86c9 : MethodName := ⟨RJ9, "max", "(JJ)J"⟩
abbrev cJ9_min_7cf53 : ByteArray := prog_13_method_69_code
def yJ9_min_7cf53 : MethodName := ⟨RJ9, "min", "(II)I"⟩
def RJ10 : String := "java/lang/System"
def TJ10 : u_T := fun k => match k with
  | _ => ("", "", "", false)
def tyJ10 : Nat → FieldType := fun k => match k with
  | _ => .int
abbrev wsJ100 : List Cond := u_ws RJ10 TJ10 0
theorem nmJ10 : ∀ a, a < 0 → ∀ b, b < 0 → a ≠ b → (TJ10 a).2.1 ≠ (TJ10 b).2.1 := by decide +kernel
theorem tyJ10_ok : ∀ k, k < 0 → parseFieldDescriptor (TJ10 k).2.2.1 = some (tyJ10 k) := by decide +kernel
def RL : String := "IceForCoastLaw"
abbrev cL_law : ByteArray := code
def yL_law : MethodName := ⟨RL, "law", "([I)Z"⟩
abbrev vwCl : List vw_C := [(RX0, TX0, 6), (RX1, TX1, 1), (RX2, TX2, 6), (RX3, TX3, 4), (RX4, TX4, 4), (RX5, TX5, 4), (RX6, TX6, 7), (RX7, TX7, 8), (RX8, TX8, 17), (RX9, TX9, 12), (RX10, TX10, 52)]
end
section
/-! ===== the layer: the state of a world as numbers ===== -/
/-- ints, longs and moving references of a world, by cell and place -/
abbrev Sg : Type := (Nat → Nat → Int32) × (Nat → Nat → Int64) × (Nat → Nat → Nat)
def rI (σ : Sg) (o k : Nat) : Int32 := σ.1 o k
def rJ (σ : Sg) (o k : Nat) : Int64 := σ.2.1 o k
def rR (σ : Sg) (o k : Nat) : Nat := σ.2.2 o k
def wI (σ : Sg) (o k : Nat) (v : Int32) : Sg := (fun a b => if a = o ∧ b = k then v else σ.1 a b, σ.2)
def wJ (σ : Sg) (o k : Nat) (v : Int64) : Sg := (σ.1, fun a b => if a = o ∧ b = k then v else σ.2.1 a b, σ.2.2)
def wR (σ : Sg) (o k : Nat) (v : Nat) : Sg := (σ.1, σ.2.1, fun a b => if a = o ∧ b = k then v else σ.2.2 a b)
/-- a stretch of one row of ints copied into another -/
def wC (σ : Sg) (a0 sp a1 dp n : Nat) : Sg := (fun a b => if a = a1 ∧ dp ≤ b ∧ b < dp + n then σ.1 a0 (sp + (b - dp)) else σ.1 a b, σ.2)
/-- a shape: (0, class, slots) an object, a slot (0,_) an int, (1,_) a long, (2,d) the cell d further on, (3,_) a moving reference; (1,n,_) ints, (2,n,_) longs, (3,n,_) booleans, (4,n,[(b,_)]) objects from cell b on, (5,n,[(b,_)]) rows from cell b on -/
abbrev Sh : Type := Nat × Nat × List (Nat × Nat)
def slotV (ad : Nat → Nat) (σ : Sg) (i k : Nat) (s : Nat × Nat) : Value := match s.1 with
  | 0 => .int (rI σ i k)
  | 1 => .long (rJ σ i k)
  | 2 => .ref (ad (i + s.2))
  | _ => .ref (ad (rR σ i k))
def slv (ad : Nat → Nat) (σ : Sg) (i : Nat) : Nat → List (Nat × Nat) → List Value
  | _, [] => []
  | k, s :: t => slotV ad σ i k s :: slv ad σ i (k + 1) t
def rowB (sh : Sh) : Nat := (sh.2.2.headD (0, 0)).1
def ent (cys : Nat → ClassId) (ad : Nat → Nat) (σ : Sg) (i : Nat) (sh : Sh) : va_E := match sh.1 with
  | 0 => .inr (sh.2.1, slv ad σ i 0 sh.2.2)
  | 1 => .inl (cys 0, sh.2.1, .inl (rI σ i))
  | 2 => .inl (cys 1, sh.2.1, .inr (.inl (rJ σ i)))
  | 3 => .inl (cys 2, sh.2.1, .inl (rI σ i))
  | 4 => .inl (cys 3, sh.2.1, .inr (.inr (.inr (.inr (fun j => some (ad (rowB sh + j)))))))
  | _ => .inl (cys 4, sh.2.1, .inr (.inr (.inr (.inr (fun j => some (ad (rowB sh + j)))))))
def wd (cys : Nat → ClassId) (ad : Nat → Nat) (σ : Sg) : Nat → List Sh → va_W
  | _, [] => []
  | i, sh :: t => (ad i, ent cys ad σ i sh) :: wd cys ad σ (i + 1) t
abbrev tysOf (cys : Nat → ClassId) : List (ClassId × FieldType) := [(cys 0, .int), (cys 1, .long), (cys 2, .boolean), (cys 3, .object RX0), (cys 4, .array .int)]
theorem slv_get {ad : Nat → Nat} {σ : Sg} {i : Nat} : ∀ (l : List (Nat × Nat)) (k0 j : Nat), (slv ad σ i k0 l)[j]? = (l[j]?).map (slotV ad σ i (k0 + j))
  | [], k0, j => by simp [slv]
  | s :: t, k0, 0 => by simp [slv]
  | s :: t, k0, j + 1 => by
    simp only [slv, List.getElem?_cons_succ]
    rw [slv_get t (k0 + 1) j, show k0 + 1 + j = k0 + (j + 1) by omega]
theorem slv_len {ad : Nat → Nat} {σ : Sg} {i : Nat} : ∀ (l : List (Nat × Nat)) (k0 : Nat), (slv ad σ i k0 l).length = l.length
  | [], _ => rfl
  | s :: t, k0 => by simp only [slv, List.length_cons]; rw [slv_len t (k0 + 1)]
theorem slv_eq {ad : Nat → Nat} {σ σ' : Sg} {i : Nat} : ∀ (l : List (Nat × Nat)) (k0 : Nat), (∀ q t, k0 ≤ q → slotV ad σ' i q t = slotV ad σ i q t) → slv ad σ' i k0 l = slv ad σ i k0 l
  | [], _, _ => rfl
  | s :: t, k0, h => by
    simp only [slv]
    rw [h k0 s (Nat.le_refl _), slv_eq t (k0 + 1) (fun q t hq => h q t (by omega))]
theorem slv_set {ad : Nat → Nat} {σ σ' : Sg} {i : Nat} {v : Value} : ∀ (l : List (Nat × Nat)) (k0 j : Nat) (s : Nat × Nat), l[j]? = some s → (∀ q t, q ≠ k0 + j → slotV ad σ' i q t = slotV ad σ i q t) → slotV ad σ' i (k0 + j) s = v → (slv ad σ i k0 l).set j v = slv ad σ' i k0 l
  | [], _, _, _, h, _, _ => by simp at h
  | s0 :: t, k0, 0, s, h, hq, hv => by
    rw [List.getElem?_cons_zero] at h
    cases h
    simp only [slv, List.set_cons_zero]
    rw [← hv, Nat.add_zero, slv_eq t (k0 + 1) (fun q u hu => hq q u (by omega))]
  | s0 :: t, k0, j + 1, s, h, hq, hv => by
    rw [List.getElem?_cons_succ] at h
    simp only [slv, List.set_cons_succ]
    rw [hq k0 s0 (by omega), slv_set t (k0 + 1) j s h (fun q u hu => hq q u (by omega)) (by rw [show k0 + 1 + j = k0 + (j + 1) by omega]; exact hv)]
theorem wd_get {cys : Nat → ClassId} {ad : Nat → Nat} {σ : Sg} : ∀ (Y : List Sh) (i0 j : Nat), (wd cys ad σ i0 Y)[j]? = (Y[j]?).map (fun sh => (ad (i0 + j), ent cys ad σ (i0 + j) sh))
  | [], i0, j => by simp [wd]
  | s :: t, i0, 0 => by simp [wd]
  | s :: t, i0, j + 1 => by
    simp only [wd, List.getElem?_cons_succ]
    rw [wd_get t (i0 + 1) j, show i0 + 1 + j = i0 + (j + 1) by omega]
theorem wd_at {cys : Nat → ClassId} {ad : Nat → Nat} {σ : Sg} {Y : List Sh} {o : Nat} {sh : Sh} (h : Y[o]? = some sh) : (wd cys ad σ 0 Y)[o]? = some (ad o, ent cys ad σ o sh) := by
  rw [wd_get, h, Nat.zero_add]
  rfl
theorem wd_eq {cys : Nat → ClassId} {ad : Nat → Nat} {σ σ' : Sg} : ∀ (Y : List Sh) (i0 : Nat), (∀ q sh, i0 ≤ q → ent cys ad σ' q sh = ent cys ad σ q sh) → wd cys ad σ' i0 Y = wd cys ad σ i0 Y
  | [], _, _ => rfl
  | s :: t, i0, h => by
    simp only [wd]
    rw [h i0 s (Nat.le_refl _), wd_eq t (i0 + 1) (fun q t hq => h q t (by omega))]
theorem wd_set {cys : Nat → ClassId} {ad : Nat → Nat} {σ σ' : Sg} {e : va_E} : ∀ (Y : List Sh) (i0 j : Nat) (sh : Sh), Y[j]? = some sh → (∀ q t, q ≠ i0 + j → ent cys ad σ' q t = ent cys ad σ q t) → ent cys ad σ' (i0 + j) sh = e → (wd cys ad σ i0 Y).set j (ad (i0 + j), e) = wd cys ad σ' i0 Y
  | [], _, _, _, h, _, _ => by simp at h
  | s0 :: t, i0, 0, s, h, hq, hv => by
    rw [List.getElem?_cons_zero] at h
    cases h
    simp only [wd, List.set_cons_zero]
    rw [← hv, Nat.add_zero, wd_eq t (i0 + 1) (fun q u hu => hq q u (by omega))]
  | s0 :: t, i0, j + 1, s, h, hq, hv => by
    rw [List.getElem?_cons_succ] at h
    simp only [wd, List.set_cons_succ]
    rw [hq i0 s0 (by omega), show i0 + (j + 1) = i0 + 1 + j by omega, wd_set t (i0 + 1) j s h (fun q u hu => hq q u (by omega)) (by rw [show i0 + 1 + j = i0 + (j + 1) by omega]; exact hv)]
theorem wd_len {cys : Nat → ClassId} {ad : Nat → Nat} {σ : Sg} : ∀ (Y : List Sh) (i0 : Nat), (wd cys ad σ i0 Y).length = Y.length
  | [], _ => rfl
  | s :: t, i0 => by simp only [wd, List.length_cons]; rw [wd_len t (i0 + 1)]
/-- the addresses apart, and of a kind -/
theorem wd_D {cys : Nat → ClassId} {ad : Nat → Nat} {σ : Sg} {Y : List Sh} {A : Nat → Prop} (hi : ∀ i j, i < Y.length → j < Y.length → ad i = ad j → i = j) (hA : ∀ i, i < Y.length → A (ad i)) : va_D A (wd cys ad σ 0 Y) := by
  have key : ∀ (k : Nat) (q : Nat × va_E), (wd cys ad σ 0 Y)[k]? = some q → k < Y.length ∧ q.1 = ad k := by
    intro k q hk
    have hl : k < (wd cys ad σ 0 Y).length := (List.getElem?_eq_some_iff.mp hk).1
    rw [wd_len] at hl
    rw [wd_at (List.getElem?_eq_getElem hl)] at hk
    cases hk
    exact ⟨hl, rfl⟩
  refine ⟨fun i j p q h1 h2 h3 => ?_, fun k q h => ?_⟩
  · obtain ⟨a1, a2⟩ := key i p h1
    obtain ⟨b1, b2⟩ := key j q h2
    exact hi i j a1 b1 (by rw [← a2, ← b2]; exact h3)
  · obtain ⟨a1, a2⟩ := key k q h
    rw [a2]
    exact hA k a1
theorem ent_wI {cys : Nat → ClassId} {ad : Nat → Nat} {σ : Sg} {o k : Nat} {v : Int32} (q : Nat) (sh : Sh) (h : q ≠ o) : ent cys ad (wI σ o k v) q sh = ent cys ad σ q sh := by
  have e1 : rI (wI σ o k v) q = rI σ q := by funext j; simp [rI, wI, h]
  have e2 : rJ (wI σ o k v) q = rJ σ q := rfl
  have e3 : ∀ k0, slv ad (wI σ o k v) q k0 sh.2.2 = slv ad σ q k0 sh.2.2 := fun k0 => slv_eq _ _ (fun j t _ => by
    unfold slotV
    split
    · rw [e1]
    · rfl
    · rfl
    · rfl)
  unfold ent
  split
  · rw [e3]
  · rw [e1]
  · rw [e2]
  · rw [e1]
  · rfl
  · rfl
theorem ent_wJ {cys : Nat → ClassId} {ad : Nat → Nat} {σ : Sg} {o k : Nat} {v : Int64} (q : Nat) (sh : Sh) (h : q ≠ o) : ent cys ad (wJ σ o k v) q sh = ent cys ad σ q sh := by
  have e1 : rI (wJ σ o k v) q = rI σ q := rfl
  have e2 : rJ (wJ σ o k v) q = rJ σ q := by funext j; simp [rJ, wJ, h]
  have e3 : ∀ k0, slv ad (wJ σ o k v) q k0 sh.2.2 = slv ad σ q k0 sh.2.2 := fun k0 => slv_eq _ _ (fun j t _ => by
    unfold slotV
    split
    · rfl
    · rw [e2]
    · rfl
    · rfl)
  unfold ent
  split
  · rw [e3]
  · rfl
  · rw [e2]
  · rfl
  · rfl
  · rfl
theorem ent_wR {cys : Nat → ClassId} {ad : Nat → Nat} {σ : Sg} {o k v : Nat} (q : Nat) (sh : Sh) (h : q ≠ o) : ent cys ad (wR σ o k v) q sh = ent cys ad σ q sh := by
  have e1 : rI (wR σ o k v) q = rI σ q := rfl
  have e2 : rJ (wR σ o k v) q = rJ σ q := rfl
  have e3 : ∀ k0, slv ad (wR σ o k v) q k0 sh.2.2 = slv ad σ q k0 sh.2.2 := fun k0 => slv_eq _ _ (fun j t _ => by
    unfold slotV
    split
    · rfl
    · rfl
    · rfl
    · have e4 : rR (wR σ o k v) q j = rR σ q j := by simp [rR, wR, h]
      rw [e4])
  unfold ent
  split
  · rw [e3]
  · rfl
  · rfl
  · rfl
  · rfl
  · rfl
theorem ent_wC {cys : Nat → ClassId} {ad : Nat → Nat} {σ : Sg} {a0 sp a1 dp n : Nat} (q : Nat) (sh : Sh) (h : q ≠ a1) : ent cys ad (wC σ a0 sp a1 dp n) q sh = ent cys ad σ q sh := by
  have e1 : rI (wC σ a0 sp a1 dp n) q = rI σ q := by funext j; simp [rI, wC, h]
  have e2 : rJ (wC σ a0 sp a1 dp n) q = rJ σ q := rfl
  have e3 : ∀ k0, slv ad (wC σ a0 sp a1 dp n) q k0 sh.2.2 = slv ad σ q k0 sh.2.2 := fun k0 => slv_eq _ _ (fun j t _ => by
    unfold slotV
    split
    · rw [e1]
    · rfl
    · rfl
    · rfl)
  unfold ent
  split
  · rw [e3]
  · rw [e1]
  · rw [e2]
  · rw [e1]
  · rfl
  · rfl

/-! ===== a method's point: context, program counter, locals, stack, what holds of the heap ===== -/
def AL : List Cond := lw_tbl.filter goodWord
def isNest : Cond → Bool
  | .fieldLinkNest .. => true
  | .methodLinkNest .. => true
  | _ => false
def NW : List Cond := lw_tbl.filter isNest
theorem AL_in {w : Cond} (h : w ∈ lw_tbl) (g : goodWord w = true) : w ∈ AL := List.mem_filter.mpr ⟨h, g⟩
theorem NW_in {w : Cond} (h : w ∈ lw_tbl) (g : isNest w = true) : w ∈ NW := List.mem_filter.mpr ⟨h, g⟩
theorem AL_good {w : Cond} (h : w ∈ AL) : w ∈ AL ∧ ((w.onTables && w.keeps) = true ∨ ∃ ty, w = .arrayClass ty) := ⟨h, good_of_word (List.mem_filter.mp h).2⟩
abbrev KT : Type := Program × Launch × Env × Room × State × MethodId × Array Value × List Frame × Method × Code × va_G × (Nat → ClassId) × (Nat → Nat) × (Nat → Prop) × (State → Prop)
abbrev kp (K : KT) : Program := K.1
abbrev kl (K : KT) : Launch := K.2.1
abbrev ke (K : KT) : Env := K.2.2.1
abbrev kR (K : KT) : Room := K.2.2.2.1
abbrev ks (K : KT) : State := K.2.2.2.2.1
abbrev km (K : KT) : MethodId := K.2.2.2.2.2.1
abbrev ka (K : KT) : Array Value := K.2.2.2.2.2.2.1
abbrev kb (K : KT) : List Frame := K.2.2.2.2.2.2.2.1
abbrev kmeth (K : KT) : Method := K.2.2.2.2.2.2.2.2.1
abbrev kc (K : KT) : Code := K.2.2.2.2.2.2.2.2.2.1
abbrev kD (K : KT) : va_G := K.2.2.2.2.2.2.2.2.2.2.1
abbrev kcy (K : KT) : Nat → ClassId := K.2.2.2.2.2.2.2.2.2.2.2.1
def kad (K : KT) : Nat → Nat := K.2.2.2.2.2.2.2.2.2.2.2.2.1
abbrev kA (K : KT) : Nat → Prop := K.2.2.2.2.2.2.2.2.2.2.2.2.2.1
abbrev kQ (K : KT) : State → Prop := K.2.2.2.2.2.2.2.2.2.2.2.2.2.2
abbrev Wk (K : KT) (H : Heap) (locs : List Loc) (g : JFrame) : Prop := W (kp K) (kl K) (ke K) (kR K) (ks K) (km K) (ka K) (kb K) (kmeth K) (kc K) H locs 0 0 (kQ K) g
def LX (ls : Array Slot) (L : List (Option Value)) : Prop := ls.size = L.length ∧ lv_wf ls ∧ ∀ (i : Nat) (v : Value), L[i]? = some (some v) → ls[i]? = some (Slot.val v)
def G (K : KT) (pc : Nat) (L : List (Option Value)) (st : List Value) (P : Heap → List Loc → Prop) : Prop :=
  ∀ (H : Heap) (locs : List Loc) (ls : Array Slot), P H locs → LX ls L → Wk K H locs (F0 (km K) pc ls st)
def Cb (K : KT) (cc : ByteArray) (own : String) (nL d : Nat) : Prop :=
  (kp K).tables.exec = Jvm.exec ∧ (kc K).code = cc ∧ (kc K).maxLocals = nL ∧ (ks K).vm.findClass own = some (km K).cls ∧ (∀ w ∈ AL, w.before (ka K) (ks K) = true) ∧ (kmeth K).locks = false ∧ d ≤ (kR K).frames ∧ 40 * d ≤ (kR K).locals
theorem Cb.fix {K : KT} {cc : ByteArray} {own : String} {nL d : Nat} (C : Cb K cc own nL d) : CallFix (kp K) (km K) (kc K) cc nL (ks K) (ka K) AL own := ⟨C.1, C.2.1, C.2.2.1, C.2.2.2.1, C.2.2.2.2.1⟩
theorem Cb.x {K : KT} {cc : ByteArray} {own : String} {nL d : Nat} (C : Cb K cc own nL d) : (kp K).tables.exec = Jvm.exec := C.1
theorem Cb.b {K : KT} {cc : ByteArray} {own : String} {nL d : Nat} (C : Cb K cc own nL d) : (kc K).code = cc := C.2.1
theorem Cb.o {K : KT} {cc : ByteArray} {own : String} {nL d : Nat} (C : Cb K cc own nL d) : (ks K).vm.findClass own = some (km K).cls := C.2.2.2.1
theorem Cb.t {K : KT} {cc : ByteArray} {own : String} {nL d : Nat} (C : Cb K cc own nL d) {w : Cond} (h : w ∈ AL) : w.before (ka K) (ks K) = true := C.2.2.2.2.1 w h
/-! the locals -/
def prs (L : List (Option Value)) : List (Nat × Value) := (List.range L.length).filterMap (fun i => (L[i]?.join).map (fun v => (i, v)))
theorem prs_iff {L : List (Option Value)} {q : Nat × Value} : q ∈ prs L ↔ L[q.1]? = some (some q.2) := by
  unfold prs
  rw [List.mem_filterMap]
  constructor
  · rintro ⟨i, -, h⟩
    obtain ⟨v, h1, h2⟩ := Option.map_eq_some_iff.mp h
    subst h2
    exact Option.join_eq_some_iff.mp h1
  · intro h
    refine ⟨q.1, List.mem_range.mpr ((List.getElem?_eq_some_iff.mp h).1), ?_⟩
    rw [h]
    rfl
theorem LX.has {ls : Array Slot} {L : List (Option Value)} (h : LX ls L) : lv_has ls L.length (prs L) := ⟨h.1, h.2.1, fun q hq => h.2.2 q.1 q.2 (prs_iff.mp hq)⟩
def c2 : Option (Option Value) → Bool
  | some (some (.long _)) => true
  | some (some (.double _)) => true
  | _ => false
/-- a store ends a long whose second half it takes -/
def clr (L : List (Option Value)) : Nat → List (Option Value)
  | 0 => L
  | j + 1 => if c2 L[j]? = true then L.set j none else L
def st1 (L : List (Option Value)) (i : Nat) (v : Value) : List (Option Value) := (clr L i).set i (some v)
def st2 (L : List (Option Value)) (i : Nat) (v : Value) : List (Option Value) := ((clr L i).set i (some v)).set (i + 1) none
theorem clr_len (L : List (Option Value)) (i : Nat) : (clr L i).length = L.length := by
  cases i with
  | zero => rfl
  | succ j => simp only [clr]; split <;> simp
theorem clr_get {L : List (Option Value)} {i j : Nat} {v : Value} (h : (clr L i)[j]? = some (some v)) : L[j]? = some (some v) ∧ ¬ (j + 1 = i ∧ v.category = 2) := by
  cases i with
  | zero => exact ⟨h, fun q => by omega⟩
  | succ q =>
    simp only [clr] at h
    split at h
    next hc =>
      rw [List.getElem?_set] at h
      split at h
      next => split at h <;> cases h
      next hne => exact ⟨h, fun z => hne (by omega)⟩
    next hc =>
      refine ⟨h, fun z => hc ?_⟩
      have hj : j = q := by omega
      subst hj
      rw [h]
      cases v <;> first | rfl | (exfalso; have := z.2; simp [Value.category] at this)
theorem LX.s1 {ls' : Array Slot} {L : List (Option Value)} {i : Nat} {v : Value} (hi : i < L.length) (h : lv_has ls' L.length ((i, v) :: (prs L).filter (fun q => !(q.1 == i) && !(q.1 + 1 == i && q.2.category == 2)))) : LX ls' (st1 L i v) := by
  refine ⟨by rw [h.1]; simp [st1, clr_len], h.2.1, fun j u hj => ?_⟩
  unfold st1 at hj
  rw [List.getElem?_set] at hj
  split at hj
  next e =>
    subst e
    rw [clr_len, if_pos hi] at hj
    cases hj
    exact h.2.2 (i, v) List.mem_cons_self
  next e =>
    obtain ⟨h1, h2⟩ := clr_get hj
    refine h.2.2 (j, u) (List.mem_cons_of_mem _ (List.mem_filter.mpr ⟨prs_iff.mpr h1, ?_⟩))
    have e' : j ≠ i := fun z => e z.symm
    by_cases z : j + 1 = i
    · have : ¬ u.category = 2 := fun y => h2 ⟨z, y⟩
      simp [e', this]
    · simp [e', z]
theorem LX.s2 {ls' : Array Slot} {L : List (Option Value)} {i : Nat} {v : Value} (hi : i + 1 < L.length) (h : lv_has ls' L.length ((i, v) :: (prs L).filter (fun q => !(q.1 == i) && (!(q.1 == i + 1) && !(q.1 + 1 == i && q.2.category == 2))))) : LX ls' (st2 L i v) := by
  refine ⟨by rw [h.1]; simp [st2, clr_len], h.2.1, fun j u hj => ?_⟩
  unfold st2 at hj
  rw [List.getElem?_set] at hj
  split at hj
  next e => split at hj <;> cases hj
  next e0 =>
    rw [List.getElem?_set] at hj
    split at hj
    next e =>
      subst e
      rw [clr_len, if_pos (by omega)] at hj
      cases hj
      exact h.2.2 (i, v) List.mem_cons_self
    next e =>
      obtain ⟨h1, h2⟩ := clr_get hj
      refine h.2.2 (j, u) (List.mem_cons_of_mem _ (List.mem_filter.mpr ⟨prs_iff.mpr h1, ?_⟩))
      have e' : j ≠ i := fun z => e z.symm
      have e0' : j ≠ i + 1 := fun z => e0 z.symm
      by_cases z : j + 1 = i
      · have : ¬ u.category = 2 := fun y => h2 ⟨z, y⟩
        simp [e', e0', this]
      · simp [e', e0', z]
/-- fewer locals are known -/
def ksel : List Bool → List (Option Value) → List (Option Value)
  | b :: bs, x :: xs => (if b = true then x else none) :: ksel bs xs
  | _, xs => xs
theorem ksel_len : ∀ (bs : List Bool) (L : List (Option Value)), (ksel bs L).length = L.length
  | [], L => by cases L <;> rfl
  | b :: bs, [] => rfl
  | b :: bs, x :: xs => by simp only [ksel, List.length_cons]; rw [ksel_len bs xs]
theorem ksel_get : ∀ (bs : List Bool) (L : List (Option Value)) (i : Nat) (v : Value), (ksel bs L)[i]? = some (some v) → L[i]? = some (some v)
  | [], L, i, v, h => by cases L <;> exact h
  | b :: bs, [], i, v, h => h
  | b :: bs, x :: xs, 0, v, h => by
    simp only [ksel, List.getElem?_cons_zero] at h ⊢
    split at h
    · exact h
    · cases h
  | b :: bs, x :: xs, i + 1, v, h => by
    simp only [ksel, List.getElem?_cons_succ] at h ⊢
    exact ksel_get bs xs i v h
theorem g_mask {K : KT} {pc : Nat} {L L' : List (Option Value)} {st : List Value} {P : Heap → List Loc → Prop} (bs : List Bool) (h : ksel bs L = L') (k : G K pc L' st P) : G K pc L st P := by
  intro H locs ls hP hL
  subst h
  exact k H locs ls hP ⟨by rw [hL.1, ksel_len], hL.2.1, fun i v hi => hL.2.2 i v (ksel_get bs L i v hi)⟩
theorem ite_t {c : Prop} {i : Decidable c} {α : Type} {a b o : α} (hc : c) (h : (@ite α c i a b) = o) : a = o := by rw [if_pos hc] at h; exact h
theorem ite_f {c : Prop} {i : Decidable c} {α : Type} {a b o : α} (hc : ¬ c) (h : (@ite α c i a b) = o) : b = o := by rw [if_neg hc] at h; exact h
/-- a place is in its row -/
def inb (i : Int32) (n : Nat) : Bool := decide (¬ i < 0) && decide (i.toNatClampNeg < n)
theorem inb_in {i : Int32} {n : Nat} (h : inb i n = true) : vp_in i n := by
  unfold inb at h
  rw [Bool.and_eq_true, decide_eq_true_eq, decide_eq_true_eq] at h
  exact fun q => q.elim h.1 (fun z => absurd h.2 (by omega))
theorem inb_lt {i : Int32} {n : Nat} (h : inb i n = true) : i.toNatClampNeg < n := by
  unfold inb at h
  rw [Bool.and_eq_true, decide_eq_true_eq, decide_eq_true_eq] at h
  exact h.2
/-- 0 or 1 -/
def isB (v : Int32) : Bool := decide (v = 0) || decide (v = 1)
theorem isB_n {v : Int32} (h : isB v = true) : narrow .boolean (.int v) = .int v := by
  unfold isB at h
  rw [Bool.or_eq_true, decide_eq_true_eq, decide_eq_true_eq] at h
  rcases h with rfl | rfl <;> rfl
theorem isB_f {v : Int32} (h : isB v = true) : fits .boolean (.int v) = true := by
  unfold isB at h
  rw [Bool.or_eq_true, decide_eq_true_eq, decide_eq_true_eq] at h
  rcases h with rfl | rfl <;> rfl
theorem chk {b : Bool} {α : Type} {x : Option α} {o : α} (h : (if b = true then x else none) = some o) : b = true ∧ x = some o := by
  by_cases c : b = true
  · rw [if_pos c] at h; exact ⟨c, h⟩
  · rw [if_neg c] at h; cases h
/-- the shape of a cell is as told -/
def isSh (Y : List Sh) (o : Nat) (sh : Sh) : Bool := decide (Y[o]? = some sh)
theorem isSh_e {Y : List Sh} {o : Nat} {sh : Sh} (h : isSh Y o sh = true) : Y[o]? = some sh := of_decide_eq_true h
/-- a loop of at most so many rounds -/
def lp {S T : Type} (f : S → Option (S ⊕ T)) : Nat → S → Option T
  | 0, _ => none
  | n + 1, s => match f s with
    | none => none
    | some (.inl s') => lp f n s'
    | some (.inr t) => some t
def FU : Nat := 1000000
theorem lp_ind {S T : Type} {f : S → Option (S ⊕ T)} {Gh : S → Prop} {KK : T → Prop} (hb : ∀ s o, f s = some o → (∀ s', o = .inl s' → Gh s') → (∀ t, o = .inr t → KK t) → Gh s) : ∀ (n : Nat) (s : S) (t : T), lp f n s = some t → KK t → Gh s
  | 0, s, t, h, _ => by cases h
  | n + 1, s, t, h, hk => by
    unfold lp at h
    cases hf : f s with
    | none => rw [hf] at h; cases h
    | some o =>
      rw [hf] at h
      cases o with
      | inl s' => exact hb s _ hf (fun s2 e => by cases e; exact lp_ind hb n s' t h hk) (fun t2 e => by cases e)
      | inr t' => exact hb s _ hf (fun s2 e => by cases e) (fun t2 e => by cases e; cases h; exact hk)

section GI
variable {K : KT} {cc : ByteArray} {own : String} {nL d pc : Nat} {L : List (Option Value)} {st : List Value} {P : Heap → List Loc → Prop}
theorem g_iconst (C : Cb K cc own nL d) {n : Int} {v : Int32} (hd : decode cc pc = .ok (.iconst n, 1)) (hv : Int32.ofInt n = v)
    (k : G K (pc + 1) L (.int v :: st) P) : G K pc L st P := fun H locs ls hP hL => lv_iconst C.x C.b hd hv (k H locs ls hP hL)
theorem g_bipush (C : Cb K cc own nL d) {n : Int} {v : Int32} (hd : decode cc pc = .ok (.bipush n, 2)) (hv : (Int8.ofInt n).toInt32 = v)
    (k : G K (pc + 2) L (.int v :: st) P) : G K pc L st P := fun H locs ls hP hL => lv_bipush C.x C.b hd hv (k H locs ls hP hL)
theorem g_sipush (C : Cb K cc own nL d) {n : Int} {v : Int32} (hd : decode cc pc = .ok (.sipush n, 3)) (hv : (Int16.ofInt n).toInt32 = v)
    (k : G K (pc + 3) L (.int v :: st) P) : G K pc L st P := fun H locs ls hP hL => lv_sipush C.x C.b hd hv (k H locs ls hP hL)
theorem g_lconst (C : Cb K cc own nL d) {n : Fin 2} {v : Int64} (hd : decode cc pc = .ok (.lconst n, 1)) (hv : Int64.ofNat (n : Nat) = v)
    (k : G K (pc + 1) L (.long v :: st) P) : G K pc L st P := fun H locs ls hP hL => lv_lconst C.x C.b hd hv (k H locs ls hP hL)
theorem g_iload_n (C : Cb K cc own nL d) {n : Fin 4} {i : Nat} {x : Int32} (hd : decode cc pc = .ok (.iload_n n, 1)) (hi : (n : Nat) = i) (hl : L[i]? = some (some (.int x)))
    (k : G K (pc + 1) L (.int x :: st) P) : G K pc L st P := fun H locs ls hP hL => lv_iload_n C.x C.b hd hi (hL.2.2 _ _ hl) (k H locs ls hP hL)
theorem g_iload (C : Cb K cc own nL d) {i : Nat} {x : Int32} (hd : decode cc pc = .ok (.iload i, 2)) (hl : L[i]? = some (some (.int x)))
    (k : G K (pc + 2) L (.int x :: st) P) : G K pc L st P := fun H locs ls hP hL => lv_iload C.x C.b hd (hL.2.2 _ _ hl) (k H locs ls hP hL)
theorem g_istore_n (C : Cb K cc own nL d) {n : Fin 4} {i : Nat} {x : Int32} {L' : List (Option Value)} (hd : decode cc pc = .ok (.istore_n n, 1)) (hi : (n : Nat) = i) (hn : i < L.length) (hL' : st1 L i (.int x) = L')
    (k : G K (pc + 1) L' st P) : G K pc L (.int x :: st) P := fun H locs ls hP hL => lv_istore_n C.x C.b hd hi hL.has hn rfl (fun ls' h' => k H locs ls' hP (hL' ▸ LX.s1 hn h'))
theorem g_istore (C : Cb K cc own nL d) {i : Nat} {x : Int32} {L' : List (Option Value)} (hd : decode cc pc = .ok (.istore i, 2)) (hn : i < L.length) (hL' : st1 L i (.int x) = L')
    (k : G K (pc + 2) L' st P) : G K pc L (.int x :: st) P := fun H locs ls hP hL => lv_istore C.x C.b hd hL.has hn rfl (fun ls' h' => k H locs ls' hP (hL' ▸ LX.s1 hn h'))
theorem g_lload_n (C : Cb K cc own nL d) {n : Fin 4} {i : Nat} {x : Int64} (hd : decode cc pc = .ok (.lload_n n, 1)) (hi : (n : Nat) = i) (hl : L[i]? = some (some (.long x)))
    (k : G K (pc + 1) L (.long x :: st) P) : G K pc L st P := fun H locs ls hP hL => lv_lload_n C.x C.b hd hi (hL.2.2 _ _ hl) (k H locs ls hP hL)
theorem g_lload (C : Cb K cc own nL d) {i : Nat} {x : Int64} (hd : decode cc pc = .ok (.lload i, 2)) (hl : L[i]? = some (some (.long x)))
    (k : G K (pc + 2) L (.long x :: st) P) : G K pc L st P := fun H locs ls hP hL => lv_lload C.x C.b hd (hL.2.2 _ _ hl) (k H locs ls hP hL)
theorem g_lstore_n (C : Cb K cc own nL d) {n : Fin 4} {i : Nat} {x : Int64} {L' : List (Option Value)} (hd : decode cc pc = .ok (.lstore_n n, 1)) (hi : (n : Nat) = i) (hn : i + 1 < L.length) (hL' : st2 L i (.long x) = L')
    (k : G K (pc + 1) L' st P) : G K pc L (.long x :: st) P := fun H locs ls hP hL => lv_lstore_n C.x C.b hd hi hL.has hn rfl (fun ls' h' => k H locs ls' hP (hL' ▸ LX.s2 hn h'))
theorem g_lstore (C : Cb K cc own nL d) {i : Nat} {x : Int64} {L' : List (Option Value)} (hd : decode cc pc = .ok (.lstore i, 2)) (hn : i + 1 < L.length) (hL' : st2 L i (.long x) = L')
    (k : G K (pc + 2) L' st P) : G K pc L (.long x :: st) P := fun H locs ls hP hL => lv_lstore C.x C.b hd hL.has hn rfl (fun ls' h' => k H locs ls' hP (hL' ▸ LX.s2 hn h'))
theorem g_aload_n (C : Cb K cc own nL d) {n : Fin 4} {i : Nat} {x : Nat} (hd : decode cc pc = .ok (.aload_n n, 1)) (hi : (n : Nat) = i) (hl : L[i]? = some (some (.ref x)))
    (k : G K (pc + 1) L (.ref x :: st) P) : G K pc L st P := fun H locs ls hP hL => lv_aload_n C.x C.b hd hi (hL.2.2 _ _ hl) (k H locs ls hP hL)
theorem g_aload (C : Cb K cc own nL d) {i : Nat} {x : Nat} (hd : decode cc pc = .ok (.aload i, 2)) (hl : L[i]? = some (some (.ref x)))
    (k : G K (pc + 2) L (.ref x :: st) P) : G K pc L st P := fun H locs ls hP hL => lv_aload C.x C.b hd (hL.2.2 _ _ hl) (k H locs ls hP hL)
theorem g_astore_n (C : Cb K cc own nL d) {n : Fin 4} {i : Nat} {x : Nat} {L' : List (Option Value)} (hd : decode cc pc = .ok (.astore_n n, 1)) (hi : (n : Nat) = i) (hn : i < L.length) (hL' : st1 L i (.ref x) = L')
    (k : G K (pc + 1) L' st P) : G K pc L (.ref x :: st) P := fun H locs ls hP hL => lv_astore_n C.x C.b hd hi hL.has hn rfl (fun ls' h' => k H locs ls' hP (hL' ▸ LX.s1 hn h'))
theorem g_astore (C : Cb K cc own nL d) {i : Nat} {x : Nat} {L' : List (Option Value)} (hd : decode cc pc = .ok (.astore i, 2)) (hn : i < L.length) (hL' : st1 L i (.ref x) = L')
    (k : G K (pc + 2) L' st P) : G K pc L (.ref x :: st) P := fun H locs ls hP hL => lv_astore C.x C.b hd hL.has hn rfl (fun ls' h' => k H locs ls' hP (hL' ▸ LX.s1 hn h'))
theorem g_iinc (C : Cb K cc own nL d) {i : Nat} {n : Int} {x y : Int32} {L' : List (Option Value)} (hd : decode cc pc = .ok (.iinc i n, 3)) (hl : L[i]? = some (some (.int x))) (hy : Int32.ofInt n = y) (hn : i < L.length) (hL' : st1 L i (.int (x + y)) = L')
    (k : G K (pc + 3) L' st P) : G K pc L st P := fun H locs ls hP hL => by
  obtain ⟨j, hj⟩ := List.getElem?_of_mem ((prs_iff (q := (i, .int x))).mpr hl)
  exact lv_iinc C.x C.b hd hL.has hj (by rw [hy]) hn rfl (fun ls' h' => k H locs ls' hP (hL' ▸ LX.s1 hn h'))
theorem g_iadd (C : Cb K cc own nL d) {x y : Int32} (hd : decode cc pc = .ok (.iadd, 1))
    (k : G K (pc + 1) L (.int (x + y) :: st) P) : G K pc L (.int y :: .int x :: st) P := fun H locs ls hP hL => lv_iadd C.x C.b hd (k H locs ls hP hL)
theorem g_isub (C : Cb K cc own nL d) {x y : Int32} (hd : decode cc pc = .ok (.isub, 1))
    (k : G K (pc + 1) L (.int (x - y) :: st) P) : G K pc L (.int y :: .int x :: st) P := fun H locs ls hP hL => lv_isub C.x C.b hd (k H locs ls hP hL)
theorem g_imul (C : Cb K cc own nL d) {x y : Int32} (hd : decode cc pc = .ok (.imul, 1))
    (k : G K (pc + 1) L (.int (x * y) :: st) P) : G K pc L (.int y :: .int x :: st) P := fun H locs ls hP hL => lv_imul C.x C.b hd (k H locs ls hP hL)
theorem g_iand (C : Cb K cc own nL d) {x y : Int32} (hd : decode cc pc = .ok (.iand, 1))
    (k : G K (pc + 1) L (.int (x &&& y) :: st) P) : G K pc L (.int y :: .int x :: st) P := fun H locs ls hP hL => lv_iand C.x C.b hd (k H locs ls hP hL)
theorem g_idiv (C : Cb K cc own nL d) {x y : Int32} (hd : decode cc pc = .ok (.idiv, 1)) (hne : ¬ y = 0)
    (k : G K (pc + 1) L (.int (x / y) :: st) P) : G K pc L (.int y :: .int x :: st) P := fun H locs ls hP hL => lv_idiv C.x C.b hd hne (k H locs ls hP hL)
theorem g_irem (C : Cb K cc own nL d) {x y : Int32} (hd : decode cc pc = .ok (.irem, 1)) (hne : ¬ y = 0)
    (k : G K (pc + 1) L (.int (x - x / y * y) :: st) P) : G K pc L (.int y :: .int x :: st) P := fun H locs ls hP hL => lv_irem C.x C.b hd hne (k H locs ls hP hL)
theorem g_ineg (C : Cb K cc own nL d) {x : Int32} (hd : decode cc pc = .ok (.ineg, 1))
    (k : G K (pc + 1) L (.int (-x) :: st) P) : G K pc L (.int x :: st) P := fun H locs ls hP hL => lv_ineg C.x C.b hd (k H locs ls hP hL)
theorem g_ladd (C : Cb K cc own nL d) {x y : Int64} (hd : decode cc pc = .ok (.ladd, 1))
    (k : G K (pc + 1) L (.long (x + y) :: st) P) : G K pc L (.long y :: .long x :: st) P := fun H locs ls hP hL => lv_ladd C.x C.b hd (k H locs ls hP hL)
theorem g_lsub (C : Cb K cc own nL d) {x y : Int64} (hd : decode cc pc = .ok (.lsub, 1))
    (k : G K (pc + 1) L (.long (x - y) :: st) P) : G K pc L (.long y :: .long x :: st) P := fun H locs ls hP hL => lv_lsub C.x C.b hd (k H locs ls hP hL)
theorem g_lmul (C : Cb K cc own nL d) {x y : Int64} (hd : decode cc pc = .ok (.lmul, 1))
    (k : G K (pc + 1) L (.long (x * y) :: st) P) : G K pc L (.long y :: .long x :: st) P := fun H locs ls hP hL => lv_lmul C.x C.b hd (k H locs ls hP hL)
theorem g_land (C : Cb K cc own nL d) {x y : Int64} (hd : decode cc pc = .ok (.land, 1))
    (k : G K (pc + 1) L (.long (x &&& y) :: st) P) : G K pc L (.long y :: .long x :: st) P := fun H locs ls hP hL => lv_land C.x C.b hd (k H locs ls hP hL)
theorem g_lor (C : Cb K cc own nL d) {x y : Int64} (hd : decode cc pc = .ok (.lor, 1))
    (k : G K (pc + 1) L (.long (x ||| y) :: st) P) : G K pc L (.long y :: .long x :: st) P := fun H locs ls hP hL => lv_lor C.x C.b hd (k H locs ls hP hL)
theorem g_ldiv (C : Cb K cc own nL d) {x y : Int64} (hd : decode cc pc = .ok (.ldiv, 1)) (hne : ¬ y = 0)
    (k : G K (pc + 1) L (.long (x / y) :: st) P) : G K pc L (.long y :: .long x :: st) P := fun H locs ls hP hL => lv_ldiv C.x C.b hd hne (k H locs ls hP hL)
theorem g_lrem (C : Cb K cc own nL d) {x y : Int64} (hd : decode cc pc = .ok (.lrem, 1)) (hne : ¬ y = 0)
    (k : G K (pc + 1) L (.long (x - x / y * y) :: st) P) : G K pc L (.long y :: .long x :: st) P := fun H locs ls hP hL => lv_lrem C.x C.b hd hne (k H locs ls hP hL)
def lushr (x : Int64) (y : Int32) : Int64 := (x.toUInt64 >>> (y.toInt64.toUInt64 &&& Int64.toUInt64 63)).toInt64
def lshl (x : Int64) (y : Int32) : Int64 := x <<< (y.toInt64 &&& 63)
theorem g_lushr (C : Cb K cc own nL d) {x : Int64} {y : Int32} (hd : decode cc pc = .ok (.lushr, 1))
    (k : G K (pc + 1) L (.long (lushr x y) :: st) P) : G K pc L (.int y :: .long x :: st) P := fun H locs ls hP hL => lv_lushr C.x C.b hd rfl (k H locs ls hP hL)
theorem g_lshl (C : Cb K cc own nL d) {x : Int64} {y : Int32} (hd : decode cc pc = .ok (.lshl, 1))
    (k : G K (pc + 1) L (.long (lshl x y) :: st) P) : G K pc L (.int y :: .long x :: st) P := fun H locs ls hP hL => lv_lshl C.x C.b hd rfl (k H locs ls hP hL)
theorem g_i2l (C : Cb K cc own nL d) {x : Int32} (hd : decode cc pc = .ok (.i2l, 1))
    (k : G K (pc + 1) L (.long x.toInt64 :: st) P) : G K pc L (.int x :: st) P := fun H locs ls hP hL => lv_i2l C.x C.b hd rfl (k H locs ls hP hL)
theorem g_l2i (C : Cb K cc own nL d) {x : Int64} (hd : decode cc pc = .ok (.l2i, 1))
    (k : G K (pc + 1) L (.int x.toInt32 :: st) P) : G K pc L (.long x :: st) P := fun H locs ls hP hL => lv_l2i C.x C.b hd rfl (k H locs ls hP hL)
theorem g_lcmp (C : Cb K cc own nL d) {x y : Int64} (hd : decode cc pc = .ok (.lcmp, 1))
    (k : G K (pc + 1) L (.int (lg_cmp x y) :: st) P) : G K pc L (.long y :: .long x :: st) P := fun H locs ls hP hL => W.lcmp C.x C.b hd (k H locs ls hP hL)
theorem g_dup (C : Cb K cc own nL d) {v : Value} (hd : decode cc pc = .ok (.dup, 1)) (hv : v.category = 1)
    (k : G K (pc + 1) L (v :: v :: st) P) : G K pc L (v :: st) P := fun H locs ls hP hL => lv_dup C.x C.b hd hv (k H locs ls hP hL)
theorem g_dup2 (C : Cb K cc own nL d) {u v : Value} (hd : decode cc pc = .ok (.dup2, 1)) (hu : u.category = 1) (hv : v.category = 1)
    (k : G K (pc + 1) L (u :: v :: u :: v :: st) P) : G K pc L (u :: v :: st) P := fun H locs ls hP hL => lv_dup2_11 C.x C.b hd hu hv (k H locs ls hP hL)
theorem g_pop (C : Cb K cc own nL d) {v : Value} (hd : decode cc pc = .ok (.pop, 1)) (hv : v.category = 1)
    (k : G K (pc + 1) L st P) : G K pc L (v :: st) P := fun H locs ls hP hL => lv_pop C.x C.b hd hv (k H locs ls hP hL)
theorem g_if_eq (C : Cb K cc own nL d) {x : Int32} {off : Int} {tgt : Nat} (hd : decode cc pc = .ok (.ifCond .eq off, 3)) (ht : (pc : Int) + off = (tgt : Int))
    (kt : x = 0 → G K tgt L st P) (kf : ¬ x = 0 → G K (pc + 3) L st P) : G K pc L (.int x :: st) P := fun H locs ls hP hL => lv_if_eq C.x C.b hd ht (fun q => kt q H locs ls hP hL) (fun q => kf q H locs ls hP hL)
theorem g_if_ne (C : Cb K cc own nL d) {x : Int32} {off : Int} {tgt : Nat} (hd : decode cc pc = .ok (.ifCond .ne off, 3)) (ht : (pc : Int) + off = (tgt : Int))
    (kt : ¬ x = 0 → G K tgt L st P) (kf : x = 0 → G K (pc + 3) L st P) : G K pc L (.int x :: st) P := fun H locs ls hP hL => lv_if_ne C.x C.b hd ht (fun q => kt q H locs ls hP hL) (fun q => kf q H locs ls hP hL)
theorem g_if_lt (C : Cb K cc own nL d) {x : Int32} {off : Int} {tgt : Nat} (hd : decode cc pc = .ok (.ifCond .lt off, 3)) (ht : (pc : Int) + off = (tgt : Int))
    (kt : x < 0 → G K tgt L st P) (kf : ¬ x < 0 → G K (pc + 3) L st P) : G K pc L (.int x :: st) P := fun H locs ls hP hL => lv_if_lt C.x C.b hd ht (fun q => kt q H locs ls hP hL) (fun q => kf q H locs ls hP hL)
theorem g_if_ge (C : Cb K cc own nL d) {x : Int32} {off : Int} {tgt : Nat} (hd : decode cc pc = .ok (.ifCond .ge off, 3)) (ht : (pc : Int) + off = (tgt : Int))
    (kt : 0 ≤ x → G K tgt L st P) (kf : ¬ 0 ≤ x → G K (pc + 3) L st P) : G K pc L (.int x :: st) P := fun H locs ls hP hL => lv_if_ge C.x C.b hd ht (fun q => kt q H locs ls hP hL) (fun q => kf q H locs ls hP hL)
theorem g_if_gt (C : Cb K cc own nL d) {x : Int32} {off : Int} {tgt : Nat} (hd : decode cc pc = .ok (.ifCond .gt off, 3)) (ht : (pc : Int) + off = (tgt : Int))
    (kt : 0 < x → G K tgt L st P) (kf : ¬ 0 < x → G K (pc + 3) L st P) : G K pc L (.int x :: st) P := fun H locs ls hP hL => lv_if_gt C.x C.b hd ht (fun q => kt q H locs ls hP hL) (fun q => kf q H locs ls hP hL)
theorem g_if_le (C : Cb K cc own nL d) {x : Int32} {off : Int} {tgt : Nat} (hd : decode cc pc = .ok (.ifCond .le off, 3)) (ht : (pc : Int) + off = (tgt : Int))
    (kt : x ≤ 0 → G K tgt L st P) (kf : ¬ x ≤ 0 → G K (pc + 3) L st P) : G K pc L (.int x :: st) P := fun H locs ls hP hL => lv_if_le C.x C.b hd ht (fun q => kt q H locs ls hP hL) (fun q => kf q H locs ls hP hL)
theorem g_icmp_eq (C : Cb K cc own nL d) {x y : Int32} {off : Int} {tgt : Nat} (hd : decode cc pc = .ok (.if_icmp .eq off, 3)) (ht : (pc : Int) + off = (tgt : Int))
    (kt : x = y → G K tgt L st P) (kf : ¬ x = y → G K (pc + 3) L st P) : G K pc L (.int y :: .int x :: st) P := fun H locs ls hP hL => lv_icmp_eq C.x C.b hd ht (fun q => kt q H locs ls hP hL) (fun q => kf q H locs ls hP hL)
theorem g_icmp_ne (C : Cb K cc own nL d) {x y : Int32} {off : Int} {tgt : Nat} (hd : decode cc pc = .ok (.if_icmp .ne off, 3)) (ht : (pc : Int) + off = (tgt : Int))
    (kt : ¬ x = y → G K tgt L st P) (kf : x = y → G K (pc + 3) L st P) : G K pc L (.int y :: .int x :: st) P := fun H locs ls hP hL => lv_icmp_ne C.x C.b hd ht (fun q => kt q H locs ls hP hL) (fun q => kf q H locs ls hP hL)
theorem g_icmp_lt (C : Cb K cc own nL d) {x y : Int32} {off : Int} {tgt : Nat} (hd : decode cc pc = .ok (.if_icmp .lt off, 3)) (ht : (pc : Int) + off = (tgt : Int))
    (kt : x < y → G K tgt L st P) (kf : ¬ x < y → G K (pc + 3) L st P) : G K pc L (.int y :: .int x :: st) P := fun H locs ls hP hL => lv_icmp_lt C.x C.b hd ht (fun q => kt q H locs ls hP hL) (fun q => kf q H locs ls hP hL)
theorem g_icmp_ge (C : Cb K cc own nL d) {x y : Int32} {off : Int} {tgt : Nat} (hd : decode cc pc = .ok (.if_icmp .ge off, 3)) (ht : (pc : Int) + off = (tgt : Int))
    (kt : y ≤ x → G K tgt L st P) (kf : ¬ y ≤ x → G K (pc + 3) L st P) : G K pc L (.int y :: .int x :: st) P := fun H locs ls hP hL => lv_icmp_ge C.x C.b hd ht (fun q => kt q H locs ls hP hL) (fun q => kf q H locs ls hP hL)
theorem g_icmp_gt (C : Cb K cc own nL d) {x y : Int32} {off : Int} {tgt : Nat} (hd : decode cc pc = .ok (.if_icmp .gt off, 3)) (ht : (pc : Int) + off = (tgt : Int))
    (kt : y < x → G K tgt L st P) (kf : ¬ y < x → G K (pc + 3) L st P) : G K pc L (.int y :: .int x :: st) P := fun H locs ls hP hL => lv_icmp_gt C.x C.b hd ht (fun q => kt q H locs ls hP hL) (fun q => kf q H locs ls hP hL)
theorem g_icmp_le (C : Cb K cc own nL d) {x y : Int32} {off : Int} {tgt : Nat} (hd : decode cc pc = .ok (.if_icmp .le off, 3)) (ht : (pc : Int) + off = (tgt : Int))
    (kt : x ≤ y → G K tgt L st P) (kf : ¬ x ≤ y → G K (pc + 3) L st P) : G K pc L (.int y :: .int x :: st) P := fun H locs ls hP hL => lv_icmp_le C.x C.b hd ht (fun q => kt q H locs ls hP hL) (fun q => kf q H locs ls hP hL)
theorem g_goto (C : Cb K cc own nL d) {off : Int} {tgt : Nat} (hd : decode cc pc = .ok (.goto off, 3)) (ht : (pc : Int) + off = (tgt : Int)) (k : G K tgt L st P) : G K pc L st P := fun H locs ls hP hL => lv_goto C.x C.b hd ht (k H locs ls hP hL)
theorem g_tableIn (C : Cb K cc own nL d) {dflt lo hi : Int} {offs : Array Int} {len : Nat} {x : Int32} {off : Int} {tgt : Nat} (hd : decode cc pc = .ok (.tableswitch dflt lo hi offs, len)) (h1 : ¬ x.toInt < lo) (h2 : ¬ hi < x.toInt) (ho : offs[(x.toInt - lo).toNat]? = some off) (ht : (pc : Int) + off = (tgt : Int))
    (k : G K tgt L st P) : G K pc L (.int x :: st) P := fun H locs ls hP hL => lv_tableIn C.x C.b hd h1 h2 ho ht (k H locs ls hP hL)
theorem g_tableOut (C : Cb K cc own nL d) {dflt lo hi : Int} {offs : Array Int} {len : Nat} {x : Int32} {tgt : Nat} (hd : decode cc pc = .ok (.tableswitch dflt lo hi offs, len)) (h : x.toInt < lo ∨ hi < x.toInt) (ht : (pc : Int) + dflt = (tgt : Int))
    (k : G K tgt L st P) : G K pc L (.int x :: st) P := fun H locs ls hP hL => lv_tableOut C.x C.b hd h ht (k H locs ls hP hL)
theorem g_lookup (C : Cb K cc own nL d) {dflt : Int} {ps : Array (Int × Int)} {len : Nat} {x : Int32} {off : Int} {tgt : Nat} (hd : decode cc pc = .ok (.lookupswitch dflt ps, len)) (hp : (ps.toList.zip (ps.toList.drop 1)).all (fun (a, next) => a.1 < next.1) = true) (ho : Op.lookupswitch.offset ps.toList dflt x.toInt = off) (ht : (pc : Int) + off = (tgt : Int))
    (k : G K tgt L st P) : G K pc L (.int x :: st) P := fun H locs ls hP hL => lv_lookup C.x C.b hd hp ho ht (k H locs ls hP hL)
theorem g_ldc (C : Cb K cc own nL d) {index : Nat} {v : Int32} (hw : Cond.constant own index v ∈ AL) (hd : decode cc pc = .ok (.ldc index, 2)) (k : G K (pc + 2) L (.int v :: st) P) : G K pc L st P := fun H locs ls hP hL => lv_ldc C.x C.b C.o (C.t hw) hd (k H locs ls hP hL)
theorem g_ldcw (C : Cb K cc own nL d) {index : Nat} {v : Int32} (hw : Cond.constant own index v ∈ AL) (hd : decode cc pc = .ok (.ldc_w index, 3)) (k : G K (pc + 3) L (.int v :: st) P) : G K pc L st P := fun H locs ls hP hL => lv_ldcw C.x C.b C.o (C.t hw) hd (k H locs ls hP hL)
theorem g_ldc2 (C : Cb K cc own nL d) {index : Nat} {v : Int64} (hw : Cond.constantLong own index v ∈ AL) (hd : decode cc pc = .ok (.ldc2_w index, 3)) (k : G K (pc + 3) L (.long v :: st) P) : G K pc L st P := fun H locs ls hP hL => lv_ldc2 C.x C.b C.o (C.t hw) hd (k H locs ls hP hL)
end GI
end
section
/-! ===== reads, writes, calls, returns over a world of shapes ===== -/
def Aof (ad : Nat → Nat) (N sz : Nat) : Nat → Prop := fun q => (∃ i, i < N ∧ q = ad i) ∨ sz ≤ q
def stL (l : List Int32) (j : Nat) : Int32 := l.getD j 0
def Ev (A : Nat → Prop) (U : State) : Prop := (∀ w ∈ NW, va_Nw w U) ∧
  (∃ t, va_Z "IceForCoast$Coins" "LEAST" "[I" (.ref t) A U U.heap ∧ va_T .int t 3 (fun j => .int (stL [1, 0, 0] j)) A U U.heap) ∧
  (∃ t, va_Z "IceForCoast$Coins" "MOST" "[I" (.ref t) A U U.heap ∧ va_T .int t 3 (fun j => .int (stL [9, 9, 99] j)) A U U.heap)
def Cx (K : KT) (Y : List Sh) (cc : ByteArray) (own : String) (nL d : Nat) (ret : Option FieldType) : Prop :=
  Cb K cc own nL d ∧ (kmeth K).sig.returnType = ret ∧ va_K (kD K) vwCl (tysOf (kcy K)) (ks K) ∧ (∀ i j, i < Y.length → j < Y.length → kad K i = kad K j → i = j) ∧ kA K = Aof (kad K) Y.length (ks K).heap.size ∧ Ev (kA K) (ks K)
def Wd (K : KT) (Y : List Sh) (σ : Sg) : Heap → List Loc → Prop := fun H locs => va_P (kD K) vwCl (wd (kcy K) (kad K) σ 0 Y) H ∧ va_S (kA K) (ks K).heap H locs
section GC
variable {K : KT} {Y : List Sh} {cc : ByteArray} {own : String} {nL d : Nat} {ret : Option FieldType}
theorem Cx.c (C : Cx K Y cc own nL d ret) : Cb K cc own nL d := C.1
theorem Cx.r (C : Cx K Y cc own nL d ret) : (kmeth K).sig.returnType = ret := C.2.1
theorem Cx.k (C : Cx K Y cc own nL d ret) : va_K (kD K) vwCl (tysOf (kcy K)) (ks K) := C.2.2.1
theorem Cx.i (C : Cx K Y cc own nL d ret) : ∀ i j, i < Y.length → j < Y.length → kad K i = kad K j → i = j := C.2.2.2.1
theorem Cx.a (C : Cx K Y cc own nL d ret) : kA K = Aof (kad K) Y.length (ks K).heap.size := C.2.2.2.2.1
theorem Cx.e (C : Cx K Y cc own nL d ret) : Ev (kA K) (ks K) := C.2.2.2.2.2
theorem Cx.in (C : Cx K Y cc own nL d ret) : ∀ i, i < Y.length → kA K (kad K i) := fun i h => by rw [C.a]; exact Or.inl ⟨i, h, rfl⟩
theorem Cx.D (C : Cx K Y cc own nL d ret) (σ : Sg) : va_D (kA K) (wd (kcy K) (kad K) σ 0 Y) := wd_D C.i C.in
theorem Cx.nest (C : Cx K Y cc own nL d ret) {w : Cond} (h : w ∈ NW) (ho : w.onTables = true) : w.before (ka K) (ks K) = true := va_Nw.use ho (C.e.1 w h)
end GC
/-- a field, by its link or by the nest -/
def FL (own : String) (index : Nat) (C n d : String) : Prop := (Cond.fieldLink own index C n d ∈ AL) ∨ ∃ host, Cond.fieldLinkNest own index C n d host ∈ NW
section GH
variable {K : KT} {Y : List Sh} {cc : ByteArray} {own : String} {nL d : Nat} {ret : Option FieldType} {pc : Nat} {L : List (Option Value)} {st : List Value} {σ : Sg}
theorem g_get (C : Cx K Y cc own nL d ret) {o ci k index N : Nat} {C0 : String} {T : u_T} {sl : List (Nat × Nat)} {s : Nat × Nat} (hd : decode cc pc = .ok (.getfield index, 3)) (hY : Y[o]? = some (0, ci, sl)) (hs : sl[k]? = some s) (hc : vwCl[ci]? = some (C0, T, N)) (hk : k < N) (hl : FL own index (T k).1 (T k).2.1 (T k).2.2.1) (hin : ∀ w ∈ u_ws C0 T N, w ∈ AL)
    {v : Value} (hv : slotV (kad K) σ o k s = v) (kk : G K (pc + 3) L (v :: st) (Wd K Y σ)) : G K pc L (.ref (kad K o) :: st) (Wd K Y σ) := fun H locs ls hP hL => by
  subst hv
  have he : (wd (kcy K) (kad K) σ 0 Y)[o]? = some (kad K o, .inr (ci, slv (kad K) σ o 0 sl)) := wd_at hY
  have hv : (slv (kad K) σ o 0 sl)[k]? = some (slotV (kad K) σ o k s) := by rw [slv_get, hs, Nat.zero_add]; rfl
  rcases hl with hl | ⟨host, hl⟩
  · exact va_get C.c.x C.c.b C.c.fix.2.2.2.2 hin C.c.o C.k hP.1 o he hc k hk (C.c.t hl) (fun _ h => h) hv hd (kk H locs ls hP hL)
  · exact va_getN C.c.x C.c.b C.c.fix.2.2.2.2 hin C.c.o C.k hP.1 o he hc k hk (C.nest hl rfl) (fun _ h => h) hv hd (kk H locs ls hP hL)
theorem g_put0 (C : Cx K Y cc own nL d ret) {o ci k index N : Nat} {C0 : String} {T : u_T} {ty0 : Nat → FieldType} {sl : List (Nat × Nat)} {s : Nat × Nat} {v : Value} {σ' : Sg} (hd : decode cc pc = .ok (.putfield index, 3)) (hY : Y[o]? = some (0, ci, sl)) (hs : sl[k]? = some s) (hc : vwCl[ci]? = some (C0, T, N)) (hk : k < N) (hl : FL own index (T k).1 (T k).2.1 (T k).2.2.1) (hin : ∀ w ∈ u_ws C0 T N, w ∈ AL)
    (hty : ∀ k, k < N → parseFieldDescriptor (T k).2.2.1 = some (ty0 k)) (hnm : ∀ a, a < N → ∀ b, b < N → a ≠ b → (T a).2.1 ≠ (T b).2.1) (hfin : (T k).2.2.2 = false) (hn : narrow (ty0 k) v = v) (hf : fits (ty0 k) v = true)
    (h1 : ∀ q sh, q ≠ o → ent (kcy K) (kad K) σ' q sh = ent (kcy K) (kad K) σ q sh) (h2 : ∀ q t, q ≠ k → slotV (kad K) σ' o q t = slotV (kad K) σ o q t) (h3 : slotV (kad K) σ' o k s = v)
    (kk : G K (pc + 3) L st (Wd K Y σ')) : G K pc L (v :: .ref (kad K o) :: st) (Wd K Y σ) := fun H locs ls hP hL => by
  have he : (wd (kcy K) (kad K) σ 0 Y)[o]? = some (kad K o, .inr (ci, slv (kad K) σ o 0 sl)) := wd_at hY
  have hlen : k < (slv (kad K) σ o 0 sl).length := by rw [slv_len]; exact (List.getElem?_eq_some_iff.mp hs).1
  have hset : (slv (kad K) σ o 0 sl).set k v = slv (kad K) σ' o 0 sl := slv_set sl 0 k s hs (fun q t hq => h2 q t (by omega)) (by rw [Nat.zero_add]; exact h3)
  have hw : (wd (kcy K) (kad K) σ 0 Y).set o (kad K o, .inr (ci, (slv (kad K) σ o 0 sl).set k v)) = wd (kcy K) (kad K) σ' 0 Y := by
    have := wd_set (cys := kcy K) (ad := kad K) (σ := σ) (σ' := σ') (e := .inr (ci, slv (kad K) σ' o 0 sl)) Y 0 o _ hY (fun q t hq => h1 q t (by omega)) (by rw [Nat.zero_add]; rfl)
    rw [Nat.zero_add] at this
    rw [hset]
    exact this
  rcases hl with hl | ⟨host, hl⟩
  · exact va_put C.c.x C.c.b C.c.fix.2.2.2.2 hin ty0 hty hnm C.c.o C.k hP.1 (C.D σ) hP.2 o he hc k hk (C.c.t hl) (fun _ h => h) hfin (hty k hk) hn hf hlen hd (fun H1 locs1 q1 q2 q3 => kk H1 locs1 ls ⟨hw ▸ q1, q3⟩ hL)
  · exact va_putN C.c.x C.c.b C.c.fix.2.2.2.2 hin ty0 hty hnm C.c.o C.k hP.1 (C.D σ) hP.2 o he hc k hk (C.nest hl rfl) (fun _ h => h) hfin (hty k hk) hn hf hlen hd (fun H1 locs1 q1 q2 q3 => kk H1 locs1 ls ⟨hw ▸ q1, q3⟩ hL)
theorem slot_wI {ad : Nat → Nat} {o k : Nat} {v : Int32} {σ : Sg} (q : Nat) (t : Nat × Nat) (h : q ≠ k) : slotV ad (wI σ o k v) o q t = slotV ad σ o q t := by
  unfold slotV
  split
  · simp [rI, wI, h]
  · rfl
  · rfl
  · rfl
theorem slot_wJ {ad : Nat → Nat} {o k : Nat} {v : Int64} {σ : Sg} (q : Nat) (t : Nat × Nat) (h : q ≠ k) : slotV ad (wJ σ o k v) o q t = slotV ad σ o q t := by
  unfold slotV
  split
  · rfl
  · simp [rJ, wJ, h]
  · rfl
  · rfl
theorem slot_wR {ad : Nat → Nat} {o k v : Nat} {σ : Sg} (q : Nat) (t : Nat × Nat) (h : q ≠ k) : slotV ad (wR σ o k v) o q t = slotV ad σ o q t := by
  unfold slotV
  split
  · rfl
  · rfl
  · rfl
  · simp [rR, wR, h]
theorem g_putI (C : Cx K Y cc own nL d ret) {o ci k index N z : Nat} {C0 : String} {T : u_T} {ty0 : Nat → FieldType} {sl : List (Nat × Nat)} {v : Int32} (hd : decode cc pc = .ok (.putfield index, 3)) (hY : Y[o]? = some (0, ci, sl)) (hs : sl[k]? = some (0, z)) (hc : vwCl[ci]? = some (C0, T, N)) (hk : k < N) (hl : FL own index (T k).1 (T k).2.1 (T k).2.2.1) (hin : ∀ w ∈ u_ws C0 T N, w ∈ AL)
    (hty : ∀ k, k < N → parseFieldDescriptor (T k).2.2.1 = some (ty0 k)) (hnm : ∀ a, a < N → ∀ b, b < N → a ≠ b → (T a).2.1 ≠ (T b).2.1) (hfin : (T k).2.2.2 = false) (hn : narrow (ty0 k) (.int v) = .int v) (hf : fits (ty0 k) (.int v) = true)
    (kk : G K (pc + 3) L st (Wd K Y (wI σ o k v))) : G K pc L (.int v :: .ref (kad K o) :: st) (Wd K Y σ) :=
  g_put0 C hd hY hs hc hk hl hin hty hnm hfin hn hf (fun q sh h => ent_wI q sh h) (fun q t h => slot_wI q t h) (by simp [slotV, rI, wI]) kk
theorem g_putJ (C : Cx K Y cc own nL d ret) {o ci k index N z : Nat} {C0 : String} {T : u_T} {ty0 : Nat → FieldType} {sl : List (Nat × Nat)} {v : Int64} (hd : decode cc pc = .ok (.putfield index, 3)) (hY : Y[o]? = some (0, ci, sl)) (hs : sl[k]? = some (1, z)) (hc : vwCl[ci]? = some (C0, T, N)) (hk : k < N) (hl : FL own index (T k).1 (T k).2.1 (T k).2.2.1) (hin : ∀ w ∈ u_ws C0 T N, w ∈ AL)
    (hty : ∀ k, k < N → parseFieldDescriptor (T k).2.2.1 = some (ty0 k)) (hnm : ∀ a, a < N → ∀ b, b < N → a ≠ b → (T a).2.1 ≠ (T b).2.1) (hfin : (T k).2.2.2 = false) (hn : narrow (ty0 k) (.long v) = .long v) (hf : fits (ty0 k) (.long v) = true)
    (kk : G K (pc + 3) L st (Wd K Y (wJ σ o k v))) : G K pc L (.long v :: .ref (kad K o) :: st) (Wd K Y σ) :=
  g_put0 C hd hY hs hc hk hl hin hty hnm hfin hn hf (fun q sh h => ent_wJ q sh h) (fun q t h => slot_wJ q t h) (by simp [slotV, rJ, wJ]) kk
theorem g_putR (C : Cx K Y cc own nL d ret) {o ci k index N z v : Nat} {C0 : String} {T : u_T} {ty0 : Nat → FieldType} {sl : List (Nat × Nat)} (hd : decode cc pc = .ok (.putfield index, 3)) (hY : Y[o]? = some (0, ci, sl)) (hs : sl[k]? = some (3, z)) (hc : vwCl[ci]? = some (C0, T, N)) (hk : k < N) (hl : FL own index (T k).1 (T k).2.1 (T k).2.2.1) (hin : ∀ w ∈ u_ws C0 T N, w ∈ AL)
    (hty : ∀ k, k < N → parseFieldDescriptor (T k).2.2.1 = some (ty0 k)) (hnm : ∀ a, a < N → ∀ b, b < N → a ≠ b → (T a).2.1 ≠ (T b).2.1) (hfin : (T k).2.2.2 = false) (hn : ∀ a, narrow (ty0 k) (.ref a) = .ref a) (hf : ∀ a, fits (ty0 k) (.ref a) = true)
    (kk : G K (pc + 3) L st (Wd K Y (wR σ o k v))) : G K pc L (.ref (kad K v) :: .ref (kad K o) :: st) (Wd K Y σ) :=
  g_put0 C hd hY hs hc hk hl hin hty hnm hfin (hn _) (hf _) (fun q sh h => ent_wR q sh h) (fun q t h => slot_wR q t h) (by simp [slotV, rR, wR]) kk
theorem g_iald (C : Cx K Y cc own nL d ret) {o n : Nat} {z : List (Nat × Nat)} {i : Int32} (hd : decode cc pc = .ok (.iaload, 1)) (hY : Y[o]? = some (1, n, z)) (hi : inb i n = true)
    (kk : G K (pc + 1) L (.int (rI σ o i.toNatClampNeg) :: st) (Wd K Y σ)) : G K pc L (.int i :: .ref (kad K o) :: st) (Wd K Y σ) := fun H locs ls hP hL => by
  have he : (wd (kcy K) (kad K) σ 0 Y)[o]? = some (kad K o, .inl (kcy K 0, n, .inl (rI σ o))) := wd_at hY
  exact va_iald C.c.x C.c.b C.k hP.1 o 0 he rfl (inb_in hi) hd (kk H locs ls hP hL)
theorem g_zald (C : Cx K Y cc own nL d ret) {o n : Nat} {z : List (Nat × Nat)} {i : Int32} (hd : decode cc pc = .ok (.baload, 1)) (hY : Y[o]? = some (3, n, z)) (hi : inb i n = true)
    (kk : G K (pc + 1) L (.int (rI σ o i.toNatClampNeg) :: st) (Wd K Y σ)) : G K pc L (.int i :: .ref (kad K o) :: st) (Wd K Y σ) := fun H locs ls hP hL => by
  have he : (wd (kcy K) (kad K) σ 0 Y)[o]? = some (kad K o, .inl (kcy K 2, n, .inl (rI σ o))) := wd_at hY
  exact va_zald C.c.x C.c.b C.k hP.1 o 2 he rfl (inb_in hi) hd (kk H locs ls hP hL)
theorem g_lald (C : Cx K Y cc own nL d ret) {o n : Nat} {z : List (Nat × Nat)} {i : Int32} (hd : decode cc pc = .ok (.laload, 1)) (hY : Y[o]? = some (2, n, z)) (hi : inb i n = true)
    (kk : G K (pc + 1) L (.long (rJ σ o i.toNatClampNeg) :: st) (Wd K Y σ)) : G K pc L (.int i :: .ref (kad K o) :: st) (Wd K Y σ) := fun H locs ls hP hL => by
  have he : (wd (kcy K) (kad K) σ 0 Y)[o]? = some (kad K o, .inl (kcy K 1, n, .inr (.inl (rJ σ o)))) := wd_at hY
  exact va_lald C.c.x C.c.b C.k hP.1 o 1 he rfl (inb_in hi) hd (kk H locs ls hP hL)
theorem g_aald4 (C : Cx K Y cc own nL d ret) {o n b : Nat} {z : List (Nat × Nat)} {i : Int32} (hd : decode cc pc = .ok (.aaload, 1)) (hY : Y[o]? = some (4, n, z)) (hi : inb i n = true) (hb : (z.headD (0, 0)).1 = b)
    (kk : G K (pc + 1) L (.ref (kad K (b + i.toNatClampNeg)) :: st) (Wd K Y σ)) : G K pc L (.int i :: .ref (kad K o) :: st) (Wd K Y σ) := fun H locs ls hP hL => by
  subst hb
  have he : (wd (kcy K) (kad K) σ 0 Y)[o]? = some (kad K o, .inl (kcy K 3, n, .inr (.inr (.inr (.inr (fun j => some (kad K ((z.headD (0, 0)).1 + j)))))))) := wd_at hY
  exact va_aldq C.c.x C.c.b C.k hP.1 o 3 he rfl (inb_in hi) hd (kk H locs ls hP hL)
theorem g_aald5 (C : Cx K Y cc own nL d ret) {o n b : Nat} {z : List (Nat × Nat)} {i : Int32} (hd : decode cc pc = .ok (.aaload, 1)) (hY : Y[o]? = some (5, n, z)) (hi : inb i n = true) (hb : (z.headD (0, 0)).1 = b)
    (kk : G K (pc + 1) L (.ref (kad K (b + i.toNatClampNeg)) :: st) (Wd K Y σ)) : G K pc L (.int i :: .ref (kad K o) :: st) (Wd K Y σ) := fun H locs ls hP hL => by
  subst hb
  have ha : (wd (kcy K) (kad K) σ 0 Y)[o]? = some (kad K o, .inl (kcy K 4, n, .inr (.inr (.inr (.inr (fun j => some (kad K ((z.headD (0, 0)).1 + j)))))))) := wd_at hY
  have hin := inb_in hi
  have hlt : i.toNatClampNeg < n := inb_lt hi
  have ht : (tysOf (kcy K))[4]? = some (kcy K 4, FieldType.array .int) := rfl
  exact W.aald (v := va_rf (some (kad K ((z.headD (0, 0)).1 + i.toNatClampNeg)))) (ty := .array .int) C.c.x C.c.b (hP.1 o _ ha) ((C.k.2 4 _ ht).1 n (fun j => va_rf (some (kad K ((z.headD (0, 0)).1 + j))))) rfl (fun q => by cases q) (by show ¬ (i < 0 ∨ (arrV _ _ _).slots.size ≤ _); rw [arrV_size]; exact hin) (by show (arrV _ _ _).slots[_]? = _; rw [arrV_read _ _ hlt]) rfl rfl hd (kk H locs ls hP hL)
theorem rI_upd {σ : Sg} {o k : Nat} {v : Int32} : rI (wI σ o k v) o = upd (rI σ o) k v := by
  funext j
  by_cases h : j = k
  · subst h; simp [rI, wI, upd]
  · simp [rI, wI, upd, h]
theorem rJ_upd {σ : Sg} {o k : Nat} {v : Int64} : rJ (wJ σ o k v) o = vp_updL (rJ σ o) k v := by
  funext j
  by_cases h : j = k
  · subst h; simp [rJ, wJ, vp_updL]
  · simp [rJ, wJ, vp_updL, h]
theorem wd_put {cys : Nat → ClassId} {ad : Nat → Nat} {σ σ' : Sg} {e : va_E} {o : Nat} {sh : Sh} (hY : Y[o]? = some sh) (h1 : ∀ q sh, q ≠ o → ent cys ad σ' q sh = ent cys ad σ q sh) (h2 : ent cys ad σ' o sh = e) : (wd cys ad σ 0 Y).set o (ad o, e) = wd cys ad σ' 0 Y := by
  have := wd_set (cys := cys) (ad := ad) (σ := σ) (σ' := σ') (e := e) Y 0 o _ hY (fun q t hq => h1 q t (by omega)) (by rw [Nat.zero_add]; exact h2)
  rw [Nat.zero_add] at this
  exact this
theorem g_iast (C : Cx K Y cc own nL d ret) {o n : Nat} {z : List (Nat × Nat)} {i x : Int32} (hd : decode cc pc = .ok (.iastore, 1)) (hY : Y[o]? = some (1, n, z)) (hi : inb i n = true)
    (kk : G K (pc + 1) L st (Wd K Y (wI σ o i.toNatClampNeg x))) : G K pc L (.int x :: .int i :: .ref (kad K o) :: st) (Wd K Y σ) := fun H locs ls hP hL => by
  have he : (wd (kcy K) (kad K) σ 0 Y)[o]? = some (kad K o, .inl (kcy K 0, n, .inl (rI σ o))) := wd_at hY
  have hw := wd_put (cys := kcy K) (ad := kad K) (σ := σ) (σ' := wI σ o i.toNatClampNeg x) (e := .inl (kcy K 0, n, .inl (upd (rI σ o) i.toNatClampNeg x))) hY (fun q sh h => ent_wI q sh h) (by show Sum.inl (kcy K 0, n, Sum.inl (rI _ o)) = _; rw [rI_upd])
  exact va_iast C.c.x C.c.b C.k hP.1 (C.D σ) hP.2 o 0 he rfl (inb_in hi) hd (fun H1 locs1 q1 q2 q3 => kk H1 locs1 ls ⟨hw ▸ q1, q3⟩ hL)
theorem isB_v {x : Int32} (h : isB x = true) : vp_nar .boolean x = x := by
  unfold isB at h
  rw [Bool.or_eq_true, decide_eq_true_eq, decide_eq_true_eq] at h
  rcases h with rfl | rfl <;> rfl
theorem g_zast (C : Cx K Y cc own nL d ret) {o n : Nat} {z : List (Nat × Nat)} {i x : Int32} (hd : decode cc pc = .ok (.bastore, 1)) (hY : Y[o]? = some (3, n, z)) (hi : inb i n = true) (hx : isB x = true)
    (kk : G K (pc + 1) L st (Wd K Y (wI σ o i.toNatClampNeg x))) : G K pc L (.int x :: .int i :: .ref (kad K o) :: st) (Wd K Y σ) := fun H locs ls hP hL => by
  have he : (wd (kcy K) (kad K) σ 0 Y)[o]? = some (kad K o, .inl (kcy K 2, n, .inl (rI σ o))) := wd_at hY
  have hw := wd_put (cys := kcy K) (ad := kad K) (σ := σ) (σ' := wI σ o i.toNatClampNeg x) (e := .inl (kcy K 2, n, .inl (upd (rI σ o) i.toNatClampNeg (vp_nar .boolean x)))) hY (fun q sh h => ent_wI q sh h) (by show Sum.inl (kcy K 2, n, Sum.inl (rI _ o)) = _; rw [rI_upd, isB_v hx])
  exact va_zast C.c.x C.c.b C.k hP.1 (C.D σ) hP.2 o 2 he rfl (inb_in hi) hd (fun H1 locs1 q1 q2 q3 => kk H1 locs1 ls ⟨hw ▸ q1, q3⟩ hL)
theorem g_last (C : Cx K Y cc own nL d ret) {o n : Nat} {z : List (Nat × Nat)} {i : Int32} {x : Int64} (hd : decode cc pc = .ok (.lastore, 1)) (hY : Y[o]? = some (2, n, z)) (hi : inb i n = true)
    (kk : G K (pc + 1) L st (Wd K Y (wJ σ o i.toNatClampNeg x))) : G K pc L (.long x :: .int i :: .ref (kad K o) :: st) (Wd K Y σ) := fun H locs ls hP hL => by
  have he : (wd (kcy K) (kad K) σ 0 Y)[o]? = some (kad K o, .inl (kcy K 1, n, .inr (.inl (rJ σ o)))) := wd_at hY
  have hw := wd_put (cys := kcy K) (ad := kad K) (σ := σ) (σ' := wJ σ o i.toNatClampNeg x) (e := .inl (kcy K 1, n, .inr (.inl (vp_updL (rJ σ o) i.toNatClampNeg x)))) hY (fun q sh h => ent_wJ q sh h) (by show Sum.inl (kcy K 1, n, Sum.inr (Sum.inl (rJ _ o))) = _; rw [rJ_upd])
  exact va_last C.c.x C.c.b C.k hP.1 (C.D σ) hP.2 o 1 he rfl (inb_in hi) hd (fun H1 locs1 q1 q2 q3 => kk H1 locs1 ls ⟨hw ▸ q1, q3⟩ hL)
theorem g_alen1 (C : Cx K Y cc own nL d ret) {o n : Nat} {z : List (Nat × Nat)} {v : Int32} (hd : decode cc pc = .ok (.arraylength, 1)) (hY : Y[o]? = some (1, n, z)) (hv : Int32.ofNat n = v)
    (kk : G K (pc + 1) L (.int v :: st) (Wd K Y σ)) : G K pc L (.ref (kad K o) :: st) (Wd K Y σ) := fun H locs ls hP hL => by
  have he : (wd (kcy K) (kad K) σ 0 Y)[o]? = some (kad K o, .inl (kcy K 0, n, .inl (rI σ o))) := wd_at hY
  exact va_alen C.c.x C.c.b C.k hP.1 o 0 he rfl hv hd (kk H locs ls hP hL)
theorem g_alen4 (C : Cx K Y cc own nL d ret) {o n : Nat} {z : List (Nat × Nat)} {v : Int32} (hd : decode cc pc = .ok (.arraylength, 1)) (hY : Y[o]? = some (4, n, z)) (hv : Int32.ofNat n = v)
    (kk : G K (pc + 1) L (.int v :: st) (Wd K Y σ)) : G K pc L (.ref (kad K o) :: st) (Wd K Y σ) := fun H locs ls hP hL => by
  have he : (wd (kcy K) (kad K) σ 0 Y)[o]? = some (kad K o, .inl (kcy K 3, n, .inr (.inr (.inr (.inr (fun j => some (kad K ((z.headD (0, 0)).1 + j)))))))) := wd_at hY
  exact va_alen C.c.x C.c.b C.k hP.1 o 3 he rfl hv hd (kk H locs ls hP hL)
/-- a copy of so many numbers is within both rows -/
def cpB (sp dp n : Int32) (n0 n1 : Nat) : Bool := decide (¬ sp < 0) && (decide (¬ dp < 0) && (decide (¬ n < 0) && (decide (sp.toNatClampNeg + n.toNatClampNeg ≤ n0) && decide (dp.toNatClampNeg + n.toNatClampNeg ≤ n1))))
theorem ent_cp {cys : Nat → ClassId} {ad : Nat → Nat} {σ : Sg} {a0 a1 sp dp n n1 : Nat} {z : List (Nat × Nat)} : ent cys ad (wC σ a0 sp a1 dp n) a1 (1, n1, z) = .inl (cys 0, n1, .inl (va_cpy (rI σ a0) (rI σ a1) sp dp n)) := by
  show Sum.inl (cys 0, n1, Sum.inl (rI (wC σ a0 sp a1 dp n) a1)) = _
  congr 4
  funext j
  by_cases h : dp ≤ j ∧ j < dp + n
  · simp [rI, wC, va_cpy, h]
  · simp [rI, wC, va_cpy, h]
theorem g_copy (C : Cx K Y cc own nL d ret) {index o0 o1 n0 n1 : Nat} {z0 z1 : List (Nat × Nat)} {sp dp n : Int32} (hd : decode cc pc = .ok (.invokestatic index, 3)) (hw1 : Cond.methodLink own index arraycopyName ∈ AL) (hw2 : Cond.native arraycopyName ∈ AL) (hw3 : Cond.static arraycopyName ∈ AL) (hw4 : Cond.initialized "java/lang/System" ∈ AL)
    (hLn : L.length = nL) (hr : (st.map fun v => v.category).sum ≤ 8) (hd1 : 1 ≤ d) (hY0 : Y[o0]? = some (1, n0, z0)) (hY1 : Y[o1]? = some (1, n1, z1)) (h : cpB sp dp n n0 n1 = true)
    (kk : G K (pc + 3) L st (Wd K Y (wC σ o0 sp.toNatClampNeg o1 dp.toNatClampNeg n.toNatClampNeg))) : G K pc L (.int n :: .int dp :: .ref (kad K o1) :: .int sp :: .ref (kad K o0) :: st) (Wd K Y σ) := fun H locs ls hP hL => by
  have he0 : (wd (kcy K) (kad K) σ 0 Y)[o0]? = some (kad K o0, .inl (kcy K 0, n0, .inl (rI σ o0))) := wd_at hY0
  have he1 : (wd (kcy K) (kad K) σ 0 Y)[o1]? = some (kad K o1, .inl (kcy K 0, n1, .inl (rI σ o1))) := wd_at hY1
  unfold cpB at h
  simp only [Bool.and_eq_true, decide_eq_true_eq] at h
  have hw := wd_put (cys := kcy K) (ad := kad K) (σ := σ) (σ' := wC σ o0 sp.toNatClampNeg o1 dp.toNatClampNeg n.toNatClampNeg) hY1 (fun q sh h => ent_wC q sh h) ent_cp
  have hf := C.c.2.2.2.2.2.2.1
  have hlo := C.c.2.2.2.2.2.2.2
  have hnf : nativeFrameWords "java/lang/System" "arraycopy" 5 + 11 ≤ 32 := by decide +kernel
  exact va_copyi C.c.x C.c.b (C.c.2.2.1.trans (hLn.symm.trans hL.1.symm)) C.c.o (C.c.t hw1) (C.c.t hw2) (C.c.t hw3) (C.c.t hw4) C.k hP.1 (C.D σ) hP.2 o0 o1 0 0 he0 he1 rfl rfl rfl h.1 h.2.1 h.2.2.1 h.2.2.2.1 h.2.2.2.2 (fun _ _ => rfl) (by omega) (by omega) hd (fun H1 locs1 q1 q2 q3 => kk H1 locs1 ls ⟨hw ▸ q1, q3⟩ hL)
theorem g_stat (C : Cx K Y cc own nL d ret) {index : Nat} {n : String} {l : List Int32} (hd : decode cc pc = .ok (.getstatic index, 3)) (hw : Cond.fieldLink own index "IceForCoast$Coins" n "[I" ∈ AL) (hE : ∃ t, va_Z "IceForCoast$Coins" n "[I" (.ref t) (kA K) (ks K) (ks K).heap ∧ va_T .int t 3 (fun j => .int (stL l j)) (kA K) (ks K) (ks K).heap)
    (kk : ∀ t, va_T .int t 3 (fun j => .int (stL l j)) (kA K) (ks K) (ks K).heap → G K (pc + 3) L (.ref t :: st) (Wd K Y σ)) : G K pc L st (Wd K Y σ) := fun H locs ls hP hL => by
  obtain ⟨t, hZ, hT⟩ := hE
  exact va_gets C.c.x C.c.b hZ hP.2 C.c.o (C.c.t hw) (fun _ h => h) hd (kk t hT H locs ls hP hL)
theorem g_tld (C : Cx K Y cc own nL d ret) {t : Nat} {l : List Int32} {i : Int32} (hT : va_T .int t 3 (fun j => .int (stL l j)) (kA K) (ks K) (ks K).heap) (hd : decode cc pc = .ok (.iaload, 1)) (hi : inb i 3 = true)
    (kk : G K (pc + 1) L (.int (stL l i.toNatClampNeg) :: st) (Wd K Y σ)) : G K pc L (.int i :: .ref t :: st) (Wd K Y σ) := fun H locs ls hP hL =>
  va_ti C.c.x C.c.b hT hP.2 (inb_in hi) rfl hd (kk H locs ls hP hL)
end GH
section GM
variable {K : KT} {cc : ByteArray} {own : String} {nL d : Nat} {pc : Nat} {L : List (Option Value)} {st : List Value} {P : Heap → List Loc → Prop}
def imax (x y : Int32) : Int32 := if x < y then y else x
def imin (x y : Int32) : Int32 := if y < x then y else x
def lmax (x y : Int64) : Int64 := if y < x then x else y
theorem g_max (C : Cb K cc own nL d) {index : Nat} {x y : Int32} (hd : decode cc pc = .ok (.invokestatic index, 3)) (hw1 : Cond.methodLink own index Lib.Math.max.name ∈ AL) (hw2 : Cond.static Lib.Math.max.name ∈ AL) (hw3 : Cond.initialized "java/lang/Math" ∈ AL) (hw4 : Cond.code Lib.Math.max.name Lib.Math.max.code 2 (some .int) ∈ AL) (hLn : L.length = nL) (hr : (st.map fun v => v.category).sum ≤ 8) (hd1 : 1 ≤ d)
    (k : G K (pc + 3) L (.int (imax x y) :: st) P) : G K pc L (.int y :: .int x :: st) P := fun H locs ls hP hL => by
  have hf := C.2.2.2.2.2.2.1
  have hlo := C.2.2.2.2.2.2.2
  exact va_mmax C.x C.b (C.2.2.1.trans (hLn.symm.trans hL.1.symm)) C.o (C.t hw1) (C.t hw2) (C.t hw3) (C.t hw4) (by omega) (by omega) (Nat.zero_le _) (Nat.zero_le _) hd (k H locs ls hP hL)
theorem g_min (C : Cb K cc own nL d) {index : Nat} {x y : Int32} (hd : decode cc pc = .ok (.invokestatic index, 3)) (hw1 : Cond.methodLink own index Lib.Math.min.name ∈ AL) (hw2 : Cond.static Lib.Math.min.name ∈ AL) (hw3 : Cond.initialized "java/lang/Math" ∈ AL) (hw4 : Cond.code Lib.Math.min.name Lib.Math.min.code 2 (some .int) ∈ AL) (hLn : L.length = nL) (hr : (st.map fun v => v.category).sum ≤ 8) (hd1 : 1 ≤ d)
    (k : G K (pc + 3) L (.int (imin x y) :: st) P) : G K pc L (.int y :: .int x :: st) P := fun H locs ls hP hL => by
  have hf := C.2.2.2.2.2.2.1
  have hlo := C.2.2.2.2.2.2.2
  exact va_mmin C.x C.b (C.2.2.1.trans (hLn.symm.trans hL.1.symm)) C.o (C.t hw1) (C.t hw2) (C.t hw3) (C.t hw4) (by omega) (by omega) (Nat.zero_le _) (Nat.zero_le _) hd (k H locs ls hP hL)
theorem g_lmax (C : Cb K cc own nL d) {index : Nat} {x y : Int64} (hd : decode cc pc = .ok (.invokestatic index, 3)) (hw1 : Cond.methodLink own index Lib.MathLoose.max_long.x ∈ AL) (hw2 : Cond.static Lib.MathLoose.max_long.x ∈ AL) (hw3 : Cond.initialized "java/lang/Math" ∈ AL) (hw4 : Cond.code Lib.MathLoose.max_long.x Lib.MathLoose.max_long.code 4 (some .long) ∈ AL) (hLn : L.length = nL) (hr : (st.map fun v => v.category).sum ≤ 8) (hd1 : 1 ≤ d)
    (k : G K (pc + 3) L (.long (lmax x y) :: st) P) : G K pc L (.long y :: .long x :: st) P := fun H locs ls hP hL => by
  have hf := C.2.2.2.2.2.2.1
  have hlo := C.2.2.2.2.2.2.2
  exact va_mmax_long C.x C.b (C.2.2.1.trans (hLn.symm.trans hL.1.symm)) C.o (C.t hw1) (C.t hw2) (C.t hw3) (C.t hw4) (by omega) (by omega) (Nat.zero_le _) (Nat.zero_le _) hd (k H locs ls hP hL)
def iabs (x : Int32) : Int32 := if 0 ≤ x then x else 0 - x
theorem g_abs (C : Cb K cc own nL d) {index : Nat} {x : Int32} (hd : decode cc pc = .ok (.invokestatic index, 3)) (hw1 : Cond.methodLink own index Lib.Math.abs.name ∈ AL) (hw2 : Cond.static Lib.Math.abs.name ∈ AL) (hw3 : Cond.initialized "java/lang/Math" ∈ AL) (hw4 : Cond.code Lib.Math.abs.name Lib.Math.abs.code 1 (some .int) ∈ AL) (hLn : L.length = nL) (hr : (st.map fun v => v.category).sum ≤ 8) (hd1 : 1 ≤ d)
    (k : G K (pc + 3) L (.int (iabs x) :: st) P) : G K pc L (.int x :: st) P := fun H locs ls hP hL => by
  have hf := C.2.2.2.2.2.2.1
  have hlo := C.2.2.2.2.2.2.2
  exact va_mabs C.x C.b (C.2.2.1.trans (hLn.symm.trans hL.1.symm)) C.o (C.t hw1) (C.t hw2) (C.t hw3) (C.t hw4) (by omega) (by omega) (Nat.zero_le _) (Nat.zero_le _) hd (k H locs ls hP hL)
end GM
/-! ===== contracts, calls, returns ===== -/
abbrev Ok : Type := Option Value → Sg → Prop
def QX (D : va_G) (cys : Nat → ClassId) (ad : Nat → Nat) (Y : List Sh) (A : Nat → Prop) (ok : Ok) : Array Value → State → Outcome → State → Prop := fun _ st oc t =>
  ∃ (v : Option Value) (σ' : Sg), oc = .returned v ∧ ok v σ' ∧ va_P D vwCl (wd cys ad σ' 0 Y) t.heap ∧ va_F A st t
def Bx (D : va_G) (cys : Nat → ClassId) (ad : Nat → Nat) (Y : List Sh) (σ : Sg) (U : State) : Prop :=
  va_P D vwCl (wd cys ad σ 0 Y) U.heap ∧ va_K D vwCl (tysOf cys) U ∧ (∀ i j, i < Y.length → j < Y.length → ad i = ad j → i = j)
def rmd (d : Nat) : Room := { frames := d, cells := 0, slots := 0, locals := 40 * d }
/-- a method's contract: from the world σ, with these arguments, it comes to an end that ok allows -/
def Ct (Y : List Sh) (y : MethodName) (cc : ByteArray) (nL : Nat) (ret : Option FieldType) (d : Nat) (vals : (Nat → Nat) → List Value) (σ : Sg) (ok : Ok) : Prop :=
  ∀ (l : Launch) (D : va_G) (cys : Nat → ClassId) (ad : Nat → Nat) (sz : Nat), Met l y (.code y cc nL ret :: AL) (rmd d) (va_Pc (vals ad) (fun U => U.heap.size = sz ∧ Bx D cys ad Y σ U ∧ Ev (Aof ad Y.length sz) U)) (QX D cys ad Y (Aof ad Y.length sz) ok) 0 0 (Aof ad Y.length sz)
def Rk (K : KT) (Y : List Sh) (ok : Ok) : Prop := kQ K = MQ (kb K) (QX (kD K) (kcy K) (kad K) Y (kA K) ok) (ka K) (ks K) 0 0 (kA K)
/-- the locals with which a method begins -/
def lsl : List Value → List (Option Value)
  | [] => []
  | .long x :: t => some (.long x) :: none :: lsl t
  | .double x :: t => some (.double x) :: none :: lsl t
  | v :: t => some v :: lsl t
def pad (L : List (Option Value)) (n : Nat) : List (Option Value) := L ++ List.replicate (n - L.length) none
theorem lsl_args : ∀ (vs : List Value) (k i : Nat) (v : Value), (lsl vs)[i]? = some (some v) → (k + i, v) ∈ lv_args k vs
  | [], k, i, v, h => by simp [lsl] at h
  | a :: t, k, i, v, h => by
    have one : ∀ (x : Value), lsl (x :: t) = some x :: lsl t → x.category = 1 → (lsl (x :: t))[i]? = some (some v) → (k + i, v) ∈ lv_args k (x :: t) := by
      intro x e hc h
      rw [e] at h
      unfold lv_args
      rw [if_neg (by omega)]
      cases i with
      | zero => simp at h; subst h; exact List.mem_cons_self
      | succ i =>
        rw [List.getElem?_cons_succ] at h
        have := lsl_args t (k + 1) i v h
        rw [show k + 1 + i = k + (i + 1) by omega] at this
        exact List.mem_cons_of_mem _ this
    have two : ∀ (x : Value), lsl (x :: t) = some x :: none :: lsl t → x.category = 2 → (lsl (x :: t))[i]? = some (some v) → (k + i, v) ∈ lv_args k (x :: t) := by
      intro x e hc h
      rw [e] at h
      unfold lv_args
      rw [if_pos hc]
      cases i with
      | zero => simp at h; subst h; exact List.mem_cons_self
      | succ i =>
        cases i with
        | zero => simp at h
        | succ i =>
          rw [List.getElem?_cons_succ, List.getElem?_cons_succ] at h
          have := lsl_args t (k + 2) i v h
          rw [show k + 2 + i = k + (i + 1 + 1) by omega] at this
          exact List.mem_cons_of_mem _ this
    cases a with
    | long x => exact two _ rfl rfl h
    | double x => exact two _ rfl rfl h
    | _ => exact one _ rfl rfl h
theorem lsl_sl : ∀ (vs : List Value), (lg_sl vs).length = (lsl vs).length
  | [] => rfl
  | a :: t => by
    have ih := lsl_sl t
    unfold lg_sl at ih ⊢
    rw [List.flatMap_cons, List.length_append, ih]
    cases a <;> simp [lsl, Value.category] <;> omega
theorem lx_entry (vs : List Value) {n : Nat} (h : (lsl vs).length ≤ n) : LX ((lg_sl vs ++ List.replicate (n - (lg_sl vs).length) Slot.unset).toArray) (pad (lsl vs) n) := by
  have hl := lv_entry vs (n := n) (by rw [lsl_sl]; exact h)
  refine ⟨?_, hl.2.1, fun i v hi => ?_⟩
  · rw [hl.1]
    simp [pad]
    omega
  · unfold pad at hi
    by_cases hlt : i < (lsl vs).length
    · rw [List.getElem?_append_left hlt] at hi
      have := lsl_args vs 0 i v hi
      rw [Nat.zero_add] at this
      exact hl.2.2 _ this
    · rw [List.getElem?_append_right (by omega)] at hi
      have := List.eq_of_mem_replicate (List.mem_of_getElem? hi)
      cases this
theorem ct_of {Y : List Sh} {y : MethodName} {cc : ByteArray} {nL d : Nat} {ret : Option FieldType} {vals : (Nat → Nat) → List Value} {σ : Sg} {ok : Ok} {L0 : (Nat → Nat) → List (Option Value)} (hy : plainName y.cls = true) (hn : ∀ ad, (lsl (vals ad)).length ≤ nL) (hL : ∀ ad, pad (lsl (vals ad)) nL = L0 ad)
    (body : ∀ K, Cx K Y cc y.cls nL d ret → Rk K Y ok → G K 0 (L0 (kad K)) [] (Wd K Y σ)) : Ct Y y cc nL ret d vals σ ok := by
  intro l D cys ad sz
  refine Met.ofW (cc := cc) (maxL := nL) (ret := ret) hy rfl ?_
  intro p e s m args below meth c s₁ B hml hv
  obtain ⟨rfl, hsz, ⟨hP, hK, hi⟩, hE⟩ := hv
  subst hsz
  have hts := atoms_spec (ws := .code y cc nL ret :: AL) B.pre
  have hown : s.vm.findClass y.cls = some m.cls := findClass_of_methodNamed B.named
  let K : KT := (p, l, e, rmd d, s, m, (vals ad).toArray, below, meth, c, D, cys, ad, Aof ad Y.length s.heap.size, MQ below (QX D cys ad Y (Aof ad Y.length s.heap.size) ok) (vals ad).toArray s 0 0 (Aof ad Y.length s.heap.size))
  have C : Cx K Y cc y.cls nL d ret := ⟨⟨B.exec, B.bytes, hml, hown, fun w hw => hts w (List.mem_cons_of_mem _ hw), B.notSynchronized, Nat.le_refl _, Nat.le_refl _⟩, B.returns, hK, hi, rfl, hE⟩
  have hG := body K C rfl
  rw [lg_entry_eq]
  have := hG s.heap [] _ ⟨hP, va_S.rf⟩ (hL ad ▸ lx_entry (vals ad) (hn ad))
  exact this
section GRet
variable {K : KT} {Y : List Sh} {cc : ByteArray} {own : String} {nL d : Nat} {ret : Option FieldType} {pc : Nat} {L : List (Option Value)} {σ : Sg} {ok : Ok}
theorem g_q (C : Cx K Y cc own nL d ret) {v : Option Value} {H : Heap} {locs : List Loc} (ho : ok v σ) (hP : Wd K Y σ H locs) (t : State) (ht : t.heap = H) : QX (kD K) (kcy K) (kad K) Y (kA K) ok (ka K) (ks K) (.returned v) t :=
  ⟨v, σ, rfl, ho, by rw [ht]; exact hP.1, hP.2.F ht⟩
theorem g_iret {ty : FieldType} (C : Cx K Y cc own nL d (some ty)) (hQ : Rk K Y ok) {v : Int32} (hd : decode cc pc = .ok (.ireturn, 1)) (hn : narrow ty (.int v) = .int v) (ho : ok (some (.int v)) σ) : G K pc L [.int v] (Wd K Y σ) := fun H locs ls hP hL => by
  show W _ _ _ _ _ _ _ _ _ _ _ _ _ _ (kQ K) _
  rw [hQ]
  exact W.zret C.c.x C.c.b C.r hn (fun t ht _ => g_q C ho hP t ht) hP.2.2.2 hd C.c.2.2.2.2.2.1
theorem g_lret (C : Cx K Y cc own nL d (some .long)) (hQ : Rk K Y ok) {v : Int64} (hd : decode cc pc = .ok (.lreturn, 1)) (ho : ok (some (.long v)) σ) : G K pc L [.long v] (Wd K Y σ) := fun H locs ls hP hL => by
  show W _ _ _ _ _ _ _ _ _ _ _ _ _ _ (kQ K) _
  rw [hQ]
  exact W.lret C.c.x C.c.b C.r (fun t ht _ => g_q C ho hP t ht) hP.2.2.2 hd C.c.2.2.2.2.2.1
theorem g_vret (C : Cx K Y cc own nL d none) (hQ : Rk K Y ok) (hd : decode cc pc = .ok (.return_, 1)) (ho : ok none σ) : G K pc L [] (Wd K Y σ) := fun H locs ls hP hL => by
  show W _ _ _ _ _ _ _ _ _ _ _ _ _ _ (kQ K) _
  rw [hQ]
  exact W.vret C.c.x C.c.b C.r (fun t ht _ => g_q C ho hP t ht) hP.2.2.2 hd C.c.2.2.2.2.2.1
end GRet
theorem Ev.moved {A B : Nat → Prop} {s U : State} (hW : s.WarmedH U.vm) (hk : ∀ a : Nat, a < s.heap.size → ¬ A a → U.heap[a]? = s.heap[a]?) (hAB : ∀ q, B q → A q) (h : Ev A s) : Ev B U := by
  obtain ⟨h1, ⟨t, h2, h3⟩, ⟨t', h4, h5⟩⟩ := h
  refine ⟨fun w hw => ?_, ⟨t, ((h2.kept hk).moved hW.alike).narrow hAB, ((h3.kept hk).moved hW.alike).narrow hAB⟩, ⟨t', ((h4.kept hk).moved hW.alike).narrow hAB, ((h5.kept hk).moved hW.alike).narrow hAB⟩⟩
  have hn := (List.mem_filter.mp hw).2
  have hz := h1 w hw
  cases w with
  | fieldLinkNest a i b n d h => exact va_Nw.warmF hW hz
  | methodLinkNest a i x h => exact va_Nw.warmM hW hz
  | _ => cases hn
theorem Ev.frame {A : Nat → Prop} {U : State} {g : JFrame} {mk : MethodId} {a : Array Value} (h : Ev A U) : Ev A (U.calling g mk a) := by
  obtain ⟨h1, ⟨t, h2, h3⟩, ⟨t', h4, h5⟩⟩ := h
  have al : U.vm.Alike (U.calling g mk a).vm := Vm.Alike.refl U.vm
  refine ⟨fun w hw => ?_, ⟨t, h2.moved al, h3.moved al⟩, ⟨t', h4.moved al, h5.moved al⟩⟩
  have hn := (List.mem_filter.mp hw).2
  have hz := h1 w hw
  cases w with
  | fieldLinkNest a i b n d h => exact va_Nw.same rfl rfl hz
  | methodLinkNest a i x h => exact va_Nw.same rfl rfl hz
  | _ => cases hn
theorem ct_blind {Y : List Sh} {vals : (Nat → Nat) → List Value} {σ : Sg} {D : va_G} {cys : Nat → ClassId} {ad : Nat → Nat} {sz : Nat} : FrameBlind (va_Pc (vals ad) (fun U => U.heap.size = sz ∧ Bx D cys ad Y σ U ∧ Ev (Aof ad Y.length sz) U)) :=
  fun a U g mk q => ⟨q.1, q.2.1, ⟨q.2.2.1.1, va_K.moved (u := U) (U := U.calling g mk a) (Vm.Alike.refl U.vm) q.2.2.1.2.1, q.2.2.1.2.2⟩, q.2.2.2.frame⟩

section GCall
variable {K : KT} {Y : List Sh} {cc : ByteArray} {own : String} {nL d : Nat} {ret : Option FieldType} {pc : Nat} {L : List (Option Value)} {st : List Value} {σ : Sg}
/-- what holds of the callee's start -/
theorem ct_pre (C : Cx K Y cc own nL d ret) {vals : (Nat → Nat) → List Value} {H : Heap} {locs : List Loc} (hP : Wd K Y σ H locs) (U : State) (hU : U.heap = H) (hW : (ks K).WarmedH U.vm) : (va_Pc (vals (kad K)) (fun U => U.heap.size = H.size ∧ Bx (kD K) (kcy K) (kad K) Y σ U ∧ Ev (Aof (kad K) Y.length H.size) U)) (vals (kad K)).toArray U := by
  refine ⟨rfl, by rw [hU], ⟨by rw [hU]; exact hP.1, va_K.moved hW.alike C.k, C.i⟩, C.e.moved hW (fun a h1 h2 => by rw [hU]; exact hP.2.2.1 a h1 h2) (fun q h => ?_)⟩
  rw [C.a]
  rcases h with h | h
  · exact Or.inl h
  · exact Or.inr (Nat.le_trans hP.2.1 h)
/-- behind a call -/
theorem ct_go (C : Cx K Y cc own nL d ret) {H : Heap} {locs : List Loc} {ls : Array Slot} {st rest : List Value} {a : Array Value} {ok : Ok} (hP : Wd K Y σ H locs) (hL : LX ls L)
    (hr : va_Run (kp K) (kl K) (ke K) (kR K) (ks K) (km K) (ka K) (kb K) (kmeth K) (kc K) H locs 0 0 0 0 (F0 (km K) pc ls st) rest (QX (kD K) (kcy K) (kad K) Y (Aof (kad K) Y.length H.size) ok a) (Aof (kad K) Y.length H.size))
    (kk : ∀ v σ', ok v σ' → G K (pc + 3) L (v.toList ++ rest) (Wd K Y σ')) : Wk K H locs (F0 (km K) pc ls st) := by
  have hsub : ∀ q, Aof (kad K) Y.length H.size q → kA K q := fun q h => by
    rw [C.a]
    rcases h with h | h
    · exact Or.inl h
    · exact Or.inr (Nat.le_trans hP.2.1 h)
  intro T hT X
  obtain ⟨v, st₀, t, T', L2, h0, X', hL2, e1, e2, ⟨v', σ', hv, hok, hw, hz, hk⟩, stp⟩ := hr T hT X
  cases hv
  rw [h0] at hz hk
  have hS : va_S (kA K) (ks K).heap T'.heap (locs ++ L2) := ⟨Nat.le_trans hP.2.1 (by rw [e1]; exact hz), fun q h1 h2 => by rw [e1, hk q (Nat.lt_of_lt_of_le h1 hP.2.1) (fun z => h2 (hsub q z))]; exact hP.2.2.1 q h1 h2, fun q hq => by
      rcases List.mem_append.mp hq with h | h
      · exact hP.2.2.2 q h
      · exact hsub _ (hL2 q h)⟩
  obtain ⟨t2, a1, b1⟩ := kk v σ' hok T'.heap (locs ++ L2) ls ⟨by rw [e1]; exact hw, hS⟩ hL T' rfl X'
  exact ⟨t2, stp t2 a1, b1⟩
/-- what a callee asks of the tables, and its room -/
def Cw (y : MethodName) (cc : ByteArray) (nL : Nat) (ret : Option FieldType) (n : Nat) : Prop := (Cond.code y cc nL ret ∈ AL) ∧ (Cond.initialized y.cls ∈ AL) ∧ (y.cls ≠ "java/lang/invoke/MethodHandle" ∧ y.cls ≠ "java/lang/invoke/VarHandle") ∧ (parseMethodDescriptor y.desc).map (fun d => d.parameters.length) = some n ∧ nL ≤ 21
theorem ct_in {y : MethodName} {cc : ByteArray} {nL : Nat} {ret : Option FieldType} (h : Cond.code y cc nL ret ∈ AL) : GoodIn AL (.code y cc nL ret :: AL) := fun w hw => by
  rcases List.mem_cons.mp hw with rfl | hw
  · exact AL_good h
  · exact AL_good hw
theorem g_callV (C : Cx K Y cc own nL d ret) {index ci o n d' nL' N : Nat} {y : MethodName} {cc' : ByteArray} {ret' : Option FieldType} {vals : (Nat → Nat) → List Value} {ok : Ok} {As rest : List Value} {T : u_T} {sl : List (Nat × Nat)} (hd : decode cc pc = .ok (.invokevirtual index, 3)) (hM : Ct Y y cc' nL' ret' d' vals σ ok) (hw : Cw y cc' nL' ret' n) (hl : (Cond.methodLink own index y ∈ AL) ∨ ∃ host, Cond.methodLinkNest own index y host ∈ NW) (hi : Cond.instanceMethod y ∈ AL) (hse : Cond.selects y.cls y y ∈ AL)
    (hv : vals (kad K) = .ref (kad K o) :: As) (hst : st = As.reverse ++ .ref (kad K o) :: rest) (hn : As.length = n) (hdd : d' + 1 ≤ d) (hLn : L.length = nL) (hY : Y[o]? = some (0, ci, sl)) (hc : vwCl[ci]? = some (y.cls, T, N)) (hr : (rest.map fun v => v.category).sum ≤ 8)
    (kk : ∀ v σ', ok v σ' → G K (pc + 3) L (v.toList ++ rest) (Wd K Y σ')) : G K pc L st (Wd K Y σ) := fun H locs ls hP hL => by
  have he : (wd (kcy K) (kad K) σ 0 Y)[o]? = some (kad K o, .inr (ci, slv (kad K) σ o 0 sl)) := wd_at hY
  have hf := C.c.2.2.2.2.2.2.1
  have hlo := C.c.2.2.2.2.2.2.2
  have hR : (rmd d').frames + 1 ≤ (kR K).frames ∧ 8 + (nL' + 11) + (rmd d').locals ≤ (kR K).locals := ⟨by show d' + 1 ≤ _; omega, by have := hw.2.2.2.2; show 8 + (nL' + 11) + 40 * d' ≤ _; omega⟩
  have hM' := hM (kl K) (kD K) (kcy K) (kad K) H.size
  have hpre : PreV (ks K) H y.cls (kad K o) (va_Pc (vals (kad K)) (fun U => U.heap.size = H.size ∧ Bx (kD K) (kcy K) (kad K) Y σ U ∧ Ev (Aof (kad K) Y.length H.size) U)) As := ⟨ct_blind, va_recv C.k hP.1 hc he, fun U hU hW => by rw [← hv]; exact ct_pre C hP U hU hW⟩
  have hz : ls.size = nL := hL.1.trans hLn
  rcases hl with hl | ⟨host, hl⟩
  · have cb : CallB (kR K) (ks K) (ka K) own index y cc' nL' ret' (.code y cc' nL' ret' :: AL) (rmd d') 0 0 n := callB_of n C.c.2.2.2.2.1 (ct_in hw.1) rfl rfl rfl (C.c.t hw.2.1) (C.c.t hl) ⟨hw.2.2.1.1, hw.2.2.1.2, hw.2.2.2.1⟩ hR
    exact ct_go C hP hL (va_runV (As := As) (rest := rest) C.c.fix hM' ⟨cb, C.c.t hi, C.c.t hse⟩ hpre rfl hn hz hst (lv_room hr) hd ⟨Nat.zero_le _, Nat.zero_le _⟩) kk
  · have cb : va_CN (kR K) (ks K) (ka K) own index y host cc' nL' ret' (.code y cc' nL' ret' :: AL) (rmd d') 0 0 n := va_cnB n C.c.2.2.2.2.1 (ct_in hw.1) rfl rfl rfl (C.e.1 _ hl) (C.c.t hw.2.1) ⟨hw.2.2.1.1, hw.2.2.1.2, hw.2.2.2.1⟩ hR
    exact ct_go C hP hL (va_runVN (As := As) (rest := rest) C.c.fix hM' ⟨cb, C.c.t hi, C.c.t hse⟩ hpre rfl hn hz hst (lv_room hr) hd ⟨Nat.zero_le _, Nat.zero_le _⟩) kk
theorem g_callS (C : Cx K Y cc own nL d ret) {index n d' nL' : Nat} {y : MethodName} {cc' : ByteArray} {ret' : Option FieldType} {vals : (Nat → Nat) → List Value} {ok : Ok} {As rest : List Value} (hd : decode cc pc = .ok (.invokestatic index, 3)) (hM : Ct Y y cc' nL' ret' d' vals σ ok) (hw : Cw y cc' nL' ret' n) (hl : (Cond.methodLink own index y ∈ AL) ∨ ∃ host, Cond.methodLinkNest own index y host ∈ NW) (hi : Cond.static y ∈ AL)
    (hv : vals (kad K) = As) (hst : st = As.reverse ++ rest) (hn : As.length = n) (hdd : d' + 1 ≤ d) (hLn : L.length = nL) (hr : (rest.map fun v => v.category).sum ≤ 8)
    (kk : ∀ v σ', ok v σ' → G K (pc + 3) L (v.toList ++ rest) (Wd K Y σ')) : G K pc L st (Wd K Y σ) := fun H locs ls hP hL => by
  have hf := C.c.2.2.2.2.2.2.1
  have hlo := C.c.2.2.2.2.2.2.2
  have hR : (rmd d').frames + 1 ≤ (kR K).frames ∧ 8 + (nL' + 11) + (rmd d').locals ≤ (kR K).locals := ⟨by show d' + 1 ≤ _; omega, by have := hw.2.2.2.2; show 8 + (nL' + 11) + 40 * d' ≤ _; omega⟩
  have hM' := hM (kl K) (kD K) (kcy K) (kad K) H.size
  have hpre : PreS (ks K) H (va_Pc (vals (kad K)) (fun U => U.heap.size = H.size ∧ Bx (kD K) (kcy K) (kad K) Y σ U ∧ Ev (Aof (kad K) Y.length H.size) U)) As := ⟨ct_blind, fun U hU hW => by rw [← hv]; exact ct_pre C hP U hU hW⟩
  have hz : ls.size = nL := hL.1.trans hLn
  rcases hl with hl | ⟨host, hl⟩
  · have cb : CallB (kR K) (ks K) (ka K) own index y cc' nL' ret' (.code y cc' nL' ret' :: AL) (rmd d') 0 0 n := callB_of n C.c.2.2.2.2.1 (ct_in hw.1) rfl rfl rfl (C.c.t hw.2.1) (C.c.t hl) ⟨hw.2.2.1.1, hw.2.2.1.2, hw.2.2.2.1⟩ hR
    exact ct_go C hP hL (va_runS (As := As) (rest := rest) C.c.fix hM' ⟨cb, C.c.t hi⟩ hpre rfl hn hz hst (lv_room hr) hd ⟨Nat.zero_le _, Nat.zero_le _⟩) kk
  · have cb : va_CN (kR K) (ks K) (ka K) own index y host cc' nL' ret' (.code y cc' nL' ret' :: AL) (rmd d') 0 0 n := va_cnB n C.c.2.2.2.2.1 (ct_in hw.1) rfl rfl rfl (C.e.1 _ hl) (C.c.t hw.2.1) ⟨hw.2.2.1.1, hw.2.2.1.2, hw.2.2.2.1⟩ hR
    exact ct_go C hP hL (va_runSN (As := As) (rest := rest) C.c.fix hM' ⟨cb, C.c.t hi, trivial⟩ hpre rfl hn hz hst (lv_room hr) hd ⟨Nat.zero_le _, Nat.zero_le _⟩) kk
end GCall
end
