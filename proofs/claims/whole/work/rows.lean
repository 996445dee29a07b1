section
-- ===== PART A: goes FIRST, ahead of the names: the tables' words, and 'selects' of the private methods out of them =====
/-- a private method of a class that the tables say can be made, by its rows of tables_1 -/
def lw_okq (q : MethodName × Nat) : Prop := (q.1.cls ≠ "java/lang/invoke/MethodHandle" ∧ q.1.cls ≠ "java/lang/invoke/VarHandle") ∧ Cond.instantiable q.1.cls q.2 ∈ tables_1 ∧ Cond.privateMethod q.1 ∈ tables_1 ∧ Cond.instanceMethod q.1 ∈ tables_1
theorem lw_p0 : lw_okq (⟨"IceForCoast$Page", "takes", "(I)Z"⟩, 7) := ⟨⟨by decide +kernel, by decide +kernel⟩, List.mem_of_getElem? (i := 23) (by decide +kernel), List.mem_of_getElem? (i := 373) (by decide +kernel), List.mem_of_getElem? (i := 374) (by decide +kernel)⟩
theorem lw_p1 : lw_okq (⟨"IceForCoast$Page", "takesRowEnd", "()Z"⟩, 7) := ⟨⟨by decide +kernel, by decide +kernel⟩, List.mem_of_getElem? (i := 23) (by decide +kernel), List.mem_of_getElem? (i := 377) (by decide +kernel), List.mem_of_getElem? (i := 378) (by decide +kernel)⟩
theorem lw_p2 : lw_okq (⟨"IceForCoast$Page", "takesSquare", "(I)Z"⟩, 7) := ⟨⟨by decide +kernel, by decide +kernel⟩, List.mem_of_getElem? (i := 23) (by decide +kernel), List.mem_of_getElem? (i := 384) (by decide +kernel), List.mem_of_getElem? (i := 385) (by decide +kernel)⟩
theorem lw_p3 : lw_okq (⟨"IceForCoast$Sea", "layLetter", "(I)V"⟩, 8) := ⟨⟨by decide +kernel, by decide +kernel⟩, List.mem_of_getElem? (i := 60) (by decide +kernel), List.mem_of_getElem? (i := 405) (by decide +kernel), List.mem_of_getElem? (i := 406) (by decide +kernel)⟩
theorem lw_p4 : lw_okq (⟨"IceForCoast$Sea", "measure", "()V"⟩, 8) := ⟨⟨by decide +kernel, by decide +kernel⟩, List.mem_of_getElem? (i := 60) (by decide +kernel), List.mem_of_getElem? (i := 410) (by decide +kernel), List.mem_of_getElem? (i := 411) (by decide +kernel)⟩
theorem lw_p5 : lw_okq (⟨"IceForCoast$Sea", "openWays", "(I)V"⟩, 8) := ⟨⟨by decide +kernel, by decide +kernel⟩, List.mem_of_getElem? (i := 60) (by decide +kernel), List.mem_of_getElem? (i := 417) (by decide +kernel), List.mem_of_getElem? (i := 418) (by decide +kernel)⟩
theorem lw_p6 : lw_okq (⟨"IceForCoast$Sea", "beside", "(II)I"⟩, 8) := ⟨⟨by decide +kernel, by decide +kernel⟩, List.mem_of_getElem? (i := 60) (by decide +kernel), List.mem_of_getElem? (i := 421) (by decide +kernel), List.mem_of_getElem? (i := 422) (by decide +kernel)⟩
theorem lw_p7 : lw_okq (⟨"IceForCoast", "isBerg", "(I)Z"⟩, 12) := ⟨⟨by decide +kernel, by decide +kernel⟩, List.mem_of_getElem? (i := 15) (by decide +kernel), List.mem_of_getElem? (i := 476) (by decide +kernel), List.mem_of_getElem? (i := 477) (by decide +kernel)⟩
theorem lw_p8 : lw_okq (⟨"IceForCoast", "hasWay", "(I)Z"⟩, 12) := ⟨⟨by decide +kernel, by decide +kernel⟩, List.mem_of_getElem? (i := 15) (by decide +kernel), List.mem_of_getElem? (i := 521) (by decide +kernel), List.mem_of_getElem? (i := 522) (by decide +kernel)⟩
theorem lw_p9 : lw_okq (⟨"IceForCoast$Tow", "isHopeless", "(I)Z"⟩, 17) := ⟨⟨by decide +kernel, by decide +kernel⟩, List.mem_of_getElem? (i := 54) (by decide +kernel), List.mem_of_getElem? (i := 534) (by decide +kernel), List.mem_of_getElem? (i := 535) (by decide +kernel)⟩
theorem lw_p10 : lw_okq (⟨"IceForCoast$Tow", "choose", "(I)V"⟩, 17) := ⟨⟨by decide +kernel, by decide +kernel⟩, List.mem_of_getElem? (i := 54) (by decide +kernel), List.mem_of_getElem? (i := 542) (by decide +kernel), List.mem_of_getElem? (i := 543) (by decide +kernel)⟩
theorem lw_p11 : lw_okq (⟨"IceForCoast$Tow", "pass", "(III)V"⟩, 17) := ⟨⟨by decide +kernel, by decide +kernel⟩, List.mem_of_getElem? (i := 54) (by decide +kernel), List.mem_of_getElem? (i := 549) (by decide +kernel), List.mem_of_getElem? (i := 550) (by decide +kernel)⟩
theorem lw_p12 : lw_okq (⟨"IceForCoast$Tow", "daysOfStep", "(III)I"⟩, 17) := ⟨⟨by decide +kernel, by decide +kernel⟩, List.mem_of_getElem? (i := 54) (by decide +kernel), List.mem_of_getElem? (i := 553) (by decide +kernel), List.mem_of_getElem? (i := 554) (by decide +kernel)⟩
theorem lw_p13 : lw_okq (⟨"IceForCoast$Tow", "drawnWarmth", "(I)I"⟩, 17) := ⟨⟨by decide +kernel, by decide +kernel⟩, List.mem_of_getElem? (i := 54) (by decide +kernel), List.mem_of_getElem? (i := 557) (by decide +kernel), List.mem_of_getElem? (i := 558) (by decide +kernel)⟩
theorem lw_p14 : lw_okq (⟨"IceForCoast", "weigh", "(I)V"⟩, 12) := ⟨⟨by decide +kernel, by decide +kernel⟩, List.mem_of_getElem? (i := 15) (by decide +kernel), List.mem_of_getElem? (i := 586) (by decide +kernel), List.mem_of_getElem? (i := 587) (by decide +kernel)⟩
theorem lw_p15 : lw_okq (⟨"IceForCoast$Ledger", "mostFrom", "(II)I"⟩, 4) := ⟨⟨by decide +kernel, by decide +kernel⟩, List.mem_of_getElem? (i := 260) (by decide +kernel), List.mem_of_getElem? (i := 608) (by decide +kernel), List.mem_of_getElem? (i := 609) (by decide +kernel)⟩
def lw_privs_1 : List (MethodName × Nat) := [(⟨"IceForCoast$Page", "takes", "(I)Z"⟩, 7), (⟨"IceForCoast$Page", "takesRowEnd", "()Z"⟩, 7), (⟨"IceForCoast$Page", "takesSquare", "(I)Z"⟩, 7), (⟨"IceForCoast$Sea", "layLetter", "(I)V"⟩, 8), (⟨"IceForCoast$Sea", "measure", "()V"⟩, 8), (⟨"IceForCoast$Sea", "openWays", "(I)V"⟩, 8), (⟨"IceForCoast$Sea", "beside", "(II)I"⟩, 8), (⟨"IceForCoast", "isBerg", "(I)Z"⟩, 12), (⟨"IceForCoast", "hasWay", "(I)Z"⟩, 12), (⟨"IceForCoast$Tow", "isHopeless", "(I)Z"⟩, 17), (⟨"IceForCoast$Tow", "choose", "(I)V"⟩, 17), (⟨"IceForCoast$Tow", "pass", "(III)V"⟩, 17), (⟨"IceForCoast$Tow", "daysOfStep", "(III)I"⟩, 17), (⟨"IceForCoast$Tow", "drawnWarmth", "(I)I"⟩, 17), (⟨"IceForCoast", "weigh", "(I)V"⟩, 12), (⟨"IceForCoast$Ledger", "mostFrom", "(II)I"⟩, 4)]
theorem lw_r1 : ∀ q ∈ lw_privs_1, lw_okq q := List.forall_mem_cons.mpr ⟨lw_p0, List.forall_mem_cons.mpr ⟨lw_p1, List.forall_mem_cons.mpr ⟨lw_p2, List.forall_mem_cons.mpr ⟨lw_p3, List.forall_mem_cons.mpr ⟨lw_p4, List.forall_mem_cons.mpr ⟨lw_p5, List.forall_mem_cons.mpr ⟨lw_p6, List.forall_mem_cons.mpr ⟨lw_p7, List.forall_mem_cons.mpr ⟨lw_p8, List.forall_mem_cons.mpr ⟨lw_p9, List.forall_mem_cons.mpr ⟨lw_p10, List.forall_mem_cons.mpr ⟨lw_p11, List.forall_mem_cons.mpr ⟨lw_p12, List.forall_mem_cons.mpr ⟨lw_p13, List.forall_mem_cons.mpr ⟨lw_p14, List.forall_mem_cons.mpr ⟨lw_p15, fun _ h => absurd h List.not_mem_nil⟩⟩⟩⟩⟩⟩⟩⟩⟩⟩⟩⟩⟩⟩⟩⟩
theorem lw_p16 : lw_okq (⟨"IceForCoast$Ledger", "gainBy", "(II)I"⟩, 4) := ⟨⟨by decide +kernel, by decide +kernel⟩, List.mem_of_getElem? (i := 260) (by decide +kernel), List.mem_of_getElem? (i := 612) (by decide +kernel), List.mem_of_getElem? (i := 613) (by decide +kernel)⟩
theorem lw_p17 : lw_okq (⟨"IceForCoast$Ledger", "fewestFor", "(II)I"⟩, 4) := ⟨⟨by decide +kernel, by decide +kernel⟩, List.mem_of_getElem? (i := 260) (by decide +kernel), List.mem_of_getElem? (i := 621) (by decide +kernel), List.mem_of_getElem? (i := 622) (by decide +kernel)⟩
theorem lw_p18 : lw_okq (⟨"IceForCoast$Odds", "letOffNow", "(II)J"⟩, 4) := ⟨⟨by decide +kernel, by decide +kernel⟩, List.mem_of_getElem? (i := 285) (by decide +kernel), List.mem_of_getElem? (i := 651) (by decide +kernel), List.mem_of_getElem? (i := 652) (by decide +kernel)⟩
theorem lw_p19 : lw_okq (⟨"IceForCoast$Odds", "heldNow", "(III)J"⟩, 4) := ⟨⟨by decide +kernel, by decide +kernel⟩, List.mem_of_getElem? (i := 285) (by decide +kernel), List.mem_of_getElem? (i := 657) (by decide +kernel), List.mem_of_getElem? (i := 658) (by decide +kernel)⟩
theorem lw_p20 : lw_okq (⟨"IceForCoast$Lines", "counts", "(III)Z"⟩, 4) := ⟨⟨by decide +kernel, by decide +kernel⟩, List.mem_of_getElem? (i := 209) (by decide +kernel), List.mem_of_getElem? (i := 686) (by decide +kernel), List.mem_of_getElem? (i := 687) (by decide +kernel)⟩
theorem lw_p21 : lw_okq (⟨"IceForCoastModel", "faultOf", "()I"⟩, 52) := ⟨⟨by decide +kernel, by decide +kernel⟩, List.mem_of_getElem? (i := 739) (by decide +kernel), List.mem_of_getElem? (i := 915) (by decide +kernel), List.mem_of_getElem? (i := 916) (by decide +kernel)⟩
theorem lw_p22 : lw_okq (⟨"IceForCoastModel", "go", "(I)Z"⟩, 52) := ⟨⟨by decide +kernel, by decide +kernel⟩, List.mem_of_getElem? (i := 739) (by decide +kernel), List.mem_of_getElem? (i := 919) (by decide +kernel), List.mem_of_getElem? (i := 920) (by decide +kernel)⟩
theorem lw_p23 : lw_okq (⟨"IceForCoastModel", "readAt", "()I"⟩, 52) := ⟨⟨by decide +kernel, by decide +kernel⟩, List.mem_of_getElem? (i := 739) (by decide +kernel), List.mem_of_getElem? (i := 926) (by decide +kernel), List.mem_of_getElem? (i := 927) (by decide +kernel)⟩
theorem lw_p24 : lw_okq (⟨"IceForCoastModel", "isSquare", "(I)Z"⟩, 52) := ⟨⟨by decide +kernel, by decide +kernel⟩, List.mem_of_getElem? (i := 739) (by decide +kernel), List.mem_of_getElem? (i := 943) (by decide +kernel), List.mem_of_getElem? (i := 944) (by decide +kernel)⟩
theorem lw_p25 : lw_okq (⟨"IceForCoastModel", "tellSquare", "(II)I"⟩, 52) := ⟨⟨by decide +kernel, by decide +kernel⟩, List.mem_of_getElem? (i := 739) (by decide +kernel), List.mem_of_getElem? (i := 947) (by decide +kernel), List.mem_of_getElem? (i := 948) (by decide +kernel)⟩
theorem lw_p26 : lw_okq (⟨"IceForCoastModel", "farOf", "(I)I"⟩, 52) := ⟨⟨by decide +kernel, by decide +kernel⟩, List.mem_of_getElem? (i := 739) (by decide +kernel), List.mem_of_getElem? (i := 951) (by decide +kernel), List.mem_of_getElem? (i := 952) (by decide +kernel)⟩
theorem lw_p27 : lw_okq (⟨"IceForCoastModel", "isBerg", "(I)Z"⟩, 52) := ⟨⟨by decide +kernel, by decide +kernel⟩, List.mem_of_getElem? (i := 739) (by decide +kernel), List.mem_of_getElem? (i := 972) (by decide +kernel), List.mem_of_getElem? (i := 973) (by decide +kernel)⟩
theorem lw_p28 : lw_okq (⟨"IceForCoastModel", "tellTow", "(IIZI)I"⟩, 52) := ⟨⟨by decide +kernel, by decide +kernel⟩, List.mem_of_getElem? (i := 739) (by decide +kernel), List.mem_of_getElem? (i := 999) (by decide +kernel), List.mem_of_getElem? (i := 1000) (by decide +kernel)⟩
theorem lw_p29 : lw_okq (⟨"IceForCoastModel", "ownSize", "(I)I"⟩, 52) := ⟨⟨by decide +kernel, by decide +kernel⟩, List.mem_of_getElem? (i := 739) (by decide +kernel), List.mem_of_getElem? (i := 1003) (by decide +kernel), List.mem_of_getElem? (i := 1004) (by decide +kernel)⟩
theorem lw_p30 : lw_okq (⟨"IceForCoastModel", "layWays", "(IIIZ)V"⟩, 52) := ⟨⟨by decide +kernel, by decide +kernel⟩, List.mem_of_getElem? (i := 739) (by decide +kernel), List.mem_of_getElem? (i := 1007) (by decide +kernel), List.mem_of_getElem? (i := 1008) (by decide +kernel)⟩
theorem lw_p31 : lw_okq (⟨"IceForCoastModel", "to", "(II)I"⟩, 52) := ⟨⟨by decide +kernel, by decide +kernel⟩, List.mem_of_getElem? (i := 739) (by decide +kernel), List.mem_of_getElem? (i := 1011) (by decide +kernel), List.mem_of_getElem? (i := 1012) (by decide +kernel)⟩
def lw_privs_2 : List (MethodName × Nat) := [(⟨"IceForCoast$Ledger", "gainBy", "(II)I"⟩, 4), (⟨"IceForCoast$Ledger", "fewestFor", "(II)I"⟩, 4), (⟨"IceForCoast$Odds", "letOffNow", "(II)J"⟩, 4), (⟨"IceForCoast$Odds", "heldNow", "(III)J"⟩, 4), (⟨"IceForCoast$Lines", "counts", "(III)Z"⟩, 4), (⟨"IceForCoastModel", "faultOf", "()I"⟩, 52), (⟨"IceForCoastModel", "go", "(I)Z"⟩, 52), (⟨"IceForCoastModel", "readAt", "()I"⟩, 52), (⟨"IceForCoastModel", "isSquare", "(I)Z"⟩, 52), (⟨"IceForCoastModel", "tellSquare", "(II)I"⟩, 52), (⟨"IceForCoastModel", "farOf", "(I)I"⟩, 52), (⟨"IceForCoastModel", "isBerg", "(I)Z"⟩, 52), (⟨"IceForCoastModel", "tellTow", "(IIZI)I"⟩, 52), (⟨"IceForCoastModel", "ownSize", "(I)I"⟩, 52), (⟨"IceForCoastModel", "layWays", "(IIIZ)V"⟩, 52), (⟨"IceForCoastModel", "to", "(II)I"⟩, 52)]
theorem lw_r2 : ∀ q ∈ lw_privs_2, lw_okq q := List.forall_mem_cons.mpr ⟨lw_p16, List.forall_mem_cons.mpr ⟨lw_p17, List.forall_mem_cons.mpr ⟨lw_p18, List.forall_mem_cons.mpr ⟨lw_p19, List.forall_mem_cons.mpr ⟨lw_p20, List.forall_mem_cons.mpr ⟨lw_p21, List.forall_mem_cons.mpr ⟨lw_p22, List.forall_mem_cons.mpr ⟨lw_p23, List.forall_mem_cons.mpr ⟨lw_p24, List.forall_mem_cons.mpr ⟨lw_p25, List.forall_mem_cons.mpr ⟨lw_p26, List.forall_mem_cons.mpr ⟨lw_p27, List.forall_mem_cons.mpr ⟨lw_p28, List.forall_mem_cons.mpr ⟨lw_p29, List.forall_mem_cons.mpr ⟨lw_p30, List.forall_mem_cons.mpr ⟨lw_p31, fun _ h => absurd h List.not_mem_nil⟩⟩⟩⟩⟩⟩⟩⟩⟩⟩⟩⟩⟩⟩⟩⟩
theorem lw_p32 : lw_okq (⟨"IceForCoastModel", "tryWay", "(IIIZI)V"⟩, 52) := ⟨⟨by decide +kernel, by decide +kernel⟩, List.mem_of_getElem? (i := 739) (by decide +kernel), List.mem_of_getElem? (i := 1015) (by decide +kernel), List.mem_of_getElem? (i := 1016) (by decide +kernel)⟩
theorem lw_p33 : lw_okq (⟨"IceForCoastModel", "begin", "(IIIZ)V"⟩, 52) := ⟨⟨by decide +kernel, by decide +kernel⟩, List.mem_of_getElem? (i := 739) (by decide +kernel), List.mem_of_getElem? (i := 1019) (by decide +kernel), List.mem_of_getElem? (i := 1020) (by decide +kernel)⟩
theorem lw_p34 : lw_okq (⟨"IceForCoastModel", "towAll", "(I)V"⟩, 52) := ⟨⟨by decide +kernel, by decide +kernel⟩, List.mem_of_getElem? (i := 739) (by decide +kernel), List.mem_of_getElem? (i := 1023) (by decide +kernel), List.mem_of_getElem? (i := 1024) (by decide +kernel)⟩
theorem lw_p35 : lw_okq (⟨"IceForCoastModel", "step", "(II)V"⟩, 52) := ⟨⟨by decide +kernel, by decide +kernel⟩, List.mem_of_getElem? (i := 739) (by decide +kernel), List.mem_of_getElem? (i := 1027) (by decide +kernel), List.mem_of_getElem? (i := 1028) (by decide +kernel)⟩
theorem lw_p36 : lw_okq (⟨"IceForCoastModel", "day", "(I)V"⟩, 52) := ⟨⟨by decide +kernel, by decide +kernel⟩, List.mem_of_getElem? (i := 739) (by decide +kernel), List.mem_of_getElem? (i := 1031) (by decide +kernel), List.mem_of_getElem? (i := 1032) (by decide +kernel)⟩
theorem lw_p37 : lw_okq (⟨"IceForCoastModel", "draw", "(I)I"⟩, 52) := ⟨⟨by decide +kernel, by decide +kernel⟩, List.mem_of_getElem? (i := 739) (by decide +kernel), List.mem_of_getElem? (i := 1035) (by decide +kernel), List.mem_of_getElem? (i := 1036) (by decide +kernel)⟩
theorem lw_p38 : lw_okq (⟨"IceForCoastModel", "waysOf", "(I)I"⟩, 52) := ⟨⟨by decide +kernel, by decide +kernel⟩, List.mem_of_getElem? (i := 739) (by decide +kernel), List.mem_of_getElem? (i := 1049) (by decide +kernel), List.mem_of_getElem? (i := 1050) (by decide +kernel)⟩
theorem lw_p39 : lw_okq (⟨"IceForCoastModel", "tellBest", "(II)I"⟩, 52) := ⟨⟨by decide +kernel, by decide +kernel⟩, List.mem_of_getElem? (i := 739) (by decide +kernel), List.mem_of_getElem? (i := 1057) (by decide +kernel), List.mem_of_getElem? (i := 1058) (by decide +kernel)⟩
theorem lw_p40 : lw_okq (⟨"IceForCoastModel", "lacks", "()Z"⟩, 52) := ⟨⟨by decide +kernel, by decide +kernel⟩, List.mem_of_getElem? (i := 739) (by decide +kernel), List.mem_of_getElem? (i := 1066) (by decide +kernel), List.mem_of_getElem? (i := 1067) (by decide +kernel)⟩
theorem lw_p41 : lw_okq (⟨"IceForCoastModel", "seasonOf", "(II)I"⟩, 52) := ⟨⟨by decide +kernel, by decide +kernel⟩, List.mem_of_getElem? (i := 739) (by decide +kernel), List.mem_of_getElem? (i := 1071) (by decide +kernel), List.mem_of_getElem? (i := 1072) (by decide +kernel)⟩
theorem lw_p42 : lw_okq (⟨"IceForCoastModel", "countOf", "(I)I"⟩, 52) := ⟨⟨by decide +kernel, by decide +kernel⟩, List.mem_of_getElem? (i := 739) (by decide +kernel), List.mem_of_getElem? (i := 1118) (by decide +kernel), List.mem_of_getElem? (i := 1119) (by decide +kernel)⟩
theorem lw_p43 : lw_okq (⟨"IceForCoastModel", "say", "(J)V"⟩, 52) := ⟨⟨by decide +kernel, by decide +kernel⟩, List.mem_of_getElem? (i := 739) (by decide +kernel), List.mem_of_getElem? (i := 1127) (by decide +kernel), List.mem_of_getElem? (i := 1128) (by decide +kernel)⟩
theorem lw_p44 : lw_okq (⟨"IceForCoastModel", "sayBerg", "(I)V"⟩, 52) := ⟨⟨by decide +kernel, by decide +kernel⟩, List.mem_of_getElem? (i := 739) (by decide +kernel), List.mem_of_getElem? (i := 1132) (by decide +kernel), List.mem_of_getElem? (i := 1133) (by decide +kernel)⟩
def lw_privs_3 : List (MethodName × Nat) := [(⟨"IceForCoastModel", "tryWay", "(IIIZI)V"⟩, 52), (⟨"IceForCoastModel", "begin", "(IIIZ)V"⟩, 52), (⟨"IceForCoastModel", "towAll", "(I)V"⟩, 52), (⟨"IceForCoastModel", "step", "(II)V"⟩, 52), (⟨"IceForCoastModel", "day", "(I)V"⟩, 52), (⟨"IceForCoastModel", "draw", "(I)I"⟩, 52), (⟨"IceForCoastModel", "waysOf", "(I)I"⟩, 52), (⟨"IceForCoastModel", "tellBest", "(II)I"⟩, 52), (⟨"IceForCoastModel", "lacks", "()Z"⟩, 52), (⟨"IceForCoastModel", "seasonOf", "(II)I"⟩, 52), (⟨"IceForCoastModel", "countOf", "(I)I"⟩, 52), (⟨"IceForCoastModel", "say", "(J)V"⟩, 52), (⟨"IceForCoastModel", "sayBerg", "(I)V"⟩, 52)]
theorem lw_r3 : ∀ q ∈ lw_privs_3, lw_okq q := List.forall_mem_cons.mpr ⟨lw_p32, List.forall_mem_cons.mpr ⟨lw_p33, List.forall_mem_cons.mpr ⟨lw_p34, List.forall_mem_cons.mpr ⟨lw_p35, List.forall_mem_cons.mpr ⟨lw_p36, List.forall_mem_cons.mpr ⟨lw_p37, List.forall_mem_cons.mpr ⟨lw_p38, List.forall_mem_cons.mpr ⟨lw_p39, List.forall_mem_cons.mpr ⟨lw_p40, List.forall_mem_cons.mpr ⟨lw_p41, List.forall_mem_cons.mpr ⟨lw_p42, List.forall_mem_cons.mpr ⟨lw_p43, List.forall_mem_cons.mpr ⟨lw_p44, fun _ h => absurd h List.not_mem_nil⟩⟩⟩⟩⟩⟩⟩⟩⟩⟩⟩⟩⟩
def lw_privs : List (MethodName × Nat) := lw_privs_1 ++ (lw_privs_2 ++ (lw_privs_3))
def lw_tbl : List Cond := k2_sels lw_privs ++ tables_1
theorem lw_privs_ok : ∀ q ∈ lw_privs, lw_okq q := by
  show ∀ q ∈ lw_privs_1 ++ (lw_privs_2 ++ (lw_privs_3)), lw_okq q
  exact List.forall_mem_append.mpr ⟨lw_r1, List.forall_mem_append.mpr ⟨lw_r2, lw_r3⟩⟩
/-! ===== BEGIN printed: names, fields, word lists, decode rows ===== -/
def RX0 : String := "IceForCoast$Berg"
def TX0 : u_T := fun k => match k with
  | 0 => ("IceForCoast$Berg", "kind", "I", false)
  | 1 => ("IceForCoast$Berg", "square", "I", false)
  | 2 => ("IceForCoast$Berg", "size", "I", false)
  | 3 => ("IceForCoast$Berg", "foot", "I", false)
  | 4 => ("IceForCoast$Berg", "n", "I", false)
  | _ => ("IceForCoast$Berg", "flat", "Z", false)
def tyX0 : Nat → FieldType := fun k => match k with
  | 0 => .int
  | 1 => .int
  | 2 => .int
  | 3 => .int
  | 4 => .int
  | _ => .boolean
abbrev wsX00 : List Cond := u_ws RX0 TX0 6
theorem nmX0 : ∀ a, a < 6 → ∀ b, b < 6 → a ≠ b → (TX0 a).2.1 ≠ (TX0 b).2.1 := by decide +kernel
theorem tyX0_ok : ∀ k, k < 6 → parseFieldDescriptor (TX0 k).2.2.1 = some (tyX0 k) := by decide +kernel
abbrev cX0_init : ByteArray := prog_2_method_1_code
def yX0_init : MethodName := ⟨RX0, "<init>", "()V"⟩
abbrev cX0_isKind : ByteArray := prog_2_method_2_code
def yX0_isKind : MethodName := ⟨RX0, "isKind", "(I)Z"⟩
abbrev cX0_mayBreak : ByteArray := prog_2_method_3_code
def yX0_mayBreak : MethodName := ⟨RX0, "mayBreak", "(II)Z"⟩
abbrev cX0_become : ByteArray := prog_2_method_4_code
def yX0_become : MethodName := ⟨RX0, "become", "(IIIII)V"⟩
abbrev cX0_isA : ByteArray := prog_2_method_5_code
def yX0_isA : MethodName := ⟨RX0, "isA", "(I)Z"⟩
abbrev cX0_meltOf : ByteArray := prog_2_method_6_code
def yX0_meltOf : MethodName := ⟨RX0, "meltOf", "(II)I"⟩
abbrev cX0_breaksOn : ByteArray := prog_2_method_7_code
def yX0_breaksOn : MethodName := ⟨RX0, "breaksOn", "(I)Z"⟩
def RX1 : String := "IceForCoast$Coins"
def TX1 : u_T := fun k => match k with
  | _ => ("IceForCoast$Coins", "value", "[I", true)
def tyX1 : Nat → FieldType := fun k => match k with
  | _ => .array .int
abbrev wsX10 : List Cond := u_ws RX1 TX1 1
theorem nmX1 : ∀ a, a < 1 → ∀ b, b < 1 → a ≠ b → (TX1 a).2.1 ≠ (TX1 b).2.1 := by decide +kernel
theorem tyX1_ok : ∀ k, k < 1 → parseFieldDescriptor (TX1 k).2.2.1 = some (tyX1 k) := by decide +kernel
abbrev cX1_init : ByteArray := prog_3_method_1_code
def yX1_init : MethodName := ⟨RX1, "<init>", "()V"⟩
abbrev cX1_mayBe : ByteArray := prog_3_method_2_code
def yX1_mayBe : MethodName := ⟨RX1, "mayBe", "(II)Z"⟩
abbrev cX1_put : ByteArray := prog_3_method_3_code
def yX1_put : MethodName := ⟨RX1, "put", "(II)I"⟩
abbrev cX1_copy : ByteArray := prog_3_method_4_code
def yX1_copy : MethodName := ⟨RX1, "copy", "(LIceForCoast$Coins;)V"⟩
abbrev cX1_gainOf : ByteArray := prog_3_method_5_code
def yX1_gainOf : MethodName := ⟨RX1, "gainOf", "(IIIZ)I"⟩
def RX2 : String := "IceForCoast$Image"
def TX2 : u_T := fun k => match k with
  | 0 => ("IceForCoast$Image", "sizes", "[I", true)
  | 1 => ("IceForCoast$Image", "feet", "[I", true)
  | 2 => ("IceForCoast$Image", "coins", "LIceForCoast$Coins;", true)
  | 3 => ("IceForCoast$Image", "bergCount", "I", false)
  | 4 => ("IceForCoast$Image", "lineCount", "I", false)
  | _ => ("IceForCoast$Image", "seaNumber", "I", false)
def tyX2 : Nat → FieldType := fun k => match k with
  | 0 => .array .int
  | 1 => .array .int
  | 2 => .object "IceForCoast$Coins"
  | 3 => .int
  | 4 => .int
  | _ => .int
abbrev wsX20 : List Cond := u_ws RX2 TX2 6
theorem nmX2 : ∀ a, a < 6 → ∀ b, b < 6 → a ≠ b → (TX2 a).2.1 ≠ (TX2 b).2.1 := by decide +kernel
theorem tyX2_ok : ∀ k, k < 6 → parseFieldDescriptor (TX2 k).2.2.1 = some (tyX2 k) := by decide +kernel
abbrev cX2_init : ByteArray := prog_4_method_1_code
def yX2_init : MethodName := ⟨RX2, "<init>", "()V"⟩
abbrev cX2_keep : ByteArray := prog_4_method_2_code
def yX2_keep : MethodName := ⟨RX2, "keep", "([LIceForCoast$Berg;ILIceForCoast$Coins;)V"⟩
abbrev cX2_giveBack : ByteArray := prog_4_method_3_code
def yX2_giveBack : MethodName := ⟨RX2, "giveBack", "([LIceForCoast$Berg;LIceForCoast$Coins;)V"⟩
def RX3 : String := "IceForCoast$Ledger"
def TX3 : u_T := fun k => match k with
  | 0 => ("IceForCoast$Ledger", "gains", "[[I", true)
  | 1 => ("IceForCoast$Ledger", "known", "[Z", true)
  | 2 => ("IceForCoast$Ledger", "towable", "[Z", true)
  | _ => ("IceForCoast$Ledger", "most", "[[I", true)
def tyX3 : Nat → FieldType := fun k => match k with
  | 0 => .array (.array .int)
  | 1 => .array .boolean
  | 2 => .array .boolean
  | _ => .array (.array .int)
abbrev wsX30 : List Cond := u_ws RX3 TX3 4
theorem nmX3 : ∀ a, a < 4 → ∀ b, b < 4 → a ≠ b → (TX3 a).2.1 ≠ (TX3 b).2.1 := by decide +kernel
theorem tyX3_ok : ∀ k, k < 4 → parseFieldDescriptor (TX3 k).2.2.1 = some (tyX3 k) := by decide +kernel
abbrev cX3_init : ByteArray := prog_5_method_1_code
def yX3_init : MethodName := ⟨RX3, "<init>", "()V"⟩
abbrev cX3_tugsOf : ByteArray := prog_5_method_2_code
def yX3_tugsOf : MethodName := ⟨RX3, "tugsOf", "(I)I"⟩
abbrev cX3_hasSkirt : ByteArray := prog_5_method_3_code
def yX3_hasSkirt : MethodName := ⟨RX3, "hasSkirt", "(I)Z"⟩
abbrev cX3_forget : ByteArray := prog_5_method_4_code
def yX3_forget : MethodName := ⟨RX3, "forget", "(I)V"⟩
abbrev cX3_forgetAll : ByteArray := prog_5_method_5_code
def yX3_forgetAll : MethodName := ⟨RX3, "forgetAll", "()V"⟩
abbrev cX3_bestEntry : ByteArray := prog_5_method_6_code
def yX3_bestEntry : MethodName := ⟨RX3, "bestEntry", "(I)I"⟩
abbrev cX3_deal : ByteArray := prog_5_method_7_code
def yX3_deal : MethodName := ⟨RX3, "deal", "(I)V"⟩
abbrev cX3_mostFrom : ByteArray := prog_5_method_8_code
def yX3_mostFrom : MethodName := ⟨RX3, "mostFrom", "(II)I"⟩
abbrev cX3_gainBy : ByteArray := prog_5_method_9_code
def yX3_gainBy : MethodName := ⟨RX3, "gainBy", "(II)I"⟩
abbrev cX3_tugsFor : ByteArray := prog_5_method_10_code
def yX3_tugsFor : MethodName := ⟨RX3, "tugsFor", "(II)I"⟩
abbrev cX3_fewestFor : ByteArray := prog_5_method_11_code
def yX3_fewestFor : MethodName := ⟨RX3, "fewestFor", "(II)I"⟩
def RX4 : String := "IceForCoast$Lines"
def TX4 : u_T := fun k => match k with
  | 0 => ("IceForCoast$Lines", "house", "[I", true)
  | 1 => ("IceForCoast$Lines", "berg", "[I", true)
  | 2 => ("IceForCoast$Lines", "day", "[I", true)
  | _ => ("IceForCoast$Lines", "length", "I", false)
def tyX4 : Nat → FieldType := fun k => match k with
  | 0 => .array .int
  | 1 => .array .int
  | 2 => .array .int
  | _ => .int
abbrev wsX40 : List Cond := u_ws RX4 TX4 4
theorem nmX4 : ∀ a, a < 4 → ∀ b, b < 4 → a ≠ b → (TX4 a).2.1 ≠ (TX4 b).2.1 := by decide +kernel
theorem tyX4_ok : ∀ k, k < 4 → parseFieldDescriptor (TX4 k).2.2.1 = some (tyX4 k) := by decide +kernel
abbrev cX4_init : ByteArray := prog_6_method_1_code
def yX4_init : MethodName := ⟨RX4, "<init>", "()V"⟩
abbrev cX4_add : ByteArray := prog_6_method_2_code
def yX4_add : MethodName := ⟨RX4, "add", "(III)Z"⟩
abbrev cX4_cutTo : ByteArray := prog_6_method_3_code
def yX4_cutTo : MethodName := ⟨RX4, "cutTo", "(I)V"⟩
abbrev cX4_counts : ByteArray := prog_6_method_4_code
def yX4_counts : MethodName := ⟨RX4, "counts", "(III)Z"⟩
abbrev cX4_allIfFirst : ByteArray := prog_6_method_5_code
def yX4_allIfFirst : MethodName := ⟨RX4, "allIfFirst", "(III)I"⟩
abbrev cX4_sharesOf : ByteArray := prog_6_method_6_code
def yX4_sharesOf : MethodName := ⟨RX4, "sharesOf", "(IIIZ)I"⟩
abbrev cX4_sharesOfAll : ByteArray := prog_6_method_7_code
def yX4_sharesOfAll : MethodName := ⟨RX4, "sharesOfAll", "(IIZ)I"⟩
def RX5 : String := "IceForCoast$Odds"
def TX5 : u_T := fun k => match k with
  | 0 => ("IceForCoast$Odds", "water", "[J", true)
  | 1 => ("IceForCoast$Odds", "above", "J", false)
  | 2 => ("IceForCoast$Odds", "below", "J", false)
  | _ => ("IceForCoast$Odds", "letsOff", "Z", false)
def tyX5 : Nat → FieldType := fun k => match k with
  | 0 => .array .long
  | 1 => .long
  | 2 => .long
  | _ => .boolean
abbrev wsX50 : List Cond := u_ws RX5 TX5 4
theorem nmX5 : ∀ a, a < 4 → ∀ b, b < 4 → a ≠ b → (TX5 a).2.1 ≠ (TX5 b).2.1 := by decide +kernel
theorem tyX5_ok : ∀ k, k < 4 → parseFieldDescriptor (TX5 k).2.2.1 = some (tyX5 k) := by decide +kernel
abbrev cX5_init : ByteArray := prog_7_method_1_code
def yX5_init : MethodName := ⟨RX5, "<init>", "()V"⟩
abbrev cX5_reckon : ByteArray := prog_7_method_2_code
def yX5_reckon : MethodName := ⟨RX5, "reckon", "(IIII)V"⟩
abbrev cX5_letOffNow : ByteArray := prog_7_method_3_code
def yX5_letOffNow : MethodName := ⟨RX5, "letOffNow", "(II)J"⟩
abbrev cX5_heldNow : ByteArray := prog_7_method_4_code
def yX5_heldNow : MethodName := ⟨RX5, "heldNow", "(III)J"⟩
def RX6 : String := "IceForCoast$Page"
def TX6 : u_T := fun k => match k with
  | 0 => ("IceForCoast$Page", "codes", "[I", true)
  | 1 => ("IceForCoast$Page", "length", "I", false)
  | 2 => ("IceForCoast$Page", "row", "I", false)
  | 3 => ("IceForCoast$Page", "inRow", "I", false)
  | 4 => ("IceForCoast$Page", "width", "I", false)
  | 5 => ("IceForCoast$Page", "harbours", "I", false)
  | _ => ("IceForCoast$Page", "currentMayCome", "Z", false)
def tyX6 : Nat → FieldType := fun k => match k with
  | 0 => .array .int
  | 1 => .int
  | 2 => .int
  | 3 => .int
  | 4 => .int
  | 5 => .int
  | _ => .boolean
abbrev wsX60 : List Cond := u_ws RX6 TX6 7
theorem nmX6 : ∀ a, a < 7 → ∀ b, b < 7 → a ≠ b → (TX6 a).2.1 ≠ (TX6 b).2.1 := by decide +kernel
theorem tyX6_ok : ∀ k, k < 7 → parseFieldDescriptor (TX6 k).2.2.1 = some (tyX6 k) := by decide +kernel
abbrev cX6_init : ByteArray := prog_8_method_1_code
def yX6_init : MethodName := ⟨RX6, "<init>", "()V"⟩
abbrev cX6_append : ByteArray := prog_8_method_2_code
def yX6_append : MethodName := ⟨RX6, "append", "(J)I"⟩
abbrev cX6_byteOf : ByteArray := prog_8_method_3_code
def yX6_byteOf : MethodName := ⟨RX6, "byteOf", "(JI)I"⟩
abbrev cX6_clear : ByteArray := prog_8_method_4_code
def yX6_clear : MethodName := ⟨RX6, "clear", "()I"⟩
abbrev cX6_codeAt : ByteArray := prog_8_method_5_code
def yX6_codeAt : MethodName := ⟨RX6, "codeAt", "(I)I"⟩
abbrev cX6_firstWrong : ByteArray := prog_8_method_6_code
def yX6_firstWrong : MethodName := ⟨RX6, "firstWrong", "()I"⟩
abbrev cX6_isSea : ByteArray := prog_8_method_7_code
def yX6_isSea : MethodName := ⟨RX6, "isSea", "()Z"⟩
abbrev cX6_takes : ByteArray := prog_8_method_8_code
def yX6_takes : MethodName := ⟨RX6, "takes", "(I)Z"⟩
abbrev cX6_takesRowEnd : ByteArray := prog_8_method_9_code
def yX6_takesRowEnd : MethodName := ⟨RX6, "takesRowEnd", "()Z"⟩
abbrev cX6_takesSquare : ByteArray := prog_8_method_10_code
def yX6_takesSquare : MethodName := ⟨RX6, "takesSquare", "(I)Z"⟩
def RX7 : String := "IceForCoast$Sea"
def TX7 : u_T := fun k => match k with
  | 0 => ("IceForCoast$Sea", "warmth", "[I", true)
  | 1 => ("IceForCoast$Sea", "current", "[I", true)
  | 2 => ("IceForCoast$Sea", "far", "[I", true)
  | 3 => ("IceForCoast$Sea", "waysFrom", "[I", true)
  | 4 => ("IceForCoast$Sea", "next", "[[I", true)
  | 5 => ("IceForCoast$Sea", "squares", "I", false)
  | 6 => ("IceForCoast$Sea", "width", "I", false)
  | _ => ("IceForCoast$Sea", "harbour", "I", false)
def tyX7 : Nat → FieldType := fun k => match k with
  | 0 => .array .int
  | 1 => .array .int
  | 2 => .array .int
  | 3 => .array .int
  | 4 => .array (.array .int)
  | 5 => .int
  | 6 => .int
  | _ => .int
abbrev wsX70 : List Cond := u_ws RX7 TX7 8
theorem nmX7 : ∀ a, a < 8 → ∀ b, b < 8 → a ≠ b → (TX7 a).2.1 ≠ (TX7 b).2.1 := by decide +kernel
theorem tyX7_ok : ∀ k, k < 8 → parseFieldDescriptor (TX7 k).2.2.1 = some (tyX7 k) := by decide +kernel
abbrev cX7_init : ByteArray := prog_9_method_1_code
def yX7_init : MethodName := ⟨RX7, "<init>", "()V"⟩
abbrev cX7_wayOf : ByteArray := prog_9_method_2_code
def yX7_wayOf : MethodName := ⟨RX7, "wayOf", "(I)I"⟩
abbrev cX7_has : ByteArray := prog_9_method_3_code
def yX7_has : MethodName := ⟨RX7, "has", "(I)Z"⟩
abbrev cX7_hasWarmth : ByteArray := prog_9_method_4_code
def yX7_hasWarmth : MethodName := ⟨RX7, "hasWarmth", "(I)Z"⟩
abbrev cX7_lay : ByteArray := prog_9_method_5_code
def yX7_lay : MethodName := ⟨RX7, "lay", "(LIceForCoast$Page;)V"⟩
abbrev cX7_layLetter : ByteArray := prog_9_method_6_code
def yX7_layLetter : MethodName := ⟨RX7, "layLetter", "(I)V"⟩
abbrev cX7_measure : ByteArray := prog_9_method_7_code
def yX7_measure : MethodName := ⟨RX7, "measure", "()V"⟩
abbrev cX7_openWays : ByteArray := prog_9_method_8_code
def yX7_openWays : MethodName := ⟨RX7, "openWays", "(I)V"⟩
abbrev cX7_beside : ByteArray := prog_9_method_9_code
def yX7_beside : MethodName := ⟨RX7, "beside", "(II)I"⟩
def RX8 : String := "IceForCoast$Tow"
def TX8 : u_T := fun k => match k with
  | 0 => ("IceForCoast$Tow", "sea", "LIceForCoast$Sea;", true)
  | 1 => ("IceForCoast$Tow", "coins", "LIceForCoast$Coins;", true)
  | 2 => ("IceForCoast$Tow", "sizeAt", "[I", true)
  | 3 => ("IceForCoast$Tow", "footAt", "[I", true)
  | 4 => ("IceForCoast$Tow", "dayAt", "[I", true)
  | 5 => ("IceForCoast$Tow", "trial", "[I", true)
  | 6 => ("IceForCoast$Tow", "chosen", "[I", true)
  | 7 => ("IceForCoast$Tow", "berg", "LIceForCoast$Berg;", false)
  | 8 => ("IceForCoast$Tow", "tugs", "I", false)
  | 9 => ("IceForCoast$Tow", "skirt", "Z", false)
  | 10 => ("IceForCoast$Tow", "found", "Z", false)
  | 11 => ("IceForCoast$Tow", "water", "I", false)
  | 12 => ("IceForCoast$Tow", "days", "I", false)
  | 13 => ("IceForCoast$Tow", "gain", "I", false)
  | 14 => ("IceForCoast$Tow", "steps", "I", false)
  | 15 => ("IceForCoast$Tow", "drawing", "Z", false)
  | _ => ("IceForCoast$Tow", "seed", "J", false)
def tyX8 : Nat → FieldType := fun k => match k with
  | 0 => .object "IceForCoast$Sea"
  | 1 => .object "IceForCoast$Coins"
  | 2 => .array .int
  | 3 => .array .int
  | 4 => .array .int
  | 5 => .array .int
  | 6 => .array .int
  | 7 => .object "IceForCoast$Berg"
  | 8 => .int
  | 9 => .boolean
  | 10 => .boolean
  | 11 => .int
  | 12 => .int
  | 13 => .int
  | 14 => .int
  | 15 => .boolean
  | _ => .long
abbrev wsX80 : List Cond := u_ws RX8 TX8 17
theorem nmX8 : ∀ a, a < 17 → ∀ b, b < 17 → a ≠ b → (TX8 a).2.1 ≠ (TX8 b).2.1 := by decide +kernel
theorem tyX8_ok : ∀ k, k < 17 → parseFieldDescriptor (TX8 k).2.2.1 = some (tyX8 k) := by decide +kernel
abbrev cX8_init : ByteArray := prog_10_method_1_code
def yX8_init : MethodName := ⟨RX8, "<init>", "()V"⟩
abbrev cX8_seek : ByteArray := prog_10_method_2_code
def yX8_seek : MethodName := ⟨RX8, "seek", "(LIceForCoast$Berg;IIZ)V"⟩
abbrev cX8_towAgain : ByteArray := prog_10_method_3_code
def yX8_towAgain : MethodName := ⟨RX8, "towAgain", "(I)V"⟩
abbrev cX8_stepAt : ByteArray := prog_10_method_4_code
def yX8_stepAt : MethodName := ⟨RX8, "stepAt", "(I)I"⟩
abbrev cX8_follow : ByteArray := prog_10_method_5_code
def yX8_follow : MethodName := ⟨RX8, "follow", "(LIceForCoast$Tow;II)V"⟩
abbrev cX8_isHopeless : ByteArray := prog_10_method_6_code
def yX8_isHopeless : MethodName := ⟨RX8, "isHopeless", "(I)Z"⟩
abbrev cX8_choose : ByteArray := prog_10_method_7_code
def yX8_choose : MethodName := ⟨RX8, "choose", "(I)V"⟩
abbrev cX8_pass : ByteArray := prog_10_method_8_code
def yX8_pass : MethodName := ⟨RX8, "pass", "(III)V"⟩
abbrev cX8_daysOfStep : ByteArray := prog_10_method_9_code
def yX8_daysOfStep : MethodName := ⟨RX8, "daysOfStep", "(III)I"⟩
abbrev cX8_drawnWarmth : ByteArray := prog_10_method_10_code
def yX8_drawnWarmth : MethodName := ⟨RX8, "drawnWarmth", "(I)I"⟩
def RX9 : String := "IceForCoast"
def TX9 : u_T := fun k => match k with
  | 0 => ("IceForCoast", "thePage", "LIceForCoast$Page;", true)
  | 1 => ("IceForCoast", "theTow", "LIceForCoast$Tow;", true)
  | 2 => ("IceForCoast", "theSea", "LIceForCoast$Sea;", true)
  | 3 => ("IceForCoast", "coins", "LIceForCoast$Coins;", true)
  | 4 => ("IceForCoast", "bergs", "[LIceForCoast$Berg;", true)
  | 5 => ("IceForCoast", "lines", "LIceForCoast$Lines;", true)
  | 6 => ("IceForCoast", "kept", "LIceForCoast$Image;", true)
  | 7 => ("IceForCoast", "ledger", "LIceForCoast$Ledger;", true)
  | 8 => ("IceForCoast", "theOdds", "LIceForCoast$Odds;", true)
  | 9 => ("IceForCoast", "bergCount", "I", false)
  | 10 => ("IceForCoast", "seasRead", "I", false)
  | _ => ("IceForCoast", "cameDone", "I", false)
def tyX9 : Nat → FieldType := fun k => match k with
  | 0 => .object "IceForCoast$Page"
  | 1 => .object "IceForCoast$Tow"
  | 2 => .object "IceForCoast$Sea"
  | 3 => .object "IceForCoast$Coins"
  | 4 => .array (.object "IceForCoast$Berg")
  | 5 => .object "IceForCoast$Lines"
  | 6 => .object "IceForCoast$Image"
  | 7 => .object "IceForCoast$Ledger"
  | 8 => .object "IceForCoast$Odds"
  | 9 => .int
  | 10 => .int
  | _ => .int
abbrev wsX90 : List Cond := u_ws RX9 TX9 12
theorem nmX9 : ∀ a, a < 12 → ∀ b, b < 12 → a ≠ b → (TX9 a).2.1 ≠ (TX9 b).2.1 := by decide +kernel
theorem tyX9_ok : ∀ k, k < 12 → parseFieldDescriptor (TX9 k).2.2.1 = some (tyX9 k) := by decide +kernel
abbrev cX9_init : ByteArray := prog_1_method_1_code
def yX9_init : MethodName := ⟨RX9, "<init>", "()V"⟩
abbrev cX9_letters : ByteArray := prog_1_method_2_code
def yX9_letters : MethodName := ⟨RX9, "letters", "(J)I"⟩
abbrev cX9_blank : ByteArray := prog_1_method_3_code
def yX9_blank : MethodName := ⟨RX9, "blank", "()I"⟩
abbrev cX9_fault : ByteArray := prog_1_method_4_code
def yX9_fault : MethodName := ⟨RX9, "fault", "()I"⟩
abbrev cX9_sea : ByteArray := prog_1_method_5_code
def yX9_sea : MethodName := ⟨RX9, "sea", "()I"⟩
abbrev cX9_square : ByteArray := prog_1_method_6_code
def yX9_square : MethodName := ⟨RX9, "square", "(II)I"⟩
abbrev cX9_berg : ByteArray := prog_1_method_7_code
def yX9_berg : MethodName := ⟨RX9, "berg", "(IIIII)I"⟩
abbrev cX9_as : ByteArray := prog_1_method_8_code
def yX9_as : MethodName := ⟨RX9, "as", "(II)I"⟩
abbrev cX9_about : ByteArray := prog_1_method_9_code
def yX9_about : MethodName := ⟨RX9, "about", "(II)I"⟩
abbrev cX9_change : ByteArray := prog_1_method_10_code
def yX9_change : MethodName := ⟨RX9, "change", "(III)I"⟩
abbrev cX9_coin : ByteArray := prog_1_method_11_code
def yX9_coin : MethodName := ⟨RX9, "coin", "(II)I"⟩
abbrev cX9_tow : ByteArray := prog_1_method_12_code
def yX9_tow : MethodName := ⟨RX9, "tow", "(IIZI)I"⟩
abbrev cX9_ways : ByteArray := prog_1_method_13_code
def yX9_ways : MethodName := ⟨RX9, "ways", "(I)I"⟩
abbrev cX9_best : ByteArray := prog_1_method_14_code
def yX9_best : MethodName := ⟨RX9, "best", "(II)I"⟩
abbrev cX9_season : ByteArray := prog_1_method_15_code
def yX9_season : MethodName := ⟨RX9, "season", "(II)I"⟩
abbrev cX9_more : ByteArray := prog_1_method_16_code
def yX9_more : MethodName := ⟨RX9, "more", "(I)I"⟩
abbrev cX9_drawn : ByteArray := prog_1_method_17_code
def yX9_drawn : MethodName := ⟨RX9, "drawn", "(IIZII)I"⟩
abbrev cX9_came : ByteArray := prog_1_method_18_code
def yX9_came : MethodName := ⟨RX9, "came", "(IIZII)I"⟩
abbrev cX9_letOff : ByteArray := prog_1_method_19_code
def yX9_letOff : MethodName := ⟨RX9, "letOff", "(IIIII)J"⟩
abbrev cX9_line : ByteArray := prog_1_method_20_code
def yX9_line : MethodName := ⟨RX9, "line", "(III)I"⟩
abbrev cX9_claims : ByteArray := prog_1_method_21_code
def yX9_claims : MethodName := ⟨RX9, "claims", "(IIIII)I"⟩
abbrev cX9_image : ByteArray := prog_1_method_22_code
def yX9_image : MethodName := ⟨RX9, "image", "()I"⟩
abbrev cX9_restore : ByteArray := prog_1_method_23_code
def yX9_restore : MethodName := ⟨RX9, "restore", "()I"⟩
abbrev cX9_count : ByteArray := prog_1_method_24_code
def yX9_count : MethodName := ⟨RX9, "count", "(I)I"⟩
abbrev cX9_digest : ByteArray := prog_1_method_25_code
def yX9_digest : MethodName := ⟨RX9, "digest", "()J"⟩
abbrev cX9_isBerg : ByteArray := prog_1_method_26_code
def yX9_isBerg : MethodName := ⟨RX9, "isBerg", "(I)Z"⟩
abbrev cX9_hasWay : ByteArray := prog_1_method_27_code
def yX9_hasWay : MethodName := ⟨RX9, "hasWay", "(I)Z"⟩
abbrev cX9_isTugs : ByteArray := prog_1_method_28_code
def yX9_isTugs : MethodName := ⟨RX9, "isTugs", "(I)Z"⟩
abbrev cX9_isHouse : ByteArray := prog_1_method_29_code
def yX9_isHouse : MethodName := ⟨RX9, "isHouse", "(I)Z"⟩
abbrev cX9_isSize : ByteArray := prog_1_method_30_code
def yX9_isSize : MethodName := ⟨RX9, "isSize", "(I)Z"⟩
abbrev cX9_isFoot : ByteArray := prog_1_method_31_code
def yX9_isFoot : MethodName := ⟨RX9, "isFoot", "(I)Z"⟩
abbrev cX9_weigh : ByteArray := prog_1_method_32_code
def yX9_weigh : MethodName := ⟨RX9, "weigh", "(I)V"⟩
abbrev cX9_commonDivisor : ByteArray := prog_1_method_33_code
def yX9_commonDivisor : MethodName := ⟨RX9, "commonDivisor", "(JJ)J"⟩
def RX10 : String := "IceForCoastModel"
def TX10 : u_T := fun k => match k with
  | 0 => ("IceForCoastModel", "page", "[I", true)
  | 1 => ("IceForCoastModel", "pageMany", "I", false)
  | 2 => ("IceForCoastModel", "readRows", "I", false)
  | 3 => ("IceForCoastModel", "readWide", "I", false)
  | 4 => ("IceForCoastModel", "readMany", "I", false)
  | 5 => ("IceForCoastModel", "readHarbour", "I", false)
  | 6 => ("IceForCoastModel", "mayFlow", "Z", false)
  | 7 => ("IceForCoastModel", "readWarm", "[I", true)
  | 8 => ("IceForCoastModel", "readFlow", "[I", true)
  | 9 => ("IceForCoastModel", "rows", "I", false)
  | 10 => ("IceForCoastModel", "wide", "I", false)
  | 11 => ("IceForCoastModel", "harbour", "I", false)
  | 12 => ("IceForCoastModel", "seasRead", "I", false)
  | 13 => ("IceForCoastModel", "warm", "[I", true)
  | 14 => ("IceForCoastModel", "flow", "[I", true)
  | 15 => ("IceForCoastModel", "bergs", "I", false)
  | 16 => ("IceForCoastModel", "bergRows", "[I", true)
  | 17 => ("IceForCoastModel", "price", "I", false)
  | 18 => ("IceForCoastModel", "wage", "I", false)
  | 19 => ("IceForCoastModel", "cloth", "I", false)
  | 20 => ("IceForCoastModel", "lines", "I", false)
  | 21 => ("IceForCoastModel", "lineRows", "[I", true)
  | 22 => ("IceForCoastModel", "kindNow", "I", false)
  | 23 => ("IceForCoastModel", "sizeNow", "I", false)
  | 24 => ("IceForCoastModel", "footNow", "I", false)
  | 25 => ("IceForCoastModel", "everyNow", "I", false)
  | 26 => ("IceForCoastModel", "daysNow", "I", false)
  | 27 => ("IceForCoastModel", "hasSkirt", "Z", false)
  | 28 => ("IceForCoastModel", "tugsNow", "I", false)
  | 29 => ("IceForCoastModel", "seedNow", "I", false)
  | 30 => ("IceForCoastModel", "way", "[I", true)
  | 31 => ("IceForCoastModel", "places", "[I", true)
  | 32 => ("IceForCoastModel", "bestWay", "[I", true)
  | 33 => ("IceForCoastModel", "bestSteps", "I", false)
  | 34 => ("IceForCoastModel", "bestWater", "I", false)
  | 35 => ("IceForCoastModel", "bestDays", "I", false)
  | 36 => ("IceForCoastModel", "bestGain", "I", false)
  | 37 => ("IceForCoastModel", "wayMany", "I", false)
  | 38 => ("IceForCoastModel", "gains", "[I", true)
  | 39 => ("IceForCoastModel", "most", "[I", true)
  | 40 => ("IceForCoastModel", "done", "I", false)
  | 41 => ("IceForCoastModel", "waterNow", "[J", true)
  | 42 => ("IceForCoastModel", "waterNext", "[J", true)
  | 43 => ("IceForCoastModel", "kept", "I", false)
  | 44 => ("IceForCoastModel", "keptSea", "I", false)
  | 45 => ("IceForCoastModel", "keptPrice", "I", false)
  | 46 => ("IceForCoastModel", "keptWage", "I", false)
  | 47 => ("IceForCoastModel", "keptCloth", "I", false)
  | 48 => ("IceForCoastModel", "keptLines", "I", false)
  | 49 => ("IceForCoastModel", "keptBergs", "[I", true)
  | 50 => ("IceForCoastModel", "keptRows", "[I", true)
  | _ => ("IceForCoastModel", "hash", "J", false)
def tyX10 : Nat → FieldType := fun k => match k with
  | 0 => .array .int
  | 1 => .int
  | 2 => .int
  | 3 => .int
  | 4 => .int
  | 5 => .int
  | 6 => .boolean
  | 7 => .array .int
  | 8 => .array .int
  | 9 => .int
  | 10 => .int
  | 11 => .int
  | 12 => .int
  | 13 => .array .int
  | 14 => .array .int
  | 15 => .int
  | 16 => .array .int
  | 17 => .int
  | 18 => .int
  | 19 => .int
  | 20 => .int
  | 21 => .array .int
  | 22 => .int
  | 23 => .int
  | 24 => .int
  | 25 => .int
  | 26 => .int
  | 27 => .boolean
  | 28 => .int
  | 29 => .int
  | 30 => .array .int
  | 31 => .array .int
  | 32 => .array .int
  | 33 => .int
  | 34 => .int
  | 35 => .int
  | 36 => .int
  | 37 => .int
  | 38 => .array .int
  | 39 => .array .int
  | 40 => .int
  | 41 => .array .long
  | 42 => .array .long
  | 43 => .int
  | 44 => .int
  | 45 => .int
  | 46 => .int
  | 47 => .int
  | 48 => .int
  | 49 => .array .int
  | 50 => .array .int
  | _ => .long
abbrev wsX100 : List Cond := u_ws RX10 TX10 52
theorem nmX10 : ∀ a, a < 52 → ∀ b, b < 52 → a ≠ b → (TX10 a).2.1 ≠ (TX10 b).2.1 := by decide +kernel
theorem tyX10_ok : ∀ k, k < 52 → parseFieldDescriptor (TX10 k).2.2.1 = some (tyX10 k) := by decide +kernel
abbrev cX10_init : ByteArray := prog_12_method_1_code
def yX10_init : MethodName := ⟨RX10, "<init>", "()V"⟩
abbrev cX10_in : ByteArray := prog_12_method_2_code
def yX10_in : MethodName := ⟨RX10, "in", "(JJJ)Z"⟩
abbrev cX10_letters : ByteArray := prog_12_method_3_code
def yX10_letters : MethodName := ⟨RX10, "letters", "(J)I"⟩
abbrev cX10_blank : ByteArray := prog_12_method_4_code
def yX10_blank : MethodName := ⟨RX10, "blank", "()I"⟩
abbrev cX10_flowOf : ByteArray := prog_12_method_5_code
def yX10_flowOf : MethodName := ⟨RX10, "flowOf", "(I)I"⟩
abbrev cX10_go : ByteArray := prog_12_method_6_code
def yX10_go : MethodName := ⟨RX10, "go", "(I)Z"⟩
abbrev cX10_readAt : ByteArray := prog_12_method_7_code
def yX10_readAt : MethodName := ⟨RX10, "readAt", "()I"⟩
abbrev cX10_faultOf : ByteArray := prog_12_method_8_code
def yX10_faultOf : MethodName := ⟨RX10, "faultOf", "()I"⟩
abbrev cX10_fault : ByteArray := prog_12_method_9_code
def yX10_fault : MethodName := ⟨RX10, "fault", "()I"⟩
abbrev cX10_sea : ByteArray := prog_12_method_10_code
def yX10_sea : MethodName := ⟨RX10, "sea", "()I"⟩
abbrev cX10_lacks : ByteArray := prog_12_method_11_code
def yX10_lacks : MethodName := ⟨RX10, "lacks", "()Z"⟩
abbrev cX10_isSquare : ByteArray := prog_12_method_12_code
def yX10_isSquare : MethodName := ⟨RX10, "isSquare", "(I)Z"⟩
abbrev cX10_size : ByteArray := prog_12_method_13_code
def yX10_size : MethodName := ⟨RX10, "size", "(I)I"⟩
abbrev cX10_farOf : ByteArray := prog_12_method_14_code
def yX10_farOf : MethodName := ⟨RX10, "farOf", "(I)I"⟩
abbrev cX10_tellSquare : ByteArray := prog_12_method_15_code
def yX10_tellSquare : MethodName := ⟨RX10, "tellSquare", "(II)I"⟩
abbrev cX10_square : ByteArray := prog_12_method_16_code
def yX10_square : MethodName := ⟨RX10, "square", "(II)I"⟩
abbrev cX10_berg : ByteArray := prog_12_method_17_code
def yX10_berg : MethodName := ⟨RX10, "berg", "(IIIII)I"⟩
abbrev cX10_isBerg : ByteArray := prog_12_method_18_code
def yX10_isBerg : MethodName := ⟨RX10, "isBerg", "(I)Z"⟩
abbrev cX10_as : ByteArray := prog_12_method_19_code
def yX10_as : MethodName := ⟨RX10, "as", "(II)I"⟩
abbrev cX10_about : ByteArray := prog_12_method_20_code
def yX10_about : MethodName := ⟨RX10, "about", "(II)I"⟩
abbrev cX10_change : ByteArray := prog_12_method_21_code
def yX10_change : MethodName := ⟨RX10, "change", "(III)I"⟩
abbrev cX10_coin : ByteArray := prog_12_method_22_code
def yX10_coin : MethodName := ⟨RX10, "coin", "(II)I"⟩
abbrev cX10_draw : ByteArray := prog_12_method_23_code
def yX10_draw : MethodName := ⟨RX10, "draw", "(I)I"⟩
abbrev cX10_day : ByteArray := prog_12_method_24_code
def yX10_day : MethodName := ⟨RX10, "day", "(I)V"⟩
abbrev cX10_step : ByteArray := prog_12_method_25_code
def yX10_step : MethodName := ⟨RX10, "step", "(II)V"⟩
abbrev cX10_to : ByteArray := prog_12_method_26_code
def yX10_to : MethodName := ⟨RX10, "to", "(II)I"⟩
abbrev cX10_begin : ByteArray := prog_12_method_27_code
def yX10_begin : MethodName := ⟨RX10, "begin", "(IIIZ)V"⟩
abbrev cX10_towAll : ByteArray := prog_12_method_28_code
def yX10_towAll : MethodName := ⟨RX10, "towAll", "(I)V"⟩
abbrev cX10_tryWay : ByteArray := prog_12_method_29_code
def yX10_tryWay : MethodName := ⟨RX10, "tryWay", "(IIIZI)V"⟩
abbrev cX10_layWays : ByteArray := prog_12_method_30_code
def yX10_layWays : MethodName := ⟨RX10, "layWays", "(IIIZ)V"⟩
abbrev cX10_ownSize : ByteArray := prog_12_method_31_code
def yX10_ownSize : MethodName := ⟨RX10, "ownSize", "(I)I"⟩
abbrev cX10_tellTow : ByteArray := prog_12_method_32_code
def yX10_tellTow : MethodName := ⟨RX10, "tellTow", "(IIZI)I"⟩
abbrev cX10_areTugs : ByteArray := prog_12_method_33_code
def yX10_areTugs : MethodName := ⟨RX10, "areTugs", "(I)Z"⟩
abbrev cX10_tow : ByteArray := prog_12_method_34_code
def yX10_tow : MethodName := ⟨RX10, "tow", "(IIZI)I"⟩
abbrev cX10_waysOf : ByteArray := prog_12_method_35_code
def yX10_waysOf : MethodName := ⟨RX10, "waysOf", "(I)I"⟩
abbrev cX10_ways : ByteArray := prog_12_method_36_code
def yX10_ways : MethodName := ⟨RX10, "ways", "(I)I"⟩
abbrev cX10_tellBest : ByteArray := prog_12_method_37_code
def yX10_tellBest : MethodName := ⟨RX10, "tellBest", "(II)I"⟩
abbrev cX10_best : ByteArray := prog_12_method_38_code
def yX10_best : MethodName := ⟨RX10, "best", "(II)I"⟩
abbrev cX10_seasonOf : ByteArray := prog_12_method_39_code
def yX10_seasonOf : MethodName := ⟨RX10, "seasonOf", "(II)I"⟩
abbrev cX10_season : ByteArray := prog_12_method_40_code
def yX10_season : MethodName := ⟨RX10, "season", "(II)I"⟩
abbrev cX10_more : ByteArray := prog_12_method_41_code
def yX10_more : MethodName := ⟨RX10, "more", "(I)I"⟩
abbrev cX10_drawn : ByteArray := prog_12_method_42_code
def yX10_drawn : MethodName := ⟨RX10, "drawn", "(IIZII)I"⟩
abbrev cX10_came : ByteArray := prog_12_method_43_code
def yX10_came : MethodName := ⟨RX10, "came", "(IIZII)I"⟩
abbrev cX10_common : ByteArray := prog_12_method_44_code
def yX10_common : MethodName := ⟨RX10, "common", "(JJ)J"⟩
abbrev cX10_melted : ByteArray := prog_12_method_45_code
def yX10_melted : MethodName := ⟨RX10, "melted", "(II)I"⟩
abbrev cX10_letOff : ByteArray := prog_12_method_46_code
def yX10_letOff : MethodName := ⟨RX10, "letOff", "(IIIII)J"⟩
abbrev cX10_line : ByteArray := prog_12_method_47_code
def yX10_line : MethodName := ⟨RX10, "line", "(III)I"⟩
abbrev cX10_claims : ByteArray := prog_12_method_48_code
def yX10_claims : MethodName := ⟨RX10, "claims", "(IIIII)I"⟩
abbrev cX10_image : ByteArray := prog_12_method_49_code
def yX10_image : MethodName := ⟨RX10, "image", "()I"⟩
abbrev cX10_restore : ByteArray := prog_12_method_50_code
def yX10_restore : MethodName := ⟨RX10, "restore", "()I"⟩
abbrev cX10_countOf : ByteArray := prog_12_method_51_code
def yX10_countOf : MethodName := ⟨RX10, "countOf", "(I)I"⟩
abbrev cX10_count : ByteArray := prog_12_method_52_code
def yX10_count : MethodName := ⟨RX10, "count", "(I)I"⟩
abbrev cX10_say : ByteArray := prog_12_method_53_code
def yX10_say : MethodName := ⟨RX10, "say", "(J)V"⟩
abbrev cX10_sayBerg : ByteArray := prog_12_method_54_code
def yX10_sayBerg : MethodName := ⟨RX10, "sayBerg", "(I)V"⟩
abbrev cX10_digest : ByteArray := prog_12_method_55_code
def yX10_digest : MethodName := ⟨RX10, "digest", "()J"⟩
def RJ9 : String := "java/lang/Math"
def TJ9 : u_T := fun k => match k with
  | _ => ("", "", "", false)
def tyJ9 : Nat → FieldType := fun k => match k with
  | _ => .int
abbrev wsJ90 : List Cond := u_ws RJ9 TJ9 0
theorem nmJ9 : ∀ a, a < 0 → ∀ b, b < 0 → a ≠ b → (TJ9 a).2.1 ≠ (TJ9 b).2.1 := by decide +kernel
theorem tyJ9_ok : ∀ k, k < 0 → parseFieldDescriptor (TJ9 k).2.2.1 = some (tyJ9 k) := by decide +kernel
abbrev cJ9_abs_0f7a4 : ByteArray := prog_13_method_59_code
def yJ9_abs_0f7a4 : MethodName := ⟨RJ9, "abs", "(I)I"⟩
abbrev cJ9_max_7cf53 : ByteArray := prog_13_method_65_code
def yJ9_max_7cf53 : MethodName := ⟨RJ9, "max", "(II)I"⟩
abbrev cJ9_max_f86c9 : ByteArray := prog_13_method_66_code
def yJ9_max_f86c9 : MethodName := ⟨RJ9, "max", "(JJ)J"⟩
abbrev cJ9_min_7cf53 : ByteArray := prog_13_method_69_code
def yJ9_min_7cf53 : MethodName := ⟨RJ9, "min", "(II)I"⟩
def RJ10 : String := "java/lang/System"
def TJ10 : u_T := fun k => match k with
  | _ => ("", "", "", false)
def tyJ10 : Nat → FieldType := fun k => match k with
  | _ => .int
abbrev wsJ100 : List Cond := u_ws RJ10 TJ10 0
theorem nmJ10 : ∀ a, a < 0 → ∀ b, b < 0 → a ≠ b → (TJ10 a).2.1 ≠ (TJ10 b).2.1 := by decide +kernel
theorem tyJ10_ok : ∀ k, k < 0 → parseFieldDescriptor (TJ10 k).2.2.1 = some (tyJ10 k) := by decide +kernel
def RL : String := "IceForCoastLaw"
abbrev cL_law : ByteArray := code
def yL_law : MethodName := ⟨RL, "law", "([I)Z"⟩
abbrev vwCl : List vw_C := [(RX0, TX0, 6), (RX1, TX1, 1), (RX2, TX2, 6), (RX3, TX3, 4), (RX4, TX4, 4), (RX5, TX5, 4), (RX6, TX6, 7), (RX7, TX7, 8), (RX8, TX8, 17), (RX9, TX9, 12), (RX10, TX10, 52)]
def AL : List Cond := lw_tbl.filter goodWord
def isNest : Cond → Bool
  | .fieldLinkNest .. => true
  | .methodLinkNest .. => true
  | _ => false
def NW : List Cond := lw_tbl.filter isNest
theorem AL_in {w : Cond} (h : w ∈ lw_tbl) (g : goodWord w = true) : w ∈ AL := List.mem_filter.mpr ⟨h, g⟩
theorem NW_in {w : Cond} (h : w ∈ lw_tbl) (g : isNest w = true) : w ∈ NW := List.mem_filter.mpr ⟨h, g⟩
theorem AL_good {w : Cond} (h : w ∈ AL) : w ∈ AL ∧ ((w.onTables && w.keeps) = true ∨ ∃ ty, w = .arrayClass ty) := ⟨h, good_of_word (List.mem_filter.mp h).2⟩
theorem AL_of (ws : List Cond) (ps : List Nat) (hp : ws = ps.filterMap (fun i => lw_tbl[i]?)) (h : ws.all goodWord = true) : ∀ w ∈ ws, w ∈ AL := by
  intro w hw
  have h1 := List.all_eq_true.mp h w hw
  rw [hp] at hw
  obtain ⟨i, -, hi⟩ := List.mem_filterMap.mp hw
  exact AL_in (List.mem_of_getElem? hi) h1
theorem NW_of (ws : List Cond) (ps : List Nat) (hp : ws = ps.filterMap (fun i => lw_tbl[i]?)) (h : ws.all isNest = true) : ∀ w ∈ ws, w ∈ NW := by
  intro w hw
  have h1 := List.all_eq_true.mp h w hw
  rw [hp] at hw
  obtain ⟨i, -, hi⟩ := List.mem_filterMap.mp hw
  exact NW_in (List.mem_of_getElem? hi) h1
end
section
/-! ===== the words of the tables by their places ===== -/
theorem inA0 : ∀ w ∈ wsX00, w ∈ AL := AL_of _ [179, 181, 183, 185, 187, 189] (by decide +kernel) (by decide +kernel)
theorem inA1 : ∀ w ∈ wsX10, w ∈ AL := AL_of _ [154] (by decide +kernel) (by decide +kernel)
theorem inA2 : ∀ w ∈ wsX20, w ∈ AL := AL_of _ [291, 293, 295, 297, 299, 301] (by decide +kernel) (by decide +kernel)
theorem inA3 : ∀ w ∈ wsX30, w ∈ AL := AL_of _ [319, 321, 323, 325] (by decide +kernel) (by decide +kernel)
theorem inA4 : ∀ w ∈ wsX40, w ∈ AL := AL_of _ [267, 269, 271, 273] (by decide +kernel) (by decide +kernel)
theorem inA5 : ∀ w ∈ wsX50, w ∈ AL := AL_of _ [342, 344, 346, 348] (by decide +kernel) (by decide +kernel)
theorem inA6 : ∀ w ∈ wsX60, w ∈ AL := AL_of _ [82, 84, 86, 88, 90, 92, 94] (by decide +kernel) (by decide +kernel)
theorem inA7 : ∀ w ∈ wsX70, w ∈ AL := AL_of _ [129, 131, 133, 135, 137, 139, 141, 143] (by decide +kernel) (by decide +kernel)
theorem inA8 : ∀ w ∈ wsX80, w ∈ AL := AL_of _ [216, 218, 220, 222, 224, 226, 228, 230, 232, 234, 236, 238, 240, 242, 244, 246, 248] (by decide +kernel) (by decide +kernel)
theorem inA9 : ∀ w ∈ wsX90, w ∈ AL := AL_of _ [365, 367, 369, 371, 373, 375, 377, 379, 381, 383, 385, 387] (by decide +kernel) (by decide +kernel)
theorem inA10 : ∀ w ∈ wsX100, w ∈ AL := AL_of _ [841, 843, 845, 847, 849, 851, 853, 855, 857, 859, 861, 863, 865, 867, 869, 871, 873, 875, 877, 879, 881, 883, 885, 887, 889, 891, 893, 895, 897, 899, 901, 903, 905, 907, 909, 911, 913, 915, 917, 919, 921, 923, 925, 927, 929, 931, 933, 935, 937, 939, 941, 943] (by decide +kernel) (by decide +kernel)
theorem tk_0 : ∀ w ∈ k2_sels lw_privs, w ∈ lw_tbl := fun w h => List.mem_append_left _ h
theorem tk_1 : ∀ w ∈ tables_1_1, w ∈ lw_tbl := fun w h => List.mem_append_right _ (List.mem_append_left _ h)
theorem tk_2 : ∀ w ∈ tables_1_2, w ∈ lw_tbl := fun w h => List.mem_append_right _ (List.mem_append_right _ (List.mem_append_left _ h))
theorem tk_3 : ∀ w ∈ tables_1_3, w ∈ lw_tbl := fun w h => List.mem_append_right _ (List.mem_append_right _ (List.mem_append_right _ (List.mem_append_left _ h)))
theorem tk_4 : ∀ w ∈ tables_1_4, w ∈ lw_tbl := fun w h => List.mem_append_right _ (List.mem_append_right _ (List.mem_append_right _ (List.mem_append_right _ (List.mem_append_left _ h))))
theorem tk_5 : ∀ w ∈ tables_1_5, w ∈ lw_tbl := fun w h => List.mem_append_right _ (List.mem_append_right _ (List.mem_append_right _ (List.mem_append_right _ (List.mem_append_right _ h))))
theorem aw_0 : Cond.selects RX6 yX6_takes yX6_takes ∈ AL := AL_in (tk_0 _ (List.mem_of_getElem? (i := 0) rfl)) rfl
theorem aw_1 : Cond.selects RX6 yX6_takesRowEnd yX6_takesRowEnd ∈ AL := AL_in (tk_0 _ (List.mem_of_getElem? (i := 1) rfl)) rfl
theorem aw_2 : Cond.selects RX6 yX6_takesSquare yX6_takesSquare ∈ AL := AL_in (tk_0 _ (List.mem_of_getElem? (i := 2) rfl)) rfl
theorem aw_3 : Cond.selects RX7 yX7_layLetter yX7_layLetter ∈ AL := AL_in (tk_0 _ (List.mem_of_getElem? (i := 3) rfl)) rfl
theorem aw_4 : Cond.selects RX7 yX7_measure yX7_measure ∈ AL := AL_in (tk_0 _ (List.mem_of_getElem? (i := 4) rfl)) rfl
theorem aw_5 : Cond.selects RX7 yX7_openWays yX7_openWays ∈ AL := AL_in (tk_0 _ (List.mem_of_getElem? (i := 5) rfl)) rfl
theorem aw_6 : Cond.selects RX7 yX7_beside yX7_beside ∈ AL := AL_in (tk_0 _ (List.mem_of_getElem? (i := 6) rfl)) rfl
theorem aw_7 : Cond.selects RX9 yX9_isBerg yX9_isBerg ∈ AL := AL_in (tk_0 _ (List.mem_of_getElem? (i := 7) rfl)) rfl
theorem aw_8 : Cond.selects RX9 yX9_hasWay yX9_hasWay ∈ AL := AL_in (tk_0 _ (List.mem_of_getElem? (i := 8) rfl)) rfl
theorem aw_9 : Cond.selects RX8 yX8_isHopeless yX8_isHopeless ∈ AL := AL_in (tk_0 _ (List.mem_of_getElem? (i := 9) rfl)) rfl
theorem aw_10 : Cond.selects RX8 yX8_choose yX8_choose ∈ AL := AL_in (tk_0 _ (List.mem_of_getElem? (i := 10) rfl)) rfl
theorem aw_11 : Cond.selects RX8 yX8_pass yX8_pass ∈ AL := AL_in (tk_0 _ (List.mem_of_getElem? (i := 11) rfl)) rfl
theorem aw_12 : Cond.selects RX8 yX8_daysOfStep yX8_daysOfStep ∈ AL := AL_in (tk_0 _ (List.mem_of_getElem? (i := 12) rfl)) rfl
theorem aw_13 : Cond.selects RX8 yX8_drawnWarmth yX8_drawnWarmth ∈ AL := AL_in (tk_0 _ (List.mem_of_getElem? (i := 13) rfl)) rfl
theorem aw_14 : Cond.selects RX9 yX9_weigh yX9_weigh ∈ AL := AL_in (tk_0 _ (List.mem_of_getElem? (i := 14) rfl)) rfl
theorem aw_15 : Cond.selects RX3 yX3_mostFrom yX3_mostFrom ∈ AL := AL_in (tk_0 _ (List.mem_of_getElem? (i := 15) rfl)) rfl
theorem aw_16 : Cond.selects RX3 yX3_gainBy yX3_gainBy ∈ AL := AL_in (tk_0 _ (List.mem_of_getElem? (i := 16) rfl)) rfl
theorem aw_17 : Cond.selects RX3 yX3_fewestFor yX3_fewestFor ∈ AL := AL_in (tk_0 _ (List.mem_of_getElem? (i := 17) rfl)) rfl
theorem aw_18 : Cond.selects RX5 yX5_letOffNow yX5_letOffNow ∈ AL := AL_in (tk_0 _ (List.mem_of_getElem? (i := 18) rfl)) rfl
theorem aw_19 : Cond.selects RX5 yX5_heldNow yX5_heldNow ∈ AL := AL_in (tk_0 _ (List.mem_of_getElem? (i := 19) rfl)) rfl
theorem aw_20 : Cond.selects RX4 yX4_counts yX4_counts ∈ AL := AL_in (tk_0 _ (List.mem_of_getElem? (i := 20) rfl)) rfl
theorem aw_21 : Cond.selects RX10 yX10_faultOf yX10_faultOf ∈ AL := AL_in (tk_0 _ (List.mem_of_getElem? (i := 21) rfl)) rfl
theorem aw_22 : Cond.selects RX10 yX10_go yX10_go ∈ AL := AL_in (tk_0 _ (List.mem_of_getElem? (i := 22) rfl)) rfl
theorem aw_23 : Cond.selects RX10 yX10_readAt yX10_readAt ∈ AL := AL_in (tk_0 _ (List.mem_of_getElem? (i := 23) rfl)) rfl
theorem aw_24 : Cond.selects RX10 yX10_isSquare yX10_isSquare ∈ AL := AL_in (tk_0 _ (List.mem_of_getElem? (i := 24) rfl)) rfl
theorem aw_25 : Cond.selects RX10 yX10_tellSquare yX10_tellSquare ∈ AL := AL_in (tk_0 _ (List.mem_of_getElem? (i := 25) rfl)) rfl
theorem aw_26 : Cond.selects RX10 yX10_farOf yX10_farOf ∈ AL := AL_in (tk_0 _ (List.mem_of_getElem? (i := 26) rfl)) rfl
theorem aw_27 : Cond.selects RX10 yX10_isBerg yX10_isBerg ∈ AL := AL_in (tk_0 _ (List.mem_of_getElem? (i := 27) rfl)) rfl
theorem aw_28 : Cond.selects RX10 yX10_tellTow yX10_tellTow ∈ AL := AL_in (tk_0 _ (List.mem_of_getElem? (i := 28) rfl)) rfl
theorem aw_29 : Cond.selects RX10 yX10_ownSize yX10_ownSize ∈ AL := AL_in (tk_0 _ (List.mem_of_getElem? (i := 29) rfl)) rfl
theorem aw_30 : Cond.selects RX10 yX10_layWays yX10_layWays ∈ AL := AL_in (tk_0 _ (List.mem_of_getElem? (i := 30) rfl)) rfl
theorem aw_31 : Cond.selects RX10 yX10_to yX10_to ∈ AL := AL_in (tk_0 _ (List.mem_of_getElem? (i := 31) rfl)) rfl
theorem aw_32 : Cond.selects RX10 yX10_tryWay yX10_tryWay ∈ AL := AL_in (tk_0 _ (List.mem_of_getElem? (i := 32) rfl)) rfl
theorem aw_33 : Cond.selects RX10 yX10_begin yX10_begin ∈ AL := AL_in (tk_0 _ (List.mem_of_getElem? (i := 33) rfl)) rfl
theorem aw_34 : Cond.selects RX10 yX10_towAll yX10_towAll ∈ AL := AL_in (tk_0 _ (List.mem_of_getElem? (i := 34) rfl)) rfl
theorem aw_35 : Cond.selects RX10 yX10_step yX10_step ∈ AL := AL_in (tk_0 _ (List.mem_of_getElem? (i := 35) rfl)) rfl
theorem aw_36 : Cond.selects RX10 yX10_day yX10_day ∈ AL := AL_in (tk_0 _ (List.mem_of_getElem? (i := 36) rfl)) rfl
theorem aw_37 : Cond.selects RX10 yX10_draw yX10_draw ∈ AL := AL_in (tk_0 _ (List.mem_of_getElem? (i := 37) rfl)) rfl
theorem aw_38 : Cond.selects RX10 yX10_waysOf yX10_waysOf ∈ AL := AL_in (tk_0 _ (List.mem_of_getElem? (i := 38) rfl)) rfl
theorem aw_39 : Cond.selects RX10 yX10_tellBest yX10_tellBest ∈ AL := AL_in (tk_0 _ (List.mem_of_getElem? (i := 39) rfl)) rfl
theorem aw_40 : Cond.selects RX10 yX10_lacks yX10_lacks ∈ AL := AL_in (tk_0 _ (List.mem_of_getElem? (i := 40) rfl)) rfl
theorem aw_41 : Cond.selects RX10 yX10_seasonOf yX10_seasonOf ∈ AL := AL_in (tk_0 _ (List.mem_of_getElem? (i := 41) rfl)) rfl
theorem aw_42 : Cond.selects RX10 yX10_countOf yX10_countOf ∈ AL := AL_in (tk_0 _ (List.mem_of_getElem? (i := 42) rfl)) rfl
theorem aw_43 : Cond.selects RX10 yX10_say yX10_say ∈ AL := AL_in (tk_0 _ (List.mem_of_getElem? (i := 43) rfl)) rfl
theorem aw_44 : Cond.selects RX10 yX10_sayBerg yX10_sayBerg ∈ AL := AL_in (tk_0 _ (List.mem_of_getElem? (i := 44) rfl)) rfl
theorem aw_45 : Cond.initialized RL ∈ AL := AL_in (tk_1 _ (List.mem_of_getElem? (i := 0) rfl)) rfl
theorem aw_46 : Cond.initialized RX9 ∈ AL := AL_in (tk_1 _ (List.mem_of_getElem? (i := 1) rfl)) rfl
theorem aw_47 : Cond.initialized RX6 ∈ AL := AL_in (tk_1 _ (List.mem_of_getElem? (i := 2) rfl)) rfl
theorem aw_48 : Cond.initialized RX8 ∈ AL := AL_in (tk_1 _ (List.mem_of_getElem? (i := 3) rfl)) rfl
theorem aw_49 : Cond.initialized RX7 ∈ AL := AL_in (tk_1 _ (List.mem_of_getElem? (i := 4) rfl)) rfl
theorem aw_50 : Cond.initialized RX1 ∈ AL := AL_in (tk_1 _ (List.mem_of_getElem? (i := 5) rfl)) rfl
theorem aw_51 : Cond.initialized RX0 ∈ AL := AL_in (tk_1 _ (List.mem_of_getElem? (i := 6) rfl)) rfl
theorem aw_52 : Cond.initialized RX4 ∈ AL := AL_in (tk_1 _ (List.mem_of_getElem? (i := 7) rfl)) rfl
theorem aw_53 : Cond.initialized RX2 ∈ AL := AL_in (tk_1 _ (List.mem_of_getElem? (i := 8) rfl)) rfl
theorem aw_54 : Cond.initialized RX3 ∈ AL := AL_in (tk_1 _ (List.mem_of_getElem? (i := 9) rfl)) rfl
theorem aw_55 : Cond.initialized RX5 ∈ AL := AL_in (tk_1 _ (List.mem_of_getElem? (i := 10) rfl)) rfl
theorem aw_56 : Cond.initialized RX10 ∈ AL := AL_in (tk_1 _ (List.mem_of_getElem? (i := 11) rfl)) rfl
theorem aw_57 : Cond.initialized "java/lang/Math" ∈ AL := AL_in (tk_1 _ (List.mem_of_getElem? (i := 12) rfl)) rfl
theorem aw_58 : Cond.initialized "java/lang/System" ∈ AL := AL_in (tk_1 _ (List.mem_of_getElem? (i := 13) rfl)) rfl
theorem aw_59 : Cond.classLink RL 7 RX9 ∈ AL := AL_in (tk_1 _ (List.mem_of_getElem? (i := 14) rfl)) rfl
theorem aw_60 : Cond.instantiable RX9 12 ∈ AL := AL_in (tk_1 _ (List.mem_of_getElem? (i := 15) rfl)) rfl
theorem aw_61 : Cond.methodLink RL 9 yX9_init ∈ AL := AL_in (tk_1 _ (List.mem_of_getElem? (i := 16) rfl)) rfl
theorem aw_62 : Cond.instanceMethod yX9_init ∈ AL := AL_in (tk_1 _ (List.mem_of_getElem? (i := 17) rfl)) rfl
theorem aw_63 : Cond.code yX9_init cX9_init 2 none ∈ AL := AL_in (tk_1 _ (List.mem_of_getElem? (i := 18) rfl)) rfl
theorem aw_64 : Cond.methodLink RX9 1 objectInit ∈ AL := AL_in (tk_1 _ (List.mem_of_getElem? (i := 19) rfl)) rfl
theorem aw_65 : Cond.instanceMethod objectInit ∈ AL := AL_in (tk_1 _ (List.mem_of_getElem? (i := 20) rfl)) rfl
theorem aw_66 : Cond.code objectInit ⟨#[0xb1]⟩ 1 none ∈ AL := AL_in (tk_1 _ (List.mem_of_getElem? (i := 21) rfl)) rfl
theorem aw_67 : Cond.classLink RX9 7 RX6 ∈ AL := AL_in (tk_1 _ (List.mem_of_getElem? (i := 22) rfl)) rfl
theorem aw_68 : Cond.instantiable RX6 7 ∈ AL := AL_in (tk_1 _ (List.mem_of_getElem? (i := 23) rfl)) rfl
theorem aw_69 : Cond.methodLinkNest RX9 9 yX6_init "IceForCoast" ∈ NW := NW_in (tk_1 _ (List.mem_of_getElem? (i := 24) rfl)) rfl
theorem aw_70 : Cond.instanceMethod yX6_init ∈ AL := AL_in (tk_1 _ (List.mem_of_getElem? (i := 25) rfl)) rfl
theorem aw_71 : Cond.code yX6_init cX6_init 1 none ∈ AL := AL_in (tk_1 _ (List.mem_of_getElem? (i := 26) rfl)) rfl
theorem aw_72 : Cond.methodLink RX6 3 objectInit ∈ AL := AL_in (tk_1 _ (List.mem_of_getElem? (i := 27) rfl)) rfl
theorem aw_73 : Cond.fieldLink RX6 11 "IceForCoast$Page" "codes" "[I" ∈ AL := AL_in (tk_1 _ (List.mem_of_getElem? (i := 28) rfl)) rfl
theorem aw_74 : Cond.fieldLink RX6 19 "IceForCoast$Page" "length" "I" ∈ AL := AL_in (tk_1 _ (List.mem_of_getElem? (i := 29) rfl)) rfl
theorem aw_75 : Cond.fieldLinkNest RX7 40 "IceForCoast$Page" "length" "I" "IceForCoast" ∈ NW := NW_in (tk_1 _ (List.mem_of_getElem? (i := 30) rfl)) rfl
theorem aw_76 : Cond.fieldLinkNest RX9 302 "IceForCoast$Page" "length" "I" "IceForCoast" ∈ NW := NW_in (tk_1 _ (List.mem_of_getElem? (i := 31) rfl)) rfl
theorem aw_77 : Cond.fieldLink RX6 23 "IceForCoast$Page" "row" "I" ∈ AL := AL_in (tk_1 _ (List.mem_of_getElem? (i := 32) rfl)) rfl
theorem aw_78 : Cond.fieldLink RX6 26 "IceForCoast$Page" "inRow" "I" ∈ AL := AL_in (tk_1 _ (List.mem_of_getElem? (i := 33) rfl)) rfl
theorem aw_79 : Cond.fieldLink RX6 29 "IceForCoast$Page" "width" "I" ∈ AL := AL_in (tk_1 _ (List.mem_of_getElem? (i := 34) rfl)) rfl
theorem aw_80 : Cond.fieldLink RX6 32 "IceForCoast$Page" "harbours" "I" ∈ AL := AL_in (tk_1 _ (List.mem_of_getElem? (i := 35) rfl)) rfl
theorem aw_81 : Cond.fieldLink RX6 35 "IceForCoast$Page" "currentMayCome" "Z" ∈ AL := AL_in (tk_1 _ (List.mem_of_getElem? (i := 36) rfl)) rfl
theorem aw_97 : Cond.arrayClass .int ∈ AL := AL_in (tk_1 _ (List.mem_of_getElem? (i := 52) rfl)) rfl
theorem aw_98 : Cond.classLink RX9 16 RX8 ∈ AL := AL_in (tk_1 _ (List.mem_of_getElem? (i := 53) rfl)) rfl
theorem aw_99 : Cond.instantiable RX8 17 ∈ AL := AL_in (tk_1 _ (List.mem_of_getElem? (i := 54) rfl)) rfl
theorem aw_100 : Cond.methodLinkNest RX9 18 yX8_init "IceForCoast" ∈ NW := NW_in (tk_1 _ (List.mem_of_getElem? (i := 55) rfl)) rfl
theorem aw_101 : Cond.instanceMethod yX8_init ∈ AL := AL_in (tk_1 _ (List.mem_of_getElem? (i := 56) rfl)) rfl
theorem aw_102 : Cond.code yX8_init cX8_init 1 none ∈ AL := AL_in (tk_1 _ (List.mem_of_getElem? (i := 57) rfl)) rfl
theorem aw_103 : Cond.methodLink RX8 5 objectInit ∈ AL := AL_in (tk_1 _ (List.mem_of_getElem? (i := 58) rfl)) rfl
theorem aw_104 : Cond.classLink RX8 1 RX7 ∈ AL := AL_in (tk_1 _ (List.mem_of_getElem? (i := 59) rfl)) rfl
theorem aw_105 : Cond.instantiable RX7 8 ∈ AL := AL_in (tk_1 _ (List.mem_of_getElem? (i := 60) rfl)) rfl
theorem aw_106 : Cond.methodLinkNest RX8 11 yX7_init "IceForCoast" ∈ NW := NW_in (tk_1 _ (List.mem_of_getElem? (i := 61) rfl)) rfl
theorem aw_107 : Cond.instanceMethod yX7_init ∈ AL := AL_in (tk_1 _ (List.mem_of_getElem? (i := 62) rfl)) rfl
theorem aw_108 : Cond.code yX7_init cX7_init 1 none ∈ AL := AL_in (tk_1 _ (List.mem_of_getElem? (i := 63) rfl)) rfl
theorem aw_109 : Cond.methodLink RX7 5 objectInit ∈ AL := AL_in (tk_1 _ (List.mem_of_getElem? (i := 64) rfl)) rfl
theorem aw_110 : Cond.classLink RX7 24 "[[I" ∈ AL := AL_in (tk_1 _ (List.mem_of_getElem? (i := 65) rfl)) rfl
theorem aw_112 : Cond.fieldLink RX7 11 "IceForCoast$Sea" "warmth" "[I" ∈ AL := AL_in (tk_1 _ (List.mem_of_getElem? (i := 67) rfl)) rfl
theorem aw_113 : Cond.fieldLinkNest RX9 109 "IceForCoast$Sea" "warmth" "[I" "IceForCoast" ∈ NW := NW_in (tk_1 _ (List.mem_of_getElem? (i := 68) rfl)) rfl
theorem aw_114 : Cond.fieldLinkNest RX8 127 "IceForCoast$Sea" "warmth" "[I" "IceForCoast" ∈ NW := NW_in (tk_1 _ (List.mem_of_getElem? (i := 69) rfl)) rfl
theorem aw_115 : Cond.fieldLink RX7 15 "IceForCoast$Sea" "current" "[I" ∈ AL := AL_in (tk_1 _ (List.mem_of_getElem? (i := 70) rfl)) rfl
theorem aw_116 : Cond.fieldLinkNest RX9 113 "IceForCoast$Sea" "current" "[I" "IceForCoast" ∈ NW := NW_in (tk_1 _ (List.mem_of_getElem? (i := 71) rfl)) rfl
theorem aw_117 : Cond.fieldLinkNest RX8 143 "IceForCoast$Sea" "current" "[I" "IceForCoast" ∈ NW := NW_in (tk_1 _ (List.mem_of_getElem? (i := 72) rfl)) rfl
theorem aw_118 : Cond.fieldLink RX7 18 "IceForCoast$Sea" "far" "[I" ∈ AL := AL_in (tk_1 _ (List.mem_of_getElem? (i := 73) rfl)) rfl
theorem aw_119 : Cond.fieldLinkNest RX9 116 "IceForCoast$Sea" "far" "[I" "IceForCoast" ∈ NW := NW_in (tk_1 _ (List.mem_of_getElem? (i := 74) rfl)) rfl
theorem aw_120 : Cond.fieldLink RX7 21 "IceForCoast$Sea" "waysFrom" "[I" ∈ AL := AL_in (tk_1 _ (List.mem_of_getElem? (i := 75) rfl)) rfl
theorem aw_121 : Cond.fieldLinkNest RX9 204 "IceForCoast$Sea" "waysFrom" "[I" "IceForCoast" ∈ NW := NW_in (tk_1 _ (List.mem_of_getElem? (i := 76) rfl)) rfl
theorem aw_122 : Cond.fieldLink RX7 26 "IceForCoast$Sea" "next" "[[I" ∈ AL := AL_in (tk_1 _ (List.mem_of_getElem? (i := 77) rfl)) rfl
theorem aw_123 : Cond.fieldLinkNest RX8 89 "IceForCoast$Sea" "next" "[[I" "IceForCoast" ∈ NW := NW_in (tk_1 _ (List.mem_of_getElem? (i := 78) rfl)) rfl
theorem aw_124 : Cond.fieldLink RX7 29 "IceForCoast$Sea" "squares" "I" ∈ AL := AL_in (tk_1 _ (List.mem_of_getElem? (i := 79) rfl)) rfl
theorem aw_125 : Cond.fieldLinkNest RX9 102 "IceForCoast$Sea" "squares" "I" "IceForCoast" ∈ NW := NW_in (tk_1 _ (List.mem_of_getElem? (i := 80) rfl)) rfl
theorem aw_126 : Cond.fieldLink RX7 37 "IceForCoast$Sea" "width" "I" ∈ AL := AL_in (tk_1 _ (List.mem_of_getElem? (i := 81) rfl)) rfl
theorem aw_127 : Cond.fieldLinkNest RX8 103 "IceForCoast$Sea" "harbour" "I" "IceForCoast" ∈ NW := NW_in (tk_1 _ (List.mem_of_getElem? (i := 82) rfl)) rfl
theorem aw_128 : Cond.fieldLink RX7 64 "IceForCoast$Sea" "harbour" "I" ∈ AL := AL_in (tk_1 _ (List.mem_of_getElem? (i := 83) rfl)) rfl
theorem aw_146 : Cond.classLink RX8 18 RX1 ∈ AL := AL_in (tk_1 _ (List.mem_of_getElem? (i := 101) rfl)) rfl
theorem aw_147 : Cond.instantiable RX1 1 ∈ AL := AL_in (tk_1 _ (List.mem_of_getElem? (i := 102) rfl)) rfl
theorem aw_148 : Cond.methodLinkNest RX8 20 yX1_init "IceForCoast" ∈ NW := NW_in (tk_1 _ (List.mem_of_getElem? (i := 103) rfl)) rfl
theorem aw_149 : Cond.instanceMethod yX1_init ∈ AL := AL_in (tk_1 _ (List.mem_of_getElem? (i := 104) rfl)) rfl
theorem aw_150 : Cond.code yX1_init cX1_init 1 none ∈ AL := AL_in (tk_1 _ (List.mem_of_getElem? (i := 105) rfl)) rfl
theorem aw_151 : Cond.methodLink RX1 1 objectInit ∈ AL := AL_in (tk_1 _ (List.mem_of_getElem? (i := 106) rfl)) rfl
theorem aw_152 : Cond.fieldLink RX1 7 "IceForCoast$Coins" "value" "[I" ∈ AL := AL_in (tk_1 _ (List.mem_of_getElem? (i := 107) rfl)) rfl
theorem aw_153 : Cond.fieldLinkNest RX9 303 "IceForCoast$Coins" "value" "[I" "IceForCoast" ∈ NW := NW_in (tk_1 _ (List.mem_of_getElem? (i := 108) rfl)) rfl
theorem aw_157 : Cond.classLink RX8 41 RX0 ∈ AL := AL_in (tk_1 _ (List.mem_of_getElem? (i := 112) rfl)) rfl
theorem aw_158 : Cond.instantiable RX0 6 ∈ AL := AL_in (tk_1 _ (List.mem_of_getElem? (i := 113) rfl)) rfl
theorem aw_159 : Cond.methodLinkNest RX8 43 yX0_init "IceForCoast" ∈ NW := NW_in (tk_1 _ (List.mem_of_getElem? (i := 114) rfl)) rfl
theorem aw_160 : Cond.instanceMethod yX0_init ∈ AL := AL_in (tk_1 _ (List.mem_of_getElem? (i := 115) rfl)) rfl
theorem aw_161 : Cond.code yX0_init cX0_init 1 none ∈ AL := AL_in (tk_1 _ (List.mem_of_getElem? (i := 116) rfl)) rfl
theorem aw_162 : Cond.methodLink RX0 1 objectInit ∈ AL := AL_in (tk_1 _ (List.mem_of_getElem? (i := 117) rfl)) rfl
theorem aw_163 : Cond.fieldLink RX0 9 "IceForCoast$Berg" "kind" "I" ∈ AL := AL_in (tk_1 _ (List.mem_of_getElem? (i := 118) rfl)) rfl
theorem aw_164 : Cond.fieldLinkNest RX8 137 "IceForCoast$Berg" "kind" "I" "IceForCoast" ∈ NW := NW_in (tk_1 _ (List.mem_of_getElem? (i := 119) rfl)) rfl
theorem aw_165 : Cond.fieldLinkNest RX9 148 "IceForCoast$Berg" "kind" "I" "IceForCoast" ∈ NW := NW_in (tk_1 _ (List.mem_of_getElem? (i := 120) rfl)) rfl
theorem aw_166 : Cond.fieldLinkNest RX8 71 "IceForCoast$Berg" "square" "I" "IceForCoast" ∈ NW := NW_in (tk_1 _ (List.mem_of_getElem? (i := 121) rfl)) rfl
theorem aw_167 : Cond.fieldLink RX0 13 "IceForCoast$Berg" "square" "I" ∈ AL := AL_in (tk_1 _ (List.mem_of_getElem? (i := 122) rfl)) rfl
theorem aw_168 : Cond.fieldLinkNest RX9 151 "IceForCoast$Berg" "square" "I" "IceForCoast" ∈ NW := NW_in (tk_1 _ (List.mem_of_getElem? (i := 123) rfl)) rfl
theorem aw_169 : Cond.fieldLinkNest RX2 35 "IceForCoast$Berg" "size" "I" "IceForCoast" ∈ NW := NW_in (tk_1 _ (List.mem_of_getElem? (i := 124) rfl)) rfl
theorem aw_170 : Cond.fieldLink RX0 16 "IceForCoast$Berg" "size" "I" ∈ AL := AL_in (tk_1 _ (List.mem_of_getElem? (i := 125) rfl)) rfl
theorem aw_171 : Cond.fieldLinkNest RX9 154 "IceForCoast$Berg" "size" "I" "IceForCoast" ∈ NW := NW_in (tk_1 _ (List.mem_of_getElem? (i := 126) rfl)) rfl
theorem aw_172 : Cond.fieldLinkNest RX8 68 "IceForCoast$Berg" "foot" "I" "IceForCoast" ∈ NW := NW_in (tk_1 _ (List.mem_of_getElem? (i := 127) rfl)) rfl
theorem aw_173 : Cond.fieldLinkNest RX2 40 "IceForCoast$Berg" "foot" "I" "IceForCoast" ∈ NW := NW_in (tk_1 _ (List.mem_of_getElem? (i := 128) rfl)) rfl
theorem aw_174 : Cond.fieldLink RX0 19 "IceForCoast$Berg" "foot" "I" ∈ AL := AL_in (tk_1 _ (List.mem_of_getElem? (i := 129) rfl)) rfl
theorem aw_175 : Cond.fieldLinkNest RX9 157 "IceForCoast$Berg" "foot" "I" "IceForCoast" ∈ NW := NW_in (tk_1 _ (List.mem_of_getElem? (i := 130) rfl)) rfl
theorem aw_176 : Cond.fieldLink RX0 22 "IceForCoast$Berg" "n" "I" ∈ AL := AL_in (tk_1 _ (List.mem_of_getElem? (i := 131) rfl)) rfl
theorem aw_177 : Cond.fieldLinkNest RX9 160 "IceForCoast$Berg" "n" "I" "IceForCoast" ∈ NW := NW_in (tk_1 _ (List.mem_of_getElem? (i := 132) rfl)) rfl
theorem aw_178 : Cond.fieldLink RX0 25 "IceForCoast$Berg" "flat" "Z" ∈ AL := AL_in (tk_1 _ (List.mem_of_getElem? (i := 133) rfl)) rfl
theorem aw_192 : Cond.fieldLink RX8 12 "IceForCoast$Tow" "sea" "LIceForCoast$Sea;" ∈ AL := AL_in (tk_1 _ (List.mem_of_getElem? (i := 147) rfl)) rfl
theorem aw_193 : Cond.fieldLinkNest RX9 23 "IceForCoast$Tow" "sea" "LIceForCoast$Sea;" "IceForCoast" ∈ NW := NW_in (tk_1 _ (List.mem_of_getElem? (i := 148) rfl)) rfl
theorem aw_194 : Cond.fieldLink RX8 21 "IceForCoast$Tow" "coins" "LIceForCoast$Coins;" ∈ AL := AL_in (tk_1 _ (List.mem_of_getElem? (i := 149) rfl)) rfl
theorem aw_195 : Cond.fieldLinkNest RX9 30 "IceForCoast$Tow" "coins" "LIceForCoast$Coins;" "IceForCoast" ∈ NW := NW_in (tk_1 _ (List.mem_of_getElem? (i := 150) rfl)) rfl
theorem aw_196 : Cond.fieldLink RX8 25 "IceForCoast$Tow" "sizeAt" "[I" ∈ AL := AL_in (tk_1 _ (List.mem_of_getElem? (i := 151) rfl)) rfl
theorem aw_197 : Cond.fieldLink RX8 29 "IceForCoast$Tow" "footAt" "[I" ∈ AL := AL_in (tk_1 _ (List.mem_of_getElem? (i := 152) rfl)) rfl
theorem aw_198 : Cond.fieldLink RX8 32 "IceForCoast$Tow" "dayAt" "[I" ∈ AL := AL_in (tk_1 _ (List.mem_of_getElem? (i := 153) rfl)) rfl
theorem aw_199 : Cond.fieldLink RX8 35 "IceForCoast$Tow" "trial" "[I" ∈ AL := AL_in (tk_1 _ (List.mem_of_getElem? (i := 154) rfl)) rfl
theorem aw_200 : Cond.fieldLink RX8 38 "IceForCoast$Tow" "chosen" "[I" ∈ AL := AL_in (tk_1 _ (List.mem_of_getElem? (i := 155) rfl)) rfl
theorem aw_201 : Cond.fieldLink RX8 44 "IceForCoast$Tow" "berg" "LIceForCoast$Berg;" ∈ AL := AL_in (tk_1 _ (List.mem_of_getElem? (i := 156) rfl)) rfl
theorem aw_202 : Cond.fieldLink RX8 48 "IceForCoast$Tow" "tugs" "I" ∈ AL := AL_in (tk_1 _ (List.mem_of_getElem? (i := 157) rfl)) rfl
theorem aw_203 : Cond.fieldLink RX8 58 "IceForCoast$Tow" "skirt" "Z" ∈ AL := AL_in (tk_1 _ (List.mem_of_getElem? (i := 158) rfl)) rfl
theorem aw_204 : Cond.fieldLink RX8 62 "IceForCoast$Tow" "found" "Z" ∈ AL := AL_in (tk_1 _ (List.mem_of_getElem? (i := 159) rfl)) rfl
theorem aw_205 : Cond.fieldLink RX8 93 "IceForCoast$Tow" "water" "I" ∈ AL := AL_in (tk_1 _ (List.mem_of_getElem? (i := 160) rfl)) rfl
theorem aw_206 : Cond.fieldLinkNest RX9 188 "IceForCoast$Tow" "water" "I" "IceForCoast" ∈ NW := NW_in (tk_1 _ (List.mem_of_getElem? (i := 161) rfl)) rfl
theorem aw_207 : Cond.fieldLink RX8 96 "IceForCoast$Tow" "days" "I" ∈ AL := AL_in (tk_1 _ (List.mem_of_getElem? (i := 162) rfl)) rfl
theorem aw_208 : Cond.fieldLinkNest RX9 191 "IceForCoast$Tow" "days" "I" "IceForCoast" ∈ NW := NW_in (tk_1 _ (List.mem_of_getElem? (i := 163) rfl)) rfl
theorem aw_209 : Cond.fieldLink RX8 114 "IceForCoast$Tow" "gain" "I" ∈ AL := AL_in (tk_1 _ (List.mem_of_getElem? (i := 164) rfl)) rfl
theorem aw_210 : Cond.fieldLinkNest RX9 194 "IceForCoast$Tow" "gain" "I" "IceForCoast" ∈ NW := NW_in (tk_1 _ (List.mem_of_getElem? (i := 165) rfl)) rfl
theorem aw_211 : Cond.fieldLink RX8 82 "IceForCoast$Tow" "steps" "I" ∈ AL := AL_in (tk_1 _ (List.mem_of_getElem? (i := 166) rfl)) rfl
theorem aw_212 : Cond.fieldLinkNest RX9 197 "IceForCoast$Tow" "steps" "I" "IceForCoast" ∈ NW := NW_in (tk_1 _ (List.mem_of_getElem? (i := 167) rfl)) rfl
theorem aw_213 : Cond.fieldLink RX8 65 "IceForCoast$Tow" "drawing" "Z" ∈ AL := AL_in (tk_1 _ (List.mem_of_getElem? (i := 168) rfl)) rfl
theorem aw_214 : Cond.fieldLink RX8 78 "IceForCoast$Tow" "seed" "J" ∈ AL := AL_in (tk_1 _ (List.mem_of_getElem? (i := 169) rfl)) rfl
theorem aw_215 : Cond.fieldLinkNest RX9 238 "IceForCoast$Tow" "seed" "J" "IceForCoast" ∈ NW := NW_in (tk_1 _ (List.mem_of_getElem? (i := 170) rfl)) rfl
theorem aw_251 : Cond.classLink RX9 35 RX0 ∈ AL := AL_in (tk_1 _ (List.mem_of_getElem? (i := 206) rfl)) rfl
theorem aw_253 : Cond.classLink RX9 41 RX4 ∈ AL := AL_in (tk_1 _ (List.mem_of_getElem? (i := 208) rfl)) rfl
theorem aw_254 : Cond.instantiable RX4 4 ∈ AL := AL_in (tk_1 _ (List.mem_of_getElem? (i := 209) rfl)) rfl
theorem aw_255 : Cond.methodLinkNest RX9 43 yX4_init "IceForCoast" ∈ NW := NW_in (tk_1 _ (List.mem_of_getElem? (i := 210) rfl)) rfl
theorem aw_256 : Cond.instanceMethod yX4_init ∈ AL := AL_in (tk_1 _ (List.mem_of_getElem? (i := 211) rfl)) rfl
theorem aw_257 : Cond.code yX4_init cX4_init 1 none ∈ AL := AL_in (tk_1 _ (List.mem_of_getElem? (i := 212) rfl)) rfl
theorem aw_258 : Cond.methodLink RX4 3 objectInit ∈ AL := AL_in (tk_1 _ (List.mem_of_getElem? (i := 213) rfl)) rfl
theorem aw_259 : Cond.fieldLink RX4 11 "IceForCoast$Lines" "house" "[I" ∈ AL := AL_in (tk_1 _ (List.mem_of_getElem? (i := 214) rfl)) rfl
theorem aw_260 : Cond.fieldLinkNest RX9 325 "IceForCoast$Lines" "house" "[I" "IceForCoast" ∈ NW := NW_in (tk_1 _ (List.mem_of_getElem? (i := 215) rfl)) rfl
theorem aw_261 : Cond.fieldLink RX4 15 "IceForCoast$Lines" "berg" "[I" ∈ AL := AL_in (tk_1 _ (List.mem_of_getElem? (i := 216) rfl)) rfl
theorem aw_262 : Cond.fieldLinkNest RX9 328 "IceForCoast$Lines" "berg" "[I" "IceForCoast" ∈ NW := NW_in (tk_1 _ (List.mem_of_getElem? (i := 217) rfl)) rfl
theorem aw_263 : Cond.fieldLink RX4 18 "IceForCoast$Lines" "day" "[I" ∈ AL := AL_in (tk_1 _ (List.mem_of_getElem? (i := 218) rfl)) rfl
theorem aw_264 : Cond.fieldLinkNest RX9 331 "IceForCoast$Lines" "day" "[I" "IceForCoast" ∈ NW := NW_in (tk_1 _ (List.mem_of_getElem? (i := 219) rfl)) rfl
theorem aw_265 : Cond.fieldLink RX4 21 "IceForCoast$Lines" "length" "I" ∈ AL := AL_in (tk_1 _ (List.mem_of_getElem? (i := 220) rfl)) rfl
theorem aw_266 : Cond.fieldLinkNest RX9 268 "IceForCoast$Lines" "length" "I" "IceForCoast" ∈ NW := NW_in (tk_1 _ (List.mem_of_getElem? (i := 221) rfl)) rfl
theorem aw_276 : Cond.classLink RX9 48 RX2 ∈ AL := AL_in (tk_1 _ (List.mem_of_getElem? (i := 231) rfl)) rfl
theorem aw_277 : Cond.instantiable RX2 6 ∈ AL := AL_in (tk_1 _ (List.mem_of_getElem? (i := 232) rfl)) rfl
theorem aw_278 : Cond.methodLinkNest RX9 50 yX2_init "IceForCoast" ∈ NW := NW_in (tk_1 _ (List.mem_of_getElem? (i := 233) rfl)) rfl
theorem aw_279 : Cond.instanceMethod yX2_init ∈ AL := AL_in (tk_1 _ (List.mem_of_getElem? (i := 234) rfl)) rfl
theorem aw_280 : Cond.code yX2_init cX2_init 1 none ∈ AL := AL_in (tk_1 _ (List.mem_of_getElem? (i := 235) rfl)) rfl
theorem aw_281 : Cond.methodLink RX2 3 objectInit ∈ AL := AL_in (tk_1 _ (List.mem_of_getElem? (i := 236) rfl)) rfl
theorem aw_282 : Cond.classLink RX2 18 RX1 ∈ AL := AL_in (tk_1 _ (List.mem_of_getElem? (i := 237) rfl)) rfl
theorem aw_283 : Cond.methodLinkNest RX2 20 yX1_init "IceForCoast" ∈ NW := NW_in (tk_1 _ (List.mem_of_getElem? (i := 238) rfl)) rfl
theorem aw_284 : Cond.fieldLink RX2 9 "IceForCoast$Image" "sizes" "[I" ∈ AL := AL_in (tk_1 _ (List.mem_of_getElem? (i := 239) rfl)) rfl
theorem aw_285 : Cond.fieldLink RX2 15 "IceForCoast$Image" "feet" "[I" ∈ AL := AL_in (tk_2 _ (List.mem_of_getElem? (i := 0) rfl)) rfl
theorem aw_286 : Cond.fieldLink RX2 21 "IceForCoast$Image" "coins" "LIceForCoast$Coins;" ∈ AL := AL_in (tk_2 _ (List.mem_of_getElem? (i := 1) rfl)) rfl
theorem aw_287 : Cond.fieldLink RX2 31 "IceForCoast$Image" "bergCount" "I" ∈ AL := AL_in (tk_2 _ (List.mem_of_getElem? (i := 2) rfl)) rfl
theorem aw_288 : Cond.fieldLinkNest RX9 301 "IceForCoast$Image" "bergCount" "I" "IceForCoast" ∈ NW := NW_in (tk_2 _ (List.mem_of_getElem? (i := 3) rfl)) rfl
theorem aw_289 : Cond.fieldLinkNest RX9 291 "IceForCoast$Image" "lineCount" "I" "IceForCoast" ∈ NW := NW_in (tk_2 _ (List.mem_of_getElem? (i := 4) rfl)) rfl
theorem aw_290 : Cond.fieldLinkNest RX9 294 "IceForCoast$Image" "seaNumber" "I" "IceForCoast" ∈ NW := NW_in (tk_2 _ (List.mem_of_getElem? (i := 5) rfl)) rfl
theorem aw_304 : Cond.classLink RX9 55 RX3 ∈ AL := AL_in (tk_2 _ (List.mem_of_getElem? (i := 19) rfl)) rfl
theorem aw_305 : Cond.instantiable RX3 4 ∈ AL := AL_in (tk_2 _ (List.mem_of_getElem? (i := 20) rfl)) rfl
theorem aw_306 : Cond.methodLinkNest RX9 57 yX3_init "IceForCoast" ∈ NW := NW_in (tk_2 _ (List.mem_of_getElem? (i := 21) rfl)) rfl
theorem aw_307 : Cond.instanceMethod yX3_init ∈ AL := AL_in (tk_2 _ (List.mem_of_getElem? (i := 22) rfl)) rfl
theorem aw_308 : Cond.code yX3_init cX3_init 1 none ∈ AL := AL_in (tk_2 _ (List.mem_of_getElem? (i := 23) rfl)) rfl
theorem aw_309 : Cond.methodLink RX3 3 objectInit ∈ AL := AL_in (tk_2 _ (List.mem_of_getElem? (i := 24) rfl)) rfl
theorem aw_310 : Cond.classLink RX3 11 "[[I" ∈ AL := AL_in (tk_2 _ (List.mem_of_getElem? (i := 25) rfl)) rfl
theorem aw_311 : Cond.fieldLink RX3 13 "IceForCoast$Ledger" "gains" "[[I" ∈ AL := AL_in (tk_2 _ (List.mem_of_getElem? (i := 26) rfl)) rfl
theorem aw_312 : Cond.fieldLinkNest RX9 219 "IceForCoast$Ledger" "gains" "[[I" "IceForCoast" ∈ NW := NW_in (tk_2 _ (List.mem_of_getElem? (i := 27) rfl)) rfl
theorem aw_313 : Cond.fieldLink RX3 16 "IceForCoast$Ledger" "known" "[Z" ∈ AL := AL_in (tk_2 _ (List.mem_of_getElem? (i := 28) rfl)) rfl
theorem aw_314 : Cond.fieldLinkNest RX9 340 "IceForCoast$Ledger" "known" "[Z" "IceForCoast" ∈ NW := NW_in (tk_2 _ (List.mem_of_getElem? (i := 29) rfl)) rfl
theorem aw_315 : Cond.fieldLink RX3 20 "IceForCoast$Ledger" "towable" "[Z" ∈ AL := AL_in (tk_2 _ (List.mem_of_getElem? (i := 30) rfl)) rfl
theorem aw_316 : Cond.fieldLinkNest RX9 344 "IceForCoast$Ledger" "towable" "[Z" "IceForCoast" ∈ NW := NW_in (tk_2 _ (List.mem_of_getElem? (i := 31) rfl)) rfl
theorem aw_317 : Cond.fieldLink RX3 23 "IceForCoast$Ledger" "most" "[[I" ∈ AL := AL_in (tk_2 _ (List.mem_of_getElem? (i := 32) rfl)) rfl
theorem aw_318 : Cond.fieldLinkNest RX9 226 "IceForCoast$Ledger" "most" "[[I" "IceForCoast" ∈ NW := NW_in (tk_2 _ (List.mem_of_getElem? (i := 33) rfl)) rfl
theorem aw_328 : Cond.arrayClass .boolean ∈ AL := AL_in (tk_2 _ (List.mem_of_getElem? (i := 43) rfl)) rfl
theorem aw_329 : Cond.classLink RX9 62 RX5 ∈ AL := AL_in (tk_2 _ (List.mem_of_getElem? (i := 44) rfl)) rfl
theorem aw_330 : Cond.instantiable RX5 4 ∈ AL := AL_in (tk_2 _ (List.mem_of_getElem? (i := 45) rfl)) rfl
theorem aw_331 : Cond.methodLinkNest RX9 64 yX5_init "IceForCoast" ∈ NW := NW_in (tk_2 _ (List.mem_of_getElem? (i := 46) rfl)) rfl
theorem aw_332 : Cond.instanceMethod yX5_init ∈ AL := AL_in (tk_2 _ (List.mem_of_getElem? (i := 47) rfl)) rfl
theorem aw_333 : Cond.code yX5_init cX5_init 1 none ∈ AL := AL_in (tk_2 _ (List.mem_of_getElem? (i := 48) rfl)) rfl
theorem aw_334 : Cond.methodLink RX5 3 objectInit ∈ AL := AL_in (tk_2 _ (List.mem_of_getElem? (i := 49) rfl)) rfl
theorem aw_335 : Cond.fieldLink RX5 9 "IceForCoast$Odds" "water" "[J" ∈ AL := AL_in (tk_2 _ (List.mem_of_getElem? (i := 50) rfl)) rfl
theorem aw_336 : Cond.fieldLink RX5 38 "IceForCoast$Odds" "above" "J" ∈ AL := AL_in (tk_2 _ (List.mem_of_getElem? (i := 51) rfl)) rfl
theorem aw_337 : Cond.fieldLinkNest RX9 251 "IceForCoast$Odds" "above" "J" "IceForCoast" ∈ NW := NW_in (tk_2 _ (List.mem_of_getElem? (i := 52) rfl)) rfl
theorem aw_338 : Cond.fieldLink RX5 42 "IceForCoast$Odds" "below" "J" ∈ AL := AL_in (tk_2 _ (List.mem_of_getElem? (i := 53) rfl)) rfl
theorem aw_339 : Cond.fieldLinkNest RX9 254 "IceForCoast$Odds" "below" "J" "IceForCoast" ∈ NW := NW_in (tk_2 _ (List.mem_of_getElem? (i := 54) rfl)) rfl
theorem aw_340 : Cond.fieldLink RX5 15 "IceForCoast$Odds" "letsOff" "Z" ∈ AL := AL_in (tk_2 _ (List.mem_of_getElem? (i := 55) rfl)) rfl
theorem aw_341 : Cond.fieldLinkNest RX9 257 "IceForCoast$Odds" "letsOff" "Z" "IceForCoast" ∈ NW := NW_in (tk_2 _ (List.mem_of_getElem? (i := 56) rfl)) rfl
theorem aw_351 : Cond.arrayClass .long ∈ AL := AL_in (tk_2 _ (List.mem_of_getElem? (i := 66) rfl)) rfl
theorem aw_352 : Cond.methodLinkNest RX9 69 yX0_init "IceForCoast" ∈ NW := NW_in (tk_2 _ (List.mem_of_getElem? (i := 67) rfl)) rfl
theorem aw_353 : Cond.fieldLink RX9 10 "IceForCoast" "thePage" "LIceForCoast$Page;" ∈ AL := AL_in (tk_2 _ (List.mem_of_getElem? (i := 68) rfl)) rfl
theorem aw_354 : Cond.fieldLink RX9 19 "IceForCoast" "theTow" "LIceForCoast$Tow;" ∈ AL := AL_in (tk_2 _ (List.mem_of_getElem? (i := 69) rfl)) rfl
theorem aw_355 : Cond.fieldLink RX9 27 "IceForCoast" "theSea" "LIceForCoast$Sea;" ∈ AL := AL_in (tk_2 _ (List.mem_of_getElem? (i := 70) rfl)) rfl
theorem aw_356 : Cond.fieldLink RX9 34 "IceForCoast" "coins" "LIceForCoast$Coins;" ∈ AL := AL_in (tk_2 _ (List.mem_of_getElem? (i := 71) rfl)) rfl
theorem aw_357 : Cond.fieldLink RX9 37 "IceForCoast" "bergs" "[LIceForCoast$Berg;" ∈ AL := AL_in (tk_2 _ (List.mem_of_getElem? (i := 72) rfl)) rfl
theorem aw_358 : Cond.fieldLink RX9 44 "IceForCoast" "lines" "LIceForCoast$Lines;" ∈ AL := AL_in (tk_2 _ (List.mem_of_getElem? (i := 73) rfl)) rfl
theorem aw_359 : Cond.fieldLink RX9 51 "IceForCoast" "kept" "LIceForCoast$Image;" ∈ AL := AL_in (tk_2 _ (List.mem_of_getElem? (i := 74) rfl)) rfl
theorem aw_360 : Cond.fieldLink RX9 58 "IceForCoast" "ledger" "LIceForCoast$Ledger;" ∈ AL := AL_in (tk_2 _ (List.mem_of_getElem? (i := 75) rfl)) rfl
theorem aw_361 : Cond.fieldLink RX9 65 "IceForCoast" "theOdds" "LIceForCoast$Odds;" ∈ AL := AL_in (tk_2 _ (List.mem_of_getElem? (i := 76) rfl)) rfl
theorem aw_362 : Cond.fieldLink RX9 91 "IceForCoast" "bergCount" "I" ∈ AL := AL_in (tk_2 _ (List.mem_of_getElem? (i := 77) rfl)) rfl
theorem aw_363 : Cond.fieldLink RX9 99 "IceForCoast" "seasRead" "I" ∈ AL := AL_in (tk_2 _ (List.mem_of_getElem? (i := 78) rfl)) rfl
theorem aw_364 : Cond.fieldLink RX9 242 "IceForCoast" "cameDone" "I" ∈ AL := AL_in (tk_2 _ (List.mem_of_getElem? (i := 79) rfl)) rfl
theorem aw_390 : Cond.methodLink RL 15 yX9_letters ∈ AL := AL_in (tk_2 _ (List.mem_of_getElem? (i := 105) rfl)) rfl
theorem aw_391 : Cond.instanceMethod yX9_letters ∈ AL := AL_in (tk_2 _ (List.mem_of_getElem? (i := 106) rfl)) rfl
theorem aw_392 : Cond.selects RX9 yX9_letters yX9_letters ∈ AL := AL_in (tk_2 _ (List.mem_of_getElem? (i := 107) rfl)) rfl
theorem aw_393 : Cond.code yX9_letters cX9_letters 3 (some .int) ∈ AL := AL_in (tk_2 _ (List.mem_of_getElem? (i := 108) rfl)) rfl
theorem aw_394 : Cond.methodLink RX9 70 yX6_append ∈ AL := AL_in (tk_2 _ (List.mem_of_getElem? (i := 109) rfl)) rfl
theorem aw_395 : Cond.instanceMethod yX6_append ∈ AL := AL_in (tk_2 _ (List.mem_of_getElem? (i := 110) rfl)) rfl
theorem aw_396 : Cond.selects RX6 yX6_append yX6_append ∈ AL := AL_in (tk_2 _ (List.mem_of_getElem? (i := 111) rfl)) rfl
theorem aw_397 : Cond.code yX6_append cX6_append 7 (some .int) ∈ AL := AL_in (tk_2 _ (List.mem_of_getElem? (i := 112) rfl)) rfl
theorem aw_398 : Cond.methodLink RX6 15 yX6_byteOf ∈ AL := AL_in (tk_2 _ (List.mem_of_getElem? (i := 113) rfl)) rfl
theorem aw_399 : Cond.static yX6_byteOf ∈ AL := AL_in (tk_2 _ (List.mem_of_getElem? (i := 114) rfl)) rfl
theorem aw_400 : Cond.code yX6_byteOf cX6_byteOf 3 (some .int) ∈ AL := AL_in (tk_2 _ (List.mem_of_getElem? (i := 115) rfl)) rfl
theorem aw_401 : Cond.methodLink RL 20 yX9_blank ∈ AL := AL_in (tk_2 _ (List.mem_of_getElem? (i := 116) rfl)) rfl
theorem aw_402 : Cond.instanceMethod yX9_blank ∈ AL := AL_in (tk_2 _ (List.mem_of_getElem? (i := 117) rfl)) rfl
theorem aw_403 : Cond.selects RX9 yX9_blank yX9_blank ∈ AL := AL_in (tk_2 _ (List.mem_of_getElem? (i := 118) rfl)) rfl
theorem aw_404 : Cond.code yX9_blank cX9_blank 1 (some .int) ∈ AL := AL_in (tk_2 _ (List.mem_of_getElem? (i := 119) rfl)) rfl
theorem aw_405 : Cond.methodLink RX9 74 yX6_clear ∈ AL := AL_in (tk_2 _ (List.mem_of_getElem? (i := 120) rfl)) rfl
theorem aw_406 : Cond.instanceMethod yX6_clear ∈ AL := AL_in (tk_2 _ (List.mem_of_getElem? (i := 121) rfl)) rfl
theorem aw_407 : Cond.selects RX6 yX6_clear yX6_clear ∈ AL := AL_in (tk_2 _ (List.mem_of_getElem? (i := 122) rfl)) rfl
theorem aw_408 : Cond.code yX6_clear cX6_clear 2 (some .int) ∈ AL := AL_in (tk_2 _ (List.mem_of_getElem? (i := 123) rfl)) rfl
theorem aw_409 : Cond.methodLink RL 25 yX9_fault ∈ AL := AL_in (tk_2 _ (List.mem_of_getElem? (i := 124) rfl)) rfl
theorem aw_410 : Cond.instanceMethod yX9_fault ∈ AL := AL_in (tk_2 _ (List.mem_of_getElem? (i := 125) rfl)) rfl
theorem aw_411 : Cond.selects RX9 yX9_fault yX9_fault ∈ AL := AL_in (tk_2 _ (List.mem_of_getElem? (i := 126) rfl)) rfl
theorem aw_412 : Cond.code yX9_fault cX9_fault 1 (some .int) ∈ AL := AL_in (tk_2 _ (List.mem_of_getElem? (i := 127) rfl)) rfl
theorem aw_413 : Cond.methodLink RX9 78 yX6_firstWrong ∈ AL := AL_in (tk_2 _ (List.mem_of_getElem? (i := 128) rfl)) rfl
theorem aw_414 : Cond.instanceMethod yX6_firstWrong ∈ AL := AL_in (tk_2 _ (List.mem_of_getElem? (i := 129) rfl)) rfl
theorem aw_415 : Cond.selects RX6 yX6_firstWrong yX6_firstWrong ∈ AL := AL_in (tk_2 _ (List.mem_of_getElem? (i := 130) rfl)) rfl
theorem aw_416 : Cond.code yX6_firstWrong cX6_firstWrong 2 (some .int) ∈ AL := AL_in (tk_2 _ (List.mem_of_getElem? (i := 131) rfl)) rfl
theorem aw_417 : Cond.methodLink RX6 39 yX6_takes ∈ AL := AL_in (tk_2 _ (List.mem_of_getElem? (i := 132) rfl)) rfl
theorem aw_419 : Cond.instanceMethod yX6_takes ∈ AL := AL_in (tk_2 _ (List.mem_of_getElem? (i := 134) rfl)) rfl
theorem aw_420 : Cond.code yX6_takes cX6_takes 3 (some .boolean) ∈ AL := AL_in (tk_2 _ (List.mem_of_getElem? (i := 135) rfl)) rfl
theorem aw_421 : Cond.methodLink RX6 47 yX6_takesRowEnd ∈ AL := AL_in (tk_2 _ (List.mem_of_getElem? (i := 136) rfl)) rfl
theorem aw_423 : Cond.instanceMethod yX6_takesRowEnd ∈ AL := AL_in (tk_2 _ (List.mem_of_getElem? (i := 138) rfl)) rfl
theorem aw_424 : Cond.code yX6_takesRowEnd cX6_takesRowEnd 2 (some .boolean) ∈ AL := AL_in (tk_2 _ (List.mem_of_getElem? (i := 139) rfl)) rfl
theorem aw_425 : Cond.methodLink RX6 51 yX7_wayOf ∈ AL := AL_in (tk_2 _ (List.mem_of_getElem? (i := 140) rfl)) rfl
theorem aw_426 : Cond.static yX7_wayOf ∈ AL := AL_in (tk_2 _ (List.mem_of_getElem? (i := 141) rfl)) rfl
theorem aw_427 : Cond.code yX7_wayOf cX7_wayOf 1 (some .int) ∈ AL := AL_in (tk_2 _ (List.mem_of_getElem? (i := 142) rfl)) rfl
theorem aw_428 : Cond.methodLink RX6 57 yX6_takesSquare ∈ AL := AL_in (tk_2 _ (List.mem_of_getElem? (i := 143) rfl)) rfl
theorem aw_430 : Cond.instanceMethod yX6_takesSquare ∈ AL := AL_in (tk_2 _ (List.mem_of_getElem? (i := 145) rfl)) rfl
theorem aw_431 : Cond.code yX6_takesSquare cX6_takesSquare 4 (some .boolean) ∈ AL := AL_in (tk_2 _ (List.mem_of_getElem? (i := 146) rfl)) rfl
theorem aw_432 : Cond.methodLink RL 29 yX9_sea ∈ AL := AL_in (tk_2 _ (List.mem_of_getElem? (i := 147) rfl)) rfl
theorem aw_433 : Cond.instanceMethod yX9_sea ∈ AL := AL_in (tk_2 _ (List.mem_of_getElem? (i := 148) rfl)) rfl
theorem aw_434 : Cond.selects RX9 yX9_sea yX9_sea ∈ AL := AL_in (tk_2 _ (List.mem_of_getElem? (i := 149) rfl)) rfl
theorem aw_435 : Cond.code yX9_sea cX9_sea 1 (some .int) ∈ AL := AL_in (tk_2 _ (List.mem_of_getElem? (i := 150) rfl)) rfl
theorem aw_436 : Cond.methodLink RX9 81 yX6_isSea ∈ AL := AL_in (tk_2 _ (List.mem_of_getElem? (i := 151) rfl)) rfl
theorem aw_437 : Cond.instanceMethod yX6_isSea ∈ AL := AL_in (tk_2 _ (List.mem_of_getElem? (i := 152) rfl)) rfl
theorem aw_438 : Cond.selects RX6 yX6_isSea yX6_isSea ∈ AL := AL_in (tk_2 _ (List.mem_of_getElem? (i := 153) rfl)) rfl
theorem aw_439 : Cond.code yX6_isSea cX6_isSea 1 (some .boolean) ∈ AL := AL_in (tk_2 _ (List.mem_of_getElem? (i := 154) rfl)) rfl
theorem aw_440 : Cond.methodLink RX6 43 yX6_firstWrong ∈ AL := AL_in (tk_2 _ (List.mem_of_getElem? (i := 155) rfl)) rfl
theorem aw_441 : Cond.methodLink RX9 85 yX7_lay ∈ AL := AL_in (tk_2 _ (List.mem_of_getElem? (i := 156) rfl)) rfl
theorem aw_442 : Cond.instanceMethod yX7_lay ∈ AL := AL_in (tk_2 _ (List.mem_of_getElem? (i := 157) rfl)) rfl
theorem aw_443 : Cond.selects RX7 yX7_lay yX7_lay ∈ AL := AL_in (tk_2 _ (List.mem_of_getElem? (i := 158) rfl)) rfl
theorem aw_444 : Cond.code yX7_lay cX7_lay 3 none ∈ AL := AL_in (tk_2 _ (List.mem_of_getElem? (i := 159) rfl)) rfl
theorem aw_445 : Cond.methodLink RX7 45 yX6_codeAt ∈ AL := AL_in (tk_2 _ (List.mem_of_getElem? (i := 160) rfl)) rfl
theorem aw_446 : Cond.instanceMethod yX6_codeAt ∈ AL := AL_in (tk_2 _ (List.mem_of_getElem? (i := 161) rfl)) rfl
theorem aw_447 : Cond.selects RX6 yX6_codeAt yX6_codeAt ∈ AL := AL_in (tk_2 _ (List.mem_of_getElem? (i := 162) rfl)) rfl
theorem aw_448 : Cond.code yX6_codeAt cX6_codeAt 2 (some .int) ∈ AL := AL_in (tk_2 _ (List.mem_of_getElem? (i := 163) rfl)) rfl
theorem aw_449 : Cond.methodLink RX7 49 yX7_layLetter ∈ AL := AL_in (tk_2 _ (List.mem_of_getElem? (i := 164) rfl)) rfl
theorem aw_451 : Cond.instanceMethod yX7_layLetter ∈ AL := AL_in (tk_2 _ (List.mem_of_getElem? (i := 166) rfl)) rfl
theorem aw_452 : Cond.code yX7_layLetter cX7_layLetter 3 none ∈ AL := AL_in (tk_2 _ (List.mem_of_getElem? (i := 167) rfl)) rfl
theorem aw_453 : Cond.methodLink RX7 61 yX7_wayOf ∈ AL := AL_in (tk_2 _ (List.mem_of_getElem? (i := 168) rfl)) rfl
theorem aw_454 : Cond.methodLink RX7 53 yX7_measure ∈ AL := AL_in (tk_2 _ (List.mem_of_getElem? (i := 169) rfl)) rfl
theorem aw_456 : Cond.instanceMethod yX7_measure ∈ AL := AL_in (tk_2 _ (List.mem_of_getElem? (i := 171) rfl)) rfl
theorem aw_457 : Cond.code yX7_measure cX7_measure 4 none ∈ AL := AL_in (tk_2 _ (List.mem_of_getElem? (i := 172) rfl)) rfl
theorem aw_458 : Cond.methodLink RX7 67 Lib.Math.abs.name ∈ AL := AL_in (tk_2 _ (List.mem_of_getElem? (i := 173) rfl)) rfl
theorem aw_459 : Cond.static Lib.Math.abs.name ∈ AL := AL_in (tk_2 _ (List.mem_of_getElem? (i := 174) rfl)) rfl
theorem aw_460 : Cond.code Lib.Math.abs.name Lib.Math.abs.code 1 (some .int) ∈ AL := AL_in (tk_2 _ (List.mem_of_getElem? (i := 175) rfl)) rfl
theorem aw_461 : Cond.methodLink RX7 58 yX7_openWays ∈ AL := AL_in (tk_2 _ (List.mem_of_getElem? (i := 176) rfl)) rfl
theorem aw_463 : Cond.instanceMethod yX7_openWays ∈ AL := AL_in (tk_2 _ (List.mem_of_getElem? (i := 178) rfl)) rfl
theorem aw_464 : Cond.code yX7_openWays cX7_openWays 6 none ∈ AL := AL_in (tk_2 _ (List.mem_of_getElem? (i := 179) rfl)) rfl
theorem aw_465 : Cond.methodLink RX7 72 yX7_beside ∈ AL := AL_in (tk_2 _ (List.mem_of_getElem? (i := 180) rfl)) rfl
theorem aw_467 : Cond.instanceMethod yX7_beside ∈ AL := AL_in (tk_2 _ (List.mem_of_getElem? (i := 182) rfl)) rfl
theorem aw_468 : Cond.code yX7_beside cX7_beside 4 (some .int) ∈ AL := AL_in (tk_2 _ (List.mem_of_getElem? (i := 183) rfl)) rfl
theorem aw_469 : Cond.methodLink RX9 95 yX4_cutTo ∈ AL := AL_in (tk_2 _ (List.mem_of_getElem? (i := 184) rfl)) rfl
theorem aw_470 : Cond.instanceMethod yX4_cutTo ∈ AL := AL_in (tk_2 _ (List.mem_of_getElem? (i := 185) rfl)) rfl
theorem aw_471 : Cond.selects RX4 yX4_cutTo yX4_cutTo ∈ AL := AL_in (tk_2 _ (List.mem_of_getElem? (i := 186) rfl)) rfl
theorem aw_472 : Cond.code yX4_cutTo cX4_cutTo 2 none ∈ AL := AL_in (tk_2 _ (List.mem_of_getElem? (i := 187) rfl)) rfl
theorem aw_473 : Cond.methodLink RX4 25 Lib.Math.min.name ∈ AL := AL_in (tk_2 _ (List.mem_of_getElem? (i := 188) rfl)) rfl
theorem aw_474 : Cond.static Lib.Math.min.name ∈ AL := AL_in (tk_2 _ (List.mem_of_getElem? (i := 189) rfl)) rfl
theorem aw_475 : Cond.code Lib.Math.min.name Lib.Math.min.code 2 (some .int) ∈ AL := AL_in (tk_2 _ (List.mem_of_getElem? (i := 190) rfl)) rfl
theorem aw_476 : Cond.methodLink RX4 31 Lib.Math.max.name ∈ AL := AL_in (tk_2 _ (List.mem_of_getElem? (i := 191) rfl)) rfl
theorem aw_477 : Cond.static Lib.Math.max.name ∈ AL := AL_in (tk_2 _ (List.mem_of_getElem? (i := 192) rfl)) rfl
theorem aw_478 : Cond.code Lib.Math.max.name Lib.Math.max.code 2 (some .int) ∈ AL := AL_in (tk_2 _ (List.mem_of_getElem? (i := 193) rfl)) rfl
theorem aw_479 : Cond.methodLink RL 33 yX9_square ∈ AL := AL_in (tk_2 _ (List.mem_of_getElem? (i := 194) rfl)) rfl
theorem aw_480 : Cond.instanceMethod yX9_square ∈ AL := AL_in (tk_2 _ (List.mem_of_getElem? (i := 195) rfl)) rfl
theorem aw_481 : Cond.selects RX9 yX9_square yX9_square ∈ AL := AL_in (tk_2 _ (List.mem_of_getElem? (i := 196) rfl)) rfl
theorem aw_482 : Cond.code yX9_square cX9_square 3 (some .int) ∈ AL := AL_in (tk_2 _ (List.mem_of_getElem? (i := 197) rfl)) rfl
theorem aw_483 : Cond.methodLink RX9 105 yX7_has ∈ AL := AL_in (tk_2 _ (List.mem_of_getElem? (i := 198) rfl)) rfl
theorem aw_484 : Cond.instanceMethod yX7_has ∈ AL := AL_in (tk_2 _ (List.mem_of_getElem? (i := 199) rfl)) rfl
theorem aw_485 : Cond.selects RX7 yX7_has yX7_has ∈ AL := AL_in (tk_2 _ (List.mem_of_getElem? (i := 200) rfl)) rfl
theorem aw_486 : Cond.code yX7_has cX7_has 2 (some .boolean) ∈ AL := AL_in (tk_2 _ (List.mem_of_getElem? (i := 201) rfl)) rfl
theorem aw_487 : Cond.methodLink RL 38 yX9_berg ∈ AL := AL_in (tk_2 _ (List.mem_of_getElem? (i := 202) rfl)) rfl
theorem aw_488 : Cond.instanceMethod yX9_berg ∈ AL := AL_in (tk_2 _ (List.mem_of_getElem? (i := 203) rfl)) rfl
theorem aw_489 : Cond.selects RX9 yX9_berg yX9_berg ∈ AL := AL_in (tk_2 _ (List.mem_of_getElem? (i := 204) rfl)) rfl
theorem aw_490 : Cond.code yX9_berg cX9_berg 6 (some .int) ∈ AL := AL_in (tk_2 _ (List.mem_of_getElem? (i := 205) rfl)) rfl
theorem aw_491 : Cond.methodLink RX9 119 yX0_isKind ∈ AL := AL_in (tk_2 _ (List.mem_of_getElem? (i := 206) rfl)) rfl
theorem aw_492 : Cond.static yX0_isKind ∈ AL := AL_in (tk_2 _ (List.mem_of_getElem? (i := 207) rfl)) rfl
theorem aw_493 : Cond.code yX0_isKind cX0_isKind 1 (some .boolean) ∈ AL := AL_in (tk_2 _ (List.mem_of_getElem? (i := 208) rfl)) rfl
theorem aw_494 : Cond.methodLink RX9 122 yX7_hasWarmth ∈ AL := AL_in (tk_2 _ (List.mem_of_getElem? (i := 209) rfl)) rfl
theorem aw_495 : Cond.instanceMethod yX7_hasWarmth ∈ AL := AL_in (tk_2 _ (List.mem_of_getElem? (i := 210) rfl)) rfl
theorem aw_496 : Cond.selects RX7 yX7_hasWarmth yX7_hasWarmth ∈ AL := AL_in (tk_2 _ (List.mem_of_getElem? (i := 211) rfl)) rfl
theorem aw_497 : Cond.code yX7_hasWarmth cX7_hasWarmth 2 (some .boolean) ∈ AL := AL_in (tk_2 _ (List.mem_of_getElem? (i := 212) rfl)) rfl
theorem aw_498 : Cond.methodLink RX7 33 yX7_has ∈ AL := AL_in (tk_2 _ (List.mem_of_getElem? (i := 213) rfl)) rfl
theorem aw_499 : Cond.methodLink RX9 125 yX9_isSize ∈ AL := AL_in (tk_2 _ (List.mem_of_getElem? (i := 214) rfl)) rfl
theorem aw_500 : Cond.static yX9_isSize ∈ AL := AL_in (tk_2 _ (List.mem_of_getElem? (i := 215) rfl)) rfl
theorem aw_501 : Cond.code yX9_isSize cX9_isSize 1 (some .boolean) ∈ AL := AL_in (tk_2 _ (List.mem_of_getElem? (i := 216) rfl)) rfl
theorem aw_502 : Cond.methodLink RX9 128 yX9_isFoot ∈ AL := AL_in (tk_2 _ (List.mem_of_getElem? (i := 217) rfl)) rfl
theorem aw_503 : Cond.static yX9_isFoot ∈ AL := AL_in (tk_2 _ (List.mem_of_getElem? (i := 218) rfl)) rfl
theorem aw_504 : Cond.code yX9_isFoot cX9_isFoot 1 (some .boolean) ∈ AL := AL_in (tk_2 _ (List.mem_of_getElem? (i := 219) rfl)) rfl
theorem aw_505 : Cond.methodLink RX9 131 yX0_mayBreak ∈ AL := AL_in (tk_2 _ (List.mem_of_getElem? (i := 220) rfl)) rfl
theorem aw_506 : Cond.static yX0_mayBreak ∈ AL := AL_in (tk_2 _ (List.mem_of_getElem? (i := 221) rfl)) rfl
theorem aw_507 : Cond.code yX0_mayBreak cX0_mayBreak 2 (some .boolean) ∈ AL := AL_in (tk_2 _ (List.mem_of_getElem? (i := 222) rfl)) rfl
theorem aw_508 : Cond.methodLink RX9 135 yX0_become ∈ AL := AL_in (tk_2 _ (List.mem_of_getElem? (i := 223) rfl)) rfl
theorem aw_509 : Cond.instanceMethod yX0_become ∈ AL := AL_in (tk_2 _ (List.mem_of_getElem? (i := 224) rfl)) rfl
theorem aw_510 : Cond.selects RX0 yX0_become yX0_become ∈ AL := AL_in (tk_2 _ (List.mem_of_getElem? (i := 225) rfl)) rfl
theorem aw_511 : Cond.code yX0_become cX0_become 6 none ∈ AL := AL_in (tk_2 _ (List.mem_of_getElem? (i := 226) rfl)) rfl
theorem aw_512 : Cond.methodLink RX9 139 yX3_forget ∈ AL := AL_in (tk_2 _ (List.mem_of_getElem? (i := 227) rfl)) rfl
theorem aw_513 : Cond.instanceMethod yX3_forget ∈ AL := AL_in (tk_2 _ (List.mem_of_getElem? (i := 228) rfl)) rfl
theorem aw_514 : Cond.selects RX3 yX3_forget yX3_forget ∈ AL := AL_in (tk_2 _ (List.mem_of_getElem? (i := 229) rfl)) rfl
theorem aw_515 : Cond.code yX3_forget cX3_forget 2 none ∈ AL := AL_in (tk_2 _ (List.mem_of_getElem? (i := 230) rfl)) rfl
theorem aw_516 : Cond.methodLink RL 43 yX9_as ∈ AL := AL_in (tk_2 _ (List.mem_of_getElem? (i := 231) rfl)) rfl
theorem aw_517 : Cond.instanceMethod yX9_as ∈ AL := AL_in (tk_2 _ (List.mem_of_getElem? (i := 232) rfl)) rfl
theorem aw_518 : Cond.selects RX9 yX9_as yX9_as ∈ AL := AL_in (tk_2 _ (List.mem_of_getElem? (i := 233) rfl)) rfl
theorem aw_519 : Cond.code yX9_as cX9_as 3 (some .int) ∈ AL := AL_in (tk_2 _ (List.mem_of_getElem? (i := 234) rfl)) rfl
theorem aw_520 : Cond.methodLink RX9 142 yX9_isBerg ∈ AL := AL_in (tk_2 _ (List.mem_of_getElem? (i := 235) rfl)) rfl
theorem aw_522 : Cond.instanceMethod yX9_isBerg ∈ AL := AL_in (tk_2 _ (List.mem_of_getElem? (i := 237) rfl)) rfl
theorem aw_523 : Cond.code yX9_isBerg cX9_isBerg 2 (some .boolean) ∈ AL := AL_in (tk_2 _ (List.mem_of_getElem? (i := 238) rfl)) rfl
theorem aw_524 : Cond.methodLink RX9 145 yX0_isA ∈ AL := AL_in (tk_2 _ (List.mem_of_getElem? (i := 239) rfl)) rfl
theorem aw_525 : Cond.instanceMethod yX0_isA ∈ AL := AL_in (tk_3 _ (List.mem_of_getElem? (i := 0) rfl)) rfl
theorem aw_526 : Cond.selects RX0 yX0_isA yX0_isA ∈ AL := AL_in (tk_3 _ (List.mem_of_getElem? (i := 1) rfl)) rfl
theorem aw_527 : Cond.code yX0_isA cX0_isA 2 (some .boolean) ∈ AL := AL_in (tk_3 _ (List.mem_of_getElem? (i := 2) rfl)) rfl
theorem aw_528 : Cond.methodLink RL 47 yX9_about ∈ AL := AL_in (tk_3 _ (List.mem_of_getElem? (i := 3) rfl)) rfl
theorem aw_529 : Cond.instanceMethod yX9_about ∈ AL := AL_in (tk_3 _ (List.mem_of_getElem? (i := 4) rfl)) rfl
theorem aw_530 : Cond.selects RX9 yX9_about yX9_about ∈ AL := AL_in (tk_3 _ (List.mem_of_getElem? (i := 5) rfl)) rfl
theorem aw_531 : Cond.code yX9_about cX9_about 3 (some .int) ∈ AL := AL_in (tk_3 _ (List.mem_of_getElem? (i := 6) rfl)) rfl
theorem aw_532 : Cond.methodLink RL 51 yX9_change ∈ AL := AL_in (tk_3 _ (List.mem_of_getElem? (i := 7) rfl)) rfl
theorem aw_533 : Cond.instanceMethod yX9_change ∈ AL := AL_in (tk_3 _ (List.mem_of_getElem? (i := 8) rfl)) rfl
theorem aw_534 : Cond.selects RX9 yX9_change yX9_change ∈ AL := AL_in (tk_3 _ (List.mem_of_getElem? (i := 9) rfl)) rfl
theorem aw_535 : Cond.code yX9_change cX9_change 8 (some .int) ∈ AL := AL_in (tk_3 _ (List.mem_of_getElem? (i := 10) rfl)) rfl
theorem aw_536 : Cond.methodLink RL 56 yX9_coin ∈ AL := AL_in (tk_3 _ (List.mem_of_getElem? (i := 11) rfl)) rfl
theorem aw_537 : Cond.instanceMethod yX9_coin ∈ AL := AL_in (tk_3 _ (List.mem_of_getElem? (i := 12) rfl)) rfl
theorem aw_538 : Cond.selects RX9 yX9_coin yX9_coin ∈ AL := AL_in (tk_3 _ (List.mem_of_getElem? (i := 13) rfl)) rfl
theorem aw_539 : Cond.code yX9_coin cX9_coin 3 (some .int) ∈ AL := AL_in (tk_3 _ (List.mem_of_getElem? (i := 14) rfl)) rfl
theorem aw_540 : Cond.methodLink RX9 163 yX1_mayBe ∈ AL := AL_in (tk_3 _ (List.mem_of_getElem? (i := 15) rfl)) rfl
theorem aw_541 : Cond.instanceMethod yX1_mayBe ∈ AL := AL_in (tk_3 _ (List.mem_of_getElem? (i := 16) rfl)) rfl
theorem aw_542 : Cond.selects RX1 yX1_mayBe yX1_mayBe ∈ AL := AL_in (tk_3 _ (List.mem_of_getElem? (i := 17) rfl)) rfl
theorem aw_543 : Cond.code yX1_mayBe cX1_mayBe 3 (some .boolean) ∈ AL := AL_in (tk_3 _ (List.mem_of_getElem? (i := 18) rfl)) rfl
theorem aw_544 : Cond.fieldLink RX1 13 "IceForCoast$Coins" "LEAST" "[I" ∈ AL := AL_in (tk_3 _ (List.mem_of_getElem? (i := 19) rfl)) rfl
theorem aw_546 : Cond.fieldLink RX1 16 "IceForCoast$Coins" "MOST" "[I" ∈ AL := AL_in (tk_3 _ (List.mem_of_getElem? (i := 21) rfl)) rfl
theorem aw_548 : Cond.methodLink RX9 168 yX3_forgetAll ∈ AL := AL_in (tk_3 _ (List.mem_of_getElem? (i := 23) rfl)) rfl
theorem aw_549 : Cond.instanceMethod yX3_forgetAll ∈ AL := AL_in (tk_3 _ (List.mem_of_getElem? (i := 24) rfl)) rfl
theorem aw_550 : Cond.selects RX3 yX3_forgetAll yX3_forgetAll ∈ AL := AL_in (tk_3 _ (List.mem_of_getElem? (i := 25) rfl)) rfl
theorem aw_551 : Cond.code yX3_forgetAll cX3_forgetAll 2 none ∈ AL := AL_in (tk_3 _ (List.mem_of_getElem? (i := 26) rfl)) rfl
theorem aw_552 : Cond.methodLink RX9 171 yX1_put ∈ AL := AL_in (tk_3 _ (List.mem_of_getElem? (i := 27) rfl)) rfl
theorem aw_553 : Cond.instanceMethod yX1_put ∈ AL := AL_in (tk_3 _ (List.mem_of_getElem? (i := 28) rfl)) rfl
theorem aw_554 : Cond.selects RX1 yX1_put yX1_put ∈ AL := AL_in (tk_3 _ (List.mem_of_getElem? (i := 29) rfl)) rfl
theorem aw_555 : Cond.code yX1_put cX1_put 4 (some .int) ∈ AL := AL_in (tk_3 _ (List.mem_of_getElem? (i := 30) rfl)) rfl
theorem aw_556 : Cond.methodLink RL 60 yX9_tow ∈ AL := AL_in (tk_3 _ (List.mem_of_getElem? (i := 31) rfl)) rfl
theorem aw_557 : Cond.instanceMethod yX9_tow ∈ AL := AL_in (tk_3 _ (List.mem_of_getElem? (i := 32) rfl)) rfl
theorem aw_558 : Cond.selects RX9 yX9_tow yX9_tow ∈ AL := AL_in (tk_3 _ (List.mem_of_getElem? (i := 33) rfl)) rfl
theorem aw_559 : Cond.code yX9_tow cX9_tow 6 (some .int) ∈ AL := AL_in (tk_3 _ (List.mem_of_getElem? (i := 34) rfl)) rfl
theorem aw_560 : Cond.constant RX9 175 (-100101) ∈ AL := AL_in (tk_3 _ (List.mem_of_getElem? (i := 35) rfl)) rfl
theorem aw_561 : Cond.methodLink RX9 176 yX9_isTugs ∈ AL := AL_in (tk_3 _ (List.mem_of_getElem? (i := 36) rfl)) rfl
theorem aw_562 : Cond.static yX9_isTugs ∈ AL := AL_in (tk_3 _ (List.mem_of_getElem? (i := 37) rfl)) rfl
theorem aw_563 : Cond.code yX9_isTugs cX9_isTugs 1 (some .boolean) ∈ AL := AL_in (tk_3 _ (List.mem_of_getElem? (i := 38) rfl)) rfl
theorem aw_564 : Cond.constant RX9 179 (-100102) ∈ AL := AL_in (tk_3 _ (List.mem_of_getElem? (i := 39) rfl)) rfl
theorem aw_565 : Cond.methodLink RX9 180 yX9_hasWay ∈ AL := AL_in (tk_3 _ (List.mem_of_getElem? (i := 40) rfl)) rfl
theorem aw_567 : Cond.instanceMethod yX9_hasWay ∈ AL := AL_in (tk_3 _ (List.mem_of_getElem? (i := 42) rfl)) rfl
theorem aw_568 : Cond.code yX9_hasWay cX9_hasWay 2 (some .boolean) ∈ AL := AL_in (tk_3 _ (List.mem_of_getElem? (i := 43) rfl)) rfl
theorem aw_569 : Cond.constant RX9 183 (-100001) ∈ AL := AL_in (tk_3 _ (List.mem_of_getElem? (i := 44) rfl)) rfl
theorem aw_570 : Cond.methodLink RX9 184 yX8_seek ∈ AL := AL_in (tk_3 _ (List.mem_of_getElem? (i := 45) rfl)) rfl
theorem aw_571 : Cond.instanceMethod yX8_seek ∈ AL := AL_in (tk_3 _ (List.mem_of_getElem? (i := 46) rfl)) rfl
theorem aw_572 : Cond.selects RX8 yX8_seek yX8_seek ∈ AL := AL_in (tk_3 _ (List.mem_of_getElem? (i := 47) rfl)) rfl
theorem aw_573 : Cond.code yX8_seek cX8_seek 5 none ∈ AL := AL_in (tk_3 _ (List.mem_of_getElem? (i := 48) rfl)) rfl
theorem aw_574 : Cond.methodLink RX8 52 Lib.Math.max.name ∈ AL := AL_in (tk_3 _ (List.mem_of_getElem? (i := 49) rfl)) rfl
theorem aw_575 : Cond.methodLink RX8 74 yX8_follow ∈ AL := AL_in (tk_3 _ (List.mem_of_getElem? (i := 50) rfl)) rfl
theorem aw_576 : Cond.static yX8_follow ∈ AL := AL_in (tk_3 _ (List.mem_of_getElem? (i := 51) rfl)) rfl
theorem aw_577 : Cond.code yX8_follow cX8_follow 5 none ∈ AL := AL_in (tk_3 _ (List.mem_of_getElem? (i := 52) rfl)) rfl
theorem aw_578 : Cond.methodLink RX8 99 yX8_isHopeless ∈ AL := AL_in (tk_3 _ (List.mem_of_getElem? (i := 53) rfl)) rfl
theorem aw_580 : Cond.instanceMethod yX8_isHopeless ∈ AL := AL_in (tk_3 _ (List.mem_of_getElem? (i := 55) rfl)) rfl
theorem aw_581 : Cond.code yX8_isHopeless cX8_isHopeless 3 (some .boolean) ∈ AL := AL_in (tk_3 _ (List.mem_of_getElem? (i := 56) rfl)) rfl
theorem aw_582 : Cond.methodLink RX8 110 yX1_gainOf ∈ AL := AL_in (tk_3 _ (List.mem_of_getElem? (i := 57) rfl)) rfl
theorem aw_583 : Cond.instanceMethod yX1_gainOf ∈ AL := AL_in (tk_3 _ (List.mem_of_getElem? (i := 58) rfl)) rfl
theorem aw_584 : Cond.selects RX1 yX1_gainOf yX1_gainOf ∈ AL := AL_in (tk_3 _ (List.mem_of_getElem? (i := 59) rfl)) rfl
theorem aw_585 : Cond.code yX1_gainOf cX1_gainOf 5 (some .int) ∈ AL := AL_in (tk_3 _ (List.mem_of_getElem? (i := 60) rfl)) rfl
theorem aw_586 : Cond.methodLink RX8 106 yX8_choose ∈ AL := AL_in (tk_3 _ (List.mem_of_getElem? (i := 61) rfl)) rfl
theorem aw_588 : Cond.instanceMethod yX8_choose ∈ AL := AL_in (tk_3 _ (List.mem_of_getElem? (i := 63) rfl)) rfl
theorem aw_589 : Cond.code yX8_choose cX8_choose 2 none ∈ AL := AL_in (tk_3 _ (List.mem_of_getElem? (i := 64) rfl)) rfl
theorem aw_590 : Cond.methodLink RX8 117 arraycopyName ∈ AL := AL_in (tk_3 _ (List.mem_of_getElem? (i := 65) rfl)) rfl
theorem aw_591 : Cond.static arraycopyName ∈ AL := AL_in (tk_3 _ (List.mem_of_getElem? (i := 66) rfl)) rfl
theorem aw_592 : Cond.native arraycopyName ∈ AL := AL_in (tk_3 _ (List.mem_of_getElem? (i := 67) rfl)) rfl
theorem aw_593 : Cond.methodLink RX8 85 yX8_pass ∈ AL := AL_in (tk_3 _ (List.mem_of_getElem? (i := 68) rfl)) rfl
theorem aw_595 : Cond.instanceMethod yX8_pass ∈ AL := AL_in (tk_3 _ (List.mem_of_getElem? (i := 70) rfl)) rfl
theorem aw_596 : Cond.code yX8_pass cX8_pass 10 none ∈ AL := AL_in (tk_3 _ (List.mem_of_getElem? (i := 71) rfl)) rfl
theorem aw_597 : Cond.methodLink RX8 123 yX8_daysOfStep ∈ AL := AL_in (tk_3 _ (List.mem_of_getElem? (i := 72) rfl)) rfl
theorem aw_599 : Cond.instanceMethod yX8_daysOfStep ∈ AL := AL_in (tk_3 _ (List.mem_of_getElem? (i := 74) rfl)) rfl
theorem aw_600 : Cond.code yX8_daysOfStep cX8_daysOfStep 6 (some .int) ∈ AL := AL_in (tk_3 _ (List.mem_of_getElem? (i := 75) rfl)) rfl
theorem aw_601 : Cond.methodLink RX8 130 yX8_drawnWarmth ∈ AL := AL_in (tk_3 _ (List.mem_of_getElem? (i := 76) rfl)) rfl
theorem aw_603 : Cond.instanceMethod yX8_drawnWarmth ∈ AL := AL_in (tk_3 _ (List.mem_of_getElem? (i := 78) rfl)) rfl
theorem aw_604 : Cond.code yX8_drawnWarmth cX8_drawnWarmth 3 (some .int) ∈ AL := AL_in (tk_3 _ (List.mem_of_getElem? (i := 79) rfl)) rfl
theorem aw_605 : Cond.constantLong RX8 146 (1103515245) ∈ AL := AL_in (tk_3 _ (List.mem_of_getElem? (i := 80) rfl)) rfl
theorem aw_606 : Cond.constantLong RX8 148 (12345) ∈ AL := AL_in (tk_3 _ (List.mem_of_getElem? (i := 81) rfl)) rfl
theorem aw_607 : Cond.constantLong RX8 150 (2147483648) ∈ AL := AL_in (tk_3 _ (List.mem_of_getElem? (i := 82) rfl)) rfl
theorem aw_608 : Cond.constantLong RX8 152 (65536) ∈ AL := AL_in (tk_3 _ (List.mem_of_getElem? (i := 83) rfl)) rfl
theorem aw_609 : Cond.constantLong RX8 154 (3) ∈ AL := AL_in (tk_3 _ (List.mem_of_getElem? (i := 84) rfl)) rfl
theorem aw_610 : Cond.methodLink RX8 134 yX0_meltOf ∈ AL := AL_in (tk_3 _ (List.mem_of_getElem? (i := 85) rfl)) rfl
theorem aw_611 : Cond.instanceMethod yX0_meltOf ∈ AL := AL_in (tk_3 _ (List.mem_of_getElem? (i := 86) rfl)) rfl
theorem aw_612 : Cond.selects RX0 yX0_meltOf yX0_meltOf ∈ AL := AL_in (tk_3 _ (List.mem_of_getElem? (i := 87) rfl)) rfl
theorem aw_613 : Cond.code yX0_meltOf cX0_meltOf 5 (some .int) ∈ AL := AL_in (tk_3 _ (List.mem_of_getElem? (i := 88) rfl)) rfl
theorem aw_614 : Cond.methodLink RX8 140 yX0_breaksOn ∈ AL := AL_in (tk_3 _ (List.mem_of_getElem? (i := 89) rfl)) rfl
theorem aw_615 : Cond.instanceMethod yX0_breaksOn ∈ AL := AL_in (tk_3 _ (List.mem_of_getElem? (i := 90) rfl)) rfl
theorem aw_616 : Cond.selects RX0 yX0_breaksOn yX0_breaksOn ∈ AL := AL_in (tk_3 _ (List.mem_of_getElem? (i := 91) rfl)) rfl
theorem aw_617 : Cond.code yX0_breaksOn cX0_breaksOn 2 (some .boolean) ∈ AL := AL_in (tk_3 _ (List.mem_of_getElem? (i := 92) rfl)) rfl
theorem aw_618 : Cond.methodLink RX9 200 yX8_stepAt ∈ AL := AL_in (tk_3 _ (List.mem_of_getElem? (i := 93) rfl)) rfl
theorem aw_619 : Cond.instanceMethod yX8_stepAt ∈ AL := AL_in (tk_3 _ (List.mem_of_getElem? (i := 94) rfl)) rfl
theorem aw_620 : Cond.selects RX8 yX8_stepAt yX8_stepAt ∈ AL := AL_in (tk_3 _ (List.mem_of_getElem? (i := 95) rfl)) rfl
theorem aw_621 : Cond.code yX8_stepAt cX8_stepAt 2 (some .int) ∈ AL := AL_in (tk_3 _ (List.mem_of_getElem? (i := 96) rfl)) rfl
theorem aw_622 : Cond.methodLink RL 65 yX9_ways ∈ AL := AL_in (tk_3 _ (List.mem_of_getElem? (i := 97) rfl)) rfl
theorem aw_623 : Cond.instanceMethod yX9_ways ∈ AL := AL_in (tk_3 _ (List.mem_of_getElem? (i := 98) rfl)) rfl
theorem aw_624 : Cond.selects RX9 yX9_ways yX9_ways ∈ AL := AL_in (tk_3 _ (List.mem_of_getElem? (i := 99) rfl)) rfl
theorem aw_625 : Cond.code yX9_ways cX9_ways 2 (some .int) ∈ AL := AL_in (tk_3 _ (List.mem_of_getElem? (i := 100) rfl)) rfl
theorem aw_626 : Cond.methodLink RL 70 yX9_best ∈ AL := AL_in (tk_3 _ (List.mem_of_getElem? (i := 101) rfl)) rfl
theorem aw_627 : Cond.instanceMethod yX9_best ∈ AL := AL_in (tk_3 _ (List.mem_of_getElem? (i := 102) rfl)) rfl
theorem aw_628 : Cond.selects RX9 yX9_best yX9_best ∈ AL := AL_in (tk_3 _ (List.mem_of_getElem? (i := 103) rfl)) rfl
theorem aw_629 : Cond.code yX9_best cX9_best 4 (some .int) ∈ AL := AL_in (tk_3 _ (List.mem_of_getElem? (i := 104) rfl)) rfl
theorem aw_630 : Cond.methodLink RX9 207 yX9_weigh ∈ AL := AL_in (tk_3 _ (List.mem_of_getElem? (i := 105) rfl)) rfl
theorem aw_632 : Cond.instanceMethod yX9_weigh ∈ AL := AL_in (tk_3 _ (List.mem_of_getElem? (i := 107) rfl)) rfl
theorem aw_633 : Cond.code yX9_weigh cX9_weigh 3 none ∈ AL := AL_in (tk_3 _ (List.mem_of_getElem? (i := 108) rfl)) rfl
theorem aw_634 : Cond.methodLink RX9 213 yX3_tugsOf ∈ AL := AL_in (tk_3 _ (List.mem_of_getElem? (i := 109) rfl)) rfl
theorem aw_635 : Cond.static yX3_tugsOf ∈ AL := AL_in (tk_3 _ (List.mem_of_getElem? (i := 110) rfl)) rfl
theorem aw_636 : Cond.code yX3_tugsOf cX3_tugsOf 1 (some .int) ∈ AL := AL_in (tk_3 _ (List.mem_of_getElem? (i := 111) rfl)) rfl
theorem aw_637 : Cond.methodLink RX9 216 yX3_hasSkirt ∈ AL := AL_in (tk_3 _ (List.mem_of_getElem? (i := 112) rfl)) rfl
theorem aw_638 : Cond.static yX3_hasSkirt ∈ AL := AL_in (tk_3 _ (List.mem_of_getElem? (i := 113) rfl)) rfl
theorem aw_639 : Cond.code yX3_hasSkirt cX3_hasSkirt 1 (some .boolean) ∈ AL := AL_in (tk_3 _ (List.mem_of_getElem? (i := 114) rfl)) rfl
theorem aw_640 : Cond.methodLink RX9 210 yX3_bestEntry ∈ AL := AL_in (tk_3 _ (List.mem_of_getElem? (i := 115) rfl)) rfl
theorem aw_641 : Cond.instanceMethod yX3_bestEntry ∈ AL := AL_in (tk_3 _ (List.mem_of_getElem? (i := 116) rfl)) rfl
theorem aw_642 : Cond.selects RX3 yX3_bestEntry yX3_bestEntry ∈ AL := AL_in (tk_3 _ (List.mem_of_getElem? (i := 117) rfl)) rfl
theorem aw_643 : Cond.code yX3_bestEntry cX3_bestEntry 4 (some .int) ∈ AL := AL_in (tk_3 _ (List.mem_of_getElem? (i := 118) rfl)) rfl
theorem aw_644 : Cond.methodLink RL 74 yX9_season ∈ AL := AL_in (tk_3 _ (List.mem_of_getElem? (i := 119) rfl)) rfl
theorem aw_645 : Cond.instanceMethod yX9_season ∈ AL := AL_in (tk_3 _ (List.mem_of_getElem? (i := 120) rfl)) rfl
theorem aw_646 : Cond.selects RX9 yX9_season yX9_season ∈ AL := AL_in (tk_3 _ (List.mem_of_getElem? (i := 121) rfl)) rfl
theorem aw_647 : Cond.code yX9_season cX9_season 4 (some .int) ∈ AL := AL_in (tk_3 _ (List.mem_of_getElem? (i := 122) rfl)) rfl
theorem aw_648 : Cond.methodLink RX9 223 yX3_deal ∈ AL := AL_in (tk_3 _ (List.mem_of_getElem? (i := 123) rfl)) rfl
theorem aw_649 : Cond.instanceMethod yX3_deal ∈ AL := AL_in (tk_3 _ (List.mem_of_getElem? (i := 124) rfl)) rfl
theorem aw_650 : Cond.selects RX3 yX3_deal yX3_deal ∈ AL := AL_in (tk_3 _ (List.mem_of_getElem? (i := 125) rfl)) rfl
theorem aw_651 : Cond.code yX3_deal cX3_deal 4 none ∈ AL := AL_in (tk_3 _ (List.mem_of_getElem? (i := 126) rfl)) rfl
theorem aw_652 : Cond.methodLink RX3 26 yX3_mostFrom ∈ AL := AL_in (tk_3 _ (List.mem_of_getElem? (i := 127) rfl)) rfl
theorem aw_654 : Cond.instanceMethod yX3_mostFrom ∈ AL := AL_in (tk_3 _ (List.mem_of_getElem? (i := 129) rfl)) rfl
theorem aw_655 : Cond.code yX3_mostFrom cX3_mostFrom 5 (some .int) ∈ AL := AL_in (tk_3 _ (List.mem_of_getElem? (i := 130) rfl)) rfl
theorem aw_656 : Cond.methodLink RX3 30 yX3_gainBy ∈ AL := AL_in (tk_3 _ (List.mem_of_getElem? (i := 131) rfl)) rfl
theorem aw_658 : Cond.instanceMethod yX3_gainBy ∈ AL := AL_in (tk_3 _ (List.mem_of_getElem? (i := 133) rfl)) rfl
theorem aw_659 : Cond.code yX3_gainBy cX3_gainBy 3 (some .int) ∈ AL := AL_in (tk_3 _ (List.mem_of_getElem? (i := 134) rfl)) rfl
theorem aw_660 : Cond.methodLink RX3 33 Lib.Math.max.name ∈ AL := AL_in (tk_3 _ (List.mem_of_getElem? (i := 135) rfl)) rfl
theorem aw_661 : Cond.methodLink RX9 229 yX3_tugsFor ∈ AL := AL_in (tk_3 _ (List.mem_of_getElem? (i := 136) rfl)) rfl
theorem aw_662 : Cond.instanceMethod yX3_tugsFor ∈ AL := AL_in (tk_3 _ (List.mem_of_getElem? (i := 137) rfl)) rfl
theorem aw_663 : Cond.selects RX3 yX3_tugsFor yX3_tugsFor ∈ AL := AL_in (tk_3 _ (List.mem_of_getElem? (i := 138) rfl)) rfl
theorem aw_664 : Cond.code yX3_tugsFor cX3_tugsFor 5 (some .int) ∈ AL := AL_in (tk_3 _ (List.mem_of_getElem? (i := 139) rfl)) rfl
theorem aw_665 : Cond.methodLink RX3 38 yX3_fewestFor ∈ AL := AL_in (tk_3 _ (List.mem_of_getElem? (i := 140) rfl)) rfl
theorem aw_667 : Cond.instanceMethod yX3_fewestFor ∈ AL := AL_in (tk_3 _ (List.mem_of_getElem? (i := 142) rfl)) rfl
theorem aw_668 : Cond.code yX3_fewestFor cX3_fewestFor 4 (some .int) ∈ AL := AL_in (tk_3 _ (List.mem_of_getElem? (i := 143) rfl)) rfl
theorem aw_669 : Cond.methodLink RL 78 yX9_more ∈ AL := AL_in (tk_3 _ (List.mem_of_getElem? (i := 144) rfl)) rfl
theorem aw_670 : Cond.instanceMethod yX9_more ∈ AL := AL_in (tk_3 _ (List.mem_of_getElem? (i := 145) rfl)) rfl
theorem aw_671 : Cond.selects RX9 yX9_more yX9_more ∈ AL := AL_in (tk_3 _ (List.mem_of_getElem? (i := 146) rfl)) rfl
theorem aw_672 : Cond.code yX9_more cX9_more 2 (some .int) ∈ AL := AL_in (tk_3 _ (List.mem_of_getElem? (i := 147) rfl)) rfl
theorem aw_673 : Cond.methodLink RX9 232 yX9_season ∈ AL := AL_in (tk_3 _ (List.mem_of_getElem? (i := 148) rfl)) rfl
theorem aw_674 : Cond.methodLink RL 82 yX9_drawn ∈ AL := AL_in (tk_3 _ (List.mem_of_getElem? (i := 149) rfl)) rfl
theorem aw_675 : Cond.instanceMethod yX9_drawn ∈ AL := AL_in (tk_3 _ (List.mem_of_getElem? (i := 150) rfl)) rfl
theorem aw_676 : Cond.selects RX9 yX9_drawn yX9_drawn ∈ AL := AL_in (tk_3 _ (List.mem_of_getElem? (i := 151) rfl)) rfl
theorem aw_677 : Cond.code yX9_drawn cX9_drawn 6 (some .int) ∈ AL := AL_in (tk_3 _ (List.mem_of_getElem? (i := 152) rfl)) rfl
theorem aw_678 : Cond.methodLink RX9 235 yX8_towAgain ∈ AL := AL_in (tk_3 _ (List.mem_of_getElem? (i := 153) rfl)) rfl
theorem aw_679 : Cond.instanceMethod yX8_towAgain ∈ AL := AL_in (tk_3 _ (List.mem_of_getElem? (i := 154) rfl)) rfl
theorem aw_680 : Cond.selects RX8 yX8_towAgain yX8_towAgain ∈ AL := AL_in (tk_3 _ (List.mem_of_getElem? (i := 155) rfl)) rfl
theorem aw_681 : Cond.code yX8_towAgain cX8_towAgain 4 none ∈ AL := AL_in (tk_3 _ (List.mem_of_getElem? (i := 156) rfl)) rfl
theorem aw_682 : Cond.methodLink RL 87 yX9_came ∈ AL := AL_in (tk_3 _ (List.mem_of_getElem? (i := 157) rfl)) rfl
theorem aw_683 : Cond.instanceMethod yX9_came ∈ AL := AL_in (tk_3 _ (List.mem_of_getElem? (i := 158) rfl)) rfl
theorem aw_684 : Cond.selects RX9 yX9_came yX9_came ∈ AL := AL_in (tk_3 _ (List.mem_of_getElem? (i := 159) rfl)) rfl
theorem aw_685 : Cond.code yX9_came cX9_came 10 (some .int) ∈ AL := AL_in (tk_3 _ (List.mem_of_getElem? (i := 160) rfl)) rfl
theorem aw_686 : Cond.methodLink RL 91 yX9_letOff ∈ AL := AL_in (tk_3 _ (List.mem_of_getElem? (i := 161) rfl)) rfl
theorem aw_687 : Cond.instanceMethod yX9_letOff ∈ AL := AL_in (tk_3 _ (List.mem_of_getElem? (i := 162) rfl)) rfl
theorem aw_688 : Cond.selects RX9 yX9_letOff yX9_letOff ∈ AL := AL_in (tk_3 _ (List.mem_of_getElem? (i := 163) rfl)) rfl
theorem aw_689 : Cond.code yX9_letOff cX9_letOff 8 (some .long) ∈ AL := AL_in (tk_3 _ (List.mem_of_getElem? (i := 164) rfl)) rfl
theorem aw_690 : Cond.constantLong RX9 245 (-102) ∈ AL := AL_in (tk_3 _ (List.mem_of_getElem? (i := 165) rfl)) rfl
theorem aw_691 : Cond.methodLink RX9 247 yX5_reckon ∈ AL := AL_in (tk_3 _ (List.mem_of_getElem? (i := 166) rfl)) rfl
theorem aw_692 : Cond.instanceMethod yX5_reckon ∈ AL := AL_in (tk_3 _ (List.mem_of_getElem? (i := 167) rfl)) rfl
theorem aw_693 : Cond.selects RX5 yX5_reckon yX5_reckon ∈ AL := AL_in (tk_3 _ (List.mem_of_getElem? (i := 168) rfl)) rfl
theorem aw_694 : Cond.code yX5_reckon cX5_reckon 9 none ∈ AL := AL_in (tk_3 _ (List.mem_of_getElem? (i := 169) rfl)) rfl
theorem aw_695 : Cond.methodLink RX5 19 yX5_letOffNow ∈ AL := AL_in (tk_3 _ (List.mem_of_getElem? (i := 170) rfl)) rfl
theorem aw_697 : Cond.instanceMethod yX5_letOffNow ∈ AL := AL_in (tk_3 _ (List.mem_of_getElem? (i := 172) rfl)) rfl
theorem aw_698 : Cond.code yX5_letOffNow cX5_letOffNow 3 (some .long) ∈ AL := AL_in (tk_3 _ (List.mem_of_getElem? (i := 173) rfl)) rfl
theorem aw_699 : Cond.constantLong RX5 33 (10) ∈ AL := AL_in (tk_3 _ (List.mem_of_getElem? (i := 174) rfl)) rfl
theorem aw_700 : Cond.methodLink RX5 45 Lib.Math.max.name ∈ AL := AL_in (tk_3 _ (List.mem_of_getElem? (i := 175) rfl)) rfl
theorem aw_701 : Cond.methodLink RX5 23 yX5_heldNow ∈ AL := AL_in (tk_3 _ (List.mem_of_getElem? (i := 176) rfl)) rfl
theorem aw_703 : Cond.instanceMethod yX5_heldNow ∈ AL := AL_in (tk_3 _ (List.mem_of_getElem? (i := 178) rfl)) rfl
theorem aw_704 : Cond.code yX5_heldNow cX5_heldNow 5 (some .long) ∈ AL := AL_in (tk_3 _ (List.mem_of_getElem? (i := 179) rfl)) rfl
theorem aw_705 : Cond.methodLink RX5 27 Lib.MathLoose.max_long.x ∈ AL := AL_in (tk_3 _ (List.mem_of_getElem? (i := 180) rfl)) rfl
theorem aw_706 : Cond.static Lib.MathLoose.max_long.x ∈ AL := AL_in (tk_3 _ (List.mem_of_getElem? (i := 181) rfl)) rfl
theorem aw_707 : Cond.code Lib.MathLoose.max_long.x Lib.MathLoose.max_long.code 4 (some .long) ∈ AL := AL_in (tk_3 _ (List.mem_of_getElem? (i := 182) rfl)) rfl
theorem aw_708 : Cond.methodLinkNest RX5 35 yX9_commonDivisor "IceForCoast" ∈ NW := NW_in (tk_3 _ (List.mem_of_getElem? (i := 183) rfl)) rfl
theorem aw_709 : Cond.static yX9_commonDivisor ∈ AL := AL_in (tk_3 _ (List.mem_of_getElem? (i := 184) rfl)) rfl
theorem aw_710 : Cond.code yX9_commonDivisor cX9_commonDivisor 7 (some .long) ∈ AL := AL_in (tk_3 _ (List.mem_of_getElem? (i := 185) rfl)) rfl
theorem aw_711 : Cond.methodLink RL 96 yX9_line ∈ AL := AL_in (tk_3 _ (List.mem_of_getElem? (i := 186) rfl)) rfl
theorem aw_712 : Cond.instanceMethod yX9_line ∈ AL := AL_in (tk_3 _ (List.mem_of_getElem? (i := 187) rfl)) rfl
theorem aw_713 : Cond.selects RX9 yX9_line yX9_line ∈ AL := AL_in (tk_3 _ (List.mem_of_getElem? (i := 188) rfl)) rfl
theorem aw_714 : Cond.code yX9_line cX9_line 4 (some .int) ∈ AL := AL_in (tk_3 _ (List.mem_of_getElem? (i := 189) rfl)) rfl
theorem aw_715 : Cond.methodLink RX9 261 yX9_isHouse ∈ AL := AL_in (tk_3 _ (List.mem_of_getElem? (i := 190) rfl)) rfl
theorem aw_716 : Cond.static yX9_isHouse ∈ AL := AL_in (tk_3 _ (List.mem_of_getElem? (i := 191) rfl)) rfl
theorem aw_717 : Cond.code yX9_isHouse cX9_isHouse 1 (some .boolean) ∈ AL := AL_in (tk_3 _ (List.mem_of_getElem? (i := 192) rfl)) rfl
theorem aw_718 : Cond.methodLink RX9 264 yX4_add ∈ AL := AL_in (tk_3 _ (List.mem_of_getElem? (i := 193) rfl)) rfl
theorem aw_719 : Cond.instanceMethod yX4_add ∈ AL := AL_in (tk_3 _ (List.mem_of_getElem? (i := 194) rfl)) rfl
theorem aw_720 : Cond.selects RX4 yX4_add yX4_add ∈ AL := AL_in (tk_3 _ (List.mem_of_getElem? (i := 195) rfl)) rfl
theorem aw_721 : Cond.code yX4_add cX4_add 4 (some .boolean) ∈ AL := AL_in (tk_3 _ (List.mem_of_getElem? (i := 196) rfl)) rfl
theorem aw_722 : Cond.methodLink RL 100 yX9_claims ∈ AL := AL_in (tk_3 _ (List.mem_of_getElem? (i := 197) rfl)) rfl
theorem aw_723 : Cond.instanceMethod yX9_claims ∈ AL := AL_in (tk_3 _ (List.mem_of_getElem? (i := 198) rfl)) rfl
theorem aw_724 : Cond.selects RX9 yX9_claims yX9_claims ∈ AL := AL_in (tk_3 _ (List.mem_of_getElem? (i := 199) rfl)) rfl
theorem aw_725 : Cond.code yX9_claims cX9_claims 11 (some .int) ∈ AL := AL_in (tk_3 _ (List.mem_of_getElem? (i := 200) rfl)) rfl
theorem aw_726 : Cond.methodLink RX9 271 yX4_allIfFirst ∈ AL := AL_in (tk_3 _ (List.mem_of_getElem? (i := 201) rfl)) rfl
theorem aw_727 : Cond.instanceMethod yX4_allIfFirst ∈ AL := AL_in (tk_3 _ (List.mem_of_getElem? (i := 202) rfl)) rfl
theorem aw_728 : Cond.selects RX4 yX4_allIfFirst yX4_allIfFirst ∈ AL := AL_in (tk_3 _ (List.mem_of_getElem? (i := 203) rfl)) rfl
theorem aw_729 : Cond.code yX4_allIfFirst cX4_allIfFirst 6 (some .int) ∈ AL := AL_in (tk_3 _ (List.mem_of_getElem? (i := 204) rfl)) rfl
theorem aw_730 : Cond.methodLink RX4 34 yX4_counts ∈ AL := AL_in (tk_3 _ (List.mem_of_getElem? (i := 205) rfl)) rfl
theorem aw_732 : Cond.instanceMethod yX4_counts ∈ AL := AL_in (tk_3 _ (List.mem_of_getElem? (i := 207) rfl)) rfl
theorem aw_733 : Cond.code yX4_counts cX4_counts 4 (some .boolean) ∈ AL := AL_in (tk_3 _ (List.mem_of_getElem? (i := 208) rfl)) rfl
theorem aw_734 : Cond.methodLink RX9 275 yX4_sharesOf ∈ AL := AL_in (tk_3 _ (List.mem_of_getElem? (i := 209) rfl)) rfl
theorem aw_735 : Cond.instanceMethod yX4_sharesOf ∈ AL := AL_in (tk_3 _ (List.mem_of_getElem? (i := 210) rfl)) rfl
theorem aw_736 : Cond.selects RX4 yX4_sharesOf yX4_sharesOf ∈ AL := AL_in (tk_3 _ (List.mem_of_getElem? (i := 211) rfl)) rfl
theorem aw_737 : Cond.code yX4_sharesOf cX4_sharesOf 7 (some .int) ∈ AL := AL_in (tk_3 _ (List.mem_of_getElem? (i := 212) rfl)) rfl
theorem aw_738 : Cond.methodLink RX9 279 yX4_sharesOfAll ∈ AL := AL_in (tk_3 _ (List.mem_of_getElem? (i := 213) rfl)) rfl
theorem aw_739 : Cond.instanceMethod yX4_sharesOfAll ∈ AL := AL_in (tk_3 _ (List.mem_of_getElem? (i := 214) rfl)) rfl
theorem aw_740 : Cond.selects RX4 yX4_sharesOfAll yX4_sharesOfAll ∈ AL := AL_in (tk_3 _ (List.mem_of_getElem? (i := 215) rfl)) rfl
theorem aw_741 : Cond.code yX4_sharesOfAll cX4_sharesOfAll 6 (some .int) ∈ AL := AL_in (tk_3 _ (List.mem_of_getElem? (i := 216) rfl)) rfl
theorem aw_742 : Cond.methodLink RX4 38 yX4_sharesOf ∈ AL := AL_in (tk_3 _ (List.mem_of_getElem? (i := 217) rfl)) rfl
theorem aw_743 : Cond.methodLink RX9 283 yX9_commonDivisor ∈ AL := AL_in (tk_3 _ (List.mem_of_getElem? (i := 218) rfl)) rfl
theorem aw_744 : Cond.methodLink RL 104 yX9_image ∈ AL := AL_in (tk_3 _ (List.mem_of_getElem? (i := 219) rfl)) rfl
theorem aw_745 : Cond.instanceMethod yX9_image ∈ AL := AL_in (tk_3 _ (List.mem_of_getElem? (i := 220) rfl)) rfl
theorem aw_746 : Cond.selects RX9 yX9_image yX9_image ∈ AL := AL_in (tk_3 _ (List.mem_of_getElem? (i := 221) rfl)) rfl
theorem aw_747 : Cond.code yX9_image cX9_image 1 (some .int) ∈ AL := AL_in (tk_3 _ (List.mem_of_getElem? (i := 222) rfl)) rfl
theorem aw_748 : Cond.methodLink RX9 287 yX2_keep ∈ AL := AL_in (tk_3 _ (List.mem_of_getElem? (i := 223) rfl)) rfl
theorem aw_749 : Cond.instanceMethod yX2_keep ∈ AL := AL_in (tk_3 _ (List.mem_of_getElem? (i := 224) rfl)) rfl
theorem aw_750 : Cond.selects RX2 yX2_keep yX2_keep ∈ AL := AL_in (tk_3 _ (List.mem_of_getElem? (i := 225) rfl)) rfl
theorem aw_751 : Cond.code yX2_keep cX2_keep 5 none ∈ AL := AL_in (tk_3 _ (List.mem_of_getElem? (i := 226) rfl)) rfl
theorem aw_752 : Cond.methodLink RX2 25 Lib.Math.min.name ∈ AL := AL_in (tk_3 _ (List.mem_of_getElem? (i := 227) rfl)) rfl
theorem aw_753 : Cond.methodLink RX2 43 yX1_copy ∈ AL := AL_in (tk_3 _ (List.mem_of_getElem? (i := 228) rfl)) rfl
theorem aw_754 : Cond.instanceMethod yX1_copy ∈ AL := AL_in (tk_3 _ (List.mem_of_getElem? (i := 229) rfl)) rfl
theorem aw_755 : Cond.selects RX1 yX1_copy yX1_copy ∈ AL := AL_in (tk_3 _ (List.mem_of_getElem? (i := 230) rfl)) rfl
theorem aw_756 : Cond.code yX1_copy cX1_copy 2 none ∈ AL := AL_in (tk_3 _ (List.mem_of_getElem? (i := 231) rfl)) rfl
theorem aw_757 : Cond.methodLink RX1 19 arraycopyName ∈ AL := AL_in (tk_3 _ (List.mem_of_getElem? (i := 232) rfl)) rfl
theorem aw_758 : Cond.methodLink RL 108 yX9_restore ∈ AL := AL_in (tk_3 _ (List.mem_of_getElem? (i := 233) rfl)) rfl
theorem aw_759 : Cond.instanceMethod yX9_restore ∈ AL := AL_in (tk_3 _ (List.mem_of_getElem? (i := 234) rfl)) rfl
theorem aw_760 : Cond.selects RX9 yX9_restore yX9_restore ∈ AL := AL_in (tk_3 _ (List.mem_of_getElem? (i := 235) rfl)) rfl
theorem aw_761 : Cond.code yX9_restore cX9_restore 1 (some .int) ∈ AL := AL_in (tk_3 _ (List.mem_of_getElem? (i := 236) rfl)) rfl
theorem aw_762 : Cond.methodLink RX9 297 yX2_giveBack ∈ AL := AL_in (tk_3 _ (List.mem_of_getElem? (i := 237) rfl)) rfl
theorem aw_763 : Cond.instanceMethod yX2_giveBack ∈ AL := AL_in (tk_3 _ (List.mem_of_getElem? (i := 238) rfl)) rfl
theorem aw_764 : Cond.selects RX2 yX2_giveBack yX2_giveBack ∈ AL := AL_in (tk_3 _ (List.mem_of_getElem? (i := 239) rfl)) rfl
theorem aw_765 : Cond.code yX2_giveBack cX2_giveBack 4 none ∈ AL := AL_in (tk_4 _ (List.mem_of_getElem? (i := 0) rfl)) rfl
theorem aw_766 : Cond.methodLink RL 112 yX9_count ∈ AL := AL_in (tk_4 _ (List.mem_of_getElem? (i := 1) rfl)) rfl
theorem aw_767 : Cond.instanceMethod yX9_count ∈ AL := AL_in (tk_4 _ (List.mem_of_getElem? (i := 2) rfl)) rfl
theorem aw_768 : Cond.selects RX9 yX9_count yX9_count ∈ AL := AL_in (tk_4 _ (List.mem_of_getElem? (i := 3) rfl)) rfl
theorem aw_769 : Cond.code yX9_count cX9_count 2 (some .int) ∈ AL := AL_in (tk_4 _ (List.mem_of_getElem? (i := 4) rfl)) rfl
theorem aw_770 : Cond.methodLink RL 116 yX9_digest ∈ AL := AL_in (tk_4 _ (List.mem_of_getElem? (i := 5) rfl)) rfl
theorem aw_771 : Cond.instanceMethod yX9_digest ∈ AL := AL_in (tk_4 _ (List.mem_of_getElem? (i := 6) rfl)) rfl
theorem aw_772 : Cond.selects RX9 yX9_digest yX9_digest ∈ AL := AL_in (tk_4 _ (List.mem_of_getElem? (i := 7) rfl)) rfl
theorem aw_773 : Cond.code yX9_digest cX9_digest 5 (some .long) ∈ AL := AL_in (tk_4 _ (List.mem_of_getElem? (i := 8) rfl)) rfl
theorem aw_774 : Cond.constantLong RX9 306 (569) ∈ AL := AL_in (tk_4 _ (List.mem_of_getElem? (i := 9) rfl)) rfl
theorem aw_775 : Cond.constantLong RX9 308 (31) ∈ AL := AL_in (tk_4 _ (List.mem_of_getElem? (i := 10) rfl)) rfl
theorem aw_776 : Cond.methodLink RX9 310 yX9_square ∈ AL := AL_in (tk_4 _ (List.mem_of_getElem? (i := 11) rfl)) rfl
theorem aw_777 : Cond.methodLink RX9 312 yX9_about ∈ AL := AL_in (tk_4 _ (List.mem_of_getElem? (i := 12) rfl)) rfl
theorem aw_778 : Cond.methodLink RX9 315 yX9_ways ∈ AL := AL_in (tk_4 _ (List.mem_of_getElem? (i := 13) rfl)) rfl
theorem aw_779 : Cond.methodLink RX9 318 yX9_tow ∈ AL := AL_in (tk_4 _ (List.mem_of_getElem? (i := 14) rfl)) rfl
theorem aw_780 : Cond.methodLink RX9 322 yX9_best ∈ AL := AL_in (tk_4 _ (List.mem_of_getElem? (i := 15) rfl)) rfl
theorem aw_781 : Cond.methodLink RX9 334 yX6_codeAt ∈ AL := AL_in (tk_4 _ (List.mem_of_getElem? (i := 16) rfl)) rfl
theorem aw_782 : Cond.methodLink RX9 337 yX9_count ∈ AL := AL_in (tk_4 _ (List.mem_of_getElem? (i := 17) rfl)) rfl
theorem aw_783 : Cond.classLink RL 10 RX10 ∈ AL := AL_in (tk_4 _ (List.mem_of_getElem? (i := 18) rfl)) rfl
theorem aw_784 : Cond.instantiable RX10 52 ∈ AL := AL_in (tk_4 _ (List.mem_of_getElem? (i := 19) rfl)) rfl
theorem aw_785 : Cond.methodLink RL 12 yX10_init ∈ AL := AL_in (tk_4 _ (List.mem_of_getElem? (i := 20) rfl)) rfl
theorem aw_786 : Cond.instanceMethod yX10_init ∈ AL := AL_in (tk_4 _ (List.mem_of_getElem? (i := 21) rfl)) rfl
theorem aw_787 : Cond.code yX10_init cX10_init 1 none ∈ AL := AL_in (tk_4 _ (List.mem_of_getElem? (i := 22) rfl)) rfl
theorem aw_788 : Cond.methodLink RX10 1 objectInit ∈ AL := AL_in (tk_4 _ (List.mem_of_getElem? (i := 23) rfl)) rfl
theorem aw_789 : Cond.fieldLink RX10 7 "IceForCoastModel" "page" "[I" ∈ AL := AL_in (tk_4 _ (List.mem_of_getElem? (i := 24) rfl)) rfl
theorem aw_790 : Cond.fieldLink RX10 74 "IceForCoastModel" "pageMany" "I" ∈ AL := AL_in (tk_4 _ (List.mem_of_getElem? (i := 25) rfl)) rfl
theorem aw_791 : Cond.fieldLink RX10 92 "IceForCoastModel" "readRows" "I" ∈ AL := AL_in (tk_4 _ (List.mem_of_getElem? (i := 26) rfl)) rfl
theorem aw_792 : Cond.fieldLink RX10 95 "IceForCoastModel" "readWide" "I" ∈ AL := AL_in (tk_4 _ (List.mem_of_getElem? (i := 27) rfl)) rfl
theorem aw_793 : Cond.fieldLink RX10 89 "IceForCoastModel" "readMany" "I" ∈ AL := AL_in (tk_4 _ (List.mem_of_getElem? (i := 28) rfl)) rfl
theorem aw_794 : Cond.fieldLink RX10 106 "IceForCoastModel" "readHarbour" "I" ∈ AL := AL_in (tk_4 _ (List.mem_of_getElem? (i := 29) rfl)) rfl
theorem aw_795 : Cond.fieldLink RX10 77 "IceForCoastModel" "mayFlow" "Z" ∈ AL := AL_in (tk_4 _ (List.mem_of_getElem? (i := 30) rfl)) rfl
theorem aw_796 : Cond.fieldLink RX10 13 "IceForCoastModel" "readWarm" "[I" ∈ AL := AL_in (tk_4 _ (List.mem_of_getElem? (i := 31) rfl)) rfl
theorem aw_797 : Cond.fieldLink RX10 16 "IceForCoastModel" "readFlow" "[I" ∈ AL := AL_in (tk_4 _ (List.mem_of_getElem? (i := 32) rfl)) rfl
theorem aw_798 : Cond.fieldLink RX10 116 "IceForCoastModel" "rows" "I" ∈ AL := AL_in (tk_4 _ (List.mem_of_getElem? (i := 33) rfl)) rfl
theorem aw_799 : Cond.fieldLink RX10 119 "IceForCoastModel" "wide" "I" ∈ AL := AL_in (tk_4 _ (List.mem_of_getElem? (i := 34) rfl)) rfl
theorem aw_800 : Cond.fieldLink RX10 122 "IceForCoastModel" "harbour" "I" ∈ AL := AL_in (tk_4 _ (List.mem_of_getElem? (i := 35) rfl)) rfl
theorem aw_801 : Cond.fieldLink RX10 131 "IceForCoastModel" "seasRead" "I" ∈ AL := AL_in (tk_4 _ (List.mem_of_getElem? (i := 36) rfl)) rfl
theorem aw_802 : Cond.fieldLink RX10 19 "IceForCoastModel" "warm" "[I" ∈ AL := AL_in (tk_4 _ (List.mem_of_getElem? (i := 37) rfl)) rfl
theorem aw_803 : Cond.fieldLink RX10 22 "IceForCoastModel" "flow" "[I" ∈ AL := AL_in (tk_4 _ (List.mem_of_getElem? (i := 38) rfl)) rfl
theorem aw_804 : Cond.fieldLink RX10 125 "IceForCoastModel" "bergs" "I" ∈ AL := AL_in (tk_4 _ (List.mem_of_getElem? (i := 39) rfl)) rfl
theorem aw_805 : Cond.fieldLink RX10 25 "IceForCoastModel" "bergRows" "[I" ∈ AL := AL_in (tk_4 _ (List.mem_of_getElem? (i := 40) rfl)) rfl
theorem aw_806 : Cond.fieldLink RX10 63 "IceForCoastModel" "price" "I" ∈ AL := AL_in (tk_4 _ (List.mem_of_getElem? (i := 41) rfl)) rfl
theorem aw_807 : Cond.fieldLink RX10 66 "IceForCoastModel" "wage" "I" ∈ AL := AL_in (tk_4 _ (List.mem_of_getElem? (i := 42) rfl)) rfl
theorem aw_808 : Cond.fieldLink RX10 69 "IceForCoastModel" "cloth" "I" ∈ AL := AL_in (tk_4 _ (List.mem_of_getElem? (i := 43) rfl)) rfl
theorem aw_809 : Cond.fieldLink RX10 128 "IceForCoastModel" "lines" "I" ∈ AL := AL_in (tk_4 _ (List.mem_of_getElem? (i := 44) rfl)) rfl
theorem aw_810 : Cond.fieldLink RX10 28 "IceForCoastModel" "lineRows" "[I" ∈ AL := AL_in (tk_4 _ (List.mem_of_getElem? (i := 45) rfl)) rfl
theorem aw_811 : Cond.fieldLink RX10 177 "IceForCoastModel" "kindNow" "I" ∈ AL := AL_in (tk_4 _ (List.mem_of_getElem? (i := 46) rfl)) rfl
theorem aw_812 : Cond.fieldLink RX10 180 "IceForCoastModel" "sizeNow" "I" ∈ AL := AL_in (tk_4 _ (List.mem_of_getElem? (i := 47) rfl)) rfl
theorem aw_813 : Cond.fieldLink RX10 186 "IceForCoastModel" "footNow" "I" ∈ AL := AL_in (tk_4 _ (List.mem_of_getElem? (i := 48) rfl)) rfl
theorem aw_814 : Cond.fieldLink RX10 192 "IceForCoastModel" "everyNow" "I" ∈ AL := AL_in (tk_4 _ (List.mem_of_getElem? (i := 49) rfl)) rfl
theorem aw_815 : Cond.fieldLink RX10 189 "IceForCoastModel" "daysNow" "I" ∈ AL := AL_in (tk_4 _ (List.mem_of_getElem? (i := 50) rfl)) rfl
theorem aw_816 : Cond.fieldLink RX10 183 "IceForCoastModel" "hasSkirt" "Z" ∈ AL := AL_in (tk_4 _ (List.mem_of_getElem? (i := 51) rfl)) rfl
theorem aw_817 : Cond.fieldLink RX10 195 "IceForCoastModel" "tugsNow" "I" ∈ AL := AL_in (tk_4 _ (List.mem_of_getElem? (i := 52) rfl)) rfl
theorem aw_818 : Cond.fieldLink RX10 166 "IceForCoastModel" "seedNow" "I" ∈ AL := AL_in (tk_4 _ (List.mem_of_getElem? (i := 53) rfl)) rfl
theorem aw_819 : Cond.fieldLink RX10 31 "IceForCoastModel" "way" "[I" ∈ AL := AL_in (tk_4 _ (List.mem_of_getElem? (i := 54) rfl)) rfl
theorem aw_820 : Cond.fieldLink RX10 34 "IceForCoastModel" "places" "[I" ∈ AL := AL_in (tk_4 _ (List.mem_of_getElem? (i := 55) rfl)) rfl
theorem aw_821 : Cond.fieldLink RX10 37 "IceForCoastModel" "bestWay" "[I" ∈ AL := AL_in (tk_4 _ (List.mem_of_getElem? (i := 56) rfl)) rfl
theorem aw_822 : Cond.fieldLink RX10 225 "IceForCoastModel" "bestSteps" "I" ∈ AL := AL_in (tk_4 _ (List.mem_of_getElem? (i := 57) rfl)) rfl
theorem aw_823 : Cond.fieldLink RX10 222 "IceForCoastModel" "bestWater" "I" ∈ AL := AL_in (tk_4 _ (List.mem_of_getElem? (i := 58) rfl)) rfl
theorem aw_824 : Cond.fieldLink RX10 219 "IceForCoastModel" "bestDays" "I" ∈ AL := AL_in (tk_4 _ (List.mem_of_getElem? (i := 59) rfl)) rfl
theorem aw_825 : Cond.fieldLink RX10 216 "IceForCoastModel" "bestGain" "I" ∈ AL := AL_in (tk_4 _ (List.mem_of_getElem? (i := 60) rfl)) rfl
theorem aw_826 : Cond.fieldLink RX10 206 "IceForCoastModel" "wayMany" "I" ∈ AL := AL_in (tk_4 _ (List.mem_of_getElem? (i := 61) rfl)) rfl
theorem aw_827 : Cond.fieldLink RX10 40 "IceForCoastModel" "gains" "[I" ∈ AL := AL_in (tk_4 _ (List.mem_of_getElem? (i := 62) rfl)) rfl
theorem aw_828 : Cond.fieldLink RX10 43 "IceForCoastModel" "most" "[I" ∈ AL := AL_in (tk_4 _ (List.mem_of_getElem? (i := 63) rfl)) rfl
theorem aw_829 : Cond.fieldLink RX10 271 "IceForCoastModel" "done" "I" ∈ AL := AL_in (tk_4 _ (List.mem_of_getElem? (i := 64) rfl)) rfl
theorem aw_830 : Cond.fieldLink RX10 46 "IceForCoastModel" "waterNow" "[J" ∈ AL := AL_in (tk_4 _ (List.mem_of_getElem? (i := 65) rfl)) rfl
theorem aw_831 : Cond.fieldLink RX10 50 "IceForCoastModel" "waterNext" "[J" ∈ AL := AL_in (tk_4 _ (List.mem_of_getElem? (i := 66) rfl)) rfl
theorem aw_832 : Cond.fieldLink RX10 59 "IceForCoastModel" "kept" "I" ∈ AL := AL_in (tk_4 _ (List.mem_of_getElem? (i := 67) rfl)) rfl
theorem aw_833 : Cond.fieldLink RX10 295 "IceForCoastModel" "keptSea" "I" ∈ AL := AL_in (tk_4 _ (List.mem_of_getElem? (i := 68) rfl)) rfl
theorem aw_834 : Cond.fieldLink RX10 283 "IceForCoastModel" "keptPrice" "I" ∈ AL := AL_in (tk_4 _ (List.mem_of_getElem? (i := 69) rfl)) rfl
theorem aw_835 : Cond.fieldLink RX10 286 "IceForCoastModel" "keptWage" "I" ∈ AL := AL_in (tk_4 _ (List.mem_of_getElem? (i := 70) rfl)) rfl
theorem aw_836 : Cond.fieldLink RX10 289 "IceForCoastModel" "keptCloth" "I" ∈ AL := AL_in (tk_4 _ (List.mem_of_getElem? (i := 71) rfl)) rfl
theorem aw_837 : Cond.fieldLink RX10 292 "IceForCoastModel" "keptLines" "I" ∈ AL := AL_in (tk_4 _ (List.mem_of_getElem? (i := 72) rfl)) rfl
theorem aw_838 : Cond.fieldLink RX10 53 "IceForCoastModel" "keptBergs" "[I" ∈ AL := AL_in (tk_4 _ (List.mem_of_getElem? (i := 73) rfl)) rfl
theorem aw_839 : Cond.fieldLink RX10 56 "IceForCoastModel" "keptRows" "[I" ∈ AL := AL_in (tk_4 _ (List.mem_of_getElem? (i := 74) rfl)) rfl
theorem aw_840 : Cond.fieldLink RX10 303 "IceForCoastModel" "hash" "J" ∈ AL := AL_in (tk_4 _ (List.mem_of_getElem? (i := 75) rfl)) rfl
theorem aw_946 : Cond.methodLink RL 19 yX10_letters ∈ AL := AL_in (tk_4 _ (List.mem_of_getElem? (i := 181) rfl)) rfl
theorem aw_947 : Cond.instanceMethod yX10_letters ∈ AL := AL_in (tk_4 _ (List.mem_of_getElem? (i := 182) rfl)) rfl
theorem aw_948 : Cond.selects RX10 yX10_letters yX10_letters ∈ AL := AL_in (tk_4 _ (List.mem_of_getElem? (i := 183) rfl)) rfl
theorem aw_949 : Cond.code yX10_letters cX10_letters 9 (some .int) ∈ AL := AL_in (tk_4 _ (List.mem_of_getElem? (i := 184) rfl)) rfl
theorem aw_950 : Cond.constantLong RX10 72 (255) ∈ AL := AL_in (tk_4 _ (List.mem_of_getElem? (i := 185) rfl)) rfl
theorem aw_951 : Cond.methodLink RL 24 yX10_blank ∈ AL := AL_in (tk_4 _ (List.mem_of_getElem? (i := 186) rfl)) rfl
theorem aw_952 : Cond.instanceMethod yX10_blank ∈ AL := AL_in (tk_4 _ (List.mem_of_getElem? (i := 187) rfl)) rfl
theorem aw_953 : Cond.selects RX10 yX10_blank yX10_blank ∈ AL := AL_in (tk_4 _ (List.mem_of_getElem? (i := 188) rfl)) rfl
theorem aw_954 : Cond.code yX10_blank cX10_blank 2 (some .int) ∈ AL := AL_in (tk_4 _ (List.mem_of_getElem? (i := 189) rfl)) rfl
theorem aw_955 : Cond.methodLink RL 28 yX10_fault ∈ AL := AL_in (tk_4 _ (List.mem_of_getElem? (i := 190) rfl)) rfl
theorem aw_956 : Cond.instanceMethod yX10_fault ∈ AL := AL_in (tk_4 _ (List.mem_of_getElem? (i := 191) rfl)) rfl
theorem aw_957 : Cond.selects RX10 yX10_fault yX10_fault ∈ AL := AL_in (tk_4 _ (List.mem_of_getElem? (i := 192) rfl)) rfl
theorem aw_958 : Cond.code yX10_fault cX10_fault 1 (some .int) ∈ AL := AL_in (tk_4 _ (List.mem_of_getElem? (i := 193) rfl)) rfl
theorem aw_959 : Cond.methodLink RX10 113 yX10_faultOf ∈ AL := AL_in (tk_4 _ (List.mem_of_getElem? (i := 194) rfl)) rfl
theorem aw_961 : Cond.instanceMethod yX10_faultOf ∈ AL := AL_in (tk_4 _ (List.mem_of_getElem? (i := 196) rfl)) rfl
theorem aw_962 : Cond.code yX10_faultOf cX10_faultOf 2 (some .int) ∈ AL := AL_in (tk_4 _ (List.mem_of_getElem? (i := 197) rfl)) rfl
theorem aw_963 : Cond.methodLink RX10 109 yX10_go ∈ AL := AL_in (tk_4 _ (List.mem_of_getElem? (i := 198) rfl)) rfl
theorem aw_965 : Cond.instanceMethod yX10_go ∈ AL := AL_in (tk_4 _ (List.mem_of_getElem? (i := 200) rfl)) rfl
theorem aw_966 : Cond.code yX10_go cX10_go 4 (some .boolean) ∈ AL := AL_in (tk_4 _ (List.mem_of_getElem? (i := 201) rfl)) rfl
theorem aw_967 : Cond.methodLink RX10 81 yX10_flowOf ∈ AL := AL_in (tk_4 _ (List.mem_of_getElem? (i := 202) rfl)) rfl
theorem aw_968 : Cond.static yX10_flowOf ∈ AL := AL_in (tk_4 _ (List.mem_of_getElem? (i := 203) rfl)) rfl
theorem aw_969 : Cond.code yX10_flowOf cX10_flowOf 1 (some .int) ∈ AL := AL_in (tk_4 _ (List.mem_of_getElem? (i := 204) rfl)) rfl
theorem aw_970 : Cond.methodLink RX10 85 yX10_readAt ∈ AL := AL_in (tk_4 _ (List.mem_of_getElem? (i := 205) rfl)) rfl
theorem aw_972 : Cond.instanceMethod yX10_readAt ∈ AL := AL_in (tk_4 _ (List.mem_of_getElem? (i := 207) rfl)) rfl
theorem aw_973 : Cond.code yX10_readAt cX10_readAt 1 (some .int) ∈ AL := AL_in (tk_4 _ (List.mem_of_getElem? (i := 208) rfl)) rfl
theorem aw_974 : Cond.constantLong RX10 98 (48) ∈ AL := AL_in (tk_4 _ (List.mem_of_getElem? (i := 209) rfl)) rfl
theorem aw_975 : Cond.constantLong RX10 100 (57) ∈ AL := AL_in (tk_4 _ (List.mem_of_getElem? (i := 210) rfl)) rfl
theorem aw_976 : Cond.methodLink RX10 102 yX10_in ∈ AL := AL_in (tk_4 _ (List.mem_of_getElem? (i := 211) rfl)) rfl
theorem aw_977 : Cond.static yX10_in ∈ AL := AL_in (tk_4 _ (List.mem_of_getElem? (i := 212) rfl)) rfl
theorem aw_978 : Cond.code yX10_in cX10_in 6 (some .boolean) ∈ AL := AL_in (tk_4 _ (List.mem_of_getElem? (i := 213) rfl)) rfl
theorem aw_979 : Cond.methodLink RL 32 yX10_sea ∈ AL := AL_in (tk_4 _ (List.mem_of_getElem? (i := 214) rfl)) rfl
theorem aw_980 : Cond.instanceMethod yX10_sea ∈ AL := AL_in (tk_4 _ (List.mem_of_getElem? (i := 215) rfl)) rfl
theorem aw_981 : Cond.selects RX10 yX10_sea yX10_sea ∈ AL := AL_in (tk_4 _ (List.mem_of_getElem? (i := 216) rfl)) rfl
theorem aw_982 : Cond.code yX10_sea cX10_sea 2 (some .int) ∈ AL := AL_in (tk_4 _ (List.mem_of_getElem? (i := 217) rfl)) rfl
theorem aw_983 : Cond.methodLink RL 37 yX10_square ∈ AL := AL_in (tk_4 _ (List.mem_of_getElem? (i := 218) rfl)) rfl
theorem aw_984 : Cond.instanceMethod yX10_square ∈ AL := AL_in (tk_4 _ (List.mem_of_getElem? (i := 219) rfl)) rfl
theorem aw_985 : Cond.selects RX10 yX10_square yX10_square ∈ AL := AL_in (tk_4 _ (List.mem_of_getElem? (i := 220) rfl)) rfl
theorem aw_986 : Cond.code yX10_square cX10_square 3 (some .int) ∈ AL := AL_in (tk_4 _ (List.mem_of_getElem? (i := 221) rfl)) rfl
theorem aw_987 : Cond.methodLink RX10 140 yX10_isSquare ∈ AL := AL_in (tk_4 _ (List.mem_of_getElem? (i := 222) rfl)) rfl
theorem aw_989 : Cond.instanceMethod yX10_isSquare ∈ AL := AL_in (tk_4 _ (List.mem_of_getElem? (i := 224) rfl)) rfl
theorem aw_990 : Cond.code yX10_isSquare cX10_isSquare 2 (some .boolean) ∈ AL := AL_in (tk_4 _ (List.mem_of_getElem? (i := 225) rfl)) rfl
theorem aw_991 : Cond.methodLink RX10 143 yX10_tellSquare ∈ AL := AL_in (tk_4 _ (List.mem_of_getElem? (i := 226) rfl)) rfl
theorem aw_993 : Cond.instanceMethod yX10_tellSquare ∈ AL := AL_in (tk_4 _ (List.mem_of_getElem? (i := 228) rfl)) rfl
theorem aw_994 : Cond.code yX10_tellSquare cX10_tellSquare 3 (some .int) ∈ AL := AL_in (tk_4 _ (List.mem_of_getElem? (i := 229) rfl)) rfl
theorem aw_995 : Cond.methodLink RX10 137 yX10_farOf ∈ AL := AL_in (tk_4 _ (List.mem_of_getElem? (i := 230) rfl)) rfl
theorem aw_997 : Cond.instanceMethod yX10_farOf ∈ AL := AL_in (tk_4 _ (List.mem_of_getElem? (i := 232) rfl)) rfl
theorem aw_998 : Cond.code yX10_farOf cX10_farOf 2 (some .int) ∈ AL := AL_in (tk_4 _ (List.mem_of_getElem? (i := 233) rfl)) rfl
theorem aw_999 : Cond.methodLink RX10 134 yX10_size ∈ AL := AL_in (tk_4 _ (List.mem_of_getElem? (i := 234) rfl)) rfl
theorem aw_1000 : Cond.static yX10_size ∈ AL := AL_in (tk_4 _ (List.mem_of_getElem? (i := 235) rfl)) rfl
theorem aw_1001 : Cond.code yX10_size cX10_size 1 (some .int) ∈ AL := AL_in (tk_4 _ (List.mem_of_getElem? (i := 236) rfl)) rfl
theorem aw_1002 : Cond.methodLink RL 42 yX10_berg ∈ AL := AL_in (tk_4 _ (List.mem_of_getElem? (i := 237) rfl)) rfl
theorem aw_1003 : Cond.instanceMethod yX10_berg ∈ AL := AL_in (tk_4 _ (List.mem_of_getElem? (i := 238) rfl)) rfl
theorem aw_1004 : Cond.selects RX10 yX10_berg yX10_berg ∈ AL := AL_in (tk_4 _ (List.mem_of_getElem? (i := 239) rfl)) rfl
theorem aw_1005 : Cond.code yX10_berg cX10_berg 6 (some .int) ∈ AL := AL_in (tk_5 _ (List.mem_of_getElem? (i := 0) rfl)) rfl
theorem aw_1006 : Cond.constantLong RX10 147 (4) ∈ AL := AL_in (tk_5 _ (List.mem_of_getElem? (i := 1) rfl)) rfl
theorem aw_1007 : Cond.constantLong RX10 149 (10) ∈ AL := AL_in (tk_5 _ (List.mem_of_getElem? (i := 2) rfl)) rfl
theorem aw_1008 : Cond.constantLong RX10 151 (999) ∈ AL := AL_in (tk_5 _ (List.mem_of_getElem? (i := 3) rfl)) rfl
theorem aw_1009 : Cond.constantLong RX10 153 (99) ∈ AL := AL_in (tk_5 _ (List.mem_of_getElem? (i := 4) rfl)) rfl
theorem aw_1010 : Cond.constantLong RX10 155 (2) ∈ AL := AL_in (tk_5 _ (List.mem_of_getElem? (i := 5) rfl)) rfl
theorem aw_1011 : Cond.constantLong RX10 157 (9) ∈ AL := AL_in (tk_5 _ (List.mem_of_getElem? (i := 6) rfl)) rfl
theorem aw_1012 : Cond.methodLink RL 46 yX10_as ∈ AL := AL_in (tk_5 _ (List.mem_of_getElem? (i := 7) rfl)) rfl
theorem aw_1013 : Cond.instanceMethod yX10_as ∈ AL := AL_in (tk_5 _ (List.mem_of_getElem? (i := 8) rfl)) rfl
theorem aw_1014 : Cond.selects RX10 yX10_as yX10_as ∈ AL := AL_in (tk_5 _ (List.mem_of_getElem? (i := 9) rfl)) rfl
theorem aw_1015 : Cond.code yX10_as cX10_as 5 (some .int) ∈ AL := AL_in (tk_5 _ (List.mem_of_getElem? (i := 10) rfl)) rfl
theorem aw_1016 : Cond.methodLink RX10 159 yX10_isBerg ∈ AL := AL_in (tk_5 _ (List.mem_of_getElem? (i := 11) rfl)) rfl
theorem aw_1018 : Cond.instanceMethod yX10_isBerg ∈ AL := AL_in (tk_5 _ (List.mem_of_getElem? (i := 13) rfl)) rfl
theorem aw_1019 : Cond.code yX10_isBerg cX10_isBerg 2 (some .boolean) ∈ AL := AL_in (tk_5 _ (List.mem_of_getElem? (i := 14) rfl)) rfl
theorem aw_1020 : Cond.methodLink RL 50 yX10_about ∈ AL := AL_in (tk_5 _ (List.mem_of_getElem? (i := 15) rfl)) rfl
theorem aw_1021 : Cond.instanceMethod yX10_about ∈ AL := AL_in (tk_5 _ (List.mem_of_getElem? (i := 16) rfl)) rfl
theorem aw_1022 : Cond.selects RX10 yX10_about yX10_about ∈ AL := AL_in (tk_5 _ (List.mem_of_getElem? (i := 17) rfl)) rfl
theorem aw_1023 : Cond.code yX10_about cX10_about 3 (some .int) ∈ AL := AL_in (tk_5 _ (List.mem_of_getElem? (i := 18) rfl)) rfl
theorem aw_1024 : Cond.methodLink RL 55 yX10_change ∈ AL := AL_in (tk_5 _ (List.mem_of_getElem? (i := 19) rfl)) rfl
theorem aw_1025 : Cond.instanceMethod yX10_change ∈ AL := AL_in (tk_5 _ (List.mem_of_getElem? (i := 20) rfl)) rfl
theorem aw_1026 : Cond.selects RX10 yX10_change yX10_change ∈ AL := AL_in (tk_5 _ (List.mem_of_getElem? (i := 21) rfl)) rfl
theorem aw_1027 : Cond.code yX10_change cX10_change 5 (some .int) ∈ AL := AL_in (tk_5 _ (List.mem_of_getElem? (i := 22) rfl)) rfl
theorem aw_1028 : Cond.constantLong RX10 162 (3) ∈ AL := AL_in (tk_5 _ (List.mem_of_getElem? (i := 23) rfl)) rfl
theorem aw_1029 : Cond.methodLink RL 59 yX10_coin ∈ AL := AL_in (tk_5 _ (List.mem_of_getElem? (i := 24) rfl)) rfl
theorem aw_1030 : Cond.instanceMethod yX10_coin ∈ AL := AL_in (tk_5 _ (List.mem_of_getElem? (i := 25) rfl)) rfl
theorem aw_1031 : Cond.selects RX10 yX10_coin yX10_coin ∈ AL := AL_in (tk_5 _ (List.mem_of_getElem? (i := 26) rfl)) rfl
theorem aw_1032 : Cond.code yX10_coin cX10_coin 4 (some .int) ∈ AL := AL_in (tk_5 _ (List.mem_of_getElem? (i := 27) rfl)) rfl
theorem aw_1033 : Cond.methodLink RL 64 yX10_tow ∈ AL := AL_in (tk_5 _ (List.mem_of_getElem? (i := 28) rfl)) rfl
theorem aw_1034 : Cond.instanceMethod yX10_tow ∈ AL := AL_in (tk_5 _ (List.mem_of_getElem? (i := 29) rfl)) rfl
theorem aw_1035 : Cond.selects RX10 yX10_tow yX10_tow ∈ AL := AL_in (tk_5 _ (List.mem_of_getElem? (i := 30) rfl)) rfl
theorem aw_1036 : Cond.code yX10_tow cX10_tow 5 (some .int) ∈ AL := AL_in (tk_5 _ (List.mem_of_getElem? (i := 31) rfl)) rfl
theorem aw_1037 : Cond.constant RX10 244 (-100101) ∈ AL := AL_in (tk_5 _ (List.mem_of_getElem? (i := 32) rfl)) rfl
theorem aw_1038 : Cond.methodLink RX10 245 yX10_areTugs ∈ AL := AL_in (tk_5 _ (List.mem_of_getElem? (i := 33) rfl)) rfl
theorem aw_1039 : Cond.static yX10_areTugs ∈ AL := AL_in (tk_5 _ (List.mem_of_getElem? (i := 34) rfl)) rfl
theorem aw_1040 : Cond.code yX10_areTugs cX10_areTugs 1 (some .boolean) ∈ AL := AL_in (tk_5 _ (List.mem_of_getElem? (i := 35) rfl)) rfl
theorem aw_1041 : Cond.constantLong RX10 242 (11) ∈ AL := AL_in (tk_5 _ (List.mem_of_getElem? (i := 36) rfl)) rfl
theorem aw_1042 : Cond.constantLong RX10 248 (18) ∈ AL := AL_in (tk_5 _ (List.mem_of_getElem? (i := 37) rfl)) rfl
theorem aw_1043 : Cond.methodLink RX10 250 yX10_tellTow ∈ AL := AL_in (tk_5 _ (List.mem_of_getElem? (i := 38) rfl)) rfl
theorem aw_1045 : Cond.instanceMethod yX10_tellTow ∈ AL := AL_in (tk_5 _ (List.mem_of_getElem? (i := 40) rfl)) rfl
theorem aw_1046 : Cond.code yX10_tellTow cX10_tellTow 5 (some .int) ∈ AL := AL_in (tk_5 _ (List.mem_of_getElem? (i := 41) rfl)) rfl
theorem aw_1047 : Cond.methodLink RX10 235 yX10_ownSize ∈ AL := AL_in (tk_5 _ (List.mem_of_getElem? (i := 42) rfl)) rfl
theorem aw_1049 : Cond.instanceMethod yX10_ownSize ∈ AL := AL_in (tk_5 _ (List.mem_of_getElem? (i := 44) rfl)) rfl
theorem aw_1050 : Cond.code yX10_ownSize cX10_ownSize 2 (some .int) ∈ AL := AL_in (tk_5 _ (List.mem_of_getElem? (i := 45) rfl)) rfl
theorem aw_1051 : Cond.methodLink RX10 238 yX10_layWays ∈ AL := AL_in (tk_5 _ (List.mem_of_getElem? (i := 46) rfl)) rfl
theorem aw_1053 : Cond.instanceMethod yX10_layWays ∈ AL := AL_in (tk_5 _ (List.mem_of_getElem? (i := 48) rfl)) rfl
theorem aw_1054 : Cond.code yX10_layWays cX10_layWays 7 none ∈ AL := AL_in (tk_5 _ (List.mem_of_getElem? (i := 49) rfl)) rfl
theorem aw_1055 : Cond.methodLink RX10 228 yX10_to ∈ AL := AL_in (tk_5 _ (List.mem_of_getElem? (i := 50) rfl)) rfl
theorem aw_1057 : Cond.instanceMethod yX10_to ∈ AL := AL_in (tk_5 _ (List.mem_of_getElem? (i := 52) rfl)) rfl
theorem aw_1058 : Cond.code yX10_to cX10_to 6 (some .int) ∈ AL := AL_in (tk_5 _ (List.mem_of_getElem? (i := 53) rfl)) rfl
theorem aw_1059 : Cond.methodLink RX10 231 yX10_tryWay ∈ AL := AL_in (tk_5 _ (List.mem_of_getElem? (i := 54) rfl)) rfl
theorem aw_1061 : Cond.instanceMethod yX10_tryWay ∈ AL := AL_in (tk_5 _ (List.mem_of_getElem? (i := 56) rfl)) rfl
theorem aw_1062 : Cond.code yX10_tryWay cX10_tryWay 8 none ∈ AL := AL_in (tk_5 _ (List.mem_of_getElem? (i := 57) rfl)) rfl
theorem aw_1063 : Cond.methodLink RX10 209 yX10_begin ∈ AL := AL_in (tk_5 _ (List.mem_of_getElem? (i := 58) rfl)) rfl
theorem aw_1065 : Cond.instanceMethod yX10_begin ∈ AL := AL_in (tk_5 _ (List.mem_of_getElem? (i := 60) rfl)) rfl
theorem aw_1066 : Cond.code yX10_begin cX10_begin 5 none ∈ AL := AL_in (tk_5 _ (List.mem_of_getElem? (i := 61) rfl)) rfl
theorem aw_1067 : Cond.methodLink RX10 213 yX10_towAll ∈ AL := AL_in (tk_5 _ (List.mem_of_getElem? (i := 62) rfl)) rfl
theorem aw_1069 : Cond.instanceMethod yX10_towAll ∈ AL := AL_in (tk_5 _ (List.mem_of_getElem? (i := 64) rfl)) rfl
theorem aw_1070 : Cond.code yX10_towAll cX10_towAll 3 none ∈ AL := AL_in (tk_5 _ (List.mem_of_getElem? (i := 65) rfl)) rfl
theorem aw_1071 : Cond.methodLink RX10 202 yX10_step ∈ AL := AL_in (tk_5 _ (List.mem_of_getElem? (i := 66) rfl)) rfl
theorem aw_1073 : Cond.instanceMethod yX10_step ∈ AL := AL_in (tk_5 _ (List.mem_of_getElem? (i := 68) rfl)) rfl
theorem aw_1074 : Cond.code yX10_step cX10_step 5 none ∈ AL := AL_in (tk_5 _ (List.mem_of_getElem? (i := 69) rfl)) rfl
theorem aw_1075 : Cond.methodLink RX10 198 yX10_day ∈ AL := AL_in (tk_5 _ (List.mem_of_getElem? (i := 70) rfl)) rfl
theorem aw_1077 : Cond.instanceMethod yX10_day ∈ AL := AL_in (tk_5 _ (List.mem_of_getElem? (i := 72) rfl)) rfl
theorem aw_1078 : Cond.code yX10_day cX10_day 4 none ∈ AL := AL_in (tk_5 _ (List.mem_of_getElem? (i := 73) rfl)) rfl
theorem aw_1079 : Cond.methodLink RX10 174 yX10_draw ∈ AL := AL_in (tk_5 _ (List.mem_of_getElem? (i := 74) rfl)) rfl
theorem aw_1081 : Cond.instanceMethod yX10_draw ∈ AL := AL_in (tk_5 _ (List.mem_of_getElem? (i := 76) rfl)) rfl
theorem aw_1082 : Cond.code yX10_draw cX10_draw 2 (some .int) ∈ AL := AL_in (tk_5 _ (List.mem_of_getElem? (i := 77) rfl)) rfl
theorem aw_1083 : Cond.constantLong RX10 164 (1103515245) ∈ AL := AL_in (tk_5 _ (List.mem_of_getElem? (i := 78) rfl)) rfl
theorem aw_1084 : Cond.constantLong RX10 169 (12345) ∈ AL := AL_in (tk_5 _ (List.mem_of_getElem? (i := 79) rfl)) rfl
theorem aw_1085 : Cond.constantLong RX10 171 (2147483647) ∈ AL := AL_in (tk_5 _ (List.mem_of_getElem? (i := 80) rfl)) rfl
theorem aw_1086 : Cond.constant RX10 173 (65536) ∈ AL := AL_in (tk_5 _ (List.mem_of_getElem? (i := 81) rfl)) rfl
theorem aw_1087 : Cond.constant RX10 241 (-100001) ∈ AL := AL_in (tk_5 _ (List.mem_of_getElem? (i := 82) rfl)) rfl
theorem aw_1088 : Cond.constant RX10 254 (-100102) ∈ AL := AL_in (tk_5 _ (List.mem_of_getElem? (i := 83) rfl)) rfl
theorem aw_1089 : Cond.methodLink RL 69 yX10_ways ∈ AL := AL_in (tk_5 _ (List.mem_of_getElem? (i := 84) rfl)) rfl
theorem aw_1090 : Cond.instanceMethod yX10_ways ∈ AL := AL_in (tk_5 _ (List.mem_of_getElem? (i := 85) rfl)) rfl
theorem aw_1091 : Cond.selects RX10 yX10_ways yX10_ways ∈ AL := AL_in (tk_5 _ (List.mem_of_getElem? (i := 86) rfl)) rfl
theorem aw_1092 : Cond.code yX10_ways cX10_ways 2 (some .int) ∈ AL := AL_in (tk_5 _ (List.mem_of_getElem? (i := 87) rfl)) rfl
theorem aw_1093 : Cond.methodLink RX10 255 yX10_waysOf ∈ AL := AL_in (tk_5 _ (List.mem_of_getElem? (i := 88) rfl)) rfl
theorem aw_1095 : Cond.instanceMethod yX10_waysOf ∈ AL := AL_in (tk_5 _ (List.mem_of_getElem? (i := 90) rfl)) rfl
theorem aw_1096 : Cond.code yX10_waysOf cX10_waysOf 2 (some .int) ∈ AL := AL_in (tk_5 _ (List.mem_of_getElem? (i := 91) rfl)) rfl
theorem aw_1097 : Cond.methodLink RL 73 yX10_best ∈ AL := AL_in (tk_5 _ (List.mem_of_getElem? (i := 92) rfl)) rfl
theorem aw_1098 : Cond.instanceMethod yX10_best ∈ AL := AL_in (tk_5 _ (List.mem_of_getElem? (i := 93) rfl)) rfl
theorem aw_1099 : Cond.selects RX10 yX10_best yX10_best ∈ AL := AL_in (tk_5 _ (List.mem_of_getElem? (i := 94) rfl)) rfl
theorem aw_1100 : Cond.code yX10_best cX10_best 3 (some .int) ∈ AL := AL_in (tk_5 _ (List.mem_of_getElem? (i := 95) rfl)) rfl
theorem aw_1101 : Cond.methodLink RX10 259 yX10_tellBest ∈ AL := AL_in (tk_5 _ (List.mem_of_getElem? (i := 96) rfl)) rfl
theorem aw_1103 : Cond.instanceMethod yX10_tellBest ∈ AL := AL_in (tk_5 _ (List.mem_of_getElem? (i := 98) rfl)) rfl
theorem aw_1104 : Cond.code yX10_tellBest cX10_tellBest 7 (some .int) ∈ AL := AL_in (tk_5 _ (List.mem_of_getElem? (i := 99) rfl)) rfl
theorem aw_1105 : Cond.constant RX10 258 (-100000000) ∈ AL := AL_in (tk_5 _ (List.mem_of_getElem? (i := 100) rfl)) rfl
theorem aw_1106 : Cond.methodLink RL 77 yX10_season ∈ AL := AL_in (tk_5 _ (List.mem_of_getElem? (i := 101) rfl)) rfl
theorem aw_1107 : Cond.instanceMethod yX10_season ∈ AL := AL_in (tk_5 _ (List.mem_of_getElem? (i := 102) rfl)) rfl
theorem aw_1108 : Cond.selects RX10 yX10_season yX10_season ∈ AL := AL_in (tk_5 _ (List.mem_of_getElem? (i := 103) rfl)) rfl
theorem aw_1109 : Cond.code yX10_season cX10_season 3 (some .int) ∈ AL := AL_in (tk_5 _ (List.mem_of_getElem? (i := 104) rfl)) rfl
theorem aw_1110 : Cond.methodLink RX10 262 yX10_lacks ∈ AL := AL_in (tk_5 _ (List.mem_of_getElem? (i := 105) rfl)) rfl
theorem aw_1112 : Cond.instanceMethod yX10_lacks ∈ AL := AL_in (tk_5 _ (List.mem_of_getElem? (i := 107) rfl)) rfl
theorem aw_1113 : Cond.code yX10_lacks cX10_lacks 1 (some .boolean) ∈ AL := AL_in (tk_5 _ (List.mem_of_getElem? (i := 108) rfl)) rfl
theorem aw_1114 : Cond.constantLong RX10 266 (5) ∈ AL := AL_in (tk_5 _ (List.mem_of_getElem? (i := 109) rfl)) rfl
theorem aw_1115 : Cond.methodLink RX10 268 yX10_seasonOf ∈ AL := AL_in (tk_5 _ (List.mem_of_getElem? (i := 110) rfl)) rfl
theorem aw_1117 : Cond.instanceMethod yX10_seasonOf ∈ AL := AL_in (tk_5 _ (List.mem_of_getElem? (i := 112) rfl)) rfl
theorem aw_1118 : Cond.code yX10_seasonOf cX10_seasonOf 8 (some .int) ∈ AL := AL_in (tk_5 _ (List.mem_of_getElem? (i := 113) rfl)) rfl
theorem aw_1119 : Cond.methodLink RL 81 yX10_more ∈ AL := AL_in (tk_5 _ (List.mem_of_getElem? (i := 114) rfl)) rfl
theorem aw_1120 : Cond.instanceMethod yX10_more ∈ AL := AL_in (tk_5 _ (List.mem_of_getElem? (i := 115) rfl)) rfl
theorem aw_1121 : Cond.selects RX10 yX10_more yX10_more ∈ AL := AL_in (tk_5 _ (List.mem_of_getElem? (i := 116) rfl)) rfl
theorem aw_1122 : Cond.code yX10_more cX10_more 2 (some .int) ∈ AL := AL_in (tk_5 _ (List.mem_of_getElem? (i := 117) rfl)) rfl
theorem aw_1123 : Cond.methodLink RL 86 yX10_drawn ∈ AL := AL_in (tk_5 _ (List.mem_of_getElem? (i := 118) rfl)) rfl
theorem aw_1124 : Cond.instanceMethod yX10_drawn ∈ AL := AL_in (tk_5 _ (List.mem_of_getElem? (i := 119) rfl)) rfl
theorem aw_1125 : Cond.selects RX10 yX10_drawn yX10_drawn ∈ AL := AL_in (tk_5 _ (List.mem_of_getElem? (i := 120) rfl)) rfl
theorem aw_1126 : Cond.code yX10_drawn cX10_drawn 8 (some .int) ∈ AL := AL_in (tk_5 _ (List.mem_of_getElem? (i := 121) rfl)) rfl
theorem aw_1127 : Cond.methodLink RL 90 yX10_came ∈ AL := AL_in (tk_5 _ (List.mem_of_getElem? (i := 122) rfl)) rfl
theorem aw_1128 : Cond.instanceMethod yX10_came ∈ AL := AL_in (tk_5 _ (List.mem_of_getElem? (i := 123) rfl)) rfl
theorem aw_1129 : Cond.selects RX10 yX10_came yX10_came ∈ AL := AL_in (tk_5 _ (List.mem_of_getElem? (i := 124) rfl)) rfl
theorem aw_1130 : Cond.code yX10_came cX10_came 10 (some .int) ∈ AL := AL_in (tk_5 _ (List.mem_of_getElem? (i := 125) rfl)) rfl
theorem aw_1131 : Cond.methodLink RL 95 yX10_letOff ∈ AL := AL_in (tk_5 _ (List.mem_of_getElem? (i := 126) rfl)) rfl
theorem aw_1132 : Cond.instanceMethod yX10_letOff ∈ AL := AL_in (tk_5 _ (List.mem_of_getElem? (i := 127) rfl)) rfl
theorem aw_1133 : Cond.selects RX10 yX10_letOff yX10_letOff ∈ AL := AL_in (tk_5 _ (List.mem_of_getElem? (i := 128) rfl)) rfl
theorem aw_1134 : Cond.code yX10_letOff cX10_letOff 17 (some .long) ∈ AL := AL_in (tk_5 _ (List.mem_of_getElem? (i := 129) rfl)) rfl
theorem aw_1135 : Cond.constantLong RX10 274 (-102) ∈ AL := AL_in (tk_5 _ (List.mem_of_getElem? (i := 130) rfl)) rfl
theorem aw_1136 : Cond.methodLink RX10 276 yX10_melted ∈ AL := AL_in (tk_5 _ (List.mem_of_getElem? (i := 131) rfl)) rfl
theorem aw_1137 : Cond.static yX10_melted ∈ AL := AL_in (tk_5 _ (List.mem_of_getElem? (i := 132) rfl)) rfl
theorem aw_1138 : Cond.code yX10_melted cX10_melted 2 (some .int) ∈ AL := AL_in (tk_5 _ (List.mem_of_getElem? (i := 133) rfl)) rfl
theorem aw_1139 : Cond.methodLink RX10 279 yX10_common ∈ AL := AL_in (tk_5 _ (List.mem_of_getElem? (i := 134) rfl)) rfl
theorem aw_1140 : Cond.static yX10_common ∈ AL := AL_in (tk_5 _ (List.mem_of_getElem? (i := 135) rfl)) rfl
theorem aw_1141 : Cond.code yX10_common cX10_common 10 (some .long) ∈ AL := AL_in (tk_5 _ (List.mem_of_getElem? (i := 136) rfl)) rfl
theorem aw_1142 : Cond.methodLink RL 99 yX10_line ∈ AL := AL_in (tk_5 _ (List.mem_of_getElem? (i := 137) rfl)) rfl
theorem aw_1143 : Cond.instanceMethod yX10_line ∈ AL := AL_in (tk_5 _ (List.mem_of_getElem? (i := 138) rfl)) rfl
theorem aw_1144 : Cond.selects RX10 yX10_line yX10_line ∈ AL := AL_in (tk_5 _ (List.mem_of_getElem? (i := 139) rfl)) rfl
theorem aw_1145 : Cond.code yX10_line cX10_line 4 (some .int) ∈ AL := AL_in (tk_5 _ (List.mem_of_getElem? (i := 140) rfl)) rfl
theorem aw_1146 : Cond.methodLink RL 103 yX10_claims ∈ AL := AL_in (tk_5 _ (List.mem_of_getElem? (i := 141) rfl)) rfl
theorem aw_1147 : Cond.instanceMethod yX10_claims ∈ AL := AL_in (tk_5 _ (List.mem_of_getElem? (i := 142) rfl)) rfl
theorem aw_1148 : Cond.selects RX10 yX10_claims yX10_claims ∈ AL := AL_in (tk_5 _ (List.mem_of_getElem? (i := 143) rfl)) rfl
theorem aw_1149 : Cond.code yX10_claims cX10_claims 12 (some .int) ∈ AL := AL_in (tk_5 _ (List.mem_of_getElem? (i := 144) rfl)) rfl
theorem aw_1150 : Cond.methodLink RL 107 yX10_image ∈ AL := AL_in (tk_5 _ (List.mem_of_getElem? (i := 145) rfl)) rfl
theorem aw_1151 : Cond.instanceMethod yX10_image ∈ AL := AL_in (tk_5 _ (List.mem_of_getElem? (i := 146) rfl)) rfl
theorem aw_1152 : Cond.selects RX10 yX10_image yX10_image ∈ AL := AL_in (tk_5 _ (List.mem_of_getElem? (i := 147) rfl)) rfl
theorem aw_1153 : Cond.code yX10_image cX10_image 2 (some .int) ∈ AL := AL_in (tk_5 _ (List.mem_of_getElem? (i := 148) rfl)) rfl
theorem aw_1154 : Cond.methodLink RL 111 yX10_restore ∈ AL := AL_in (tk_5 _ (List.mem_of_getElem? (i := 149) rfl)) rfl
theorem aw_1155 : Cond.instanceMethod yX10_restore ∈ AL := AL_in (tk_5 _ (List.mem_of_getElem? (i := 150) rfl)) rfl
theorem aw_1156 : Cond.selects RX10 yX10_restore yX10_restore ∈ AL := AL_in (tk_5 _ (List.mem_of_getElem? (i := 151) rfl)) rfl
theorem aw_1157 : Cond.code yX10_restore cX10_restore 2 (some .int) ∈ AL := AL_in (tk_5 _ (List.mem_of_getElem? (i := 152) rfl)) rfl
theorem aw_1158 : Cond.methodLink RL 115 yX10_count ∈ AL := AL_in (tk_5 _ (List.mem_of_getElem? (i := 153) rfl)) rfl
theorem aw_1159 : Cond.instanceMethod yX10_count ∈ AL := AL_in (tk_5 _ (List.mem_of_getElem? (i := 154) rfl)) rfl
theorem aw_1160 : Cond.selects RX10 yX10_count yX10_count ∈ AL := AL_in (tk_5 _ (List.mem_of_getElem? (i := 155) rfl)) rfl
theorem aw_1161 : Cond.code yX10_count cX10_count 2 (some .int) ∈ AL := AL_in (tk_5 _ (List.mem_of_getElem? (i := 156) rfl)) rfl
theorem aw_1162 : Cond.methodLink RX10 298 yX10_countOf ∈ AL := AL_in (tk_5 _ (List.mem_of_getElem? (i := 157) rfl)) rfl
theorem aw_1164 : Cond.instanceMethod yX10_countOf ∈ AL := AL_in (tk_5 _ (List.mem_of_getElem? (i := 159) rfl)) rfl
theorem aw_1165 : Cond.code yX10_countOf cX10_countOf 2 (some .int) ∈ AL := AL_in (tk_5 _ (List.mem_of_getElem? (i := 160) rfl)) rfl
theorem aw_1166 : Cond.methodLink RL 120 yX10_digest ∈ AL := AL_in (tk_5 _ (List.mem_of_getElem? (i := 161) rfl)) rfl
theorem aw_1167 : Cond.instanceMethod yX10_digest ∈ AL := AL_in (tk_5 _ (List.mem_of_getElem? (i := 162) rfl)) rfl
theorem aw_1168 : Cond.selects RX10 yX10_digest yX10_digest ∈ AL := AL_in (tk_5 _ (List.mem_of_getElem? (i := 163) rfl)) rfl
theorem aw_1169 : Cond.code yX10_digest cX10_digest 3 (some .long) ∈ AL := AL_in (tk_5 _ (List.mem_of_getElem? (i := 164) rfl)) rfl
theorem aw_1170 : Cond.constantLong RX10 311 (569) ∈ AL := AL_in (tk_5 _ (List.mem_of_getElem? (i := 165) rfl)) rfl
theorem aw_1171 : Cond.methodLink RX10 307 yX10_say ∈ AL := AL_in (tk_5 _ (List.mem_of_getElem? (i := 166) rfl)) rfl
theorem aw_1173 : Cond.instanceMethod yX10_say ∈ AL := AL_in (tk_5 _ (List.mem_of_getElem? (i := 168) rfl)) rfl
theorem aw_1174 : Cond.code yX10_say cX10_say 3 none ∈ AL := AL_in (tk_5 _ (List.mem_of_getElem? (i := 169) rfl)) rfl
theorem aw_1175 : Cond.constantLong RX10 301 (31) ∈ AL := AL_in (tk_5 _ (List.mem_of_getElem? (i := 170) rfl)) rfl
theorem aw_1176 : Cond.methodLink RX10 313 yX10_sayBerg ∈ AL := AL_in (tk_5 _ (List.mem_of_getElem? (i := 171) rfl)) rfl
theorem aw_1178 : Cond.instanceMethod yX10_sayBerg ∈ AL := AL_in (tk_5 _ (List.mem_of_getElem? (i := 173) rfl)) rfl
theorem aw_1179 : Cond.code yX10_sayBerg cX10_sayBerg 3 none ∈ AL := AL_in (tk_5 _ (List.mem_of_getElem? (i := 174) rfl)) rfl
theorem aw_1180 : Cond.constantLong RL 13 (4294967295) ∈ AL := AL_in (tk_5 _ (List.mem_of_getElem? (i := 175) rfl)) rfl
end
section
/-! ===== the layer: the state of a world as numbers ===== -/
/-- ints, longs and moving references of a world, by cell and place -/
abbrev Sg : Type := (Nat → Nat → Int32) × (Nat → Nat → Int64) × (Nat → Nat → Nat)
def rI (σ : Sg) (o k : Nat) : Int32 := σ.1 o k
def rJ (σ : Sg) (o k : Nat) : Int64 := σ.2.1 o k
def rR (σ : Sg) (o k : Nat) : Nat := σ.2.2 o k
def wI (σ : Sg) (o k : Nat) (v : Int32) : Sg := (fun a b => if a = o ∧ b = k then v else σ.1 a b, σ.2)
def wJ (σ : Sg) (o k : Nat) (v : Int64) : Sg := (σ.1, fun a b => if a = o ∧ b = k then v else σ.2.1 a b, σ.2.2)
def wR (σ : Sg) (o k : Nat) (v : Nat) : Sg := (σ.1, σ.2.1, fun a b => if a = o ∧ b = k then v else σ.2.2 a b)
/-- a stretch of one row of ints copied into another -/
def wC (σ : Sg) (a0 sp a1 dp n : Nat) : Sg := (fun a b => if a = a1 ∧ dp ≤ b ∧ b < dp + n then σ.1 a0 (sp + (b - dp)) else σ.1 a b, σ.2)
/-- a shape: (0, class, slots) an object, a slot (0,_) an int, (1,_) a long, (2,d) the cell d further on, (3,_) a moving reference, (4,_) null; (1,n,_) ints, (2,n,_) longs, (3,n,_) booleans, (4,n,[(b,m)]) objects, (5,n,[(b,m)]) rows, from the b-th cell behind on, m of them -/
abbrev Sh : Type := Nat × Nat × List (Nat × Nat)
def slotV (ad : Nat → Nat) (σ : Sg) (i k : Nat) (s : Nat × Nat) : Value := match s.1 with
  | 0 => .int (rI σ i k)
  | 1 => .long (rJ σ i k)
  | 2 => .ref (ad (i + s.2))
  | 3 => .ref (ad (rR σ i k))
  | _ => .null
def slv (ad : Nat → Nat) (σ : Sg) (i : Nat) : Nat → List (Nat × Nat) → List Value
  | _, [] => []
  | k, s :: t => slotV ad σ i k s :: slv ad σ i (k + 1) t
def rowB (sh : Sh) : Nat := (sh.2.2.headD (0, 0)).1
def rowM (sh : Sh) : Nat := (sh.2.2.headD (0, 0)).2
def ent (cys : Nat → ClassId) (ad : Nat → Nat) (σ : Sg) (i : Nat) (sh : Sh) : va_E := match sh.1 with
  | 0 => .inr (sh.2.1, slv ad σ i 0 sh.2.2)
  | 1 => .inl (cys 0, sh.2.1, .inl (rI σ i))
  | 2 => .inl (cys 1, sh.2.1, .inr (.inl (rJ σ i)))
  | 3 => .inl (cys 2, sh.2.1, .inl (rI σ i))
  | 4 => .inl (cys 3, sh.2.1, .inr (.inr (.inr (.inr (fun j => if j < rowM sh then some (ad (i + rowB sh + j)) else none)))))
  | _ => .inl (cys 4, sh.2.1, .inr (.inr (.inr (.inr (fun j => if j < rowM sh then some (ad (i + rowB sh + j)) else none)))))
def wd (cys : Nat → ClassId) (ad : Nat → Nat) (σ : Sg) : Nat → List Sh → va_W
  | _, [] => []
  | i, sh :: t => (ad i, ent cys ad σ i sh) :: wd cys ad σ (i + 1) t
abbrev tysOf (cys : Nat → ClassId) : List (ClassId × FieldType) := [(cys 0, .int), (cys 1, .long), (cys 2, .boolean), (cys 3, .object RX0), (cys 4, .array .int)]
theorem slv_get {ad : Nat → Nat} {σ : Sg} {i : Nat} : ∀ (l : List (Nat × Nat)) (k0 j : Nat), (slv ad σ i k0 l)[j]? = (l[j]?).map (slotV ad σ i (k0 + j))
  | [], k0, j => by simp [slv]
  | s :: t, k0, 0 => by simp [slv]
  | s :: t, k0, j + 1 => by
    simp only [slv, List.getElem?_cons_succ]
    rw [slv_get t (k0 + 1) j, show k0 + 1 + j = k0 + (j + 1) by omega]
theorem slv_len {ad : Nat → Nat} {σ : Sg} {i : Nat} : ∀ (l : List (Nat × Nat)) (k0 : Nat), (slv ad σ i k0 l).length = l.length
  | [], _ => rfl
  | s :: t, k0 => by simp only [slv, List.length_cons]; rw [slv_len t (k0 + 1)]
theorem slv_eq {ad : Nat → Nat} {σ σ' : Sg} {i : Nat} : ∀ (l : List (Nat × Nat)) (k0 : Nat), (∀ q t, k0 ≤ q → slotV ad σ' i q t = slotV ad σ i q t) → slv ad σ' i k0 l = slv ad σ i k0 l
  | [], _, _ => rfl
  | s :: t, k0, h => by
    simp only [slv]
    rw [h k0 s (Nat.le_refl _), slv_eq t (k0 + 1) (fun q t hq => h q t (by omega))]
theorem slv_set {ad : Nat → Nat} {σ σ' : Sg} {i : Nat} {v : Value} : ∀ (l : List (Nat × Nat)) (k0 j : Nat) (s : Nat × Nat), l[j]? = some s → (∀ q t, q ≠ k0 + j → slotV ad σ' i q t = slotV ad σ i q t) → slotV ad σ' i (k0 + j) s = v → (slv ad σ i k0 l).set j v = slv ad σ' i k0 l
  | [], _, _, _, h, _, _ => by simp at h
  | s0 :: t, k0, 0, s, h, hq, hv => by
    rw [List.getElem?_cons_zero] at h
    cases h
    simp only [slv, List.set_cons_zero]
    rw [← hv, Nat.add_zero, slv_eq t (k0 + 1) (fun q u hu => hq q u (by omega))]
  | s0 :: t, k0, j + 1, s, h, hq, hv => by
    rw [List.getElem?_cons_succ] at h
    simp only [slv, List.set_cons_succ]
    rw [hq k0 s0 (by omega), slv_set t (k0 + 1) j s h (fun q u hu => hq q u (by omega)) (by rw [show k0 + 1 + j = k0 + (j + 1) by omega]; exact hv)]
theorem wd_get {cys : Nat → ClassId} {ad : Nat → Nat} {σ : Sg} : ∀ (Y : List Sh) (i0 j : Nat), (wd cys ad σ i0 Y)[j]? = (Y[j]?).map (fun sh => (ad (i0 + j), ent cys ad σ (i0 + j) sh))
  | [], i0, j => by simp [wd]
  | s :: t, i0, 0 => by simp [wd]
  | s :: t, i0, j + 1 => by
    simp only [wd, List.getElem?_cons_succ]
    rw [wd_get t (i0 + 1) j, show i0 + 1 + j = i0 + (j + 1) by omega]
theorem wd_at {cys : Nat → ClassId} {ad : Nat → Nat} {σ : Sg} {Y : List Sh} {o : Nat} {sh : Sh} (h : Y[o]? = some sh) : (wd cys ad σ 0 Y)[o]? = some (ad o, ent cys ad σ o sh) := by
  rw [wd_get, h, Nat.zero_add]
  rfl
theorem wd_eq {cys : Nat → ClassId} {ad : Nat → Nat} {σ σ' : Sg} : ∀ (Y : List Sh) (i0 : Nat), (∀ q sh, i0 ≤ q → ent cys ad σ' q sh = ent cys ad σ q sh) → wd cys ad σ' i0 Y = wd cys ad σ i0 Y
  | [], _, _ => rfl
  | s :: t, i0, h => by
    simp only [wd]
    rw [h i0 s (Nat.le_refl _), wd_eq t (i0 + 1) (fun q t hq => h q t (by omega))]
theorem wd_set {cys : Nat → ClassId} {ad : Nat → Nat} {σ σ' : Sg} {e : va_E} : ∀ (Y : List Sh) (i0 j : Nat) (sh : Sh), Y[j]? = some sh → (∀ q t, q ≠ i0 + j → ent cys ad σ' q t = ent cys ad σ q t) → ent cys ad σ' (i0 + j) sh = e → (wd cys ad σ i0 Y).set j (ad (i0 + j), e) = wd cys ad σ' i0 Y
  | [], _, _, _, h, _, _ => by simp at h
  | s0 :: t, i0, 0, s, h, hq, hv => by
    rw [List.getElem?_cons_zero] at h
    cases h
    simp only [wd, List.set_cons_zero]
    rw [← hv, Nat.add_zero, wd_eq t (i0 + 1) (fun q u hu => hq q u (by omega))]
  | s0 :: t, i0, j + 1, s, h, hq, hv => by
    rw [List.getElem?_cons_succ] at h
    simp only [wd, List.set_cons_succ]
    rw [hq i0 s0 (by omega), show i0 + (j + 1) = i0 + 1 + j by omega, wd_set t (i0 + 1) j s h (fun q u hu => hq q u (by omega)) (by rw [show i0 + 1 + j = i0 + (j + 1) by omega]; exact hv)]
theorem wd_len {cys : Nat → ClassId} {ad : Nat → Nat} {σ : Sg} : ∀ (Y : List Sh) (i0 : Nat), (wd cys ad σ i0 Y).length = Y.length
  | [], _ => rfl
  | s :: t, i0 => by simp only [wd, List.length_cons]; rw [wd_len t (i0 + 1)]
/-- the addresses apart, and of a kind -/
theorem wd_D {cys : Nat → ClassId} {ad : Nat → Nat} {σ : Sg} {Y : List Sh} {A : Nat → Prop} (hi : ∀ i j, i < Y.length → j < Y.length → ad i = ad j → i = j) (hA : ∀ i, i < Y.length → A (ad i)) : va_D A (wd cys ad σ 0 Y) := by
  have key : ∀ (k : Nat) (q : Nat × va_E), (wd cys ad σ 0 Y)[k]? = some q → k < Y.length ∧ q.1 = ad k := by
    intro k q hk
    have hl : k < (wd cys ad σ 0 Y).length := (List.getElem?_eq_some_iff.mp hk).1
    rw [wd_len] at hl
    rw [wd_at (List.getElem?_eq_getElem hl)] at hk
    cases hk
    exact ⟨hl, rfl⟩
  refine ⟨fun i j p q h1 h2 h3 => ?_, fun k q h => ?_⟩
  · obtain ⟨a1, a2⟩ := key i p h1
    obtain ⟨b1, b2⟩ := key j q h2
    exact hi i j a1 b1 (by rw [← a2, ← b2]; exact h3)
  · obtain ⟨a1, a2⟩ := key k q h
    rw [a2]
    exact hA k a1
theorem ent_wI {cys : Nat → ClassId} {ad : Nat → Nat} {σ : Sg} {o k : Nat} {v : Int32} (q : Nat) (sh : Sh) (h : q ≠ o) : ent cys ad (wI σ o k v) q sh = ent cys ad σ q sh := by
  have e1 : rI (wI σ o k v) q = rI σ q := by funext j; simp [rI, wI, h]
  have e2 : rJ (wI σ o k v) q = rJ σ q := rfl
  have e3 : ∀ k0, slv ad (wI σ o k v) q k0 sh.2.2 = slv ad σ q k0 sh.2.2 := fun k0 => slv_eq _ _ (fun j t _ => by
    unfold slotV
    split
    · rw [e1]
    · rfl
    · rfl
    · rfl
    · rfl)
  unfold ent
  split
  · rw [e3]
  · rw [e1]
  · rw [e2]
  · rw [e1]
  · rfl
  · rfl
theorem ent_wJ {cys : Nat → ClassId} {ad : Nat → Nat} {σ : Sg} {o k : Nat} {v : Int64} (q : Nat) (sh : Sh) (h : q ≠ o) : ent cys ad (wJ σ o k v) q sh = ent cys ad σ q sh := by
  have e1 : rI (wJ σ o k v) q = rI σ q := rfl
  have e2 : rJ (wJ σ o k v) q = rJ σ q := by funext j; simp [rJ, wJ, h]
  have e3 : ∀ k0, slv ad (wJ σ o k v) q k0 sh.2.2 = slv ad σ q k0 sh.2.2 := fun k0 => slv_eq _ _ (fun j t _ => by
    unfold slotV
    split
    · rfl
    · rw [e2]
    · rfl
    · rfl
    · rfl)
  unfold ent
  split
  · rw [e3]
  · rfl
  · rw [e2]
  · rfl
  · rfl
  · rfl
theorem ent_wR {cys : Nat → ClassId} {ad : Nat → Nat} {σ : Sg} {o k v : Nat} (q : Nat) (sh : Sh) (h : q ≠ o) : ent cys ad (wR σ o k v) q sh = ent cys ad σ q sh := by
  have e1 : rI (wR σ o k v) q = rI σ q := rfl
  have e2 : rJ (wR σ o k v) q = rJ σ q := rfl
  have e3 : ∀ k0, slv ad (wR σ o k v) q k0 sh.2.2 = slv ad σ q k0 sh.2.2 := fun k0 => slv_eq _ _ (fun j t _ => by
    unfold slotV
    split
    · rfl
    · rfl
    · rfl
    · have e4 : rR (wR σ o k v) q j = rR σ q j := by simp [rR, wR, h]
      rw [e4]
    · rfl)
  unfold ent
  split
  · rw [e3]
  · rfl
  · rfl
  · rfl
  · rfl
  · rfl
theorem ent_wC {cys : Nat → ClassId} {ad : Nat → Nat} {σ : Sg} {a0 sp a1 dp n : Nat} (q : Nat) (sh : Sh) (h : q ≠ a1) : ent cys ad (wC σ a0 sp a1 dp n) q sh = ent cys ad σ q sh := by
  have e1 : rI (wC σ a0 sp a1 dp n) q = rI σ q := by funext j; simp [rI, wC, h]
  have e2 : rJ (wC σ a0 sp a1 dp n) q = rJ σ q := rfl
  have e3 : ∀ k0, slv ad (wC σ a0 sp a1 dp n) q k0 sh.2.2 = slv ad σ q k0 sh.2.2 := fun k0 => slv_eq _ _ (fun j t _ => by
    unfold slotV
    split
    · rw [e1]
    · rfl
    · rfl
    · rfl
    · rfl)
  unfold ent
  split
  · rw [e3]
  · rw [e1]
  · rw [e2]
  · rw [e1]
  · rfl
  · rfl

/-! ===== a method's point: context, program counter, locals, stack, what holds of the heap ===== -/
abbrev KT : Type := Program × Launch × Env × Room × State × MethodId × Array Value × List Frame × Method × Code × va_G × (Nat → ClassId) × (Nat → Nat) × (Nat → Prop) × (State → Prop)
abbrev kp (K : KT) : Program := K.1
abbrev kl (K : KT) : Launch := K.2.1
abbrev ke (K : KT) : Env := K.2.2.1
abbrev kR (K : KT) : Room := K.2.2.2.1
abbrev ks (K : KT) : State := K.2.2.2.2.1
abbrev km (K : KT) : MethodId := K.2.2.2.2.2.1
abbrev ka (K : KT) : Array Value := K.2.2.2.2.2.2.1
abbrev kb (K : KT) : List Frame := K.2.2.2.2.2.2.2.1
abbrev kmeth (K : KT) : Method := K.2.2.2.2.2.2.2.2.1
abbrev kc (K : KT) : Code := K.2.2.2.2.2.2.2.2.2.1
abbrev kD (K : KT) : va_G := K.2.2.2.2.2.2.2.2.2.2.1
abbrev kcy (K : KT) : Nat → ClassId := K.2.2.2.2.2.2.2.2.2.2.2.1
def kad (K : KT) : Nat → Nat := K.2.2.2.2.2.2.2.2.2.2.2.2.1
abbrev kA (K : KT) : Nat → Prop := K.2.2.2.2.2.2.2.2.2.2.2.2.2.1
abbrev kQ (K : KT) : State → Prop := K.2.2.2.2.2.2.2.2.2.2.2.2.2.2
abbrev Wk (K : KT) (H : Heap) (locs : List Loc) (g : JFrame) : Prop := W (kp K) (kl K) (ke K) (kR K) (ks K) (km K) (ka K) (kb K) (kmeth K) (kc K) H locs 0 0 (kQ K) g
def LX (ls : Array Slot) (L : List (Option Value)) : Prop := ls.size = L.length ∧ lv_wf ls ∧ ∀ (i : Nat) (v : Value), L[i]? = some (some v) → ls[i]? = some (Slot.val v)
def G (K : KT) (pc : Nat) (L : List (Option Value)) (st : List Value) (P : Heap → List Loc → Prop) : Prop :=
  ∀ (H : Heap) (locs : List Loc) (ls : Array Slot), P H locs → LX ls L → Wk K H locs (F0 (km K) pc ls st)
def Cb (K : KT) (cc : ByteArray) (own : String) (nL d : Nat) : Prop :=
  (kp K).tables.exec = Jvm.exec ∧ (kc K).code = cc ∧ (kc K).maxLocals = nL ∧ (ks K).vm.findClass own = some (km K).cls ∧ (∀ w ∈ AL, w.before (ka K) (ks K) = true) ∧ (kmeth K).locks = false ∧ d ≤ (kR K).frames ∧ 40 * d ≤ (kR K).locals
theorem Cb.fix {K : KT} {cc : ByteArray} {own : String} {nL d : Nat} (C : Cb K cc own nL d) : CallFix (kp K) (km K) (kc K) cc nL (ks K) (ka K) AL own := ⟨C.1, C.2.1, C.2.2.1, C.2.2.2.1, C.2.2.2.2.1⟩
theorem Cb.x {K : KT} {cc : ByteArray} {own : String} {nL d : Nat} (C : Cb K cc own nL d) : (kp K).tables.exec = Jvm.exec := C.1
theorem Cb.b {K : KT} {cc : ByteArray} {own : String} {nL d : Nat} (C : Cb K cc own nL d) : (kc K).code = cc := C.2.1
theorem Cb.o {K : KT} {cc : ByteArray} {own : String} {nL d : Nat} (C : Cb K cc own nL d) : (ks K).vm.findClass own = some (km K).cls := C.2.2.2.1
theorem Cb.t {K : KT} {cc : ByteArray} {own : String} {nL d : Nat} (C : Cb K cc own nL d) {w : Cond} (h : w ∈ AL) : w.before (ka K) (ks K) = true := C.2.2.2.2.1 w h
/-! the locals -/
def prs (L : List (Option Value)) : List (Nat × Value) := (List.range L.length).filterMap (fun i => (L[i]?.join).map (fun v => (i, v)))
theorem prs_iff {L : List (Option Value)} {q : Nat × Value} : q ∈ prs L ↔ L[q.1]? = some (some q.2) := by
  unfold prs
  rw [List.mem_filterMap]
  constructor
  · rintro ⟨i, -, h⟩
    obtain ⟨v, h1, h2⟩ := Option.map_eq_some_iff.mp h
    subst h2
    exact Option.join_eq_some_iff.mp h1
  · intro h
    refine ⟨q.1, List.mem_range.mpr ((List.getElem?_eq_some_iff.mp h).1), ?_⟩
    rw [h]
    rfl
theorem LX.has {ls : Array Slot} {L : List (Option Value)} (h : LX ls L) : lv_has ls L.length (prs L) := ⟨h.1, h.2.1, fun q hq => h.2.2 q.1 q.2 (prs_iff.mp hq)⟩
def c2 : Option (Option Value) → Bool
  | some (some (.long _)) => true
  | some (some (.double _)) => true
  | _ => false
/-- a store ends a long whose second half it takes -/
def clr (L : List (Option Value)) : Nat → List (Option Value)
  | 0 => L
  | j + 1 => if c2 L[j]? = true then L.set j none else L
def st1 (L : List (Option Value)) (i : Nat) (v : Value) : List (Option Value) := (clr L i).set i (some v)
def st2 (L : List (Option Value)) (i : Nat) (v : Value) : List (Option Value) := ((clr L i).set i (some v)).set (i + 1) none
theorem clr_len (L : List (Option Value)) (i : Nat) : (clr L i).length = L.length := by
  cases i with
  | zero => rfl
  | succ j => simp only [clr]; split <;> simp
theorem clr_get {L : List (Option Value)} {i j : Nat} {v : Value} (h : (clr L i)[j]? = some (some v)) : L[j]? = some (some v) ∧ ¬ (j + 1 = i ∧ v.category = 2) := by
  cases i with
  | zero => exact ⟨h, fun q => by omega⟩
  | succ q =>
    simp only [clr] at h
    split at h
    next hc =>
      rw [List.getElem?_set] at h
      split at h
      next => split at h <;> cases h
      next hne => exact ⟨h, fun z => hne (by omega)⟩
    next hc =>
      refine ⟨h, fun z => hc ?_⟩
      have hj : j = q := by omega
      subst hj
      rw [h]
      cases v <;> first | rfl | (exfalso; have := z.2; simp [Value.category] at this)
theorem LX.s1 {ls' : Array Slot} {L : List (Option Value)} {i : Nat} {v : Value} (hi : i < L.length) (h : lv_has ls' L.length ((i, v) :: (prs L).filter (fun q => !(q.1 == i) && !(q.1 + 1 == i && q.2.category == 2)))) : LX ls' (st1 L i v) := by
  refine ⟨by rw [h.1]; simp [st1, clr_len], h.2.1, fun j u hj => ?_⟩
  unfold st1 at hj
  rw [List.getElem?_set] at hj
  split at hj
  next e =>
    subst e
    rw [clr_len, if_pos hi] at hj
    cases hj
    exact h.2.2 (i, v) List.mem_cons_self
  next e =>
    obtain ⟨h1, h2⟩ := clr_get hj
    refine h.2.2 (j, u) (List.mem_cons_of_mem _ (List.mem_filter.mpr ⟨prs_iff.mpr h1, ?_⟩))
    have e' : j ≠ i := fun z => e z.symm
    by_cases z : j + 1 = i
    · have : ¬ u.category = 2 := fun y => h2 ⟨z, y⟩
      simp [e', this]
    · simp [e', z]
theorem LX.s2 {ls' : Array Slot} {L : List (Option Value)} {i : Nat} {v : Value} (hi : i + 1 < L.length) (h : lv_has ls' L.length ((i, v) :: (prs L).filter (fun q => !(q.1 == i) && (!(q.1 == i + 1) && !(q.1 + 1 == i && q.2.category == 2))))) : LX ls' (st2 L i v) := by
  refine ⟨by rw [h.1]; simp [st2, clr_len], h.2.1, fun j u hj => ?_⟩
  unfold st2 at hj
  rw [List.getElem?_set] at hj
  split at hj
  next e => split at hj <;> cases hj
  next e0 =>
    rw [List.getElem?_set] at hj
    split at hj
    next e =>
      subst e
      rw [clr_len, if_pos (by omega)] at hj
      cases hj
      exact h.2.2 (i, v) List.mem_cons_self
    next e =>
      obtain ⟨h1, h2⟩ := clr_get hj
      refine h.2.2 (j, u) (List.mem_cons_of_mem _ (List.mem_filter.mpr ⟨prs_iff.mpr h1, ?_⟩))
      have e' : j ≠ i := fun z => e z.symm
      have e0' : j ≠ i + 1 := fun z => e0 z.symm
      by_cases z : j + 1 = i
      · have : ¬ u.category = 2 := fun y => h2 ⟨z, y⟩
        simp [e', e0', this]
      · simp [e', e0', z]
/-- fewer locals are known -/
def ksel : List Bool → List (Option Value) → List (Option Value)
  | b :: bs, x :: xs => (if b = true then x else none) :: ksel bs xs
  | _, xs => xs
theorem ksel_len : ∀ (bs : List Bool) (L : List (Option Value)), (ksel bs L).length = L.length
  | [], L => by cases L <;> rfl
  | b :: bs, [] => rfl
  | b :: bs, x :: xs => by simp only [ksel, List.length_cons]; rw [ksel_len bs xs]
theorem ksel_get : ∀ (bs : List Bool) (L : List (Option Value)) (i : Nat) (v : Value), (ksel bs L)[i]? = some (some v) → L[i]? = some (some v)
  | [], L, i, v, h => by cases L <;> exact h
  | b :: bs, [], i, v, h => h
  | b :: bs, x :: xs, 0, v, h => by
    simp only [ksel, List.getElem?_cons_zero] at h ⊢
    split at h
    · exact h
    · cases h
  | b :: bs, x :: xs, i + 1, v, h => by
    simp only [ksel, List.getElem?_cons_succ] at h ⊢
    exact ksel_get bs xs i v h
theorem g_mask {K : KT} {pc : Nat} {L L' : List (Option Value)} {st : List Value} {P : Heap → List Loc → Prop} (bs : List Bool) (h : ksel bs L = L') (k : G K pc L' st P) : G K pc L st P := by
  intro H locs ls hP hL
  subst h
  exact k H locs ls hP ⟨by rw [hL.1, ksel_len], hL.2.1, fun i v hi => hL.2.2 i v (ksel_get bs L i v hi)⟩
theorem ite_t {c : Prop} {i : Decidable c} {α : Type} {a b o : α} (hc : c) (h : (@ite α c i a b) = o) : a = o := by rw [if_pos hc] at h; exact h
theorem ite_f {c : Prop} {i : Decidable c} {α : Type} {a b o : α} (hc : ¬ c) (h : (@ite α c i a b) = o) : b = o := by rw [if_neg hc] at h; exact h
/-- a place is in its row -/
def inb (i : Int32) (n : Nat) : Bool := decide (¬ i < 0) && decide (i.toNatClampNeg < n)
theorem inb_in {i : Int32} {n : Nat} (h : inb i n = true) : vp_in i n := by
  unfold inb at h
  rw [Bool.and_eq_true, decide_eq_true_eq, decide_eq_true_eq] at h
  exact fun q => q.elim h.1 (fun z => absurd h.2 (by omega))
theorem inb_lt {i : Int32} {n : Nat} (h : inb i n = true) : i.toNatClampNeg < n := by
  unfold inb at h
  rw [Bool.and_eq_true, decide_eq_true_eq, decide_eq_true_eq] at h
  exact h.2
/-- 0 or 1 -/
def isB (v : Int32) : Bool := decide (v = 0) || decide (v = 1)
theorem isB_n {v : Int32} (h : isB v = true) : narrow .boolean (.int v) = .int v := by
  unfold isB at h
  rw [Bool.or_eq_true, decide_eq_true_eq, decide_eq_true_eq] at h
  rcases h with rfl | rfl <;> rfl
theorem isB_f {v : Int32} (h : isB v = true) : fits .boolean (.int v) = true := by
  unfold isB at h
  rw [Bool.or_eq_true, decide_eq_true_eq, decide_eq_true_eq] at h
  rcases h with rfl | rfl <;> rfl
theorem chk {b : Bool} {α : Type} {x : Option α} {o : α} (h : (if b = true then x else none) = some o) : b = true ∧ x = some o := by
  by_cases c : b = true
  · rw [if_pos c] at h; exact ⟨c, h⟩
  · rw [if_neg c] at h; cases h
/-- the shape of a cell is as told -/
def isSh (Y : List Sh) (o : Nat) (sh : Sh) : Bool := decide (Y[o]? = some sh)
theorem isSh_e {Y : List Sh} {o : Nat} {sh : Sh} (h : isSh Y o sh = true) : Y[o]? = some sh := of_decide_eq_true h
/-- a loop of at most so many rounds -/
def lp {S T : Type} (f : S → Option (S ⊕ T)) : Nat → S → Option T
  | 0, _ => none
  | n + 1, s => match f s with
    | none => none
    | some (.inl s') => lp f n s'
    | some (.inr t) => some t
def FU : Nat := 1000000
theorem lp_ind {S T : Type} {f : S → Option (S ⊕ T)} {Gh : S → Prop} {KK : T → Prop} (hb : ∀ s o, f s = some o → (∀ s', o = .inl s' → Gh s') → (∀ t, o = .inr t → KK t) → Gh s) : ∀ (n : Nat) (s : S) (t : T), lp f n s = some t → KK t → Gh s
  | 0, s, t, h, _ => by cases h
  | n + 1, s, t, h, hk => by
    unfold lp at h
    cases hf : f s with
    | none => rw [hf] at h; cases h
    | some o =>
      rw [hf] at h
      cases o with
      | inl s' => exact hb s _ hf (fun s2 e => by cases e; exact lp_ind hb n s' t h hk) (fun t2 e => by cases e)
      | inr t' => exact hb s _ hf (fun s2 e => by cases e) (fun t2 e => by cases e; cases h; exact hk)

section GI
variable {K : KT} {cc : ByteArray} {own : String} {nL d pc : Nat} {L : List (Option Value)} {st : List Value} {P : Heap → List Loc → Prop}
theorem g_iconst (C : Cb K cc own nL d) {n : Int} {v : Int32} (hd : decode cc pc = .ok (.iconst n, 1)) (hv : Int32.ofInt n = v)
    (k : G K (pc + 1) L (.int v :: st) P) : G K pc L st P := fun H locs ls hP hL => lv_iconst C.x C.b hd hv (k H locs ls hP hL)
theorem g_bipush (C : Cb K cc own nL d) {n : Int} {v : Int32} (hd : decode cc pc = .ok (.bipush n, 2)) (hv : (Int8.ofInt n).toInt32 = v)
    (k : G K (pc + 2) L (.int v :: st) P) : G K pc L st P := fun H locs ls hP hL => lv_bipush C.x C.b hd hv (k H locs ls hP hL)
theorem g_sipush (C : Cb K cc own nL d) {n : Int} {v : Int32} (hd : decode cc pc = .ok (.sipush n, 3)) (hv : (Int16.ofInt n).toInt32 = v)
    (k : G K (pc + 3) L (.int v :: st) P) : G K pc L st P := fun H locs ls hP hL => lv_sipush C.x C.b hd hv (k H locs ls hP hL)
theorem g_lconst (C : Cb K cc own nL d) {n : Fin 2} {v : Int64} (hd : decode cc pc = .ok (.lconst n, 1)) (hv : Int64.ofNat (n : Nat) = v)
    (k : G K (pc + 1) L (.long v :: st) P) : G K pc L st P := fun H locs ls hP hL => lv_lconst C.x C.b hd hv (k H locs ls hP hL)
theorem g_iload_n (C : Cb K cc own nL d) {n : Fin 4} {i : Nat} {x : Int32} (hd : decode cc pc = .ok (.iload_n n, 1)) (hi : (n : Nat) = i) (hl : L[i]? = some (some (.int x)))
    (k : G K (pc + 1) L (.int x :: st) P) : G K pc L st P := fun H locs ls hP hL => lv_iload_n C.x C.b hd hi (hL.2.2 _ _ hl) (k H locs ls hP hL)
theorem g_iload (C : Cb K cc own nL d) {i : Nat} {x : Int32} (hd : decode cc pc = .ok (.iload i, 2)) (hl : L[i]? = some (some (.int x)))
    (k : G K (pc + 2) L (.int x :: st) P) : G K pc L st P := fun H locs ls hP hL => lv_iload C.x C.b hd (hL.2.2 _ _ hl) (k H locs ls hP hL)
theorem g_istore_n (C : Cb K cc own nL d) {n : Fin 4} {i : Nat} {x : Int32} {L' : List (Option Value)} (hd : decode cc pc = .ok (.istore_n n, 1)) (hi : (n : Nat) = i) (hn : i < L.length) (hL' : st1 L i (.int x) = L')
    (k : G K (pc + 1) L' st P) : G K pc L (.int x :: st) P := fun H locs ls hP hL => lv_istore_n C.x C.b hd hi hL.has hn rfl (fun ls' h' => k H locs ls' hP (hL' ▸ LX.s1 hn h'))
theorem g_istore (C : Cb K cc own nL d) {i : Nat} {x : Int32} {L' : List (Option Value)} (hd : decode cc pc = .ok (.istore i, 2)) (hn : i < L.length) (hL' : st1 L i (.int x) = L')
    (k : G K (pc + 2) L' st P) : G K pc L (.int x :: st) P := fun H locs ls hP hL => lv_istore C.x C.b hd hL.has hn rfl (fun ls' h' => k H locs ls' hP (hL' ▸ LX.s1 hn h'))
theorem g_lload_n (C : Cb K cc own nL d) {n : Fin 4} {i : Nat} {x : Int64} (hd : decode cc pc = .ok (.lload_n n, 1)) (hi : (n : Nat) = i) (hl : L[i]? = some (some (.long x)))
    (k : G K (pc + 1) L (.long x :: st) P) : G K pc L st P := fun H locs ls hP hL => lv_lload_n C.x C.b hd hi (hL.2.2 _ _ hl) (k H locs ls hP hL)
theorem g_lload (C : Cb K cc own nL d) {i : Nat} {x : Int64} (hd : decode cc pc = .ok (.lload i, 2)) (hl : L[i]? = some (some (.long x)))
    (k : G K (pc + 2) L (.long x :: st) P) : G K pc L st P := fun H locs ls hP hL => lv_lload C.x C.b hd (hL.2.2 _ _ hl) (k H locs ls hP hL)
theorem g_lstore_n (C : Cb K cc own nL d) {n : Fin 4} {i : Nat} {x : Int64} {L' : List (Option Value)} (hd : decode cc pc = .ok (.lstore_n n, 1)) (hi : (n : Nat) = i) (hn : i + 1 < L.length) (hL' : st2 L i (.long x) = L')
    (k : G K (pc + 1) L' st P) : G K pc L (.long x :: st) P := fun H locs ls hP hL => lv_lstore_n C.x C.b hd hi hL.has hn rfl (fun ls' h' => k H locs ls' hP (hL' ▸ LX.s2 hn h'))
theorem g_lstore (C : Cb K cc own nL d) {i : Nat} {x : Int64} {L' : List (Option Value)} (hd : decode cc pc = .ok (.lstore i, 2)) (hn : i + 1 < L.length) (hL' : st2 L i (.long x) = L')
    (k : G K (pc + 2) L' st P) : G K pc L (.long x :: st) P := fun H locs ls hP hL => lv_lstore C.x C.b hd hL.has hn rfl (fun ls' h' => k H locs ls' hP (hL' ▸ LX.s2 hn h'))
theorem g_aload_n (C : Cb K cc own nL d) {n : Fin 4} {i : Nat} {x : Nat} (hd : decode cc pc = .ok (.aload_n n, 1)) (hi : (n : Nat) = i) (hl : L[i]? = some (some (.ref x)))
    (k : G K (pc + 1) L (.ref x :: st) P) : G K pc L st P := fun H locs ls hP hL => lv_aload_n C.x C.b hd hi (hL.2.2 _ _ hl) (k H locs ls hP hL)
theorem g_aload (C : Cb K cc own nL d) {i : Nat} {x : Nat} (hd : decode cc pc = .ok (.aload i, 2)) (hl : L[i]? = some (some (.ref x)))
    (k : G K (pc + 2) L (.ref x :: st) P) : G K pc L st P := fun H locs ls hP hL => lv_aload C.x C.b hd (hL.2.2 _ _ hl) (k H locs ls hP hL)
theorem g_astore_n (C : Cb K cc own nL d) {n : Fin 4} {i : Nat} {x : Nat} {L' : List (Option Value)} (hd : decode cc pc = .ok (.astore_n n, 1)) (hi : (n : Nat) = i) (hn : i < L.length) (hL' : st1 L i (.ref x) = L')
    (k : G K (pc + 1) L' st P) : G K pc L (.ref x :: st) P := fun H locs ls hP hL => lv_astore_n C.x C.b hd hi hL.has hn rfl (fun ls' h' => k H locs ls' hP (hL' ▸ LX.s1 hn h'))
theorem g_astore (C : Cb K cc own nL d) {i : Nat} {x : Nat} {L' : List (Option Value)} (hd : decode cc pc = .ok (.astore i, 2)) (hn : i < L.length) (hL' : st1 L i (.ref x) = L')
    (k : G K (pc + 2) L' st P) : G K pc L (.ref x :: st) P := fun H locs ls hP hL => lv_astore C.x C.b hd hL.has hn rfl (fun ls' h' => k H locs ls' hP (hL' ▸ LX.s1 hn h'))
theorem g_iinc (C : Cb K cc own nL d) {i : Nat} {n : Int} {x y : Int32} {L' : List (Option Value)} (hd : decode cc pc = .ok (.iinc i n, 3)) (hl : L[i]? = some (some (.int x))) (hy : Int32.ofInt n = y) (hn : i < L.length) (hL' : st1 L i (.int (x + y)) = L')
    (k : G K (pc + 3) L' st P) : G K pc L st P := fun H locs ls hP hL => by
  obtain ⟨j, hj⟩ := List.getElem?_of_mem ((prs_iff (q := (i, .int x))).mpr hl)
  exact lv_iinc C.x C.b hd hL.has hj (by rw [hy]) hn rfl (fun ls' h' => k H locs ls' hP (hL' ▸ LX.s1 hn h'))
theorem g_iadd (C : Cb K cc own nL d) {x y : Int32} (hd : decode cc pc = .ok (.iadd, 1))
    (k : G K (pc + 1) L (.int (x + y) :: st) P) : G K pc L (.int y :: .int x :: st) P := fun H locs ls hP hL => lv_iadd C.x C.b hd (k H locs ls hP hL)
theorem g_isub (C : Cb K cc own nL d) {x y : Int32} (hd : decode cc pc = .ok (.isub, 1))
    (k : G K (pc + 1) L (.int (x - y) :: st) P) : G K pc L (.int y :: .int x :: st) P := fun H locs ls hP hL => lv_isub C.x C.b hd (k H locs ls hP hL)
theorem g_imul (C : Cb K cc own nL d) {x y : Int32} (hd : decode cc pc = .ok (.imul, 1))
    (k : G K (pc + 1) L (.int (x * y) :: st) P) : G K pc L (.int y :: .int x :: st) P := fun H locs ls hP hL => lv_imul C.x C.b hd (k H locs ls hP hL)
theorem g_iand (C : Cb K cc own nL d) {x y : Int32} (hd : decode cc pc = .ok (.iand, 1))
    (k : G K (pc + 1) L (.int (x &&& y) :: st) P) : G K pc L (.int y :: .int x :: st) P := fun H locs ls hP hL => lv_iand C.x C.b hd (k H locs ls hP hL)
theorem g_idiv (C : Cb K cc own nL d) {x y : Int32} (hd : decode cc pc = .ok (.idiv, 1)) (hne : ¬ y = 0)
    (k : G K (pc + 1) L (.int (x / y) :: st) P) : G K pc L (.int y :: .int x :: st) P := fun H locs ls hP hL => lv_idiv C.x C.b hd hne (k H locs ls hP hL)
theorem g_irem (C : Cb K cc own nL d) {x y : Int32} (hd : decode cc pc = .ok (.irem, 1)) (hne : ¬ y = 0)
    (k : G K (pc + 1) L (.int (x - x / y * y) :: st) P) : G K pc L (.int y :: .int x :: st) P := fun H locs ls hP hL => lv_irem C.x C.b hd hne (k H locs ls hP hL)
theorem g_ineg (C : Cb K cc own nL d) {x : Int32} (hd : decode cc pc = .ok (.ineg, 1))
    (k : G K (pc + 1) L (.int (-x) :: st) P) : G K pc L (.int x :: st) P := fun H locs ls hP hL => lv_ineg C.x C.b hd (k H locs ls hP hL)
theorem g_ladd (C : Cb K cc own nL d) {x y : Int64} (hd : decode cc pc = .ok (.ladd, 1))
    (k : G K (pc + 1) L (.long (x + y) :: st) P) : G K pc L (.long y :: .long x :: st) P := fun H locs ls hP hL => lv_ladd C.x C.b hd (k H locs ls hP hL)
theorem g_lsub (C : Cb K cc own nL d) {x y : Int64} (hd : decode cc pc = .ok (.lsub, 1))
    (k : G K (pc + 1) L (.long (x - y) :: st) P) : G K pc L (.long y :: .long x :: st) P := fun H locs ls hP hL => lv_lsub C.x C.b hd (k H locs ls hP hL)
theorem g_lmul (C : Cb K cc own nL d) {x y : Int64} (hd : decode cc pc = .ok (.lmul, 1))
    (k : G K (pc + 1) L (.long (x * y) :: st) P) : G K pc L (.long y :: .long x :: st) P := fun H locs ls hP hL => lv_lmul C.x C.b hd (k H locs ls hP hL)
theorem g_land (C : Cb K cc own nL d) {x y : Int64} (hd : decode cc pc = .ok (.land, 1))
    (k : G K (pc + 1) L (.long (x &&& y) :: st) P) : G K pc L (.long y :: .long x :: st) P := fun H locs ls hP hL => lv_land C.x C.b hd (k H locs ls hP hL)
theorem g_lor (C : Cb K cc own nL d) {x y : Int64} (hd : decode cc pc = .ok (.lor, 1))
    (k : G K (pc + 1) L (.long (x ||| y) :: st) P) : G K pc L (.long y :: .long x :: st) P := fun H locs ls hP hL => lv_lor C.x C.b hd (k H locs ls hP hL)
theorem g_ldiv (C : Cb K cc own nL d) {x y : Int64} (hd : decode cc pc = .ok (.ldiv, 1)) (hne : ¬ y = 0)
    (k : G K (pc + 1) L (.long (x / y) :: st) P) : G K pc L (.long y :: .long x :: st) P := fun H locs ls hP hL => lv_ldiv C.x C.b hd hne (k H locs ls hP hL)
theorem g_lrem (C : Cb K cc own nL d) {x y : Int64} (hd : decode cc pc = .ok (.lrem, 1)) (hne : ¬ y = 0)
    (k : G K (pc + 1) L (.long (x - x / y * y) :: st) P) : G K pc L (.long y :: .long x :: st) P := fun H locs ls hP hL => lv_lrem C.x C.b hd hne (k H locs ls hP hL)
def lushr (x : Int64) (y : Int32) : Int64 := (x.toUInt64 >>> (y.toInt64.toUInt64 &&& Int64.toUInt64 63)).toInt64
def lshl (x : Int64) (y : Int32) : Int64 := x <<< (y.toInt64 &&& 63)
theorem g_lushr (C : Cb K cc own nL d) {x : Int64} {y : Int32} (hd : decode cc pc = .ok (.lushr, 1))
    (k : G K (pc + 1) L (.long (lushr x y) :: st) P) : G K pc L (.int y :: .long x :: st) P := fun H locs ls hP hL => lv_lushr C.x C.b hd rfl (k H locs ls hP hL)
theorem g_lshl (C : Cb K cc own nL d) {x : Int64} {y : Int32} (hd : decode cc pc = .ok (.lshl, 1))
    (k : G K (pc + 1) L (.long (lshl x y) :: st) P) : G K pc L (.int y :: .long x :: st) P := fun H locs ls hP hL => lv_lshl C.x C.b hd rfl (k H locs ls hP hL)
theorem g_i2l (C : Cb K cc own nL d) {x : Int32} (hd : decode cc pc = .ok (.i2l, 1))
    (k : G K (pc + 1) L (.long x.toInt64 :: st) P) : G K pc L (.int x :: st) P := fun H locs ls hP hL => lv_i2l C.x C.b hd rfl (k H locs ls hP hL)
theorem g_l2i (C : Cb K cc own nL d) {x : Int64} (hd : decode cc pc = .ok (.l2i, 1))
    (k : G K (pc + 1) L (.int x.toInt32 :: st) P) : G K pc L (.long x :: st) P := fun H locs ls hP hL => lv_l2i C.x C.b hd rfl (k H locs ls hP hL)
theorem g_lcmp (C : Cb K cc own nL d) {x y : Int64} (hd : decode cc pc = .ok (.lcmp, 1))
    (k : G K (pc + 1) L (.int (lg_cmp x y) :: st) P) : G K pc L (.long y :: .long x :: st) P := fun H locs ls hP hL => W.lcmp C.x C.b hd (k H locs ls hP hL)
theorem g_dup (C : Cb K cc own nL d) {v : Value} (hd : decode cc pc = .ok (.dup, 1)) (hv : v.category = 1)
    (k : G K (pc + 1) L (v :: v :: st) P) : G K pc L (v :: st) P := fun H locs ls hP hL => lv_dup C.x C.b hd hv (k H locs ls hP hL)
theorem g_dup2 (C : Cb K cc own nL d) {u v : Value} (hd : decode cc pc = .ok (.dup2, 1)) (hu : u.category = 1) (hv : v.category = 1)
    (k : G K (pc + 1) L (u :: v :: u :: v :: st) P) : G K pc L (u :: v :: st) P := fun H locs ls hP hL => lv_dup2_11 C.x C.b hd hu hv (k H locs ls hP hL)
theorem g_pop (C : Cb K cc own nL d) {v : Value} (hd : decode cc pc = .ok (.pop, 1)) (hv : v.category = 1)
    (k : G K (pc + 1) L st P) : G K pc L (v :: st) P := fun H locs ls hP hL => lv_pop C.x C.b hd hv (k H locs ls hP hL)
theorem g_if_eq (C : Cb K cc own nL d) {x : Int32} {off : Int} {tgt : Nat} (hd : decode cc pc = .ok (.ifCond .eq off, 3)) (ht : (pc : Int) + off = (tgt : Int))
    (kt : x = 0 → G K tgt L st P) (kf : ¬ x = 0 → G K (pc + 3) L st P) : G K pc L (.int x :: st) P := fun H locs ls hP hL => lv_if_eq C.x C.b hd ht (fun q => kt q H locs ls hP hL) (fun q => kf q H locs ls hP hL)
theorem g_if_ne (C : Cb K cc own nL d) {x : Int32} {off : Int} {tgt : Nat} (hd : decode cc pc = .ok (.ifCond .ne off, 3)) (ht : (pc : Int) + off = (tgt : Int))
    (kt : ¬ x = 0 → G K tgt L st P) (kf : x = 0 → G K (pc + 3) L st P) : G K pc L (.int x :: st) P := fun H locs ls hP hL => lv_if_ne C.x C.b hd ht (fun q => kt q H locs ls hP hL) (fun q => kf q H locs ls hP hL)
theorem g_if_lt (C : Cb K cc own nL d) {x : Int32} {off : Int} {tgt : Nat} (hd : decode cc pc = .ok (.ifCond .lt off, 3)) (ht : (pc : Int) + off = (tgt : Int))
    (kt : x < 0 → G K tgt L st P) (kf : ¬ x < 0 → G K (pc + 3) L st P) : G K pc L (.int x :: st) P := fun H locs ls hP hL => lv_if_lt C.x C.b hd ht (fun q => kt q H locs ls hP hL) (fun q => kf q H locs ls hP hL)
theorem g_if_ge (C : Cb K cc own nL d) {x : Int32} {off : Int} {tgt : Nat} (hd : decode cc pc = .ok (.ifCond .ge off, 3)) (ht : (pc : Int) + off = (tgt : Int))
    (kt : 0 ≤ x → G K tgt L st P) (kf : ¬ 0 ≤ x → G K (pc + 3) L st P) : G K pc L (.int x :: st) P := fun H locs ls hP hL => lv_if_ge C.x C.b hd ht (fun q => kt q H locs ls hP hL) (fun q => kf q H locs ls hP hL)
theorem g_if_gt (C : Cb K cc own nL d) {x : Int32} {off : Int} {tgt : Nat} (hd : decode cc pc = .ok (.ifCond .gt off, 3)) (ht : (pc : Int) + off = (tgt : Int))
    (kt : 0 < x → G K tgt L st P) (kf : ¬ 0 < x → G K (pc + 3) L st P) : G K pc L (.int x :: st) P := fun H locs ls hP hL => lv_if_gt C.x C.b hd ht (fun q => kt q H locs ls hP hL) (fun q => kf q H locs ls hP hL)
theorem g_if_le (C : Cb K cc own nL d) {x : Int32} {off : Int} {tgt : Nat} (hd : decode cc pc = .ok (.ifCond .le off, 3)) (ht : (pc : Int) + off = (tgt : Int))
    (kt : x ≤ 0 → G K tgt L st P) (kf : ¬ x ≤ 0 → G K (pc + 3) L st P) : G K pc L (.int x :: st) P := fun H locs ls hP hL => lv_if_le C.x C.b hd ht (fun q => kt q H locs ls hP hL) (fun q => kf q H locs ls hP hL)
theorem g_icmp_eq (C : Cb K cc own nL d) {x y : Int32} {off : Int} {tgt : Nat} (hd : decode cc pc = .ok (.if_icmp .eq off, 3)) (ht : (pc : Int) + off = (tgt : Int))
    (kt : x = y → G K tgt L st P) (kf : ¬ x = y → G K (pc + 3) L st P) : G K pc L (.int y :: .int x :: st) P := fun H locs ls hP hL => lv_icmp_eq C.x C.b hd ht (fun q => kt q H locs ls hP hL) (fun q => kf q H locs ls hP hL)
theorem g_icmp_ne (C : Cb K cc own nL d) {x y : Int32} {off : Int} {tgt : Nat} (hd : decode cc pc = .ok (.if_icmp .ne off, 3)) (ht : (pc : Int) + off = (tgt : Int))
    (kt : ¬ x = y → G K tgt L st P) (kf : x = y → G K (pc + 3) L st P) : G K pc L (.int y :: .int x :: st) P := fun H locs ls hP hL => lv_icmp_ne C.x C.b hd ht (fun q => kt q H locs ls hP hL) (fun q => kf q H locs ls hP hL)
theorem g_icmp_lt (C : Cb K cc own nL d) {x y : Int32} {off : Int} {tgt : Nat} (hd : decode cc pc = .ok (.if_icmp .lt off, 3)) (ht : (pc : Int) + off = (tgt : Int))
    (kt : x < y → G K tgt L st P) (kf : ¬ x < y → G K (pc + 3) L st P) : G K pc L (.int y :: .int x :: st) P := fun H locs ls hP hL => lv_icmp_lt C.x C.b hd ht (fun q => kt q H locs ls hP hL) (fun q => kf q H locs ls hP hL)
theorem g_icmp_ge (C : Cb K cc own nL d) {x y : Int32} {off : Int} {tgt : Nat} (hd : decode cc pc = .ok (.if_icmp .ge off, 3)) (ht : (pc : Int) + off = (tgt : Int))
    (kt : y ≤ x → G K tgt L st P) (kf : ¬ y ≤ x → G K (pc + 3) L st P) : G K pc L (.int y :: .int x :: st) P := fun H locs ls hP hL => lv_icmp_ge C.x C.b hd ht (fun q => kt q H locs ls hP hL) (fun q => kf q H locs ls hP hL)
theorem g_icmp_gt (C : Cb K cc own nL d) {x y : Int32} {off : Int} {tgt : Nat} (hd : decode cc pc = .ok (.if_icmp .gt off, 3)) (ht : (pc : Int) + off = (tgt : Int))
    (kt : y < x → G K tgt L st P) (kf : ¬ y < x → G K (pc + 3) L st P) : G K pc L (.int y :: .int x :: st) P := fun H locs ls hP hL => lv_icmp_gt C.x C.b hd ht (fun q => kt q H locs ls hP hL) (fun q => kf q H locs ls hP hL)
theorem g_icmp_le (C : Cb K cc own nL d) {x y : Int32} {off : Int} {tgt : Nat} (hd : decode cc pc = .ok (.if_icmp .le off, 3)) (ht : (pc : Int) + off = (tgt : Int))
    (kt : x ≤ y → G K tgt L st P) (kf : ¬ x ≤ y → G K (pc + 3) L st P) : G K pc L (.int y :: .int x :: st) P := fun H locs ls hP hL => lv_icmp_le C.x C.b hd ht (fun q => kt q H locs ls hP hL) (fun q => kf q H locs ls hP hL)
theorem g_goto (C : Cb K cc own nL d) {off : Int} {tgt : Nat} (hd : decode cc pc = .ok (.goto off, 3)) (ht : (pc : Int) + off = (tgt : Int)) (k : G K tgt L st P) : G K pc L st P := fun H locs ls hP hL => lv_goto C.x C.b hd ht (k H locs ls hP hL)
theorem g_tableIn (C : Cb K cc own nL d) {dflt lo hi : Int} {offs : Array Int} {len : Nat} {x : Int32} {off : Int} {tgt : Nat} (hd : decode cc pc = .ok (.tableswitch dflt lo hi offs, len)) (h1 : ¬ x.toInt < lo) (h2 : ¬ hi < x.toInt) (ho : offs[(x.toInt - lo).toNat]? = some off) (ht : (pc : Int) + off = (tgt : Int))
    (k : G K tgt L st P) : G K pc L (.int x :: st) P := fun H locs ls hP hL => lv_tableIn C.x C.b hd h1 h2 ho ht (k H locs ls hP hL)
theorem g_tableOut (C : Cb K cc own nL d) {dflt lo hi : Int} {offs : Array Int} {len : Nat} {x : Int32} {tgt : Nat} (hd : decode cc pc = .ok (.tableswitch dflt lo hi offs, len)) (h : x.toInt < lo ∨ hi < x.toInt) (ht : (pc : Int) + dflt = (tgt : Int))
    (k : G K tgt L st P) : G K pc L (.int x :: st) P := fun H locs ls hP hL => lv_tableOut C.x C.b hd h ht (k H locs ls hP hL)
theorem g_lookup (C : Cb K cc own nL d) {dflt : Int} {ps : Array (Int × Int)} {len : Nat} {x : Int32} {off : Int} {tgt : Nat} (hd : decode cc pc = .ok (.lookupswitch dflt ps, len)) (hp : (ps.toList.zip (ps.toList.drop 1)).all (fun (a, next) => a.1 < next.1) = true) (ho : Op.lookupswitch.offset ps.toList dflt x.toInt = off) (ht : (pc : Int) + off = (tgt : Int))
    (k : G K tgt L st P) : G K pc L (.int x :: st) P := fun H locs ls hP hL => lv_lookup C.x C.b hd hp ho ht (k H locs ls hP hL)
theorem g_ldc (C : Cb K cc own nL d) {index : Nat} {v : Int32} (hw : Cond.constant own index v ∈ AL) (hd : decode cc pc = .ok (.ldc index, 2)) (k : G K (pc + 2) L (.int v :: st) P) : G K pc L st P := fun H locs ls hP hL => lv_ldc C.x C.b C.o (C.t hw) hd (k H locs ls hP hL)
theorem g_ldcw (C : Cb K cc own nL d) {index : Nat} {v : Int32} (hw : Cond.constant own index v ∈ AL) (hd : decode cc pc = .ok (.ldc_w index, 3)) (k : G K (pc + 3) L (.int v :: st) P) : G K pc L st P := fun H locs ls hP hL => lv_ldcw C.x C.b C.o (C.t hw) hd (k H locs ls hP hL)
theorem g_ldc2 (C : Cb K cc own nL d) {index : Nat} {v : Int64} (hw : Cond.constantLong own index v ∈ AL) (hd : decode cc pc = .ok (.ldc2_w index, 3)) (k : G K (pc + 3) L (.long v :: st) P) : G K pc L st P := fun H locs ls hP hL => lv_ldc2 C.x C.b C.o (C.t hw) hd (k H locs ls hP hL)
end GI
end
section
/-! ===== reads, writes, calls, returns over a world of shapes ===== -/
def Aof (ad : Nat → Nat) (N sz : Nat) : Nat → Prop := fun q => (∃ i, i < N ∧ q = ad i) ∨ sz ≤ q
def stL (l : List Int32) (j : Nat) : Int32 := l.getD j 0
def Ev (A : Nat → Prop) (U : State) : Prop := (∀ w ∈ NW, va_Nw w U) ∧
  (∃ t, va_Z "IceForCoast$Coins" "LEAST" "[I" (.ref t) A U U.heap ∧ va_T .int t 3 (fun j => .int (stL [1, 0, 0] j)) A U U.heap) ∧
  (∃ t, va_Z "IceForCoast$Coins" "MOST" "[I" (.ref t) A U U.heap ∧ va_T .int t 3 (fun j => .int (stL [9, 9, 99] j)) A U U.heap)
def Cx (K : KT) (Y : List Sh) (cc : ByteArray) (own : String) (nL d : Nat) (ret : Option FieldType) : Prop :=
  Cb K cc own nL d ∧ (kmeth K).sig.returnType = ret ∧ va_K (kD K) vwCl (tysOf (kcy K)) (ks K) ∧ (∀ i j, i < Y.length → j < Y.length → kad K i = kad K j → i = j) ∧ kA K = Aof (kad K) Y.length (ks K).heap.size ∧ Ev (kA K) (ks K)
def Wd (K : KT) (Y : List Sh) (σ : Sg) : Heap → List Loc → Prop := fun H locs => va_P (kD K) vwCl (wd (kcy K) (kad K) σ 0 Y) H ∧ va_S (kA K) (ks K).heap H locs
section GC
variable {K : KT} {Y : List Sh} {cc : ByteArray} {own : String} {nL d : Nat} {ret : Option FieldType}
theorem Cx.c (C : Cx K Y cc own nL d ret) : Cb K cc own nL d := C.1
theorem Cx.r (C : Cx K Y cc own nL d ret) : (kmeth K).sig.returnType = ret := C.2.1
theorem Cx.k (C : Cx K Y cc own nL d ret) : va_K (kD K) vwCl (tysOf (kcy K)) (ks K) := C.2.2.1
theorem Cx.i (C : Cx K Y cc own nL d ret) : ∀ i j, i < Y.length → j < Y.length → kad K i = kad K j → i = j := C.2.2.2.1
theorem Cx.a (C : Cx K Y cc own nL d ret) : kA K = Aof (kad K) Y.length (ks K).heap.size := C.2.2.2.2.1
theorem Cx.e (C : Cx K Y cc own nL d ret) : Ev (kA K) (ks K) := C.2.2.2.2.2
theorem Cx.in (C : Cx K Y cc own nL d ret) : ∀ i, i < Y.length → kA K (kad K i) := fun i h => by rw [C.a]; exact Or.inl ⟨i, h, rfl⟩
theorem Cx.D (C : Cx K Y cc own nL d ret) (σ : Sg) : va_D (kA K) (wd (kcy K) (kad K) σ 0 Y) := wd_D C.i C.in
theorem Cx.nest (C : Cx K Y cc own nL d ret) {w : Cond} (h : w ∈ NW) (ho : w.onTables = true) : w.before (ka K) (ks K) = true := va_Nw.use ho (C.e.1 w h)
end GC
/-- a field, by its link or by the nest -/
def FL (own : String) (index : Nat) (C n d : String) : Prop := (Cond.fieldLink own index C n d ∈ AL) ∨ ∃ host, Cond.fieldLinkNest own index C n d host ∈ NW
section GH
variable {K : KT} {Y : List Sh} {cc : ByteArray} {own : String} {nL d : Nat} {ret : Option FieldType} {pc : Nat} {L : List (Option Value)} {st : List Value} {σ : Sg}
theorem g_get (C : Cx K Y cc own nL d ret) {o ci k index N : Nat} {C0 : String} {T : u_T} {sl : List (Nat × Nat)} {s : Nat × Nat} (hd : decode cc pc = .ok (.getfield index, 3)) (hY : Y[o]? = some (0, ci, sl)) (hs : sl[k]? = some s) (hc : vwCl[ci]? = some (C0, T, N)) (hk : k < N) (hl : FL own index (T k).1 (T k).2.1 (T k).2.2.1) (hin : ∀ w ∈ u_ws C0 T N, w ∈ AL)
    {v : Value} (hv : slotV (kad K) σ o k s = v) (kk : G K (pc + 3) L (v :: st) (Wd K Y σ)) : G K pc L (.ref (kad K o) :: st) (Wd K Y σ) := fun H locs ls hP hL => by
  subst hv
  have he : (wd (kcy K) (kad K) σ 0 Y)[o]? = some (kad K o, .inr (ci, slv (kad K) σ o 0 sl)) := wd_at hY
  have hv : (slv (kad K) σ o 0 sl)[k]? = some (slotV (kad K) σ o k s) := by rw [slv_get, hs, Nat.zero_add]; rfl
  rcases hl with hl | ⟨host, hl⟩
  · exact va_get C.c.x C.c.b C.c.fix.2.2.2.2 hin C.c.o C.k hP.1 o he hc k hk (C.c.t hl) (fun _ h => h) hv hd (kk H locs ls hP hL)
  · exact va_getN C.c.x C.c.b C.c.fix.2.2.2.2 hin C.c.o C.k hP.1 o he hc k hk (C.nest hl rfl) (fun _ h => h) hv hd (kk H locs ls hP hL)
theorem g_put0 (C : Cx K Y cc own nL d ret) {o ci k index N : Nat} {C0 : String} {T : u_T} {ty0 : Nat → FieldType} {sl : List (Nat × Nat)} {s : Nat × Nat} {v : Value} {σ' : Sg} (hd : decode cc pc = .ok (.putfield index, 3)) (hY : Y[o]? = some (0, ci, sl)) (hs : sl[k]? = some s) (hc : vwCl[ci]? = some (C0, T, N)) (hk : k < N) (hl : FL own index (T k).1 (T k).2.1 (T k).2.2.1) (hin : ∀ w ∈ u_ws C0 T N, w ∈ AL)
    (hty : ∀ k, k < N → parseFieldDescriptor (T k).2.2.1 = some (ty0 k)) (hnm : ∀ a, a < N → ∀ b, b < N → a ≠ b → (T a).2.1 ≠ (T b).2.1) (hfin : (T k).2.2.2 = false) (hn : narrow (ty0 k) v = v) (hf : fits (ty0 k) v = true)
    (h1 : ∀ q sh, q ≠ o → ent (kcy K) (kad K) σ' q sh = ent (kcy K) (kad K) σ q sh) (h2 : ∀ q t, q ≠ k → slotV (kad K) σ' o q t = slotV (kad K) σ o q t) (h3 : slotV (kad K) σ' o k s = v)
    (kk : G K (pc + 3) L st (Wd K Y σ')) : G K pc L (v :: .ref (kad K o) :: st) (Wd K Y σ) := fun H locs ls hP hL => by
  have he : (wd (kcy K) (kad K) σ 0 Y)[o]? = some (kad K o, .inr (ci, slv (kad K) σ o 0 sl)) := wd_at hY
  have hlen : k < (slv (kad K) σ o 0 sl).length := by rw [slv_len]; exact (List.getElem?_eq_some_iff.mp hs).1
  have hset : (slv (kad K) σ o 0 sl).set k v = slv (kad K) σ' o 0 sl := slv_set sl 0 k s hs (fun q t hq => h2 q t (by omega)) (by rw [Nat.zero_add]; exact h3)
  have hw : (wd (kcy K) (kad K) σ 0 Y).set o (kad K o, .inr (ci, (slv (kad K) σ o 0 sl).set k v)) = wd (kcy K) (kad K) σ' 0 Y := by
    have := wd_set (cys := kcy K) (ad := kad K) (σ := σ) (σ' := σ') (e := .inr (ci, slv (kad K) σ' o 0 sl)) Y 0 o _ hY (fun q t hq => h1 q t (by omega)) (by rw [Nat.zero_add]; rfl)
    rw [Nat.zero_add] at this
    rw [hset]
    exact this
  rcases hl with hl | ⟨host, hl⟩
  · exact va_put C.c.x C.c.b C.c.fix.2.2.2.2 hin ty0 hty hnm C.c.o C.k hP.1 (C.D σ) hP.2 o he hc k hk (C.c.t hl) (fun _ h => h) hfin (hty k hk) hn hf hlen hd (fun H1 locs1 q1 q2 q3 => kk H1 locs1 ls ⟨hw ▸ q1, q3⟩ hL)
  · exact va_putN C.c.x C.c.b C.c.fix.2.2.2.2 hin ty0 hty hnm C.c.o C.k hP.1 (C.D σ) hP.2 o he hc k hk (C.nest hl rfl) (fun _ h => h) hfin (hty k hk) hn hf hlen hd (fun H1 locs1 q1 q2 q3 => kk H1 locs1 ls ⟨hw ▸ q1, q3⟩ hL)
theorem slot_wI {ad : Nat → Nat} {o k : Nat} {v : Int32} {σ : Sg} (q : Nat) (t : Nat × Nat) (h : q ≠ k) : slotV ad (wI σ o k v) o q t = slotV ad σ o q t := by
  unfold slotV
  split
  · simp [rI, wI, h]
  · rfl
  · rfl
  · rfl
  · rfl
theorem slot_wJ {ad : Nat → Nat} {o k : Nat} {v : Int64} {σ : Sg} (q : Nat) (t : Nat × Nat) (h : q ≠ k) : slotV ad (wJ σ o k v) o q t = slotV ad σ o q t := by
  unfold slotV
  split
  · rfl
  · simp [rJ, wJ, h]
  · rfl
  · rfl
  · rfl
theorem slot_wR {ad : Nat → Nat} {o k v : Nat} {σ : Sg} (q : Nat) (t : Nat × Nat) (h : q ≠ k) : slotV ad (wR σ o k v) o q t = slotV ad σ o q t := by
  unfold slotV
  split
  · rfl
  · rfl
  · rfl
  · simp [rR, wR, h]
  · rfl
theorem g_putI (C : Cx K Y cc own nL d ret) {o ci k index N z : Nat} {C0 : String} {T : u_T} {ty0 : Nat → FieldType} {sl : List (Nat × Nat)} {v : Int32} (hd : decode cc pc = .ok (.putfield index, 3)) (hY : Y[o]? = some (0, ci, sl)) (hs : sl[k]? = some (0, z)) (hc : vwCl[ci]? = some (C0, T, N)) (hk : k < N) (hl : FL own index (T k).1 (T k).2.1 (T k).2.2.1) (hin : ∀ w ∈ u_ws C0 T N, w ∈ AL)
    (hty : ∀ k, k < N → parseFieldDescriptor (T k).2.2.1 = some (ty0 k)) (hnm : ∀ a, a < N → ∀ b, b < N → a ≠ b → (T a).2.1 ≠ (T b).2.1) (hfin : (T k).2.2.2 = false) (hn : narrow (ty0 k) (.int v) = .int v) (hf : fits (ty0 k) (.int v) = true)
    (kk : G K (pc + 3) L st (Wd K Y (wI σ o k v))) : G K pc L (.int v :: .ref (kad K o) :: st) (Wd K Y σ) :=
  g_put0 C hd hY hs hc hk hl hin hty hnm hfin hn hf (fun q sh h => ent_wI q sh h) (fun q t h => slot_wI q t h) (by simp [slotV, rI, wI]) kk
theorem g_putJ (C : Cx K Y cc own nL d ret) {o ci k index N z : Nat} {C0 : String} {T : u_T} {ty0 : Nat → FieldType} {sl : List (Nat × Nat)} {v : Int64} (hd : decode cc pc = .ok (.putfield index, 3)) (hY : Y[o]? = some (0, ci, sl)) (hs : sl[k]? = some (1, z)) (hc : vwCl[ci]? = some (C0, T, N)) (hk : k < N) (hl : FL own index (T k).1 (T k).2.1 (T k).2.2.1) (hin : ∀ w ∈ u_ws C0 T N, w ∈ AL)
    (hty : ∀ k, k < N → parseFieldDescriptor (T k).2.2.1 = some (ty0 k)) (hnm : ∀ a, a < N → ∀ b, b < N → a ≠ b → (T a).2.1 ≠ (T b).2.1) (hfin : (T k).2.2.2 = false) (hn : narrow (ty0 k) (.long v) = .long v) (hf : fits (ty0 k) (.long v) = true)
    (kk : G K (pc + 3) L st (Wd K Y (wJ σ o k v))) : G K pc L (.long v :: .ref (kad K o) :: st) (Wd K Y σ) :=
  g_put0 C hd hY hs hc hk hl hin hty hnm hfin hn hf (fun q sh h => ent_wJ q sh h) (fun q t h => slot_wJ q t h) (by simp [slotV, rJ, wJ]) kk
theorem g_putR (C : Cx K Y cc own nL d ret) {o ci k index N z v : Nat} {C0 : String} {T : u_T} {ty0 : Nat → FieldType} {sl : List (Nat × Nat)} (hd : decode cc pc = .ok (.putfield index, 3)) (hY : Y[o]? = some (0, ci, sl)) (hs : sl[k]? = some (3, z)) (hc : vwCl[ci]? = some (C0, T, N)) (hk : k < N) (hl : FL own index (T k).1 (T k).2.1 (T k).2.2.1) (hin : ∀ w ∈ u_ws C0 T N, w ∈ AL)
    (hty : ∀ k, k < N → parseFieldDescriptor (T k).2.2.1 = some (ty0 k)) (hnm : ∀ a, a < N → ∀ b, b < N → a ≠ b → (T a).2.1 ≠ (T b).2.1) (hfin : (T k).2.2.2 = false) (hn : ∀ a, narrow (ty0 k) (.ref a) = .ref a) (hf : ∀ a, fits (ty0 k) (.ref a) = true)
    (kk : G K (pc + 3) L st (Wd K Y (wR σ o k v))) : G K pc L (.ref (kad K v) :: .ref (kad K o) :: st) (Wd K Y σ) :=
  g_put0 C hd hY hs hc hk hl hin hty hnm hfin (hn _) (hf _) (fun q sh h => ent_wR q sh h) (fun q t h => slot_wR q t h) (by simp [slotV, rR, wR]) kk
theorem g_iald (C : Cx K Y cc own nL d ret) {o n : Nat} {z : List (Nat × Nat)} {i : Int32} (hd : decode cc pc = .ok (.iaload, 1)) (hY : Y[o]? = some (1, n, z)) (hi : inb i n = true)
    (kk : G K (pc + 1) L (.int (rI σ o i.toNatClampNeg) :: st) (Wd K Y σ)) : G K pc L (.int i :: .ref (kad K o) :: st) (Wd K Y σ) := fun H locs ls hP hL => by
  have he : (wd (kcy K) (kad K) σ 0 Y)[o]? = some (kad K o, .inl (kcy K 0, n, .inl (rI σ o))) := wd_at hY
  exact va_iald C.c.x C.c.b C.k hP.1 o 0 he rfl (inb_in hi) hd (kk H locs ls hP hL)
theorem g_zald (C : Cx K Y cc own nL d ret) {o n : Nat} {z : List (Nat × Nat)} {i : Int32} (hd : decode cc pc = .ok (.baload, 1)) (hY : Y[o]? = some (3, n, z)) (hi : inb i n = true)
    (kk : G K (pc + 1) L (.int (rI σ o i.toNatClampNeg) :: st) (Wd K Y σ)) : G K pc L (.int i :: .ref (kad K o) :: st) (Wd K Y σ) := fun H locs ls hP hL => by
  have he : (wd (kcy K) (kad K) σ 0 Y)[o]? = some (kad K o, .inl (kcy K 2, n, .inl (rI σ o))) := wd_at hY
  exact va_zald C.c.x C.c.b C.k hP.1 o 2 he rfl (inb_in hi) hd (kk H locs ls hP hL)
theorem g_lald (C : Cx K Y cc own nL d ret) {o n : Nat} {z : List (Nat × Nat)} {i : Int32} (hd : decode cc pc = .ok (.laload, 1)) (hY : Y[o]? = some (2, n, z)) (hi : inb i n = true)
    (kk : G K (pc + 1) L (.long (rJ σ o i.toNatClampNeg) :: st) (Wd K Y σ)) : G K pc L (.int i :: .ref (kad K o) :: st) (Wd K Y σ) := fun H locs ls hP hL => by
  have he : (wd (kcy K) (kad K) σ 0 Y)[o]? = some (kad K o, .inl (kcy K 1, n, .inr (.inl (rJ σ o)))) := wd_at hY
  exact va_lald C.c.x C.c.b C.k hP.1 o 1 he rfl (inb_in hi) hd (kk H locs ls hP hL)
theorem g_aald4 (C : Cx K Y cc own nL d ret) {o n b : Nat} {z : List (Nat × Nat)} {i : Int32} (hd : decode cc pc = .ok (.aaload, 1)) (hY : Y[o]? = some (4, n, z)) (hi : inb i n = true) (hb : o + (z.headD (0, 0)).1 = b) (hm : (z.headD (0, 0)).2 = n)
    (kk : G K (pc + 1) L (.ref (kad K (b + i.toNatClampNeg)) :: st) (Wd K Y σ)) : G K pc L (.int i :: .ref (kad K o) :: st) (Wd K Y σ) := fun H locs ls hP hL => by
  subst hb
  have he : (wd (kcy K) (kad K) σ 0 Y)[o]? = some (kad K o, .inl (kcy K 3, n, .inr (.inr (.inr (.inr (fun j => if j < (z.headD (0, 0)).2 then some (kad K (o + (z.headD (0, 0)).1 + j)) else none)))))) := wd_at hY
  obtain ⟨f, hf⟩ : ∃ f : Nat → Option Nat, f = (fun j => if j < (z.headD (0, 0)).2 then some (kad K (o + (z.headD (0, 0)).1 + j)) else none) := ⟨_, rfl⟩
  rw [← hf] at he
  have hv : f i.toNatClampNeg = some (kad K (o + (z.headD (0, 0)).1 + i.toNatClampNeg)) := by rw [hf]; exact if_pos (by rw [hm]; exact inb_lt hi)
  refine va_aldq C.c.x C.c.b C.k hP.1 o 3 he rfl (inb_in hi) hd ?_
  rw [hv]
  exact kk H locs ls hP hL
theorem g_aald5 (C : Cx K Y cc own nL d ret) {o n b : Nat} {z : List (Nat × Nat)} {i : Int32} (hd : decode cc pc = .ok (.aaload, 1)) (hY : Y[o]? = some (5, n, z)) (hi : inb i n = true) (hb : o + (z.headD (0, 0)).1 = b) (hm : (z.headD (0, 0)).2 = n)
    (kk : G K (pc + 1) L (.ref (kad K (b + i.toNatClampNeg)) :: st) (Wd K Y σ)) : G K pc L (.int i :: .ref (kad K o) :: st) (Wd K Y σ) := fun H locs ls hP hL => by
  subst hb
  have he : (wd (kcy K) (kad K) σ 0 Y)[o]? = some (kad K o, .inl (kcy K 4, n, .inr (.inr (.inr (.inr (fun j => if j < (z.headD (0, 0)).2 then some (kad K (o + (z.headD (0, 0)).1 + j)) else none)))))) := wd_at hY
  obtain ⟨f, hf⟩ : ∃ f : Nat → Option Nat, f = (fun j => if j < (z.headD (0, 0)).2 then some (kad K (o + (z.headD (0, 0)).1 + j)) else none) := ⟨_, rfl⟩
  rw [← hf] at he
  have hv : f i.toNatClampNeg = some (kad K (o + (z.headD (0, 0)).1 + i.toNatClampNeg)) := by rw [hf]; exact if_pos (by rw [hm]; exact inb_lt hi)
  have hin := inb_in hi
  have hlt : i.toNatClampNeg < n := inb_lt hi
  have ht : (tysOf (kcy K))[4]? = some (kcy K 4, FieldType.array .int) := rfl
  refine W.aald (v := va_rf (f i.toNatClampNeg)) (ty := .array .int) C.c.x C.c.b (hP.1 o _ he) ((C.k.2 4 _ ht).1 n (fun j => va_rf (f j))) rfl (fun q => by cases q) (by show ¬ (i < 0 ∨ (arrV _ _ _).slots.size ≤ _); rw [arrV_size]; exact hin) (by show (arrV _ _ _).slots[_]? = _; rw [arrV_read _ _ hlt]) rfl rfl hd ?_
  rw [hv]
  exact kk H locs ls hP hL
theorem rI_upd {σ : Sg} {o k : Nat} {v : Int32} : rI (wI σ o k v) o = upd (rI σ o) k v := by
  funext j
  by_cases h : j = k
  · subst h; simp [rI, wI, upd]
  · simp [rI, wI, upd, h]
theorem rJ_upd {σ : Sg} {o k : Nat} {v : Int64} : rJ (wJ σ o k v) o = vp_updL (rJ σ o) k v := by
  funext j
  by_cases h : j = k
  · subst h; simp [rJ, wJ, vp_updL]
  · simp [rJ, wJ, vp_updL, h]
theorem wd_put {cys : Nat → ClassId} {ad : Nat → Nat} {σ σ' : Sg} {e : va_E} {o : Nat} {sh : Sh} (hY : Y[o]? = some sh) (h1 : ∀ q sh, q ≠ o → ent cys ad σ' q sh = ent cys ad σ q sh) (h2 : ent cys ad σ' o sh = e) : (wd cys ad σ 0 Y).set o (ad o, e) = wd cys ad σ' 0 Y := by
  have := wd_set (cys := cys) (ad := ad) (σ := σ) (σ' := σ') (e := e) Y 0 o _ hY (fun q t hq => h1 q t (by omega)) (by rw [Nat.zero_add]; exact h2)
  rw [Nat.zero_add] at this
  exact this
theorem g_iast (C : Cx K Y cc own nL d ret) {o n : Nat} {z : List (Nat × Nat)} {i x : Int32} (hd : decode cc pc = .ok (.iastore, 1)) (hY : Y[o]? = some (1, n, z)) (hi : inb i n = true)
    (kk : G K (pc + 1) L st (Wd K Y (wI σ o i.toNatClampNeg x))) : G K pc L (.int x :: .int i :: .ref (kad K o) :: st) (Wd K Y σ) := fun H locs ls hP hL => by
  have he : (wd (kcy K) (kad K) σ 0 Y)[o]? = some (kad K o, .inl (kcy K 0, n, .inl (rI σ o))) := wd_at hY
  have hw := wd_put (cys := kcy K) (ad := kad K) (σ := σ) (σ' := wI σ o i.toNatClampNeg x) (e := .inl (kcy K 0, n, .inl (upd (rI σ o) i.toNatClampNeg x))) hY (fun q sh h => ent_wI q sh h) (by show Sum.inl (kcy K 0, n, Sum.inl (rI _ o)) = _; rw [rI_upd])
  exact va_iast C.c.x C.c.b C.k hP.1 (C.D σ) hP.2 o 0 he rfl (inb_in hi) hd (fun H1 locs1 q1 q2 q3 => kk H1 locs1 ls ⟨hw ▸ q1, q3⟩ hL)
theorem isB_v {x : Int32} (h : isB x = true) : vp_nar .boolean x = x := by
  unfold isB at h
  rw [Bool.or_eq_true, decide_eq_true_eq, decide_eq_true_eq] at h
  rcases h with rfl | rfl <;> rfl
theorem g_zast (C : Cx K Y cc own nL d ret) {o n : Nat} {z : List (Nat × Nat)} {i x : Int32} (hd : decode cc pc = .ok (.bastore, 1)) (hY : Y[o]? = some (3, n, z)) (hi : inb i n = true) (hx : isB x = true)
    (kk : G K (pc + 1) L st (Wd K Y (wI σ o i.toNatClampNeg x))) : G K pc L (.int x :: .int i :: .ref (kad K o) :: st) (Wd K Y σ) := fun H locs ls hP hL => by
  have he : (wd (kcy K) (kad K) σ 0 Y)[o]? = some (kad K o, .inl (kcy K 2, n, .inl (rI σ o))) := wd_at hY
  have hw := wd_put (cys := kcy K) (ad := kad K) (σ := σ) (σ' := wI σ o i.toNatClampNeg x) (e := .inl (kcy K 2, n, .inl (upd (rI σ o) i.toNatClampNeg (vp_nar .boolean x)))) hY (fun q sh h => ent_wI q sh h) (by show Sum.inl (kcy K 2, n, Sum.inl (rI _ o)) = _; rw [rI_upd, isB_v hx])
  exact va_zast C.c.x C.c.b C.k hP.1 (C.D σ) hP.2 o 2 he rfl (inb_in hi) hd (fun H1 locs1 q1 q2 q3 => kk H1 locs1 ls ⟨hw ▸ q1, q3⟩ hL)
theorem g_last (C : Cx K Y cc own nL d ret) {o n : Nat} {z : List (Nat × Nat)} {i : Int32} {x : Int64} (hd : decode cc pc = .ok (.lastore, 1)) (hY : Y[o]? = some (2, n, z)) (hi : inb i n = true)
    (kk : G K (pc + 1) L st (Wd K Y (wJ σ o i.toNatClampNeg x))) : G K pc L (.long x :: .int i :: .ref (kad K o) :: st) (Wd K Y σ) := fun H locs ls hP hL => by
  have he : (wd (kcy K) (kad K) σ 0 Y)[o]? = some (kad K o, .inl (kcy K 1, n, .inr (.inl (rJ σ o)))) := wd_at hY
  have hw := wd_put (cys := kcy K) (ad := kad K) (σ := σ) (σ' := wJ σ o i.toNatClampNeg x) (e := .inl (kcy K 1, n, .inr (.inl (vp_updL (rJ σ o) i.toNatClampNeg x)))) hY (fun q sh h => ent_wJ q sh h) (by show Sum.inl (kcy K 1, n, Sum.inr (Sum.inl (rJ _ o))) = _; rw [rJ_upd])
  exact va_last C.c.x C.c.b C.k hP.1 (C.D σ) hP.2 o 1 he rfl (inb_in hi) hd (fun H1 locs1 q1 q2 q3 => kk H1 locs1 ls ⟨hw ▸ q1, q3⟩ hL)
theorem g_alen1 (C : Cx K Y cc own nL d ret) {o n : Nat} {z : List (Nat × Nat)} {v : Int32} (hd : decode cc pc = .ok (.arraylength, 1)) (hY : Y[o]? = some (1, n, z)) (hv : Int32.ofNat n = v)
    (kk : G K (pc + 1) L (.int v :: st) (Wd K Y σ)) : G K pc L (.ref (kad K o) :: st) (Wd K Y σ) := fun H locs ls hP hL => by
  have he : (wd (kcy K) (kad K) σ 0 Y)[o]? = some (kad K o, .inl (kcy K 0, n, .inl (rI σ o))) := wd_at hY
  exact va_alen C.c.x C.c.b C.k hP.1 o 0 he rfl hv hd (kk H locs ls hP hL)
theorem g_alen4 (C : Cx K Y cc own nL d ret) {o n : Nat} {z : List (Nat × Nat)} {v : Int32} (hd : decode cc pc = .ok (.arraylength, 1)) (hY : Y[o]? = some (4, n, z)) (hv : Int32.ofNat n = v)
    (kk : G K (pc + 1) L (.int v :: st) (Wd K Y σ)) : G K pc L (.ref (kad K o) :: st) (Wd K Y σ) := fun H locs ls hP hL => by
  have he : (wd (kcy K) (kad K) σ 0 Y)[o]? = some (kad K o, .inl (kcy K 3, n, .inr (.inr (.inr (.inr (fun j => if j < (z.headD (0, 0)).2 then some (kad K (o + (z.headD (0, 0)).1 + j)) else none)))))) := wd_at hY
  exact va_alen C.c.x C.c.b C.k hP.1 o 3 he rfl hv hd (kk H locs ls hP hL)
/-- a copy of so many numbers is within both rows -/
def cpB (sp dp n : Int32) (n0 n1 : Nat) : Bool := decide (¬ sp < 0) && (decide (¬ dp < 0) && (decide (¬ n < 0) && (decide (sp.toNatClampNeg + n.toNatClampNeg ≤ n0) && decide (dp.toNatClampNeg + n.toNatClampNeg ≤ n1))))
theorem ent_cp {cys : Nat → ClassId} {ad : Nat → Nat} {σ : Sg} {a0 a1 sp dp n n1 : Nat} {z : List (Nat × Nat)} : ent cys ad (wC σ a0 sp a1 dp n) a1 (1, n1, z) = .inl (cys 0, n1, .inl (va_cpy (rI σ a0) (rI σ a1) sp dp n)) := by
  show Sum.inl (cys 0, n1, Sum.inl (rI (wC σ a0 sp a1 dp n) a1)) = _
  congr 4
  funext j
  by_cases h : dp ≤ j ∧ j < dp + n
  · simp [rI, wC, va_cpy, h]
  · simp [rI, wC, va_cpy, h]
theorem g_copy (C : Cx K Y cc own nL d ret) {index o0 o1 n0 n1 : Nat} {z0 z1 : List (Nat × Nat)} {sp dp n : Int32} (hd : decode cc pc = .ok (.invokestatic index, 3)) (hw1 : Cond.methodLink own index arraycopyName ∈ AL) (hw2 : Cond.native arraycopyName ∈ AL) (hw3 : Cond.static arraycopyName ∈ AL) (hw4 : Cond.initialized "java/lang/System" ∈ AL)
    (hLn : L.length = nL) (hr : (st.map fun v => v.category).sum ≤ 8) (hd1 : 1 ≤ d) (hY0 : Y[o0]? = some (1, n0, z0)) (hY1 : Y[o1]? = some (1, n1, z1)) (h : cpB sp dp n n0 n1 = true)
    (kk : G K (pc + 3) L st (Wd K Y (wC σ o0 sp.toNatClampNeg o1 dp.toNatClampNeg n.toNatClampNeg))) : G K pc L (.int n :: .int dp :: .ref (kad K o1) :: .int sp :: .ref (kad K o0) :: st) (Wd K Y σ) := fun H locs ls hP hL => by
  have he0 : (wd (kcy K) (kad K) σ 0 Y)[o0]? = some (kad K o0, .inl (kcy K 0, n0, .inl (rI σ o0))) := wd_at hY0
  have he1 : (wd (kcy K) (kad K) σ 0 Y)[o1]? = some (kad K o1, .inl (kcy K 0, n1, .inl (rI σ o1))) := wd_at hY1
  unfold cpB at h
  simp only [Bool.and_eq_true, decide_eq_true_eq] at h
  have hw := wd_put (cys := kcy K) (ad := kad K) (σ := σ) (σ' := wC σ o0 sp.toNatClampNeg o1 dp.toNatClampNeg n.toNatClampNeg) hY1 (fun q sh h => ent_wC q sh h) ent_cp
  have hf := C.c.2.2.2.2.2.2.1
  have hlo := C.c.2.2.2.2.2.2.2
  have hnf : nativeFrameWords "java/lang/System" "arraycopy" 5 + 11 ≤ 32 := by decide +kernel
  exact va_copyi C.c.x C.c.b (C.c.2.2.1.trans (hLn.symm.trans hL.1.symm)) C.c.o (C.c.t hw1) (C.c.t hw2) (C.c.t hw3) (C.c.t hw4) C.k hP.1 (C.D σ) hP.2 o0 o1 0 0 he0 he1 rfl rfl rfl h.1 h.2.1 h.2.2.1 h.2.2.2.1 h.2.2.2.2 (fun _ _ => rfl) (by omega) (by omega) hd (fun H1 locs1 q1 q2 q3 => kk H1 locs1 ls ⟨hw ▸ q1, q3⟩ hL)
theorem g_stat (C : Cx K Y cc own nL d ret) {index : Nat} {n : String} {l : List Int32} (hd : decode cc pc = .ok (.getstatic index, 3)) (hw : Cond.fieldLink own index "IceForCoast$Coins" n "[I" ∈ AL) (hE : ∃ t, va_Z "IceForCoast$Coins" n "[I" (.ref t) (kA K) (ks K) (ks K).heap ∧ va_T .int t 3 (fun j => .int (stL l j)) (kA K) (ks K) (ks K).heap)
    (kk : ∀ t, va_T .int t 3 (fun j => .int (stL l j)) (kA K) (ks K) (ks K).heap → G K (pc + 3) L (.ref t :: st) (Wd K Y σ)) : G K pc L st (Wd K Y σ) := fun H locs ls hP hL => by
  obtain ⟨t, hZ, hT⟩ := hE
  exact va_gets C.c.x C.c.b hZ hP.2 C.c.o (C.c.t hw) (fun _ h => h) hd (kk t hT H locs ls hP hL)
theorem g_tld (C : Cx K Y cc own nL d ret) {t : Nat} {l : List Int32} {i : Int32} (hT : va_T .int t 3 (fun j => .int (stL l j)) (kA K) (ks K) (ks K).heap) (hd : decode cc pc = .ok (.iaload, 1)) (hi : inb i 3 = true)
    (kk : G K (pc + 1) L (.int (stL l i.toNatClampNeg) :: st) (Wd K Y σ)) : G K pc L (.int i :: .ref t :: st) (Wd K Y σ) := fun H locs ls hP hL =>
  va_ti C.c.x C.c.b hT hP.2 (inb_in hi) rfl hd (kk H locs ls hP hL)
end GH
section GM
variable {K : KT} {cc : ByteArray} {own : String} {nL d : Nat} {pc : Nat} {L : List (Option Value)} {st : List Value} {P : Heap → List Loc → Prop}
def imax (x y : Int32) : Int32 := if x < y then y else x
def imin (x y : Int32) : Int32 := if y < x then y else x
def lmax (x y : Int64) : Int64 := if y < x then x else y
theorem g_max (C : Cb K cc own nL d) {index : Nat} {x y : Int32} (hd : decode cc pc = .ok (.invokestatic index, 3)) (hw1 : Cond.methodLink own index Lib.Math.max.name ∈ AL) (hw2 : Cond.static Lib.Math.max.name ∈ AL) (hw3 : Cond.initialized "java/lang/Math" ∈ AL) (hw4 : Cond.code Lib.Math.max.name Lib.Math.max.code 2 (some .int) ∈ AL) (hLn : L.length = nL) (hr : (st.map fun v => v.category).sum ≤ 8) (hd1 : 1 ≤ d)
    (k : G K (pc + 3) L (.int (imax x y) :: st) P) : G K pc L (.int y :: .int x :: st) P := fun H locs ls hP hL => by
  have hf := C.2.2.2.2.2.2.1
  have hlo := C.2.2.2.2.2.2.2
  exact va_mmax C.x C.b (C.2.2.1.trans (hLn.symm.trans hL.1.symm)) C.o (C.t hw1) (C.t hw2) (C.t hw3) (C.t hw4) (by omega) (by omega) (Nat.zero_le _) (Nat.zero_le _) hd (k H locs ls hP hL)
theorem g_min (C : Cb K cc own nL d) {index : Nat} {x y : Int32} (hd : decode cc pc = .ok (.invokestatic index, 3)) (hw1 : Cond.methodLink own index Lib.Math.min.name ∈ AL) (hw2 : Cond.static Lib.Math.min.name ∈ AL) (hw3 : Cond.initialized "java/lang/Math" ∈ AL) (hw4 : Cond.code Lib.Math.min.name Lib.Math.min.code 2 (some .int) ∈ AL) (hLn : L.length = nL) (hr : (st.map fun v => v.category).sum ≤ 8) (hd1 : 1 ≤ d)
    (k : G K (pc + 3) L (.int (imin x y) :: st) P) : G K pc L (.int y :: .int x :: st) P := fun H locs ls hP hL => by
  have hf := C.2.2.2.2.2.2.1
  have hlo := C.2.2.2.2.2.2.2
  exact va_mmin C.x C.b (C.2.2.1.trans (hLn.symm.trans hL.1.symm)) C.o (C.t hw1) (C.t hw2) (C.t hw3) (C.t hw4) (by omega) (by omega) (Nat.zero_le _) (Nat.zero_le _) hd (k H locs ls hP hL)
theorem g_lmax (C : Cb K cc own nL d) {index : Nat} {x y : Int64} (hd : decode cc pc = .ok (.invokestatic index, 3)) (hw1 : Cond.methodLink own index Lib.MathLoose.max_long.x ∈ AL) (hw2 : Cond.static Lib.MathLoose.max_long.x ∈ AL) (hw3 : Cond.initialized "java/lang/Math" ∈ AL) (hw4 : Cond.code Lib.MathLoose.max_long.x Lib.MathLoose.max_long.code 4 (some .long) ∈ AL) (hLn : L.length = nL) (hr : (st.map fun v => v.category).sum ≤ 8) (hd1 : 1 ≤ d)
    (k : G K (pc + 3) L (.long (lmax x y) :: st) P) : G K pc L (.long y :: .long x :: st) P := fun H locs ls hP hL => by
  have hf := C.2.2.2.2.2.2.1
  have hlo := C.2.2.2.2.2.2.2
  exact va_mmax_long C.x C.b (C.2.2.1.trans (hLn.symm.trans hL.1.symm)) C.o (C.t hw1) (C.t hw2) (C.t hw3) (C.t hw4) (by omega) (by omega) (Nat.zero_le _) (Nat.zero_le _) hd (k H locs ls hP hL)
def iabs (x : Int32) : Int32 := if 0 ≤ x then x else 0 - x
theorem g_abs (C : Cb K cc own nL d) {index : Nat} {x : Int32} (hd : decode cc pc = .ok (.invokestatic index, 3)) (hw1 : Cond.methodLink own index Lib.Math.abs.name ∈ AL) (hw2 : Cond.static Lib.Math.abs.name ∈ AL) (hw3 : Cond.initialized "java/lang/Math" ∈ AL) (hw4 : Cond.code Lib.Math.abs.name Lib.Math.abs.code 1 (some .int) ∈ AL) (hLn : L.length = nL) (hr : (st.map fun v => v.category).sum ≤ 8) (hd1 : 1 ≤ d)
    (k : G K (pc + 3) L (.int (iabs x) :: st) P) : G K pc L (.int x :: st) P := fun H locs ls hP hL => by
  have hf := C.2.2.2.2.2.2.1
  have hlo := C.2.2.2.2.2.2.2
  exact va_mabs C.x C.b (C.2.2.1.trans (hLn.symm.trans hL.1.symm)) C.o (C.t hw1) (C.t hw2) (C.t hw3) (C.t hw4) (by omega) (by omega) (Nat.zero_le _) (Nat.zero_le _) hd (k H locs ls hP hL)
end GM
/-! ===== contracts, calls, returns ===== -/
abbrev Ok : Type := Option Value → Sg → Prop
def QX (D : va_G) (cys : Nat → ClassId) (ad : Nat → Nat) (Y : List Sh) (A : Nat → Prop) (ok : Ok) : Array Value → State → Outcome → State → Prop := fun _ st oc t =>
  ∃ (v : Option Value) (σ' : Sg), oc = .returned v ∧ ok v σ' ∧ va_P D vwCl (wd cys ad σ' 0 Y) t.heap ∧ va_F A st t
def Bx (D : va_G) (cys : Nat → ClassId) (ad : Nat → Nat) (Y : List Sh) (σ : Sg) (U : State) : Prop :=
  va_P D vwCl (wd cys ad σ 0 Y) U.heap ∧ va_K D vwCl (tysOf cys) U ∧ (∀ i j, i < Y.length → j < Y.length → ad i = ad j → i = j)
def rmd (d : Nat) : Room := { frames := d, cells := 0, slots := 0, locals := 40 * d }
/-- a method's contract: from the world σ, with these arguments, it comes to an end that ok allows -/
def Ct (Y : List Sh) (y : MethodName) (cc : ByteArray) (nL : Nat) (ret : Option FieldType) (d : Nat) (vals : (Nat → Nat) → List Value) (σ : Sg) (ok : Ok) : Prop :=
  ∀ (l : Launch) (D : va_G) (cys : Nat → ClassId) (ad : Nat → Nat) (sz : Nat), Met l y (.code y cc nL ret :: AL) (rmd d) (va_Pc (vals ad) (fun U => U.heap.size = sz ∧ Bx D cys ad Y σ U ∧ Ev (Aof ad Y.length sz) U)) (QX D cys ad Y (Aof ad Y.length sz) ok) 0 0 (Aof ad Y.length sz)
def Rk (K : KT) (Y : List Sh) (ok : Ok) : Prop := kQ K = MQ (kb K) (QX (kD K) (kcy K) (kad K) Y (kA K) ok) (ka K) (ks K) 0 0 (kA K)
/-- the locals with which a method begins -/
def lsl : List Value → List (Option Value)
  | [] => []
  | .long x :: t => some (.long x) :: none :: lsl t
  | .double x :: t => some (.double x) :: none :: lsl t
  | v :: t => some v :: lsl t
def pad (L : List (Option Value)) (n : Nat) : List (Option Value) := L ++ List.replicate (n - L.length) none
theorem lsl_args : ∀ (vs : List Value) (k i : Nat) (v : Value), (lsl vs)[i]? = some (some v) → (k + i, v) ∈ lv_args k vs
  | [], k, i, v, h => by simp [lsl] at h
  | a :: t, k, i, v, h => by
    have one : ∀ (x : Value), lsl (x :: t) = some x :: lsl t → x.category = 1 → (lsl (x :: t))[i]? = some (some v) → (k + i, v) ∈ lv_args k (x :: t) := by
      intro x e hc h
      rw [e] at h
      unfold lv_args
      rw [if_neg (by omega)]
      cases i with
      | zero => simp at h; subst h; exact List.mem_cons_self
      | succ i =>
        rw [List.getElem?_cons_succ] at h
        have := lsl_args t (k + 1) i v h
        rw [show k + 1 + i = k + (i + 1) by omega] at this
        exact List.mem_cons_of_mem _ this
    have two : ∀ (x : Value), lsl (x :: t) = some x :: none :: lsl t → x.category = 2 → (lsl (x :: t))[i]? = some (some v) → (k + i, v) ∈ lv_args k (x :: t) := by
      intro x e hc h
      rw [e] at h
      unfold lv_args
      rw [if_pos hc]
      cases i with
      | zero => simp at h; subst h; exact List.mem_cons_self
      | succ i =>
        cases i with
        | zero => simp at h
        | succ i =>
          rw [List.getElem?_cons_succ, List.getElem?_cons_succ] at h
          have := lsl_args t (k + 2) i v h
          rw [show k + 2 + i = k + (i + 1 + 1) by omega] at this
          exact List.mem_cons_of_mem _ this
    cases a with
    | long x => exact two _ rfl rfl h
    | double x => exact two _ rfl rfl h
    | _ => exact one _ rfl rfl h
theorem lsl_sl : ∀ (vs : List Value), (lg_sl vs).length = (lsl vs).length
  | [] => rfl
  | a :: t => by
    have ih := lsl_sl t
    unfold lg_sl at ih ⊢
    rw [List.flatMap_cons, List.length_append, ih]
    cases a <;> simp [lsl, Value.category] <;> omega
theorem lx_entry (vs : List Value) {n : Nat} (h : (lsl vs).length ≤ n) : LX ((lg_sl vs ++ List.replicate (n - (lg_sl vs).length) Slot.unset).toArray) (pad (lsl vs) n) := by
  have hl := lv_entry vs (n := n) (by rw [lsl_sl]; exact h)
  refine ⟨?_, hl.2.1, fun i v hi => ?_⟩
  · rw [hl.1]
    simp [pad]
    omega
  · unfold pad at hi
    by_cases hlt : i < (lsl vs).length
    · rw [List.getElem?_append_left hlt] at hi
      have := lsl_args vs 0 i v hi
      rw [Nat.zero_add] at this
      exact hl.2.2 _ this
    · rw [List.getElem?_append_right (by omega)] at hi
      have := List.eq_of_mem_replicate (List.mem_of_getElem? hi)
      cases this
theorem ct_of {Y : List Sh} {y : MethodName} {cc : ByteArray} {nL d : Nat} {ret : Option FieldType} {vals : (Nat → Nat) → List Value} {σ : Sg} {ok : Ok} {L0 : (Nat → Nat) → List (Option Value)} (hy : plainName y.cls = true) (hn : ∀ ad, (lsl (vals ad)).length ≤ nL) (hL : ∀ ad, pad (lsl (vals ad)) nL = L0 ad)
    (body : ∀ K, Cx K Y cc y.cls nL d ret → Rk K Y ok → G K 0 (L0 (kad K)) [] (Wd K Y σ)) : Ct Y y cc nL ret d vals σ ok := by
  intro l D cys ad sz
  refine Met.ofW (cc := cc) (maxL := nL) (ret := ret) hy rfl ?_
  intro p e s m args below meth c s₁ B hml hv
  obtain ⟨rfl, hsz, ⟨hP, hK, hi⟩, hE⟩ := hv
  subst hsz
  have hts := atoms_spec (ws := .code y cc nL ret :: AL) B.pre
  have hown : s.vm.findClass y.cls = some m.cls := findClass_of_methodNamed B.named
  let K : KT := (p, l, e, rmd d, s, m, (vals ad).toArray, below, meth, c, D, cys, ad, Aof ad Y.length s.heap.size, MQ below (QX D cys ad Y (Aof ad Y.length s.heap.size) ok) (vals ad).toArray s 0 0 (Aof ad Y.length s.heap.size))
  have C : Cx K Y cc y.cls nL d ret := ⟨⟨B.exec, B.bytes, hml, hown, fun w hw => hts w (List.mem_cons_of_mem _ hw), B.notSynchronized, Nat.le_refl _, Nat.le_refl _⟩, B.returns, hK, hi, rfl, hE⟩
  have hG := body K C rfl
  rw [lg_entry_eq]
  have := hG s.heap [] _ ⟨hP, va_S.rf⟩ (hL ad ▸ lx_entry (vals ad) (hn ad))
  exact this
section GRet
variable {K : KT} {Y : List Sh} {cc : ByteArray} {own : String} {nL d : Nat} {ret : Option FieldType} {pc : Nat} {L : List (Option Value)} {σ : Sg} {ok : Ok}
theorem g_q (C : Cx K Y cc own nL d ret) {v : Option Value} {H : Heap} {locs : List Loc} (ho : ok v σ) (hP : Wd K Y σ H locs) (t : State) (ht : t.heap = H) : QX (kD K) (kcy K) (kad K) Y (kA K) ok (ka K) (ks K) (.returned v) t :=
  ⟨v, σ, rfl, ho, by rw [ht]; exact hP.1, hP.2.F ht⟩
theorem g_iret {ty : FieldType} (C : Cx K Y cc own nL d (some ty)) (hQ : Rk K Y ok) {v : Int32} (hd : decode cc pc = .ok (.ireturn, 1)) (hn : narrow ty (.int v) = .int v) (ho : ok (some (.int v)) σ) : G K pc L [.int v] (Wd K Y σ) := fun H locs ls hP hL => by
  show W _ _ _ _ _ _ _ _ _ _ _ _ _ _ (kQ K) _
  rw [hQ]
  exact W.zret C.c.x C.c.b C.r hn (fun t ht _ => g_q C ho hP t ht) hP.2.2.2 hd C.c.2.2.2.2.2.1
theorem g_lret (C : Cx K Y cc own nL d (some .long)) (hQ : Rk K Y ok) {v : Int64} (hd : decode cc pc = .ok (.lreturn, 1)) (ho : ok (some (.long v)) σ) : G K pc L [.long v] (Wd K Y σ) := fun H locs ls hP hL => by
  show W _ _ _ _ _ _ _ _ _ _ _ _ _ _ (kQ K) _
  rw [hQ]
  exact W.lret C.c.x C.c.b C.r (fun t ht _ => g_q C ho hP t ht) hP.2.2.2 hd C.c.2.2.2.2.2.1
theorem g_vret (C : Cx K Y cc own nL d none) (hQ : Rk K Y ok) (hd : decode cc pc = .ok (.return_, 1)) (ho : ok none σ) : G K pc L [] (Wd K Y σ) := fun H locs ls hP hL => by
  show W _ _ _ _ _ _ _ _ _ _ _ _ _ _ (kQ K) _
  rw [hQ]
  exact W.vret C.c.x C.c.b C.r (fun t ht _ => g_q C ho hP t ht) hP.2.2.2 hd C.c.2.2.2.2.2.1
end GRet
theorem Ev.moved {A B : Nat → Prop} {s U : State} (hW : s.WarmedH U.vm) (hk : ∀ a : Nat, a < s.heap.size → ¬ A a → U.heap[a]? = s.heap[a]?) (hAB : ∀ q, B q → A q) (h : Ev A s) : Ev B U := by
  obtain ⟨h1, ⟨t, h2, h3⟩, ⟨t', h4, h5⟩⟩ := h
  refine ⟨fun w hw => ?_, ⟨t, ((h2.kept hk).moved hW.alike).narrow hAB, ((h3.kept hk).moved hW.alike).narrow hAB⟩, ⟨t', ((h4.kept hk).moved hW.alike).narrow hAB, ((h5.kept hk).moved hW.alike).narrow hAB⟩⟩
  have hn := (List.mem_filter.mp hw).2
  have hz := h1 w hw
  cases w with
  | fieldLinkNest a i b n d h => exact va_Nw.warmF hW hz
  | methodLinkNest a i x h => exact va_Nw.warmM hW hz
  | _ => cases hn
theorem Ev.frame {A : Nat → Prop} {U : State} {g : JFrame} {mk : MethodId} {a : Array Value} (h : Ev A U) : Ev A (U.calling g mk a) := by
  obtain ⟨h1, ⟨t, h2, h3⟩, ⟨t', h4, h5⟩⟩ := h
  have al : U.vm.Alike (U.calling g mk a).vm := Vm.Alike.refl U.vm
  refine ⟨fun w hw => ?_, ⟨t, h2.moved al, h3.moved al⟩, ⟨t', h4.moved al, h5.moved al⟩⟩
  have hn := (List.mem_filter.mp hw).2
  have hz := h1 w hw
  cases w with
  | fieldLinkNest a i b n d h => exact va_Nw.same rfl rfl hz
  | methodLinkNest a i x h => exact va_Nw.same rfl rfl hz
  | _ => cases hn
theorem ct_blind {Y : List Sh} {vals : (Nat → Nat) → List Value} {σ : Sg} {D : va_G} {cys : Nat → ClassId} {ad : Nat → Nat} {sz : Nat} : FrameBlind (va_Pc (vals ad) (fun U => U.heap.size = sz ∧ Bx D cys ad Y σ U ∧ Ev (Aof ad Y.length sz) U)) :=
  fun a U g mk q => ⟨q.1, q.2.1, ⟨q.2.2.1.1, va_K.moved (u := U) (U := U.calling g mk a) (Vm.Alike.refl U.vm) q.2.2.1.2.1, q.2.2.1.2.2⟩, q.2.2.2.frame⟩

section GCall
variable {K : KT} {Y : List Sh} {cc : ByteArray} {own : String} {nL d : Nat} {ret : Option FieldType} {pc : Nat} {L : List (Option Value)} {st : List Value} {σ : Sg}
/-- what holds of the callee's start -/
theorem ct_pre (C : Cx K Y cc own nL d ret) {vals : (Nat → Nat) → List Value} {H : Heap} {locs : List Loc} (hP : Wd K Y σ H locs) (U : State) (hU : U.heap = H) (hW : (ks K).WarmedH U.vm) : (va_Pc (vals (kad K)) (fun U => U.heap.size = H.size ∧ Bx (kD K) (kcy K) (kad K) Y σ U ∧ Ev (Aof (kad K) Y.length H.size) U)) (vals (kad K)).toArray U := by
  refine ⟨rfl, by rw [hU], ⟨by rw [hU]; exact hP.1, va_K.moved hW.alike C.k, C.i⟩, C.e.moved hW (fun a h1 h2 => by rw [hU]; exact hP.2.2.1 a h1 h2) (fun q h => ?_)⟩
  rw [C.a]
  rcases h with h | h
  · exact Or.inl h
  · exact Or.inr (Nat.le_trans hP.2.1 h)
/-- behind a call -/
theorem ct_go (C : Cx K Y cc own nL d ret) {H : Heap} {locs : List Loc} {ls : Array Slot} {st rest : List Value} {a : Array Value} {ok : Ok} (hP : Wd K Y σ H locs) (hL : LX ls L)
    (hr : va_Run (kp K) (kl K) (ke K) (kR K) (ks K) (km K) (ka K) (kb K) (kmeth K) (kc K) H locs 0 0 0 0 (F0 (km K) pc ls st) rest (QX (kD K) (kcy K) (kad K) Y (Aof (kad K) Y.length H.size) ok a) (Aof (kad K) Y.length H.size))
    (kk : ∀ v σ', ok v σ' → G K (pc + 3) L (v.toList ++ rest) (Wd K Y σ')) : Wk K H locs (F0 (km K) pc ls st) := by
  have hsub : ∀ q, Aof (kad K) Y.length H.size q → kA K q := fun q h => by
    rw [C.a]
    rcases h with h | h
    · exact Or.inl h
    · exact Or.inr (Nat.le_trans hP.2.1 h)
  intro T hT X
  obtain ⟨v, st₀, t, T', L2, h0, X', hL2, e1, e2, ⟨v', σ', hv, hok, hw, hz, hk⟩, stp⟩ := hr T hT X
  cases hv
  rw [h0] at hz hk
  have hS : va_S (kA K) (ks K).heap T'.heap (locs ++ L2) := ⟨Nat.le_trans hP.2.1 (by rw [e1]; exact hz), fun q h1 h2 => by rw [e1, hk q (Nat.lt_of_lt_of_le h1 hP.2.1) (fun z => h2 (hsub q z))]; exact hP.2.2.1 q h1 h2, fun q hq => by
      rcases List.mem_append.mp hq with h | h
      · exact hP.2.2.2 q h
      · exact hsub _ (hL2 q h)⟩
  obtain ⟨t2, a1, b1⟩ := kk v σ' hok T'.heap (locs ++ L2) ls ⟨by rw [e1]; exact hw, hS⟩ hL T' rfl X'
  exact ⟨t2, stp t2 a1, b1⟩
/-- what a callee asks of the tables, and its room -/
def Cw (y : MethodName) (cc : ByteArray) (nL : Nat) (ret : Option FieldType) (n : Nat) : Prop := (Cond.code y cc nL ret ∈ AL) ∧ (Cond.initialized y.cls ∈ AL) ∧ (y.cls ≠ "java/lang/invoke/MethodHandle" ∧ y.cls ≠ "java/lang/invoke/VarHandle") ∧ (parseMethodDescriptor y.desc).map (fun d => d.parameters.length) = some n ∧ nL ≤ 21
theorem ct_in {y : MethodName} {cc : ByteArray} {nL : Nat} {ret : Option FieldType} (h : Cond.code y cc nL ret ∈ AL) : GoodIn AL (.code y cc nL ret :: AL) := fun w hw => by
  rcases List.mem_cons.mp hw with rfl | hw
  · exact AL_good h
  · exact AL_good hw
theorem g_callV (C : Cx K Y cc own nL d ret) {index ci o n d' nL' N : Nat} {y : MethodName} {cc' : ByteArray} {ret' : Option FieldType} {vals : (Nat → Nat) → List Value} {ok : Ok} {As rest : List Value} {T : u_T} {sl : List (Nat × Nat)} (hd : decode cc pc = .ok (.invokevirtual index, 3)) (hM : Ct Y y cc' nL' ret' d' vals σ ok) (hw : Cw y cc' nL' ret' n) (hl : (Cond.methodLink own index y ∈ AL) ∨ ∃ host, Cond.methodLinkNest own index y host ∈ NW) (hi : Cond.instanceMethod y ∈ AL) (hse : Cond.selects y.cls y y ∈ AL)
    (hv : vals (kad K) = .ref (kad K o) :: As) (hst : st = As.reverse ++ .ref (kad K o) :: rest) (hn : As.length = n) (hdd : d' + 1 ≤ d) (hLn : L.length = nL) (hY : Y[o]? = some (0, ci, sl)) (hc : vwCl[ci]? = some (y.cls, T, N)) (hr : (rest.map fun v => v.category).sum ≤ 8)
    (kk : ∀ v σ', ok v σ' → G K (pc + 3) L (v.toList ++ rest) (Wd K Y σ')) : G K pc L st (Wd K Y σ) := fun H locs ls hP hL => by
  have he : (wd (kcy K) (kad K) σ 0 Y)[o]? = some (kad K o, .inr (ci, slv (kad K) σ o 0 sl)) := wd_at hY
  have hf := C.c.2.2.2.2.2.2.1
  have hlo := C.c.2.2.2.2.2.2.2
  have hR : (rmd d').frames + 1 ≤ (kR K).frames ∧ 8 + (nL' + 11) + (rmd d').locals ≤ (kR K).locals := ⟨by show d' + 1 ≤ _; omega, by have := hw.2.2.2.2; show 8 + (nL' + 11) + 40 * d' ≤ _; omega⟩
  have hM' := hM (kl K) (kD K) (kcy K) (kad K) H.size
  have hpre : PreV (ks K) H y.cls (kad K o) (va_Pc (vals (kad K)) (fun U => U.heap.size = H.size ∧ Bx (kD K) (kcy K) (kad K) Y σ U ∧ Ev (Aof (kad K) Y.length H.size) U)) As := ⟨ct_blind, va_recv C.k hP.1 hc he, fun U hU hW => by rw [← hv]; exact ct_pre C hP U hU hW⟩
  have hz : ls.size = nL := hL.1.trans hLn
  rcases hl with hl | ⟨host, hl⟩
  · have cb : CallB (kR K) (ks K) (ka K) own index y cc' nL' ret' (.code y cc' nL' ret' :: AL) (rmd d') 0 0 n := callB_of n C.c.2.2.2.2.1 (ct_in hw.1) rfl rfl rfl (C.c.t hw.2.1) (C.c.t hl) ⟨hw.2.2.1.1, hw.2.2.1.2, hw.2.2.2.1⟩ hR
    exact ct_go C hP hL (va_runV (As := As) (rest := rest) C.c.fix hM' ⟨cb, C.c.t hi, C.c.t hse⟩ hpre rfl hn hz hst (lv_room hr) hd ⟨Nat.zero_le _, Nat.zero_le _⟩) kk
  · have cb : va_CN (kR K) (ks K) (ka K) own index y host cc' nL' ret' (.code y cc' nL' ret' :: AL) (rmd d') 0 0 n := va_cnB n C.c.2.2.2.2.1 (ct_in hw.1) rfl rfl rfl (C.e.1 _ hl) (C.c.t hw.2.1) ⟨hw.2.2.1.1, hw.2.2.1.2, hw.2.2.2.1⟩ hR
    exact ct_go C hP hL (va_runVN (As := As) (rest := rest) C.c.fix hM' ⟨cb, C.c.t hi, C.c.t hse⟩ hpre rfl hn hz hst (lv_room hr) hd ⟨Nat.zero_le _, Nat.zero_le _⟩) kk
theorem g_callS (C : Cx K Y cc own nL d ret) {index n d' nL' : Nat} {y : MethodName} {cc' : ByteArray} {ret' : Option FieldType} {vals : (Nat → Nat) → List Value} {ok : Ok} {As rest : List Value} (hd : decode cc pc = .ok (.invokestatic index, 3)) (hM : Ct Y y cc' nL' ret' d' vals σ ok) (hw : Cw y cc' nL' ret' n) (hl : (Cond.methodLink own index y ∈ AL) ∨ ∃ host, Cond.methodLinkNest own index y host ∈ NW) (hi : Cond.static y ∈ AL)
    (hv : vals (kad K) = As) (hst : st = As.reverse ++ rest) (hn : As.length = n) (hdd : d' + 1 ≤ d) (hLn : L.length = nL) (hr : (rest.map fun v => v.category).sum ≤ 8)
    (kk : ∀ v σ', ok v σ' → G K (pc + 3) L (v.toList ++ rest) (Wd K Y σ')) : G K pc L st (Wd K Y σ) := fun H locs ls hP hL => by
  have hf := C.c.2.2.2.2.2.2.1
  have hlo := C.c.2.2.2.2.2.2.2
  have hR : (rmd d').frames + 1 ≤ (kR K).frames ∧ 8 + (nL' + 11) + (rmd d').locals ≤ (kR K).locals := ⟨by show d' + 1 ≤ _; omega, by have := hw.2.2.2.2; show 8 + (nL' + 11) + 40 * d' ≤ _; omega⟩
  have hM' := hM (kl K) (kD K) (kcy K) (kad K) H.size
  have hpre : PreS (ks K) H (va_Pc (vals (kad K)) (fun U => U.heap.size = H.size ∧ Bx (kD K) (kcy K) (kad K) Y σ U ∧ Ev (Aof (kad K) Y.length H.size) U)) As := ⟨ct_blind, fun U hU hW => by rw [← hv]; exact ct_pre C hP U hU hW⟩
  have hz : ls.size = nL := hL.1.trans hLn
  rcases hl with hl | ⟨host, hl⟩
  · have cb : CallB (kR K) (ks K) (ka K) own index y cc' nL' ret' (.code y cc' nL' ret' :: AL) (rmd d') 0 0 n := callB_of n C.c.2.2.2.2.1 (ct_in hw.1) rfl rfl rfl (C.c.t hw.2.1) (C.c.t hl) ⟨hw.2.2.1.1, hw.2.2.1.2, hw.2.2.2.1⟩ hR
    exact ct_go C hP hL (va_runS (As := As) (rest := rest) C.c.fix hM' ⟨cb, C.c.t hi⟩ hpre rfl hn hz hst (lv_room hr) hd ⟨Nat.zero_le _, Nat.zero_le _⟩) kk
  · have cb : va_CN (kR K) (ks K) (ka K) own index y host cc' nL' ret' (.code y cc' nL' ret' :: AL) (rmd d') 0 0 n := va_cnB n C.c.2.2.2.2.1 (ct_in hw.1) rfl rfl rfl (C.e.1 _ hl) (C.c.t hw.2.1) ⟨hw.2.2.1.1, hw.2.2.1.2, hw.2.2.2.1⟩ hR
    exact ct_go C hP hL (va_runSN (As := As) (rest := rest) C.c.fix hM' ⟨cb, C.c.t hi, trivial⟩ hpre rfl hn hz hst (lv_room hr) hd ⟨Nat.zero_le _, Nat.zero_le _⟩) kk
end GCall
end
section
/-! ===== small things for the printed functions ===== -/
def okI (p : Int32 × Sg) : Ok := fun v τ => v = some (.int p.1) ∧ τ = p.2
def okJ (p : Int64 × Sg) : Ok := fun v τ => v = some (.long p.1) ∧ τ = p.2
def okV (p : Sg) : Ok := fun v τ => v = none ∧ τ = p
/-- how deep the one recursion may go -/
abbrev FD : Nat := 12
def el {A B C : Type} (f : A → C) (g : B → C) : A ⊕ B → C
  | .inl a => f a
  | .inr b => g b
theorem el_l {A B C : Type} {f : A → C} {g : B → C} {a : A} {o : C} (h : el f g (.inl a) = o) : f a = o := h
theorem el_r {A B C : Type} {f : A → C} {g : B → C} {b : B} {o : C} (h : el f g (.inr b) = o) : g b = o := h
theorem lp_bind {S T R : Type} {f : S → Option (S ⊕ T)} {Gh : S → Prop} {k : T → Option R} {o : R} {n : Nat} {s : S} (h : Option.bind (lp f n s) k = some o) (hb : ∀ s o2, f s = some o2 → (∀ s', o2 = .inl s' → Gh s') → (∀ t, o2 = .inr t → k t = some o) → Gh s) : Gh s := by
  obtain ⟨t, e, h⟩ := Option.bind_eq_some_iff.mp h
  exact lp_ind (KK := fun t => k t = some o) hb n s t e h
theorem chk0 {c : Prop} {i : Decidable c} {α : Type} {x : Option α} {o : α} (h : (@ite _ c i none x) = some o) : ¬ c ∧ x = some o := by
  by_cases q : c
  · rw [if_pos q] at h; cases h
  · rw [if_neg q] at h; exact ⟨q, h⟩
def allNe (x : Int32) : List Int32 → Prop
  | [] => True
  | v :: t => ¬ x = v ∧ allNe x t
theorem allNe_at {x : Int32} : ∀ (l : List Int32) (i : Nat), allNe x l → i < l.length → ¬ x = l.getD i 0
  | [], _, _, h => by simp at h
  | v :: t, 0, h, _ => by simpa using h.1
  | v :: t, i + 1, h, hi => by
    have := allNe_at t i h.2 (by simpa using hi)
    simpa using this
def tblOk (lo hi : Int) (ks : List Int32) : Bool := (List.range ks.length).all (fun i => decide ((ks.getD i 0).toInt = lo + (i : Int))) && decide (hi + 1 = lo + (ks.length : Int))
theorem tbl_out {x : Int32} {lo hi : Int} {ks : List Int32} (hk : tblOk lo hi ks = true) (hne : allNe x ks) : x.toInt < lo ∨ hi < x.toInt := by
  unfold tblOk at hk
  rw [Bool.and_eq_true, List.all_eq_true, decide_eq_true_eq] at hk
  rcases Int.lt_or_le x.toInt lo with h | h
  · exact Or.inl h
  · rcases Int.lt_or_le hi x.toInt with h2 | h2
    · exact Or.inr h2
    · exfalso
      have h3 : (x.toInt - lo).toNat < ks.length := by omega
      have h4 := of_decide_eq_true (hk.1 _ (List.mem_range.mpr h3))
      exact allNe_at ks _ hne h3 (Int32.toInt_inj.mp (by rw [h4]; omega))
section GSw
variable {K : KT} {cc : ByteArray} {own : String} {nL d : Nat} {pc : Nat} {L : List (Option Value)} {st : List Value} {P : Heap → List Loc → Prop}
theorem g_tblIn (C : Cb K cc own nL d) {dflt lo hi off : Int} {offs : Array Int} {len tgt : Nat} {x v : Int32} (hx : x = v) (hd : decode cc pc = .ok (.tableswitch dflt lo hi offs, len)) (h1 : ¬ v.toInt < lo) (h2 : ¬ hi < v.toInt) (ho : offs[(v.toInt - lo).toNat]? = some off) (ht : (pc : Int) + off = (tgt : Int)) (k : G K tgt L st P) : G K pc L (.int x :: st) P := by
  subst hx
  exact g_tableIn C hd h1 h2 ho ht k
theorem g_tblOut (C : Cb K cc own nL d) {dflt lo hi : Int} {offs : Array Int} {len tgt : Nat} {x : Int32} (ks : List Int32) (hk : tblOk lo hi ks = true) (hne : allNe x ks) (hd : decode cc pc = .ok (.tableswitch dflt lo hi offs, len)) (ht : (pc : Int) + dflt = (tgt : Int)) (k : G K tgt L st P) : G K pc L (.int x :: st) P :=
  g_tableOut C hd (tbl_out hk hne) ht k
theorem g_lkIn (C : Cb K cc own nL d) {dflt off : Int} {ps : Array (Int × Int)} {len tgt : Nat} {x v : Int32} (hx : x = v) (hd : decode cc pc = .ok (.lookupswitch dflt ps, len)) (hp : (ps.toList.zip (ps.toList.drop 1)).all (fun (a, next) => a.1 < next.1) = true) (ho : Op.lookupswitch.offset ps.toList dflt v.toInt = off) (ht : (pc : Int) + off = (tgt : Int)) (k : G K tgt L st P) : G K pc L (.int x :: st) P := by
  subst hx
  exact g_lookup C hd hp ho ht k
theorem lk_out {x : Int32} {d : Int} : ∀ (r : List (Int × Int)) (ks : List Int32), r.map Prod.fst = ks.map Int32.toInt → allNe x ks → Op.lookupswitch.offset r d x.toInt = d
  | [], _, _, _ => rfl
  | (a, o) :: r, [], h, _ => by simp at h
  | (a, o) :: r, k :: ks, h, hne => by
    simp only [List.map_cons, List.cons.injEq] at h
    rw [lv_osw hne.1 h.1.symm]
    exact lk_out r ks h.2 hne.2
theorem g_lkOut (C : Cb K cc own nL d) {dflt : Int} {ps : Array (Int × Int)} {len tgt : Nat} {x : Int32} (ks : List Int32) (hk : ps.toList.map Prod.fst = ks.map Int32.toInt) (hne : allNe x ks) (hd : decode cc pc = .ok (.lookupswitch dflt ps, len)) (hp : (ps.toList.zip (ps.toList.drop 1)).all (fun (a, next) => a.1 < next.1) = true) (ht : (pc : Int) + dflt = (tgt : Int)) (k : G K tgt L st P) : G K pc L (.int x :: st) P :=
  g_lookup C hd hp (lk_out _ ks hk hne) ht k
end GSw

abbrev slX0 : List (Nat × Nat) := [(0, 0), (0, 0), (0, 0), (0, 0), (0, 0), (0, 0)]
abbrev slX1 : List (Nat × Nat) := [(2, 1)]
abbrev slX2 : List (Nat × Nat) := [(2, 1), (2, 2), (2, 3), (0, 0), (0, 0), (0, 0)]
abbrev slX3 : List (Nat × Nat) := [(2, 1), (2, 7), (2, 8), (2, 9)]
abbrev slX4 : List (Nat × Nat) := [(2, 1), (2, 2), (2, 3), (0, 0)]
abbrev slX5 : List (Nat × Nat) := [(2, 1), (1, 0), (1, 0), (0, 0)]
abbrev slX6 : List (Nat × Nat) := [(2, 1), (0, 0), (0, 0), (0, 0), (0, 0), (0, 0), (0, 0)]
abbrev slX7 : List (Nat × Nat) := [(2, 1), (2, 2), (2, 3), (2, 4), (2, 5), (0, 0), (0, 0), (0, 0)]
abbrev slX8 : List (Nat × Nat) := [(2, 1), (2, 37), (2, 39), (2, 40), (2, 41), (2, 42), (2, 43), (3, 0), (0, 0), (0, 0), (0, 0), (0, 0), (0, 0), (0, 0), (0, 0), (0, 0), (1, 0)]
abbrev slX9 : List (Nat × Nat) := [(2, 1), (2, 3), (2, 4), (2, 40), (2, 48), (2, 49), (2, 53), (2, 58), (2, 74), (0, 0), (0, 0), (0, 0)]
abbrev slX10 : List (Nat × Nat) := [(2, 1), (0, 0), (0, 0), (0, 0), (0, 0), (0, 0), (0, 0), (2, 2), (2, 3), (0, 0), (0, 0), (0, 0), (0, 0), (2, 4), (2, 5), (0, 0), (2, 6), (0, 0), (0, 0), (0, 0), (0, 0), (2, 7), (0, 0), (0, 0), (0, 0), (0, 0), (0, 0), (0, 0), (0, 0), (0, 0), (2, 8), (2, 9), (2, 10), (0, 0), (0, 0), (0, 0), (0, 0), (0, 0), (2, 11), (2, 12), (0, 0), (2, 13), (2, 14), (0, 0), (0, 0), (0, 0), (0, 0), (0, 0), (0, 0), (2, 15), (2, 16), (1, 0)]
abbrev layC : List Sh := [(0, 9, slX9), (0, 6, slX6), (1, 64, []), (0, 8, slX8), (0, 7, slX7), (1, 30, []), (1, 30, []), (1, 30, []), (1, 30, []), (5, 30, [(1, 30)]), (1, 4, []), (1, 4, []), (1, 4, []), (1, 4, []), (1, 4, []), (1, 4, []), (1, 4, []), (1, 4, []), (1, 4, []), (1, 4, []), (1, 4, []), (1, 4, []), (1, 4, []), (1, 4, []), (1, 4, []), (1, 4, []), (1, 4, []), (1, 4, []), (1, 4, []), (1, 4, []), (1, 4, []), (1, 4, []), (1, 4, []), (1, 4, []), (1, 4, []), (1, 4, []), (1, 4, []), (1, 4, []), (1, 4, []), (1, 4, []), (0, 1, slX1), (1, 3, []), (1, 10, []), (1, 10, []), (1, 10, []), (1, 9, []), (1, 9, []), (0, 0, slX0), (4, 5, [(28, 5)]), (0, 4, slX4), (1, 10, []), (1, 10, []), (1, 10, []), (0, 2, slX2), (1, 5, []), (1, 5, []), (0, 1, slX1), (1, 3, []), (0, 3, slX3), (5, 5, [(1, 5)]), (1, 24, []), (1, 24, []), (1, 24, []), (1, 24, []), (1, 24, []), (3, 5, []), (3, 5, []), (5, 6, [(1, 6)]), (1, 12, []), (1, 12, []), (1, 12, []), (1, 12, []), (1, 12, []), (1, 12, []), (0, 5, slX5), (2, 1000, []), (0, 0, slX0), (0, 0, slX0), (0, 0, slX0), (0, 0, slX0), (0, 0, slX0)]
abbrev layM : List Sh := [(0, 10, slX10), (1, 64, []), (1, 30, []), (1, 30, []), (1, 30, []), (1, 30, []), (1, 25, []), (1, 30, []), (1, 10, []), (1, 10, []), (1, 10, []), (1, 60, []), (1, 72, []), (2, 1000, []), (2, 1000, []), (1, 25, []), (1, 30, [])]
theorem rng {n : Nat} {f : Nat → Bool} (h : (List.range n).all f = true) {j : Nat} (hj : j < n) : f j = true := List.all_eq_true.mp h j (List.mem_range.mpr hj)
theorem rw_9 {j : Nat} (h : j < 30) : layC[10 + j]? = some (1, 4, []) := of_decide_eq_true (rng (f := fun j => decide (layC[10 + j]? = some (1, 4, []))) (by decide +kernel) h)
theorem rw_59 {j : Nat} (h : j < 5) : layC[60 + j]? = some (1, 24, []) := of_decide_eq_true (rng (f := fun j => decide (layC[60 + j]? = some (1, 24, []))) (by decide +kernel) h)
theorem rw_67 {j : Nat} (h : j < 6) : layC[68 + j]? = some (1, 12, []) := of_decide_eq_true (rng (f := fun j => decide (layC[68 + j]? = some (1, 12, []))) (by decide +kernel) h)
theorem rw_48 {j : Nat} (h : j < 5) : layC[76 + j]? = some (0, 0, slX0) := of_decide_eq_true (rng (f := fun j => decide (layC[76 + j]? = some (0, 0, slX0))) (by decide +kernel) h)
theorem lay_lt {Y : List Sh} {o : Nat} {s : Sh} (h : Y[o]? = some s) : o < Y.length := (List.getElem?_eq_some_iff.mp h).1
theorem cn_val {o : Nat} (h : layC[o]? = some (0, 1, slX1)) : layC[o + 1]? = some (1, 3, []) := by
  have h1 := rng (n := 81) (f := fun o => decide (layC[o]? = some (0, 1, slX1)) == false || decide (layC[o + 1]? = some (1, 3, []))) (by decide +kernel) (lay_lt h)
  have h2 : decide (layC[o]? = some (0, 1, slX1)) = true := decide_eq_true h
  rw [h2] at h1
  exact of_decide_eq_true (by simpa using h1)
end
section
/-! ===== constructors: worlds that grow ===== -/
def σz : Sg := (fun _ _ => 0, fun _ _ => 0, fun _ _ => 0)
def dfl : List (Nat × Nat) → List Value
  | [] => []
  | (0, _) :: t => .int 0 :: dfl t
  | (1, _) :: t => .long 0 :: dfl t
  | _ :: t => .null :: dfl t
def bare : List (Nat × Nat) → Bool
  | [] => true
  | s :: t => (s.1 == 0 || s.1 == 1 || s.1 == 4) && bare t
def Zb (σ : Sg) (N : Nat) : Prop := ∀ o k, N ≤ o → rI σ o k = 0 ∧ rJ σ o k = 0
theorem slv_dfl {ad : Nat → Nat} {σ : Sg} {i : Nat} (h : ∀ k, rI σ i k = 0 ∧ rJ σ i k = 0) : ∀ (l : List (Nat × Nat)) (k0 : Nat), bare l = true → slv ad σ i k0 l = dfl l
  | [], _, _ => rfl
  | (a, b) :: t, k0, hb => by
    simp only [bare, Bool.and_eq_true] at hb
    have ih := slv_dfl (ad := ad) h t (k0 + 1) hb.2
    simp only [slv, ih]
    match a, hb.1 with
    | 0, _ => simp [slotV, dfl, (h k0).1]
    | 1, _ => simp [slotV, dfl, (h k0).2]
    | 4, _ => simp [slotV, dfl]
    | 2, h2 => simp at h2
    | 3, h2 => simp at h2
    | n + 5, h2 => simp at h2
/-- all that the cell i refers to is below N -/
def slc (σ : Sg) (N i : Nat) : Nat → List (Nat × Nat) → Prop
  | _, [] => True
  | k, s :: t => (s.1 = 2 → i + s.2 < N) ∧ (s.1 = 3 → rR σ i k < N) ∧ slc σ N i (k + 1) t
def shc (σ : Sg) (N i : Nat) (sh : Sh) : Prop := (sh.1 = 0 → slc σ N i 0 sh.2.2) ∧ (sh.1 ≠ 0 → ∀ j, j < rowM sh → i + rowB sh + j < N)
def Cl (σ : Sg) (Y : List Sh) : Prop := ∀ i sh, Y[i]? = some sh → shc σ Y.length i sh
theorem slc_mono {σ : Sg} {N M i : Nat} (h : N ≤ M) : ∀ (l : List (Nat × Nat)) (k : Nat), slc σ N i k l → slc σ M i k l
  | [], _, _ => trivial
  | s :: t, k, q => ⟨fun e => Nat.lt_of_lt_of_le (q.1 e) h, fun e => Nat.lt_of_lt_of_le (q.2.1 e) h, slc_mono h t (k + 1) q.2.2⟩
theorem shc_mono {σ : Sg} {N M i : Nat} {sh : Sh} (h : N ≤ M) (q : shc σ N i sh) : shc σ M i sh := ⟨fun e => slc_mono h _ _ (q.1 e), fun e j hj => Nat.lt_of_lt_of_le (q.2 e j hj) h⟩
theorem slc_R {σ σ' : Sg} {N i : Nat} (h : ∀ k, rR σ' i k = rR σ i k) : ∀ (l : List (Nat × Nat)) (k : Nat), slc σ N i k l → slc σ' N i k l
  | [], _, _ => trivial
  | s :: t, k, q => ⟨q.1, fun e => by rw [h]; exact q.2.1 e, slc_R h t (k + 1) q.2.2⟩
theorem shc_R {σ σ' : Sg} {N i : Nat} {sh : Sh} (h : ∀ k, rR σ' i k = rR σ i k) (q : shc σ N i sh) : shc σ' N i sh := ⟨fun e => slc_R h _ _ (q.1 e), q.2⟩
theorem slc_bare {σ : Sg} {N i : Nat} : ∀ (l : List (Nat × Nat)) (k : Nat), bare l = true → slc σ N i k l
  | [], _, _ => trivial
  | s :: t, k, h => by
    simp only [bare, Bool.and_eq_true, Bool.or_eq_true, beq_iff_eq] at h
    exact ⟨fun e => by omega, fun e => by omega, slc_bare t (k + 1) h.2⟩
theorem slv_shift {ad ad' : Nat → Nat} {σ σ' : Sg} {n N i : Nat} (ha : ∀ j, j < N → ad' (n + j) = ad j) (h1 : rI σ' (n + i) = rI σ i) (h2 : rJ σ' (n + i) = rJ σ i) (h3 : ∀ k, rR σ' (n + i) k = n + rR σ i k) : ∀ (l : List (Nat × Nat)) (k : Nat), slc σ N i k l → slv ad' σ' (n + i) k l = slv ad σ i k l
  | [], _, _ => rfl
  | (a, b) :: t, k, q => by
    simp only [slv]
    rw [slv_shift ha h1 h2 h3 t (k + 1) q.2.2]
    congr 1
    unfold slotV
    split
    · rw [h1]
    · rw [h2]
    next e => rw [Nat.add_assoc, ha _ (q.1 e)]
    next e => rw [h3, ha _ (q.2.1 e)]
    · rfl
theorem ent_shift {cys : Nat → ClassId} {ad ad' : Nat → Nat} {σ σ' : Sg} {n N i : Nat} {sh : Sh} (hc : shc σ N i sh) (ha : ∀ j, j < N → ad' (n + j) = ad j) (h1 : rI σ' (n + i) = rI σ i) (h2 : rJ σ' (n + i) = rJ σ i) (h3 : ∀ k, rR σ' (n + i) k = n + rR σ i k) : ent cys ad' σ' (n + i) sh = ent cys ad σ i sh := by
  have rows : sh.1 ≠ 0 → (fun j => if j < rowM sh then some (ad' (n + i + rowB sh + j)) else none) = (fun j => if j < rowM sh then some (ad (i + rowB sh + j)) else none) := by
    intro hne
    funext j
    by_cases hj : j < rowM sh
    · rw [if_pos hj, if_pos hj, ← ha _ (hc.2 hne j hj)]
      congr 2
      omega
    · rw [if_neg hj, if_neg hj]
  unfold ent
  split
  next e => rw [slv_shift ha h1 h2 h3 _ _ (hc.1 e)]
  · rw [h1]
  · rw [h2]
  · rw [h1]
  next e => rw [rows (by rw [e]; decide)]
  next e1 e2 e3 e4 e5 => rw [rows e1]
theorem wd_shift {cys : Nat → ClassId} {ad ad' : Nat → Nat} {σ σ' : Sg} {n N : Nat} (ha : ∀ j, j < N → ad' (n + j) = ad j) : ∀ (Y : List Sh) (i0 : Nat), (∀ i sh, Y[i]? = some sh → i0 + i < N ∧ shc σ N (i0 + i) sh ∧ rI σ' (n + (i0 + i)) = rI σ (i0 + i) ∧ rJ σ' (n + (i0 + i)) = rJ σ (i0 + i) ∧ ∀ k, rR σ' (n + (i0 + i)) k = n + rR σ (i0 + i) k) → wd cys ad' σ' (n + i0) Y = wd cys ad σ i0 Y
  | [], _, _ => rfl
  | sh :: t, i0, h => by
    simp only [wd]
    obtain ⟨h0, h1, h2, h3, h4⟩ := h 0 sh rfl
    rw [Nat.add_zero] at h0 h1 h2 h3 h4
    rw [ha i0 h0, ent_shift h1 ha h2 h3 h4, Nat.add_assoc, wd_shift ha t (i0 + 1) (fun i s hs => by
      have := h (i + 1) s hs
      rw [show i0 + (i + 1) = i0 + 1 + i by omega] at this
      exact this)]
theorem wd_app {cys : Nat → ClassId} {ad : Nat → Nat} {σ : Sg} : ∀ (Y1 Y2 : List Sh) (i0 : Nat), wd cys ad σ i0 (Y1 ++ Y2) = wd cys ad σ i0 Y1 ++ wd cys ad σ (i0 + Y1.length) Y2
  | [], Y2, i0 => rfl
  | s :: t, Y2, i0 => by
    simp only [wd, List.cons_append, List.length_cons]
    rw [wd_app t Y2 (i0 + 1), show i0 + 1 + t.length = i0 + (t.length + 1) by omega]
/-- the same world under addresses that agree where they are asked -/
theorem wd_same {cys : Nat → ClassId} {ad ad' : Nat → Nat} {σ σ' : Sg} {Y : List Sh} (hc : Cl σ Y) (ha : ∀ j, j < Y.length → ad' j = ad j) (hs : ∀ i, i < Y.length → rI σ' i = rI σ i ∧ rJ σ' i = rJ σ i ∧ ∀ k, rR σ' i k = rR σ i k) : wd cys ad' σ' 0 Y = wd cys ad σ 0 Y := by
  have := wd_shift (cys := cys) (ad := ad) (ad' := ad') (σ := σ) (σ' := σ') (n := 0) (N := Y.length) (fun j hj => by rw [Nat.zero_add]; exact ha j hj) Y 0 (fun i sh h => by
    have hl : i < Y.length := (List.getElem?_eq_some_iff.mp h).1
    rw [Nat.zero_add, Nat.zero_add]
    obtain ⟨h1, h2, h3⟩ := hs i hl
    exact ⟨hl, hc i sh h, h1, h2, fun k => by rw [h3, Nat.zero_add]⟩)
  exact this
theorem wd_setY {cys : Nat → ClassId} {ad : Nat → Nat} {σ : Sg} {sh : Sh} : ∀ (Y : List Sh) (i0 o : Nat), (wd cys ad σ i0 Y).set o (ad (i0 + o), ent cys ad σ (i0 + o) sh) = wd cys ad σ i0 (Y.set o sh)
  | [], _, _ => rfl
  | s :: t, i0, 0 => rfl
  | s :: t, i0, o + 1 => by
    simp only [wd, List.set_cons_succ]
    rw [show i0 + (o + 1) = i0 + 1 + o by omega, wd_setY t (i0 + 1) o]
theorem slv_setS {ad : Nat → Nat} {σ : Sg} {i : Nat} {s : Nat × Nat} : ∀ (l : List (Nat × Nat)) (k0 k : Nat), (slv ad σ i k0 l).set k (slotV ad σ i (k0 + k) s) = slv ad σ i k0 (l.set k s)
  | [], _, _ => rfl
  | a :: t, k0, 0 => rfl
  | a :: t, k0, k + 1 => by
    simp only [slv, List.set_cons_succ]
    rw [show k0 + (k + 1) = k0 + 1 + k by omega, slv_setS t (k0 + 1) k]
/-! the state behind a callee's making -/
def sapp (n : Nat) (σ σ' : Sg) : Sg := (fun o k => if o < n then σ.1 o k else σ'.1 (o - n) k, fun o k => if o < n then σ.2.1 o k else σ'.2.1 (o - n) k, fun o k => if o < n then σ.2.2 o k else n + σ'.2.2 (o - n) k)
def va_AOA (ty : FieldType) (U : State) : Prop := (Cond.arrayOver (.array ty)).before #[] U = true
theorem va_AOA.use {ty : FieldType} {A : Array Value} {U : State} (h : va_AOA ty U) : (Cond.arrayOver (.array ty)).before A U = true := h
theorem va_AOA.of {ty : FieldType} {A : Array Value} {U : State} (h : (Cond.arrayOver (.array ty)).before A U = true) : va_AOA ty U := h
theorem vi_bare (vm : Vm) (comp : ClassId) : (vm.bare.classes.findIdx? fun (x : Class) => match x.kind with | .array component _ => component == comp | _ => false) = (vm.classes.findIdx? fun (x : Class) => match x.kind with | .array component _ => component == comp | _ => false) := by
  simp only [Vm.bare, Array.findIdx?_map]
  rfl
theorem va_AOA.spec {ty : FieldType} {U : State} (h : va_AOA ty U) : ∃ (comp c : ClassId) (k : Class), U.vm.findClass (FieldType.array ty).toString = some comp ∧ (U.vm.classes.findIdx? fun x => match x.kind with | .array component _ => component == comp | _ => false) = some c ∧ U.vm.classes[c]? = some k ∧ k.kind = .array comp (.array ty) ∧ U.vm.findClass ("[" ++ (FieldType.array ty).toString) = some c := by
  unfold va_AOA Cond.before Cond.holds at h
  simp only [Cond.value, beq_iff_eq] at h
  cases hc : U.vm.findClass (FieldType.array ty).toString with
  | none => simp [hc] at h
  | some comp =>
    simp only [hc, Option.bind_some, Option.bind_eq_some_iff, Option.map_eq_some_iff] at h
    obtain ⟨c, hi, k, hk, hb⟩ := h
    obtain ⟨hlt, hp, -⟩ := Array.findIdx?_eq_some_iff_getElem.mp hi
    have hkk : U.vm.classes[c] = k := (Array.getElem?_eq_some_iff.mp hk).2
    rw [hkk] at hp
    cases hkind : k.kind with
    | array component ty2 =>
      rw [hkind] at hb hp
      simp at hb hp
      exact ⟨comp, c, k, rfl, hi, hk, by rw [hkind, hp, hb.1], hb.2⟩
    | _ => rw [hkind] at hb; simp at hb
theorem va_AOA.moved {ty : FieldType} {u U : State} (hvm : u.vm.Alike U.vm) (h : va_AOA ty u) : va_AOA ty U := by
  obtain ⟨comp, c, k, h1, h2, h3, h4, h5⟩ := h.spec
  obtain ⟨k', hk', he⟩ := hvm.2.2 _ _ h3
  have hi : (U.vm.classes.findIdx? fun (x : Class) => match x.kind with | .array component _ => component == comp | _ => false) = some c := by
    rw [← vi_bare]
    first | rw [hvm.bare_eq] | rw [← hvm.bare_eq]
    rw [vi_bare]
    exact h2
  have hkind : k'.kind = .array comp (.array ty) := by rw [he]; exact h4
  have f1 : U.vm.findClass (FieldType.array ty).toString = some comp := by rw [hvm.findClass]; exact h1
  have f2 : U.vm.findClass ("[" ++ (FieldType.array ty).toString) = some c := by rw [hvm.findClass]; exact h5
  unfold va_AOA Cond.before Cond.holds
  simp only [Cond.value]
  rw [f1, Option.bind_some]
  refine (congrArg (fun o : Option Nat => (o.bind (fun c => (U.vm.classes[c]?).map fun (k : Class) => match k.kind with | .array _ ty2 => decide (ty2 = FieldType.array ty) && decide (U.vm.findClass ("[" ++ (FieldType.array ty).toString) = some c) | _ => false) == some true)) hi).trans ?_
  simp [hk', hkind, f2]
def Ei (U : State) : Prop := (∀ w ∈ NW, va_Nw w U) ∧ va_AO RX0 U ∧ va_AOA .int U
theorem Ei.moved {s U : State} (hW : s.WarmedH U.vm) (h : Ei s) : Ei U := by
  refine ⟨fun w hw => ?_, h.2.1.moved hW.alike, h.2.2.moved hW.alike⟩
  have hn := (List.mem_filter.mp hw).2
  have hz := h.1 w hw
  cases w with
  | fieldLinkNest a i b n d h => exact va_Nw.warmF hW hz
  | methodLinkNest a i x h => exact va_Nw.warmM hW hz
  | _ => cases hn
theorem Ei.frame {U : State} {g : JFrame} {mk : MethodId} {a : Array Value} (h : Ei U) : Ei (U.calling g mk a) := by
  have al : U.vm.Alike (U.calling g mk a).vm := Vm.Alike.refl U.vm
  refine ⟨fun w hw => ?_, h.2.1.moved al, h.2.2.moved al⟩
  have hn := (List.mem_filter.mp hw).2
  have hz := h.1 w hw
  cases w with
  | fieldLinkNest a i b n d h => exact va_Nw.same rfl rfl hz
  | methodLinkNest a i x h => exact va_Nw.same rfl rfl hz
  | _ => cases hn
def GW (K : KT) (pc : Nat) (L : List (Option Value)) (st : List Value) (ci si : Nat) (P : Heap → List Loc → Prop) : Prop :=
  ∀ (H : Heap) (locs : List Loc) (ls : Array Slot), P H locs → LX ls L → W (kp K) (kl K) (ke K) (kR K) (ks K) (km K) (ka K) (kb K) (kmeth K) (kc K) H locs ci si (kQ K) (F0 (km K) pc ls st)
def CxI (K : KT) (cc : ByteArray) (own : String) (nL d mc ms : Nat) : Prop := Cb K cc own nL d ∧ (kmeth K).sig.returnType = none ∧ va_K (kD K) vwCl (tysOf (kcy K)) (ks K) ∧ (∀ q, (ks K).heap.size ≤ q → kA K q) ∧ Ei (ks K) ∧ mc ≤ (kR K).cells ∧ ms ≤ (kR K).slots
def WI (K : KT) (Y : List Sh) (σ : Sg) (ad : Nat → Nat) : Heap → List Loc → Prop := fun H locs => va_P (kD K) vwCl (wd (kcy K) ad σ 0 Y) H ∧ va_S (kA K) (ks K).heap H locs ∧ (∀ i j, i < Y.length → j < Y.length → ad i = ad j → i = j) ∧ (∀ i, i < Y.length → kA K (ad i)) ∧ Zb σ Y.length ∧ Cl σ Y
theorem WI.D {K : KT} {Y : List Sh} {σ : Sg} {ad : Nat → Nat} {H : Heap} {locs : List Loc} (h : WI K Y σ ad H locs) : va_D (kA K) (wd (kcy K) ad σ 0 Y) := wd_D h.2.2.1 h.2.2.2.1
section GWP
variable {K : KT} {cc : ByteArray} {own : String} {nL d pc ci si : Nat} {L : List (Option Value)} {st : List Value} {P : Heap → List Loc → Prop}
theorem n_iconst (C : Cb K cc own nL d) {n : Int} {v : Int32} (hd : decode cc pc = .ok (.iconst n, 1)) (hv : Int32.ofInt n = v) (k : GW K (pc + 1) L (.int v :: st) ci si P) : GW K pc L st ci si P := fun H locs ls hP hL => lv_iconst C.x C.b hd hv (k H locs ls hP hL)
theorem n_bipush (C : Cb K cc own nL d) {n : Int} {v : Int32} (hd : decode cc pc = .ok (.bipush n, 2)) (hv : (Int8.ofInt n).toInt32 = v) (k : GW K (pc + 2) L (.int v :: st) ci si P) : GW K pc L st ci si P := fun H locs ls hP hL => lv_bipush C.x C.b hd hv (k H locs ls hP hL)
theorem n_sipush (C : Cb K cc own nL d) {n : Int} {v : Int32} (hd : decode cc pc = .ok (.sipush n, 3)) (hv : (Int16.ofInt n).toInt32 = v) (k : GW K (pc + 3) L (.int v :: st) ci si P) : GW K pc L st ci si P := fun H locs ls hP hL => lv_sipush C.x C.b hd hv (k H locs ls hP hL)
theorem n_aload_n (C : Cb K cc own nL d) {n : Fin 4} {i : Nat} {x : Nat} (hd : decode cc pc = .ok (.aload_n n, 1)) (hi : (n : Nat) = i) (hl : L[i]? = some (some (.ref x))) (k : GW K (pc + 1) L (.ref x :: st) ci si P) : GW K pc L st ci si P := fun H locs ls hP hL => lv_aload_n C.x C.b hd hi (hL.2.2 _ _ hl) (k H locs ls hP hL)
theorem n_iload_n (C : Cb K cc own nL d) {n : Fin 4} {i : Nat} {x : Int32} (hd : decode cc pc = .ok (.iload_n n, 1)) (hi : (n : Nat) = i) (hl : L[i]? = some (some (.int x))) (k : GW K (pc + 1) L (.int x :: st) ci si P) : GW K pc L st ci si P := fun H locs ls hP hL => lv_iload_n C.x C.b hd hi (hL.2.2 _ _ hl) (k H locs ls hP hL)
theorem n_istore_n (C : Cb K cc own nL d) {n : Fin 4} {i : Nat} {x : Int32} {L' : List (Option Value)} (hd : decode cc pc = .ok (.istore_n n, 1)) (hi : (n : Nat) = i) (hn : i < L.length) (hL' : st1 L i (.int x) = L') (k : GW K (pc + 1) L' st ci si P) : GW K pc L (.int x :: st) ci si P := fun H locs ls hP hL => lv_istore_n C.x C.b hd hi hL.has hn rfl (fun ls' h' => k H locs ls' hP (hL' ▸ LX.s1 hn h'))
theorem n_astore_n (C : Cb K cc own nL d) {n : Fin 4} {i : Nat} {x : Nat} {L' : List (Option Value)} (hd : decode cc pc = .ok (.astore_n n, 1)) (hi : (n : Nat) = i) (hn : i < L.length) (hL' : st1 L i (.ref x) = L') (k : GW K (pc + 1) L' st ci si P) : GW K pc L (.ref x :: st) ci si P := fun H locs ls hP hL => lv_astore_n C.x C.b hd hi hL.has hn rfl (fun ls' h' => k H locs ls' hP (hL' ▸ LX.s1 hn h'))
theorem n_iinc (C : Cb K cc own nL d) {i : Nat} {n : Int} {x y : Int32} {L' : List (Option Value)} (hd : decode cc pc = .ok (.iinc i n, 3)) (hl : L[i]? = some (some (.int x))) (hy : x + Int32.ofInt n = y) (hn : i < L.length) (hL' : st1 L i (.int y) = L') (k : GW K (pc + 3) L' st ci si P) : GW K pc L st ci si P := fun H locs ls hP hL => by
  obtain ⟨j, hj⟩ := List.getElem?_of_mem ((prs_iff (q := (i, .int x))).mpr hl)
  exact lv_iinc C.x C.b hd hL.has hj hy hn rfl (fun ls' h' => k H locs ls' hP (hL' ▸ LX.s1 hn h'))
theorem n_dup (C : Cb K cc own nL d) {v : Value} (hd : decode cc pc = .ok (.dup, 1)) (hv : v.category = 1) (k : GW K (pc + 1) L (v :: v :: st) ci si P) : GW K pc L (v :: st) ci si P := fun H locs ls hP hL => lv_dup C.x C.b hd hv (k H locs ls hP hL)
theorem n_goto (C : Cb K cc own nL d) {off : Int} {tgt : Nat} (hd : decode cc pc = .ok (.goto off, 3)) (ht : (pc : Int) + off = (tgt : Int)) (k : GW K tgt L st ci si P) : GW K pc L st ci si P := fun H locs ls hP hL => lv_goto C.x C.b hd ht (k H locs ls hP hL)
theorem n_ge_t (C : Cb K cc own nL d) {x y : Int32} {off : Int} {tgt : Nat} (hd : decode cc pc = .ok (.if_icmp .ge off, 3)) (ht : (pc : Int) + off = (tgt : Int)) (h : y ≤ x) (k : GW K tgt L st ci si P) : GW K pc L (.int y :: .int x :: st) ci si P := fun H locs ls hP hL => lv_icmp_ge C.x C.b hd ht (fun _ => k H locs ls hP hL) (fun q => absurd h q)
theorem n_ge_f (C : Cb K cc own nL d) {x y : Int32} {off : Int} {tgt : Nat} (hd : decode cc pc = .ok (.if_icmp .ge off, 3)) (ht : (pc : Int) + off = (tgt : Int)) (h : ¬ y ≤ x) (k : GW K (pc + 3) L st ci si P) : GW K pc L (.int y :: .int x :: st) ci si P := fun H locs ls hP hL => lv_icmp_ge C.x C.b hd ht (fun q => absurd q h) (fun _ => k H locs ls hP hL)
end GWP
section GWI
variable {K : KT} {cc : ByteArray} {own : String} {nL d mc ms pc ci si : Nat} {L : List (Option Value)} {st : List Value} {Y : List Sh} {σ : Sg} {ad : Nat → Nat}
theorem n_obj (C : CxI K cc own nL d mc ms) {a idx : Nat} (hd : decode cc pc = .ok (.invokespecial idx, 3)) (hl : Cond.methodLink own idx objectInit ∈ AL) (hi : Cond.instanceMethod objectInit ∈ AL) (hc : Cond.code objectInit ⟨#[0xb1]⟩ 1 none ∈ AL) (hLn : L.length = nL) (hd1 : 1 ≤ d) (hr : (st.map fun v => v.category).sum ≤ 8) {P : Heap → List Loc → Prop}
    (k : GW K (pc + 3) L st ci si P) : GW K pc L (.ref a :: st) ci si P := fun H locs ls hP hL => by
  have hf := C.1.2.2.2.2.2.2.1
  have hlo := C.1.2.2.2.2.2.2.2
  refine W.objInit C.1.x C.1.b C.1.o (C.1.t hl) (C.1.t hi) (C.1.t hc) rfl (by show ls.size = _; rw [C.1.2.2.1, hL.1, hLn]) rfl hd (by omega) (by show 2 * 0 + _ + 12 ≤ _; omega) ?_
  exact k H locs ls hP hL
theorem n_get (C : CxI K cc own nL d mc ms) {o kx k index N : Nat} {C0 : String} {T : u_T} {sl : List (Nat × Nat)} {s : Nat × Nat} {v : Value} (hd : decode cc pc = .ok (.getfield index, 3)) (hY : Y[o]? = some (0, kx, sl)) (hs : sl[k]? = some s) (hc : vwCl[kx]? = some (C0, T, N)) (hk : k < N) (hl : FL own index (T k).1 (T k).2.1 (T k).2.2.1) (hin : ∀ w ∈ u_ws C0 T N, w ∈ AL) (hv : slotV ad σ o k s = v)
    (kk : GW K (pc + 3) L (v :: st) ci si (WI K Y σ ad)) : GW K pc L (.ref (ad o) :: st) ci si (WI K Y σ ad) := fun H locs ls hP hL => by
  subst hv
  have he : (wd (kcy K) ad σ 0 Y)[o]? = some (ad o, .inr (kx, slv ad σ o 0 sl)) := wd_at hY
  have hv : (slv ad σ o 0 sl)[k]? = some (slotV ad σ o k s) := by rw [slv_get, hs, Nat.zero_add]; rfl
  rcases hl with hl | ⟨host, hl⟩
  · exact va_get C.1.x C.1.b C.1.fix.2.2.2.2 hin C.1.o C.2.2.1 hP.1 o he hc k hk (C.1.t hl) (fun _ h => h) hv hd (kk H locs ls hP hL)
  · exact va_getN C.1.x C.1.b C.1.fix.2.2.2.2 hin C.1.o C.2.2.1 hP.1 o he hc k hk (va_Nw.use rfl (C.2.2.2.2.1.1 _ hl)) (fun _ h => h) hv hd (kk H locs ls hP hL)
/-- a field of the object that is being made -/
theorem n_put (C : CxI K cc own nL d mc ms) {o kx k index N : Nat} {C0 : String} {T : u_T} {ty0 : Nat → FieldType} {sl : List (Nat × Nat)} {v : Value} {Y' : List Sh} {σ' : Sg} (hin2 : (kmeth K).name = "<init>") (hd : decode cc pc = .ok (.putfield index, 3)) (hY : Y[o]? = some (0, kx, sl)) (hlen : k < sl.length) (hc : vwCl[kx]? = some (C0, T, N)) (hk : k < N) (hl : Cond.fieldLink own index (T k).1 (T k).2.1 (T k).2.2.1 ∈ AL) (hin : ∀ w ∈ u_ws C0 T N, w ∈ AL)
    (hty : ∀ k, k < N → parseFieldDescriptor (T k).2.2.1 = some (ty0 k)) (hnm : ∀ a, a < N → ∀ b, b < N → a ≠ b → (T a).2.1 ≠ (T b).2.1) (hdecl : (T k).1 = own) (hn : narrow (ty0 k) v = v) (hf : fits (ty0 k) v = true)
    (hw : (wd (kcy K) ad σ 0 Y).set o (ad o, .inr (kx, (slv ad σ o 0 sl).set k v)) = wd (kcy K) ad σ' 0 Y') (hl' : Y'.length = Y.length) (hz : Zb σ Y.length → Zb σ' Y'.length) (hcl : Cl σ Y → Cl σ' Y')
    (kk : GW K (pc + 3) L st ci si (WI K Y' σ' ad)) : GW K pc L (v :: .ref (ad o) :: st) ci si (WI K Y σ ad) := fun H locs ls hP hL => by
  have he : (wd (kcy K) ad σ 0 Y)[o]? = some (ad o, .inr (kx, slv ad σ o 0 sl)) := wd_at hY
  have hlen2 : k < (slv ad σ o 0 sl).length := by rw [slv_len]; exact hlen
  have go : ∀ (H1 : Heap) (locs1 : List Loc), va_P (kD K) vwCl ((wd (kcy K) ad σ 0 Y).set o (ad o, .inr (kx, (slv ad σ o 0 sl).set k v))) H1 → va_S (kA K) (ks K).heap H1 locs1 → W (kp K) (kl K) (ke K) (kR K) (ks K) (km K) (ka K) (kb K) (kmeth K) (kc K) H1 locs1 ci si (kQ K) (F0 (km K) (pc + 3) ls st) := fun H1 locs1 q1 q3 => kk H1 locs1 ls ⟨hw ▸ q1, q3, by rw [hl']; exact hP.2.2.1, by rw [hl']; exact hP.2.2.2.1, hz hP.2.2.2.2.1, hcl hP.2.2.2.2.2⟩ hL
  cases hfin : (T k).2.2.2 with
  | false => exact va_put C.1.x C.1.b C.1.fix.2.2.2.2 hin ty0 hty hnm C.1.o C.2.2.1 hP.1 hP.D hP.2.1 o he hc k hk (C.1.t hl) (fun _ h => h) hfin (hty k hk) hn hf hlen2 hd (fun H1 locs1 q1 q2 q3 => go H1 locs1 q1 q3)
  | true => exact va_putF C.1.x C.1.b C.1.fix.2.2.2.2 hin ty0 hty hnm C.1.o C.2.2.1 hP.1 hP.D hP.2.1 o he hc k hk (C.1.t hl) (fun _ h => h) hfin hin2 hdecl (hty k hk) hn hf hlen2 hd (fun H1 locs1 q1 q2 q3 => go H1 locs1 q1 q3)
def adx (ad : Nat → Nat) (n : Nat) (f : Nat → Nat) : Nat → Nat := fun i => if i < n then ad i else f (i - n)
theorem adx_lo {ad f : Nat → Nat} {n i : Nat} (h : i < n) : adx ad n f i = ad i := if_pos h
theorem adx_hi {ad f : Nat → Nat} {n i : Nat} : adx ad n f (n + i) = f i := by
  unfold adx
  rw [if_neg (by omega)]
  congr 1
  omega
/-- cells come -/
theorem WI.push {H H1 : Heap} {locs locs1 : List Loc} (hP : WI K Y σ ad H locs) (Ys : List Sh) (f : Nat → Nat) (q1 : va_P (kD K) vwCl (wd (kcy K) ad σ 0 Y ++ wd (kcy K) (adx ad Y.length f) σ Y.length Ys) H1) (q2 : va_D (kA K) (wd (kcy K) ad σ 0 Y ++ wd (kcy K) (adx ad Y.length f) σ Y.length Ys)) (q3 : va_S (kA K) (ks K).heap H1 locs1)
    (hc : ∀ i sh, Ys[i]? = some sh → shc σ (Y.length + Ys.length) (Y.length + i) sh) : WI K (Y ++ Ys) σ (adx ad Y.length f) H1 locs1 := by
  have hw : wd (kcy K) (adx ad Y.length f) σ 0 (Y ++ Ys) = wd (kcy K) ad σ 0 Y ++ wd (kcy K) (adx ad Y.length f) σ Y.length Ys := by
    rw [wd_app, wd_same hP.2.2.2.2.2 (fun j hj => adx_lo hj) (fun i _ => ⟨rfl, rfl, fun _ => rfl⟩), Nat.zero_add]
  rw [← hw] at q1 q2
  have key : ∀ i, i < (Y ++ Ys).length → ∃ e, (wd (kcy K) (adx ad Y.length f) σ 0 (Y ++ Ys))[i]? = some (adx ad Y.length f i, e) := fun i hi => ⟨_, wd_at (List.getElem?_eq_getElem hi)⟩
  refine ⟨q1, q3, fun i j hi hj hij => ?_, fun i hi => ?_, fun o k ho => hP.2.2.2.2.1 o k (by rw [List.length_append] at ho; omega), fun i sh hi => ?_⟩
  · obtain ⟨e1, h1⟩ := key i hi
    obtain ⟨e2, h2⟩ := key j hj
    exact q2.1 i j _ _ h1 h2 hij
  · obtain ⟨e1, h1⟩ := key i hi
    exact q2.2 i _ h1
  · rw [List.length_append]
    by_cases h1 : i < Y.length
    · rw [List.getElem?_append_left h1] at hi
      exact shc_mono (by omega) (hP.2.2.2.2.2 i sh hi)
    · rw [List.getElem?_append_right (by omega)] at hi
      have := hc _ sh hi
      rw [show Y.length + (i - Y.length) = i by omega] at this
      exact this
/-- one cell comes -/
theorem WI.push1 {H H1 : Heap} {locs locs1 : List Loc} {sh : Sh} {e : va_E} {q : Nat} (hP : WI K Y σ ad H locs) (q1 : va_P (kD K) vwCl (wd (kcy K) ad σ 0 Y ++ [(q, e)]) H1) (q2 : va_D (kA K) (wd (kcy K) ad σ 0 Y ++ [(q, e)])) (q3 : va_S (kA K) (ks K).heap H1 locs1)
    (he : ∀ ad', ent (kcy K) ad' σ Y.length sh = e) (hc : shc σ (Y.length + 1) Y.length sh) : ∃ ad', (∀ i, i < Y.length → ad' i = ad i) ∧ ad' Y.length = q ∧ WI K (Y ++ [sh]) σ ad' H1 locs1 := by
  have eN : adx ad Y.length (fun _ => q) Y.length = q := by
    have := adx_hi (ad := ad) (f := fun _ => q) (n := Y.length) (i := 0)
    exact this
  have hw : wd (kcy K) (adx ad Y.length (fun _ => q)) σ Y.length [sh] = [(q, e)] := by
    show [(adx ad Y.length (fun _ => q) Y.length, ent (kcy K) (adx ad Y.length (fun _ => q)) σ Y.length sh)] = _
    rw [eN, he]
  refine ⟨adx ad Y.length (fun _ => q), fun i hi => adx_lo hi, eN, hP.push [sh] (fun _ => q) (by rw [hw]; exact q1) (by rw [hw]; exact q2) q3 (fun i s hi => ?_)⟩
  have hz0 : i < 1 := (List.getElem?_eq_some_iff.mp hi).1
  rw [show i = 0 by omega] at hi ⊢
  cases hi
  exact hc
theorem n_new (C : CxI K cc own nL d mc ms) {kx index N : Nat} {C0 : String} {T : u_T} {ty0 : Nat → FieldType} {sl : List (Nat × Nat)} (hd : decode cc pc = .ok (.new index, 3)) (hc : vwCl[kx]? = some (C0, T, N)) (hin : ∀ w ∈ u_ws C0 T N, w ∈ AL) (hty : ∀ k, k < N → parseFieldDescriptor (T k).2.2.1 = some (ty0 k)) (h1 : Cond.classLink own index C0 ∈ AL) (h2 : Cond.instantiable C0 N ∈ AL) (h3 : Cond.initialized C0 ∈ AL) (hb : bare sl = true) (hdf : ∀ j, j < N → defaultValue (ty0 j) = vp_V (dfl sl) j) (hci : ci + 1 ≤ mc) (hsi : si + N ≤ ms)
    (kk : ∀ ad', (∀ i, i < Y.length → ad' i = ad i) → (∀ k, rI σ Y.length k = 0 ∧ rJ σ Y.length k = 0) → GW K (pc + 3) L (.ref (ad' Y.length) :: st) (ci + 1) (si + N) (WI K (Y ++ [(0, kx, sl)]) σ ad')) : GW K pc L st ci si (WI K Y σ ad) := fun H locs ls hP hL => by
  have hm1 := C.2.2.2.2.2.1
  have hm2 := C.2.2.2.2.2.2
  refine va_new (fs := dfl sl) C.1.x C.1.b C.1.fix.2.2.2.2 hin ty0 hty C.1.o (C.1.t h1) (C.1.t h2) (C.1.t h3) C.2.2.1 hP.1 hP.D hP.2.1 C.2.2.2.1 hc hdf (by omega) (by omega) hd (fun q H1 q1 q2 q3 => ?_)
  obtain ⟨ad', e0, eN, hW⟩ := hP.push1 (sh := (0, kx, sl)) q1 q2 q3 (fun ad' => congrArg (fun z => Sum.inr (kx, z)) (slv_dfl (fun k => hP.2.2.2.2.1 _ k (Nat.le_refl _)) sl 0 hb)) ⟨fun _ => slc_bare sl 0 hb, fun e => absurd rfl e⟩
  have hk := kk ad' e0 (fun k => hP.2.2.2.2.1 _ k (Nat.le_refl _)) H1 locs ls hW hL
  rw [eN] at hk
  exact hk
theorem zI (hz : Zb σ Y.length) : rI σ Y.length = fun _ => 0 := funext fun k => (hz _ k (Nat.le_refl _)).1
theorem zJ (hz : Zb σ Y.length) : rJ σ Y.length = fun _ => 0 := funext fun k => (hz _ k (Nat.le_refl _)).2
theorem n_newI (C : CxI K cc own nL d mc ms) {n : Int32} {N : Nat} (hd : decode cc pc = .ok (.newarray .int, 2)) (hw : Cond.arrayClass .int ∈ AL) (hn : ¬ n < 0) (hN : n.toNatClampNeg = N) (hb : N * 4 ≤ 536870912) (hci : ci + 1 ≤ mc) (hsi : si + N ≤ ms)
    (kk : ∀ ad', (∀ i, i < Y.length → ad' i = ad i) → GW K (pc + 2) L (.ref (ad' Y.length) :: st) (ci + 1) (si + N) (WI K (Y ++ [(1, N, [])]) σ ad')) : GW K pc L (.int n :: st) ci si (WI K Y σ ad) := fun H locs ls hP hL => by
  have hm1 := C.2.2.2.2.2.1
  have hm2 := C.2.2.2.2.2.2
  refine va_newa (atype := .int) (ty := .int) (a0 := (N, .inl (fun _ => 0))) C.1.x C.1.b (C.1.t hw) rfl C.2.2.1 hP.1 hP.D hP.2.1 C.2.2.2.1 (fun cA => by rw [vp_cell_i]; rfl) hn hN (by show N * 4 ≤ _; exact hb) (by omega) (by omega) hd (fun q cA H1 qK q1 q2 q3 => ?_)
  have ec : cA = kcy K 0 := by
    have a1 : va_RA (ks K) cA .int := (qK.2 5 (cA, .int) rfl).2
    have a2 : va_RA (ks K) (kcy K 0) .int := (C.2.2.1.2 0 _ rfl).2
    exact Option.some.inj (a1.symm.trans a2)
  subst ec
  obtain ⟨ad', e0, eN, hW⟩ := hP.push1 (sh := (1, N, [])) q1 q2 q3 (fun ad' => by show Sum.inl (kcy K 0, N, Sum.inl (rI σ Y.length)) = _; rw [zI hP.2.2.2.2.1]) ⟨fun e => (by cases e), fun _ j hj => absurd hj (Nat.not_lt_zero _)⟩
  have hk := kk ad' e0 H1 locs ls hW hL
  rw [eN] at hk
  exact hk
theorem n_newJ (C : CxI K cc own nL d mc ms) {n : Int32} {N : Nat} (hd : decode cc pc = .ok (.newarray .long, 2)) (hw : Cond.arrayClass .long ∈ AL) (hn : ¬ n < 0) (hN : n.toNatClampNeg = N) (hb : N * 8 ≤ 536870912) (hci : ci + 1 ≤ mc) (hsi : si + N ≤ ms)
    (kk : ∀ ad', (∀ i, i < Y.length → ad' i = ad i) → GW K (pc + 2) L (.ref (ad' Y.length) :: st) (ci + 1) (si + N) (WI K (Y ++ [(2, N, [])]) σ ad')) : GW K pc L (.int n :: st) ci si (WI K Y σ ad) := fun H locs ls hP hL => by
  have hm1 := C.2.2.2.2.2.1
  have hm2 := C.2.2.2.2.2.2
  refine va_newa (atype := .long) (ty := .long) (a0 := (N, .inr (.inl (fun _ => 0)))) C.1.x C.1.b (C.1.t hw) rfl C.2.2.1 hP.1 hP.D hP.2.1 C.2.2.2.1 (fun cA => by rw [vp_cell_l]; rfl) hn hN (by show N * 8 ≤ _; exact hb) (by omega) (by omega) hd (fun q cA H1 qK q1 q2 q3 => ?_)
  have ec : cA = kcy K 1 := by
    have a1 : va_RA (ks K) cA .long := (qK.2 5 (cA, .long) rfl).2
    have a2 : va_RA (ks K) (kcy K 1) .long := (C.2.2.1.2 1 _ rfl).2
    exact Option.some.inj (a1.symm.trans a2)
  subst ec
  obtain ⟨ad', e0, eN, hW⟩ := hP.push1 (sh := (2, N, [])) q1 q2 q3 (fun ad' => by show Sum.inl (kcy K 1, N, Sum.inr (Sum.inl (rJ σ Y.length))) = _; rw [zJ hP.2.2.2.2.1]) ⟨fun e => (by cases e), fun _ j hj => absurd hj (Nat.not_lt_zero _)⟩
  have hk := kk ad' e0 H1 locs ls hW hL
  rw [eN] at hk
  exact hk
theorem n_newZ (C : CxI K cc own nL d mc ms) {n : Int32} {N : Nat} (hd : decode cc pc = .ok (.newarray .boolean, 2)) (hw : Cond.arrayClass .boolean ∈ AL) (hn : ¬ n < 0) (hN : n.toNatClampNeg = N) (hb : N * 1 ≤ 536870912) (hci : ci + 1 ≤ mc) (hsi : si + N ≤ ms)
    (kk : ∀ ad', (∀ i, i < Y.length → ad' i = ad i) → GW K (pc + 2) L (.ref (ad' Y.length) :: st) (ci + 1) (si + N) (WI K (Y ++ [(3, N, [])]) σ ad')) : GW K pc L (.int n :: st) ci si (WI K Y σ ad) := fun H locs ls hP hL => by
  have hm1 := C.2.2.2.2.2.1
  have hm2 := C.2.2.2.2.2.2
  refine va_newa (atype := .boolean) (ty := .boolean) (a0 := (N, .inl (fun _ => 0))) C.1.x C.1.b (C.1.t hw) rfl C.2.2.1 hP.1 hP.D hP.2.1 C.2.2.2.1 (fun cA => by rw [vp_cell_i]; rfl) hn hN (by show N * 1 ≤ _; exact hb) (by omega) (by omega) hd (fun q cA H1 qK q1 q2 q3 => ?_)
  have ec : cA = kcy K 2 := by
    have a1 : va_RA (ks K) cA .boolean := (qK.2 5 (cA, .boolean) rfl).2
    have a2 : va_RA (ks K) (kcy K 2) .boolean := (C.2.2.1.2 2 _ rfl).2
    exact Option.some.inj (a1.symm.trans a2)
  subst ec
  obtain ⟨ad', e0, eN, hW⟩ := hP.push1 (sh := (3, N, [])) q1 q2 q3 (fun ad' => by show Sum.inl (kcy K 2, N, Sum.inl (rI σ Y.length)) = _; rw [zI hP.2.2.2.2.1]) ⟨fun e => (by cases e), fun _ j hj => absurd hj (Nat.not_lt_zero _)⟩
  have hk := kk ad' e0 H1 locs ls hW hL
  rw [eN] at hk
  exact hk
theorem n_newA (C : CxI K cc own nL d mc ms) {n : Int32} {N b index : Nat} (hd : decode cc pc = .ok (.anewarray index, 3)) (hw : Cond.classLink own index RX0 ∈ AL) (hn : ¬ n < 0) (hN : n.toNatClampNeg = N) (hb : N * 4 ≤ 536870912) (hci : ci + 1 ≤ mc) (hsi : si + N ≤ ms)
    (kk : ∀ ad', (∀ i, i < Y.length → ad' i = ad i) → GW K (pc + 3) L (.ref (ad' Y.length) :: st) (ci + 1) (si + N) (WI K (Y ++ [(4, N, [(b, 0)])]) σ ad')) : GW K pc L (.int n :: st) ci si (WI K Y σ ad) := fun H locs ls hP hL => by
  have hm1 := C.2.2.2.2.2.1
  have hm2 := C.2.2.2.2.2.2
  refine va_newq (C := RX0) C.1.x C.1.b C.1.o (C.1.t hw) C.2.2.2.2.1.2.1 C.2.2.1 hP.1 hP.D hP.2.1 C.2.2.2.1 hn hN hb (by omega) (by omega) hd (fun q cA H1 qK q1 q2 q3 => ?_)
  have ec : cA = kcy K 3 := by
    obtain ⟨_, _, -, -, -, a1⟩ : va_RA (ks K) cA (.object RX0) := (qK.2 5 (cA, .object RX0) rfl).2
    obtain ⟨_, _, -, -, -, a2⟩ : va_RA (ks K) (kcy K 3) (.object RX0) := (C.2.2.1.2 3 _ rfl).2
    exact Option.some.inj (a1.symm.trans a2)
  subst ec
  obtain ⟨ad', e0, eN, hW⟩ := hP.push1 (sh := (4, N, [(b, 0)])) q1 q2 q3 (fun ad' => by
    show Sum.inl (kcy K 3, N, Sum.inr (Sum.inr (Sum.inr (Sum.inr (fun j => if j < 0 then some (ad' (Y.length + b + j)) else none))))) = _
    congr 8) ⟨fun e => (by cases e), fun _ j hj => absurd hj (Nat.not_lt_zero _)⟩
  have hk := kk ad' e0 H1 locs ls hW hL
  rw [eN] at hk
  exact hk
theorem n_iast (C : CxI K cc own nL d mc ms) {o n : Nat} {z : List (Nat × Nat)} {i x : Int32} (hd : decode cc pc = .ok (.iastore, 1)) (hY : Y[o]? = some (1, n, z)) (hi : inb i n = true)
    (kk : GW K (pc + 1) L st ci si (WI K Y (wI σ o i.toNatClampNeg x) ad)) : GW K pc L (.int x :: .int i :: .ref (ad o) :: st) ci si (WI K Y σ ad) := fun H locs ls hP hL => by
  have he : (wd (kcy K) ad σ 0 Y)[o]? = some (ad o, .inl (kcy K 0, n, .inl (rI σ o))) := wd_at hY
  have hlt : o < Y.length := lay_lt hY
  have hw := wd_put (cys := kcy K) (ad := ad) (σ := σ) (σ' := wI σ o i.toNatClampNeg x) (e := .inl (kcy K 0, n, .inl (upd (rI σ o) i.toNatClampNeg x))) hY (fun q sh h => ent_wI q sh h) (by show Sum.inl (kcy K 0, n, Sum.inl (rI _ o)) = _; rw [rI_upd])
  refine va_iast C.1.x C.1.b C.2.2.1 hP.1 hP.D hP.2.1 o 0 he rfl (inb_in hi) hd (fun H1 locs1 q1 q2 q3 => kk H1 locs1 ls ⟨hw ▸ q1, q3, hP.2.2.1, hP.2.2.2.1, fun p k hp => ?_, fun j sh hj => shc_R (σ := σ) (fun _ => rfl) (hP.2.2.2.2.2 j sh hj)⟩ hL)
  have := hP.2.2.2.2.1 p k hp
  refine ⟨?_, this.2⟩
  have hne : ¬ p = o := by omega
  show (if p = o ∧ k = _ then x else σ.1 p k) = 0
  rw [if_neg (fun q => hne q.1)]
  exact this.1
theorem n_aast (C : CxI K cc own nL d mc ms) {o v n b k : Nat} {sl : List (Nat × Nat)} {i : Int32} (hd : decode cc pc = .ok (.aastore, 1)) (hY : Y[o]? = some (4, n, [(b, k)])) (hv : Y[v]? = some (0, 0, sl)) (hi : inb i n = true) (hik : i.toNatClampNeg = k) (hvk : v = o + b + k)
    (kk : GW K (pc + 1) L st ci si (WI K (Y.set o (4, n, [(b, k + 1)])) σ ad)) : GW K pc L (.ref (ad v) :: .int i :: .ref (ad o) :: st) ci si (WI K Y σ ad) := fun H locs ls hP hL => by
  have he : (wd (kcy K) ad σ 0 Y)[o]? = some (ad o, .inl (kcy K 3, n, .inr (.inr (.inr (.inr (fun j => if j < k then some (ad (o + b + j)) else none)))))) := wd_at hY
  have hev : (wd (kcy K) ad σ 0 Y)[v]? = some (ad v, .inr (0, slv ad σ v 0 sl)) := wd_at hv
  have hlt : o < Y.length := lay_lt hY
  have hltv : v < Y.length := lay_lt hv
  have hw : (wd (kcy K) ad σ 0 Y).set o (ad o, .inl (kcy K 3, n, .inr (.inr (.inr (.inr (va_up (fun j => if j < k then some (ad (o + b + j)) else none) i.toNatClampNeg (some (ad v)))))))) = wd (kcy K) ad σ 0 (Y.set o (4, n, [(b, k + 1)])) := by
    have := wd_setY (cys := kcy K) (ad := ad) (σ := σ) (sh := (4, n, [(b, k + 1)])) Y 0 o
    rw [Nat.zero_add] at this
    rw [← this]
    congr 2
    show Sum.inl (kcy K 3, n, _) = Sum.inl (kcy K 3, n, Sum.inr (Sum.inr (Sum.inr (Sum.inr (fun j => if j < k + 1 then some (ad (o + b + j)) else none)))))
    congr 7
    funext j
    unfold va_up
    rw [hik, hvk]
    by_cases h1 : j = k
    · subst h1
      rw [if_pos rfl, if_pos (by omega)]
    · rw [if_neg h1]
      show (if j < k then some (ad (o + b + j)) else none) = _
      by_cases h2 : j < k
      · rw [if_pos h2, if_pos (by omega)]
      · rw [if_neg h2, if_neg (by omega)]
  refine va_astq (r := (RX0, TX0, 6)) C.1.x C.1.b C.2.2.1 hP.1 hP.D hP.2.1 o 3 v 0 he rfl hev rfl (inb_in hi) hd (fun H1 locs1 q1 q2 q3 => kk H1 locs1 ls ⟨hw ▸ q1, q3, ?_, ?_, ?_, ?_⟩ hL)
  · rw [List.length_set]; exact hP.2.2.1
  · rw [List.length_set]; exact hP.2.2.2.1
  · rw [List.length_set]; exact hP.2.2.2.2.1
  · intro j sh hj
    rw [List.length_set]
    rw [List.getElem?_set] at hj
    split at hj
    next e =>
      subst e
      first | cases hj | (rw [if_pos hlt] at hj; cases hj)
      refine ⟨fun e => (by cases e), fun _ q hq => ?_⟩
      have hc := hP.2.2.2.2.2 o _ hY
      have hq' : q < k + 1 := hq
      show o + b + q < Y.length
      by_cases h2 : q < k
      · exact hc.2 (fun e => by cases e) q h2
      · omega
    next e => exact hP.2.2.2.2.2 j sh hj
theorem vr_outer (c : ClassId) (N h0 : Nat) : ∀ i : Nat, Jvm.Free.Multi.outerC c N h0 i = arrV c N (fun j => va_rf (if j < i then some (h0 + 1 + j) else none))
  | 0 => by
    show ({ cls := c, slots := Array.replicate N .null, vm := .none } : Cell) = _
    rw [arrV_new]
    refine congrArg (arrV c N) (funext fun j => ?_)
    simp [va_rf]
  | i + 1 => by
    show (Jvm.Free.Multi.outerC c N h0 i).setSlot i (.ref (h0 + 1 + i)) = _
    rw [vr_outer c N h0 i, arrV_store]
    refine congrArg (arrV c N) (funext fun j => ?_)
    by_cases e : j = i
    · subst e
      simp [updV, va_rf]
    · by_cases h : j < i
      · simp [updV, e, h, Nat.lt_succ_of_lt h]
      · simp [updV, e, h, show ¬ j < i + 1 by omega]
theorem wd_rep {cys : Nat → ClassId} {ad : Nat → Nat} {σ : Sg} {sh : Sh} : ∀ (n i0 k : Nat) (q : Nat × va_E), (wd cys ad σ i0 (List.replicate n sh))[k]? = some q → k < n ∧ q = (ad (i0 + k), ent cys ad σ (i0 + k) sh) := by
  intro n i0 k q h
  rw [wd_get, List.getElem?_replicate] at h
  split at h
  next hk => cases h; exact ⟨hk, rfl⟩
  next => cases h
theorem n_alen (C : CxI K cc own nL d mc ms) {o n b k : Nat} {v : Int32} (hd : decode cc pc = .ok (.arraylength, 1)) (hY : Y[o]? = some (4, n, [(b, k)])) (hv : Int32.ofNat n = v)
    (kk : GW K (pc + 1) L (.int v :: st) ci si (WI K Y σ ad)) : GW K pc L (.ref (ad o) :: st) ci si (WI K Y σ ad) := fun H locs ls hP hL => by
  have he : (wd (kcy K) ad σ 0 Y)[o]? = some (ad o, .inl (kcy K 3, n, .inr (.inr (.inr (.inr (fun j => if j < k then some (ad (o + b + j)) else none)))))) := wd_at hY
  exact va_alen C.1.x C.1.b C.2.2.1 hP.1 o 3 he rfl hv hd (kk H locs ls hP hL)
theorem n_mna (C : CxI K cc own nL d mc ms) {n m : Int32} {N M index : Nat} (hd : decode cc pc = .ok (.multianewarray index 2, 4)) (hw : Cond.classLink own index ("[" ++ (FieldType.array .int).toString) ∈ AL) (hw2 : Cond.arrayClass .int ∈ AL) (hn : ¬ n < 0) (hm : ¬ m < 0) (hN : n.toNatClampNeg = N) (hM : m.toNatClampNeg = M) (hb1 : N * 4 ≤ 536870912) (hb2 : M * 4 ≤ 536870912) (hci : ci + (1 + N) ≤ mc) (hsi : si + (N + N * M) ≤ ms)
    (kk : ∀ ad', (∀ i, i < Y.length → ad' i = ad i) → GW K (pc + 4) L (.ref (ad' Y.length) :: st) (ci + 1 + N) (si + N + N * M) (WI K (Y ++ ((5, N, [(1, N)]) :: List.replicate N (1, M, []))) σ ad')) : GW K pc L (.int m :: .int n :: st) ci si (WI K Y σ ad) := fun H locs ls hP hL => by
  subst hN
  subst hM
  have hm1 := C.2.2.2.2.2.1
  have hm2 := C.2.2.2.2.2.2
  intro T hT Xs
  obtain ⟨vm₁, cA, comp, -, fA, fC, -, -, X', step⟩ := Xs.multianewarray2F C.1.x C.1.o (C.1.t hw) (va_AOA.use C.2.2.2.2.1.2.2) (C.1.t hw2) (g := F0 (km K) pc ls (.int m :: .int n :: st)) rfl (by rw [C.1.b]; exact hd) rfl hn hm hb1 (by show _ * 4 ≤ _; exact hb2) (by omega) rfl rfl (by omega) (by omega)
  have eA : cA = kcy K 4 := by
    have a2 : va_RA (ks K) (kcy K 4) (.array .int) := (C.2.2.1.2 4 _ rfl).2
    exact Option.some.inj (fA.symm.trans a2)
  have eC : comp = kcy K 0 := by
    have a2 : va_RA (ks K) (kcy K 0) .int := (C.2.2.1.2 0 _ rfl).2
    exact Option.some.inj (fC.symm.trans a2)
  subst eA
  subst eC
  generalize hF : Jvm.Free.Multi.fill (T.setVm vm₁) (kcy K 4) (kcy K 0) n.toNatClampNeg m.toNatClampNeg (defaultValue .int) n.toNatClampNeg = F at X' step
  have hTh : (T.setVm vm₁).heap = H := hT
  obtain ⟨f1, f2, -, -⟩ := Jvm.Free.Multi.fill_facts (T.setVm vm₁) (kcy K 4) (kcy K 0) n.toNatClampNeg m.toNatClampNeg (defaultValue .int) n.toNatClampNeg
  rw [hF, hTh] at f1 f2
  have hold : ∀ x : Nat, x < H.size → F.heap[x]? = H[x]? := fun x hx => by
    have := Jvm.Free.Multi.fill_old (T.setVm vm₁) (kcy K 4) (kcy K 0) n.toNatClampNeg m.toNatClampNeg (defaultValue .int) (a := x) (by rw [hTh]; exact hx) n.toNatClampNeg
    rw [hF, hTh] at this
    exact this
  have hrow : ∀ j : Nat, j < n.toNatClampNeg → F.heap[H.size + 1 + j]? = some (Jvm.Free.Multi.innerC (kcy K 0) m.toNatClampNeg (defaultValue .int)) := fun j hj => by
    have := Jvm.Free.Multi.fill_inner (T.setVm vm₁) (kcy K 4) (kcy K 0) n.toNatClampNeg m.toNatClampNeg (defaultValue .int) n.toNatClampNeg j hj
    rw [hF, hTh] at this
    exact this
  have hz := hP.2.2.2.2.1
  have fz : ∀ j, rI σ (Y.length + j) = fun _ => 0 := fun j => funext fun k => (hz _ k (by omega)).1
  -- the new cells' addresses
  have hN0 : adx ad Y.length (fun i => H.size + i) Y.length = H.size := adx_hi (i := 0)
  have hNj : ∀ j, adx ad Y.length (fun i => H.size + i) (Y.length + j) = H.size + j := fun j => adx_hi
  have hat : ∀ (k : Nat) (q : Nat × va_E), (wd (kcy K) (adx ad Y.length (fun i => H.size + i)) σ Y.length ((5, n.toNatClampNeg, [(1, n.toNatClampNeg)]) :: List.replicate n.toNatClampNeg (1, m.toNatClampNeg, [])))[k]? = some q → q.1 = H.size + k ∧ va_at (kD K) vwCl q F.heap := by
    intro k q h
    simp only [wd] at h
    cases k with
    | zero =>
      rw [List.getElem?_cons_zero] at h
      cases h
      refine ⟨hN0, ?_⟩
      show F.heap[adx ad Y.length (fun i => H.size + i) Y.length]? = some (vp_cell (kcy K 4) (n.toNatClampNeg, .inr (.inr (.inr (.inr (fun j => if j < n.toNatClampNeg then some (adx ad Y.length (fun i => H.size + i) (Y.length + 1 + j)) else none))))))
      rw [hN0, f2, vr_outer, vp_cell_q]
      congr 3
      funext j
      have e9 : adx ad Y.length (fun i => H.size + i) (Y.length + 1 + j) = H.size + 1 + j := by rw [Nat.add_assoc, hNj]; omega
      rw [e9]
    | succ k =>
      rw [List.getElem?_cons_succ] at h
      obtain ⟨hk, hq⟩ := wd_rep _ _ _ _ h
      subst hq
      have e1 : adx ad Y.length (fun i => H.size + i) (Y.length + 1 + k) = H.size + (k + 1) := by rw [Nat.add_assoc, hNj]; omega
      refine ⟨e1, ?_⟩
      show F.heap[adx ad Y.length (fun i => H.size + i) (Y.length + 1 + k)]? = some (vp_cell (kcy K 0) (m.toNatClampNeg, .inl (rI σ (Y.length + 1 + k))))
      rw [e1, show H.size + (k + 1) = H.size + 1 + k by omega, hrow k hk, Nat.add_assoc, fz, vp_cell_i]
      exact congrArg some (by show ({ cls := kcy K 0, slots := Array.replicate m.toNatClampNeg (.int 0), vm := .none } : Cell) = _; rw [arrV_new])
  have hPold : va_P (kD K) vwCl (wd (kcy K) ad σ 0 Y) F.heap := hP.1.kept (fun k x hx => hold x.1 ((hP.1 k x hx).lt))
  have hPnew : va_P (kD K) vwCl (wd (kcy K) (adx ad Y.length (fun i => H.size + i)) σ Y.length ((5, n.toNatClampNeg, [(1, n.toNatClampNeg)]) :: List.replicate n.toNatClampNeg (1, m.toNatClampNeg, []))) F.heap := fun k q h => (hat k q h).2
  have hS0 := hP.2.1.1
  have hDD : va_D (kA K) (wd (kcy K) ad σ 0 Y ++ wd (kcy K) (adx ad Y.length (fun i => H.size + i)) σ Y.length ((5, n.toNatClampNeg, [(1, n.toNatClampNeg)]) :: List.replicate n.toNatClampNeg (1, m.toNatClampNeg, []))) :=
    va_D.app hP.D ⟨fun i j p q h1 h2 h3 => by have := (hat i p h1).1; have := (hat j q h2).1; omega, fun k q h => C.2.2.2.1 _ (by have := (hat k q h).1; omega)⟩
      (fun i j p q h1 h2 => by have := (hP.1 i p h1).lt; have := (hat j q h2).1; omega)
  have hSn : va_S (kA K) (ks K).heap F.heap locs := ⟨by rw [f1]; omega, fun x h1 h2 => by rw [hold x (Nat.lt_of_lt_of_le h1 hS0)]; exact hP.2.1.2.1 x h1 h2, hP.2.1.2.2⟩
  have hW := hP.push ((5, n.toNatClampNeg, [(1, n.toNatClampNeg)]) :: List.replicate n.toNatClampNeg (1, m.toNatClampNeg, [])) (fun i => H.size + i) (hPold.app hPnew) hDD hSn (fun i sh hi => by
    rw [List.length_cons, List.length_replicate]
    cases i with
    | zero =>
      rw [List.getElem?_cons_zero] at hi
      cases hi
      refine ⟨fun e => (by cases e), fun _ j hj => ?_⟩
      have hj' : j < n.toNatClampNeg := hj
      show Y.length + 0 + 1 + j < _
      omega
    | succ i =>
      rw [List.getElem?_cons_succ, List.getElem?_replicate] at hi
      split at hi
      · cases hi
        exact ⟨fun e => (by cases e), fun _ j hj => absurd hj (Nat.not_lt_zero _)⟩
      · cases hi)
  have hk := kk _ (fun i hi => adx_lo hi) F.heap locs ls hW hL
  rw [hN0] at hk
  obtain ⟨t, a1, b1⟩ := hk F rfl X'
  refine ⟨t, step t ?_, b1⟩
  have e : T.heap.size = H.size := by rw [hT]
  rw [e]
  exact a1
end GWI
section GPut
variable {K : KT} {cc : ByteArray} {own : String} {nL d mc ms pc ci si : Nat} {L : List (Option Value)} {st : List Value} {Y : List Sh} {σ : Sg} {ad : Nat → Nat}
theorem wd_putS {cys : Nat → ClassId} {o kx k : Nat} {sl : List (Nat × Nat)} {s : Nat × Nat} {v : Value} (hv : slotV ad σ o k s = v) : (wd cys ad σ 0 Y).set o (ad o, .inr (kx, (slv ad σ o 0 sl).set k v)) = wd cys ad σ 0 (Y.set o (0, kx, sl.set k s)) := by
  have h1 := wd_setY (cys := cys) (ad := ad) (σ := σ) (sh := (0, kx, sl.set k s)) Y 0 o
  have h2 := slv_setS (ad := ad) (σ := σ) (i := o) (s := s) sl 0 k
  rw [Nat.zero_add] at h1 h2
  rw [← h1, ← hv, h2]
  rfl
theorem slc_set {N i : Nat} {s : Nat × Nat} : ∀ (l : List (Nat × Nat)) (k0 k : Nat), slc σ N i k0 l → (s.1 = 2 → i + s.2 < N) → (s.1 = 3 → rR σ i (k0 + k) < N) → slc σ N i k0 (l.set k s)
  | [], _, _, _, _, _ => trivial
  | a :: t, k0, 0, q, h1, h2 => ⟨h1, h2, q.2.2⟩
  | a :: t, k0, k + 1, q, h1, h2 => ⟨q.1, q.2.1, slc_set t (k0 + 1) k q.2.2 h1 (by rw [show k0 + 1 + k = k0 + (k + 1) by omega]; exact h2)⟩
theorem Cl_set {o kx k : Nat} {sl : List (Nat × Nat)} {s : Nat × Nat} (hc : Cl σ Y) (hY : Y[o]? = some (0, kx, sl)) (h1 : s.1 = 2 → o + s.2 < Y.length) (h2 : s.1 = 3 → rR σ o k < Y.length) : Cl σ (Y.set o (0, kx, sl.set k s)) := by
  intro i sh hi
  rw [List.length_set]
  rw [List.getElem?_set] at hi
  split at hi
  next e =>
    subst e
    have hlt := lay_lt hY
    first | cases hi | (rw [if_pos hlt] at hi; cases hi)
    exact ⟨fun _ => slc_set sl 0 k ((hc o _ hY).1 rfl) h1 (by rw [Nat.zero_add]; exact h2), fun e => absurd rfl e⟩
  next e => exact hc i sh hi
theorem slv_setS' {ad : Nat → Nat} {σ σ' : Sg} {i : Nat} {s : Nat × Nat} : ∀ (l : List (Nat × Nat)) (k0 k : Nat) {s0 : Nat × Nat}, l[k]? = some s0 → (∀ q t, q ≠ k0 + k → slotV ad σ' i q t = slotV ad σ i q t) → (slv ad σ i k0 l).set k (slotV ad σ' i (k0 + k) s) = slv ad σ' i k0 (l.set k s)
  | [], _, _, _, h, _ => by simp at h
  | a :: t, k0, 0, _, _, hq => by
    simp only [slv, List.set_cons_zero, Nat.add_zero]
    rw [slv_eq t (k0 + 1) (fun q u hu => (hq q u (by omega)))]
  | a :: t, k0, k + 1, s0, h, hq => by
    rw [List.getElem?_cons_succ] at h
    simp only [slv, List.set_cons_succ]
    rw [hq k0 a (by omega), show k0 + (k + 1) = k0 + 1 + k by omega, slv_setS' t (k0 + 1) k h (fun q u hu => hq q u (by omega))]
theorem slc_R2 {σ σ' : Sg} {N i k : Nat} (h : ∀ q, q ≠ k → rR σ' i q = rR σ i q) : ∀ (l : List (Nat × Nat)) (k0 : Nat), (∀ j, k0 + j = k → l[j]? = some (4, 0) ∨ l.length ≤ j) → slc σ N i k0 l → slc σ' N i k0 l
  | [], _, _, _ => trivial
  | s :: t, k0, h4, q => by
    refine ⟨q.1, fun e => ?_, slc_R2 h t (k0 + 1) (fun j hj => ?_) q.2.2⟩
    · by_cases hk : k0 = k
      · rcases h4 0 (by omega) with h5 | h5
        · rw [List.getElem?_cons_zero] at h5
          cases h5
          cases e
        · simp at h5
      · rw [h k0 hk]; exact q.2.1 e
    · rcases h4 (j + 1) (by omega) with h5 | h5
      · exact Or.inl (by rw [List.getElem?_cons_succ] at h5; exact h5)
      · exact Or.inr (by simp at h5; exact h5)
/-- a reference to a cell further on -/
theorem n_putC (C : CxI K cc own nL d mc ms) {o kx k index N off v : Nat} {C0 : String} {T : u_T} {ty0 : Nat → FieldType} {sl : List (Nat × Nat)} (hin2 : (kmeth K).name = "<init>") (hd : decode cc pc = .ok (.putfield index, 3)) (hY : Y[o]? = some (0, kx, sl)) (hlen : k < sl.length) (hc : vwCl[kx]? = some (C0, T, N)) (hk : k < N) (hl : Cond.fieldLink own index (T k).1 (T k).2.1 (T k).2.2.1 ∈ AL) (hin : ∀ w ∈ u_ws C0 T N, w ∈ AL)
    (hty : ∀ k, k < N → parseFieldDescriptor (T k).2.2.1 = some (ty0 k)) (hnm : ∀ a, a < N → ∀ b, b < N → a ≠ b → (T a).2.1 ≠ (T b).2.1) (hdecl : (T k).1 = own) (hn : ∀ a, narrow (ty0 k) (.ref a) = .ref a) (hf : ∀ a, fits (ty0 k) (.ref a) = true) (hv : o + off = v) (hb : v < Y.length)
    (kk : GW K (pc + 3) L st ci si (WI K (Y.set o (0, kx, sl.set k (2, off))) σ ad)) : GW K pc L (.ref (ad v) :: .ref (ad o) :: st) ci si (WI K Y σ ad) := by
  subst hv
  exact n_put C hin2 hd hY hlen hc hk hl hin hty hnm hdecl (hn _) (hf _) (wd_putS rfl) (by rw [List.length_set]) (fun h => by rw [List.length_set]; exact h) (fun h => Cl_set h hY (fun _ => hb) (fun e => (by cases e))) kk
theorem n_putI (C : CxI K cc own nL d mc ms) {o kx k index N z : Nat} {C0 : String} {T : u_T} {ty0 : Nat → FieldType} {sl : List (Nat × Nat)} {v : Int32} (hin2 : (kmeth K).name = "<init>") (hd : decode cc pc = .ok (.putfield index, 3)) (hY : Y[o]? = some (0, kx, sl)) (hs : sl[k]? = some (0, z)) (hc : vwCl[kx]? = some (C0, T, N)) (hk : k < N) (hl : Cond.fieldLink own index (T k).1 (T k).2.1 (T k).2.2.1 ∈ AL) (hin : ∀ w ∈ u_ws C0 T N, w ∈ AL)
    (hty : ∀ k, k < N → parseFieldDescriptor (T k).2.2.1 = some (ty0 k)) (hnm : ∀ a, a < N → ∀ b, b < N → a ≠ b → (T a).2.1 ≠ (T b).2.1) (hdecl : (T k).1 = own) (hn : narrow (ty0 k) (.int v) = .int v) (hf : fits (ty0 k) (.int v) = true)
    (kk : GW K (pc + 3) L st ci si (WI K Y (wI σ o k v) ad)) : GW K pc L (.int v :: .ref (ad o) :: st) ci si (WI K Y σ ad) := by
  have hset : (slv ad σ o 0 sl).set k (.int v) = slv ad (wI σ o k v) o 0 sl := slv_set sl 0 k _ hs (fun q t hq => slot_wI q t (by omega)) (by rw [Nat.zero_add]; simp [slotV, rI, wI])
  refine n_put C hin2 hd hY (List.getElem?_eq_some_iff.mp hs).1 hc hk hl hin hty hnm hdecl hn hf (σ' := wI σ o k v) (Y' := Y) ?_ rfl (fun h p q hp => ?_) (fun h j sh hj => shc_R (σ := σ) (fun _ => rfl) (h j sh hj)) kk
  · rw [hset]
    exact wd_put hY (fun q sh h => ent_wI q sh h) rfl
  · have := h p q hp
    have hlt := lay_lt hY
    refine ⟨?_, this.2⟩
    show (if p = o ∧ q = k then v else σ.1 p q) = 0
    rw [if_neg (fun z => by omega)]
    exact this.1
/-- a moving reference, for the first time -/
theorem n_putM (C : CxI K cc own nL d mc ms) {o kx k index N v : Nat} {C0 : String} {T : u_T} {ty0 : Nat → FieldType} {sl : List (Nat × Nat)} (hin2 : (kmeth K).name = "<init>") (hd : decode cc pc = .ok (.putfield index, 3)) (hY : Y[o]? = some (0, kx, sl)) (hlen : k < sl.length) (hc : vwCl[kx]? = some (C0, T, N)) (hk : k < N) (hl : Cond.fieldLink own index (T k).1 (T k).2.1 (T k).2.2.1 ∈ AL) (hin : ∀ w ∈ u_ws C0 T N, w ∈ AL)
    (hty : ∀ k, k < N → parseFieldDescriptor (T k).2.2.1 = some (ty0 k)) (hnm : ∀ a, a < N → ∀ b, b < N → a ≠ b → (T a).2.1 ≠ (T b).2.1) (hdecl : (T k).1 = own) (hn : ∀ a, narrow (ty0 k) (.ref a) = .ref a) (hf : ∀ a, fits (ty0 k) (.ref a) = true) (hb : v < Y.length) (hs4 : sl[k]? = some (4, 0))
    (kk : GW K (pc + 3) L st ci si (WI K (Y.set o (0, kx, sl.set k (3, 0))) (wR σ o k v) ad)) : GW K pc L (.ref (ad v) :: .ref (ad o) :: st) ci si (WI K Y σ ad) := by
  have hR : ∀ q, q ≠ k → rR (wR σ o k v) o q = rR σ o q := fun q h => by simp [rR, wR, h]
  have hlt := lay_lt hY
  have hs1 : slv ad (wR σ o k v) o 0 (sl.set k (3, 0)) = (slv ad σ o 0 sl).set k (.ref (ad v)) := by
    rw [← slv_setS' (σ := σ) (σ' := wR σ o k v) (s := (3, 0)) sl 0 k hs4 (fun q t hq => slot_wR q t (by omega))]
    congr 1
    rw [Nat.zero_add]
    simp [slotV, rR, wR]
  refine n_put C hin2 hd hY hlen hc hk hl hin hty hnm hdecl (hn _) (hf _) (σ' := wR σ o k v) (Y' := Y.set o (0, kx, sl.set k (3, 0))) ?_ (by rw [List.length_set]) (fun h => by rw [List.length_set]; exact h) (fun h => ?_) kk
  · rw [← hs1]
    have h1 := wd_setY (cys := kcy K) (ad := ad) (σ := wR σ o k v) (sh := (0, kx, sl.set k (3, 0))) Y 0 o
    rw [Nat.zero_add] at h1
    rw [← h1]
    have h2 : ∀ e, (wd (kcy K) ad σ 0 Y).set o (ad o, e) = (wd (kcy K) ad (wR σ o k v) 0 Y).set o (ad o, e) := fun e => by
      have a1 := wd_put (cys := kcy K) (ad := ad) (σ := σ) (σ' := wR σ o k v) (e := ent (kcy K) ad (wR σ o k v) o (0, kx, sl)) hY (fun q sh h => ent_wR q sh h) rfl
      rw [← a1, List.set_set]
    exact h2 _
  · have h3 : Cl (wR σ o k v) (Y.set o (0, kx, sl.set k (4, 0))) := fun i sh hi => by
      rw [List.length_set]
      rw [List.getElem?_set] at hi
      split at hi
      next e =>
        subst e
        first | cases hi | (rw [if_pos hlt] at hi; cases hi)
        have he : sl.set k (4, 0) = sl := by
          have := List.getElem?_eq_some_iff.mp hs4
          obtain ⟨h1, h2⟩ := this
          rw [← h2]
          exact List.set_getElem_self h1
        rw [he]
        exact ⟨fun _ => slc_R2 (k := k) hR sl 0 (fun j hj => Or.inl (by rw [show j = k by omega]; exact hs4)) ((h o _ hY).1 rfl), fun e => absurd rfl e⟩
      next e => exact shc_R (σ := σ) (fun q => by have e' : ¬ i = o := fun z => e z.symm; simp [rR, wR, e']) (h i sh hi)
    have h4 : (Y.set o (0, kx, sl.set k (4, 0)))[o]? = some (0, kx, sl.set k (4, 0)) := by rw [List.getElem?_set_self hlt]
    have h5 := Cl_set (k := k) (s := (3, 0)) h3 h4 (fun e => (by cases e)) (fun _ => by rw [List.length_set]; simp [rR, wR]; exact hb)
    rw [List.set_set, List.set_set] at h5
    exact h5
end GPut
/-! ===== contracts of constructors ===== -/
def Aq (q sz : Nat) : Nat → Prop := fun p => p = q ∨ sz ≤ p
def QI (D : va_G) (cys : Nat → ClassId) (YF : List Sh) (σF : Sg) (q sz : Nat) : Array Value → State → Outcome → State → Prop := fun _ st oc t =>
  oc = .returned none ∧ (∃ ad : Nat → Nat, ad 0 = q ∧ va_P D vwCl (wd cys ad σF 0 YF) t.heap ∧ (∀ i j, i < YF.length → j < YF.length → ad i = ad j → i = j) ∧ ∀ i, 0 < i → i < YF.length → sz ≤ ad i) ∧ (Zb σF YF.length ∧ Cl σF YF) ∧ va_F (Aq q sz) st t
def rmi (d mc ms : Nat) : Room := { frames := d, cells := mc, slots := ms, locals := 40 * d }
def Cn (y : MethodName) (cc : ByteArray) (nL d kx : Nat) (nsl : List (Nat × Nat)) (YF : List Sh) (σF : Sg) (mc ms : Nat) : Prop :=
  ∀ (l : Launch) (D : va_G) (cys : Nat → ClassId) (q sz : Nat), Met l y (.code y cc nL none :: AL) (rmi d mc ms) (va_Pc [.ref q] (fun U => U.heap.size = sz ∧ va_P D vwCl [(q, .inr (kx, dfl nsl))] U.heap ∧ va_K D vwCl (tysOf cys) U ∧ Ei U)) (QI D cys YF σF q sz) mc ms (Aq q sz)
def Rki (K : KT) (YF : List Sh) (σF : Sg) (mc ms : Nat) : Prop := kQ K = MQ (kb K) (QI (kD K) (kcy K) YF σF (kad K 0) (ks K).heap.size) (ka K) (ks K) mc ms (kA K) ∧ kA K = Aq (kad K 0) (ks K).heap.size
theorem cn_of {y : MethodName} {cc : ByteArray} {nL d kx mc ms : Nat} {nsl : List (Nat × Nat)} {YF : List Sh} {σF : Sg} (hy : plainName y.cls = true) (hy1 : y.name = "<init>") (hn : 1 ≤ nL) (hb : bare nsl = true)
    (body : ∀ K, CxI K cc y.cls nL d mc ms → (kmeth K).name = "<init>" → Rki K YF σF mc ms → GW K 0 (pad [some (.ref (kad K 0))] nL) [] 0 0 (WI K [(0, kx, nsl)] σz (kad K))) : Cn y cc nL d kx nsl YF σF mc ms := by
  intro l D cys q sz
  refine Met.ofW (cc := cc) (maxL := nL) (ret := none) hy rfl ?_
  intro p e s m args below meth c s₁ B hml hv
  obtain ⟨rfl, hsz, hP, hK, hE⟩ := hv
  subst hsz
  have hts := atoms_spec (ws := .code y cc nL none :: AL) B.pre
  have hown : s.vm.findClass y.cls = some m.cls := findClass_of_methodNamed B.named
  have hin : meth.name = "<init>" := (name_of_methodNamed B.named B.method).1.trans hy1
  let K : KT := (p, l, e, rmi d mc ms, s, m, [Value.ref q].toArray, below, meth, c, D, cys, fun _ => q, Aq q s.heap.size, MQ below (QI D cys YF σF q s.heap.size) [Value.ref q].toArray s mc ms (Aq q s.heap.size))
  have C : CxI K cc y.cls nL d mc ms := ⟨⟨B.exec, B.bytes, hml, hown, fun w hw => hts w (List.mem_cons_of_mem _ hw), B.notSynchronized, Nat.le_refl _, Nat.le_refl _⟩, B.returns, hK, fun p h => Or.inr h, hE, Nat.le_refl _, Nat.le_refl _⟩
  have hG := body K C hin ⟨rfl, rfl⟩
  rw [lg_entry_eq]
  have hz : ∀ k, rI σz 0 k = 0 ∧ rJ σz 0 k = 0 := fun k => ⟨rfl, rfl⟩
  have hw : wd cys (fun _ => q) σz 0 [(0, kx, nsl)] = [(q, .inr (kx, dfl nsl))] := by
    show [(q, Sum.inr (kx, slv (fun _ => q) σz 0 0 nsl))] = _
    rw [slv_dfl hz nsl 0 hb]
  have hW : WI K [(0, kx, nsl)] σz (kad K) s.heap [] := by
    refine ⟨by rw [← hw] at hP; exact hP, va_S.rf, fun i j hi hj _ => ?_, fun i hi => Or.inl rfl, fun o k _ => ⟨rfl, rfl⟩, fun i sh hi => ?_⟩
    · have hi' : i < 1 := hi
      have hj' : j < 1 := hj
      omega
    · have hz0 : i < 1 := (List.getElem?_eq_some_iff.mp hi).1
      rw [show i = 0 by omega] at hi ⊢
      cases hi
      exact ⟨fun _ => slc_bare nsl 0 hb, fun e => absurd rfl e⟩
  exact hG s.heap [] _ hW (lx_entry [.ref q] hn)
section GIR
variable {K : KT} {cc : ByteArray} {own : String} {nL d mc ms pc ci si : Nat} {L : List (Option Value)} {st : List Value} {Y : List Sh} {σ : Sg} {ad : Nat → Nat}
theorem n_vret (C : CxI K cc own nL d mc ms) (hQ : Rki K Y σ mc ms) (h0 : ad 0 = kad K 0) (hY : 0 < Y.length) (hd : decode cc pc = .ok (.return_, 1)) : GW K pc L [] mc ms (WI K Y σ ad) := fun H locs ls hP hL => by
  show W _ _ _ _ _ _ _ _ _ _ _ _ _ _ (kQ K) _
  rw [hQ.1]
  refine W.vret C.1.x C.1.b C.2.1 (fun t ht _ => ⟨rfl, ⟨ad, h0, by rw [ht]; exact hP.1, hP.2.2.1, fun i h1 h2 => ?_⟩, ⟨hP.2.2.2.2.1, hP.2.2.2.2.2⟩, by rw [← hQ.2]; exact hP.2.1.F ht⟩) hP.2.1.2.2 hd C.1.2.2.2.2.2.1
  have hA := hP.2.2.2.1 i h2
  rw [hQ.2] at hA
  rcases hA with h | h
  · have := hP.2.2.1 i 0 h2 hY (h.trans h0.symm)
    omega
  · exact h
def Cwi (y : MethodName) (cc : ByteArray) (nL : Nat) : Prop := (Cond.code y cc nL none ∈ AL) ∧ (Cond.initialized y.cls ∈ AL) ∧ (y.cls ≠ "java/lang/invoke/MethodHandle" ∧ y.cls ≠ "java/lang/invoke/VarHandle") ∧ (parseMethodDescriptor y.desc).map (fun d => d.parameters.length) = some 0 ∧ nL ≤ 21 ∧ y.name = "<init>"
theorem sapp_I {n o : Nat} {σ σ' : Sg} (h : o < n) : rI (sapp n σ σ') o = rI σ o := funext fun k => if_pos h
theorem sapp_J {n o : Nat} {σ σ' : Sg} (h : o < n) : rJ (sapp n σ σ') o = rJ σ o := funext fun k => if_pos h
theorem sapp_R {n o : Nat} {σ σ' : Sg} (h : o < n) (k : Nat) : rR (sapp n σ σ') o k = rR σ o k := if_pos h
theorem sapp_I2 {n o : Nat} {σ σ' : Sg} : rI (sapp n σ σ') (n + o) = rI σ' o := funext fun k => by
  show (if n + o < n then _ else σ'.1 (n + o - n) k) = _
  rw [if_neg (by omega), Nat.add_sub_cancel_left]; rfl
theorem sapp_J2 {n o : Nat} {σ σ' : Sg} : rJ (sapp n σ σ') (n + o) = rJ σ' o := funext fun k => by
  show (if n + o < n then _ else σ'.2.1 (n + o - n) k) = _
  rw [if_neg (by omega), Nat.add_sub_cancel_left]; rfl
theorem sapp_R2 {n o : Nat} {σ σ' : Sg} (k : Nat) : rR (sapp n σ σ') (n + o) k = n + rR σ' o k := by
  show (if n + o < n then _ else n + σ'.2.2 (n + o - n) k) = _
  rw [if_neg (by omega), Nat.add_sub_cancel_left]; rfl
theorem slc_sapp {σ σF : Sg} {n N i : Nat} : ∀ (l : List (Nat × Nat)) (k : Nat), slc σF N i k l → slc (sapp n σ σF) (n + N) (n + i) k l
  | [], _, _ => trivial
  | s :: t, k, q => ⟨fun e => by have := q.1 e; omega, fun e => by rw [sapp_R2]; have := q.2.1 e; omega, slc_sapp t (k + 1) q.2.2⟩
/-- a constructor's call, behind 'new' -/
theorem n_call (C : CxI K cc own nL d mc ms) {index d' nL' kx mc' ms' N : Nat} {y : MethodName} {cc' : ByteArray} {T : u_T} {nsl : List (Nat × Nat)} {YF : List Sh} {σF : Sg} (hM : Cn y cc' nL' d' kx nsl YF σF mc' ms') (hd : decode cc pc = .ok (.invokespecial index, 3)) (hw : Cwi y cc' nL') (hl : (Cond.methodLink own index y ∈ AL) ∨ ∃ host, Cond.methodLinkNest own index y host ∈ NW) (hi : Cond.instanceMethod y ∈ AL) (hb : bare nsl = true)
    (hdd : d' + 1 ≤ d) (hLn : L.length = nL) (hc : vwCl[kx]? = some (y.cls, T, N)) (hr : (st.map fun v => v.category).sum ≤ 8) (hci : ci + mc' ≤ mc) (hsi : si + ms' ≤ ms) (hF0 : 0 < YF.length) {n : Nat} (hYn : Y.length = n) (hzn : ∀ k, rI σ n k = 0 ∧ rJ σ n k = 0)
    (kk : ∀ ad', (∀ i, i < n + 1 → ad' i = ad i) → GW K (pc + 3) L st (ci + mc') (si + ms') (WI K (Y ++ YF) (sapp n σ σF) ad')) : GW K pc L (.ref (ad n) :: st) ci si (WI K (Y ++ [(0, kx, nsl)]) σ ad) := fun H locs ls hP hL => by
  subst hYn
  have hm1 := C.2.2.2.2.2.1
  have hm2 := C.2.2.2.2.2.2
  have hlen : (Y ++ [((0, kx, nsl) : Sh)]).length = Y.length + 1 := by simp
  have hz := hP.2.2.2.2.1
  have hYN : (Y ++ [((0, kx, nsl) : Sh)])[Y.length]? = some (0, kx, nsl) := by rw [List.getElem?_append_right (Nat.le_refl _), Nat.sub_self]; rfl
  have hNobj : ∀ k, rI σ Y.length k = 0 ∧ rJ σ Y.length k = 0 := hzn
  have he : (wd (kcy K) ad σ 0 (Y ++ [(0, kx, nsl)]))[Y.length]? = some (ad Y.length, .inr (kx, dfl nsl)) := by
    rw [wd_at hYN]
    show some (ad Y.length, Sum.inr (kx, slv ad σ Y.length 0 nsl)) = _
    rw [slv_dfl hNobj nsl 0 hb]
  have hf := C.1.2.2.2.2.2.2.1
  have hlo := C.1.2.2.2.2.2.2.2
  have hR : (rmi d' mc' ms').frames + 1 ≤ (kR K).frames ∧ 8 + (nL' + 11) + (rmi d' mc' ms').locals ≤ (kR K).locals := ⟨by show d' + 1 ≤ _; omega, by have := hw.2.2.2.2.1; show 8 + (nL' + 11) + 40 * d' ≤ _; omega⟩
  have hM' := hM (kl K) (kD K) (kcy K) (ad Y.length) H.size
  have hPq : va_P (kD K) vwCl [(ad Y.length, .inr (kx, dfl nsl))] H := fun k q h => by
    have hz0 : k < 1 := (List.getElem?_eq_some_iff.mp h).1
    rw [show k = 0 by omega] at h
    cases h
    exact hP.1 _ _ he
  have hpre : PreS (ks K) H (va_Pc [.ref (ad Y.length)] (fun U => U.heap.size = H.size ∧ va_P (kD K) vwCl [(ad Y.length, .inr (kx, dfl nsl))] U.heap ∧ va_K (kD K) vwCl (tysOf (kcy K)) U ∧ Ei U)) [.ref (ad Y.length)] :=
    ⟨fun a U g mk q => ⟨q.1, q.2.1, q.2.2.1, va_K.moved (u := U) (U := U.calling g mk a) (Vm.Alike.refl U.vm) q.2.2.2.1, q.2.2.2.2.frame⟩, fun U hU hW => ⟨rfl, by rw [hU], by rw [hU]; exact hPq, va_K.moved hW.alike C.2.2.1, C.2.2.2.2.1.moved hW⟩⟩
  have hz1 : ls.size = nL := hL.1.trans hLn
  have hrun : va_Run (kp K) (kl K) (ke K) (kR K) (ks K) (km K) (ka K) (kb K) (kmeth K) (kc K) H locs ci si mc' ms' (F0 (km K) pc ls (.ref (ad Y.length) :: st)) st (QI (kD K) (kcy K) YF σF (ad Y.length) H.size (Value.ref (ad Y.length) :: []).toArray) (Aq (ad Y.length) H.size) := by
    rcases hl with hl | ⟨host, hl⟩
    · have cb : CallB (kR K) (ks K) (ka K) own index y cc' nL' none (.code y cc' nL' none :: AL) (rmi d' mc' ms') mc' ms' 0 := callB_of 0 C.1.2.2.2.2.1 (ct_in hw.1) rfl rfl rfl (C.1.t hw.2.1) (C.1.t hl) ⟨hw.2.2.1.1, hw.2.2.1.2, hw.2.2.2.1⟩ hR
      exact va_runI (As := []) (rest := st) C.1.fix hM' ⟨cb, hw.2.2.2.2.2, C.1.t hi⟩ hpre rfl rfl hz1 rfl (lv_room hr) hd ⟨by omega, by omega⟩
    · have cb : va_CN (kR K) (ks K) (ka K) own index y host cc' nL' none (.code y cc' nL' none :: AL) (rmi d' mc' ms') mc' ms' 0 := va_cnB 0 C.1.2.2.2.2.1 (ct_in hw.1) rfl rfl rfl (C.2.2.2.2.1.1 _ hl) (C.1.t hw.2.1) ⟨hw.2.2.1.1, hw.2.2.1.2, hw.2.2.2.1⟩ hR
      exact va_runIN (As := []) (rest := st) C.1.fix hM' ⟨cb, hw.2.2.2.2.2, C.1.t hi⟩ hpre rfl rfl hz1 rfl (lv_room hr) hd ⟨by omega, by omega⟩
  intro Tm hT X
  obtain ⟨v, st₀, t, T', L2, hst0, X', hL2, e1, e2, ⟨hv, ⟨adc, a0, aP, ai, an⟩, ⟨hFz, hFc⟩, hzz, hkk⟩, stp⟩ := hrun Tm hT X
  cases hv
  rw [hst0] at hzz hkk
  have hS0 := hP.2.1.1
  have hqA : kA K (ad Y.length) := hP.2.2.2.1 _ (by omega)
  have hsub : ∀ p, Aq (ad Y.length) H.size p → kA K p := fun p h => by
    rcases h with h | h
    · rw [h]; exact hqA
    · exact C.2.2.2.1 p (Nat.le_trans hS0 h)
  have hold : ∀ i, i < Y.length → ad i < H.size ∧ ad i ≠ ad Y.length := fun i h => by
    have hi : i < (Y ++ [((0, kx, nsl) : Sh)]).length := by omega
    refine ⟨(hP.1 i _ (wd_at (List.getElem?_eq_getElem hi))).lt, fun e => ?_⟩
    have := hP.2.2.1 i Y.length hi (by omega) e
    omega
  have hkeep : ∀ i, i < Y.length → t.heap[ad i]? = H[ad i]? := fun i h => hkk _ (hold i h).1 (fun z => by
    rcases z with z | z
    · exact (hold i h).2 z
    · have := (hold i h).1; omega)
  have alo : ∀ i, i < Y.length + 1 → adx ad Y.length adc i = ad i := fun i h => by
    by_cases h1 : i < Y.length
    · exact adx_lo h1
    · rw [show i = Y.length + 0 by omega, adx_hi, a0]; rfl
  have hw1 : wd (kcy K) (adx ad Y.length adc) (sapp Y.length σ σF) 0 Y = wd (kcy K) ad σ 0 Y := by
    have := wd_shift (cys := kcy K) (ad := ad) (ad' := adx ad Y.length adc) (σ := σ) (σ' := sapp Y.length σ σF) (n := 0) (N := Y.length + 1) (fun j hj => by rw [Nat.zero_add]; exact alo j hj) Y 0 (fun i sh h => by
      have hl : i < Y.length := lay_lt h
      rw [Nat.zero_add, Nat.zero_add]
      refine ⟨by omega, ?_, sapp_I hl, sapp_J hl, fun k => by rw [sapp_R hl, Nat.zero_add]⟩
      have h2 := hP.2.2.2.2.2 i sh (by rw [List.getElem?_append_left hl]; exact h)
      rw [hlen] at h2
      exact h2)
    exact this
  have hw2 : wd (kcy K) (adx ad Y.length adc) (sapp Y.length σ σF) Y.length YF = wd (kcy K) adc σF 0 YF := by
    have := wd_shift (cys := kcy K) (ad := adc) (ad' := adx ad Y.length adc) (σ := σF) (σ' := sapp Y.length σ σF) (n := Y.length) (N := YF.length) (fun j hj => adx_hi) YF 0 (fun i sh h => by
      rw [Nat.zero_add]
      exact ⟨lay_lt h, hFc i sh h, sapp_I2, sapp_J2, fun k => sapp_R2 k⟩)
    exact this
  have hpart : va_P (kD K) vwCl (wd (kcy K) ad σ 0 Y) H := fun k q h => hP.1 k q (by
    rw [wd_app]
    have hl : k < (wd (kcy K) ad σ 0 Y).length := (List.getElem?_eq_some_iff.mp h).1
    rw [List.getElem?_append_left hl]; exact h)
  have hW : WI K (Y ++ YF) (sapp Y.length σ σF) (adx ad Y.length adc) T'.heap (locs ++ L2) := by
    refine ⟨?_, ?_, ?_, ?_, ?_, ?_⟩
    · rw [wd_app, hw1, Nat.zero_add, hw2, e1]
      refine va_P.app (fun k q h => ?_) aP
      have hl : k < Y.length := by have := (List.getElem?_eq_some_iff.mp h).1; rw [wd_len] at this; exact this
      have hq := h
      rw [wd_at (List.getElem?_eq_getElem hl)] at hq
      cases hq
      exact (hpart k _ h).kept (hkeep k hl)
    · exact ⟨Nat.le_trans hS0 (by rw [e1]; exact hzz), fun p h1 h2 => by rw [e1, hkk p (Nat.lt_of_lt_of_le h1 hS0) (fun z => h2 (hsub p z))]; exact hP.2.1.2.1 p h1 h2, fun p hp => by
        rcases List.mem_append.mp hp with h | h
        · exact hP.2.1.2.2 p h
        · exact hsub _ (hL2 p h)⟩
    · have ahi : ∀ j, j < YF.length → adc j = ad Y.length ∨ H.size ≤ adc j := fun j hj => by
        cases j with
        | zero => exact Or.inl a0
        | succ j => exact Or.inr (an _ (Nat.succ_pos _) hj)
      intro i j hi hj hij
      rw [List.length_append] at hi hj
      by_cases h1 : i < Y.length <;> by_cases h2 : j < Y.length
      · rw [adx_lo h1, adx_lo h2] at hij
        exact hP.2.2.1 i j (by omega) (by omega) hij
      · rw [adx_lo h1, show j = Y.length + (j - Y.length) by omega, adx_hi] at hij
        rcases ahi (j - Y.length) (by omega) with h | h
        · exact absurd (hij.trans h) (hold i h1).2
        · have := (hold i h1).1; omega
      · rw [adx_lo h2, show i = Y.length + (i - Y.length) by omega, adx_hi] at hij
        rcases ahi (i - Y.length) (by omega) with h | h
        · exact absurd (hij.symm.trans h) (hold j h2).2
        · have := (hold j h2).1; omega
      · rw [show i = Y.length + (i - Y.length) by omega, show j = Y.length + (j - Y.length) by omega, adx_hi, adx_hi] at hij
        have := ai _ _ (by omega) (by omega) hij
        omega
    · intro i hi
      rw [List.length_append] at hi
      by_cases h1 : i < Y.length
      · rw [adx_lo h1]; exact hP.2.2.2.1 i (by omega)
      · rw [show i = Y.length + (i - Y.length) by omega, adx_hi]
        refine hsub _ ?_
        cases h3 : i - Y.length with
        | zero => exact Or.inl a0
        | succ j => exact Or.inr (an _ (Nat.succ_pos _) (by omega))
    · intro o k ho
      rw [List.length_append] at ho
      rw [show o = Y.length + (o - Y.length) by omega, sapp_I2, sapp_J2]
      exact hFz _ k (by omega)
    · intro i sh hi2
      rw [List.length_append]
      by_cases h1 : i < Y.length
      · rw [List.getElem?_append_left h1] at hi2
        have h2 := hP.2.2.2.2.2 i sh (by rw [List.getElem?_append_left h1]; exact hi2)
        rw [hlen] at h2
        exact shc_mono (by omega) (shc_R (σ := σ) (fun k => sapp_R h1 k) h2)
      · rw [List.getElem?_append_right (by omega)] at hi2
        have h2 := hFc _ sh hi2
        rw [show i = Y.length + (i - Y.length) by omega]
        exact ⟨fun e => slc_sapp _ _ (h2.1 e), fun e j hj => by have := h2.2 e j hj; omega⟩
  obtain ⟨t2, b1, b2⟩ := kk _ alo T'.heap (locs ++ L2) ls hW hL T' rfl X'
  exact ⟨t2, stp t2 b1, b2⟩
end GIR
end
section
/-! ===== the constructors ===== -/
abbrev layS0 : List Sh := [(0, 0, slX0)]
abbrev layS1 : List Sh := [(0, 1, slX1), (1, 3, [])]
abbrev layS6 : List Sh := [(0, 6, slX6), (1, 64, [])]
abbrev layS7 : List Sh := [(0, 7, slX7), (1, 30, []), (1, 30, []), (1, 30, []), (1, 30, []), (5, 30, [(1, 30)]), (1, 4, []), (1, 4, []), (1, 4, []), (1, 4, []), (1, 4, []), (1, 4, []), (1, 4, []), (1, 4, []), (1, 4, []), (1, 4, []), (1, 4, []), (1, 4, []), (1, 4, []), (1, 4, []), (1, 4, []), (1, 4, []), (1, 4, []), (1, 4, []), (1, 4, []), (1, 4, []), (1, 4, []), (1, 4, []), (1, 4, []), (1, 4, []), (1, 4, []), (1, 4, []), (1, 4, []), (1, 4, []), (1, 4, []), (1, 4, [])]
abbrev layS8 : List Sh := [(0, 8, slX8), (0, 7, slX7), (1, 30, []), (1, 30, []), (1, 30, []), (1, 30, []), (5, 30, [(1, 30)]), (1, 4, []), (1, 4, []), (1, 4, []), (1, 4, []), (1, 4, []), (1, 4, []), (1, 4, []), (1, 4, []), (1, 4, []), (1, 4, []), (1, 4, []), (1, 4, []), (1, 4, []), (1, 4, []), (1, 4, []), (1, 4, []), (1, 4, []), (1, 4, []), (1, 4, []), (1, 4, []), (1, 4, []), (1, 4, []), (1, 4, []), (1, 4, []), (1, 4, []), (1, 4, []), (1, 4, []), (1, 4, []), (1, 4, []), (1, 4, []), (0, 1, slX1), (1, 3, []), (1, 10, []), (1, 10, []), (1, 10, []), (1, 9, []), (1, 9, []), (0, 0, slX0)]
abbrev layS4 : List Sh := [(0, 4, slX4), (1, 10, []), (1, 10, []), (1, 10, [])]
abbrev layS2 : List Sh := [(0, 2, slX2), (1, 5, []), (1, 5, []), (0, 1, slX1), (1, 3, [])]
abbrev layS3 : List Sh := [(0, 3, slX3), (5, 5, [(1, 5)]), (1, 24, []), (1, 24, []), (1, 24, []), (1, 24, []), (1, 24, []), (3, 5, []), (3, 5, []), (5, 6, [(1, 6)]), (1, 12, []), (1, 12, []), (1, 12, []), (1, 12, []), (1, 12, []), (1, 12, [])]
abbrev layS5 : List Sh := [(0, 5, slX5), (2, 1000, [])]
abbrev layS9 : List Sh := layC
abbrev layS10 : List Sh := layM
theorem dX0_init_0 : decode cX0_init 0 = .ok (.aload_n 0, 1) := by decide +kernel
theorem dX0_init_1 : decode cX0_init 1 = .ok (.invokespecial 1, 3) := by decide +kernel
theorem dX0_init_4 : decode cX0_init 4 = .ok (.return_, 1) := by decide +kernel
def σX0 : Sg := σz
theorem df0 : ∀ j, j < 6 → defaultValue (tyX0 j) = vp_V (dfl [(0, 0), (0, 0), (0, 0), (0, 0), (0, 0), (0, 0)]) j := by decide +kernel
theorem cwi_X0 : Cwi yX0_init cX0_init 1 := ⟨aw_161, aw_51, ⟨by decide, by decide⟩, by decide +kernel, by decide, rfl⟩
set_option maxRecDepth 8000 in
theorem bn_X0 {K : KT} (C : CxI K cX0_init RX0 1 1 0 0) (hN : (kmeth K).name = "<init>") (hQ : Rki K layS0 σX0 0 0) : GW K 0 (pad [some (.ref (kad K 0))] 1) [] 0 0 (WI K [(0, 0, [(0, 0), (0, 0), (0, 0), (0, 0), (0, 0), (0, 0)])] σz (kad K)) := by
  show GW K 0 [some (.ref (kad K 0))] [] 0 0 (WI K _ _ (kad K))
  refine n_aload_n C.1 dX0_init_0 rfl (i := 0) rfl ?_
  refine n_obj C dX0_init_1 aw_162 aw_65 aw_66 rfl (Nat.le_of_ble_eq_true rfl) (Nat.le_of_ble_eq_true rfl) ?_
  exact n_vret C hQ rfl (Nat.le_of_ble_eq_true rfl) dX0_init_4
theorem cn_X0 : Cn yX0_init cX0_init 1 1 0 [(0, 0), (0, 0), (0, 0), (0, 0), (0, 0), (0, 0)] layS0 σX0 0 0 := cn_of (by decide) rfl (by decide) (by decide) (fun K C hN hQ => bn_X0 C hN hQ)
theorem dX1_init_0 : decode cX1_init 0 = .ok (.aload_n 0, 1) := by decide +kernel
theorem dX1_init_1 : decode cX1_init 1 = .ok (.invokespecial 1, 3) := by decide +kernel
theorem dX1_init_4 : decode cX1_init 4 = .ok (.aload_n 0, 1) := by decide +kernel
theorem dX1_init_5 : decode cX1_init 5 = .ok (.iconst 3, 1) := by decide +kernel
theorem dX1_init_6 : decode cX1_init 6 = .ok (.newarray .int, 2) := by decide +kernel
theorem dX1_init_8 : decode cX1_init 8 = .ok (.dup, 1) := by decide +kernel
theorem dX1_init_9 : decode cX1_init 9 = .ok (.iconst 0, 1) := by decide +kernel
theorem dX1_init_10 : decode cX1_init 10 = .ok (.iconst 3, 1) := by decide +kernel
theorem dX1_init_11 : decode cX1_init 11 = .ok (.iastore, 1) := by decide +kernel
theorem dX1_init_12 : decode cX1_init 12 = .ok (.dup, 1) := by decide +kernel
theorem dX1_init_13 : decode cX1_init 13 = .ok (.iconst 1, 1) := by decide +kernel
theorem dX1_init_14 : decode cX1_init 14 = .ok (.iconst 1, 1) := by decide +kernel
theorem dX1_init_15 : decode cX1_init 15 = .ok (.iastore, 1) := by decide +kernel
theorem dX1_init_16 : decode cX1_init 16 = .ok (.dup, 1) := by decide +kernel
theorem dX1_init_17 : decode cX1_init 17 = .ok (.iconst 2, 1) := by decide +kernel
theorem dX1_init_18 : decode cX1_init 18 = .ok (.bipush 20, 2) := by decide +kernel
theorem dX1_init_20 : decode cX1_init 20 = .ok (.iastore, 1) := by decide +kernel
theorem dX1_init_21 : decode cX1_init 21 = .ok (.putfield 7, 3) := by decide +kernel
theorem dX1_init_24 : decode cX1_init 24 = .ok (.return_, 1) := by decide +kernel
def σX1 : Sg := (wI (wI (wI σz 1 ((0 : Int32)).toNatClampNeg (3 : Int32)) 1 ((1 : Int32)).toNatClampNeg (1 : Int32)) 1 ((2 : Int32)).toNatClampNeg (20 : Int32))
theorem df1 : ∀ j, j < 1 → defaultValue (tyX1 j) = vp_V (dfl [(4, 0)]) j := by decide +kernel
theorem cwi_X1 : Cwi yX1_init cX1_init 1 := ⟨aw_150, aw_50, ⟨by decide, by decide⟩, by decide +kernel, by decide, rfl⟩
set_option maxRecDepth 8000 in
theorem bn_X1 {K : KT} (C : CxI K cX1_init RX1 1 1 1 3) (hN : (kmeth K).name = "<init>") (hQ : Rki K layS1 σX1 1 3) : GW K 0 (pad [some (.ref (kad K 0))] 1) [] 0 0 (WI K [(0, 1, [(4, 0)])] σz (kad K)) := by
  show GW K 0 [some (.ref (kad K 0))] [] 0 0 (WI K _ _ (kad K))
  refine n_aload_n C.1 dX1_init_0 rfl (i := 0) rfl ?_
  refine n_obj C dX1_init_1 aw_151 aw_65 aw_66 rfl (Nat.le_of_ble_eq_true rfl) (Nat.le_of_ble_eq_true rfl) ?_
  refine n_aload_n C.1 dX1_init_4 rfl (i := 0) rfl ?_
  refine n_iconst C.1 dX1_init_5 (v := (3 : Int32)) (by decide) ?_
  refine n_newI C (N := 3) dX1_init_6 aw_97 (by decide) (by decide) (Nat.le_of_ble_eq_true rfl) (Nat.le_of_ble_eq_true rfl) (Nat.le_of_ble_eq_true rfl) (fun a1 e1 => ?_)
  rw [← e1 0 (Nat.le_of_ble_eq_true rfl)]
  have z1 : a1 0 = kad K 0 := (e1 0 (Nat.le_of_ble_eq_true rfl)).trans rfl
  show GW K 8 [some (.ref (a1 0))] [.ref (a1 1), .ref (a1 0)] 1 3 (WI K _ _ a1)
  refine n_dup C.1 dX1_init_8 rfl ?_
  refine n_iconst C.1 dX1_init_9 (v := (0 : Int32)) (by decide) ?_
  refine n_iconst C.1 dX1_init_10 (v := (3 : Int32)) (by decide) ?_
  refine n_iast C (o := 1) dX1_init_11 rfl (by decide) ?_
  refine n_dup C.1 dX1_init_12 rfl ?_
  refine n_iconst C.1 dX1_init_13 (v := (1 : Int32)) (by decide) ?_
  refine n_iconst C.1 dX1_init_14 (v := (1 : Int32)) (by decide) ?_
  refine n_iast C (o := 1) dX1_init_15 rfl (by decide) ?_
  refine n_dup C.1 dX1_init_16 rfl ?_
  refine n_iconst C.1 dX1_init_17 (v := (2 : Int32)) (by decide) ?_
  refine n_bipush C.1 dX1_init_18 (v := (20 : Int32)) (by decide) ?_
  refine n_iast C (o := 1) dX1_init_20 rfl (by decide) ?_
  refine n_putC C (o := 0) (kx := 1) (k := 0) (off := 1) (v := 1) hN dX1_init_21 rfl (Nat.le_of_ble_eq_true rfl) rfl (by decide) aw_152 inA1 tyX1_ok nmX1 rfl (fun _ => rfl) (fun _ => rfl) rfl (Nat.le_of_ble_eq_true rfl) ?_
  exact n_vret C hQ z1 (Nat.le_of_ble_eq_true rfl) dX1_init_24
theorem cn_X1 : Cn yX1_init cX1_init 1 1 1 [(4, 0)] layS1 σX1 1 3 := cn_of (by decide) rfl (by decide) (by decide) (fun K C hN hQ => bn_X1 C hN hQ)
theorem dX6_init_0 : decode cX6_init 0 = .ok (.aload_n 0, 1) := by decide +kernel
theorem dX6_init_1 : decode cX6_init 1 = .ok (.invokespecial 3, 3) := by decide +kernel
theorem dX6_init_4 : decode cX6_init 4 = .ok (.aload_n 0, 1) := by decide +kernel
theorem dX6_init_5 : decode cX6_init 5 = .ok (.bipush 64, 2) := by decide +kernel
theorem dX6_init_7 : decode cX6_init 7 = .ok (.newarray .int, 2) := by decide +kernel
theorem dX6_init_9 : decode cX6_init 9 = .ok (.putfield 11, 3) := by decide +kernel
theorem dX6_init_12 : decode cX6_init 12 = .ok (.return_, 1) := by decide +kernel
def σX6 : Sg := σz
theorem df6 : ∀ j, j < 7 → defaultValue (tyX6 j) = vp_V (dfl [(4, 0), (0, 0), (0, 0), (0, 0), (0, 0), (0, 0), (0, 0)]) j := by decide +kernel
theorem cwi_X6 : Cwi yX6_init cX6_init 1 := ⟨aw_71, aw_47, ⟨by decide, by decide⟩, by decide +kernel, by decide, rfl⟩
set_option maxRecDepth 8000 in
theorem bn_X6 {K : KT} (C : CxI K cX6_init RX6 1 1 1 64) (hN : (kmeth K).name = "<init>") (hQ : Rki K layS6 σX6 1 64) : GW K 0 (pad [some (.ref (kad K 0))] 1) [] 0 0 (WI K [(0, 6, [(4, 0), (0, 0), (0, 0), (0, 0), (0, 0), (0, 0), (0, 0)])] σz (kad K)) := by
  show GW K 0 [some (.ref (kad K 0))] [] 0 0 (WI K _ _ (kad K))
  refine n_aload_n C.1 dX6_init_0 rfl (i := 0) rfl ?_
  refine n_obj C dX6_init_1 aw_72 aw_65 aw_66 rfl (Nat.le_of_ble_eq_true rfl) (Nat.le_of_ble_eq_true rfl) ?_
  refine n_aload_n C.1 dX6_init_4 rfl (i := 0) rfl ?_
  refine n_bipush C.1 dX6_init_5 (v := (64 : Int32)) (by decide) ?_
  refine n_newI C (N := 64) dX6_init_7 aw_97 (by decide) (by decide) (Nat.le_of_ble_eq_true rfl) (Nat.le_of_ble_eq_true rfl) (Nat.le_of_ble_eq_true rfl) (fun a1 e1 => ?_)
  rw [← e1 0 (Nat.le_of_ble_eq_true rfl)]
  have z1 : a1 0 = kad K 0 := (e1 0 (Nat.le_of_ble_eq_true rfl)).trans rfl
  show GW K 9 [some (.ref (a1 0))] [.ref (a1 1), .ref (a1 0)] 1 64 (WI K _ _ a1)
  refine n_putC C (o := 0) (kx := 6) (k := 0) (off := 1) (v := 1) hN dX6_init_9 rfl (Nat.le_of_ble_eq_true rfl) rfl (by decide) aw_73 inA6 tyX6_ok nmX6 rfl (fun _ => rfl) (fun _ => rfl) rfl (Nat.le_of_ble_eq_true rfl) ?_
  exact n_vret C hQ z1 (Nat.le_of_ble_eq_true rfl) dX6_init_12
theorem cn_X6 : Cn yX6_init cX6_init 1 1 6 [(4, 0), (0, 0), (0, 0), (0, 0), (0, 0), (0, 0), (0, 0)] layS6 σX6 1 64 := cn_of (by decide) rfl (by decide) (by decide) (fun K C hN hQ => bn_X6 C hN hQ)
theorem dX7_init_0 : decode cX7_init 0 = .ok (.aload_n 0, 1) := by decide +kernel
theorem dX7_init_1 : decode cX7_init 1 = .ok (.invokespecial 5, 3) := by decide +kernel
theorem dX7_init_4 : decode cX7_init 4 = .ok (.aload_n 0, 1) := by decide +kernel
theorem dX7_init_5 : decode cX7_init 5 = .ok (.bipush 30, 2) := by decide +kernel
theorem dX7_init_7 : decode cX7_init 7 = .ok (.newarray .int, 2) := by decide +kernel
theorem dX7_init_9 : decode cX7_init 9 = .ok (.putfield 11, 3) := by decide +kernel
theorem dX7_init_12 : decode cX7_init 12 = .ok (.aload_n 0, 1) := by decide +kernel
theorem dX7_init_13 : decode cX7_init 13 = .ok (.bipush 30, 2) := by decide +kernel
theorem dX7_init_15 : decode cX7_init 15 = .ok (.newarray .int, 2) := by decide +kernel
theorem dX7_init_17 : decode cX7_init 17 = .ok (.putfield 15, 3) := by decide +kernel
theorem dX7_init_20 : decode cX7_init 20 = .ok (.aload_n 0, 1) := by decide +kernel
theorem dX7_init_21 : decode cX7_init 21 = .ok (.bipush 30, 2) := by decide +kernel
theorem dX7_init_23 : decode cX7_init 23 = .ok (.newarray .int, 2) := by decide +kernel
theorem dX7_init_25 : decode cX7_init 25 = .ok (.putfield 18, 3) := by decide +kernel
theorem dX7_init_28 : decode cX7_init 28 = .ok (.aload_n 0, 1) := by decide +kernel
theorem dX7_init_29 : decode cX7_init 29 = .ok (.bipush 30, 2) := by decide +kernel
theorem dX7_init_31 : decode cX7_init 31 = .ok (.newarray .int, 2) := by decide +kernel
theorem dX7_init_33 : decode cX7_init 33 = .ok (.putfield 21, 3) := by decide +kernel
theorem dX7_init_36 : decode cX7_init 36 = .ok (.aload_n 0, 1) := by decide +kernel
theorem dX7_init_37 : decode cX7_init 37 = .ok (.bipush 30, 2) := by decide +kernel
theorem dX7_init_39 : decode cX7_init 39 = .ok (.iconst 4, 1) := by decide +kernel
theorem dX7_init_40 : decode cX7_init 40 = .ok (.multianewarray 24 2, 4) := by decide +kernel
theorem dX7_init_44 : decode cX7_init 44 = .ok (.putfield 26, 3) := by decide +kernel
theorem dX7_init_47 : decode cX7_init 47 = .ok (.return_, 1) := by decide +kernel
def σX7 : Sg := σz
theorem df7 : ∀ j, j < 8 → defaultValue (tyX7 j) = vp_V (dfl [(4, 0), (4, 0), (4, 0), (4, 0), (4, 0), (0, 0), (0, 0), (0, 0)]) j := by decide +kernel
theorem cwi_X7 : Cwi yX7_init cX7_init 1 := ⟨aw_108, aw_49, ⟨by decide, by decide⟩, by decide +kernel, by decide, rfl⟩
set_option maxRecDepth 8000 in
theorem bn_X7 {K : KT} (C : CxI K cX7_init RX7 1 1 35 270) (hN : (kmeth K).name = "<init>") (hQ : Rki K layS7 σX7 35 270) : GW K 0 (pad [some (.ref (kad K 0))] 1) [] 0 0 (WI K [(0, 7, [(4, 0), (4, 0), (4, 0), (4, 0), (4, 0), (0, 0), (0, 0), (0, 0)])] σz (kad K)) := by
  show GW K 0 [some (.ref (kad K 0))] [] 0 0 (WI K _ _ (kad K))
  refine n_aload_n C.1 dX7_init_0 rfl (i := 0) rfl ?_
  refine n_obj C dX7_init_1 aw_109 aw_65 aw_66 rfl (Nat.le_of_ble_eq_true rfl) (Nat.le_of_ble_eq_true rfl) ?_
  refine n_aload_n C.1 dX7_init_4 rfl (i := 0) rfl ?_
  refine n_bipush C.1 dX7_init_5 (v := (30 : Int32)) (by decide) ?_
  refine n_newI C (N := 30) dX7_init_7 aw_97 (by decide) (by decide) (Nat.le_of_ble_eq_true rfl) (Nat.le_of_ble_eq_true rfl) (Nat.le_of_ble_eq_true rfl) (fun a1 e1 => ?_)
  rw [← e1 0 (Nat.le_of_ble_eq_true rfl)]
  have z1 : a1 0 = kad K 0 := (e1 0 (Nat.le_of_ble_eq_true rfl)).trans rfl
  show GW K 9 [some (.ref (a1 0))] [.ref (a1 1), .ref (a1 0)] 1 30 (WI K _ _ a1)
  refine n_putC C (o := 0) (kx := 7) (k := 0) (off := 1) (v := 1) hN dX7_init_9 rfl (Nat.le_of_ble_eq_true rfl) rfl (by decide) aw_112 inA7 tyX7_ok nmX7 rfl (fun _ => rfl) (fun _ => rfl) rfl (Nat.le_of_ble_eq_true rfl) ?_
  refine n_aload_n C.1 dX7_init_12 rfl (i := 0) rfl ?_
  refine n_bipush C.1 dX7_init_13 (v := (30 : Int32)) (by decide) ?_
  refine n_newI C (N := 30) dX7_init_15 aw_97 (by decide) (by decide) (Nat.le_of_ble_eq_true rfl) (Nat.le_of_ble_eq_true rfl) (Nat.le_of_ble_eq_true rfl) (fun a2 e2 => ?_)
  rw [← e2 0 (Nat.le_of_ble_eq_true rfl)]
  have z2 : a2 0 = kad K 0 := (e2 0 (Nat.le_of_ble_eq_true rfl)).trans z1
  show GW K 17 [some (.ref (a2 0))] [.ref (a2 2), .ref (a2 0)] 2 60 (WI K _ _ a2)
  refine n_putC C (o := 0) (kx := 7) (k := 1) (off := 2) (v := 2) hN dX7_init_17 rfl (Nat.le_of_ble_eq_true rfl) rfl (by decide) aw_115 inA7 tyX7_ok nmX7 rfl (fun _ => rfl) (fun _ => rfl) rfl (Nat.le_of_ble_eq_true rfl) ?_
  refine n_aload_n C.1 dX7_init_20 rfl (i := 0) rfl ?_
  refine n_bipush C.1 dX7_init_21 (v := (30 : Int32)) (by decide) ?_
  refine n_newI C (N := 30) dX7_init_23 aw_97 (by decide) (by decide) (Nat.le_of_ble_eq_true rfl) (Nat.le_of_ble_eq_true rfl) (Nat.le_of_ble_eq_true rfl) (fun a3 e3 => ?_)
  rw [← e3 0 (Nat.le_of_ble_eq_true rfl)]
  have z3 : a3 0 = kad K 0 := (e3 0 (Nat.le_of_ble_eq_true rfl)).trans z2
  show GW K 25 [some (.ref (a3 0))] [.ref (a3 3), .ref (a3 0)] 3 90 (WI K _ _ a3)
  refine n_putC C (o := 0) (kx := 7) (k := 2) (off := 3) (v := 3) hN dX7_init_25 rfl (Nat.le_of_ble_eq_true rfl) rfl (by decide) aw_118 inA7 tyX7_ok nmX7 rfl (fun _ => rfl) (fun _ => rfl) rfl (Nat.le_of_ble_eq_true rfl) ?_
  refine n_aload_n C.1 dX7_init_28 rfl (i := 0) rfl ?_
  refine n_bipush C.1 dX7_init_29 (v := (30 : Int32)) (by decide) ?_
  refine n_newI C (N := 30) dX7_init_31 aw_97 (by decide) (by decide) (Nat.le_of_ble_eq_true rfl) (Nat.le_of_ble_eq_true rfl) (Nat.le_of_ble_eq_true rfl) (fun a4 e4 => ?_)
  rw [← e4 0 (Nat.le_of_ble_eq_true rfl)]
  have z4 : a4 0 = kad K 0 := (e4 0 (Nat.le_of_ble_eq_true rfl)).trans z3
  show GW K 33 [some (.ref (a4 0))] [.ref (a4 4), .ref (a4 0)] 4 120 (WI K _ _ a4)
  refine n_putC C (o := 0) (kx := 7) (k := 3) (off := 4) (v := 4) hN dX7_init_33 rfl (Nat.le_of_ble_eq_true rfl) rfl (by decide) aw_120 inA7 tyX7_ok nmX7 rfl (fun _ => rfl) (fun _ => rfl) rfl (Nat.le_of_ble_eq_true rfl) ?_
  refine n_aload_n C.1 dX7_init_36 rfl (i := 0) rfl ?_
  refine n_bipush C.1 dX7_init_37 (v := (30 : Int32)) (by decide) ?_
  refine n_iconst C.1 dX7_init_39 (v := (4 : Int32)) (by decide) ?_
  refine n_mna C (N := 30) (M := 4) dX7_init_40 aw_110 aw_97 (by decide) (by decide) (by decide) (by decide) (Nat.le_of_ble_eq_true rfl) (Nat.le_of_ble_eq_true rfl) (Nat.le_of_ble_eq_true rfl) (Nat.le_of_ble_eq_true rfl) (fun a5 e5 => ?_)
  rw [← e5 0 (Nat.le_of_ble_eq_true rfl)]
  have z5 : a5 0 = kad K 0 := (e5 0 (Nat.le_of_ble_eq_true rfl)).trans z4
  show GW K 44 [some (.ref (a5 0))] [.ref (a5 5), .ref (a5 0)] 35 270 (WI K _ _ a5)
  refine n_putC C (o := 0) (kx := 7) (k := 4) (off := 5) (v := 5) hN dX7_init_44 rfl (Nat.le_of_ble_eq_true rfl) rfl (by decide) aw_122 inA7 tyX7_ok nmX7 rfl (fun _ => rfl) (fun _ => rfl) rfl (Nat.le_of_ble_eq_true rfl) ?_
  exact n_vret C hQ z5 (Nat.le_of_ble_eq_true rfl) dX7_init_47
theorem cn_X7 : Cn yX7_init cX7_init 1 1 7 [(4, 0), (4, 0), (4, 0), (4, 0), (4, 0), (0, 0), (0, 0), (0, 0)] layS7 σX7 35 270 := cn_of (by decide) rfl (by decide) (by decide) (fun K C hN hQ => bn_X7 C hN hQ)
theorem dX8_init_0 : decode cX8_init 0 = .ok (.aload_n 0, 1) := by decide +kernel
theorem dX8_init_1 : decode cX8_init 1 = .ok (.invokespecial 5, 3) := by decide +kernel
theorem dX8_init_4 : decode cX8_init 4 = .ok (.aload_n 0, 1) := by decide +kernel
theorem dX8_init_5 : decode cX8_init 5 = .ok (.new 1, 3) := by decide +kernel
theorem dX8_init_8 : decode cX8_init 8 = .ok (.dup, 1) := by decide +kernel
theorem dX8_init_9 : decode cX8_init 9 = .ok (.invokespecial 11, 3) := by decide +kernel
theorem dX8_init_12 : decode cX8_init 12 = .ok (.putfield 12, 3) := by decide +kernel
theorem dX8_init_15 : decode cX8_init 15 = .ok (.aload_n 0, 1) := by decide +kernel
theorem dX8_init_16 : decode cX8_init 16 = .ok (.new 18, 3) := by decide +kernel
theorem dX8_init_19 : decode cX8_init 19 = .ok (.dup, 1) := by decide +kernel
theorem dX8_init_20 : decode cX8_init 20 = .ok (.invokespecial 20, 3) := by decide +kernel
theorem dX8_init_23 : decode cX8_init 23 = .ok (.putfield 21, 3) := by decide +kernel
theorem dX8_init_26 : decode cX8_init 26 = .ok (.aload_n 0, 1) := by decide +kernel
theorem dX8_init_27 : decode cX8_init 27 = .ok (.bipush 10, 2) := by decide +kernel
theorem dX8_init_29 : decode cX8_init 29 = .ok (.newarray .int, 2) := by decide +kernel
theorem dX8_init_31 : decode cX8_init 31 = .ok (.putfield 25, 3) := by decide +kernel
theorem dX8_init_34 : decode cX8_init 34 = .ok (.aload_n 0, 1) := by decide +kernel
theorem dX8_init_35 : decode cX8_init 35 = .ok (.bipush 10, 2) := by decide +kernel
theorem dX8_init_37 : decode cX8_init 37 = .ok (.newarray .int, 2) := by decide +kernel
theorem dX8_init_39 : decode cX8_init 39 = .ok (.putfield 29, 3) := by decide +kernel
theorem dX8_init_42 : decode cX8_init 42 = .ok (.aload_n 0, 1) := by decide +kernel
theorem dX8_init_43 : decode cX8_init 43 = .ok (.bipush 10, 2) := by decide +kernel
theorem dX8_init_45 : decode cX8_init 45 = .ok (.newarray .int, 2) := by decide +kernel
theorem dX8_init_47 : decode cX8_init 47 = .ok (.putfield 32, 3) := by decide +kernel
theorem dX8_init_50 : decode cX8_init 50 = .ok (.aload_n 0, 1) := by decide +kernel
theorem dX8_init_51 : decode cX8_init 51 = .ok (.bipush 9, 2) := by decide +kernel
theorem dX8_init_53 : decode cX8_init 53 = .ok (.newarray .int, 2) := by decide +kernel
theorem dX8_init_55 : decode cX8_init 55 = .ok (.putfield 35, 3) := by decide +kernel
theorem dX8_init_58 : decode cX8_init 58 = .ok (.aload_n 0, 1) := by decide +kernel
theorem dX8_init_59 : decode cX8_init 59 = .ok (.bipush 9, 2) := by decide +kernel
theorem dX8_init_61 : decode cX8_init 61 = .ok (.newarray .int, 2) := by decide +kernel
theorem dX8_init_63 : decode cX8_init 63 = .ok (.putfield 38, 3) := by decide +kernel
theorem dX8_init_66 : decode cX8_init 66 = .ok (.aload_n 0, 1) := by decide +kernel
theorem dX8_init_67 : decode cX8_init 67 = .ok (.new 41, 3) := by decide +kernel
theorem dX8_init_70 : decode cX8_init 70 = .ok (.dup, 1) := by decide +kernel
theorem dX8_init_71 : decode cX8_init 71 = .ok (.invokespecial 43, 3) := by decide +kernel
theorem dX8_init_74 : decode cX8_init 74 = .ok (.putfield 44, 3) := by decide +kernel
theorem dX8_init_77 : decode cX8_init 77 = .ok (.aload_n 0, 1) := by decide +kernel
theorem dX8_init_78 : decode cX8_init 78 = .ok (.iconst 1, 1) := by decide +kernel
theorem dX8_init_79 : decode cX8_init 79 = .ok (.putfield 48, 3) := by decide +kernel
theorem dX8_init_82 : decode cX8_init 82 = .ok (.return_, 1) := by decide +kernel
def σX8 : Sg := (wI (wR (sapp 44 (sapp 37 (sapp 1 σz σX7) σX1) σX0) 0 7 44) 0 8 (1 : Int32))
theorem df8 : ∀ j, j < 17 → defaultValue (tyX8 j) = vp_V (dfl [(4, 0), (4, 0), (4, 0), (4, 0), (4, 0), (4, 0), (4, 0), (4, 0), (0, 0), (0, 0), (0, 0), (0, 0), (0, 0), (0, 0), (0, 0), (0, 0), (1, 0)]) j := by decide +kernel
theorem cwi_X8 : Cwi yX8_init cX8_init 1 := ⟨aw_102, aw_48, ⟨by decide, by decide⟩, by decide +kernel, by decide, rfl⟩
set_option maxRecDepth 8000 in
theorem bn_X8 {K : KT} (C : CxI K cX8_init RX8 1 2 44 336) (hN : (kmeth K).name = "<init>") (hQ : Rki K layS8 σX8 44 336) : GW K 0 (pad [some (.ref (kad K 0))] 1) [] 0 0 (WI K [(0, 8, [(4, 0), (4, 0), (4, 0), (4, 0), (4, 0), (4, 0), (4, 0), (4, 0), (0, 0), (0, 0), (0, 0), (0, 0), (0, 0), (0, 0), (0, 0), (0, 0), (1, 0)])] σz (kad K)) := by
  show GW K 0 [some (.ref (kad K 0))] [] 0 0 (WI K _ _ (kad K))
  refine n_aload_n C.1 dX8_init_0 rfl (i := 0) rfl ?_
  refine n_obj C dX8_init_1 aw_103 aw_65 aw_66 rfl (Nat.le_of_ble_eq_true rfl) (Nat.le_of_ble_eq_true rfl) ?_
  refine n_aload_n C.1 dX8_init_4 rfl (i := 0) rfl ?_
  refine n_new C (kx := 7) (sl := [(4, 0), (4, 0), (4, 0), (4, 0), (4, 0), (0, 0), (0, 0), (0, 0)]) dX8_init_5 rfl inA7 tyX7_ok aw_104 aw_105 aw_49 (by decide) df7 (Nat.le_of_ble_eq_true rfl) (Nat.le_of_ble_eq_true rfl) (fun a1 e1 y1 => ?_)
  rw [← e1 0 (Nat.le_of_ble_eq_true rfl)]
  have z1 : a1 0 = kad K 0 := (e1 0 (Nat.le_of_ble_eq_true rfl)).trans rfl
  show GW K 8 [some (.ref (a1 0))] [.ref (a1 1), .ref (a1 0)] 1 8 (WI K _ _ a1)
  refine n_dup C.1 dX8_init_8 rfl ?_
  refine n_call C (n := 1) (Y := _) cn_X7 dX8_init_9 cwi_X7 (Or.inr ⟨_, aw_106⟩) aw_107 (by decide) (Nat.le_of_ble_eq_true rfl) rfl rfl (Nat.le_of_ble_eq_true rfl) (Nat.le_of_ble_eq_true rfl) (Nat.le_of_ble_eq_true rfl) (Nat.le_of_ble_eq_true rfl) rfl y1 (fun a2 e2 => ?_)
  rw [← e2 0 (Nat.le_of_ble_eq_true rfl)]
  rw [← e2 1 (Nat.le_of_ble_eq_true rfl)]
  have z2 : a2 0 = kad K 0 := (e2 0 (Nat.le_of_ble_eq_true rfl)).trans z1
  show GW K 12 [some (.ref (a2 0))] [.ref (a2 1), .ref (a2 0)] 36 278 (WI K _ _ a2)
  refine n_putC C (o := 0) (kx := 8) (k := 0) (off := 1) (v := 1) hN dX8_init_12 rfl (Nat.le_of_ble_eq_true rfl) rfl (by decide) aw_192 inA8 tyX8_ok nmX8 rfl (fun _ => rfl) (fun _ => rfl) rfl (Nat.le_of_ble_eq_true rfl) ?_
  refine n_aload_n C.1 dX8_init_15 rfl (i := 0) rfl ?_
  refine n_new C (kx := 1) (sl := [(4, 0)]) dX8_init_16 rfl inA1 tyX1_ok aw_146 aw_147 aw_50 (by decide) df1 (Nat.le_of_ble_eq_true rfl) (Nat.le_of_ble_eq_true rfl) (fun a3 e3 y3 => ?_)
  rw [← e3 0 (Nat.le_of_ble_eq_true rfl)]
  have z3 : a3 0 = kad K 0 := (e3 0 (Nat.le_of_ble_eq_true rfl)).trans z2
  show GW K 19 [some (.ref (a3 0))] [.ref (a3 37), .ref (a3 0)] 37 279 (WI K _ _ a3)
  refine n_dup C.1 dX8_init_19 rfl ?_
  refine n_call C (n := 37) (Y := _) cn_X1 dX8_init_20 cwi_X1 (Or.inr ⟨_, aw_148⟩) aw_149 (by decide) (Nat.le_of_ble_eq_true rfl) rfl rfl (Nat.le_of_ble_eq_true rfl) (Nat.le_of_ble_eq_true rfl) (Nat.le_of_ble_eq_true rfl) (Nat.le_of_ble_eq_true rfl) rfl y3 (fun a4 e4 => ?_)
  rw [← e4 0 (Nat.le_of_ble_eq_true rfl)]
  rw [← e4 37 (Nat.le_of_ble_eq_true rfl)]
  have z4 : a4 0 = kad K 0 := (e4 0 (Nat.le_of_ble_eq_true rfl)).trans z3
  show GW K 23 [some (.ref (a4 0))] [.ref (a4 37), .ref (a4 0)] 38 282 (WI K _ _ a4)
  refine n_putC C (o := 0) (kx := 8) (k := 1) (off := 37) (v := 37) hN dX8_init_23 rfl (Nat.le_of_ble_eq_true rfl) rfl (by decide) aw_194 inA8 tyX8_ok nmX8 rfl (fun _ => rfl) (fun _ => rfl) rfl (Nat.le_of_ble_eq_true rfl) ?_
  refine n_aload_n C.1 dX8_init_26 rfl (i := 0) rfl ?_
  refine n_bipush C.1 dX8_init_27 (v := (10 : Int32)) (by decide) ?_
  refine n_newI C (N := 10) dX8_init_29 aw_97 (by decide) (by decide) (Nat.le_of_ble_eq_true rfl) (Nat.le_of_ble_eq_true rfl) (Nat.le_of_ble_eq_true rfl) (fun a5 e5 => ?_)
  rw [← e5 0 (Nat.le_of_ble_eq_true rfl)]
  have z5 : a5 0 = kad K 0 := (e5 0 (Nat.le_of_ble_eq_true rfl)).trans z4
  show GW K 31 [some (.ref (a5 0))] [.ref (a5 39), .ref (a5 0)] 39 292 (WI K _ _ a5)
  refine n_putC C (o := 0) (kx := 8) (k := 2) (off := 39) (v := 39) hN dX8_init_31 rfl (Nat.le_of_ble_eq_true rfl) rfl (by decide) aw_196 inA8 tyX8_ok nmX8 rfl (fun _ => rfl) (fun _ => rfl) rfl (Nat.le_of_ble_eq_true rfl) ?_
  refine n_aload_n C.1 dX8_init_34 rfl (i := 0) rfl ?_
  refine n_bipush C.1 dX8_init_35 (v := (10 : Int32)) (by decide) ?_
  refine n_newI C (N := 10) dX8_init_37 aw_97 (by decide) (by decide) (Nat.le_of_ble_eq_true rfl) (Nat.le_of_ble_eq_true rfl) (Nat.le_of_ble_eq_true rfl) (fun a6 e6 => ?_)
  rw [← e6 0 (Nat.le_of_ble_eq_true rfl)]
  have z6 : a6 0 = kad K 0 := (e6 0 (Nat.le_of_ble_eq_true rfl)).trans z5
  show GW K 39 [some (.ref (a6 0))] [.ref (a6 40), .ref (a6 0)] 40 302 (WI K _ _ a6)
  refine n_putC C (o := 0) (kx := 8) (k := 3) (off := 40) (v := 40) hN dX8_init_39 rfl (Nat.le_of_ble_eq_true rfl) rfl (by decide) aw_197 inA8 tyX8_ok nmX8 rfl (fun _ => rfl) (fun _ => rfl) rfl (Nat.le_of_ble_eq_true rfl) ?_
  refine n_aload_n C.1 dX8_init_42 rfl (i := 0) rfl ?_
  refine n_bipush C.1 dX8_init_43 (v := (10 : Int32)) (by decide) ?_
  refine n_newI C (N := 10) dX8_init_45 aw_97 (by decide) (by decide) (Nat.le_of_ble_eq_true rfl) (Nat.le_of_ble_eq_true rfl) (Nat.le_of_ble_eq_true rfl) (fun a7 e7 => ?_)
  rw [← e7 0 (Nat.le_of_ble_eq_true rfl)]
  have z7 : a7 0 = kad K 0 := (e7 0 (Nat.le_of_ble_eq_true rfl)).trans z6
  show GW K 47 [some (.ref (a7 0))] [.ref (a7 41), .ref (a7 0)] 41 312 (WI K _ _ a7)
  refine n_putC C (o := 0) (kx := 8) (k := 4) (off := 41) (v := 41) hN dX8_init_47 rfl (Nat.le_of_ble_eq_true rfl) rfl (by decide) aw_198 inA8 tyX8_ok nmX8 rfl (fun _ => rfl) (fun _ => rfl) rfl (Nat.le_of_ble_eq_true rfl) ?_
  refine n_aload_n C.1 dX8_init_50 rfl (i := 0) rfl ?_
  refine n_bipush C.1 dX8_init_51 (v := (9 : Int32)) (by decide) ?_
  refine n_newI C (N := 9) dX8_init_53 aw_97 (by decide) (by decide) (Nat.le_of_ble_eq_true rfl) (Nat.le_of_ble_eq_true rfl) (Nat.le_of_ble_eq_true rfl) (fun a8 e8 => ?_)
  rw [← e8 0 (Nat.le_of_ble_eq_true rfl)]
  have z8 : a8 0 = kad K 0 := (e8 0 (Nat.le_of_ble_eq_true rfl)).trans z7
  show GW K 55 [some (.ref (a8 0))] [.ref (a8 42), .ref (a8 0)] 42 321 (WI K _ _ a8)
  refine n_putC C (o := 0) (kx := 8) (k := 5) (off := 42) (v := 42) hN dX8_init_55 rfl (Nat.le_of_ble_eq_true rfl) rfl (by decide) aw_199 inA8 tyX8_ok nmX8 rfl (fun _ => rfl) (fun _ => rfl) rfl (Nat.le_of_ble_eq_true rfl) ?_
  refine n_aload_n C.1 dX8_init_58 rfl (i := 0) rfl ?_
  refine n_bipush C.1 dX8_init_59 (v := (9 : Int32)) (by decide) ?_
  refine n_newI C (N := 9) dX8_init_61 aw_97 (by decide) (by decide) (Nat.le_of_ble_eq_true rfl) (Nat.le_of_ble_eq_true rfl) (Nat.le_of_ble_eq_true rfl) (fun a9 e9 => ?_)
  rw [← e9 0 (Nat.le_of_ble_eq_true rfl)]
  have z9 : a9 0 = kad K 0 := (e9 0 (Nat.le_of_ble_eq_true rfl)).trans z8
  show GW K 63 [some (.ref (a9 0))] [.ref (a9 43), .ref (a9 0)] 43 330 (WI K _ _ a9)
  refine n_putC C (o := 0) (kx := 8) (k := 6) (off := 43) (v := 43) hN dX8_init_63 rfl (Nat.le_of_ble_eq_true rfl) rfl (by decide) aw_200 inA8 tyX8_ok nmX8 rfl (fun _ => rfl) (fun _ => rfl) rfl (Nat.le_of_ble_eq_true rfl) ?_
  refine n_aload_n C.1 dX8_init_66 rfl (i := 0) rfl ?_
  refine n_new C (kx := 0) (sl := [(0, 0), (0, 0), (0, 0), (0, 0), (0, 0), (0, 0)]) dX8_init_67 rfl inA0 tyX0_ok aw_157 aw_158 aw_51 (by decide) df0 (Nat.le_of_ble_eq_true rfl) (Nat.le_of_ble_eq_true rfl) (fun a10 e10 y10 => ?_)
  rw [← e10 0 (Nat.le_of_ble_eq_true rfl)]
  have z10 : a10 0 = kad K 0 := (e10 0 (Nat.le_of_ble_eq_true rfl)).trans z9
  show GW K 70 [some (.ref (a10 0))] [.ref (a10 44), .ref (a10 0)] 44 336 (WI K _ _ a10)
  refine n_dup C.1 dX8_init_70 rfl ?_
  refine n_call C (n := 44) (Y := _) cn_X0 dX8_init_71 cwi_X0 (Or.inr ⟨_, aw_159⟩) aw_160 (by decide) (Nat.le_of_ble_eq_true rfl) rfl rfl (Nat.le_of_ble_eq_true rfl) (Nat.le_of_ble_eq_true rfl) (Nat.le_of_ble_eq_true rfl) (Nat.le_of_ble_eq_true rfl) rfl y10 (fun a11 e11 => ?_)
  rw [← e11 0 (Nat.le_of_ble_eq_true rfl)]
  rw [← e11 44 (Nat.le_of_ble_eq_true rfl)]
  have z11 : a11 0 = kad K 0 := (e11 0 (Nat.le_of_ble_eq_true rfl)).trans z10
  show GW K 74 [some (.ref (a11 0))] [.ref (a11 44), .ref (a11 0)] 44 336 (WI K _ _ a11)
  refine n_putM C (o := 0) (kx := 8) (k := 7) (v := 44) hN dX8_init_74 rfl (Nat.le_of_ble_eq_true rfl) rfl (by decide) aw_201 inA8 tyX8_ok nmX8 rfl (fun _ => rfl) (fun _ => rfl) (Nat.le_of_ble_eq_true rfl) rfl ?_
  refine n_aload_n C.1 dX8_init_77 rfl (i := 0) rfl ?_
  refine n_iconst C.1 dX8_init_78 (v := (1 : Int32)) (by decide) ?_
  refine n_putI C (o := 0) (kx := 8) (k := 8) hN dX8_init_79 rfl rfl rfl (by decide) aw_202 inA8 tyX8_ok nmX8 rfl rfl rfl ?_
  exact n_vret C hQ z11 (Nat.le_of_ble_eq_true rfl) dX8_init_82
theorem cn_X8 : Cn yX8_init cX8_init 1 2 8 [(4, 0), (4, 0), (4, 0), (4, 0), (4, 0), (4, 0), (4, 0), (4, 0), (0, 0), (0, 0), (0, 0), (0, 0), (0, 0), (0, 0), (0, 0), (0, 0), (1, 0)] layS8 σX8 44 336 := cn_of (by decide) rfl (by decide) (by decide) (fun K C hN hQ => bn_X8 C hN hQ)
theorem dX4_init_0 : decode cX4_init 0 = .ok (.aload_n 0, 1) := by decide +kernel
theorem dX4_init_1 : decode cX4_init 1 = .ok (.invokespecial 3, 3) := by decide +kernel
theorem dX4_init_4 : decode cX4_init 4 = .ok (.aload_n 0, 1) := by decide +kernel
theorem dX4_init_5 : decode cX4_init 5 = .ok (.bipush 10, 2) := by decide +kernel
theorem dX4_init_7 : decode cX4_init 7 = .ok (.newarray .int, 2) := by decide +kernel
theorem dX4_init_9 : decode cX4_init 9 = .ok (.putfield 11, 3) := by decide +kernel
theorem dX4_init_12 : decode cX4_init 12 = .ok (.aload_n 0, 1) := by decide +kernel
theorem dX4_init_13 : decode cX4_init 13 = .ok (.bipush 10, 2) := by decide +kernel
theorem dX4_init_15 : decode cX4_init 15 = .ok (.newarray .int, 2) := by decide +kernel
theorem dX4_init_17 : decode cX4_init 17 = .ok (.putfield 15, 3) := by decide +kernel
theorem dX4_init_20 : decode cX4_init 20 = .ok (.aload_n 0, 1) := by decide +kernel
theorem dX4_init_21 : decode cX4_init 21 = .ok (.bipush 10, 2) := by decide +kernel
theorem dX4_init_23 : decode cX4_init 23 = .ok (.newarray .int, 2) := by decide +kernel
theorem dX4_init_25 : decode cX4_init 25 = .ok (.putfield 18, 3) := by decide +kernel
theorem dX4_init_28 : decode cX4_init 28 = .ok (.return_, 1) := by decide +kernel
def σX4 : Sg := σz
theorem df4 : ∀ j, j < 4 → defaultValue (tyX4 j) = vp_V (dfl [(4, 0), (4, 0), (4, 0), (0, 0)]) j := by decide +kernel
theorem cwi_X4 : Cwi yX4_init cX4_init 1 := ⟨aw_257, aw_52, ⟨by decide, by decide⟩, by decide +kernel, by decide, rfl⟩
set_option maxRecDepth 8000 in
theorem bn_X4 {K : KT} (C : CxI K cX4_init RX4 1 1 3 30) (hN : (kmeth K).name = "<init>") (hQ : Rki K layS4 σX4 3 30) : GW K 0 (pad [some (.ref (kad K 0))] 1) [] 0 0 (WI K [(0, 4, [(4, 0), (4, 0), (4, 0), (0, 0)])] σz (kad K)) := by
  show GW K 0 [some (.ref (kad K 0))] [] 0 0 (WI K _ _ (kad K))
  refine n_aload_n C.1 dX4_init_0 rfl (i := 0) rfl ?_
  refine n_obj C dX4_init_1 aw_258 aw_65 aw_66 rfl (Nat.le_of_ble_eq_true rfl) (Nat.le_of_ble_eq_true rfl) ?_
  refine n_aload_n C.1 dX4_init_4 rfl (i := 0) rfl ?_
  refine n_bipush C.1 dX4_init_5 (v := (10 : Int32)) (by decide) ?_
  refine n_newI C (N := 10) dX4_init_7 aw_97 (by decide) (by decide) (Nat.le_of_ble_eq_true rfl) (Nat.le_of_ble_eq_true rfl) (Nat.le_of_ble_eq_true rfl) (fun a1 e1 => ?_)
  rw [← e1 0 (Nat.le_of_ble_eq_true rfl)]
  have z1 : a1 0 = kad K 0 := (e1 0 (Nat.le_of_ble_eq_true rfl)).trans rfl
  show GW K 9 [some (.ref (a1 0))] [.ref (a1 1), .ref (a1 0)] 1 10 (WI K _ _ a1)
  refine n_putC C (o := 0) (kx := 4) (k := 0) (off := 1) (v := 1) hN dX4_init_9 rfl (Nat.le_of_ble_eq_true rfl) rfl (by decide) aw_259 inA4 tyX4_ok nmX4 rfl (fun _ => rfl) (fun _ => rfl) rfl (Nat.le_of_ble_eq_true rfl) ?_
  refine n_aload_n C.1 dX4_init_12 rfl (i := 0) rfl ?_
  refine n_bipush C.1 dX4_init_13 (v := (10 : Int32)) (by decide) ?_
  refine n_newI C (N := 10) dX4_init_15 aw_97 (by decide) (by decide) (Nat.le_of_ble_eq_true rfl) (Nat.le_of_ble_eq_true rfl) (Nat.le_of_ble_eq_true rfl) (fun a2 e2 => ?_)
  rw [← e2 0 (Nat.le_of_ble_eq_true rfl)]
  have z2 : a2 0 = kad K 0 := (e2 0 (Nat.le_of_ble_eq_true rfl)).trans z1
  show GW K 17 [some (.ref (a2 0))] [.ref (a2 2), .ref (a2 0)] 2 20 (WI K _ _ a2)
  refine n_putC C (o := 0) (kx := 4) (k := 1) (off := 2) (v := 2) hN dX4_init_17 rfl (Nat.le_of_ble_eq_true rfl) rfl (by decide) aw_261 inA4 tyX4_ok nmX4 rfl (fun _ => rfl) (fun _ => rfl) rfl (Nat.le_of_ble_eq_true rfl) ?_
  refine n_aload_n C.1 dX4_init_20 rfl (i := 0) rfl ?_
  refine n_bipush C.1 dX4_init_21 (v := (10 : Int32)) (by decide) ?_
  refine n_newI C (N := 10) dX4_init_23 aw_97 (by decide) (by decide) (Nat.le_of_ble_eq_true rfl) (Nat.le_of_ble_eq_true rfl) (Nat.le_of_ble_eq_true rfl) (fun a3 e3 => ?_)
  rw [← e3 0 (Nat.le_of_ble_eq_true rfl)]
  have z3 : a3 0 = kad K 0 := (e3 0 (Nat.le_of_ble_eq_true rfl)).trans z2
  show GW K 25 [some (.ref (a3 0))] [.ref (a3 3), .ref (a3 0)] 3 30 (WI K _ _ a3)
  refine n_putC C (o := 0) (kx := 4) (k := 2) (off := 3) (v := 3) hN dX4_init_25 rfl (Nat.le_of_ble_eq_true rfl) rfl (by decide) aw_263 inA4 tyX4_ok nmX4 rfl (fun _ => rfl) (fun _ => rfl) rfl (Nat.le_of_ble_eq_true rfl) ?_
  exact n_vret C hQ z3 (Nat.le_of_ble_eq_true rfl) dX4_init_28
theorem cn_X4 : Cn yX4_init cX4_init 1 1 4 [(4, 0), (4, 0), (4, 0), (0, 0)] layS4 σX4 3 30 := cn_of (by decide) rfl (by decide) (by decide) (fun K C hN hQ => bn_X4 C hN hQ)
theorem dX2_init_0 : decode cX2_init 0 = .ok (.aload_n 0, 1) := by decide +kernel
theorem dX2_init_1 : decode cX2_init 1 = .ok (.invokespecial 3, 3) := by decide +kernel
theorem dX2_init_4 : decode cX2_init 4 = .ok (.aload_n 0, 1) := by decide +kernel
theorem dX2_init_5 : decode cX2_init 5 = .ok (.iconst 5, 1) := by decide +kernel
theorem dX2_init_6 : decode cX2_init 6 = .ok (.newarray .int, 2) := by decide +kernel
theorem dX2_init_8 : decode cX2_init 8 = .ok (.putfield 9, 3) := by decide +kernel
theorem dX2_init_11 : decode cX2_init 11 = .ok (.aload_n 0, 1) := by decide +kernel
theorem dX2_init_12 : decode cX2_init 12 = .ok (.iconst 5, 1) := by decide +kernel
theorem dX2_init_13 : decode cX2_init 13 = .ok (.newarray .int, 2) := by decide +kernel
theorem dX2_init_15 : decode cX2_init 15 = .ok (.putfield 15, 3) := by decide +kernel
theorem dX2_init_18 : decode cX2_init 18 = .ok (.aload_n 0, 1) := by decide +kernel
theorem dX2_init_19 : decode cX2_init 19 = .ok (.new 18, 3) := by decide +kernel
theorem dX2_init_22 : decode cX2_init 22 = .ok (.dup, 1) := by decide +kernel
theorem dX2_init_23 : decode cX2_init 23 = .ok (.invokespecial 20, 3) := by decide +kernel
theorem dX2_init_26 : decode cX2_init 26 = .ok (.putfield 21, 3) := by decide +kernel
theorem dX2_init_29 : decode cX2_init 29 = .ok (.return_, 1) := by decide +kernel
def σX2 : Sg := (sapp 3 σz σX1)
theorem df2 : ∀ j, j < 6 → defaultValue (tyX2 j) = vp_V (dfl [(4, 0), (4, 0), (4, 0), (0, 0), (0, 0), (0, 0)]) j := by decide +kernel
theorem cwi_X2 : Cwi yX2_init cX2_init 1 := ⟨aw_280, aw_53, ⟨by decide, by decide⟩, by decide +kernel, by decide, rfl⟩
set_option maxRecDepth 8000 in
theorem bn_X2 {K : KT} (C : CxI K cX2_init RX2 1 2 4 14) (hN : (kmeth K).name = "<init>") (hQ : Rki K layS2 σX2 4 14) : GW K 0 (pad [some (.ref (kad K 0))] 1) [] 0 0 (WI K [(0, 2, [(4, 0), (4, 0), (4, 0), (0, 0), (0, 0), (0, 0)])] σz (kad K)) := by
  show GW K 0 [some (.ref (kad K 0))] [] 0 0 (WI K _ _ (kad K))
  refine n_aload_n C.1 dX2_init_0 rfl (i := 0) rfl ?_
  refine n_obj C dX2_init_1 aw_281 aw_65 aw_66 rfl (Nat.le_of_ble_eq_true rfl) (Nat.le_of_ble_eq_true rfl) ?_
  refine n_aload_n C.1 dX2_init_4 rfl (i := 0) rfl ?_
  refine n_iconst C.1 dX2_init_5 (v := (5 : Int32)) (by decide) ?_
  refine n_newI C (N := 5) dX2_init_6 aw_97 (by decide) (by decide) (Nat.le_of_ble_eq_true rfl) (Nat.le_of_ble_eq_true rfl) (Nat.le_of_ble_eq_true rfl) (fun a1 e1 => ?_)
  rw [← e1 0 (Nat.le_of_ble_eq_true rfl)]
  have z1 : a1 0 = kad K 0 := (e1 0 (Nat.le_of_ble_eq_true rfl)).trans rfl
  show GW K 8 [some (.ref (a1 0))] [.ref (a1 1), .ref (a1 0)] 1 5 (WI K _ _ a1)
  refine n_putC C (o := 0) (kx := 2) (k := 0) (off := 1) (v := 1) hN dX2_init_8 rfl (Nat.le_of_ble_eq_true rfl) rfl (by decide) aw_284 inA2 tyX2_ok nmX2 rfl (fun _ => rfl) (fun _ => rfl) rfl (Nat.le_of_ble_eq_true rfl) ?_
  refine n_aload_n C.1 dX2_init_11 rfl (i := 0) rfl ?_
  refine n_iconst C.1 dX2_init_12 (v := (5 : Int32)) (by decide) ?_
  refine n_newI C (N := 5) dX2_init_13 aw_97 (by decide) (by decide) (Nat.le_of_ble_eq_true rfl) (Nat.le_of_ble_eq_true rfl) (Nat.le_of_ble_eq_true rfl) (fun a2 e2 => ?_)
  rw [← e2 0 (Nat.le_of_ble_eq_true rfl)]
  have z2 : a2 0 = kad K 0 := (e2 0 (Nat.le_of_ble_eq_true rfl)).trans z1
  show GW K 15 [some (.ref (a2 0))] [.ref (a2 2), .ref (a2 0)] 2 10 (WI K _ _ a2)
  refine n_putC C (o := 0) (kx := 2) (k := 1) (off := 2) (v := 2) hN dX2_init_15 rfl (Nat.le_of_ble_eq_true rfl) rfl (by decide) aw_285 inA2 tyX2_ok nmX2 rfl (fun _ => rfl) (fun _ => rfl) rfl (Nat.le_of_ble_eq_true rfl) ?_
  refine n_aload_n C.1 dX2_init_18 rfl (i := 0) rfl ?_
  refine n_new C (kx := 1) (sl := [(4, 0)]) dX2_init_19 rfl inA1 tyX1_ok aw_282 aw_147 aw_50 (by decide) df1 (Nat.le_of_ble_eq_true rfl) (Nat.le_of_ble_eq_true rfl) (fun a3 e3 y3 => ?_)
  rw [← e3 0 (Nat.le_of_ble_eq_true rfl)]
  have z3 : a3 0 = kad K 0 := (e3 0 (Nat.le_of_ble_eq_true rfl)).trans z2
  show GW K 22 [some (.ref (a3 0))] [.ref (a3 3), .ref (a3 0)] 3 11 (WI K _ _ a3)
  refine n_dup C.1 dX2_init_22 rfl ?_
  refine n_call C (n := 3) (Y := _) cn_X1 dX2_init_23 cwi_X1 (Or.inr ⟨_, aw_283⟩) aw_149 (by decide) (Nat.le_of_ble_eq_true rfl) rfl rfl (Nat.le_of_ble_eq_true rfl) (Nat.le_of_ble_eq_true rfl) (Nat.le_of_ble_eq_true rfl) (Nat.le_of_ble_eq_true rfl) rfl y3 (fun a4 e4 => ?_)
  rw [← e4 0 (Nat.le_of_ble_eq_true rfl)]
  rw [← e4 3 (Nat.le_of_ble_eq_true rfl)]
  have z4 : a4 0 = kad K 0 := (e4 0 (Nat.le_of_ble_eq_true rfl)).trans z3
  show GW K 26 [some (.ref (a4 0))] [.ref (a4 3), .ref (a4 0)] 4 14 (WI K _ _ a4)
  refine n_putC C (o := 0) (kx := 2) (k := 2) (off := 3) (v := 3) hN dX2_init_26 rfl (Nat.le_of_ble_eq_true rfl) rfl (by decide) aw_286 inA2 tyX2_ok nmX2 rfl (fun _ => rfl) (fun _ => rfl) rfl (Nat.le_of_ble_eq_true rfl) ?_
  exact n_vret C hQ z4 (Nat.le_of_ble_eq_true rfl) dX2_init_29
theorem cn_X2 : Cn yX2_init cX2_init 1 2 2 [(4, 0), (4, 0), (4, 0), (0, 0), (0, 0), (0, 0)] layS2 σX2 4 14 := cn_of (by decide) rfl (by decide) (by decide) (fun K C hN hQ => bn_X2 C hN hQ)
theorem dX3_init_0 : decode cX3_init 0 = .ok (.aload_n 0, 1) := by decide +kernel
theorem dX3_init_1 : decode cX3_init 1 = .ok (.invokespecial 3, 3) := by decide +kernel
theorem dX3_init_4 : decode cX3_init 4 = .ok (.aload_n 0, 1) := by decide +kernel
theorem dX3_init_5 : decode cX3_init 5 = .ok (.iconst 5, 1) := by decide +kernel
theorem dX3_init_6 : decode cX3_init 6 = .ok (.bipush 24, 2) := by decide +kernel
theorem dX3_init_8 : decode cX3_init 8 = .ok (.multianewarray 11 2, 4) := by decide +kernel
theorem dX3_init_12 : decode cX3_init 12 = .ok (.putfield 13, 3) := by decide +kernel
theorem dX3_init_15 : decode cX3_init 15 = .ok (.aload_n 0, 1) := by decide +kernel
theorem dX3_init_16 : decode cX3_init 16 = .ok (.iconst 5, 1) := by decide +kernel
theorem dX3_init_17 : decode cX3_init 17 = .ok (.newarray .boolean, 2) := by decide +kernel
theorem dX3_init_19 : decode cX3_init 19 = .ok (.putfield 16, 3) := by decide +kernel
theorem dX3_init_22 : decode cX3_init 22 = .ok (.aload_n 0, 1) := by decide +kernel
theorem dX3_init_23 : decode cX3_init 23 = .ok (.iconst 5, 1) := by decide +kernel
theorem dX3_init_24 : decode cX3_init 24 = .ok (.newarray .boolean, 2) := by decide +kernel
theorem dX3_init_26 : decode cX3_init 26 = .ok (.putfield 20, 3) := by decide +kernel
theorem dX3_init_29 : decode cX3_init 29 = .ok (.aload_n 0, 1) := by decide +kernel
theorem dX3_init_30 : decode cX3_init 30 = .ok (.bipush 6, 2) := by decide +kernel
theorem dX3_init_32 : decode cX3_init 32 = .ok (.bipush 12, 2) := by decide +kernel
theorem dX3_init_34 : decode cX3_init 34 = .ok (.multianewarray 11 2, 4) := by decide +kernel
theorem dX3_init_38 : decode cX3_init 38 = .ok (.putfield 23, 3) := by decide +kernel
theorem dX3_init_41 : decode cX3_init 41 = .ok (.return_, 1) := by decide +kernel
def σX3 : Sg := σz
theorem df3 : ∀ j, j < 4 → defaultValue (tyX3 j) = vp_V (dfl [(4, 0), (4, 0), (4, 0), (4, 0)]) j := by decide +kernel
theorem cwi_X3 : Cwi yX3_init cX3_init 1 := ⟨aw_308, aw_54, ⟨by decide, by decide⟩, by decide +kernel, by decide, rfl⟩
set_option maxRecDepth 8000 in
theorem bn_X3 {K : KT} (C : CxI K cX3_init RX3 1 1 15 213) (hN : (kmeth K).name = "<init>") (hQ : Rki K layS3 σX3 15 213) : GW K 0 (pad [some (.ref (kad K 0))] 1) [] 0 0 (WI K [(0, 3, [(4, 0), (4, 0), (4, 0), (4, 0)])] σz (kad K)) := by
  show GW K 0 [some (.ref (kad K 0))] [] 0 0 (WI K _ _ (kad K))
  refine n_aload_n C.1 dX3_init_0 rfl (i := 0) rfl ?_
  refine n_obj C dX3_init_1 aw_309 aw_65 aw_66 rfl (Nat.le_of_ble_eq_true rfl) (Nat.le_of_ble_eq_true rfl) ?_
  refine n_aload_n C.1 dX3_init_4 rfl (i := 0) rfl ?_
  refine n_iconst C.1 dX3_init_5 (v := (5 : Int32)) (by decide) ?_
  refine n_bipush C.1 dX3_init_6 (v := (24 : Int32)) (by decide) ?_
  refine n_mna C (N := 5) (M := 24) dX3_init_8 aw_310 aw_97 (by decide) (by decide) (by decide) (by decide) (Nat.le_of_ble_eq_true rfl) (Nat.le_of_ble_eq_true rfl) (Nat.le_of_ble_eq_true rfl) (Nat.le_of_ble_eq_true rfl) (fun a1 e1 => ?_)
  rw [← e1 0 (Nat.le_of_ble_eq_true rfl)]
  have z1 : a1 0 = kad K 0 := (e1 0 (Nat.le_of_ble_eq_true rfl)).trans rfl
  show GW K 12 [some (.ref (a1 0))] [.ref (a1 1), .ref (a1 0)] 6 125 (WI K _ _ a1)
  refine n_putC C (o := 0) (kx := 3) (k := 0) (off := 1) (v := 1) hN dX3_init_12 rfl (Nat.le_of_ble_eq_true rfl) rfl (by decide) aw_311 inA3 tyX3_ok nmX3 rfl (fun _ => rfl) (fun _ => rfl) rfl (Nat.le_of_ble_eq_true rfl) ?_
  refine n_aload_n C.1 dX3_init_15 rfl (i := 0) rfl ?_
  refine n_iconst C.1 dX3_init_16 (v := (5 : Int32)) (by decide) ?_
  refine n_newZ C (N := 5) dX3_init_17 aw_328 (by decide) (by decide) (Nat.le_of_ble_eq_true rfl) (Nat.le_of_ble_eq_true rfl) (Nat.le_of_ble_eq_true rfl) (fun a2 e2 => ?_)
  rw [← e2 0 (Nat.le_of_ble_eq_true rfl)]
  have z2 : a2 0 = kad K 0 := (e2 0 (Nat.le_of_ble_eq_true rfl)).trans z1
  show GW K 19 [some (.ref (a2 0))] [.ref (a2 7), .ref (a2 0)] 7 130 (WI K _ _ a2)
  refine n_putC C (o := 0) (kx := 3) (k := 1) (off := 7) (v := 7) hN dX3_init_19 rfl (Nat.le_of_ble_eq_true rfl) rfl (by decide) aw_313 inA3 tyX3_ok nmX3 rfl (fun _ => rfl) (fun _ => rfl) rfl (Nat.le_of_ble_eq_true rfl) ?_
  refine n_aload_n C.1 dX3_init_22 rfl (i := 0) rfl ?_
  refine n_iconst C.1 dX3_init_23 (v := (5 : Int32)) (by decide) ?_
  refine n_newZ C (N := 5) dX3_init_24 aw_328 (by decide) (by decide) (Nat.le_of_ble_eq_true rfl) (Nat.le_of_ble_eq_true rfl) (Nat.le_of_ble_eq_true rfl) (fun a3 e3 => ?_)
  rw [← e3 0 (Nat.le_of_ble_eq_true rfl)]
  have z3 : a3 0 = kad K 0 := (e3 0 (Nat.le_of_ble_eq_true rfl)).trans z2
  show GW K 26 [some (.ref (a3 0))] [.ref (a3 8), .ref (a3 0)] 8 135 (WI K _ _ a3)
  refine n_putC C (o := 0) (kx := 3) (k := 2) (off := 8) (v := 8) hN dX3_init_26 rfl (Nat.le_of_ble_eq_true rfl) rfl (by decide) aw_315 inA3 tyX3_ok nmX3 rfl (fun _ => rfl) (fun _ => rfl) rfl (Nat.le_of_ble_eq_true rfl) ?_
  refine n_aload_n C.1 dX3_init_29 rfl (i := 0) rfl ?_
  refine n_bipush C.1 dX3_init_30 (v := (6 : Int32)) (by decide) ?_
  refine n_bipush C.1 dX3_init_32 (v := (12 : Int32)) (by decide) ?_
  refine n_mna C (N := 6) (M := 12) dX3_init_34 aw_310 aw_97 (by decide) (by decide) (by decide) (by decide) (Nat.le_of_ble_eq_true rfl) (Nat.le_of_ble_eq_true rfl) (Nat.le_of_ble_eq_true rfl) (Nat.le_of_ble_eq_true rfl) (fun a4 e4 => ?_)
  rw [← e4 0 (Nat.le_of_ble_eq_true rfl)]
  have z4 : a4 0 = kad K 0 := (e4 0 (Nat.le_of_ble_eq_true rfl)).trans z3
  show GW K 38 [some (.ref (a4 0))] [.ref (a4 9), .ref (a4 0)] 15 213 (WI K _ _ a4)
  refine n_putC C (o := 0) (kx := 3) (k := 3) (off := 9) (v := 9) hN dX3_init_38 rfl (Nat.le_of_ble_eq_true rfl) rfl (by decide) aw_317 inA3 tyX3_ok nmX3 rfl (fun _ => rfl) (fun _ => rfl) rfl (Nat.le_of_ble_eq_true rfl) ?_
  exact n_vret C hQ z4 (Nat.le_of_ble_eq_true rfl) dX3_init_41
theorem cn_X3 : Cn yX3_init cX3_init 1 1 3 [(4, 0), (4, 0), (4, 0), (4, 0)] layS3 σX3 15 213 := cn_of (by decide) rfl (by decide) (by decide) (fun K C hN hQ => bn_X3 C hN hQ)
theorem dX5_init_0 : decode cX5_init 0 = .ok (.aload_n 0, 1) := by decide +kernel
theorem dX5_init_1 : decode cX5_init 1 = .ok (.invokespecial 3, 3) := by decide +kernel
theorem dX5_init_4 : decode cX5_init 4 = .ok (.aload_n 0, 1) := by decide +kernel
theorem dX5_init_5 : decode cX5_init 5 = .ok (.sipush 1000, 3) := by decide +kernel
theorem dX5_init_8 : decode cX5_init 8 = .ok (.newarray .long, 2) := by decide +kernel
theorem dX5_init_10 : decode cX5_init 10 = .ok (.putfield 9, 3) := by decide +kernel
theorem dX5_init_13 : decode cX5_init 13 = .ok (.return_, 1) := by decide +kernel
def σX5 : Sg := σz
theorem df5 : ∀ j, j < 4 → defaultValue (tyX5 j) = vp_V (dfl [(4, 0), (1, 0), (1, 0), (0, 0)]) j := by decide +kernel
theorem cwi_X5 : Cwi yX5_init cX5_init 1 := ⟨aw_333, aw_55, ⟨by decide, by decide⟩, by decide +kernel, by decide, rfl⟩
set_option maxRecDepth 8000 in
theorem bn_X5 {K : KT} (C : CxI K cX5_init RX5 1 1 1 1000) (hN : (kmeth K).name = "<init>") (hQ : Rki K layS5 σX5 1 1000) : GW K 0 (pad [some (.ref (kad K 0))] 1) [] 0 0 (WI K [(0, 5, [(4, 0), (1, 0), (1, 0), (0, 0)])] σz (kad K)) := by
  show GW K 0 [some (.ref (kad K 0))] [] 0 0 (WI K _ _ (kad K))
  refine n_aload_n C.1 dX5_init_0 rfl (i := 0) rfl ?_
  refine n_obj C dX5_init_1 aw_334 aw_65 aw_66 rfl (Nat.le_of_ble_eq_true rfl) (Nat.le_of_ble_eq_true rfl) ?_
  refine n_aload_n C.1 dX5_init_4 rfl (i := 0) rfl ?_
  refine n_sipush C.1 dX5_init_5 (v := (1000 : Int32)) (by decide) ?_
  refine n_newJ C (N := 1000) dX5_init_8 aw_351 (by decide) (by decide) (Nat.le_of_ble_eq_true rfl) (Nat.le_of_ble_eq_true rfl) (Nat.le_of_ble_eq_true rfl) (fun a1 e1 => ?_)
  rw [← e1 0 (Nat.le_of_ble_eq_true rfl)]
  have z1 : a1 0 = kad K 0 := (e1 0 (Nat.le_of_ble_eq_true rfl)).trans rfl
  show GW K 10 [some (.ref (a1 0))] [.ref (a1 1), .ref (a1 0)] 1 1000 (WI K _ _ a1)
  refine n_putC C (o := 0) (kx := 5) (k := 0) (off := 1) (v := 1) hN dX5_init_10 rfl (Nat.le_of_ble_eq_true rfl) rfl (by decide) aw_335 inA5 tyX5_ok nmX5 rfl (fun _ => rfl) (fun _ => rfl) rfl (Nat.le_of_ble_eq_true rfl) ?_
  exact n_vret C hQ z1 (Nat.le_of_ble_eq_true rfl) dX5_init_13
theorem cn_X5 : Cn yX5_init cX5_init 1 1 5 [(4, 0), (1, 0), (1, 0), (0, 0)] layS5 σX5 1 1000 := cn_of (by decide) rfl (by decide) (by decide) (fun K C hN hQ => bn_X5 C hN hQ)
theorem dX9_init_0 : decode cX9_init 0 = .ok (.aload_n 0, 1) := by decide +kernel
theorem dX9_init_1 : decode cX9_init 1 = .ok (.invokespecial 1, 3) := by decide +kernel
theorem dX9_init_4 : decode cX9_init 4 = .ok (.aload_n 0, 1) := by decide +kernel
theorem dX9_init_5 : decode cX9_init 5 = .ok (.new 7, 3) := by decide +kernel
theorem dX9_init_8 : decode cX9_init 8 = .ok (.dup, 1) := by decide +kernel
theorem dX9_init_9 : decode cX9_init 9 = .ok (.invokespecial 9, 3) := by decide +kernel
theorem dX9_init_12 : decode cX9_init 12 = .ok (.putfield 10, 3) := by decide +kernel
theorem dX9_init_15 : decode cX9_init 15 = .ok (.aload_n 0, 1) := by decide +kernel
theorem dX9_init_16 : decode cX9_init 16 = .ok (.new 16, 3) := by decide +kernel
theorem dX9_init_19 : decode cX9_init 19 = .ok (.dup, 1) := by decide +kernel
theorem dX9_init_20 : decode cX9_init 20 = .ok (.invokespecial 18, 3) := by decide +kernel
theorem dX9_init_23 : decode cX9_init 23 = .ok (.putfield 19, 3) := by decide +kernel
theorem dX9_init_26 : decode cX9_init 26 = .ok (.aload_n 0, 1) := by decide +kernel
theorem dX9_init_27 : decode cX9_init 27 = .ok (.aload_n 0, 1) := by decide +kernel
theorem dX9_init_28 : decode cX9_init 28 = .ok (.getfield 19, 3) := by decide +kernel
theorem dX9_init_31 : decode cX9_init 31 = .ok (.getfield 23, 3) := by decide +kernel
theorem dX9_init_34 : decode cX9_init 34 = .ok (.putfield 27, 3) := by decide +kernel
theorem dX9_init_37 : decode cX9_init 37 = .ok (.aload_n 0, 1) := by decide +kernel
theorem dX9_init_38 : decode cX9_init 38 = .ok (.aload_n 0, 1) := by decide +kernel
theorem dX9_init_39 : decode cX9_init 39 = .ok (.getfield 19, 3) := by decide +kernel
theorem dX9_init_42 : decode cX9_init 42 = .ok (.getfield 30, 3) := by decide +kernel
theorem dX9_init_45 : decode cX9_init 45 = .ok (.putfield 34, 3) := by decide +kernel
theorem dX9_init_48 : decode cX9_init 48 = .ok (.aload_n 0, 1) := by decide +kernel
theorem dX9_init_49 : decode cX9_init 49 = .ok (.iconst 5, 1) := by decide +kernel
theorem dX9_init_50 : decode cX9_init 50 = .ok (.anewarray 35, 3) := by decide +kernel
theorem dX9_init_53 : decode cX9_init 53 = .ok (.putfield 37, 3) := by decide +kernel
theorem dX9_init_56 : decode cX9_init 56 = .ok (.aload_n 0, 1) := by decide +kernel
theorem dX9_init_57 : decode cX9_init 57 = .ok (.new 41, 3) := by decide +kernel
theorem dX9_init_60 : decode cX9_init 60 = .ok (.dup, 1) := by decide +kernel
theorem dX9_init_61 : decode cX9_init 61 = .ok (.invokespecial 43, 3) := by decide +kernel
theorem dX9_init_64 : decode cX9_init 64 = .ok (.putfield 44, 3) := by decide +kernel
theorem dX9_init_67 : decode cX9_init 67 = .ok (.aload_n 0, 1) := by decide +kernel
theorem dX9_init_68 : decode cX9_init 68 = .ok (.new 48, 3) := by decide +kernel
theorem dX9_init_71 : decode cX9_init 71 = .ok (.dup, 1) := by decide +kernel
theorem dX9_init_72 : decode cX9_init 72 = .ok (.invokespecial 50, 3) := by decide +kernel
theorem dX9_init_75 : decode cX9_init 75 = .ok (.putfield 51, 3) := by decide +kernel
theorem dX9_init_78 : decode cX9_init 78 = .ok (.aload_n 0, 1) := by decide +kernel
theorem dX9_init_79 : decode cX9_init 79 = .ok (.new 55, 3) := by decide +kernel
theorem dX9_init_82 : decode cX9_init 82 = .ok (.dup, 1) := by decide +kernel
theorem dX9_init_83 : decode cX9_init 83 = .ok (.invokespecial 57, 3) := by decide +kernel
theorem dX9_init_86 : decode cX9_init 86 = .ok (.putfield 58, 3) := by decide +kernel
theorem dX9_init_89 : decode cX9_init 89 = .ok (.aload_n 0, 1) := by decide +kernel
theorem dX9_init_90 : decode cX9_init 90 = .ok (.new 62, 3) := by decide +kernel
theorem dX9_init_93 : decode cX9_init 93 = .ok (.dup, 1) := by decide +kernel
theorem dX9_init_94 : decode cX9_init 94 = .ok (.invokespecial 64, 3) := by decide +kernel
theorem dX9_init_97 : decode cX9_init 97 = .ok (.putfield 65, 3) := by decide +kernel
theorem dX9_init_100 : decode cX9_init 100 = .ok (.iconst 0, 1) := by decide +kernel
theorem dX9_init_101 : decode cX9_init 101 = .ok (.istore_n 1, 1) := by decide +kernel
theorem dX9_init_102 : decode cX9_init 102 = .ok (.iload_n 1, 1) := by decide +kernel
theorem dX9_init_103 : decode cX9_init 103 = .ok (.aload_n 0, 1) := by decide +kernel
theorem dX9_init_104 : decode cX9_init 104 = .ok (.getfield 37, 3) := by decide +kernel
theorem dX9_init_107 : decode cX9_init 107 = .ok (.arraylength, 1) := by decide +kernel
theorem dX9_init_108 : decode cX9_init 108 = .ok (.if_icmp .ge 22, 3) := by decide +kernel
theorem dX9_init_111 : decode cX9_init 111 = .ok (.aload_n 0, 1) := by decide +kernel
theorem dX9_init_112 : decode cX9_init 112 = .ok (.getfield 37, 3) := by decide +kernel
theorem dX9_init_115 : decode cX9_init 115 = .ok (.iload_n 1, 1) := by decide +kernel
theorem dX9_init_116 : decode cX9_init 116 = .ok (.new 35, 3) := by decide +kernel
theorem dX9_init_119 : decode cX9_init 119 = .ok (.dup, 1) := by decide +kernel
theorem dX9_init_120 : decode cX9_init 120 = .ok (.invokespecial 69, 3) := by decide +kernel
theorem dX9_init_123 : decode cX9_init 123 = .ok (.aastore, 1) := by decide +kernel
theorem dX9_init_124 : decode cX9_init 124 = .ok (.iinc 1 1, 3) := by decide +kernel
theorem dX9_init_127 : decode cX9_init 127 = .ok (.goto (-25), 3) := by decide +kernel
theorem dX9_init_130 : decode cX9_init 130 = .ok (.return_, 1) := by decide +kernel
def σX9 : Sg := (sapp 80 (sapp 79 (sapp 78 (sapp 77 (sapp 76 (sapp 74 (sapp 58 (sapp 53 (sapp 49 (sapp 3 (sapp 1 σz σX6) σX8) σX4) σX2) σX3) σX5) σX0) σX0) σX0) σX0) σX0)
theorem df9 : ∀ j, j < 12 → defaultValue (tyX9 j) = vp_V (dfl [(4, 0), (4, 0), (4, 0), (4, 0), (4, 0), (4, 0), (4, 0), (4, 0), (4, 0), (0, 0), (0, 0), (0, 0)]) j := by decide +kernel
theorem cwi_X9 : Cwi yX9_init cX9_init 2 := ⟨aw_63, aw_46, ⟨by decide, by decide⟩, by decide +kernel, by decide, rfl⟩
set_option maxRecDepth 8000 in
theorem bn_X9 {K : KT} (C : CxI K cX9_init RX9 2 3 80 1734) (hN : (kmeth K).name = "<init>") (hQ : Rki K layS9 σX9 80 1734) : GW K 0 (pad [some (.ref (kad K 0))] 2) [] 0 0 (WI K [(0, 9, [(4, 0), (4, 0), (4, 0), (4, 0), (4, 0), (4, 0), (4, 0), (4, 0), (4, 0), (0, 0), (0, 0), (0, 0)])] σz (kad K)) := by
  show GW K 0 [some (.ref (kad K 0)), none] [] 0 0 (WI K _ _ (kad K))
  refine n_aload_n C.1 dX9_init_0 rfl (i := 0) rfl ?_
  refine n_obj C dX9_init_1 aw_64 aw_65 aw_66 rfl (Nat.le_of_ble_eq_true rfl) (Nat.le_of_ble_eq_true rfl) ?_
  refine n_aload_n C.1 dX9_init_4 rfl (i := 0) rfl ?_
  refine n_new C (kx := 6) (sl := [(4, 0), (0, 0), (0, 0), (0, 0), (0, 0), (0, 0), (0, 0)]) dX9_init_5 rfl inA6 tyX6_ok aw_67 aw_68 aw_47 (by decide) df6 (Nat.le_of_ble_eq_true rfl) (Nat.le_of_ble_eq_true rfl) (fun a1 e1 y1 => ?_)
  rw [← e1 0 (Nat.le_of_ble_eq_true rfl)]
  have z1 : a1 0 = kad K 0 := (e1 0 (Nat.le_of_ble_eq_true rfl)).trans rfl
  show GW K 8 [some (.ref (a1 0)), none] [.ref (a1 1), .ref (a1 0)] 1 7 (WI K _ _ a1)
  refine n_dup C.1 dX9_init_8 rfl ?_
  refine n_call C (n := 1) (Y := _) cn_X6 dX9_init_9 cwi_X6 (Or.inr ⟨_, aw_69⟩) aw_70 (by decide) (Nat.le_of_ble_eq_true rfl) rfl rfl (Nat.le_of_ble_eq_true rfl) (Nat.le_of_ble_eq_true rfl) (Nat.le_of_ble_eq_true rfl) (Nat.le_of_ble_eq_true rfl) rfl y1 (fun a2 e2 => ?_)
  rw [← e2 0 (Nat.le_of_ble_eq_true rfl)]
  rw [← e2 1 (Nat.le_of_ble_eq_true rfl)]
  have z2 : a2 0 = kad K 0 := (e2 0 (Nat.le_of_ble_eq_true rfl)).trans z1
  show GW K 12 [some (.ref (a2 0)), none] [.ref (a2 1), .ref (a2 0)] 2 71 (WI K _ _ a2)
  refine n_putC C (o := 0) (kx := 9) (k := 0) (off := 1) (v := 1) hN dX9_init_12 rfl (Nat.le_of_ble_eq_true rfl) rfl (by decide) aw_353 inA9 tyX9_ok nmX9 rfl (fun _ => rfl) (fun _ => rfl) rfl (Nat.le_of_ble_eq_true rfl) ?_
  refine n_aload_n C.1 dX9_init_15 rfl (i := 0) rfl ?_
  refine n_new C (kx := 8) (sl := [(4, 0), (4, 0), (4, 0), (4, 0), (4, 0), (4, 0), (4, 0), (4, 0), (0, 0), (0, 0), (0, 0), (0, 0), (0, 0), (0, 0), (0, 0), (0, 0), (1, 0)]) dX9_init_16 rfl inA8 tyX8_ok aw_98 aw_99 aw_48 (by decide) df8 (Nat.le_of_ble_eq_true rfl) (Nat.le_of_ble_eq_true rfl) (fun a3 e3 y3 => ?_)
  rw [← e3 0 (Nat.le_of_ble_eq_true rfl)]
  have z3 : a3 0 = kad K 0 := (e3 0 (Nat.le_of_ble_eq_true rfl)).trans z2
  show GW K 19 [some (.ref (a3 0)), none] [.ref (a3 3), .ref (a3 0)] 3 88 (WI K _ _ a3)
  refine n_dup C.1 dX9_init_19 rfl ?_
  refine n_call C (n := 3) (Y := _) cn_X8 dX9_init_20 cwi_X8 (Or.inr ⟨_, aw_100⟩) aw_101 (by decide) (Nat.le_of_ble_eq_true rfl) rfl rfl (Nat.le_of_ble_eq_true rfl) (Nat.le_of_ble_eq_true rfl) (Nat.le_of_ble_eq_true rfl) (Nat.le_of_ble_eq_true rfl) rfl y3 (fun a4 e4 => ?_)
  rw [← e4 0 (Nat.le_of_ble_eq_true rfl)]
  rw [← e4 3 (Nat.le_of_ble_eq_true rfl)]
  have z4 : a4 0 = kad K 0 := (e4 0 (Nat.le_of_ble_eq_true rfl)).trans z3
  show GW K 23 [some (.ref (a4 0)), none] [.ref (a4 3), .ref (a4 0)] 47 424 (WI K _ _ a4)
  refine n_putC C (o := 0) (kx := 9) (k := 1) (off := 3) (v := 3) hN dX9_init_23 rfl (Nat.le_of_ble_eq_true rfl) rfl (by decide) aw_354 inA9 tyX9_ok nmX9 rfl (fun _ => rfl) (fun _ => rfl) rfl (Nat.le_of_ble_eq_true rfl) ?_
  refine n_aload_n C.1 dX9_init_26 rfl (i := 0) rfl ?_
  refine n_aload_n C.1 dX9_init_27 rfl (i := 0) rfl ?_
  refine n_get C (o := 0) (kx := 9) (k := 1) (v := .ref (a4 3)) dX9_init_28 rfl rfl rfl (by decide) (Or.inl aw_354) inA9 rfl ?_
  refine n_get C (o := 3) (kx := 8) (k := 0) (v := .ref (a4 4)) dX9_init_31 rfl rfl rfl (by decide) (Or.inr ⟨_, aw_193⟩) inA8 rfl ?_
  refine n_putC C (o := 0) (kx := 9) (k := 2) (off := 4) (v := 4) hN dX9_init_34 rfl (Nat.le_of_ble_eq_true rfl) rfl (by decide) aw_355 inA9 tyX9_ok nmX9 rfl (fun _ => rfl) (fun _ => rfl) rfl (Nat.le_of_ble_eq_true rfl) ?_
  refine n_aload_n C.1 dX9_init_37 rfl (i := 0) rfl ?_
  refine n_aload_n C.1 dX9_init_38 rfl (i := 0) rfl ?_
  refine n_get C (o := 0) (kx := 9) (k := 1) (v := .ref (a4 3)) dX9_init_39 rfl rfl rfl (by decide) (Or.inl aw_354) inA9 rfl ?_
  refine n_get C (o := 3) (kx := 8) (k := 1) (v := .ref (a4 40)) dX9_init_42 rfl rfl rfl (by decide) (Or.inr ⟨_, aw_195⟩) inA8 rfl ?_
  refine n_putC C (o := 0) (kx := 9) (k := 3) (off := 40) (v := 40) hN dX9_init_45 rfl (Nat.le_of_ble_eq_true rfl) rfl (by decide) aw_356 inA9 tyX9_ok nmX9 rfl (fun _ => rfl) (fun _ => rfl) rfl (Nat.le_of_ble_eq_true rfl) ?_
  refine n_aload_n C.1 dX9_init_48 rfl (i := 0) rfl ?_
  refine n_iconst C.1 dX9_init_49 (v := (5 : Int32)) (by decide) ?_
  refine n_newA C (N := 5) (b := 28) dX9_init_50 aw_251 (by decide) (by decide) (Nat.le_of_ble_eq_true rfl) (Nat.le_of_ble_eq_true rfl) (Nat.le_of_ble_eq_true rfl) (fun a5 e5 => ?_)
  rw [← e5 0 (Nat.le_of_ble_eq_true rfl)]
  have z5 : a5 0 = kad K 0 := (e5 0 (Nat.le_of_ble_eq_true rfl)).trans z4
  show GW K 53 [some (.ref (a5 0)), none] [.ref (a5 48), .ref (a5 0)] 48 429 (WI K _ _ a5)
  refine n_putC C (o := 0) (kx := 9) (k := 4) (off := 48) (v := 48) hN dX9_init_53 rfl (Nat.le_of_ble_eq_true rfl) rfl (by decide) aw_357 inA9 tyX9_ok nmX9 rfl (fun _ => rfl) (fun _ => rfl) rfl (Nat.le_of_ble_eq_true rfl) ?_
  refine n_aload_n C.1 dX9_init_56 rfl (i := 0) rfl ?_
  refine n_new C (kx := 4) (sl := [(4, 0), (4, 0), (4, 0), (0, 0)]) dX9_init_57 rfl inA4 tyX4_ok aw_253 aw_254 aw_52 (by decide) df4 (Nat.le_of_ble_eq_true rfl) (Nat.le_of_ble_eq_true rfl) (fun a6 e6 y6 => ?_)
  rw [← e6 0 (Nat.le_of_ble_eq_true rfl)]
  have z6 : a6 0 = kad K 0 := (e6 0 (Nat.le_of_ble_eq_true rfl)).trans z5
  show GW K 60 [some (.ref (a6 0)), none] [.ref (a6 49), .ref (a6 0)] 49 433 (WI K _ _ a6)
  refine n_dup C.1 dX9_init_60 rfl ?_
  refine n_call C (n := 49) (Y := _) cn_X4 dX9_init_61 cwi_X4 (Or.inr ⟨_, aw_255⟩) aw_256 (by decide) (Nat.le_of_ble_eq_true rfl) rfl rfl (Nat.le_of_ble_eq_true rfl) (Nat.le_of_ble_eq_true rfl) (Nat.le_of_ble_eq_true rfl) (Nat.le_of_ble_eq_true rfl) rfl y6 (fun a7 e7 => ?_)
  rw [← e7 0 (Nat.le_of_ble_eq_true rfl)]
  rw [← e7 49 (Nat.le_of_ble_eq_true rfl)]
  have z7 : a7 0 = kad K 0 := (e7 0 (Nat.le_of_ble_eq_true rfl)).trans z6
  show GW K 64 [some (.ref (a7 0)), none] [.ref (a7 49), .ref (a7 0)] 52 463 (WI K _ _ a7)
  refine n_putC C (o := 0) (kx := 9) (k := 5) (off := 49) (v := 49) hN dX9_init_64 rfl (Nat.le_of_ble_eq_true rfl) rfl (by decide) aw_358 inA9 tyX9_ok nmX9 rfl (fun _ => rfl) (fun _ => rfl) rfl (Nat.le_of_ble_eq_true rfl) ?_
  refine n_aload_n C.1 dX9_init_67 rfl (i := 0) rfl ?_
  refine n_new C (kx := 2) (sl := [(4, 0), (4, 0), (4, 0), (0, 0), (0, 0), (0, 0)]) dX9_init_68 rfl inA2 tyX2_ok aw_276 aw_277 aw_53 (by decide) df2 (Nat.le_of_ble_eq_true rfl) (Nat.le_of_ble_eq_true rfl) (fun a8 e8 y8 => ?_)
  rw [← e8 0 (Nat.le_of_ble_eq_true rfl)]
  have z8 : a8 0 = kad K 0 := (e8 0 (Nat.le_of_ble_eq_true rfl)).trans z7
  show GW K 71 [some (.ref (a8 0)), none] [.ref (a8 53), .ref (a8 0)] 53 469 (WI K _ _ a8)
  refine n_dup C.1 dX9_init_71 rfl ?_
  refine n_call C (n := 53) (Y := _) cn_X2 dX9_init_72 cwi_X2 (Or.inr ⟨_, aw_278⟩) aw_279 (by decide) (Nat.le_of_ble_eq_true rfl) rfl rfl (Nat.le_of_ble_eq_true rfl) (Nat.le_of_ble_eq_true rfl) (Nat.le_of_ble_eq_true rfl) (Nat.le_of_ble_eq_true rfl) rfl y8 (fun a9 e9 => ?_)
  rw [← e9 0 (Nat.le_of_ble_eq_true rfl)]
  rw [← e9 53 (Nat.le_of_ble_eq_true rfl)]
  have z9 : a9 0 = kad K 0 := (e9 0 (Nat.le_of_ble_eq_true rfl)).trans z8
  show GW K 75 [some (.ref (a9 0)), none] [.ref (a9 53), .ref (a9 0)] 57 483 (WI K _ _ a9)
  refine n_putC C (o := 0) (kx := 9) (k := 6) (off := 53) (v := 53) hN dX9_init_75 rfl (Nat.le_of_ble_eq_true rfl) rfl (by decide) aw_359 inA9 tyX9_ok nmX9 rfl (fun _ => rfl) (fun _ => rfl) rfl (Nat.le_of_ble_eq_true rfl) ?_
  refine n_aload_n C.1 dX9_init_78 rfl (i := 0) rfl ?_
  refine n_new C (kx := 3) (sl := [(4, 0), (4, 0), (4, 0), (4, 0)]) dX9_init_79 rfl inA3 tyX3_ok aw_304 aw_305 aw_54 (by decide) df3 (Nat.le_of_ble_eq_true rfl) (Nat.le_of_ble_eq_true rfl) (fun a10 e10 y10 => ?_)
  rw [← e10 0 (Nat.le_of_ble_eq_true rfl)]
  have z10 : a10 0 = kad K 0 := (e10 0 (Nat.le_of_ble_eq_true rfl)).trans z9
  show GW K 82 [some (.ref (a10 0)), none] [.ref (a10 58), .ref (a10 0)] 58 487 (WI K _ _ a10)
  refine n_dup C.1 dX9_init_82 rfl ?_
  refine n_call C (n := 58) (Y := _) cn_X3 dX9_init_83 cwi_X3 (Or.inr ⟨_, aw_306⟩) aw_307 (by decide) (Nat.le_of_ble_eq_true rfl) rfl rfl (Nat.le_of_ble_eq_true rfl) (Nat.le_of_ble_eq_true rfl) (Nat.le_of_ble_eq_true rfl) (Nat.le_of_ble_eq_true rfl) rfl y10 (fun a11 e11 => ?_)
  rw [← e11 0 (Nat.le_of_ble_eq_true rfl)]
  rw [← e11 58 (Nat.le_of_ble_eq_true rfl)]
  have z11 : a11 0 = kad K 0 := (e11 0 (Nat.le_of_ble_eq_true rfl)).trans z10
  show GW K 86 [some (.ref (a11 0)), none] [.ref (a11 58), .ref (a11 0)] 73 700 (WI K _ _ a11)
  refine n_putC C (o := 0) (kx := 9) (k := 7) (off := 58) (v := 58) hN dX9_init_86 rfl (Nat.le_of_ble_eq_true rfl) rfl (by decide) aw_360 inA9 tyX9_ok nmX9 rfl (fun _ => rfl) (fun _ => rfl) rfl (Nat.le_of_ble_eq_true rfl) ?_
  refine n_aload_n C.1 dX9_init_89 rfl (i := 0) rfl ?_
  refine n_new C (kx := 5) (sl := [(4, 0), (1, 0), (1, 0), (0, 0)]) dX9_init_90 rfl inA5 tyX5_ok aw_329 aw_330 aw_55 (by decide) df5 (Nat.le_of_ble_eq_true rfl) (Nat.le_of_ble_eq_true rfl) (fun a12 e12 y12 => ?_)
  rw [← e12 0 (Nat.le_of_ble_eq_true rfl)]
  have z12 : a12 0 = kad K 0 := (e12 0 (Nat.le_of_ble_eq_true rfl)).trans z11
  show GW K 93 [some (.ref (a12 0)), none] [.ref (a12 74), .ref (a12 0)] 74 704 (WI K _ _ a12)
  refine n_dup C.1 dX9_init_93 rfl ?_
  refine n_call C (n := 74) (Y := _) cn_X5 dX9_init_94 cwi_X5 (Or.inr ⟨_, aw_331⟩) aw_332 (by decide) (Nat.le_of_ble_eq_true rfl) rfl rfl (Nat.le_of_ble_eq_true rfl) (Nat.le_of_ble_eq_true rfl) (Nat.le_of_ble_eq_true rfl) (Nat.le_of_ble_eq_true rfl) rfl y12 (fun a13 e13 => ?_)
  rw [← e13 0 (Nat.le_of_ble_eq_true rfl)]
  rw [← e13 74 (Nat.le_of_ble_eq_true rfl)]
  have z13 : a13 0 = kad K 0 := (e13 0 (Nat.le_of_ble_eq_true rfl)).trans z12
  show GW K 97 [some (.ref (a13 0)), none] [.ref (a13 74), .ref (a13 0)] 75 1704 (WI K _ _ a13)
  refine n_putC C (o := 0) (kx := 9) (k := 8) (off := 74) (v := 74) hN dX9_init_97 rfl (Nat.le_of_ble_eq_true rfl) rfl (by decide) aw_361 inA9 tyX9_ok nmX9 rfl (fun _ => rfl) (fun _ => rfl) rfl (Nat.le_of_ble_eq_true rfl) ?_
  refine n_iconst C.1 dX9_init_100 (v := (0 : Int32)) (by decide) ?_
  refine n_istore_n C.1 (i := 1) (L' := [some (.ref (a13 0)), some (.int (0 : Int32))]) dX9_init_101 rfl (Nat.le_of_ble_eq_true rfl) rfl ?_
  refine n_iload_n C.1 dX9_init_102 rfl (i := 1) rfl ?_
  refine n_aload_n C.1 dX9_init_103 rfl (i := 0) rfl ?_
  refine n_get C (o := 0) (kx := 9) (k := 4) (v := .ref (a13 48)) dX9_init_104 rfl rfl rfl (by decide) (Or.inl aw_357) inA9 rfl ?_
  refine n_alen C (v := (5 : Int32)) (o := 48) dX9_init_107 rfl rfl ?_
  refine n_ge_f C.1 (tgt := 130) dX9_init_108 (by decide) (by decide) ?_
  refine n_aload_n C.1 dX9_init_111 rfl (i := 0) rfl ?_
  refine n_get C (o := 0) (kx := 9) (k := 4) (v := .ref (a13 48)) dX9_init_112 rfl rfl rfl (by decide) (Or.inl aw_357) inA9 rfl ?_
  refine n_iload_n C.1 dX9_init_115 rfl (i := 1) rfl ?_
  refine n_new C (kx := 0) (sl := [(0, 0), (0, 0), (0, 0), (0, 0), (0, 0), (0, 0)]) dX9_init_116 rfl inA0 tyX0_ok aw_251 aw_158 aw_51 (by decide) df0 (Nat.le_of_ble_eq_true rfl) (Nat.le_of_ble_eq_true rfl) (fun a14 e14 y14 => ?_)
  rw [← e14 0 (Nat.le_of_ble_eq_true rfl)]
  rw [← e14 48 (Nat.le_of_ble_eq_true rfl)]
  have z14 : a14 0 = kad K 0 := (e14 0 (Nat.le_of_ble_eq_true rfl)).trans z13
  show GW K 119 [some (.ref (a14 0)), some (.int (0 : Int32))] [.ref (a14 76), .int (0 : Int32), .ref (a14 48)] 76 1710 (WI K _ _ a14)
  refine n_dup C.1 dX9_init_119 rfl ?_
  refine n_call C (n := 76) (Y := _) cn_X0 dX9_init_120 cwi_X0 (Or.inr ⟨_, aw_352⟩) aw_160 (by decide) (Nat.le_of_ble_eq_true rfl) rfl rfl (Nat.le_of_ble_eq_true rfl) (Nat.le_of_ble_eq_true rfl) (Nat.le_of_ble_eq_true rfl) (Nat.le_of_ble_eq_true rfl) rfl y14 (fun a15 e15 => ?_)
  rw [← e15 0 (Nat.le_of_ble_eq_true rfl)]
  rw [← e15 48 (Nat.le_of_ble_eq_true rfl)]
  rw [← e15 76 (Nat.le_of_ble_eq_true rfl)]
  have z15 : a15 0 = kad K 0 := (e15 0 (Nat.le_of_ble_eq_true rfl)).trans z14
  show GW K 123 [some (.ref (a15 0)), some (.int (0 : Int32))] [.ref (a15 76), .int (0 : Int32), .ref (a15 48)] 76 1710 (WI K _ _ a15)
  refine n_aast C (o := 48) (v := 76) (b := 28) (k := 0) dX9_init_123 rfl rfl (by decide) (by decide) rfl ?_
  refine n_iinc C.1 (i := 1) (y := (1 : Int32)) (L' := [some (.ref (a15 0)), some (.int (1 : Int32))]) dX9_init_124 rfl (by decide) (Nat.le_of_ble_eq_true rfl) rfl ?_
  refine n_goto C.1 (tgt := 102) dX9_init_127 (by decide) ?_
  refine n_iload_n C.1 dX9_init_102 rfl (i := 1) rfl ?_
  refine n_aload_n C.1 dX9_init_103 rfl (i := 0) rfl ?_
  refine n_get C (o := 0) (kx := 9) (k := 4) (v := .ref (a15 48)) dX9_init_104 rfl rfl rfl (by decide) (Or.inl aw_357) inA9 rfl ?_
  refine n_alen C (v := (5 : Int32)) (o := 48) dX9_init_107 rfl rfl ?_
  refine n_ge_f C.1 (tgt := 130) dX9_init_108 (by decide) (by decide) ?_
  refine n_aload_n C.1 dX9_init_111 rfl (i := 0) rfl ?_
  refine n_get C (o := 0) (kx := 9) (k := 4) (v := .ref (a15 48)) dX9_init_112 rfl rfl rfl (by decide) (Or.inl aw_357) inA9 rfl ?_
  refine n_iload_n C.1 dX9_init_115 rfl (i := 1) rfl ?_
  refine n_new C (kx := 0) (sl := [(0, 0), (0, 0), (0, 0), (0, 0), (0, 0), (0, 0)]) dX9_init_116 rfl inA0 tyX0_ok aw_251 aw_158 aw_51 (by decide) df0 (Nat.le_of_ble_eq_true rfl) (Nat.le_of_ble_eq_true rfl) (fun a16 e16 y16 => ?_)
  rw [← e16 0 (Nat.le_of_ble_eq_true rfl)]
  rw [← e16 48 (Nat.le_of_ble_eq_true rfl)]
  have z16 : a16 0 = kad K 0 := (e16 0 (Nat.le_of_ble_eq_true rfl)).trans z15
  show GW K 119 [some (.ref (a16 0)), some (.int (1 : Int32))] [.ref (a16 77), .int (1 : Int32), .ref (a16 48)] 77 1716 (WI K _ _ a16)
  refine n_dup C.1 dX9_init_119 rfl ?_
  refine n_call C (n := 77) (Y := _) cn_X0 dX9_init_120 cwi_X0 (Or.inr ⟨_, aw_352⟩) aw_160 (by decide) (Nat.le_of_ble_eq_true rfl) rfl rfl (Nat.le_of_ble_eq_true rfl) (Nat.le_of_ble_eq_true rfl) (Nat.le_of_ble_eq_true rfl) (Nat.le_of_ble_eq_true rfl) rfl y16 (fun a17 e17 => ?_)
  rw [← e17 0 (Nat.le_of_ble_eq_true rfl)]
  rw [← e17 48 (Nat.le_of_ble_eq_true rfl)]
  rw [← e17 77 (Nat.le_of_ble_eq_true rfl)]
  have z17 : a17 0 = kad K 0 := (e17 0 (Nat.le_of_ble_eq_true rfl)).trans z16
  show GW K 123 [some (.ref (a17 0)), some (.int (1 : Int32))] [.ref (a17 77), .int (1 : Int32), .ref (a17 48)] 77 1716 (WI K _ _ a17)
  refine n_aast C (o := 48) (v := 77) (b := 28) (k := 1) dX9_init_123 rfl rfl (by decide) (by decide) rfl ?_
  refine n_iinc C.1 (i := 1) (y := (2 : Int32)) (L' := [some (.ref (a17 0)), some (.int (2 : Int32))]) dX9_init_124 rfl (by decide) (Nat.le_of_ble_eq_true rfl) rfl ?_
  refine n_goto C.1 (tgt := 102) dX9_init_127 (by decide) ?_
  refine n_iload_n C.1 dX9_init_102 rfl (i := 1) rfl ?_
  refine n_aload_n C.1 dX9_init_103 rfl (i := 0) rfl ?_
  refine n_get C (o := 0) (kx := 9) (k := 4) (v := .ref (a17 48)) dX9_init_104 rfl rfl rfl (by decide) (Or.inl aw_357) inA9 rfl ?_
  refine n_alen C (v := (5 : Int32)) (o := 48) dX9_init_107 rfl rfl ?_
  refine n_ge_f C.1 (tgt := 130) dX9_init_108 (by decide) (by decide) ?_
  refine n_aload_n C.1 dX9_init_111 rfl (i := 0) rfl ?_
  refine n_get C (o := 0) (kx := 9) (k := 4) (v := .ref (a17 48)) dX9_init_112 rfl rfl rfl (by decide) (Or.inl aw_357) inA9 rfl ?_
  refine n_iload_n C.1 dX9_init_115 rfl (i := 1) rfl ?_
  refine n_new C (kx := 0) (sl := [(0, 0), (0, 0), (0, 0), (0, 0), (0, 0), (0, 0)]) dX9_init_116 rfl inA0 tyX0_ok aw_251 aw_158 aw_51 (by decide) df0 (Nat.le_of_ble_eq_true rfl) (Nat.le_of_ble_eq_true rfl) (fun a18 e18 y18 => ?_)
  rw [← e18 0 (Nat.le_of_ble_eq_true rfl)]
  rw [← e18 48 (Nat.le_of_ble_eq_true rfl)]
  have z18 : a18 0 = kad K 0 := (e18 0 (Nat.le_of_ble_eq_true rfl)).trans z17
  show GW K 119 [some (.ref (a18 0)), some (.int (2 : Int32))] [.ref (a18 78), .int (2 : Int32), .ref (a18 48)] 78 1722 (WI K _ _ a18)
  refine n_dup C.1 dX9_init_119 rfl ?_
  refine n_call C (n := 78) (Y := _) cn_X0 dX9_init_120 cwi_X0 (Or.inr ⟨_, aw_352⟩) aw_160 (by decide) (Nat.le_of_ble_eq_true rfl) rfl rfl (Nat.le_of_ble_eq_true rfl) (Nat.le_of_ble_eq_true rfl) (Nat.le_of_ble_eq_true rfl) (Nat.le_of_ble_eq_true rfl) rfl y18 (fun a19 e19 => ?_)
  rw [← e19 0 (Nat.le_of_ble_eq_true rfl)]
  rw [← e19 48 (Nat.le_of_ble_eq_true rfl)]
  rw [← e19 78 (Nat.le_of_ble_eq_true rfl)]
  have z19 : a19 0 = kad K 0 := (e19 0 (Nat.le_of_ble_eq_true rfl)).trans z18
  show GW K 123 [some (.ref (a19 0)), some (.int (2 : Int32))] [.ref (a19 78), .int (2 : Int32), .ref (a19 48)] 78 1722 (WI K _ _ a19)
  refine n_aast C (o := 48) (v := 78) (b := 28) (k := 2) dX9_init_123 rfl rfl (by decide) (by decide) rfl ?_
  refine n_iinc C.1 (i := 1) (y := (3 : Int32)) (L' := [some (.ref (a19 0)), some (.int (3 : Int32))]) dX9_init_124 rfl (by decide) (Nat.le_of_ble_eq_true rfl) rfl ?_
  refine n_goto C.1 (tgt := 102) dX9_init_127 (by decide) ?_
  refine n_iload_n C.1 dX9_init_102 rfl (i := 1) rfl ?_
  refine n_aload_n C.1 dX9_init_103 rfl (i := 0) rfl ?_
  refine n_get C (o := 0) (kx := 9) (k := 4) (v := .ref (a19 48)) dX9_init_104 rfl rfl rfl (by decide) (Or.inl aw_357) inA9 rfl ?_
  refine n_alen C (v := (5 : Int32)) (o := 48) dX9_init_107 rfl rfl ?_
  refine n_ge_f C.1 (tgt := 130) dX9_init_108 (by decide) (by decide) ?_
  refine n_aload_n C.1 dX9_init_111 rfl (i := 0) rfl ?_
  refine n_get C (o := 0) (kx := 9) (k := 4) (v := .ref (a19 48)) dX9_init_112 rfl rfl rfl (by decide) (Or.inl aw_357) inA9 rfl ?_
  refine n_iload_n C.1 dX9_init_115 rfl (i := 1) rfl ?_
  refine n_new C (kx := 0) (sl := [(0, 0), (0, 0), (0, 0), (0, 0), (0, 0), (0, 0)]) dX9_init_116 rfl inA0 tyX0_ok aw_251 aw_158 aw_51 (by decide) df0 (Nat.le_of_ble_eq_true rfl) (Nat.le_of_ble_eq_true rfl) (fun a20 e20 y20 => ?_)
  rw [← e20 0 (Nat.le_of_ble_eq_true rfl)]
  rw [← e20 48 (Nat.le_of_ble_eq_true rfl)]
  have z20 : a20 0 = kad K 0 := (e20 0 (Nat.le_of_ble_eq_true rfl)).trans z19
  show GW K 119 [some (.ref (a20 0)), some (.int (3 : Int32))] [.ref (a20 79), .int (3 : Int32), .ref (a20 48)] 79 1728 (WI K _ _ a20)
  refine n_dup C.1 dX9_init_119 rfl ?_
  refine n_call C (n := 79) (Y := _) cn_X0 dX9_init_120 cwi_X0 (Or.inr ⟨_, aw_352⟩) aw_160 (by decide) (Nat.le_of_ble_eq_true rfl) rfl rfl (Nat.le_of_ble_eq_true rfl) (Nat.le_of_ble_eq_true rfl) (Nat.le_of_ble_eq_true rfl) (Nat.le_of_ble_eq_true rfl) rfl y20 (fun a21 e21 => ?_)
  rw [← e21 0 (Nat.le_of_ble_eq_true rfl)]
  rw [← e21 48 (Nat.le_of_ble_eq_true rfl)]
  rw [← e21 79 (Nat.le_of_ble_eq_true rfl)]
  have z21 : a21 0 = kad K 0 := (e21 0 (Nat.le_of_ble_eq_true rfl)).trans z20
  show GW K 123 [some (.ref (a21 0)), some (.int (3 : Int32))] [.ref (a21 79), .int (3 : Int32), .ref (a21 48)] 79 1728 (WI K _ _ a21)
  refine n_aast C (o := 48) (v := 79) (b := 28) (k := 3) dX9_init_123 rfl rfl (by decide) (by decide) rfl ?_
  refine n_iinc C.1 (i := 1) (y := (4 : Int32)) (L' := [some (.ref (a21 0)), some (.int (4 : Int32))]) dX9_init_124 rfl (by decide) (Nat.le_of_ble_eq_true rfl) rfl ?_
  refine n_goto C.1 (tgt := 102) dX9_init_127 (by decide) ?_
  refine n_iload_n C.1 dX9_init_102 rfl (i := 1) rfl ?_
  refine n_aload_n C.1 dX9_init_103 rfl (i := 0) rfl ?_
  refine n_get C (o := 0) (kx := 9) (k := 4) (v := .ref (a21 48)) dX9_init_104 rfl rfl rfl (by decide) (Or.inl aw_357) inA9 rfl ?_
  refine n_alen C (v := (5 : Int32)) (o := 48) dX9_init_107 rfl rfl ?_
  refine n_ge_f C.1 (tgt := 130) dX9_init_108 (by decide) (by decide) ?_
  refine n_aload_n C.1 dX9_init_111 rfl (i := 0) rfl ?_
  refine n_get C (o := 0) (kx := 9) (k := 4) (v := .ref (a21 48)) dX9_init_112 rfl rfl rfl (by decide) (Or.inl aw_357) inA9 rfl ?_
  refine n_iload_n C.1 dX9_init_115 rfl (i := 1) rfl ?_
  refine n_new C (kx := 0) (sl := [(0, 0), (0, 0), (0, 0), (0, 0), (0, 0), (0, 0)]) dX9_init_116 rfl inA0 tyX0_ok aw_251 aw_158 aw_51 (by decide) df0 (Nat.le_of_ble_eq_true rfl) (Nat.le_of_ble_eq_true rfl) (fun a22 e22 y22 => ?_)
  rw [← e22 0 (Nat.le_of_ble_eq_true rfl)]
  rw [← e22 48 (Nat.le_of_ble_eq_true rfl)]
  have z22 : a22 0 = kad K 0 := (e22 0 (Nat.le_of_ble_eq_true rfl)).trans z21
  show GW K 119 [some (.ref (a22 0)), some (.int (4 : Int32))] [.ref (a22 80), .int (4 : Int32), .ref (a22 48)] 80 1734 (WI K _ _ a22)
  refine n_dup C.1 dX9_init_119 rfl ?_
  refine n_call C (n := 80) (Y := _) cn_X0 dX9_init_120 cwi_X0 (Or.inr ⟨_, aw_352⟩) aw_160 (by decide) (Nat.le_of_ble_eq_true rfl) rfl rfl (Nat.le_of_ble_eq_true rfl) (Nat.le_of_ble_eq_true rfl) (Nat.le_of_ble_eq_true rfl) (Nat.le_of_ble_eq_true rfl) rfl y22 (fun a23 e23 => ?_)
  rw [← e23 0 (Nat.le_of_ble_eq_true rfl)]
  rw [← e23 48 (Nat.le_of_ble_eq_true rfl)]
  rw [← e23 80 (Nat.le_of_ble_eq_true rfl)]
  have z23 : a23 0 = kad K 0 := (e23 0 (Nat.le_of_ble_eq_true rfl)).trans z22
  show GW K 123 [some (.ref (a23 0)), some (.int (4 : Int32))] [.ref (a23 80), .int (4 : Int32), .ref (a23 48)] 80 1734 (WI K _ _ a23)
  refine n_aast C (o := 48) (v := 80) (b := 28) (k := 4) dX9_init_123 rfl rfl (by decide) (by decide) rfl ?_
  refine n_iinc C.1 (i := 1) (y := (5 : Int32)) (L' := [some (.ref (a23 0)), some (.int (5 : Int32))]) dX9_init_124 rfl (by decide) (Nat.le_of_ble_eq_true rfl) rfl ?_
  refine n_goto C.1 (tgt := 102) dX9_init_127 (by decide) ?_
  refine n_iload_n C.1 dX9_init_102 rfl (i := 1) rfl ?_
  refine n_aload_n C.1 dX9_init_103 rfl (i := 0) rfl ?_
  refine n_get C (o := 0) (kx := 9) (k := 4) (v := .ref (a23 48)) dX9_init_104 rfl rfl rfl (by decide) (Or.inl aw_357) inA9 rfl ?_
  refine n_alen C (v := (5 : Int32)) (o := 48) dX9_init_107 rfl rfl ?_
  refine n_ge_t C.1 (tgt := 130) dX9_init_108 (by decide) (by decide) ?_
  exact n_vret C hQ z23 (Nat.le_of_ble_eq_true rfl) dX9_init_130
theorem cn_X9 : Cn yX9_init cX9_init 2 3 9 [(4, 0), (4, 0), (4, 0), (4, 0), (4, 0), (4, 0), (4, 0), (4, 0), (4, 0), (0, 0), (0, 0), (0, 0)] layS9 σX9 80 1734 := cn_of (by decide) rfl (by decide) (by decide) (fun K C hN hQ => bn_X9 C hN hQ)
theorem dX10_init_0 : decode cX10_init 0 = .ok (.aload_n 0, 1) := by decide +kernel
theorem dX10_init_1 : decode cX10_init 1 = .ok (.invokespecial 1, 3) := by decide +kernel
theorem dX10_init_4 : decode cX10_init 4 = .ok (.aload_n 0, 1) := by decide +kernel
theorem dX10_init_5 : decode cX10_init 5 = .ok (.bipush 64, 2) := by decide +kernel
theorem dX10_init_7 : decode cX10_init 7 = .ok (.newarray .int, 2) := by decide +kernel
theorem dX10_init_9 : decode cX10_init 9 = .ok (.putfield 7, 3) := by decide +kernel
theorem dX10_init_12 : decode cX10_init 12 = .ok (.aload_n 0, 1) := by decide +kernel
theorem dX10_init_13 : decode cX10_init 13 = .ok (.bipush 30, 2) := by decide +kernel
theorem dX10_init_15 : decode cX10_init 15 = .ok (.newarray .int, 2) := by decide +kernel
theorem dX10_init_17 : decode cX10_init 17 = .ok (.putfield 13, 3) := by decide +kernel
theorem dX10_init_20 : decode cX10_init 20 = .ok (.aload_n 0, 1) := by decide +kernel
theorem dX10_init_21 : decode cX10_init 21 = .ok (.bipush 30, 2) := by decide +kernel
theorem dX10_init_23 : decode cX10_init 23 = .ok (.newarray .int, 2) := by decide +kernel
theorem dX10_init_25 : decode cX10_init 25 = .ok (.putfield 16, 3) := by decide +kernel
theorem dX10_init_28 : decode cX10_init 28 = .ok (.aload_n 0, 1) := by decide +kernel
theorem dX10_init_29 : decode cX10_init 29 = .ok (.bipush 30, 2) := by decide +kernel
theorem dX10_init_31 : decode cX10_init 31 = .ok (.newarray .int, 2) := by decide +kernel
theorem dX10_init_33 : decode cX10_init 33 = .ok (.putfield 19, 3) := by decide +kernel
theorem dX10_init_36 : decode cX10_init 36 = .ok (.aload_n 0, 1) := by decide +kernel
theorem dX10_init_37 : decode cX10_init 37 = .ok (.bipush 30, 2) := by decide +kernel
theorem dX10_init_39 : decode cX10_init 39 = .ok (.newarray .int, 2) := by decide +kernel
theorem dX10_init_41 : decode cX10_init 41 = .ok (.putfield 22, 3) := by decide +kernel
theorem dX10_init_44 : decode cX10_init 44 = .ok (.aload_n 0, 1) := by decide +kernel
theorem dX10_init_45 : decode cX10_init 45 = .ok (.bipush 25, 2) := by decide +kernel
theorem dX10_init_47 : decode cX10_init 47 = .ok (.newarray .int, 2) := by decide +kernel
theorem dX10_init_49 : decode cX10_init 49 = .ok (.putfield 25, 3) := by decide +kernel
theorem dX10_init_52 : decode cX10_init 52 = .ok (.aload_n 0, 1) := by decide +kernel
theorem dX10_init_53 : decode cX10_init 53 = .ok (.bipush 30, 2) := by decide +kernel
theorem dX10_init_55 : decode cX10_init 55 = .ok (.newarray .int, 2) := by decide +kernel
theorem dX10_init_57 : decode cX10_init 57 = .ok (.putfield 28, 3) := by decide +kernel
theorem dX10_init_60 : decode cX10_init 60 = .ok (.aload_n 0, 1) := by decide +kernel
theorem dX10_init_61 : decode cX10_init 61 = .ok (.bipush 10, 2) := by decide +kernel
theorem dX10_init_63 : decode cX10_init 63 = .ok (.newarray .int, 2) := by decide +kernel
theorem dX10_init_65 : decode cX10_init 65 = .ok (.putfield 31, 3) := by decide +kernel
theorem dX10_init_68 : decode cX10_init 68 = .ok (.aload_n 0, 1) := by decide +kernel
theorem dX10_init_69 : decode cX10_init 69 = .ok (.bipush 10, 2) := by decide +kernel
theorem dX10_init_71 : decode cX10_init 71 = .ok (.newarray .int, 2) := by decide +kernel
theorem dX10_init_73 : decode cX10_init 73 = .ok (.putfield 34, 3) := by decide +kernel
theorem dX10_init_76 : decode cX10_init 76 = .ok (.aload_n 0, 1) := by decide +kernel
theorem dX10_init_77 : decode cX10_init 77 = .ok (.bipush 10, 2) := by decide +kernel
theorem dX10_init_79 : decode cX10_init 79 = .ok (.newarray .int, 2) := by decide +kernel
theorem dX10_init_81 : decode cX10_init 81 = .ok (.putfield 37, 3) := by decide +kernel
theorem dX10_init_84 : decode cX10_init 84 = .ok (.aload_n 0, 1) := by decide +kernel
theorem dX10_init_85 : decode cX10_init 85 = .ok (.bipush 60, 2) := by decide +kernel
theorem dX10_init_87 : decode cX10_init 87 = .ok (.newarray .int, 2) := by decide +kernel
theorem dX10_init_89 : decode cX10_init 89 = .ok (.putfield 40, 3) := by decide +kernel
theorem dX10_init_92 : decode cX10_init 92 = .ok (.aload_n 0, 1) := by decide +kernel
theorem dX10_init_93 : decode cX10_init 93 = .ok (.bipush 72, 2) := by decide +kernel
theorem dX10_init_95 : decode cX10_init 95 = .ok (.newarray .int, 2) := by decide +kernel
theorem dX10_init_97 : decode cX10_init 97 = .ok (.putfield 43, 3) := by decide +kernel
theorem dX10_init_100 : decode cX10_init 100 = .ok (.aload_n 0, 1) := by decide +kernel
theorem dX10_init_101 : decode cX10_init 101 = .ok (.sipush 1000, 3) := by decide +kernel
theorem dX10_init_104 : decode cX10_init 104 = .ok (.newarray .long, 2) := by decide +kernel
theorem dX10_init_106 : decode cX10_init 106 = .ok (.putfield 46, 3) := by decide +kernel
theorem dX10_init_109 : decode cX10_init 109 = .ok (.aload_n 0, 1) := by decide +kernel
theorem dX10_init_110 : decode cX10_init 110 = .ok (.sipush 1000, 3) := by decide +kernel
theorem dX10_init_113 : decode cX10_init 113 = .ok (.newarray .long, 2) := by decide +kernel
theorem dX10_init_115 : decode cX10_init 115 = .ok (.putfield 50, 3) := by decide +kernel
theorem dX10_init_118 : decode cX10_init 118 = .ok (.aload_n 0, 1) := by decide +kernel
theorem dX10_init_119 : decode cX10_init 119 = .ok (.bipush 25, 2) := by decide +kernel
theorem dX10_init_121 : decode cX10_init 121 = .ok (.newarray .int, 2) := by decide +kernel
theorem dX10_init_123 : decode cX10_init 123 = .ok (.putfield 53, 3) := by decide +kernel
theorem dX10_init_126 : decode cX10_init 126 = .ok (.aload_n 0, 1) := by decide +kernel
theorem dX10_init_127 : decode cX10_init 127 = .ok (.bipush 30, 2) := by decide +kernel
theorem dX10_init_129 : decode cX10_init 129 = .ok (.newarray .int, 2) := by decide +kernel
theorem dX10_init_131 : decode cX10_init 131 = .ok (.putfield 56, 3) := by decide +kernel
theorem dX10_init_134 : decode cX10_init 134 = .ok (.aload_n 0, 1) := by decide +kernel
theorem dX10_init_135 : decode cX10_init 135 = .ok (.iconst (-1), 1) := by decide +kernel
theorem dX10_init_136 : decode cX10_init 136 = .ok (.putfield 59, 3) := by decide +kernel
theorem dX10_init_139 : decode cX10_init 139 = .ok (.aload_n 0, 1) := by decide +kernel
theorem dX10_init_140 : decode cX10_init 140 = .ok (.iconst 3, 1) := by decide +kernel
theorem dX10_init_141 : decode cX10_init 141 = .ok (.putfield 63, 3) := by decide +kernel
theorem dX10_init_144 : decode cX10_init 144 = .ok (.aload_n 0, 1) := by decide +kernel
theorem dX10_init_145 : decode cX10_init 145 = .ok (.iconst 1, 1) := by decide +kernel
theorem dX10_init_146 : decode cX10_init 146 = .ok (.putfield 66, 3) := by decide +kernel
theorem dX10_init_149 : decode cX10_init 149 = .ok (.aload_n 0, 1) := by decide +kernel
theorem dX10_init_150 : decode cX10_init 150 = .ok (.bipush 20, 2) := by decide +kernel
theorem dX10_init_152 : decode cX10_init 152 = .ok (.putfield 69, 3) := by decide +kernel
theorem dX10_init_155 : decode cX10_init 155 = .ok (.return_, 1) := by decide +kernel
def σX10 : Sg := (wI (wI (wI (wI σz 0 43 (-1 : Int32)) 0 17 (3 : Int32)) 0 18 (1 : Int32)) 0 19 (20 : Int32))
theorem df10 : ∀ j, j < 52 → defaultValue (tyX10 j) = vp_V (dfl [(4, 0), (0, 0), (0, 0), (0, 0), (0, 0), (0, 0), (0, 0), (4, 0), (4, 0), (0, 0), (0, 0), (0, 0), (0, 0), (4, 0), (4, 0), (0, 0), (4, 0), (0, 0), (0, 0), (0, 0), (0, 0), (4, 0), (0, 0), (0, 0), (0, 0), (0, 0), (0, 0), (0, 0), (0, 0), (0, 0), (4, 0), (4, 0), (4, 0), (0, 0), (0, 0), (0, 0), (0, 0), (0, 0), (4, 0), (4, 0), (0, 0), (4, 0), (4, 0), (0, 0), (0, 0), (0, 0), (0, 0), (0, 0), (0, 0), (4, 0), (4, 0), (1, 0)]) j := by decide +kernel
theorem cwi_X10 : Cwi yX10_init cX10_init 1 := ⟨aw_787, aw_56, ⟨by decide, by decide⟩, by decide +kernel, by decide, rfl⟩
set_option maxRecDepth 8000 in
theorem bn_X10 {K : KT} (C : CxI K cX10_init RX10 1 1 16 2456) (hN : (kmeth K).name = "<init>") (hQ : Rki K layS10 σX10 16 2456) : GW K 0 (pad [some (.ref (kad K 0))] 1) [] 0 0 (WI K [(0, 10, [(4, 0), (0, 0), (0, 0), (0, 0), (0, 0), (0, 0), (0, 0), (4, 0), (4, 0), (0, 0), (0, 0), (0, 0), (0, 0), (4, 0), (4, 0), (0, 0), (4, 0), (0, 0), (0, 0), (0, 0), (0, 0), (4, 0), (0, 0), (0, 0), (0, 0), (0, 0), (0, 0), (0, 0), (0, 0), (0, 0), (4, 0), (4, 0), (4, 0), (0, 0), (0, 0), (0, 0), (0, 0), (0, 0), (4, 0), (4, 0), (0, 0), (4, 0), (4, 0), (0, 0), (0, 0), (0, 0), (0, 0), (0, 0), (0, 0), (4, 0), (4, 0), (1, 0)])] σz (kad K)) := by
  show GW K 0 [some (.ref (kad K 0))] [] 0 0 (WI K _ _ (kad K))
  refine n_aload_n C.1 dX10_init_0 rfl (i := 0) rfl ?_
  refine n_obj C dX10_init_1 aw_788 aw_65 aw_66 rfl (Nat.le_of_ble_eq_true rfl) (Nat.le_of_ble_eq_true rfl) ?_
  refine n_aload_n C.1 dX10_init_4 rfl (i := 0) rfl ?_
  refine n_bipush C.1 dX10_init_5 (v := (64 : Int32)) (by decide) ?_
  refine n_newI C (N := 64) dX10_init_7 aw_97 (by decide) (by decide) (Nat.le_of_ble_eq_true rfl) (Nat.le_of_ble_eq_true rfl) (Nat.le_of_ble_eq_true rfl) (fun a1 e1 => ?_)
  rw [← e1 0 (Nat.le_of_ble_eq_true rfl)]
  have z1 : a1 0 = kad K 0 := (e1 0 (Nat.le_of_ble_eq_true rfl)).trans rfl
  show GW K 9 [some (.ref (a1 0))] [.ref (a1 1), .ref (a1 0)] 1 64 (WI K _ _ a1)
  refine n_putC C (o := 0) (kx := 10) (k := 0) (off := 1) (v := 1) hN dX10_init_9 rfl (Nat.le_of_ble_eq_true rfl) rfl (by decide) aw_789 inA10 tyX10_ok nmX10 rfl (fun _ => rfl) (fun _ => rfl) rfl (Nat.le_of_ble_eq_true rfl) ?_
  refine n_aload_n C.1 dX10_init_12 rfl (i := 0) rfl ?_
  refine n_bipush C.1 dX10_init_13 (v := (30 : Int32)) (by decide) ?_
  refine n_newI C (N := 30) dX10_init_15 aw_97 (by decide) (by decide) (Nat.le_of_ble_eq_true rfl) (Nat.le_of_ble_eq_true rfl) (Nat.le_of_ble_eq_true rfl) (fun a2 e2 => ?_)
  rw [← e2 0 (Nat.le_of_ble_eq_true rfl)]
  have z2 : a2 0 = kad K 0 := (e2 0 (Nat.le_of_ble_eq_true rfl)).trans z1
  show GW K 17 [some (.ref (a2 0))] [.ref (a2 2), .ref (a2 0)] 2 94 (WI K _ _ a2)
  refine n_putC C (o := 0) (kx := 10) (k := 7) (off := 2) (v := 2) hN dX10_init_17 rfl (Nat.le_of_ble_eq_true rfl) rfl (by decide) aw_796 inA10 tyX10_ok nmX10 rfl (fun _ => rfl) (fun _ => rfl) rfl (Nat.le_of_ble_eq_true rfl) ?_
  refine n_aload_n C.1 dX10_init_20 rfl (i := 0) rfl ?_
  refine n_bipush C.1 dX10_init_21 (v := (30 : Int32)) (by decide) ?_
  refine n_newI C (N := 30) dX10_init_23 aw_97 (by decide) (by decide) (Nat.le_of_ble_eq_true rfl) (Nat.le_of_ble_eq_true rfl) (Nat.le_of_ble_eq_true rfl) (fun a3 e3 => ?_)
  rw [← e3 0 (Nat.le_of_ble_eq_true rfl)]
  have z3 : a3 0 = kad K 0 := (e3 0 (Nat.le_of_ble_eq_true rfl)).trans z2
  show GW K 25 [some (.ref (a3 0))] [.ref (a3 3), .ref (a3 0)] 3 124 (WI K _ _ a3)
  refine n_putC C (o := 0) (kx := 10) (k := 8) (off := 3) (v := 3) hN dX10_init_25 rfl (Nat.le_of_ble_eq_true rfl) rfl (by decide) aw_797 inA10 tyX10_ok nmX10 rfl (fun _ => rfl) (fun _ => rfl) rfl (Nat.le_of_ble_eq_true rfl) ?_
  refine n_aload_n C.1 dX10_init_28 rfl (i := 0) rfl ?_
  refine n_bipush C.1 dX10_init_29 (v := (30 : Int32)) (by decide) ?_
  refine n_newI C (N := 30) dX10_init_31 aw_97 (by decide) (by decide) (Nat.le_of_ble_eq_true rfl) (Nat.le_of_ble_eq_true rfl) (Nat.le_of_ble_eq_true rfl) (fun a4 e4 => ?_)
  rw [← e4 0 (Nat.le_of_ble_eq_true rfl)]
  have z4 : a4 0 = kad K 0 := (e4 0 (Nat.le_of_ble_eq_true rfl)).trans z3
  show GW K 33 [some (.ref (a4 0))] [.ref (a4 4), .ref (a4 0)] 4 154 (WI K _ _ a4)
  refine n_putC C (o := 0) (kx := 10) (k := 13) (off := 4) (v := 4) hN dX10_init_33 rfl (Nat.le_of_ble_eq_true rfl) rfl (by decide) aw_802 inA10 tyX10_ok nmX10 rfl (fun _ => rfl) (fun _ => rfl) rfl (Nat.le_of_ble_eq_true rfl) ?_
  refine n_aload_n C.1 dX10_init_36 rfl (i := 0) rfl ?_
  refine n_bipush C.1 dX10_init_37 (v := (30 : Int32)) (by decide) ?_
  refine n_newI C (N := 30) dX10_init_39 aw_97 (by decide) (by decide) (Nat.le_of_ble_eq_true rfl) (Nat.le_of_ble_eq_true rfl) (Nat.le_of_ble_eq_true rfl) (fun a5 e5 => ?_)
  rw [← e5 0 (Nat.le_of_ble_eq_true rfl)]
  have z5 : a5 0 = kad K 0 := (e5 0 (Nat.le_of_ble_eq_true rfl)).trans z4
  show GW K 41 [some (.ref (a5 0))] [.ref (a5 5), .ref (a5 0)] 5 184 (WI K _ _ a5)
  refine n_putC C (o := 0) (kx := 10) (k := 14) (off := 5) (v := 5) hN dX10_init_41 rfl (Nat.le_of_ble_eq_true rfl) rfl (by decide) aw_803 inA10 tyX10_ok nmX10 rfl (fun _ => rfl) (fun _ => rfl) rfl (Nat.le_of_ble_eq_true rfl) ?_
  refine n_aload_n C.1 dX10_init_44 rfl (i := 0) rfl ?_
  refine n_bipush C.1 dX10_init_45 (v := (25 : Int32)) (by decide) ?_
  refine n_newI C (N := 25) dX10_init_47 aw_97 (by decide) (by decide) (Nat.le_of_ble_eq_true rfl) (Nat.le_of_ble_eq_true rfl) (Nat.le_of_ble_eq_true rfl) (fun a6 e6 => ?_)
  rw [← e6 0 (Nat.le_of_ble_eq_true rfl)]
  have z6 : a6 0 = kad K 0 := (e6 0 (Nat.le_of_ble_eq_true rfl)).trans z5
  show GW K 49 [some (.ref (a6 0))] [.ref (a6 6), .ref (a6 0)] 6 209 (WI K _ _ a6)
  refine n_putC C (o := 0) (kx := 10) (k := 16) (off := 6) (v := 6) hN dX10_init_49 rfl (Nat.le_of_ble_eq_true rfl) rfl (by decide) aw_805 inA10 tyX10_ok nmX10 rfl (fun _ => rfl) (fun _ => rfl) rfl (Nat.le_of_ble_eq_true rfl) ?_
  refine n_aload_n C.1 dX10_init_52 rfl (i := 0) rfl ?_
  refine n_bipush C.1 dX10_init_53 (v := (30 : Int32)) (by decide) ?_
  refine n_newI C (N := 30) dX10_init_55 aw_97 (by decide) (by decide) (Nat.le_of_ble_eq_true rfl) (Nat.le_of_ble_eq_true rfl) (Nat.le_of_ble_eq_true rfl) (fun a7 e7 => ?_)
  rw [← e7 0 (Nat.le_of_ble_eq_true rfl)]
  have z7 : a7 0 = kad K 0 := (e7 0 (Nat.le_of_ble_eq_true rfl)).trans z6
  show GW K 57 [some (.ref (a7 0))] [.ref (a7 7), .ref (a7 0)] 7 239 (WI K _ _ a7)
  refine n_putC C (o := 0) (kx := 10) (k := 21) (off := 7) (v := 7) hN dX10_init_57 rfl (Nat.le_of_ble_eq_true rfl) rfl (by decide) aw_810 inA10 tyX10_ok nmX10 rfl (fun _ => rfl) (fun _ => rfl) rfl (Nat.le_of_ble_eq_true rfl) ?_
  refine n_aload_n C.1 dX10_init_60 rfl (i := 0) rfl ?_
  refine n_bipush C.1 dX10_init_61 (v := (10 : Int32)) (by decide) ?_
  refine n_newI C (N := 10) dX10_init_63 aw_97 (by decide) (by decide) (Nat.le_of_ble_eq_true rfl) (Nat.le_of_ble_eq_true rfl) (Nat.le_of_ble_eq_true rfl) (fun a8 e8 => ?_)
  rw [← e8 0 (Nat.le_of_ble_eq_true rfl)]
  have z8 : a8 0 = kad K 0 := (e8 0 (Nat.le_of_ble_eq_true rfl)).trans z7
  show GW K 65 [some (.ref (a8 0))] [.ref (a8 8), .ref (a8 0)] 8 249 (WI K _ _ a8)
  refine n_putC C (o := 0) (kx := 10) (k := 30) (off := 8) (v := 8) hN dX10_init_65 rfl (Nat.le_of_ble_eq_true rfl) rfl (by decide) aw_819 inA10 tyX10_ok nmX10 rfl (fun _ => rfl) (fun _ => rfl) rfl (Nat.le_of_ble_eq_true rfl) ?_
  refine n_aload_n C.1 dX10_init_68 rfl (i := 0) rfl ?_
  refine n_bipush C.1 dX10_init_69 (v := (10 : Int32)) (by decide) ?_
  refine n_newI C (N := 10) dX10_init_71 aw_97 (by decide) (by decide) (Nat.le_of_ble_eq_true rfl) (Nat.le_of_ble_eq_true rfl) (Nat.le_of_ble_eq_true rfl) (fun a9 e9 => ?_)
  rw [← e9 0 (Nat.le_of_ble_eq_true rfl)]
  have z9 : a9 0 = kad K 0 := (e9 0 (Nat.le_of_ble_eq_true rfl)).trans z8
  show GW K 73 [some (.ref (a9 0))] [.ref (a9 9), .ref (a9 0)] 9 259 (WI K _ _ a9)
  refine n_putC C (o := 0) (kx := 10) (k := 31) (off := 9) (v := 9) hN dX10_init_73 rfl (Nat.le_of_ble_eq_true rfl) rfl (by decide) aw_820 inA10 tyX10_ok nmX10 rfl (fun _ => rfl) (fun _ => rfl) rfl (Nat.le_of_ble_eq_true rfl) ?_
  refine n_aload_n C.1 dX10_init_76 rfl (i := 0) rfl ?_
  refine n_bipush C.1 dX10_init_77 (v := (10 : Int32)) (by decide) ?_
  refine n_newI C (N := 10) dX10_init_79 aw_97 (by decide) (by decide) (Nat.le_of_ble_eq_true rfl) (Nat.le_of_ble_eq_true rfl) (Nat.le_of_ble_eq_true rfl) (fun a10 e10 => ?_)
  rw [← e10 0 (Nat.le_of_ble_eq_true rfl)]
  have z10 : a10 0 = kad K 0 := (e10 0 (Nat.le_of_ble_eq_true rfl)).trans z9
  show GW K 81 [some (.ref (a10 0))] [.ref (a10 10), .ref (a10 0)] 10 269 (WI K _ _ a10)
  refine n_putC C (o := 0) (kx := 10) (k := 32) (off := 10) (v := 10) hN dX10_init_81 rfl (Nat.le_of_ble_eq_true rfl) rfl (by decide) aw_821 inA10 tyX10_ok nmX10 rfl (fun _ => rfl) (fun _ => rfl) rfl (Nat.le_of_ble_eq_true rfl) ?_
  refine n_aload_n C.1 dX10_init_84 rfl (i := 0) rfl ?_
  refine n_bipush C.1 dX10_init_85 (v := (60 : Int32)) (by decide) ?_
  refine n_newI C (N := 60) dX10_init_87 aw_97 (by decide) (by decide) (Nat.le_of_ble_eq_true rfl) (Nat.le_of_ble_eq_true rfl) (Nat.le_of_ble_eq_true rfl) (fun a11 e11 => ?_)
  rw [← e11 0 (Nat.le_of_ble_eq_true rfl)]
  have z11 : a11 0 = kad K 0 := (e11 0 (Nat.le_of_ble_eq_true rfl)).trans z10
  show GW K 89 [some (.ref (a11 0))] [.ref (a11 11), .ref (a11 0)] 11 329 (WI K _ _ a11)
  refine n_putC C (o := 0) (kx := 10) (k := 38) (off := 11) (v := 11) hN dX10_init_89 rfl (Nat.le_of_ble_eq_true rfl) rfl (by decide) aw_827 inA10 tyX10_ok nmX10 rfl (fun _ => rfl) (fun _ => rfl) rfl (Nat.le_of_ble_eq_true rfl) ?_
  refine n_aload_n C.1 dX10_init_92 rfl (i := 0) rfl ?_
  refine n_bipush C.1 dX10_init_93 (v := (72 : Int32)) (by decide) ?_
  refine n_newI C (N := 72) dX10_init_95 aw_97 (by decide) (by decide) (Nat.le_of_ble_eq_true rfl) (Nat.le_of_ble_eq_true rfl) (Nat.le_of_ble_eq_true rfl) (fun a12 e12 => ?_)
  rw [← e12 0 (Nat.le_of_ble_eq_true rfl)]
  have z12 : a12 0 = kad K 0 := (e12 0 (Nat.le_of_ble_eq_true rfl)).trans z11
  show GW K 97 [some (.ref (a12 0))] [.ref (a12 12), .ref (a12 0)] 12 401 (WI K _ _ a12)
  refine n_putC C (o := 0) (kx := 10) (k := 39) (off := 12) (v := 12) hN dX10_init_97 rfl (Nat.le_of_ble_eq_true rfl) rfl (by decide) aw_828 inA10 tyX10_ok nmX10 rfl (fun _ => rfl) (fun _ => rfl) rfl (Nat.le_of_ble_eq_true rfl) ?_
  refine n_aload_n C.1 dX10_init_100 rfl (i := 0) rfl ?_
  refine n_sipush C.1 dX10_init_101 (v := (1000 : Int32)) (by decide) ?_
  refine n_newJ C (N := 1000) dX10_init_104 aw_351 (by decide) (by decide) (Nat.le_of_ble_eq_true rfl) (Nat.le_of_ble_eq_true rfl) (Nat.le_of_ble_eq_true rfl) (fun a13 e13 => ?_)
  rw [← e13 0 (Nat.le_of_ble_eq_true rfl)]
  have z13 : a13 0 = kad K 0 := (e13 0 (Nat.le_of_ble_eq_true rfl)).trans z12
  show GW K 106 [some (.ref (a13 0))] [.ref (a13 13), .ref (a13 0)] 13 1401 (WI K _ _ a13)
  refine n_putC C (o := 0) (kx := 10) (k := 41) (off := 13) (v := 13) hN dX10_init_106 rfl (Nat.le_of_ble_eq_true rfl) rfl (by decide) aw_830 inA10 tyX10_ok nmX10 rfl (fun _ => rfl) (fun _ => rfl) rfl (Nat.le_of_ble_eq_true rfl) ?_
  refine n_aload_n C.1 dX10_init_109 rfl (i := 0) rfl ?_
  refine n_sipush C.1 dX10_init_110 (v := (1000 : Int32)) (by decide) ?_
  refine n_newJ C (N := 1000) dX10_init_113 aw_351 (by decide) (by decide) (Nat.le_of_ble_eq_true rfl) (Nat.le_of_ble_eq_true rfl) (Nat.le_of_ble_eq_true rfl) (fun a14 e14 => ?_)
  rw [← e14 0 (Nat.le_of_ble_eq_true rfl)]
  have z14 : a14 0 = kad K 0 := (e14 0 (Nat.le_of_ble_eq_true rfl)).trans z13
  show GW K 115 [some (.ref (a14 0))] [.ref (a14 14), .ref (a14 0)] 14 2401 (WI K _ _ a14)
  refine n_putC C (o := 0) (kx := 10) (k := 42) (off := 14) (v := 14) hN dX10_init_115 rfl (Nat.le_of_ble_eq_true rfl) rfl (by decide) aw_831 inA10 tyX10_ok nmX10 rfl (fun _ => rfl) (fun _ => rfl) rfl (Nat.le_of_ble_eq_true rfl) ?_
  refine n_aload_n C.1 dX10_init_118 rfl (i := 0) rfl ?_
  refine n_bipush C.1 dX10_init_119 (v := (25 : Int32)) (by decide) ?_
  refine n_newI C (N := 25) dX10_init_121 aw_97 (by decide) (by decide) (Nat.le_of_ble_eq_true rfl) (Nat.le_of_ble_eq_true rfl) (Nat.le_of_ble_eq_true rfl) (fun a15 e15 => ?_)
  rw [← e15 0 (Nat.le_of_ble_eq_true rfl)]
  have z15 : a15 0 = kad K 0 := (e15 0 (Nat.le_of_ble_eq_true rfl)).trans z14
  show GW K 123 [some (.ref (a15 0))] [.ref (a15 15), .ref (a15 0)] 15 2426 (WI K _ _ a15)
  refine n_putC C (o := 0) (kx := 10) (k := 49) (off := 15) (v := 15) hN dX10_init_123 rfl (Nat.le_of_ble_eq_true rfl) rfl (by decide) aw_838 inA10 tyX10_ok nmX10 rfl (fun _ => rfl) (fun _ => rfl) rfl (Nat.le_of_ble_eq_true rfl) ?_
  refine n_aload_n C.1 dX10_init_126 rfl (i := 0) rfl ?_
  refine n_bipush C.1 dX10_init_127 (v := (30 : Int32)) (by decide) ?_
  refine n_newI C (N := 30) dX10_init_129 aw_97 (by decide) (by decide) (Nat.le_of_ble_eq_true rfl) (Nat.le_of_ble_eq_true rfl) (Nat.le_of_ble_eq_true rfl) (fun a16 e16 => ?_)
  rw [← e16 0 (Nat.le_of_ble_eq_true rfl)]
  have z16 : a16 0 = kad K 0 := (e16 0 (Nat.le_of_ble_eq_true rfl)).trans z15
  show GW K 131 [some (.ref (a16 0))] [.ref (a16 16), .ref (a16 0)] 16 2456 (WI K _ _ a16)
  refine n_putC C (o := 0) (kx := 10) (k := 50) (off := 16) (v := 16) hN dX10_init_131 rfl (Nat.le_of_ble_eq_true rfl) rfl (by decide) aw_839 inA10 tyX10_ok nmX10 rfl (fun _ => rfl) (fun _ => rfl) rfl (Nat.le_of_ble_eq_true rfl) ?_
  refine n_aload_n C.1 dX10_init_134 rfl (i := 0) rfl ?_
  refine n_iconst C.1 dX10_init_135 (v := (-1 : Int32)) (by decide) ?_
  refine n_putI C (o := 0) (kx := 10) (k := 43) hN dX10_init_136 rfl rfl rfl (by decide) aw_832 inA10 tyX10_ok nmX10 rfl rfl rfl ?_
  refine n_aload_n C.1 dX10_init_139 rfl (i := 0) rfl ?_
  refine n_iconst C.1 dX10_init_140 (v := (3 : Int32)) (by decide) ?_
  refine n_putI C (o := 0) (kx := 10) (k := 17) hN dX10_init_141 rfl rfl rfl (by decide) aw_806 inA10 tyX10_ok nmX10 rfl rfl rfl ?_
  refine n_aload_n C.1 dX10_init_144 rfl (i := 0) rfl ?_
  refine n_iconst C.1 dX10_init_145 (v := (1 : Int32)) (by decide) ?_
  refine n_putI C (o := 0) (kx := 10) (k := 18) hN dX10_init_146 rfl rfl rfl (by decide) aw_807 inA10 tyX10_ok nmX10 rfl rfl rfl ?_
  refine n_aload_n C.1 dX10_init_149 rfl (i := 0) rfl ?_
  refine n_bipush C.1 dX10_init_150 (v := (20 : Int32)) (by decide) ?_
  refine n_putI C (o := 0) (kx := 10) (k := 19) hN dX10_init_152 rfl rfl rfl (by decide) aw_808 inA10 tyX10_ok nmX10 rfl rfl rfl ?_
  exact n_vret C hQ z16 (Nat.le_of_ble_eq_true rfl) dX10_init_155
theorem cn_X10 : Cn yX10_init cX10_init 1 1 10 [(4, 0), (0, 0), (0, 0), (0, 0), (0, 0), (0, 0), (0, 0), (4, 0), (4, 0), (0, 0), (0, 0), (0, 0), (0, 0), (4, 0), (4, 0), (0, 0), (4, 0), (0, 0), (0, 0), (0, 0), (0, 0), (4, 0), (0, 0), (0, 0), (0, 0), (0, 0), (0, 0), (0, 0), (0, 0), (0, 0), (4, 0), (4, 0), (4, 0), (0, 0), (0, 0), (0, 0), (0, 0), (0, 0), (4, 0), (4, 0), (0, 0), (4, 0), (4, 0), (0, 0), (0, 0), (0, 0), (0, 0), (0, 0), (0, 0), (4, 0), (4, 0), (1, 0)] layS10 σX10 16 2456 := cn_of (by decide) rfl (by decide) (by decide) (fun K C hN hQ => bn_X10 C hN hQ)
end
