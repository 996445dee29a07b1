section
-- ===== PART A: goes FIRST, ahead of the names: the tables' words, and 'selects' of the private methods out of them =====
/-- a private method of a class that the tables say can be made, by its rows of tables_1 -/
def lw_okq (q : MethodName × Nat) : Prop := (q.1.cls ≠ "java/lang/invoke/MethodHandle" ∧ q.1.cls ≠ "java/lang/invoke/VarHandle") ∧ Cond.instantiable q.1.cls q.2 ∈ tables_1 ∧ Cond.privateMethod q.1 ∈ tables_1 ∧ Cond.instanceMethod q.1 ∈ tables_1
theorem lw_p0 : lw_okq (⟨"IceForCoast$Page", "takes", "(I)Z"⟩, 7) := ⟨⟨by decide +kernel, by decide +kernel⟩, List.mem_of_getElem? (i := 23) (by decide +kernel), List.mem_of_getElem? (i := 373) (by decide +kernel), List.mem_of_getElem? (i := 374) (by decide +kernel)⟩
theorem lw_p1 : lw_okq (⟨"IceForCoast$Page", "takesRowEnd", "()Z"⟩, 7) := ⟨⟨by decide +kernel, by decide +kernel⟩, List.mem_of_getElem? (i := 23) (by decide +kernel), List.mem_of_getElem? (i := 377) (by decide +kernel), List.mem_of_getElem? (i := 378) (by decide +kernel)⟩
theorem lw_p2 : lw_okq (⟨"IceForCoast$Page", "takesSquare", "(I)Z"⟩, 7) := ⟨⟨by decide +kernel, by decide +kernel⟩, List.mem_of_getElem? (i := 23) (by decide +kernel), List.mem_of_getElem? (i := 384) (by decide +kernel), List.mem_of_getElem? (i := 385) (by decide +kernel)⟩
theorem lw_p3 : lw_okq (⟨"IceForCoast$Sea", "layLetter", "(I)V"⟩, 8) := ⟨⟨by decide +kernel, by decide +kernel⟩, List.mem_of_getElem? (i := 60) (by decide +kernel), List.mem_of_getElem? (i := 405) (by decide +kernel), List.mem_of_getElem? (i := 406) (by decide +kernel)⟩
theorem lw_p4 : lw_okq (⟨"IceForCoast$Sea", "measure", "()V"⟩, 8) := ⟨⟨by decide +kernel, by decide +kernel⟩, List.mem_of_getElem? (i := 60) (by decide +kernel), List.mem_of_getElem? (i := 410) (by decide +kernel), List.mem_of_getElem? (i := 411) (by decide +kernel)⟩
theorem lw_p5 : lw_okq (⟨"IceForCoast$Sea", "openWays", "(I)V"⟩, 8) := ⟨⟨by decide +kernel, by decide +kernel⟩, List.mem_of_getElem? (i := 60) (by decide +kernel), List.mem_of_getElem? (i := 417) (by decide +kernel), List.mem_of_getElem? (i := 418) (by decide +kernel)⟩
theorem lw_p6 : lw_okq (⟨"IceForCoast$Sea", "beside", "(II)I"⟩, 8) := ⟨⟨by decide +kernel, by decide +kernel⟩, List.mem_of_getElem? (i := 60) (by decide +kernel), List.mem_of_getElem? (i := 421) (by decide +kernel), List.mem_of_getElem? (i := 422) (by decide +kernel)⟩
theorem lw_p7 : lw_okq (⟨"IceForCoast", "isBerg", "(I)Z"⟩, 12) := ⟨⟨by decide +kernel, by decide +kernel⟩, List.mem_of_getElem? (i := 15) (by decide +kernel), List.mem_of_getElem? (i := 476) (by decide +kernel), List.mem_of_getElem? (i := 477) (by decide +kernel)⟩
theorem lw_p8 : lw_okq (⟨"IceForCoast", "hasWay", "(I)Z"⟩, 12) := ⟨⟨by decide +kernel, by decide +kernel⟩, List.mem_of_getElem? (i := 15) (by decide +kernel), List.mem_of_getElem? (i := 521) (by decide +kernel), List.mem_of_getElem? (i := 522) (by decide +kernel)⟩
theorem lw_p9 : lw_okq (⟨"IceForCoast$Tow", "isHopeless", "(I)Z"⟩, 17) := ⟨⟨by decide +kernel, by decide +kernel⟩, List.mem_of_getElem? (i := 54) (by decide +kernel), List.mem_of_getElem? (i := 534) (by decide +kernel), List.mem_of_getElem? (i := 535) (by decide +kernel)⟩
theorem lw_p10 : lw_okq (⟨"IceForCoast$Tow", "choose", "(I)V"⟩, 17) := ⟨⟨by decide +kernel, by decide +kernel⟩, List.mem_of_getElem? (i := 54) (by decide +kernel), List.mem_of_getElem? (i := 542) (by decide +kernel), List.mem_of_getElem? (i := 543) (by decide +kernel)⟩
theorem lw_p11 : lw_okq (⟨"IceForCoast$Tow", "pass", "(III)V"⟩, 17) := ⟨⟨by decide +kernel, by decide +kernel⟩, List.mem_of_getElem? (i := 54) (by decide +kernel), List.mem_of_getElem? (i := 549) (by decide +kernel), List.mem_of_getElem? (i := 550) (by decide +kernel)⟩
theorem lw_p12 : lw_okq (⟨"IceForCoast$Tow", "daysOfStep", "(III)I"⟩, 17) := ⟨⟨by decide +kernel, by decide +kernel⟩, List.mem_of_getElem? (i := 54) (by decide +kernel), List.mem_of_getElem? (i := 553) (by decide +kernel), List.mem_of_getElem? (i := 554) (by decide +kernel)⟩
theorem lw_p13 : lw_okq (⟨"IceForCoast$Tow", "drawnWarmth", "(I)I"⟩, 17) := ⟨⟨by decide +kernel, by decide +kernel⟩, List.mem_of_getElem? (i := 54) (by decide +kernel), List.mem_of_getElem? (i := 557) (by decide +kernel), List.mem_of_getElem? (i := 558) (by decide +kernel)⟩
theorem lw_p14 : lw_okq (⟨"IceForCoast", "weigh", "(I)V"⟩, 12) := ⟨⟨by decide +kernel, by decide +kernel⟩, List.mem_of_getElem? (i := 15) (by decide +kernel), List.mem_of_getElem? (i := 586) (by decide +kernel), List.mem_of_getElem? (i := 587) (by decide +kernel)⟩
theorem lw_p15 : lw_okq (⟨"IceForCoast$Ledger", "mostFrom", "(II)I"⟩, 4) := ⟨⟨by decide +kernel, by decide +kernel⟩, List.mem_of_getElem? (i := 260) (by decide +kernel), List.mem_of_getElem? (i := 608) (by decide +kernel), List.mem_of_getElem? (i := 609) (by decide +kernel)⟩
def lw_privs_1 : List (MethodName × Nat) := [(⟨"IceForCoast$Page", "takes", "(I)Z"⟩, 7), (⟨"IceForCoast$Page", "takesRowEnd", "()Z"⟩, 7), (⟨"IceForCoast$Page", "takesSquare", "(I)Z"⟩, 7), (⟨"IceForCoast$Sea", "layLetter", "(I)V"⟩, 8), (⟨"IceForCoast$Sea", "measure", "()V"⟩, 8), (⟨"IceForCoast$Sea", "openWays", "(I)V"⟩, 8), (⟨"IceForCoast$Sea", "beside", "(II)I"⟩, 8), (⟨"IceForCoast", "isBerg", "(I)Z"⟩, 12), (⟨"IceForCoast", "hasWay", "(I)Z"⟩, 12), (⟨"IceForCoast$Tow", "isHopeless", "(I)Z"⟩, 17), (⟨"IceForCoast$Tow", "choose", "(I)V"⟩, 17), (⟨"IceForCoast$Tow", "pass", "(III)V"⟩, 17), (⟨"IceForCoast$Tow", "daysOfStep", "(III)I"⟩, 17), (⟨"IceForCoast$Tow", "drawnWarmth", "(I)I"⟩, 17), (⟨"IceForCoast", "weigh", "(I)V"⟩, 12), (⟨"IceForCoast$Ledger", "mostFrom", "(II)I"⟩, 4)]
theorem lw_r1 : ∀ q ∈ lw_privs_1, lw_okq q := List.forall_mem_cons.mpr ⟨lw_p0, List.forall_mem_cons.mpr ⟨lw_p1, List.forall_mem_cons.mpr ⟨lw_p2, List.forall_mem_cons.mpr ⟨lw_p3, List.forall_mem_cons.mpr ⟨lw_p4, List.forall_mem_cons.mpr ⟨lw_p5, List.forall_mem_cons.mpr ⟨lw_p6, List.forall_mem_cons.mpr ⟨lw_p7, List.forall_mem_cons.mpr ⟨lw_p8, List.forall_mem_cons.mpr ⟨lw_p9, List.forall_mem_cons.mpr ⟨lw_p10, List.forall_mem_cons.mpr ⟨lw_p11, List.forall_mem_cons.mpr ⟨lw_p12, List.forall_mem_cons.mpr ⟨lw_p13, List.forall_mem_cons.mpr ⟨lw_p14, List.forall_mem_cons.mpr ⟨lw_p15, fun _ h => absurd h List.not_mem_nil⟩⟩⟩⟩⟩⟩⟩⟩⟩⟩⟩⟩⟩⟩⟩⟩
theorem lw_p16 : lw_okq (⟨"IceForCoast$Ledger", "gainBy", "(II)I"⟩, 4) := ⟨⟨by decide +kernel, by decide +kernel⟩, List.mem_of_getElem? (i := 260) (by decide +kernel), List.mem_of_getElem? (i := 612) (by decide +kernel), List.mem_of_getElem? (i := 613) (by decide +kernel)⟩
theorem lw_p17 : lw_okq (⟨"IceForCoast$Ledger", "fewestFor", "(II)I"⟩, 4) := ⟨⟨by decide +kernel, by decide +kernel⟩, List.mem_of_getElem? (i := 260) (by decide +kernel), List.mem_of_getElem? (i := 621) (by decide +kernel), List.mem_of_getElem? (i := 622) (by decide +kernel)⟩
theorem lw_p18 : lw_okq (⟨"IceForCoast$Odds", "letOffNow", "(II)J"⟩, 4) := ⟨⟨by decide +kernel, by decide +kernel⟩, List.mem_of_getElem? (i := 285) (by decide +kernel), List.mem_of_getElem? (i := 651) (by decide +kernel), List.mem_of_getElem? (i := 652) (by decide +kernel)⟩
theorem lw_p19 : lw_okq (⟨"IceForCoast$Odds", "heldNow", "(III)J"⟩, 4) := ⟨⟨by decide +kernel, by decide +kernel⟩, List.mem_of_getElem? (i := 285) (by decide +kernel), List.mem_of_getElem? (i := 657) (by decide +kernel), List.mem_of_getElem? (i := 658) (by decide +kernel)⟩
theorem lw_p20 : lw_okq (⟨"IceForCoast$Lines", "counts", "(III)Z"⟩, 4) := ⟨⟨by decide +kernel, by decide +kernel⟩, List.mem_of_getElem? (i := 209) (by decide +kernel), List.mem_of_getElem? (i := 686) (by decide +kernel), List.mem_of_getElem? (i := 687) (by decide +kernel)⟩
theorem lw_p21 : lw_okq (⟨"IceForCoastModel", "faultOf", "()I"⟩, 52) := ⟨⟨by decide +kernel, by decide +kernel⟩, List.mem_of_getElem? (i := 739) (by decide +kernel), List.mem_of_getElem? (i := 915) (by decide +kernel), List.mem_of_getElem? (i := 916) (by decide +kernel)⟩
theorem lw_p22 : lw_okq (⟨"IceForCoastModel", "go", "(I)Z"⟩, 52) := ⟨⟨by decide +kernel, by decide +kernel⟩, List.mem_of_getElem? (i := 739) (by decide +kernel), List.mem_of_getElem? (i := 919) (by decide +kernel), List.mem_of_getElem? (i := 920) (by decide +kernel)⟩
theorem lw_p23 : lw_okq (⟨"IceForCoastModel", "readAt", "()I"⟩, 52) := ⟨⟨by decide +kernel, by decide +kernel⟩, List.mem_of_getElem? (i := 739) (by decide +kernel), List.mem_of_getElem? (i := 926) (by decide +kernel), List.mem_of_getElem? (i := 927) (by decide +kernel)⟩
theorem lw_p24 : lw_okq (⟨"IceForCoastModel", "isSquare", "(I)Z"⟩, 52) := ⟨⟨by decide +kernel, by decide +kernel⟩, List.mem_of_getElem? (i := 739) (by decide +kernel), List.mem_of_getElem? (i := 943) (by decide +kernel), List.mem_of_getElem? (i := 944) (by decide +kernel)⟩
theorem lw_p25 : lw_okq (⟨"IceForCoastModel", "tellSquare", "(II)I"⟩, 52) := ⟨⟨by decide +kernel, by decide +kernel⟩, List.mem_of_getElem? (i := 739) (by decide +kernel), List.mem_of_getElem? (i := 947) (by decide +kernel), List.mem_of_getElem? (i := 948) (by decide +kernel)⟩
theorem lw_p26 : lw_okq (⟨"IceForCoastModel", "farOf", "(I)I"⟩, 52) := ⟨⟨by decide +kernel, by decide +kernel⟩, List.mem_of_getElem? (i := 739) (by decide +kernel), List.mem_of_getElem? (i := 951) (by decide +kernel), List.mem_of_getElem? (i := 952) (by decide +kernel)⟩
theorem lw_p27 : lw_okq (⟨"IceForCoastModel", "isBerg", "(I)Z"⟩, 52) := ⟨⟨by decide +kernel, by decide +kernel⟩, List.mem_of_getElem? (i := 739) (by decide +kernel), List.mem_of_getElem? (i := 972) (by decide +kernel), List.mem_of_getElem? (i := 973) (by decide +kernel)⟩
theorem lw_p28 : lw_okq (⟨"IceForCoastModel", "tellTow", "(IIZI)I"⟩, 52) := ⟨⟨by decide +kernel, by decide +kernel⟩, List.mem_of_getElem? (i := 739) (by decide +kernel), List.mem_of_getElem? (i := 999) (by decide +kernel), List.mem_of_getElem? (i := 1000) (by decide +kernel)⟩
theorem lw_p29 : lw_okq (⟨"IceForCoastModel", "ownSize", "(I)I"⟩, 52) := ⟨⟨by decide +kernel, by decide +kernel⟩, List.mem_of_getElem? (i := 739) (by decide +kernel), List.mem_of_getElem? (i := 1003) (by decide +kernel), List.mem_of_getElem? (i := 1004) (by decide +kernel)⟩
theorem lw_p30 : lw_okq (⟨"IceForCoastModel", "layWays", "(IIIZ)V"⟩, 52) := ⟨⟨by decide +kernel, by decide +kernel⟩, List.mem_of_getElem? (i := 739) (by decide +kernel), List.mem_of_getElem? (i := 1007) (by decide +kernel), List.mem_of_getElem? (i := 1008) (by decide +kernel)⟩
theorem lw_p31 : lw_okq (⟨"IceForCoastModel", "to", "(II)I"⟩, 52) := ⟨⟨by decide +kernel, by decide +kernel⟩, List.mem_of_getElem? (i := 739) (by decide +kernel), List.mem_of_getElem? (i := 1011) (by decide +kernel), List.mem_of_getElem? (i := 1012) (by decide +kernel)⟩
def lw_privs_2 : List (MethodName × Nat) := [(⟨"IceForCoast$Ledger", "gainBy", "(II)I"⟩, 4), (⟨"IceForCoast$Ledger", "fewestFor", "(II)I"⟩, 4), (⟨"IceForCoast$Odds", "letOffNow", "(II)J"⟩, 4), (⟨"IceForCoast$Odds", "heldNow", "(III)J"⟩, 4), (⟨"IceForCoast$Lines", "counts", "(III)Z"⟩, 4), (⟨"IceForCoastModel", "faultOf", "()I"⟩, 52), (⟨"IceForCoastModel", "go", "(I)Z"⟩, 52), (⟨"IceForCoastModel", "readAt", "()I"⟩, 52), (⟨"IceForCoastModel", "isSquare", "(I)Z"⟩, 52), (⟨"IceForCoastModel", "tellSquare", "(II)I"⟩, 52), (⟨"IceForCoastModel", "farOf", "(I)I"⟩, 52), (⟨"IceForCoastModel", "isBerg", "(I)Z"⟩, 52), (⟨"IceForCoastModel", "tellTow", "(IIZI)I"⟩, 52), (⟨"IceForCoastModel", "ownSize", "(I)I"⟩, 52), (⟨"IceForCoastModel", "layWays", "(IIIZ)V"⟩, 52), (⟨"IceForCoastModel", "to", "(II)I"⟩, 52)]
theorem lw_r2 : ∀ q ∈ lw_privs_2, lw_okq q := List.forall_mem_cons.mpr ⟨lw_p16, List.forall_mem_cons.mpr ⟨lw_p17, List.forall_mem_cons.mpr ⟨lw_p18, List.forall_mem_cons.mpr ⟨lw_p19, List.forall_mem_cons.mpr ⟨lw_p20, List.forall_mem_cons.mpr ⟨lw_p21, List.forall_mem_cons.mpr ⟨lw_p22, List.forall_mem_cons.mpr ⟨lw_p23, List.forall_mem_cons.mpr ⟨lw_p24, List.forall_mem_cons.mpr ⟨lw_p25, List.forall_mem_cons.mpr ⟨lw_p26, List.forall_mem_cons.mpr ⟨lw_p27, List.forall_mem_cons.mpr ⟨lw_p28, List.forall_mem_cons.mpr ⟨lw_p29, List.forall_mem_cons.mpr ⟨lw_p30, List.forall_mem_cons.mpr ⟨lw_p31, fun _ h => absurd h List.not_mem_nil⟩⟩⟩⟩⟩⟩⟩⟩⟩⟩⟩⟩⟩⟩⟩⟩
theorem lw_p32 : lw_okq (⟨"IceForCoastModel", "tryWay", "(IIIZI)V"⟩, 52) := ⟨⟨by decide +kernel, by decide +kernel⟩, List.mem_of_getElem? (i := 739) (by decide +kernel), List.mem_of_getElem? (i := 1015) (by decide +kernel), List.mem_of_getElem? (i := 1016) (by decide +kernel)⟩
theorem lw_p33 : lw_okq (⟨"IceForCoastModel", "begin", "(IIIZ)V"⟩, 52) := ⟨⟨by decide +kernel, by decide +kernel⟩, List.mem_of_getElem? (i := 739) (by decide +kernel), List.mem_of_getElem? (i := 1019) (by decide +kernel), List.mem_of_getElem? (i := 1020) (by decide +kernel)⟩
theorem lw_p34 : lw_okq (⟨"IceForCoastModel", "towAll", "(I)V"⟩, 52) := ⟨⟨by decide +kernel, by decide +kernel⟩, List.mem_of_getElem? (i := 739) (by decide +kernel), List.mem_of_getElem? (i := 1023) (by decide +kernel), List.mem_of_getElem? (i := 1024) (by decide +kernel)⟩
theorem lw_p35 : lw_okq (⟨"IceForCoastModel", "step", "(II)V"⟩, 52) := ⟨⟨by decide +kernel, by decide +kernel⟩, List.mem_of_getElem? (i := 739) (by decide +kernel), List.mem_of_getElem? (i := 1027) (by decide +kernel), List.mem_of_getElem? (i := 1028) (by decide +kernel)⟩
theorem lw_p36 : lw_okq (⟨"IceForCoastModel", "day", "(I)V"⟩, 52) := ⟨⟨by decide +kernel, by decide +kernel⟩, List.mem_of_getElem? (i := 739) (by decide +kernel), List.mem_of_getElem? (i := 1031) (by decide +kernel), List.mem_of_getElem? (i := 1032) (by decide +kernel)⟩
theorem lw_p37 : lw_okq (⟨"IceForCoastModel", "draw", "(I)I"⟩, 52) := ⟨⟨by decide +kernel, by decide +kernel⟩, List.mem_of_getElem? (i := 739) (by decide +kernel), List.mem_of_getElem? (i := 1035) (by decide +kernel), List.mem_of_getElem? (i := 1036) (by decide +kernel)⟩
theorem lw_p38 : lw_okq (⟨"IceForCoastModel", "waysOf", "(I)I"⟩, 52) := ⟨⟨by decide +kernel, by decide +kernel⟩, List.mem_of_getElem? (i := 739) (by decide +kernel), List.mem_of_getElem? (i := 1049) (by decide +kernel), List.mem_of_getElem? (i := 1050) (by decide +kernel)⟩
theorem lw_p39 : lw_okq (⟨"IceForCoastModel", "tellBest", "(II)I"⟩, 52) := ⟨⟨by decide +kernel, by decide +kernel⟩, List.mem_of_getElem? (i := 739) (by decide +kernel), List.mem_of_getElem? (i := 1057) (by decide +kernel), List.mem_of_getElem? (i := 1058) (by decide +kernel)⟩
theorem lw_p40 : lw_okq (⟨"IceForCoastModel", "lacks", "()Z"⟩, 52) := ⟨⟨by decide +kernel, by decide +kernel⟩, List.mem_of_getElem? (i := 739) (by decide +kernel), List.mem_of_getElem? (i := 1066) (by decide +kernel), List.mem_of_getElem? (i := 1067) (by decide +kernel)⟩
theorem lw_p41 : lw_okq (⟨"IceForCoastModel", "seasonOf", "(II)I"⟩, 52) := ⟨⟨by decide +kernel, by decide +kernel⟩, List.mem_of_getElem? (i := 739) (by decide +kernel), List.mem_of_getElem? (i := 1071) (by decide +kernel), List.mem_of_getElem? (i := 1072) (by decide +kernel)⟩
theorem lw_p42 : lw_okq (⟨"IceForCoastModel", "countOf", "(I)I"⟩, 52) := ⟨⟨by decide +kernel, by decide +kernel⟩, List.mem_of_getElem? (i := 739) (by decide +kernel), List.mem_of_getElem? (i := 1118) (by decide +kernel), List.mem_of_getElem? (i := 1119) (by decide +kernel)⟩
theorem lw_p43 : lw_okq (⟨"IceForCoastModel", "say", "(J)V"⟩, 52) := ⟨⟨by decide +kernel, by decide +kernel⟩, List.mem_of_getElem? (i := 739) (by decide +kernel), List.mem_of_getElem? (i := 1127) (by decide +kernel), List.mem_of_getElem? (i := 1128) (by decide +kernel)⟩
theorem lw_p44 : lw_okq (⟨"IceForCoastModel", "sayBerg", "(I)V"⟩, 52) := ⟨⟨by decide +kernel, by decide +kernel⟩, List.mem_of_getElem? (i := 739) (by decide +kernel), List.mem_of_getElem? (i := 1132) (by decide +kernel), List.mem_of_getElem? (i := 1133) (by decide +kernel)⟩
def lw_privs_3 : List (MethodName × Nat) := [(⟨"IceForCoastModel", "tryWay", "(IIIZI)V"⟩, 52), (⟨"IceForCoastModel", "begin", "(IIIZ)V"⟩, 52), (⟨"IceForCoastModel", "towAll", "(I)V"⟩, 52), (⟨"IceForCoastModel", "step", "(II)V"⟩, 52), (⟨"IceForCoastModel", "day", "(I)V"⟩, 52), (⟨"IceForCoastModel", "draw", "(I)I"⟩, 52), (⟨"IceForCoastModel", "waysOf", "(I)I"⟩, 52), (⟨"IceForCoastModel", "tellBest", "(II)I"⟩, 52), (⟨"IceForCoastModel", "lacks", "()Z"⟩, 52), (⟨"IceForCoastModel", "seasonOf", "(II)I"⟩, 52), (⟨"IceForCoastModel", "countOf", "(I)I"⟩, 52), (⟨"IceForCoastModel", "say", "(J)V"⟩, 52), (⟨"IceForCoastModel", "sayBerg", "(I)V"⟩, 52)]
theorem lw_r3 : ∀ q ∈ lw_privs_3, lw_okq q := List.forall_mem_cons.mpr ⟨lw_p32, List.forall_mem_cons.mpr ⟨lw_p33, List.forall_mem_cons.mpr ⟨lw_p34, List.forall_mem_cons.mpr ⟨lw_p35, List.forall_mem_cons.mpr ⟨lw_p36, List.forall_mem_cons.mpr ⟨lw_p37, List.forall_mem_cons.mpr ⟨lw_p38, List.forall_mem_cons.mpr ⟨lw_p39, List.forall_mem_cons.mpr ⟨lw_p40, List.forall_mem_cons.mpr ⟨lw_p41, List.forall_mem_cons.mpr ⟨lw_p42, List.forall_mem_cons.mpr ⟨lw_p43, List.forall_mem_cons.mpr ⟨lw_p44, fun _ h => absurd h List.not_mem_nil⟩⟩⟩⟩⟩⟩⟩⟩⟩⟩⟩⟩⟩
def lw_privs : List (MethodName × Nat) := lw_privs_1 ++ (lw_privs_2 ++ (lw_privs_3))
def lw_tbl : List Cond := k2_sels lw_privs ++ tables_1
theorem lw_privs_ok : ∀ q ∈ lw_privs, lw_okq q := by
  show ∀ q ∈ lw_privs_1 ++ (lw_privs_2 ++ (lw_privs_3)), lw_okq q
  exact List.forall_mem_append.mpr ⟨lw_r1, List.forall_mem_append.mpr ⟨lw_r2, lw_r3⟩⟩
/-! ===== BEGIN printed: names, fields, word lists, decode rows ===== -/
def RX0 : String := "IceForCoast$Berg"
def TX0 : u_T := fun k => match k with
  | 0 => ("IceForCoast$Berg", "kind", "I", false)
  | 1 => ("IceForCoast$Berg", "square", "I", false)
  | 2 => ("IceForCoast$Berg", "size", "I", false)
  | 3 => ("IceForCoast$Berg", "foot", "I", false)
  | 4 => ("IceForCoast$Berg", "n", "I", false)
  | _ => ("IceForCoast$Berg", "flat", "Z", false)
def tyX0 : Nat → FieldType := fun k => match k with
  | 0 => .int
  | 1 => .int
  | 2 => .int
  | 3 => .int
  | 4 => .int
  | _ => .boolean
abbrev wsX00 : List Cond := u_ws RX0 TX0 6
theorem nmX0 : ∀ a, a < 6 → ∀ b, b < 6 → a ≠ b → (TX0 a).2.1 ≠ (TX0 b).2.1 := by decide +kernel
theorem tyX0_ok : ∀ k, k < 6 → parseFieldDescriptor (TX0 k).2.2.1 = some (tyX0 k) := by decide +kernel
abbrev cX0_init : ByteArray := prog_2_method_1_code
def yX0_init : MethodName := ⟨RX0, "<init>", "()V"⟩
abbrev cX0_isKind : ByteArray := prog_2_method_2_code
def yX0_isKind : MethodName := ⟨RX0, "isKind", "(I)Z"⟩
abbrev cX0_mayBreak : ByteArray := prog_2_method_3_code
def yX0_mayBreak : MethodName := ⟨RX0, "mayBreak", "(II)Z"⟩
abbrev cX0_become : ByteArray := prog_2_method_4_code
def yX0_become : MethodName := ⟨RX0, "become", "(IIIII)V"⟩
abbrev cX0_isA : ByteArray := prog_2_method_5_code
def yX0_isA : MethodName := ⟨RX0, "isA", "(I)Z"⟩
abbrev cX0_meltOf : ByteArray := prog_2_method_6_code
def yX0_meltOf : MethodName := ⟨RX0, "meltOf", "(II)I"⟩
abbrev cX0_breaksOn : ByteArray := prog_2_method_7_code
def yX0_breaksOn : MethodName := ⟨RX0, "breaksOn", "(I)Z"⟩
def RX1 : String := "IceForCoast$Coins"
def TX1 : u_T := fun k => match k with
  | _ => ("IceForCoast$Coins", "value", "[I", true)
def tyX1 : Nat → FieldType := fun k => match k with
  | _ => .array .int
abbrev wsX10 : List Cond := u_ws RX1 TX1 1
theorem nmX1 : ∀ a, a < 1 → ∀ b, b < 1 → a ≠ b → (TX1 a).2.1 ≠ (TX1 b).2.1 := by decide +kernel
theorem tyX1_ok : ∀ k, k < 1 → parseFieldDescriptor (TX1 k).2.2.1 = some (tyX1 k) := by decide +kernel
abbrev cX1_init : ByteArray := prog_3_method_1_code
def yX1_init : MethodName := ⟨RX1, "<init>", "()V"⟩
abbrev cX1_mayBe : ByteArray := prog_3_method_2_code
def yX1_mayBe : MethodName := ⟨RX1, "mayBe", "(II)Z"⟩
abbrev cX1_put : ByteArray := prog_3_method_3_code
def yX1_put : MethodName := ⟨RX1, "put", "(II)I"⟩
abbrev cX1_copy : ByteArray := prog_3_method_4_code
def yX1_copy : MethodName := ⟨RX1, "copy", "(LIceForCoast$Coins;)V"⟩
abbrev cX1_gainOf : ByteArray := prog_3_method_5_code
def yX1_gainOf : MethodName := ⟨RX1, "gainOf", "(IIIZ)I"⟩
def RX2 : String := "IceForCoast$Image"
def TX2 : u_T := fun k => match k with
  | 0 => ("IceForCoast$Image", "sizes", "[I", true)
  | 1 => ("IceForCoast$Image", "feet", "[I", true)
  | 2 => ("IceForCoast$Image", "coins", "LIceForCoast$Coins;", true)
  | 3 => ("IceForCoast$Image", "bergCount", "I", false)
  | 4 => ("IceForCoast$Image", "lineCount", "I", false)
  | _ => ("IceForCoast$Image", "seaNumber", "I", false)
def tyX2 : Nat → FieldType := fun k => match k with
  | 0 => .array .int
  | 1 => .array .int
  | 2 => .object "IceForCoast$Coins"
  | 3 => .int
  | 4 => .int
  | _ => .int
abbrev wsX20 : List Cond := u_ws RX2 TX2 6
theorem nmX2 : ∀ a, a < 6 → ∀ b, b < 6 → a ≠ b → (TX2 a).2.1 ≠ (TX2 b).2.1 := by decide +kernel
theorem tyX2_ok : ∀ k, k < 6 → parseFieldDescriptor (TX2 k).2.2.1 = some (tyX2 k) := by decide +kernel
abbrev cX2_init : ByteArray := prog_4_method_1_code
def yX2_init : MethodName := ⟨RX2, "<init>", "()V"⟩
abbrev cX2_keep : ByteArray := prog_4_method_2_code
def yX2_keep : MethodName := ⟨RX2, "keep", "([LIceForCoast$Berg;ILIceForCoast$Coins;)V"⟩
abbrev cX2_giveBack : ByteArray := prog_4_method_3_code
def yX2_giveBack : MethodName := ⟨RX2, "giveBack", "([LIceForCoast$Berg;LIceForCoast$Coins;)V"⟩
def RX3 : String := "IceForCoast$Ledger"
def TX3 : u_T := fun k => match k with
  | 0 => ("IceForCoast$Ledger", "gains", "[[I", true)
  | 1 => ("IceForCoast$Ledger", "known", "[Z", true)
  | 2 => ("IceForCoast$Ledger", "towable", "[Z", true)
  | _ => ("IceForCoast$Ledger", "most", "[[I", true)
def tyX3 : Nat → FieldType := fun k => match k with
  | 0 => .array (.array .int)
  | 1 => .array .boolean
  | 2 => .array .boolean
  | _ => .array (.array .int)
abbrev wsX30 : List Cond := u_ws RX3 TX3 4
theorem nmX3 : ∀ a, a < 4 → ∀ b, b < 4 → a ≠ b → (TX3 a).2.1 ≠ (TX3 b).2.1 := by decide +kernel
theorem tyX3_ok : ∀ k, k < 4 → parseFieldDescriptor (TX3 k).2.2.1 = some (tyX3 k) := by decide +kernel
abbrev cX3_init : ByteArray := prog_5_method_1_code
def yX3_init : MethodName := ⟨RX3, "<init>", "()V"⟩
abbrev cX3_tugsOf : ByteArray := prog_5_method_2_code
def yX3_tugsOf : MethodName := ⟨RX3, "tugsOf", "(I)I"⟩
abbrev cX3_hasSkirt : ByteArray := prog_5_method_3_code
def yX3_hasSkirt : MethodName := ⟨RX3, "hasSkirt", "(I)Z"⟩
abbrev cX3_forget : ByteArray := prog_5_method_4_code
def yX3_forget : MethodName := ⟨RX3, "forget", "(I)V"⟩
abbrev cX3_forgetAll : ByteArray := prog_5_method_5_code
def yX3_forgetAll : MethodName := ⟨RX3, "forgetAll", "()V"⟩
abbrev cX3_bestEntry : ByteArray := prog_5_method_6_code
def yX3_bestEntry : MethodName := ⟨RX3, "bestEntry", "(I)I"⟩
abbrev cX3_deal : ByteArray := prog_5_method_7_code
def yX3_deal : MethodName := ⟨RX3, "deal", "(I)V"⟩
abbrev cX3_mostFrom : ByteArray := prog_5_method_8_code
def yX3_mostFrom : MethodName := ⟨RX3, "mostFrom", "(II)I"⟩
abbrev cX3_gainBy : ByteArray := prog_5_method_9_code
def yX3_gainBy : MethodName := ⟨RX3, "gainBy", "(II)I"⟩
abbrev cX3_tugsFor : ByteArray := prog_5_method_10_code
def yX3_tugsFor : MethodName := ⟨RX3, "tugsFor", "(II)I"⟩
abbrev cX3_fewestFor : ByteArray := prog_5_method_11_code
def yX3_fewestFor : MethodName := ⟨RX3, "fewestFor", "(II)I"⟩
def RX4 : String := "IceForCoast$Lines"
def TX4 : u_T := fun k => match k with
  | 0 => ("IceForCoast$Lines", "house", "[I", true)
  | 1 => ("IceForCoast$Lines", "berg", "[I", true)
  | 2 => ("IceForCoast$Lines", "day", "[I", true)
  | _ => ("IceForCoast$Lines", "length", "I", false)
def tyX4 : Nat → FieldType := fun k => match k with
  | 0 => .array .int
  | 1 => .array .int
  | 2 => .array .int
  | _ => .int
abbrev wsX40 : List Cond := u_ws RX4 TX4 4
theorem nmX4 : ∀ a, a < 4 → ∀ b, b < 4 → a ≠ b → (TX4 a).2.1 ≠ (TX4 b).2.1 := by decide +kernel
theorem tyX4_ok : ∀ k, k < 4 → parseFieldDescriptor (TX4 k).2.2.1 = some (tyX4 k) := by decide +kernel
abbrev cX4_init : ByteArray := prog_6_method_1_code
def yX4_init : MethodName := ⟨RX4, "<init>", "()V"⟩
abbrev cX4_add : ByteArray := prog_6_method_2_code
def yX4_add : MethodName := ⟨RX4, "add", "(III)Z"⟩
abbrev cX4_cutTo : ByteArray := prog_6_method_3_code
def yX4_cutTo : MethodName := ⟨RX4, "cutTo", "(I)V"⟩
abbrev cX4_counts : ByteArray := prog_6_method_4_code
def yX4_counts : MethodName := ⟨RX4, "counts", "(III)Z"⟩
abbrev cX4_allIfFirst : ByteArray := prog_6_method_5_code
def yX4_allIfFirst : MethodName := ⟨RX4, "allIfFirst", "(III)I"⟩
abbrev cX4_sharesOf : ByteArray := prog_6_method_6_code
def yX4_sharesOf : MethodName := ⟨RX4, "sharesOf", "(IIIZ)I"⟩
abbrev cX4_sharesOfAll : ByteArray := prog_6_method_7_code
def yX4_sharesOfAll : MethodName := ⟨RX4, "sharesOfAll", "(IIZ)I"⟩
def RX5 : String := "IceForCoast$Odds"
def TX5 : u_T := fun k => match k with
  | 0 => ("IceForCoast$Odds", "water", "[J", true)
  | 1 => ("IceForCoast$Odds", "above", "J", false)
  | 2 => ("IceForCoast$Odds", "below", "J", false)
  | _ => ("IceForCoast$Odds", "letsOff", "Z", false)
def tyX5 : Nat → FieldType := fun k => match k with
  | 0 => .array .long
  | 1 => .long
  | 2 => .long
  | _ => .boolean
abbrev wsX50 : List Cond := u_ws RX5 TX5 4
theorem nmX5 : ∀ a, a < 4 → ∀ b, b < 4 → a ≠ b → (TX5 a).2.1 ≠ (TX5 b).2.1 := by decide +kernel
theorem tyX5_ok : ∀ k, k < 4 → parseFieldDescriptor (TX5 k).2.2.1 = some (tyX5 k) := by decide +kernel
abbrev cX5_init : ByteArray := prog_7_method_1_code
def yX5_init : MethodName := ⟨RX5, "<init>", "()V"⟩
abbrev cX5_reckon : ByteArray := prog_7_method_2_code
def yX5_reckon : MethodName := ⟨RX5, "reckon", "(IIII)V"⟩
abbrev cX5_letOffNow : ByteArray := prog_7_method_3_code
def yX5_letOffNow : MethodName := ⟨RX5, "letOffNow", "(II)J"⟩
abbrev cX5_heldNow : ByteArray := prog_7_method_4_code
def yX5_heldNow : MethodName := ⟨RX5, "heldNow", "(III)J"⟩
def RX6 : String := "IceForCoast$Page"
def TX6 : u_T := fun k => match k with
  | 0 => ("IceForCoast$Page", "codes", "[I", true)
  | 1 => ("IceForCoast$Page", "length", "I", false)
  | 2 => ("IceForCoast$Page", "row", "I", false)
  | 3 => ("IceForCoast$Page", "inRow", "I", false)
  | 4 => ("IceForCoast$Page", "width", "I", false)
  | 5 => ("IceForCoast$Page", "harbours", "I", false)
  | _ => ("IceForCoast$Page", "currentMayCome", "Z", false)
def tyX6 : Nat → FieldType := fun k => match k with
  | 0 => .array .int
  | 1 => .int
  | 2 => .int
  | 3 => .int
  | 4 => .int
  | 5 => .int
  | _ => .boolean
abbrev wsX60 : List Cond := u_ws RX6 TX6 7
theorem nmX6 : ∀ a, a < 7 → ∀ b, b < 7 → a ≠ b → (TX6 a).2.1 ≠ (TX6 b).2.1 := by decide +kernel
theorem tyX6_ok : ∀ k, k < 7 → parseFieldDescriptor (TX6 k).2.2.1 = some (tyX6 k) := by decide +kernel
abbrev cX6_init : ByteArray := prog_8_method_1_code
def yX6_init : MethodName := ⟨RX6, "<init>", "()V"⟩
abbrev cX6_append : ByteArray := prog_8_method_2_code
def yX6_append : MethodName := ⟨RX6, "append", "(J)I"⟩
abbrev cX6_byteOf : ByteArray := prog_8_method_3_code
def yX6_byteOf : MethodName := ⟨RX6, "byteOf", "(JI)I"⟩
abbrev cX6_clear : ByteArray := prog_8_method_4_code
def yX6_clear : MethodName := ⟨RX6, "clear", "()I"⟩
abbrev cX6_codeAt : ByteArray := prog_8_method_5_code
def yX6_codeAt : MethodName := ⟨RX6, "codeAt", "(I)I"⟩
abbrev cX6_firstWrong : ByteArray := prog_8_method_6_code
def yX6_firstWrong : MethodName := ⟨RX6, "firstWrong", "()I"⟩
abbrev cX6_isSea : ByteArray := prog_8_method_7_code
def yX6_isSea : MethodName := ⟨RX6, "isSea", "()Z"⟩
abbrev cX6_takes : ByteArray := prog_8_method_8_code
def yX6_takes : MethodName := ⟨RX6, "takes", "(I)Z"⟩
abbrev cX6_takesRowEnd : ByteArray := prog_8_method_9_code
def yX6_takesRowEnd : MethodName := ⟨RX6, "takesRowEnd", "()Z"⟩
abbrev cX6_takesSquare : ByteArray := prog_8_method_10_code
def yX6_takesSquare : MethodName := ⟨RX6, "takesSquare", "(I)Z"⟩
def RX7 : String := "IceForCoast$Sea"
def TX7 : u_T := fun k => match k with
  | 0 => ("IceForCoast$Sea", "warmth", "[I", true)
  | 1 => ("IceForCoast$Sea", "current", "[I", true)
  | 2 => ("IceForCoast$Sea", "far", "[I", true)
  | 3 => ("IceForCoast$Sea", "waysFrom", "[I", true)
  | 4 => ("IceForCoast$Sea", "next", "[[I", true)
  | 5 => ("IceForCoast$Sea", "squares", "I", false)
  | 6 => ("IceForCoast$Sea", "width", "I", false)
  | _ => ("IceForCoast$Sea", "harbour", "I", false)
def tyX7 : Nat → FieldType := fun k => match k with
  | 0 => .array .int
  | 1 => .array .int
  | 2 => .array .int
  | 3 => .array .int
  | 4 => .array (.array .int)
  | 5 => .int
  | 6 => .int
  | _ => .int
abbrev wsX70 : List Cond := u_ws RX7 TX7 8
theorem nmX7 : ∀ a, a < 8 → ∀ b, b < 8 → a ≠ b → (TX7 a).2.1 ≠ (TX7 b).2.1 := by decide +kernel
theorem tyX7_ok : ∀ k, k < 8 → parseFieldDescriptor (TX7 k).2.2.1 = some (tyX7 k) := by decide +kernel
abbrev cX7_init : ByteArray := prog_9_method_1_code
def yX7_init : MethodName := ⟨RX7, "<init>", "()V"⟩
abbrev cX7_wayOf : ByteArray := prog_9_method_2_code
def yX7_wayOf : MethodName := ⟨RX7, "wayOf", "(I)I"⟩
abbrev cX7_has : ByteArray := prog_9_method_3_code
def yX7_has : MethodName := ⟨RX7, "has", "(I)Z"⟩
abbrev cX7_hasWarmth : ByteArray := prog_9_method_4_code
def yX7_hasWarmth : MethodName := ⟨RX7, "hasWarmth", "(I)Z"⟩
abbrev cX7_lay : ByteArray := prog_9_method_5_code
def yX7_lay : MethodName := ⟨RX7, "lay", "(LIceForCoast$Page;)V"⟩
abbrev cX7_layLetter : ByteArray := prog_9_method_6_code
def yX7_layLetter : MethodName := ⟨RX7, "layLetter", "(I)V"⟩
abbrev cX7_measure : ByteArray := prog_9_method_7_code
def yX7_measure : MethodName := ⟨RX7, "measure", "()V"⟩
abbrev cX7_openWays : ByteArray := prog_9_method_8_code
def yX7_openWays : MethodName := ⟨RX7, "openWays", "(I)V"⟩
abbrev cX7_beside : ByteArray := prog_9_method_9_code
def yX7_beside : MethodName := ⟨RX7, "beside", "(II)I"⟩
def RX8 : String := "IceForCoast$Tow"
def TX8 : u_T := fun k => match k with
  | 0 => ("IceForCoast$Tow", "sea", "LIceForCoast$Sea;", true)
  | 1 => ("IceForCoast$Tow", "coins", "LIceForCoast$Coins;", true)
  | 2 => ("IceForCoast$Tow", "sizeAt", "[I", true)
  | 3 => ("IceForCoast$Tow", "footAt", "[I", true)
  | 4 => ("IceForCoast$Tow", "dayAt", "[I", true)
  | 5 => ("IceForCoast$Tow", "trial", "[I", true)
  | 6 => ("IceForCoast$Tow", "chosen", "[I", true)
  | 7 => ("IceForCoast$Tow", "berg", "LIceForCoast$Berg;", false)
  | 8 => ("IceForCoast$Tow", "tugs", "I", false)
  | 9 => ("IceForCoast$Tow", "skirt", "Z", false)
  | 10 => ("IceForCoast$Tow", "found", "Z", false)
  | 11 => ("IceForCoast$Tow", "water", "I", false)
  | 12 => ("IceForCoast$Tow", "days", "I", false)
  | 13 => ("IceForCoast$Tow", "gain", "I", false)
  | 14 => ("IceForCoast$Tow", "steps", "I", false)
  | 15 => ("IceForCoast$Tow", "drawing", "Z", false)
  | _ => ("IceForCoast$Tow", "seed", "J", false)
def tyX8 : Nat → FieldType := fun k => match k with
  | 0 => .object "IceForCoast$Sea"
  | 1 => .object "IceForCoast$Coins"
  | 2 => .array .int
  | 3 => .array .int
  | 4 => .array .int
  | 5 => .array .int
  | 6 => .array .int
  | 7 => .object "IceForCoast$Berg"
  | 8 => .int
  | 9 => .boolean
  | 10 => .boolean
  | 11 => .int
  | 12 => .int
  | 13 => .int
  | 14 => .int
  | 15 => .boolean
  | _ => .long
abbrev wsX80 : List Cond := u_ws RX8 TX8 17
theorem nmX8 : ∀ a, a < 17 → ∀ b, b < 17 → a ≠ b → (TX8 a).2.1 ≠ (TX8 b).2.1 := by decide +kernel
theorem tyX8_ok : ∀ k, k < 17 → parseFieldDescriptor (TX8 k).2.2.1 = some (tyX8 k) := by decide +kernel
abbrev cX8_init : ByteArray := prog_10_method_1_code
def yX8_init : MethodName := ⟨RX8, "<init>", "()V"⟩
abbrev cX8_seek : ByteArray := prog_10_method_2_code
def yX8_seek : MethodName := ⟨RX8, "seek", "(LIceForCoast$Berg;IIZ)V"⟩
abbrev cX8_towAgain : ByteArray := prog_10_method_3_code
def yX8_towAgain : MethodName := ⟨RX8, "towAgain", "(I)V"⟩
abbrev cX8_stepAt : ByteArray := prog_10_method_4_code
def yX8_stepAt : MethodName := ⟨RX8, "stepAt", "(I)I"⟩
abbrev cX8_follow : ByteArray := prog_10_method_5_code
def yX8_follow : MethodName := ⟨RX8, "follow", "(LIceForCoast$Tow;II)V"⟩
abbrev cX8_isHopeless : ByteArray := prog_10_method_6_code
def yX8_isHopeless : MethodName := ⟨RX8, "isHopeless", "(I)Z"⟩
abbrev cX8_choose : ByteArray := prog_10_method_7_code
def yX8_choose : MethodName := ⟨RX8, "choose", "(I)V"⟩
abbrev cX8_pass : ByteArray := prog_10_method_8_code
def yX8_pass : MethodName := ⟨RX8, "pass", "(III)V"⟩
abbrev cX8_daysOfStep : ByteArray := prog_10_method_9_code
def yX8_daysOfStep : MethodName := ⟨RX8, "daysOfStep", "(III)I"⟩
abbrev cX8_drawnWarmth : ByteArray := prog_10_method_10_code
def yX8_drawnWarmth : MethodName := ⟨RX8, "drawnWarmth", "(I)I"⟩
def RX9 : String := "IceForCoast"
def TX9 : u_T := fun k => match k with
  | 0 => ("IceForCoast", "thePage", "LIceForCoast$Page;", true)
  | 1 => ("IceForCoast", "theTow", "LIceForCoast$Tow;", true)
  | 2 => ("IceForCoast", "theSea", "LIceForCoast$Sea;", true)
  | 3 => ("IceForCoast", "coins", "LIceForCoast$Coins;", true)
  | 4 => ("IceForCoast", "bergs", "[LIceForCoast$Berg;", true)
  | 5 => ("IceForCoast", "lines", "LIceForCoast$Lines;", true)
  | 6 => ("IceForCoast", "kept", "LIceForCoast$Image;", true)
  | 7 => ("IceForCoast", "ledger", "LIceForCoast$Ledger;", true)
  | 8 => ("IceForCoast", "theOdds", "LIceForCoast$Odds;", true)
  | 9 => ("IceForCoast", "bergCount", "I", false)
  | 10 => ("IceForCoast", "seasRead", "I", false)
  | _ => ("IceForCoast", "cameDone", "I", false)
def tyX9 : Nat → FieldType := fun k => match k with
  | 0 => .object "IceForCoast$Page"
  | 1 => .object "IceForCoast$Tow"
  | 2 => .object "IceForCoast$Sea"
  | 3 => .object "IceForCoast$Coins"
  | 4 => .array (.object "IceForCoast$Berg")
  | 5 => .object "IceForCoast$Lines"
  | 6 => .object "IceForCoast$Image"
  | 7 => .object "IceForCoast$Ledger"
  | 8 => .object "IceForCoast$Odds"
  | 9 => .int
  | 10 => .int
  | _ => .int
abbrev wsX90 : List Cond := u_ws RX9 TX9 12
theorem nmX9 : ∀ a, a < 12 → ∀ b, b < 12 → a ≠ b → (TX9 a).2.1 ≠ (TX9 b).2.1 := by decide +kernel
theorem tyX9_ok : ∀ k, k < 12 → parseFieldDescriptor (TX9 k).2.2.1 = some (tyX9 k) := by decide +kernel
abbrev cX9_init : ByteArray := prog_1_method_1_code
def yX9_init : MethodName := ⟨RX9, "<init>", "()V"⟩
abbrev cX9_letters : ByteArray := prog_1_method_2_code
def yX9_letters : MethodName := ⟨RX9, "letters", "(J)I"⟩
abbrev cX9_blank : ByteArray := prog_1_method_3_code
def yX9_blank : MethodName := ⟨RX9, "blank", "()I"⟩
abbrev cX9_fault : ByteArray := prog_1_method_4_code
def yX9_fault : MethodName := ⟨RX9, "fault", "()I"⟩
abbrev cX9_sea : ByteArray := prog_1_method_5_code
def yX9_sea : MethodName := ⟨RX9, "sea", "()I"⟩
abbrev cX9_square : ByteArray := prog_1_method_6_code
def yX9_square : MethodName := ⟨RX9, "square", "(II)I"⟩
abbrev cX9_berg : ByteArray := prog_1_method_7_code
def yX9_berg : MethodName := ⟨RX9, "berg", "(IIIII)I"⟩
abbrev cX9_as : ByteArray := prog_1_method_8_code
def yX9_as : MethodName := ⟨RX9, "as", "(II)I"⟩
abbrev cX9_about : ByteArray := prog_1_method_9_code
def yX9_about : MethodName := ⟨RX9, "about", "(II)I"⟩
abbrev cX9_change : ByteArray := prog_1_method_10_code
def yX9_change : MethodName := ⟨RX9, "change", "(III)I"⟩
abbrev cX9_coin : ByteArray := prog_1_method_11_code
def yX9_coin : MethodName := ⟨RX9, "coin", "(II)I"⟩
abbrev cX9_tow : ByteArray := prog_1_method_12_code
def yX9_tow : MethodName := ⟨RX9, "tow", "(IIZI)I"⟩
abbrev cX9_ways : ByteArray := prog_1_method_13_code
def yX9_ways : MethodName := ⟨RX9, "ways", "(I)I"⟩
abbrev cX9_best : ByteArray := prog_1_method_14_code
def yX9_best : MethodName := ⟨RX9, "best", "(II)I"⟩
abbrev cX9_season : ByteArray := prog_1_method_15_code
def yX9_season : MethodName := ⟨RX9, "season", "(II)I"⟩
abbrev cX9_more : ByteArray := prog_1_method_16_code
def yX9_more : MethodName := ⟨RX9, "more", "(I)I"⟩
abbrev cX9_drawn : ByteArray := prog_1_method_17_code
def yX9_drawn : MethodName := ⟨RX9, "drawn", "(IIZII)I"⟩
abbrev cX9_came : ByteArray := prog_1_method_18_code
def yX9_came : MethodName := ⟨RX9, "came", "(IIZII)I"⟩
abbrev cX9_letOff : ByteArray := prog_1_method_19_code
def yX9_letOff : MethodName := ⟨RX9, "letOff", "(IIIII)J"⟩
abbrev cX9_line : ByteArray := prog_1_method_20_code
def yX9_line : MethodName := ⟨RX9, "line", "(III)I"⟩
abbrev cX9_claims : ByteArray := prog_1_method_21_code
def yX9_claims : MethodName := ⟨RX9, "claims", "(IIIII)I"⟩
abbrev cX9_image : ByteArray := prog_1_method_22_code
def yX9_image : MethodName := ⟨RX9, "image", "()I"⟩
abbrev cX9_restore : ByteArray := prog_1_method_23_code
def yX9_restore : MethodName := ⟨RX9, "restore", "()I"⟩
abbrev cX9_count : ByteArray := prog_1_method_24_code
def yX9_count : MethodName := ⟨RX9, "count", "(I)I"⟩
abbrev cX9_digest : ByteArray := prog_1_method_25_code
def yX9_digest : MethodName := ⟨RX9, "digest", "()J"⟩
abbrev cX9_isBerg : ByteArray := prog_1_method_26_code
def yX9_isBerg : MethodName := ⟨RX9, "isBerg", "(I)Z"⟩
abbrev cX9_hasWay : ByteArray := prog_1_method_27_code
def yX9_hasWay : MethodName := ⟨RX9, "hasWay", "(I)Z"⟩
abbrev cX9_isTugs : ByteArray := prog_1_method_28_code
def yX9_isTugs : MethodName := ⟨RX9, "isTugs", "(I)Z"⟩
abbrev cX9_isHouse : ByteArray := prog_1_method_29_code
def yX9_isHouse : MethodName := ⟨RX9, "isHouse", "(I)Z"⟩
abbrev cX9_isSize : ByteArray := prog_1_method_30_code
def yX9_isSize : MethodName := ⟨RX9, "isSize", "(I)Z"⟩
abbrev cX9_isFoot : ByteArray := prog_1_method_31_code
def yX9_isFoot : MethodName := ⟨RX9, "isFoot", "(I)Z"⟩
abbrev cX9_weigh : ByteArray := prog_1_method_32_code
def yX9_weigh : MethodName := ⟨RX9, "weigh", "(I)V"⟩
abbrev cX9_commonDivisor : ByteArray := prog_1_method_33_code
def yX9_commonDivisor : MethodName := ⟨RX9, "commonDivisor", "(JJ)J"⟩
def RX10 : String := "IceForCoastModel"
def TX10 : u_T := fun k => match k with
  | 0 => ("IceForCoastModel", "page", "[I", true)
  | 1 => ("IceForCoastModel", "pageMany", "I", false)
  | 2 => ("IceForCoastModel", "readRows", "I", false)
  | 3 => ("IceForCoastModel", "readWide", "I", false)
  | 4 => ("IceForCoastModel", "readMany", "I", false)
  | 5 => ("IceForCoastModel", "readHarbour", "I", false)
  | 6 => ("IceForCoastModel", "mayFlow", "Z", false)
  | 7 => ("IceForCoastModel", "readWarm", "[I", true)
  | 8 => ("IceForCoastModel", "readFlow", "[I", true)
  | 9 => ("IceForCoastModel", "rows", "I", false)
  | 10 => ("IceForCoastModel", "wide", "I", false)
  | 11 => ("IceForCoastModel", "harbour", "I", false)
  | 12 => ("IceForCoastModel", "seasRead", "I", false)
  | 13 => ("IceForCoastModel", "warm", "[I", true)
  | 14 => ("IceForCoastModel", "flow", "[I", true)
  | 15 => ("IceForCoastModel", "bergs", "I", false)
  | 16 => ("IceForCoastModel", "bergRows", "[I", true)
  | 17 => ("IceForCoastModel", "price", "I", false)
  | 18 => ("IceForCoastModel", "wage", "I", false)
  | 19 => ("IceForCoastModel", "cloth", "I", false)
  | 20 => ("IceForCoastModel", "lines", "I", false)
  | 21 => ("IceForCoastModel", "lineRows", "[I", true)
  | 22 => ("IceForCoastModel", "kindNow", "I", false)
  | 23 => ("IceForCoastModel", "sizeNow", "I", false)
  | 24 => ("IceForCoastModel", "footNow", "I", false)
  | 25 => ("IceForCoastModel", "everyNow", "I", false)
  | 26 => ("IceForCoastModel", "daysNow", "I", false)
  | 27 => ("IceForCoastModel", "hasSkirt", "Z", false)
  | 28 => ("IceForCoastModel", "tugsNow", "I", false)
  | 29 => ("IceForCoastModel", "seedNow", "I", false)
  | 30 => ("IceForCoastModel", "way", "[I", true)
  | 31 => ("IceForCoastModel", "places", "[I", true)
  | 32 => ("IceForCoastModel", "bestWay", "[I", true)
  | 33 => ("IceForCoastModel", "bestSteps", "I", false)
  | 34 => ("IceForCoastModel", "bestWater", "I", false)
  | 35 => ("IceForCoastModel", "bestDays", "I", false)
  | 36 => ("IceForCoastModel", "bestGain", "I", false)
  | 37 => ("IceForCoastModel", "wayMany", "I", false)
  | 38 => ("IceForCoastModel", "gains", "[I", true)
  | 39 => ("IceForCoastModel", "most", "[I", true)
  | 40 => ("IceForCoastModel", "done", "I", false)
  | 41 => ("IceForCoastModel", "waterNow", "[J", true)
  | 42 => ("IceForCoastModel", "waterNext", "[J", true)
  | 43 => ("IceForCoastModel", "kept", "I", false)
  | 44 => ("IceForCoastModel", "keptSea", "I", false)
  | 45 => ("IceForCoastModel", "keptPrice", "I", false)
  | 46 => ("IceForCoastModel", "keptWage", "I", false)
  | 47 => ("IceForCoastModel", "keptCloth", "I", false)
  | 48 => ("IceForCoastModel", "keptLines", "I", false)
  | 49 => ("IceForCoastModel", "keptBergs", "[I", true)
  | 50 => ("IceForCoastModel", "keptRows", "[I", true)
  | _ => ("IceForCoastModel", "hash", "J", false)
def tyX10 : Nat → FieldType := fun k => match k with
  | 0 => .array .int
  | 1 => .int
  | 2 => .int
  | 3 => .int
  | 4 => .int
  | 5 => .int
  | 6 => .boolean
  | 7 => .array .int
  | 8 => .array .int
  | 9 => .int
  | 10 => .int
  | 11 => .int
  | 12 => .int
  | 13 => .array .int
  | 14 => .array .int
  | 15 => .int
  | 16 => .array .int
  | 17 => .int
  | 18 => .int
  | 19 => .int
  | 20 => .int
  | 21 => .array .int
  | 22 => .int
  | 23 => .int
  | 24 => .int
  | 25 => .int
  | 26 => .int
  | 27 => .boolean
  | 28 => .int
  | 29 => .int
  | 30 => .array .int
  | 31 => .array .int
  | 32 => .array .int
  | 33 => .int
  | 34 => .int
  | 35 => .int
  | 36 => .int
  | 37 => .int
  | 38 => .array .int
  | 39 => .array .int
  | 40 => .int
  | 41 => .array .long
  | 42 => .array .long
  | 43 => .int
  | 44 => .int
  | 45 => .int
  | 46 => .int
  | 47 => .int
  | 48 => .int
  | 49 => .array .int
  | 50 => .array .int
  | _ => .long
abbrev wsX100 : List Cond := u_ws RX10 TX10 52
theorem nmX10 : ∀ a, a < 52 → ∀ b, b < 52 → a ≠ b → (TX10 a).2.1 ≠ (TX10 b).2.1 := by decide +kernel
theorem tyX10_ok : ∀ k, k < 52 → parseFieldDescriptor (TX10 k).2.2.1 = some (tyX10 k) := by decide +kernel
abbrev cX10_init : ByteArray := prog_12_method_1_code
def yX10_init : MethodName := ⟨RX10, "<init>", "()V"⟩
abbrev cX10_in : ByteArray := prog_12_method_2_code
def yX10_in : MethodName := ⟨RX10, "in", "(JJJ)Z"⟩
abbrev cX10_letters : ByteArray := prog_12_method_3_code
def yX10_letters : MethodName := ⟨RX10, "letters", "(J)I"⟩
abbrev cX10_blank : ByteArray := prog_12_method_4_code
def yX10_blank : MethodName := ⟨RX10, "blank", "()I"⟩
abbrev cX10_flowOf : ByteArray := prog_12_method_5_code
def yX10_flowOf : MethodName := ⟨RX10, "flowOf", "(I)I"⟩
abbrev cX10_go : ByteArray := prog_12_method_6_code
def yX10_go : MethodName := ⟨RX10, "go", "(I)Z"⟩
abbrev cX10_readAt : ByteArray := prog_12_method_7_code
def yX10_readAt : MethodName := ⟨RX10, "readAt", "()I"⟩
abbrev cX10_faultOf : ByteArray := prog_12_method_8_code
def yX10_faultOf : MethodName := ⟨RX10, "faultOf", "()I"⟩
abbrev cX10_fault : ByteArray := prog_12_method_9_code
def yX10_fault : MethodName := ⟨RX10, "fault", "()I"⟩
abbrev cX10_sea : ByteArray := prog_12_method_10_code
def yX10_sea : MethodName := ⟨RX10, "sea", "()I"⟩
abbrev cX10_lacks : ByteArray := prog_12_method_11_code
def yX10_lacks : MethodName := ⟨RX10, "lacks", "()Z"⟩
abbrev cX10_isSquare : ByteArray := prog_12_method_12_code
def yX10_isSquare : MethodName := ⟨RX10, "isSquare", "(I)Z"⟩
abbrev cX10_size : ByteArray := prog_12_method_13_code
def yX10_size : MethodName := ⟨RX10, "size", "(I)I"⟩
abbrev cX10_farOf : ByteArray := prog_12_method_14_code
def yX10_farOf : MethodName := ⟨RX10, "farOf", "(I)I"⟩
abbrev cX10_tellSquare : ByteArray := prog_12_method_15_code
def yX10_tellSquare : MethodName := ⟨RX10, "tellSquare", "(II)I"⟩
abbrev cX10_square : ByteArray := prog_12_method_16_code
def yX10_square : MethodName := ⟨RX10, "square", "(II)I"⟩
abbrev cX10_berg : ByteArray := prog_12_method_17_code
def yX10_berg : MethodName := ⟨RX10, "berg", "(IIIII)I"⟩
abbrev cX10_isBerg : ByteArray := prog_12_method_18_code
def yX10_isBerg : MethodName := ⟨RX10, "isBerg", "(I)Z"⟩
abbrev cX10_as : ByteArray := prog_12_method_19_code
def yX10_as : MethodName := ⟨RX10, "as", "(II)I"⟩
abbrev cX10_about : ByteArray := prog_12_method_20_code
def yX10_about : MethodName := ⟨RX10, "about", "(II)I"⟩
abbrev cX10_change : ByteArray := prog_12_method_21_code
def yX10_change : MethodName := ⟨RX10, "change", "(III)I"⟩
abbrev cX10_coin : ByteArray := prog_12_method_22_code
def yX10_coin : MethodName := ⟨RX10, "coin", "(II)I"⟩
abbrev cX10_draw : ByteArray := prog_12_method_23_code
def yX10_draw : MethodName := ⟨RX10, "draw", "(I)I"⟩
abbrev cX10_day : ByteArray := prog_12_method_24_code
def yX10_day : MethodName := ⟨RX10, "day", "(I)V"⟩
abbrev cX10_step : ByteArray := prog_12_method_25_code
def yX10_step : MethodName := ⟨RX10, "step", "(II)V"⟩
abbrev cX10_to : ByteArray := prog_12_method_26_code
def yX10_to : MethodName := ⟨RX10, "to", "(II)I"⟩
abbrev cX10_begin : ByteArray := prog_12_method_27_code
def yX10_begin : MethodName := ⟨RX10, "begin", "(IIIZ)V"⟩
abbrev cX10_towAll : ByteArray := prog_12_method_28_code
def yX10_towAll : MethodName := ⟨RX10, "towAll", "(I)V"⟩
abbrev cX10_tryWay : ByteArray := prog_12_method_29_code
def yX10_tryWay : MethodName := ⟨RX10, "tryWay", "(IIIZI)V"⟩
abbrev cX10_layWays : ByteArray := prog_12_method_30_code
def yX10_layWays : MethodName := ⟨RX10, "layWays", "(IIIZ)V"⟩
abbrev cX10_ownSize : ByteArray := prog_12_method_31_code
def yX10_ownSize : MethodName := ⟨RX10, "ownSize", "(I)I"⟩
abbrev cX10_tellTow : ByteArray := prog_12_method_32_code
def yX10_tellTow : MethodName := ⟨RX10, "tellTow", "(IIZI)I"⟩
abbrev cX10_areTugs : ByteArray := prog_12_method_33_code
def yX10_areTugs : MethodName := ⟨RX10, "areTugs", "(I)Z"⟩
abbrev cX10_tow : ByteArray := prog_12_method_34_code
def yX10_tow : MethodName := ⟨RX10, "tow", "(IIZI)I"⟩
abbrev cX10_waysOf : ByteArray := prog_12_method_35_code
def yX10_waysOf : MethodName := ⟨RX10, "waysOf", "(I)I"⟩
abbrev cX10_ways : ByteArray := prog_12_method_36_code
def yX10_ways : MethodName := ⟨RX10, "ways", "(I)I"⟩
abbrev cX10_tellBest : ByteArray := prog_12_method_37_code
def yX10_tellBest : MethodName := ⟨RX10, "tellBest", "(II)I"⟩
abbrev cX10_best : ByteArray := prog_12_method_38_code
def yX10_best : MethodName := ⟨RX10, "best", "(II)I"⟩
abbrev cX10_seasonOf : ByteArray := prog_12_method_39_code
def yX10_seasonOf : MethodName := ⟨RX10, "seasonOf", "(II)I"⟩
abbrev cX10_season : ByteArray := prog_12_method_40_code
def yX10_season : MethodName := ⟨RX10, "season", "(II)I"⟩
abbrev cX10_more : ByteArray := prog_12_method_41_code
def yX10_more : MethodName := ⟨RX10, "more", "(I)I"⟩
abbrev cX10_drawn : ByteArray := prog_12_method_42_code
def yX10_drawn : MethodName := ⟨RX10, "drawn", "(IIZII)I"⟩
abbrev cX10_came : ByteArray := prog_12_method_43_code
def yX10_came : MethodName := ⟨RX10, "came", "(IIZII)I"⟩
abbrev cX10_common : ByteArray := prog_12_method_44_code
def yX10_common : MethodName := ⟨RX10, "common", "(JJ)J"⟩
abbrev cX10_melted : ByteArray := prog_12_method_45_code
def yX10_melted : MethodName := ⟨RX10, "melted", "(II)I"⟩
abbrev cX10_letOff : ByteArray := prog_12_method_46_code
def yX10_letOff : MethodName := ⟨RX10, "letOff", "(IIIII)J"⟩
abbrev cX10_line : ByteArray := prog_12_method_47_code
def yX10_line : MethodName := ⟨RX10, "line", "(III)I"⟩
abbrev cX10_claims : ByteArray := prog_12_method_48_code
def yX10_claims : MethodName := ⟨RX10, "claims", "(IIIII)I"⟩
abbrev cX10_image : ByteArray := prog_12_method_49_code
def yX10_image : MethodName := ⟨RX10, "image", "()I"⟩
abbrev cX10_restore : ByteArray := prog_12_method_50_code
def yX10_restore : MethodName := ⟨RX10, "restore", "()I"⟩
abbrev cX10_countOf : ByteArray := prog_12_method_51_code
def yX10_countOf : MethodName := ⟨RX10, "countOf", "(I)I"⟩
abbrev cX10_count : ByteArray := prog_12_method_52_code
def yX10_count : MethodName := ⟨RX10, "count", "(I)I"⟩
abbrev cX10_say : ByteArray := prog_12_method_53_code
def yX10_say : MethodName := ⟨RX10, "say", "(J)V"⟩
abbrev cX10_sayBerg : ByteArray := prog_12_method_54_code
def yX10_sayBerg : MethodName := ⟨RX10, "sayBerg", "(I)V"⟩
abbrev cX10_digest : ByteArray := prog_12_method_55_code
def yX10_digest : MethodName := ⟨RX10, "digest", "()J"⟩
def RJ9 : String := "java/lang/Math"
def TJ9 : u_T := fun k => match k with
  | _ => ("", "", "", false)
def tyJ9 : Nat → FieldType := fun k => match k with
  | _ => .int
abbrev wsJ90 : List Cond := u_ws RJ9 TJ9 0
theorem nmJ9 : ∀ a, a < 0 → ∀ b, b < 0 → a ≠ b → (TJ9 a).2.1 ≠ (TJ9 b).2.1 := by decide +kernel
theorem tyJ9_ok : ∀ k, k < 0 → parseFieldDescriptor (TJ9 k).2.2.1 = some (tyJ9 k) := by decide +kernel
abbrev cJ9_abs_0f7a4 : ByteArray := prog_13_method_59_code
def yJ9_abs_0f7a4 : MethodName := ⟨RJ9, "abs", "(I)I"⟩
abbrev cJ9_max_7cf53 : ByteArray := prog_13_method_65_code
def yJ9_max_7cf53 : MethodName := ⟨RJ9, "max", "(II)I"⟩
abbrev cJ9_max_f86c9 : ByteArray := prog_13_method_66_code
def yJ9_max_f86c9 : MethodName := ⟨RJ9, "max", "(JJ)J"⟩
abbrev cJ9_min_7cf53 : ByteArray := prog_13_method_69_code
def yJ9_min_7cf53 : MethodName := ⟨RJ9, "min", "(II)I"⟩
def RJ10 : String := "java/lang/System"
def TJ10 : u_T := fun k => match k with
  | _ => ("", "", "", false)
def tyJ10 : Nat → FieldType := fun k => match k with
  | _ => .int
abbrev wsJ100 : List Cond := u_ws RJ10 TJ10 0
theorem nmJ10 : ∀ a, a < 0 → ∀ b, b < 0 → a ≠ b → (TJ10 a).2.1 ≠ (TJ10 b).2.1 := by decide +kernel
theorem tyJ10_ok : ∀ k, k < 0 → parseFieldDescriptor (TJ10 k).2.2.1 = some (tyJ10 k) := by decide +kernel
def RL : String := "IceForCoastLaw"
abbrev cL_law : ByteArray := code
def yL_law : MethodName := ⟨RL, "law", "([I)Z"⟩
abbrev vwCl : List vw_C := [(RX0, TX0, 6), (RX1, TX1, 1), (RX2, TX2, 6), (RX3, TX3, 4), (RX4, TX4, 4), (RX5, TX5, 4), (RX6, TX6, 7), (RX7, TX7, 8), (RX8, TX8, 17), (RX9, TX9, 12), (RX10, TX10, 52)]
def AL : List Cond := lw_tbl.filter goodWord
def isNest : Cond → Bool
  | .fieldLinkNest .. => true
  | .methodLinkNest .. => true
  | _ => false
def NW : List Cond := lw_tbl.filter isNest
theorem AL_in {w : Cond} (h : w ∈ lw_tbl) (g : goodWord w = true) : w ∈ AL := List.mem_filter.mpr ⟨h, g⟩
theorem NW_in {w : Cond} (h : w ∈ lw_tbl) (g : isNest w = true) : w ∈ NW := List.mem_filter.mpr ⟨h, g⟩
theorem AL_good {w : Cond} (h : w ∈ AL) : w ∈ AL ∧ ((w.onTables && w.keeps) = true ∨ ∃ ty, w = .arrayClass ty) := ⟨h, good_of_word (List.mem_filter.mp h).2⟩
theorem AL_of (ws : List Cond) (ps : List Nat) (hp : ws = ps.filterMap (fun i => lw_tbl[i]?)) (h : ws.all goodWord = true) : ∀ w ∈ ws, w ∈ AL := by
  intro w hw
  have h1 := List.all_eq_true.mp h w hw
  rw [hp] at hw
  obtain ⟨i, -, hi⟩ := List.mem_filterMap.mp hw
  exact AL_in (List.mem_of_getElem? hi) h1
theorem NW_of (ws : List Cond) (ps : List Nat) (hp : ws = ps.filterMap (fun i => lw_tbl[i]?)) (h : ws.all isNest = true) : ∀ w ∈ ws, w ∈ NW := by
  intro w hw
  have h1 := List.all_eq_true.mp h w hw
  rw [hp] at hw
  obtain ⟨i, -, hi⟩ := List.mem_filterMap.mp hw
  exact NW_in (List.mem_of_getElem? hi) h1
end
section
/-! ===== the words of the tables by their places ===== -/
theorem inA0 : ∀ w ∈ wsX00, w ∈ AL := AL_of _ [179, 181, 183, 185, 187, 189] (by decide +kernel) (by decide +kernel)
theorem inA1 : ∀ w ∈ wsX10, w ∈ AL := AL_of _ [154] (by decide +kernel) (by decide +kernel)
theorem inA2 : ∀ w ∈ wsX20, w ∈ AL := AL_of _ [291, 293, 295, 297, 299, 301] (by decide +kernel) (by decide +kernel)
theorem inA3 : ∀ w ∈ wsX30, w ∈ AL := AL_of _ [319, 321, 323, 325] (by decide +kernel) (by decide +kernel)
theorem inA4 : ∀ w ∈ wsX40, w ∈ AL := AL_of _ [267, 269, 271, 273] (by decide +kernel) (by decide +kernel)
theorem inA5 : ∀ w ∈ wsX50, w ∈ AL := AL_of _ [342, 344, 346, 348] (by decide +kernel) (by decide +kernel)
theorem inA6 : ∀ w ∈ wsX60, w ∈ AL := AL_of _ [82, 84, 86, 88, 90, 92, 94] (by decide +kernel) (by decide +kernel)
theorem inA7 : ∀ w ∈ wsX70, w ∈ AL := AL_of _ [129, 131, 133, 135, 137, 139, 141, 143] (by decide +kernel) (by decide +kernel)
theorem inA8 : ∀ w ∈ wsX80, w ∈ AL := AL_of _ [216, 218, 220, 222, 224, 226, 228, 230, 232, 234, 236, 238, 240, 242, 244, 246, 248] (by decide +kernel) (by decide +kernel)
theorem inA9 : ∀ w ∈ wsX90, w ∈ AL := AL_of _ [365, 367, 369, 371, 373, 375, 377, 379, 381, 383, 385, 387] (by decide +kernel) (by decide +kernel)
theorem inA10 : ∀ w ∈ wsX100, w ∈ AL := AL_of _ [841, 843, 845, 847, 849, 851, 853, 855, 857, 859, 861, 863, 865, 867, 869, 871, 873, 875, 877, 879, 881, 883, 885, 887, 889, 891, 893, 895, 897, 899, 901, 903, 905, 907, 909, 911, 913, 915, 917, 919, 921, 923, 925, 927, 929, 931, 933, 935, 937, 939, 941, 943] (by decide +kernel) (by decide +kernel)
theorem tk_0 : ∀ w ∈ k2_sels lw_privs, w ∈ lw_tbl := fun w h => List.mem_append_left _ h
theorem tk_1 : ∀ w ∈ tables_1_1, w ∈ lw_tbl := fun w h => List.mem_append_right _ (List.mem_append_left _ h)
theorem tk_2 : ∀ w ∈ tables_1_2, w ∈ lw_tbl := fun w h => List.mem_append_right _ (List.mem_append_right _ (List.mem_append_left _ h))
theorem tk_3 : ∀ w ∈ tables_1_3, w ∈ lw_tbl := fun w h => List.mem_append_right _ (List.mem_append_right _ (List.mem_append_right _ (List.mem_append_left _ h)))
theorem tk_4 : ∀ w ∈ tables_1_4, w ∈ lw_tbl := fun w h => List.mem_append_right _ (List.mem_append_right _ (List.mem_append_right _ (List.mem_append_right _ (List.mem_append_left _ h))))
theorem tk_5 : ∀ w ∈ tables_1_5, w ∈ lw_tbl := fun w h => List.mem_append_right _ (List.mem_append_right _ (List.mem_append_right _ (List.mem_append_right _ (List.mem_append_right _ h))))
theorem aw_0 : Cond.selects RX6 yX6_takes yX6_takes ∈ AL := AL_in (tk_0 _ (List.mem_of_getElem? (i := 0) rfl)) rfl
theorem aw_1 : Cond.selects RX6 yX6_takesRowEnd yX6_takesRowEnd ∈ AL := AL_in (tk_0 _ (List.mem_of_getElem? (i := 1) rfl)) rfl
theorem aw_2 : Cond.selects RX6 yX6_takesSquare yX6_takesSquare ∈ AL := AL_in (tk_0 _ (List.mem_of_getElem? (i := 2) rfl)) rfl
theorem aw_3 : Cond.selects RX7 yX7_layLetter yX7_layLetter ∈ AL := AL_in (tk_0 _ (List.mem_of_getElem? (i := 3) rfl)) rfl
theorem aw_4 : Cond.selects RX7 yX7_measure yX7_measure ∈ AL := AL_in (tk_0 _ (List.mem_of_getElem? (i := 4) rfl)) rfl
theorem aw_5 : Cond.selects RX7 yX7_openWays yX7_openWays ∈ AL := AL_in (tk_0 _ (List.mem_of_getElem? (i := 5) rfl)) rfl
theorem aw_6 : Cond.selects RX7 yX7_beside yX7_beside ∈ AL := AL_in (tk_0 _ (List.mem_of_getElem? (i := 6) rfl)) rfl
theorem aw_7 : Cond.selects RX9 yX9_isBerg yX9_isBerg ∈ AL := AL_in (tk_0 _ (List.mem_of_getElem? (i := 7) rfl)) rfl
theorem aw_8 : Cond.selects RX9 yX9_hasWay yX9_hasWay ∈ AL := AL_in (tk_0 _ (List.mem_of_getElem? (i := 8) rfl)) rfl
theorem aw_9 : Cond.selects RX8 yX8_isHopeless yX8_isHopeless ∈ AL := AL_in (tk_0 _ (List.mem_of_getElem? (i := 9) rfl)) rfl
theorem aw_10 : Cond.selects RX8 yX8_choose yX8_choose ∈ AL := AL_in (tk_0 _ (List.mem_of_getElem? (i := 10) rfl)) rfl
theorem aw_11 : Cond.selects RX8 yX8_pass yX8_pass ∈ AL := AL_in (tk_0 _ (List.mem_of_getElem? (i := 11) rfl)) rfl
theorem aw_12 : Cond.selects RX8 yX8_daysOfStep yX8_daysOfStep ∈ AL := AL_in (tk_0 _ (List.mem_of_getElem? (i := 12) rfl)) rfl
theorem aw_13 : Cond.selects RX8 yX8_drawnWarmth yX8_drawnWarmth ∈ AL := AL_in (tk_0 _ (List.mem_of_getElem? (i := 13) rfl)) rfl
theorem aw_14 : Cond.selects RX9 yX9_weigh yX9_weigh ∈ AL := AL_in (tk_0 _ (List.mem_of_getElem? (i := 14) rfl)) rfl
theorem aw_15 : Cond.selects RX3 yX3_mostFrom yX3_mostFrom ∈ AL := AL_in (tk_0 _ (List.mem_of_getElem? (i := 15) rfl)) rfl
theorem aw_16 : Cond.selects RX3 yX3_gainBy yX3_gainBy ∈ AL := AL_in (tk_0 _ (List.mem_of_getElem? (i := 16) rfl)) rfl
theorem aw_17 : Cond.selects RX3 yX3_fewestFor yX3_fewestFor ∈ AL := AL_in (tk_0 _ (List.mem_of_getElem? (i := 17) rfl)) rfl
theorem aw_18 : Cond.selects RX5 yX5_letOffNow yX5_letOffNow ∈ AL := AL_in (tk_0 _ (List.mem_of_getElem? (i := 18) rfl)) rfl
theorem aw_19 : Cond.selects RX5 yX5_heldNow yX5_heldNow ∈ AL := AL_in (tk_0 _ (List.mem_of_getElem? (i := 19) rfl)) rfl
theorem aw_20 : Cond.selects RX4 yX4_counts yX4_counts ∈ AL := AL_in (tk_0 _ (List.mem_of_getElem? (i := 20) rfl)) rfl
theorem aw_21 : Cond.selects RX10 yX10_faultOf yX10_faultOf ∈ AL := AL_in (tk_0 _ (List.mem_of_getElem? (i := 21) rfl)) rfl
theorem aw_22 : Cond.selects RX10 yX10_go yX10_go ∈ AL := AL_in (tk_0 _ (List.mem_of_getElem? (i := 22) rfl)) rfl
theorem aw_23 : Cond.selects RX10 yX10_readAt yX10_readAt ∈ AL := AL_in (tk_0 _ (List.mem_of_getElem? (i := 23) rfl)) rfl
theorem aw_24 : Cond.selects RX10 yX10_isSquare yX10_isSquare ∈ AL := AL_in (tk_0 _ (List.mem_of_getElem? (i := 24) rfl)) rfl
theorem aw_25 : Cond.selects RX10 yX10_tellSquare yX10_tellSquare ∈ AL := AL_in (tk_0 _ (List.mem_of_getElem? (i := 25) rfl)) rfl
theorem aw_26 : Cond.selects RX10 yX10_farOf yX10_farOf ∈ AL := AL_in (tk_0 _ (List.mem_of_getElem? (i := 26) rfl)) rfl
theorem aw_27 : Cond.selects RX10 yX10_isBerg yX10_isBerg ∈ AL := AL_in (tk_0 _ (List.mem_of_getElem? (i := 27) rfl)) rfl
theorem aw_28 : Cond.selects RX10 yX10_tellTow yX10_tellTow ∈ AL := AL_in (tk_0 _ (List.mem_of_getElem? (i := 28) rfl)) rfl
theorem aw_29 : Cond.selects RX10 yX10_ownSize yX10_ownSize ∈ AL := AL_in (tk_0 _ (List.mem_of_getElem? (i := 29) rfl)) rfl
theorem aw_30 : Cond.selects RX10 yX10_layWays yX10_layWays ∈ AL := AL_in (tk_0 _ (List.mem_of_getElem? (i := 30) rfl)) rfl
theorem aw_31 : Cond.selects RX10 yX10_to yX10_to ∈ AL := AL_in (tk_0 _ (List.mem_of_getElem? (i := 31) rfl)) rfl
theorem aw_32 : Cond.selects RX10 yX10_tryWay yX10_tryWay ∈ AL := AL_in (tk_0 _ (List.mem_of_getElem? (i := 32) rfl)) rfl
theorem aw_33 : Cond.selects RX10 yX10_begin yX10_begin ∈ AL := AL_in (tk_0 _ (List.mem_of_getElem? (i := 33) rfl)) rfl
theorem aw_34 : Cond.selects RX10 yX10_towAll yX10_towAll ∈ AL := AL_in (tk_0 _ (List.mem_of_getElem? (i := 34) rfl)) rfl
theorem aw_35 : Cond.selects RX10 yX10_step yX10_step ∈ AL := AL_in (tk_0 _ (List.mem_of_getElem? (i := 35) rfl)) rfl
theorem aw_36 : Cond.selects RX10 yX10_day yX10_day ∈ AL := AL_in (tk_0 _ (List.mem_of_getElem? (i := 36) rfl)) rfl
theorem aw_37 : Cond.selects RX10 yX10_draw yX10_draw ∈ AL := AL_in (tk_0 _ (List.mem_of_getElem? (i := 37) rfl)) rfl
theorem aw_38 : Cond.selects RX10 yX10_waysOf yX10_waysOf ∈ AL := AL_in (tk_0 _ (List.mem_of_getElem? (i := 38) rfl)) rfl
theorem aw_39 : Cond.selects RX10 yX10_tellBest yX10_tellBest ∈ AL := AL_in (tk_0 _ (List.mem_of_getElem? (i := 39) rfl)) rfl
theorem aw_40 : Cond.selects RX10 yX10_lacks yX10_lacks ∈ AL := AL_in (tk_0 _ (List.mem_of_getElem? (i := 40) rfl)) rfl
theorem aw_41 : Cond.selects RX10 yX10_seasonOf yX10_seasonOf ∈ AL := AL_in (tk_0 _ (List.mem_of_getElem? (i := 41) rfl)) rfl
theorem aw_42 : Cond.selects RX10 yX10_countOf yX10_countOf ∈ AL := AL_in (tk_0 _ (List.mem_of_getElem? (i := 42) rfl)) rfl
theorem aw_43 : Cond.selects RX10 yX10_say yX10_say ∈ AL := AL_in (tk_0 _ (List.mem_of_getElem? (i := 43) rfl)) rfl
theorem aw_44 : Cond.selects RX10 yX10_sayBerg yX10_sayBerg ∈ AL := AL_in (tk_0 _ (List.mem_of_getElem? (i := 44) rfl)) rfl
theorem aw_45 : Cond.initialized RL ∈ AL := AL_in (tk_1 _ (List.mem_of_getElem? (i := 0) rfl)) rfl
theorem aw_46 : Cond.initialized RX9 ∈ AL := AL_in (tk_1 _ (List.mem_of_getElem? (i := 1) rfl)) rfl
theorem aw_47 : Cond.initialized RX6 ∈ AL := AL_in (tk_1 _ (List.mem_of_getElem? (i := 2) rfl)) rfl
theorem aw_48 : Cond.initialized RX8 ∈ AL := AL_in (tk_1 _ (List.mem_of_getElem? (i := 3) rfl)) rfl
theorem aw_49 : Cond.initialized RX7 ∈ AL := AL_in (tk_1 _ (List.mem_of_getElem? (i := 4) rfl)) rfl
theorem aw_50 : Cond.initialized RX1 ∈ AL := AL_in (tk_1 _ (List.mem_of_getElem? (i := 5) rfl)) rfl
theorem aw_51 : Cond.initialized RX0 ∈ AL := AL_in (tk_1 _ (List.mem_of_getElem? (i := 6) rfl)) rfl
theorem aw_52 : Cond.initialized RX4 ∈ AL := AL_in (tk_1 _ (List.mem_of_getElem? (i := 7) rfl)) rfl
theorem aw_53 : Cond.initialized RX2 ∈ AL := AL_in (tk_1 _ (List.mem_of_getElem? (i := 8) rfl)) rfl
theorem aw_54 : Cond.initialized RX3 ∈ AL := AL_in (tk_1 _ (List.mem_of_getElem? (i := 9) rfl)) rfl
theorem aw_55 : Cond.initialized RX5 ∈ AL := AL_in (tk_1 _ (List.mem_of_getElem? (i := 10) rfl)) rfl
theorem aw_56 : Cond.initialized RX10 ∈ AL := AL_in (tk_1 _ (List.mem_of_getElem? (i := 11) rfl)) rfl
theorem aw_57 : Cond.initialized "java/lang/Math" ∈ AL := AL_in (tk_1 _ (List.mem_of_getElem? (i := 12) rfl)) rfl
theorem aw_58 : Cond.initialized "java/lang/System" ∈ AL := AL_in (tk_1 _ (List.mem_of_getElem? (i := 13) rfl)) rfl
theorem aw_59 : Cond.classLink RL 7 RX9 ∈ AL := AL_in (tk_1 _ (List.mem_of_getElem? (i := 14) rfl)) rfl
theorem aw_60 : Cond.instantiable RX9 12 ∈ AL := AL_in (tk_1 _ (List.mem_of_getElem? (i := 15) rfl)) rfl
theorem aw_61 : Cond.methodLink RL 9 yX9_init ∈ AL := AL_in (tk_1 _ (List.mem_of_getElem? (i := 16) rfl)) rfl
theorem aw_62 : Cond.instanceMethod yX9_init ∈ AL := AL_in (tk_1 _ (List.mem_of_getElem? (i := 17) rfl)) rfl
theorem aw_63 : Cond.code yX9_init cX9_init 2 none ∈ AL := AL_in (tk_1 _ (List.mem_of_getElem? (i := 18) rfl)) rfl
theorem aw_64 : Cond.methodLink RX9 1 objectInit ∈ AL := AL_in (tk_1 _ (List.mem_of_getElem? (i := 19) rfl)) rfl
theorem aw_65 : Cond.instanceMethod objectInit ∈ AL := AL_in (tk_1 _ (List.mem_of_getElem? (i := 20) rfl)) rfl
theorem aw_66 : Cond.code objectInit ⟨#[0xb1]⟩ 1 none ∈ AL := AL_in (tk_1 _ (List.mem_of_getElem? (i := 21) rfl)) rfl
theorem aw_67 : Cond.classLink RX9 7 RX6 ∈ AL := AL_in (tk_1 _ (List.mem_of_getElem? (i := 22) rfl)) rfl
theorem aw_68 : Cond.instantiable RX6 7 ∈ AL := AL_in (tk_1 _ (List.mem_of_getElem? (i := 23) rfl)) rfl
theorem aw_69 : Cond.methodLinkNest RX9 9 yX6_init "IceForCoast" ∈ NW := NW_in (tk_1 _ (List.mem_of_getElem? (i := 24) rfl)) rfl
theorem aw_70 : Cond.instanceMethod yX6_init ∈ AL := AL_in (tk_1 _ (List.mem_of_getElem? (i := 25) rfl)) rfl
theorem aw_71 : Cond.code yX6_init cX6_init 1 none ∈ AL := AL_in (tk_1 _ (List.mem_of_getElem? (i := 26) rfl)) rfl
theorem aw_72 : Cond.methodLink RX6 3 objectInit ∈ AL := AL_in (tk_1 _ (List.mem_of_getElem? (i := 27) rfl)) rfl
theorem aw_73 : Cond.fieldLink RX6 11 "IceForCoast$Page" "codes" "[I" ∈ AL := AL_in (tk_1 _ (List.mem_of_getElem? (i := 28) rfl)) rfl
theorem aw_74 : Cond.fieldLink RX6 19 "IceForCoast$Page" "length" "I" ∈ AL := AL_in (tk_1 _ (List.mem_of_getElem? (i := 29) rfl)) rfl
theorem aw_75 : Cond.fieldLinkNest RX7 40 "IceForCoast$Page" "length" "I" "IceForCoast" ∈ NW := NW_in (tk_1 _ (List.mem_of_getElem? (i := 30) rfl)) rfl
theorem aw_76 : Cond.fieldLinkNest RX9 302 "IceForCoast$Page" "length" "I" "IceForCoast" ∈ NW := NW_in (tk_1 _ (List.mem_of_getElem? (i := 31) rfl)) rfl
theorem aw_77 : Cond.fieldLink RX6 23 "IceForCoast$Page" "row" "I" ∈ AL := AL_in (tk_1 _ (List.mem_of_getElem? (i := 32) rfl)) rfl
theorem aw_78 : Cond.fieldLink RX6 26 "IceForCoast$Page" "inRow" "I" ∈ AL := AL_in (tk_1 _ (List.mem_of_getElem? (i := 33) rfl)) rfl
theorem aw_79 : Cond.fieldLink RX6 29 "IceForCoast$Page" "width" "I" ∈ AL := AL_in (tk_1 _ (List.mem_of_getElem? (i := 34) rfl)) rfl
theorem aw_80 : Cond.fieldLink RX6 32 "IceForCoast$Page" "harbours" "I" ∈ AL := AL_in (tk_1 _ (List.mem_of_getElem? (i := 35) rfl)) rfl
theorem aw_81 : Cond.fieldLink RX6 35 "IceForCoast$Page" "currentMayCome" "Z" ∈ AL := AL_in (tk_1 _ (List.mem_of_getElem? (i := 36) rfl)) rfl
theorem aw_97 : Cond.arrayClass .int ∈ AL := AL_in (tk_1 _ (List.mem_of_getElem? (i := 52) rfl)) rfl
theorem aw_98 : Cond.classLink RX9 16 RX8 ∈ AL := AL_in (tk_1 _ (List.mem_of_getElem? (i := 53) rfl)) rfl
theorem aw_99 : Cond.instantiable RX8 17 ∈ AL := AL_in (tk_1 _ (List.mem_of_getElem? (i := 54) rfl)) rfl
theorem aw_100 : Cond.methodLinkNest RX9 18 yX8_init "IceForCoast" ∈ NW := NW_in (tk_1 _ (List.mem_of_getElem? (i := 55) rfl)) rfl
theorem aw_101 : Cond.instanceMethod yX8_init ∈ AL := AL_in (tk_1 _ (List.mem_of_getElem? (i := 56) rfl)) rfl
theorem aw_102 : Cond.code yX8_init cX8_init 1 none ∈ AL := AL_in (tk_1 _ (List.mem_of_getElem? (i := 57) rfl)) rfl
theorem aw_103 : Cond.methodLink RX8 5 objectInit ∈ AL := AL_in (tk_1 _ (List.mem_of_getElem? (i := 58) rfl)) rfl
theorem aw_104 : Cond.classLink RX8 1 RX7 ∈ AL := AL_in (tk_1 _ (List.mem_of_getElem? (i := 59) rfl)) rfl
theorem aw_105 : Cond.instantiable RX7 8 ∈ AL := AL_in (tk_1 _ (List.mem_of_getElem? (i := 60) rfl)) rfl
theorem aw_106 : Cond.methodLinkNest RX8 11 yX7_init "IceForCoast" ∈ NW := NW_in (tk_1 _ (List.mem_of_getElem? (i := 61) rfl)) rfl
theorem aw_107 : Cond.instanceMethod yX7_init ∈ AL := AL_in (tk_1 _ (List.mem_of_getElem? (i := 62) rfl)) rfl
theorem aw_108 : Cond.code yX7_init cX7_init 1 none ∈ AL := AL_in (tk_1 _ (List.mem_of_getElem? (i := 63) rfl)) rfl
theorem aw_109 : Cond.methodLink RX7 5 objectInit ∈ AL := AL_in (tk_1 _ (List.mem_of_getElem? (i := 64) rfl)) rfl
theorem aw_110 : Cond.classLink RX7 24 "[[I" ∈ AL := AL_in (tk_1 _ (List.mem_of_getElem? (i := 65) rfl)) rfl
theorem aw_112 : Cond.fieldLink RX7 11 "IceForCoast$Sea" "warmth" "[I" ∈ AL := AL_in (tk_1 _ (List.mem_of_getElem? (i := 67) rfl)) rfl
theorem aw_113 : Cond.fieldLinkNest RX9 109 "IceForCoast$Sea" "warmth" "[I" "IceForCoast" ∈ NW := NW_in (tk_1 _ (List.mem_of_getElem? (i := 68) rfl)) rfl
theorem aw_114 : Cond.fieldLinkNest RX8 127 "IceForCoast$Sea" "warmth" "[I" "IceForCoast" ∈ NW := NW_in (tk_1 _ (List.mem_of_getElem? (i := 69) rfl)) rfl
theorem aw_115 : Cond.fieldLink RX7 15 "IceForCoast$Sea" "current" "[I" ∈ AL := AL_in (tk_1 _ (List.mem_of_getElem? (i := 70) rfl)) rfl
theorem aw_116 : Cond.fieldLinkNest RX9 113 "IceForCoast$Sea" "current" "[I" "IceForCoast" ∈ NW := NW_in (tk_1 _ (List.mem_of_getElem? (i := 71) rfl)) rfl
theorem aw_117 : Cond.fieldLinkNest RX8 143 "IceForCoast$Sea" "current" "[I" "IceForCoast" ∈ NW := NW_in (tk_1 _ (List.mem_of_getElem? (i := 72) rfl)) rfl
theorem aw_118 : Cond.fieldLink RX7 18 "IceForCoast$Sea" "far" "[I" ∈ AL := AL_in (tk_1 _ (List.mem_of_getElem? (i := 73) rfl)) rfl
theorem aw_119 : Cond.fieldLinkNest RX9 116 "IceForCoast$Sea" "far" "[I" "IceForCoast" ∈ NW := NW_in (tk_1 _ (List.mem_of_getElem? (i := 74) rfl)) rfl
theorem aw_120 : Cond.fieldLink RX7 21 "IceForCoast$Sea" "waysFrom" "[I" ∈ AL := AL_in (tk_1 _ (List.mem_of_getElem? (i := 75) rfl)) rfl
theorem aw_121 : Cond.fieldLinkNest RX9 204 "IceForCoast$Sea" "waysFrom" "[I" "IceForCoast" ∈ NW := NW_in (tk_1 _ (List.mem_of_getElem? (i := 76) rfl)) rfl
theorem aw_122 : Cond.fieldLink RX7 26 "IceForCoast$Sea" "next" "[[I" ∈ AL := AL_in (tk_1 _ (List.mem_of_getElem? (i := 77) rfl)) rfl
theorem aw_123 : Cond.fieldLinkNest RX8 89 "IceForCoast$Sea" "next" "[[I" "IceForCoast" ∈ NW := NW_in (tk_1 _ (List.mem_of_getElem? (i := 78) rfl)) rfl
theorem aw_124 : Cond.fieldLink RX7 29 "IceForCoast$Sea" "squares" "I" ∈ AL := AL_in (tk_1 _ (List.mem_of_getElem? (i := 79) rfl)) rfl
theorem aw_125 : Cond.fieldLinkNest RX9 102 "IceForCoast$Sea" "squares" "I" "IceForCoast" ∈ NW := NW_in (tk_1 _ (List.mem_of_getElem? (i := 80) rfl)) rfl
theorem aw_126 : Cond.fieldLink RX7 37 "IceForCoast$Sea" "width" "I" ∈ AL := AL_in (tk_1 _ (List.mem_of_getElem? (i := 81) rfl)) rfl
theorem aw_127 : Cond.fieldLinkNest RX8 103 "IceForCoast$Sea" "harbour" "I" "IceForCoast" ∈ NW := NW_in (tk_1 _ (List.mem_of_getElem? (i := 82) rfl)) rfl
theorem aw_128 : Cond.fieldLink RX7 64 "IceForCoast$Sea" "harbour" "I" ∈ AL := AL_in (tk_1 _ (List.mem_of_getElem? (i := 83) rfl)) rfl
theorem aw_146 : Cond.classLink RX8 18 RX1 ∈ AL := AL_in (tk_1 _ (List.mem_of_getElem? (i := 101) rfl)) rfl
theorem aw_147 : Cond.instantiable RX1 1 ∈ AL := AL_in (tk_1 _ (List.mem_of_getElem? (i := 102) rfl)) rfl
theorem aw_148 : Cond.methodLinkNest RX8 20 yX1_init "IceForCoast" ∈ NW := NW_in (tk_1 _ (List.mem_of_getElem? (i := 103) rfl)) rfl
theorem aw_149 : Cond.instanceMethod yX1_init ∈ AL := AL_in (tk_1 _ (List.mem_of_getElem? (i := 104) rfl)) rfl
theorem aw_150 : Cond.code yX1_init cX1_init 1 none ∈ AL := AL_in (tk_1 _ (List.mem_of_getElem? (i := 105) rfl)) rfl
theorem aw_151 : Cond.methodLink RX1 1 objectInit ∈ AL := AL_in (tk_1 _ (List.mem_of_getElem? (i := 106) rfl)) rfl
theorem aw_152 : Cond.fieldLink RX1 7 "IceForCoast$Coins" "value" "[I" ∈ AL := AL_in (tk_1 _ (List.mem_of_getElem? (i := 107) rfl)) rfl
theorem aw_153 : Cond.fieldLinkNest RX9 303 "IceForCoast$Coins" "value" "[I" "IceForCoast" ∈ NW := NW_in (tk_1 _ (List.mem_of_getElem? (i := 108) rfl)) rfl
theorem aw_157 : Cond.classLink RX8 41 RX0 ∈ AL := AL_in (tk_1 _ (List.mem_of_getElem? (i := 112) rfl)) rfl
theorem aw_158 : Cond.instantiable RX0 6 ∈ AL := AL_in (tk_1 _ (List.mem_of_getElem? (i := 113) rfl)) rfl
theorem aw_159 : Cond.methodLinkNest RX8 43 yX0_init "IceForCoast" ∈ NW := NW_in (tk_1 _ (List.mem_of_getElem? (i := 114) rfl)) rfl
theorem aw_160 : Cond.instanceMethod yX0_init ∈ AL := AL_in (tk_1 _ (List.mem_of_getElem? (i := 115) rfl)) rfl
theorem aw_161 : Cond.code yX0_init cX0_init 1 none ∈ AL := AL_in (tk_1 _ (List.mem_of_getElem? (i := 116) rfl)) rfl
theorem aw_162 : Cond.methodLink RX0 1 objectInit ∈ AL := AL_in (tk_1 _ (List.mem_of_getElem? (i := 117) rfl)) rfl
theorem aw_163 : Cond.fieldLink RX0 9 "IceForCoast$Berg" "kind" "I" ∈ AL := AL_in (tk_1 _ (List.mem_of_getElem? (i := 118) rfl)) rfl
theorem aw_164 : Cond.fieldLinkNest RX8 137 "IceForCoast$Berg" "kind" "I" "IceForCoast" ∈ NW := NW_in (tk_1 _ (List.mem_of_getElem? (i := 119) rfl)) rfl
theorem aw_165 : Cond.fieldLinkNest RX9 148 "IceForCoast$Berg" "kind" "I" "IceForCoast" ∈ NW := NW_in (tk_1 _ (List.mem_of_getElem? (i := 120) rfl)) rfl
theorem aw_166 : Cond.fieldLinkNest RX8 71 "IceForCoast$Berg" "square" "I" "IceForCoast" ∈ NW := NW_in (tk_1 _ (List.mem_of_getElem? (i := 121) rfl)) rfl
theorem aw_167 : Cond.fieldLink RX0 13 "IceForCoast$Berg" "square" "I" ∈ AL := AL_in (tk_1 _ (List.mem_of_getElem? (i := 122) rfl)) rfl
theorem aw_168 : Cond.fieldLinkNest RX9 151 "IceForCoast$Berg" "square" "I" "IceForCoast" ∈ NW := NW_in (tk_1 _ (List.mem_of_getElem? (i := 123) rfl)) rfl
theorem aw_169 : Cond.fieldLinkNest RX2 35 "IceForCoast$Berg" "size" "I" "IceForCoast" ∈ NW := NW_in (tk_1 _ (List.mem_of_getElem? (i := 124) rfl)) rfl
theorem aw_170 : Cond.fieldLink RX0 16 "IceForCoast$Berg" "size" "I" ∈ AL := AL_in (tk_1 _ (List.mem_of_getElem? (i := 125) rfl)) rfl
theorem aw_171 : Cond.fieldLinkNest RX9 154 "IceForCoast$Berg" "size" "I" "IceForCoast" ∈ NW := NW_in (tk_1 _ (List.mem_of_getElem? (i := 126) rfl)) rfl
theorem aw_172 : Cond.fieldLinkNest RX8 68 "IceForCoast$Berg" "foot" "I" "IceForCoast" ∈ NW := NW_in (tk_1 _ (List.mem_of_getElem? (i := 127) rfl)) rfl
theorem aw_173 : Cond.fieldLinkNest RX2 40 "IceForCoast$Berg" "foot" "I" "IceForCoast" ∈ NW := NW_in (tk_1 _ (List.mem_of_getElem? (i := 128) rfl)) rfl
theorem aw_174 : Cond.fieldLink RX0 19 "IceForCoast$Berg" "foot" "I" ∈ AL := AL_in (tk_1 _ (List.mem_of_getElem? (i := 129) rfl)) rfl
theorem aw_175 : Cond.fieldLinkNest RX9 157 "IceForCoast$Berg" "foot" "I" "IceForCoast" ∈ NW := NW_in (tk_1 _ (List.mem_of_getElem? (i := 130) rfl)) rfl
theorem aw_176 : Cond.fieldLink RX0 22 "IceForCoast$Berg" "n" "I" ∈ AL := AL_in (tk_1 _ (List.mem_of_getElem? (i := 131) rfl)) rfl
theorem aw_177 : Cond.fieldLinkNest RX9 160 "IceForCoast$Berg" "n" "I" "IceForCoast" ∈ NW := NW_in (tk_1 _ (List.mem_of_getElem? (i := 132) rfl)) rfl
theorem aw_178 : Cond.fieldLink RX0 25 "IceForCoast$Berg" "flat" "Z" ∈ AL := AL_in (tk_1 _ (List.mem_of_getElem? (i := 133) rfl)) rfl
theorem aw_192 : Cond.fieldLink RX8 12 "IceForCoast$Tow" "sea" "LIceForCoast$Sea;" ∈ AL := AL_in (tk_1 _ (List.mem_of_getElem? (i := 147) rfl)) rfl
theorem aw_193 : Cond.fieldLinkNest RX9 23 "IceForCoast$Tow" "sea" "LIceForCoast$Sea;" "IceForCoast" ∈ NW := NW_in (tk_1 _ (List.mem_of_getElem? (i := 148) rfl)) rfl
theorem aw_194 : Cond.fieldLink RX8 21 "IceForCoast$Tow" "coins" "LIceForCoast$Coins;" ∈ AL := AL_in (tk_1 _ (List.mem_of_getElem? (i := 149) rfl)) rfl
theorem aw_195 : Cond.fieldLinkNest RX9 30 "IceForCoast$Tow" "coins" "LIceForCoast$Coins;" "IceForCoast" ∈ NW := NW_in (tk_1 _ (List.mem_of_getElem? (i := 150) rfl)) rfl
theorem aw_196 : Cond.fieldLink RX8 25 "IceForCoast$Tow" "sizeAt" "[I" ∈ AL := AL_in (tk_1 _ (List.mem_of_getElem? (i := 151) rfl)) rfl
theorem aw_197 : Cond.fieldLink RX8 29 "IceForCoast$Tow" "footAt" "[I" ∈ AL := AL_in (tk_1 _ (List.mem_of_getElem? (i := 152) rfl)) rfl
theorem aw_198 : Cond.fieldLink RX8 32 "IceForCoast$Tow" "dayAt" "[I" ∈ AL := AL_in (tk_1 _ (List.mem_of_getElem? (i := 153) rfl)) rfl
theorem aw_199 : Cond.fieldLink RX8 35 "IceForCoast$Tow" "trial" "[I" ∈ AL := AL_in (tk_1 _ (List.mem_of_getElem? (i := 154) rfl)) rfl
theorem aw_200 : Cond.fieldLink RX8 38 "IceForCoast$Tow" "chosen" "[I" ∈ AL := AL_in (tk_1 _ (List.mem_of_getElem? (i := 155) rfl)) rfl
theorem aw_201 : Cond.fieldLink RX8 44 "IceForCoast$Tow" "berg" "LIceForCoast$Berg;" ∈ AL := AL_in (tk_1 _ (List.mem_of_getElem? (i := 156) rfl)) rfl
theorem aw_202 : Cond.fieldLink RX8 48 "IceForCoast$Tow" "tugs" "I" ∈ AL := AL_in (tk_1 _ (List.mem_of_getElem? (i := 157) rfl)) rfl
theorem aw_203 : Cond.fieldLink RX8 58 "IceForCoast$Tow" "skirt" "Z" ∈ AL := AL_in (tk_1 _ (List.mem_of_getElem? (i := 158) rfl)) rfl
theorem aw_204 : Cond.fieldLink RX8 62 "IceForCoast$Tow" "found" "Z" ∈ AL := AL_in (tk_1 _ (List.mem_of_getElem? (i := 159) rfl)) rfl
theorem aw_205 : Cond.fieldLink RX8 93 "IceForCoast$Tow" "water" "I" ∈ AL := AL_in (tk_1 _ (List.mem_of_getElem? (i := 160) rfl)) rfl
theorem aw_206 : Cond.fieldLinkNest RX9 188 "IceForCoast$Tow" "water" "I" "IceForCoast" ∈ NW := NW_in (tk_1 _ (List.mem_of_getElem? (i := 161) rfl)) rfl
theorem aw_207 : Cond.fieldLink RX8 96 "IceForCoast$Tow" "days" "I" ∈ AL := AL_in (tk_1 _ (List.mem_of_getElem? (i := 162) rfl)) rfl
theorem aw_208 : Cond.fieldLinkNest RX9 191 "IceForCoast$Tow" "days" "I" "IceForCoast" ∈ NW := NW_in (tk_1 _ (List.mem_of_getElem? (i := 163) rfl)) rfl
theorem aw_209 : Cond.fieldLink RX8 114 "IceForCoast$Tow" "gain" "I" ∈ AL := AL_in (tk_1 _ (List.mem_of_getElem? (i := 164) rfl)) rfl
theorem aw_210 : Cond.fieldLinkNest RX9 194 "IceForCoast$Tow" "gain" "I" "IceForCoast" ∈ NW := NW_in (tk_1 _ (List.mem_of_getElem? (i := 165) rfl)) rfl
theorem aw_211 : Cond.fieldLink RX8 82 "IceForCoast$Tow" "steps" "I" ∈ AL := AL_in (tk_1 _ (List.mem_of_getElem? (i := 166) rfl)) rfl
theorem aw_212 : Cond.fieldLinkNest RX9 197 "IceForCoast$Tow" "steps" "I" "IceForCoast" ∈ NW := NW_in (tk_1 _ (List.mem_of_getElem? (i := 167) rfl)) rfl
theorem aw_213 : Cond.fieldLink RX8 65 "IceForCoast$Tow" "drawing" "Z" ∈ AL := AL_in (tk_1 _ (List.mem_of_getElem? (i := 168) rfl)) rfl
theorem aw_214 : Cond.fieldLink RX8 78 "IceForCoast$Tow" "seed" "J" ∈ AL := AL_in (tk_1 _ (List.mem_of_getElem? (i := 169) rfl)) rfl
theorem aw_215 : Cond.fieldLinkNest RX9 238 "IceForCoast$Tow" "seed" "J" "IceForCoast" ∈ NW := NW_in (tk_1 _ (List.mem_of_getElem? (i := 170) rfl)) rfl
theorem aw_251 : Cond.classLink RX9 35 RX0 ∈ AL := AL_in (tk_1 _ (List.mem_of_getElem? (i := 206) rfl)) rfl
theorem aw_253 : Cond.classLink RX9 41 RX4 ∈ AL := AL_in (tk_1 _ (List.mem_of_getElem? (i := 208) rfl)) rfl
theorem aw_254 : Cond.instantiable RX4 4 ∈ AL := AL_in (tk_1 _ (List.mem_of_getElem? (i := 209) rfl)) rfl
theorem aw_255 : Cond.methodLinkNest RX9 43 yX4_init "IceForCoast" ∈ NW := NW_in (tk_1 _ (List.mem_of_getElem? (i := 210) rfl)) rfl
theorem aw_256 : Cond.instanceMethod yX4_init ∈ AL := AL_in (tk_1 _ (List.mem_of_getElem? (i := 211) rfl)) rfl
theorem aw_257 : Cond.code yX4_init cX4_init 1 none ∈ AL := AL_in (tk_1 _ (List.mem_of_getElem? (i := 212) rfl)) rfl
theorem aw_258 : Cond.methodLink RX4 3 objectInit ∈ AL := AL_in (tk_1 _ (List.mem_of_getElem? (i := 213) rfl)) rfl
theorem aw_259 : Cond.fieldLink RX4 11 "IceForCoast$Lines" "house" "[I" ∈ AL := AL_in (tk_1 _ (List.mem_of_getElem? (i := 214) rfl)) rfl
theorem aw_260 : Cond.fieldLinkNest RX9 325 "IceForCoast$Lines" "house" "[I" "IceForCoast" ∈ NW := NW_in (tk_1 _ (List.mem_of_getElem? (i := 215) rfl)) rfl
theorem aw_261 : Cond.fieldLink RX4 15 "IceForCoast$Lines" "berg" "[I" ∈ AL := AL_in (tk_1 _ (List.mem_of_getElem? (i := 216) rfl)) rfl
theorem aw_262 : Cond.fieldLinkNest RX9 328 "IceForCoast$Lines" "berg" "[I" "IceForCoast" ∈ NW := NW_in (tk_1 _ (List.mem_of_getElem? (i := 217) rfl)) rfl
theorem aw_263 : Cond.fieldLink RX4 18 "IceForCoast$Lines" "day" "[I" ∈ AL := AL_in (tk_1 _ (List.mem_of_getElem? (i := 218) rfl)) rfl
theorem aw_264 : Cond.fieldLinkNest RX9 331 "IceForCoast$Lines" "day" "[I" "IceForCoast" ∈ NW := NW_in (tk_1 _ (List.mem_of_getElem? (i := 219) rfl)) rfl
theorem aw_265 : Cond.fieldLink RX4 21 "IceForCoast$Lines" "length" "I" ∈ AL := AL_in (tk_1 _ (List.mem_of_getElem? (i := 220) rfl)) rfl
theorem aw_266 : Cond.fieldLinkNest RX9 268 "IceForCoast$Lines" "length" "I" "IceForCoast" ∈ NW := NW_in (tk_1 _ (List.mem_of_getElem? (i := 221) rfl)) rfl
theorem aw_276 : Cond.classLink RX9 48 RX2 ∈ AL := AL_in (tk_1 _ (List.mem_of_getElem? (i := 231) rfl)) rfl
theorem aw_277 : Cond.instantiable RX2 6 ∈ AL := AL_in (tk_1 _ (List.mem_of_getElem? (i := 232) rfl)) rfl
theorem aw_278 : Cond.methodLinkNest RX9 50 yX2_init "IceForCoast" ∈ NW := NW_in (tk_1 _ (List.mem_of_getElem? (i := 233) rfl)) rfl
theorem aw_279 : Cond.instanceMethod yX2_init ∈ AL := AL_in (tk_1 _ (List.mem_of_getElem? (i := 234) rfl)) rfl
theorem aw_280 : Cond.code yX2_init cX2_init 1 none ∈ AL := AL_in (tk_1 _ (List.mem_of_getElem? (i := 235) rfl)) rfl
theorem aw_281 : Cond.methodLink RX2 3 objectInit ∈ AL := AL_in (tk_1 _ (List.mem_of_getElem? (i := 236) rfl)) rfl
theorem aw_282 : Cond.classLink RX2 18 RX1 ∈ AL := AL_in (tk_1 _ (List.mem_of_getElem? (i := 237) rfl)) rfl
theorem aw_283 : Cond.methodLinkNest RX2 20 yX1_init "IceForCoast" ∈ NW := NW_in (tk_1 _ (List.mem_of_getElem? (i := 238) rfl)) rfl
theorem aw_284 : Cond.fieldLink RX2 9 "IceForCoast$Image" "sizes" "[I" ∈ AL := AL_in (tk_1 _ (List.mem_of_getElem? (i := 239) rfl)) rfl
theorem aw_285 : Cond.fieldLink RX2 15 "IceForCoast$Image" "feet" "[I" ∈ AL := AL_in (tk_2 _ (List.mem_of_getElem? (i := 0) rfl)) rfl
theorem aw_286 : Cond.fieldLink RX2 21 "IceForCoast$Image" "coins" "LIceForCoast$Coins;" ∈ AL := AL_in (tk_2 _ (List.mem_of_getElem? (i := 1) rfl)) rfl
theorem aw_287 : Cond.fieldLink RX2 31 "IceForCoast$Image" "bergCount" "I" ∈ AL := AL_in (tk_2 _ (List.mem_of_getElem? (i := 2) rfl)) rfl
theorem aw_288 : Cond.fieldLinkNest RX9 301 "IceForCoast$Image" "bergCount" "I" "IceForCoast" ∈ NW := NW_in (tk_2 _ (List.mem_of_getElem? (i := 3) rfl)) rfl
theorem aw_289 : Cond.fieldLinkNest RX9 291 "IceForCoast$Image" "lineCount" "I" "IceForCoast" ∈ NW := NW_in (tk_2 _ (List.mem_of_getElem? (i := 4) rfl)) rfl
theorem aw_290 : Cond.fieldLinkNest RX9 294 "IceForCoast$Image" "seaNumber" "I" "IceForCoast" ∈ NW := NW_in (tk_2 _ (List.mem_of_getElem? (i := 5) rfl)) rfl
theorem aw_304 : Cond.classLink RX9 55 RX3 ∈ AL := AL_in (tk_2 _ (List.mem_of_getElem? (i := 19) rfl)) rfl
theorem aw_305 : Cond.instantiable RX3 4 ∈ AL := AL_in (tk_2 _ (List.mem_of_getElem? (i := 20) rfl)) rfl
theorem aw_306 : Cond.methodLinkNest RX9 57 yX3_init "IceForCoast" ∈ NW := NW_in (tk_2 _ (List.mem_of_getElem? (i := 21) rfl)) rfl
theorem aw_307 : Cond.instanceMethod yX3_init ∈ AL := AL_in (tk_2 _ (List.mem_of_getElem? (i := 22) rfl)) rfl
theorem aw_308 : Cond.code yX3_init cX3_init 1 none ∈ AL := AL_in (tk_2 _ (List.mem_of_getElem? (i := 23) rfl)) rfl
theorem aw_309 : Cond.methodLink RX3 3 objectInit ∈ AL := AL_in (tk_2 _ (List.mem_of_getElem? (i := 24) rfl)) rfl
theorem aw_310 : Cond.classLink RX3 11 "[[I" ∈ AL := AL_in (tk_2 _ (List.mem_of_getElem? (i := 25) rfl)) rfl
theorem aw_311 : Cond.fieldLink RX3 13 "IceForCoast$Ledger" "gains" "[[I" ∈ AL := AL_in (tk_2 _ (List.mem_of_getElem? (i := 26) rfl)) rfl
theorem aw_312 : Cond.fieldLinkNest RX9 219 "IceForCoast$Ledger" "gains" "[[I" "IceForCoast" ∈ NW := NW_in (tk_2 _ (List.mem_of_getElem? (i := 27) rfl)) rfl
theorem aw_313 : Cond.fieldLink RX3 16 "IceForCoast$Ledger" "known" "[Z" ∈ AL := AL_in (tk_2 _ (List.mem_of_getElem? (i := 28) rfl)) rfl
theorem aw_314 : Cond.fieldLinkNest RX9 340 "IceForCoast$Ledger" "known" "[Z" "IceForCoast" ∈ NW := NW_in (tk_2 _ (List.mem_of_getElem? (i := 29) rfl)) rfl
theorem aw_315 : Cond.fieldLink RX3 20 "IceForCoast$Ledger" "towable" "[Z" ∈ AL := AL_in (tk_2 _ (List.mem_of_getElem? (i := 30) rfl)) rfl
theorem aw_316 : Cond.fieldLinkNest RX9 344 "IceForCoast$Ledger" "towable" "[Z" "IceForCoast" ∈ NW := NW_in (tk_2 _ (List.mem_of_getElem? (i := 31) rfl)) rfl
theorem aw_317 : Cond.fieldLink RX3 23 "IceForCoast$Ledger" "most" "[[I" ∈ AL := AL_in (tk_2 _ (List.mem_of_getElem? (i := 32) rfl)) rfl
theorem aw_318 : Cond.fieldLinkNest RX9 226 "IceForCoast$Ledger" "most" "[[I" "IceForCoast" ∈ NW := NW_in (tk_2 _ (List.mem_of_getElem? (i := 33) rfl)) rfl
theorem aw_328 : Cond.arrayClass .boolean ∈ AL := AL_in (tk_2 _ (List.mem_of_getElem? (i := 43) rfl)) rfl
theorem aw_329 : Cond.classLink RX9 62 RX5 ∈ AL := AL_in (tk_2 _ (List.mem_of_getElem? (i := 44) rfl)) rfl
theorem aw_330 : Cond.instantiable RX5 4 ∈ AL := AL_in (tk_2 _ (List.mem_of_getElem? (i := 45) rfl)) rfl
theorem aw_331 : Cond.methodLinkNest RX9 64 yX5_init "IceForCoast" ∈ NW := NW_in (tk_2 _ (List.mem_of_getElem? (i := 46) rfl)) rfl
theorem aw_332 : Cond.instanceMethod yX5_init ∈ AL := AL_in (tk_2 _ (List.mem_of_getElem? (i := 47) rfl)) rfl
theorem aw_333 : Cond.code yX5_init cX5_init 1 none ∈ AL := AL_in (tk_2 _ (List.mem_of_getElem? (i := 48) rfl)) rfl
theorem aw_334 : Cond.methodLink RX5 3 objectInit ∈ AL := AL_in (tk_2 _ (List.mem_of_getElem? (i := 49) rfl)) rfl
theorem aw_335 : Cond.fieldLink RX5 9 "IceForCoast$Odds" "water" "[J" ∈ AL := AL_in (tk_2 _ (List.mem_of_getElem? (i := 50) rfl)) rfl
theorem aw_336 : Cond.fieldLink RX5 38 "IceForCoast$Odds" "above" "J" ∈ AL := AL_in (tk_2 _ (List.mem_of_getElem? (i := 51) rfl)) rfl
theorem aw_337 : Cond.fieldLinkNest RX9 251 "IceForCoast$Odds" "above" "J" "IceForCoast" ∈ NW := NW_in (tk_2 _ (List.mem_of_getElem? (i := 52) rfl)) rfl
theorem aw_338 : Cond.fieldLink RX5 42 "IceForCoast$Odds" "below" "J" ∈ AL := AL_in (tk_2 _ (List.mem_of_getElem? (i := 53) rfl)) rfl
theorem aw_339 : Cond.fieldLinkNest RX9 254 "IceForCoast$Odds" "below" "J" "IceForCoast" ∈ NW := NW_in (tk_2 _ (List.mem_of_getElem? (i := 54) rfl)) rfl
theorem aw_340 : Cond.fieldLink RX5 15 "IceForCoast$Odds" "letsOff" "Z" ∈ AL := AL_in (tk_2 _ (List.mem_of_getElem? (i := 55) rfl)) rfl
theorem aw_341 : Cond.fieldLinkNest RX9 257 "IceForCoast$Odds" "letsOff" "Z" "IceForCoast" ∈ NW := NW_in (tk_2 _ (List.mem_of_getElem? (i := 56) rfl)) rfl
theorem aw_351 : Cond.arrayClass .long ∈ AL := AL_in (tk_2 _ (List.mem_of_getElem? (i := 66) rfl)) rfl
theorem aw_352 : Cond.methodLinkNest RX9 69 yX0_init "IceForCoast" ∈ NW := NW_in (tk_2 _ (List.mem_of_getElem? (i := 67) rfl)) rfl
theorem aw_353 : Cond.fieldLink RX9 10 "IceForCoast" "thePage" "LIceForCoast$Page;" ∈ AL := AL_in (tk_2 _ (List.mem_of_getElem? (i := 68) rfl)) rfl
theorem aw_354 : Cond.fieldLink RX9 19 "IceForCoast" "theTow" "LIceForCoast$Tow;" ∈ AL := AL_in (tk_2 _ (List.mem_of_getElem? (i := 69) rfl)) rfl
theorem aw_355 : Cond.fieldLink RX9 27 "IceForCoast" "theSea" "LIceForCoast$Sea;" ∈ AL := AL_in (tk_2 _ (List.mem_of_getElem? (i := 70) rfl)) rfl
theorem aw_356 : Cond.fieldLink RX9 34 "IceForCoast" "coins" "LIceForCoast$Coins;" ∈ AL := AL_in (tk_2 _ (List.mem_of_getElem? (i := 71) rfl)) rfl
theorem aw_357 : Cond.fieldLink RX9 37 "IceForCoast" "bergs" "[LIceForCoast$Berg;" ∈ AL := AL_in (tk_2 _ (List.mem_of_getElem? (i := 72) rfl)) rfl
theorem aw_358 : Cond.fieldLink RX9 44 "IceForCoast" "lines" "LIceForCoast$Lines;" ∈ AL := AL_in (tk_2 _ (List.mem_of_getElem? (i := 73) rfl)) rfl
theorem aw_359 : Cond.fieldLink RX9 51 "IceForCoast" "kept" "LIceForCoast$Image;" ∈ AL := AL_in (tk_2 _ (List.mem_of_getElem? (i := 74) rfl)) rfl
theorem aw_360 : Cond.fieldLink RX9 58 "IceForCoast" "ledger" "LIceForCoast$Ledger;" ∈ AL := AL_in (tk_2 _ (List.mem_of_getElem? (i := 75) rfl)) rfl
theorem aw_361 : Cond.fieldLink RX9 65 "IceForCoast" "theOdds" "LIceForCoast$Odds;" ∈ AL := AL_in (tk_2 _ (List.mem_of_getElem? (i := 76) rfl)) rfl
theorem aw_362 : Cond.fieldLink RX9 91 "IceForCoast" "bergCount" "I" ∈ AL := AL_in (tk_2 _ (List.mem_of_getElem? (i := 77) rfl)) rfl
theorem aw_363 : Cond.fieldLink RX9 99 "IceForCoast" "seasRead" "I" ∈ AL := AL_in (tk_2 _ (List.mem_of_getElem? (i := 78) rfl)) rfl
theorem aw_364 : Cond.fieldLink RX9 242 "IceForCoast" "cameDone" "I" ∈ AL := AL_in (tk_2 _ (List.mem_of_getElem? (i := 79) rfl)) rfl
theorem aw_390 : Cond.methodLink RL 15 yX9_letters ∈ AL := AL_in (tk_2 _ (List.mem_of_getElem? (i := 105) rfl)) rfl
theorem aw_391 : Cond.instanceMethod yX9_letters ∈ AL := AL_in (tk_2 _ (List.mem_of_getElem? (i := 106) rfl)) rfl
theorem aw_392 : Cond.selects RX9 yX9_letters yX9_letters ∈ AL := AL_in (tk_2 _ (List.mem_of_getElem? (i := 107) rfl)) rfl
theorem aw_393 : Cond.code yX9_letters cX9_letters 3 (some .int) ∈ AL := AL_in (tk_2 _ (List.mem_of_getElem? (i := 108) rfl)) rfl
theorem aw_394 : Cond.methodLink RX9 70 yX6_append ∈ AL := AL_in (tk_2 _ (List.mem_of_getElem? (i := 109) rfl)) rfl
theorem aw_395 : Cond.instanceMethod yX6_append ∈ AL := AL_in (tk_2 _ (List.mem_of_getElem? (i := 110) rfl)) rfl
theorem aw_396 : Cond.selects RX6 yX6_append yX6_append ∈ AL := AL_in (tk_2 _ (List.mem_of_getElem? (i := 111) rfl)) rfl
theorem aw_397 : Cond.code yX6_append cX6_append 7 (some .int) ∈ AL := AL_in (tk_2 _ (List.mem_of_getElem? (i := 112) rfl)) rfl
theorem aw_398 : Cond.methodLink RX6 15 yX6_byteOf ∈ AL := AL_in (tk_2 _ (List.mem_of_getElem? (i := 113) rfl)) rfl
theorem aw_399 : Cond.static yX6_byteOf ∈ AL := AL_in (tk_2 _ (List.mem_of_getElem? (i := 114) rfl)) rfl
theorem aw_400 : Cond.code yX6_byteOf cX6_byteOf 3 (some .int) ∈ AL := AL_in (tk_2 _ (List.mem_of_getElem? (i := 115) rfl)) rfl
theorem aw_401 : Cond.methodLink RL 20 yX9_blank ∈ AL := AL_in (tk_2 _ (List.mem_of_getElem? (i := 116) rfl)) rfl
theorem aw_402 : Cond.instanceMethod yX9_blank ∈ AL := AL_in (tk_2 _ (List.mem_of_getElem? (i := 117) rfl)) rfl
theorem aw_403 : Cond.selects RX9 yX9_blank yX9_blank ∈ AL := AL_in (tk_2 _ (List.mem_of_getElem? (i := 118) rfl)) rfl
theorem aw_404 : Cond.code yX9_blank cX9_blank 1 (some .int) ∈ AL := AL_in (tk_2 _ (List.mem_of_getElem? (i := 119) rfl)) rfl
theorem aw_405 : Cond.methodLink RX9 74 yX6_clear ∈ AL := AL_in (tk_2 _ (List.mem_of_getElem? (i := 120) rfl)) rfl
theorem aw_406 : Cond.instanceMethod yX6_clear ∈ AL := AL_in (tk_2 _ (List.mem_of_getElem? (i := 121) rfl)) rfl
theorem aw_407 : Cond.selects RX6 yX6_clear yX6_clear ∈ AL := AL_in (tk_2 _ (List.mem_of_getElem? (i := 122) rfl)) rfl
theorem aw_408 : Cond.code yX6_clear cX6_clear 2 (some .int) ∈ AL := AL_in (tk_2 _ (List.mem_of_getElem? (i := 123) rfl)) rfl
theorem aw_409 : Cond.methodLink RL 25 yX9_fault ∈ AL := AL_in (tk_2 _ (List.mem_of_getElem? (i := 124) rfl)) rfl
theorem aw_410 : Cond.instanceMethod yX9_fault ∈ AL := AL_in (tk_2 _ (List.mem_of_getElem? (i := 125) rfl)) rfl
theorem aw_411 : Cond.selects RX9 yX9_fault yX9_fault ∈ AL := AL_in (tk_2 _ (List.mem_of_getElem? (i := 126) rfl)) rfl
theorem aw_412 : Cond.code yX9_fault cX9_fault 1 (some .int) ∈ AL := AL_in (tk_2 _ (List.mem_of_getElem? (i := 127) rfl)) rfl
theorem aw_413 : Cond.methodLink RX9 78 yX6_firstWrong ∈ AL := AL_in (tk_2 _ (List.mem_of_getElem? (i := 128) rfl)) rfl
theorem aw_414 : Cond.instanceMethod yX6_firstWrong ∈ AL := AL_in (tk_2 _ (List.mem_of_getElem? (i := 129) rfl)) rfl
theorem aw_415 : Cond.selects RX6 yX6_firstWrong yX6_firstWrong ∈ AL := AL_in (tk_2 _ (List.mem_of_getElem? (i := 130) rfl)) rfl
theorem aw_416 : Cond.code yX6_firstWrong cX6_firstWrong 2 (some .int) ∈ AL := AL_in (tk_2 _ (List.mem_of_getElem? (i := 131) rfl)) rfl
theorem aw_417 : Cond.methodLink RX6 39 yX6_takes ∈ AL := AL_in (tk_2 _ (List.mem_of_getElem? (i := 132) rfl)) rfl
theorem aw_419 : Cond.instanceMethod yX6_takes ∈ AL := AL_in (tk_2 _ (List.mem_of_getElem? (i := 134) rfl)) rfl
theorem aw_420 : Cond.code yX6_takes cX6_takes 3 (some .boolean) ∈ AL := AL_in (tk_2 _ (List.mem_of_getElem? (i := 135) rfl)) rfl
theorem aw_421 : Cond.methodLink RX6 47 yX6_takesRowEnd ∈ AL := AL_in (tk_2 _ (List.mem_of_getElem? (i := 136) rfl)) rfl
theorem aw_423 : Cond.instanceMethod yX6_takesRowEnd ∈ AL := AL_in (tk_2 _ (List.mem_of_getElem? (i := 138) rfl)) rfl
theorem aw_424 : Cond.code yX6_takesRowEnd cX6_takesRowEnd 2 (some .boolean) ∈ AL := AL_in (tk_2 _ (List.mem_of_getElem? (i := 139) rfl)) rfl
theorem aw_425 : Cond.methodLink RX6 51 yX7_wayOf ∈ AL := AL_in (tk_2 _ (List.mem_of_getElem? (i := 140) rfl)) rfl
theorem aw_426 : Cond.static yX7_wayOf ∈ AL := AL_in (tk_2 _ (List.mem_of_getElem? (i := 141) rfl)) rfl
theorem aw_427 : Cond.code yX7_wayOf cX7_wayOf 1 (some .int) ∈ AL := AL_in (tk_2 _ (List.mem_of_getElem? (i := 142) rfl)) rfl
theorem aw_428 : Cond.methodLink RX6 57 yX6_takesSquare ∈ AL := AL_in (tk_2 _ (List.mem_of_getElem? (i := 143) rfl)) rfl
theorem aw_430 : Cond.instanceMethod yX6_takesSquare ∈ AL := AL_in (tk_2 _ (List.mem_of_getElem? (i := 145) rfl)) rfl
theorem aw_431 : Cond.code yX6_takesSquare cX6_takesSquare 4 (some .boolean) ∈ AL := AL_in (tk_2 _ (List.mem_of_getElem? (i := 146) rfl)) rfl
theorem aw_432 : Cond.methodLink RL 29 yX9_sea ∈ AL := AL_in (tk_2 _ (List.mem_of_getElem? (i := 147) rfl)) rfl
theorem aw_433 : Cond.instanceMethod yX9_sea ∈ AL := AL_in (tk_2 _ (List.mem_of_getElem? (i := 148) rfl)) rfl
theorem aw_434 : Cond.selects RX9 yX9_sea yX9_sea ∈ AL := AL_in (tk_2 _ (List.mem_of_getElem? (i := 149) rfl)) rfl
theorem aw_435 : Cond.code yX9_sea cX9_sea 1 (some .int) ∈ AL := AL_in (tk_2 _ (List.mem_of_getElem? (i := 150) rfl)) rfl
theorem aw_436 : Cond.methodLink RX9 81 yX6_isSea ∈ AL := AL_in (tk_2 _ (List.mem_of_getElem? (i := 151) rfl)) rfl
theorem aw_437 : Cond.instanceMethod yX6_isSea ∈ AL := AL_in (tk_2 _ (List.mem_of_getElem? (i := 152) rfl)) rfl
theorem aw_438 : Cond.selects RX6 yX6_isSea yX6_isSea ∈ AL := AL_in (tk_2 _ (List.mem_of_getElem? (i := 153) rfl)) rfl
theorem aw_439 : Cond.code yX6_isSea cX6_isSea 1 (some .boolean) ∈ AL := AL_in (tk_2 _ (List.mem_of_getElem? (i := 154) rfl)) rfl
theorem aw_440 : Cond.methodLink RX6 43 yX6_firstWrong ∈ AL := AL_in (tk_2 _ (List.mem_of_getElem? (i := 155) rfl)) rfl
theorem aw_441 : Cond.methodLink RX9 85 yX7_lay ∈ AL := AL_in (tk_2 _ (List.mem_of_getElem? (i := 156) rfl)) rfl
theorem aw_442 : Cond.instanceMethod yX7_lay ∈ AL := AL_in (tk_2 _ (List.mem_of_getElem? (i := 157) rfl)) rfl
theorem aw_443 : Cond.selects RX7 yX7_lay yX7_lay ∈ AL := AL_in (tk_2 _ (List.mem_of_getElem? (i := 158) rfl)) rfl
theorem aw_444 : Cond.code yX7_lay cX7_lay 3 none ∈ AL := AL_in (tk_2 _ (List.mem_of_getElem? (i := 159) rfl)) rfl
theorem aw_445 : Cond.methodLink RX7 45 yX6_codeAt ∈ AL := AL_in (tk_2 _ (List.mem_of_getElem? (i := 160) rfl)) rfl
theorem aw_446 : Cond.instanceMethod yX6_codeAt ∈ AL := AL_in (tk_2 _ (List.mem_of_getElem? (i := 161) rfl)) rfl
theorem aw_447 : Cond.selects RX6 yX6_codeAt yX6_codeAt ∈ AL := AL_in (tk_2 _ (List.mem_of_getElem? (i := 162) rfl)) rfl
theorem aw_448 : Cond.code yX6_codeAt cX6_codeAt 2 (some .int) ∈ AL := AL_in (tk_2 _ (List.mem_of_getElem? (i := 163) rfl)) rfl
theorem aw_449 : Cond.methodLink RX7 49 yX7_layLetter ∈ AL := AL_in (tk_2 _ (List.mem_of_getElem? (i := 164) rfl)) rfl
theorem aw_451 : Cond.instanceMethod yX7_layLetter ∈ AL := AL_in (tk_2 _ (List.mem_of_getElem? (i := 166) rfl)) rfl
theorem aw_452 : Cond.code yX7_layLetter cX7_layLetter 3 none ∈ AL := AL_in (tk_2 _ (List.mem_of_getElem? (i := 167) rfl)) rfl
theorem aw_453 : Cond.methodLink RX7 61 yX7_wayOf ∈ AL := AL_in (tk_2 _ (List.mem_of_getElem? (i := 168) rfl)) rfl
theorem aw_454 : Cond.methodLink RX7 53 yX7_measure ∈ AL := AL_in (tk_2 _ (List.mem_of_getElem? (i := 169) rfl)) rfl
theorem aw_456 : Cond.instanceMethod yX7_measure ∈ AL := AL_in (tk_2 _ (List.mem_of_getElem? (i := 171) rfl)) rfl
theorem aw_457 : Cond.code yX7_measure cX7_measure 4 none ∈ AL := AL_in (tk_2 _ (List.mem_of_getElem? (i := 172) rfl)) rfl
theorem aw_458 : Cond.methodLink RX7 67 Lib.Math.abs.name ∈ AL := AL_in (tk_2 _ (List.mem_of_getElem? (i := 173) rfl)) rfl
theorem aw_459 : Cond.static Lib.Math.abs.name ∈ AL := AL_in (tk_2 _ (List.mem_of_getElem? (i := 174) rfl)) rfl
theorem aw_460 : Cond.code Lib.Math.abs.name Lib.Math.abs.code 1 (some .int) ∈ AL := AL_in (tk_2 _ (List.mem_of_getElem? (i := 175) rfl)) rfl
theorem aw_461 : Cond.methodLink RX7 58 yX7_openWays ∈ AL := AL_in (tk_2 _ (List.mem_of_getElem? (i := 176) rfl)) rfl
theorem aw_463 : Cond.instanceMethod yX7_openWays ∈ AL := AL_in (tk_2 _ (List.mem_of_getElem? (i := 178) rfl)) rfl
theorem aw_464 : Cond.code yX7_openWays cX7_openWays 6 none ∈ AL := AL_in (tk_2 _ (List.mem_of_getElem? (i := 179) rfl)) rfl
theorem aw_465 : Cond.methodLink RX7 72 yX7_beside ∈ AL := AL_in (tk_2 _ (List.mem_of_getElem? (i := 180) rfl)) rfl
theorem aw_467 : Cond.instanceMethod yX7_beside ∈ AL := AL_in (tk_2 _ (List.mem_of_getElem? (i := 182) rfl)) rfl
theorem aw_468 : Cond.code yX7_beside cX7_beside 4 (some .int) ∈ AL := AL_in (tk_2 _ (List.mem_of_getElem? (i := 183) rfl)) rfl
theorem aw_469 : Cond.methodLink RX9 95 yX4_cutTo ∈ AL := AL_in (tk_2 _ (List.mem_of_getElem? (i := 184) rfl)) rfl
theorem aw_470 : Cond.instanceMethod yX4_cutTo ∈ AL := AL_in (tk_2 _ (List.mem_of_getElem? (i := 185) rfl)) rfl
theorem aw_471 : Cond.selects RX4 yX4_cutTo yX4_cutTo ∈ AL := AL_in (tk_2 _ (List.mem_of_getElem? (i := 186) rfl)) rfl
theorem aw_472 : Cond.code yX4_cutTo cX4_cutTo 2 none ∈ AL := AL_in (tk_2 _ (List.mem_of_getElem? (i := 187) rfl)) rfl
theorem aw_473 : Cond.methodLink RX4 25 Lib.Math.min.name ∈ AL := AL_in (tk_2 _ (List.mem_of_getElem? (i := 188) rfl)) rfl
theorem aw_474 : Cond.static Lib.Math.min.name ∈ AL := AL_in (tk_2 _ (List.mem_of_getElem? (i := 189) rfl)) rfl
theorem aw_475 : Cond.code Lib.Math.min.name Lib.Math.min.code 2 (some .int) ∈ AL := AL_in (tk_2 _ (List.mem_of_getElem? (i := 190) rfl)) rfl
theorem aw_476 : Cond.methodLink RX4 31 Lib.Math.max.name ∈ AL := AL_in (tk_2 _ (List.mem_of_getElem? (i := 191) rfl)) rfl
theorem aw_477 : Cond.static Lib.Math.max.name ∈ AL := AL_in (tk_2 _ (List.mem_of_getElem? (i := 192) rfl)) rfl
theorem aw_478 : Cond.code Lib.Math.max.name Lib.Math.max.code 2 (some .int) ∈ AL := AL_in (tk_2 _ (List.mem_of_getElem? (i := 193) rfl)) rfl
theorem aw_479 : Cond.methodLink RL 33 yX9_square ∈ AL := AL_in (tk_2 _ (List.mem_of_getElem? (i := 194) rfl)) rfl
theorem aw_480 : Cond.instanceMethod yX9_square ∈ AL := AL_in (tk_2 _ (List.mem_of_getElem? (i := 195) rfl)) rfl
theorem aw_481 : Cond.selects RX9 yX9_square yX9_square ∈ AL := AL_in (tk_2 _ (List.mem_of_getElem? (i := 196) rfl)) rfl
theorem aw_482 : Cond.code yX9_square cX9_square 3 (some .int) ∈ AL := AL_in (tk_2 _ (List.mem_of_getElem? (i := 197) rfl)) rfl
theorem aw_483 : Cond.methodLink RX9 105 yX7_has ∈ AL := AL_in (tk_2 _ (List.mem_of_getElem? (i := 198) rfl)) rfl
theorem aw_484 : Cond.instanceMethod yX7_has ∈ AL := AL_in (tk_2 _ (List.mem_of_getElem? (i := 199) rfl)) rfl
theorem aw_485 : Cond.selects RX7 yX7_has yX7_has ∈ AL := AL_in (tk_2 _ (List.mem_of_getElem? (i := 200) rfl)) rfl
theorem aw_486 : Cond.code yX7_has cX7_has 2 (some .boolean) ∈ AL := AL_in (tk_2 _ (List.mem_of_getElem? (i := 201) rfl)) rfl
theorem aw_487 : Cond.methodLink RL 38 yX9_berg ∈ AL := AL_in (tk_2 _ (List.mem_of_getElem? (i := 202) rfl)) rfl
theorem aw_488 : Cond.instanceMethod yX9_berg ∈ AL := AL_in (tk_2 _ (List.mem_of_getElem? (i := 203) rfl)) rfl
theorem aw_489 : Cond.selects RX9 yX9_berg yX9_berg ∈ AL := AL_in (tk_2 _ (List.mem_of_getElem? (i := 204) rfl)) rfl
theorem aw_490 : Cond.code yX9_berg cX9_berg 6 (some .int) ∈ AL := AL_in (tk_2 _ (List.mem_of_getElem? (i := 205) rfl)) rfl
theorem aw_491 : Cond.methodLink RX9 119 yX0_isKind ∈ AL := AL_in (tk_2 _ (List.mem_of_getElem? (i := 206) rfl)) rfl
theorem aw_492 : Cond.static yX0_isKind ∈ AL := AL_in (tk_2 _ (List.mem_of_getElem? (i := 207) rfl)) rfl
theorem aw_493 : Cond.code yX0_isKind cX0_isKind 1 (some .boolean) ∈ AL := AL_in (tk_2 _ (List.mem_of_getElem? (i := 208) rfl)) rfl
theorem aw_494 : Cond.methodLink RX9 122 yX7_hasWarmth ∈ AL := AL_in (tk_2 _ (List.mem_of_getElem? (i := 209) rfl)) rfl
theorem aw_495 : Cond.instanceMethod yX7_hasWarmth ∈ AL := AL_in (tk_2 _ (List.mem_of_getElem? (i := 210) rfl)) rfl
theorem aw_496 : Cond.selects RX7 yX7_hasWarmth yX7_hasWarmth ∈ AL := AL_in (tk_2 _ (List.mem_of_getElem? (i := 211) rfl)) rfl
theorem aw_497 : Cond.code yX7_hasWarmth cX7_hasWarmth 2 (some .boolean) ∈ AL := AL_in (tk_2 _ (List.mem_of_getElem? (i := 212) rfl)) rfl
theorem aw_498 : Cond.methodLink RX7 33 yX7_has ∈ AL := AL_in (tk_2 _ (List.mem_of_getElem? (i := 213) rfl)) rfl
theorem aw_499 : Cond.methodLink RX9 125 yX9_isSize ∈ AL := AL_in (tk_2 _ (List.mem_of_getElem? (i := 214) rfl)) rfl
theorem aw_500 : Cond.static yX9_isSize ∈ AL := AL_in (tk_2 _ (List.mem_of_getElem? (i := 215) rfl)) rfl
theorem aw_501 : Cond.code yX9_isSize cX9_isSize 1 (some .boolean) ∈ AL := AL_in (tk_2 _ (List.mem_of_getElem? (i := 216) rfl)) rfl
theorem aw_502 : Cond.methodLink RX9 128 yX9_isFoot ∈ AL := AL_in (tk_2 _ (List.mem_of_getElem? (i := 217) rfl)) rfl
theorem aw_503 : Cond.static yX9_isFoot ∈ AL := AL_in (tk_2 _ (List.mem_of_getElem? (i := 218) rfl)) rfl
theorem aw_504 : Cond.code yX9_isFoot cX9_isFoot 1 (some .boolean) ∈ AL := AL_in (tk_2 _ (List.mem_of_getElem? (i := 219) rfl)) rfl
theorem aw_505 : Cond.methodLink RX9 131 yX0_mayBreak ∈ AL := AL_in (tk_2 _ (List.mem_of_getElem? (i := 220) rfl)) rfl
theorem aw_506 : Cond.static yX0_mayBreak ∈ AL := AL_in (tk_2 _ (List.mem_of_getElem? (i := 221) rfl)) rfl
theorem aw_507 : Cond.code yX0_mayBreak cX0_mayBreak 2 (some .boolean) ∈ AL := AL_in (tk_2 _ (List.mem_of_getElem? (i := 222) rfl)) rfl
theorem aw_508 : Cond.methodLink RX9 135 yX0_become ∈ AL := AL_in (tk_2 _ (List.mem_of_getElem? (i := 223) rfl)) rfl
theorem aw_509 : Cond.instanceMethod yX0_become ∈ AL := AL_in (tk_2 _ (List.mem_of_getElem? (i := 224) rfl)) rfl
theorem aw_510 : Cond.selects RX0 yX0_become yX0_become ∈ AL := AL_in (tk_2 _ (List.mem_of_getElem? (i := 225) rfl)) rfl
theorem aw_511 : Cond.code yX0_become cX0_become 6 none ∈ AL := AL_in (tk_2 _ (List.mem_of_getElem? (i := 226) rfl)) rfl
theorem aw_512 : Cond.methodLink RX9 139 yX3_forget ∈ AL := AL_in (tk_2 _ (List.mem_of_getElem? (i := 227) rfl)) rfl
theorem aw_513 : Cond.instanceMethod yX3_forget ∈ AL := AL_in (tk_2 _ (List.mem_of_getElem? (i := 228) rfl)) rfl
theorem aw_514 : Cond.selects RX3 yX3_forget yX3_forget ∈ AL := AL_in (tk_2 _ (List.mem_of_getElem? (i := 229) rfl)) rfl
theorem aw_515 : Cond.code yX3_forget cX3_forget 2 none ∈ AL := AL_in (tk_2 _ (List.mem_of_getElem? (i := 230) rfl)) rfl
theorem aw_516 : Cond.methodLink RL 43 yX9_as ∈ AL := AL_in (tk_2 _ (List.mem_of_getElem? (i := 231) rfl)) rfl
theorem aw_517 : Cond.instanceMethod yX9_as ∈ AL := AL_in (tk_2 _ (List.mem_of_getElem? (i := 232) rfl)) rfl
theorem aw_518 : Cond.selects RX9 yX9_as yX9_as ∈ AL := AL_in (tk_2 _ (List.mem_of_getElem? (i := 233) rfl)) rfl
theorem aw_519 : Cond.code yX9_as cX9_as 3 (some .int) ∈ AL := AL_in (tk_2 _ (List.mem_of_getElem? (i := 234) rfl)) rfl
theorem aw_520 : Cond.methodLink RX9 142 yX9_isBerg ∈ AL := AL_in (tk_2 _ (List.mem_of_getElem? (i := 235) rfl)) rfl
theorem aw_522 : Cond.instanceMethod yX9_isBerg ∈ AL := AL_in (tk_2 _ (List.mem_of_getElem? (i := 237) rfl)) rfl
theorem aw_523 : Cond.code yX9_isBerg cX9_isBerg 2 (some .boolean) ∈ AL := AL_in (tk_2 _ (List.mem_of_getElem? (i := 238) rfl)) rfl
theorem aw_524 : Cond.methodLink RX9 145 yX0_isA ∈ AL := AL_in (tk_2 _ (List.mem_of_getElem? (i := 239) rfl)) rfl
theorem aw_525 : Cond.instanceMethod yX0_isA ∈ AL := AL_in (tk_3 _ (List.mem_of_getElem? (i := 0) rfl)) rfl
theorem aw_526 : Cond.selects RX0 yX0_isA yX0_isA ∈ AL := AL_in (tk_3 _ (List.mem_of_getElem? (i := 1) rfl)) rfl
theorem aw_527 : Cond.code yX0_isA cX0_isA 2 (some .boolean) ∈ AL := AL_in (tk_3 _ (List.mem_of_getElem? (i := 2) rfl)) rfl
theorem aw_528 : Cond.methodLink RL 47 yX9_about ∈ AL := AL_in (tk_3 _ (List.mem_of_getElem? (i := 3) rfl)) rfl
theorem aw_529 : Cond.instanceMethod yX9_about ∈ AL := AL_in (tk_3 _ (List.mem_of_getElem? (i := 4) rfl)) rfl
theorem aw_530 : Cond.selects RX9 yX9_about yX9_about ∈ AL := AL_in (tk_3 _ (List.mem_of_getElem? (i := 5) rfl)) rfl
theorem aw_531 : Cond.code yX9_about cX9_about 3 (some .int) ∈ AL := AL_in (tk_3 _ (List.mem_of_getElem? (i := 6) rfl)) rfl
theorem aw_532 : Cond.methodLink RL 51 yX9_change ∈ AL := AL_in (tk_3 _ (List.mem_of_getElem? (i := 7) rfl)) rfl
theorem aw_533 : Cond.instanceMethod yX9_change ∈ AL := AL_in (tk_3 _ (List.mem_of_getElem? (i := 8) rfl)) rfl
theorem aw_534 : Cond.selects RX9 yX9_change yX9_change ∈ AL := AL_in (tk_3 _ (List.mem_of_getElem? (i := 9) rfl)) rfl
theorem aw_535 : Cond.code yX9_change cX9_change 8 (some .int) ∈ AL := AL_in (tk_3 _ (List.mem_of_getElem? (i := 10) rfl)) rfl
theorem aw_536 : Cond.methodLink RL 56 yX9_coin ∈ AL := AL_in (tk_3 _ (List.mem_of_getElem? (i := 11) rfl)) rfl
theorem aw_537 : Cond.instanceMethod yX9_coin ∈ AL := AL_in (tk_3 _ (List.mem_of_getElem? (i := 12) rfl)) rfl
theorem aw_538 : Cond.selects RX9 yX9_coin yX9_coin ∈ AL := AL_in (tk_3 _ (List.mem_of_getElem? (i := 13) rfl)) rfl
theorem aw_539 : Cond.code yX9_coin cX9_coin 3 (some .int) ∈ AL := AL_in (tk_3 _ (List.mem_of_getElem? (i := 14) rfl)) rfl
theorem aw_540 : Cond.methodLink RX9 163 yX1_mayBe ∈ AL := AL_in (tk_3 _ (List.mem_of_getElem? (i := 15) rfl)) rfl
theorem aw_541 : Cond.instanceMethod yX1_mayBe ∈ AL := AL_in (tk_3 _ (List.mem_of_getElem? (i := 16) rfl)) rfl
theorem aw_542 : Cond.selects RX1 yX1_mayBe yX1_mayBe ∈ AL := AL_in (tk_3 _ (List.mem_of_getElem? (i := 17) rfl)) rfl
theorem aw_543 : Cond.code yX1_mayBe cX1_mayBe 3 (some .boolean) ∈ AL := AL_in (tk_3 _ (List.mem_of_getElem? (i := 18) rfl)) rfl
theorem aw_544 : Cond.fieldLink RX1 13 "IceForCoast$Coins" "LEAST" "[I" ∈ AL := AL_in (tk_3 _ (List.mem_of_getElem? (i := 19) rfl)) rfl
theorem aw_546 : Cond.fieldLink RX1 16 "IceForCoast$Coins" "MOST" "[I" ∈ AL := AL_in (tk_3 _ (List.mem_of_getElem? (i := 21) rfl)) rfl
theorem aw_548 : Cond.methodLink RX9 168 yX3_forgetAll ∈ AL := AL_in (tk_3 _ (List.mem_of_getElem? (i := 23) rfl)) rfl
theorem aw_549 : Cond.instanceMethod yX3_forgetAll ∈ AL := AL_in (tk_3 _ (List.mem_of_getElem? (i := 24) rfl)) rfl
theorem aw_550 : Cond.selects RX3 yX3_forgetAll yX3_forgetAll ∈ AL := AL_in (tk_3 _ (List.mem_of_getElem? (i := 25) rfl)) rfl
theorem aw_551 : Cond.code yX3_forgetAll cX3_forgetAll 2 none ∈ AL := AL_in (tk_3 _ (List.mem_of_getElem? (i := 26) rfl)) rfl
theorem aw_552 : Cond.methodLink RX9 171 yX1_put ∈ AL := AL_in (tk_3 _ (List.mem_of_getElem? (i := 27) rfl)) rfl
theorem aw_553 : Cond.instanceMethod yX1_put ∈ AL := AL_in (tk_3 _ (List.mem_of_getElem? (i := 28) rfl)) rfl
theorem aw_554 : Cond.selects RX1 yX1_put yX1_put ∈ AL := AL_in (tk_3 _ (List.mem_of_getElem? (i := 29) rfl)) rfl
theorem aw_555 : Cond.code yX1_put cX1_put 4 (some .int) ∈ AL := AL_in (tk_3 _ (List.mem_of_getElem? (i := 30) rfl)) rfl
theorem aw_556 : Cond.methodLink RL 60 yX9_tow ∈ AL := AL_in (tk_3 _ (List.mem_of_getElem? (i := 31) rfl)) rfl
theorem aw_557 : Cond.instanceMethod yX9_tow ∈ AL := AL_in (tk_3 _ (List.mem_of_getElem? (i := 32) rfl)) rfl
theorem aw_558 : Cond.selects RX9 yX9_tow yX9_tow ∈ AL := AL_in (tk_3 _ (List.mem_of_getElem? (i := 33) rfl)) rfl
theorem aw_559 : Cond.code yX9_tow cX9_tow 6 (some .int) ∈ AL := AL_in (tk_3 _ (List.mem_of_getElem? (i := 34) rfl)) rfl
theorem aw_560 : Cond.constant RX9 175 (-100101) ∈ AL := AL_in (tk_3 _ (List.mem_of_getElem? (i := 35) rfl)) rfl
theorem aw_561 : Cond.methodLink RX9 176 yX9_isTugs ∈ AL := AL_in (tk_3 _ (List.mem_of_getElem? (i := 36) rfl)) rfl
theorem aw_562 : Cond.static yX9_isTugs ∈ AL := AL_in (tk_3 _ (List.mem_of_getElem? (i := 37) rfl)) rfl
theorem aw_563 : Cond.code yX9_isTugs cX9_isTugs 1 (some .boolean) ∈ AL := AL_in (tk_3 _ (List.mem_of_getElem? (i := 38) rfl)) rfl
theorem aw_564 : Cond.constant RX9 179 (-100102) ∈ AL := AL_in (tk_3 _ (List.mem_of_getElem? (i := 39) rfl)) rfl
theorem aw_565 : Cond.methodLink RX9 180 yX9_hasWay ∈ AL := AL_in (tk_3 _ (List.mem_of_getElem? (i := 40) rfl)) rfl
theorem aw_567 : Cond.instanceMethod yX9_hasWay ∈ AL := AL_in (tk_3 _ (List.mem_of_getElem? (i := 42) rfl)) rfl
theorem aw_568 : Cond.code yX9_hasWay cX9_hasWay 2 (some .boolean) ∈ AL := AL_in (tk_3 _ (List.mem_of_getElem? (i := 43) rfl)) rfl
theorem aw_569 : Cond.constant RX9 183 (-100001) ∈ AL := AL_in (tk_3 _ (List.mem_of_getElem? (i := 44) rfl)) rfl
theorem aw_570 : Cond.methodLink RX9 184 yX8_seek ∈ AL := AL_in (tk_3 _ (List.mem_of_getElem? (i := 45) rfl)) rfl
theorem aw_571 : Cond.instanceMethod yX8_seek ∈ AL := AL_in (tk_3 _ (List.mem_of_getElem? (i := 46) rfl)) rfl
theorem aw_572 : Cond.selects RX8 yX8_seek yX8_seek ∈ AL := AL_in (tk_3 _ (List.mem_of_getElem? (i := 47) rfl)) rfl
theorem aw_573 : Cond.code yX8_seek cX8_seek 5 none ∈ AL := AL_in (tk_3 _ (List.mem_of_getElem? (i := 48) rfl)) rfl
theorem aw_574 : Cond.methodLink RX8 52 Lib.Math.max.name ∈ AL := AL_in (tk_3 _ (List.mem_of_getElem? (i := 49) rfl)) rfl
theorem aw_575 : Cond.methodLink RX8 74 yX8_follow ∈ AL := AL_in (tk_3 _ (List.mem_of_getElem? (i := 50) rfl)) rfl
theorem aw_576 : Cond.static yX8_follow ∈ AL := AL_in (tk_3 _ (List.mem_of_getElem? (i := 51) rfl)) rfl
theorem aw_577 : Cond.code yX8_follow cX8_follow 5 none ∈ AL := AL_in (tk_3 _ (List.mem_of_getElem? (i := 52) rfl)) rfl
theorem aw_578 : Cond.methodLink RX8 99 yX8_isHopeless ∈ AL := AL_in (tk_3 _ (List.mem_of_getElem? (i := 53) rfl)) rfl
theorem aw_580 : Cond.instanceMethod yX8_isHopeless ∈ AL := AL_in (tk_3 _ (List.mem_of_getElem? (i := 55) rfl)) rfl
theorem aw_581 : Cond.code yX8_isHopeless cX8_isHopeless 3 (some .boolean) ∈ AL := AL_in (tk_3 _ (List.mem_of_getElem? (i := 56) rfl)) rfl
theorem aw_582 : Cond.methodLink RX8 110 yX1_gainOf ∈ AL := AL_in (tk_3 _ (List.mem_of_getElem? (i := 57) rfl)) rfl
theorem aw_583 : Cond.instanceMethod yX1_gainOf ∈ AL := AL_in (tk_3 _ (List.mem_of_getElem? (i := 58) rfl)) rfl
theorem aw_584 : Cond.selects RX1 yX1_gainOf yX1_gainOf ∈ AL := AL_in (tk_3 _ (List.mem_of_getElem? (i := 59) rfl)) rfl
theorem aw_585 : Cond.code yX1_gainOf cX1_gainOf 5 (some .int) ∈ AL := AL_in (tk_3 _ (List.mem_of_getElem? (i := 60) rfl)) rfl
theorem aw_586 : Cond.methodLink RX8 106 yX8_choose ∈ AL := AL_in (tk_3 _ (List.mem_of_getElem? (i := 61) rfl)) rfl
theorem aw_588 : Cond.instanceMethod yX8_choose ∈ AL := AL_in (tk_3 _ (List.mem_of_getElem? (i := 63) rfl)) rfl
theorem aw_589 : Cond.code yX8_choose cX8_choose 2 none ∈ AL := AL_in (tk_3 _ (List.mem_of_getElem? (i := 64) rfl)) rfl
theorem aw_590 : Cond.methodLink RX8 117 arraycopyName ∈ AL := AL_in (tk_3 _ (List.mem_of_getElem? (i := 65) rfl)) rfl
theorem aw_591 : Cond.static arraycopyName ∈ AL := AL_in (tk_3 _ (List.mem_of_getElem? (i := 66) rfl)) rfl
theorem aw_592 : Cond.native arraycopyName ∈ AL := AL_in (tk_3 _ (List.mem_of_getElem? (i := 67) rfl)) rfl
theorem aw_593 : Cond.methodLink RX8 85 yX8_pass ∈ AL := AL_in (tk_3 _ (List.mem_of_getElem? (i := 68) rfl)) rfl
theorem aw_595 : Cond.instanceMethod yX8_pass ∈ AL := AL_in (tk_3 _ (List.mem_of_getElem? (i := 70) rfl)) rfl
theorem aw_596 : Cond.code yX8_pass cX8_pass 10 none ∈ AL := AL_in (tk_3 _ (List.mem_of_getElem? (i := 71) rfl)) rfl
theorem aw_597 : Cond.methodLink RX8 123 yX8_daysOfStep ∈ AL := AL_in (tk_3 _ (List.mem_of_getElem? (i := 72) rfl)) rfl
theorem aw_599 : Cond.instanceMethod yX8_daysOfStep ∈ AL := AL_in (tk_3 _ (List.mem_of_getElem? (i := 74) rfl)) rfl
theorem aw_600 : Cond.code yX8_daysOfStep cX8_daysOfStep 6 (some .int) ∈ AL := AL_in (tk_3 _ (List.mem_of_getElem? (i := 75) rfl)) rfl
theorem aw_601 : Cond.methodLink RX8 130 yX8_drawnWarmth ∈ AL := AL_in (tk_3 _ (List.mem_of_getElem? (i := 76) rfl)) rfl
theorem aw_603 : Cond.instanceMethod yX8_drawnWarmth ∈ AL := AL_in (tk_3 _ (List.mem_of_getElem? (i := 78) rfl)) rfl
theorem aw_604 : Cond.code yX8_drawnWarmth cX8_drawnWarmth 3 (some .int) ∈ AL := AL_in (tk_3 _ (List.mem_of_getElem? (i := 79) rfl)) rfl
theorem aw_605 : Cond.constantLong RX8 146 (1103515245) ∈ AL := AL_in (tk_3 _ (List.mem_of_getElem? (i := 80) rfl)) rfl
theorem aw_606 : Cond.constantLong RX8 148 (12345) ∈ AL := AL_in (tk_3 _ (List.mem_of_getElem? (i := 81) rfl)) rfl
theorem aw_607 : Cond.constantLong RX8 150 (2147483648) ∈ AL := AL_in (tk_3 _ (List.mem_of_getElem? (i := 82) rfl)) rfl
theorem aw_608 : Cond.constantLong RX8 152 (65536) ∈ AL := AL_in (tk_3 _ (List.mem_of_getElem? (i := 83) rfl)) rfl
theorem aw_609 : Cond.constantLong RX8 154 (3) ∈ AL := AL_in (tk_3 _ (List.mem_of_getElem? (i := 84) rfl)) rfl
theorem aw_610 : Cond.methodLink RX8 134 yX0_meltOf ∈ AL := AL_in (tk_3 _ (List.mem_of_getElem? (i := 85) rfl)) rfl
theorem aw_611 : Cond.instanceMethod yX0_meltOf ∈ AL := AL_in (tk_3 _ (List.mem_of_getElem? (i := 86) rfl)) rfl
theorem aw_612 : Cond.selects RX0 yX0_meltOf yX0_meltOf ∈ AL := AL_in (tk_3 _ (List.mem_of_getElem? (i := 87) rfl)) rfl
theorem aw_613 : Cond.code yX0_meltOf cX0_meltOf 5 (some .int) ∈ AL := AL_in (tk_3 _ (List.mem_of_getElem? (i := 88) rfl)) rfl
theorem aw_614 : Cond.methodLink RX8 140 yX0_breaksOn ∈ AL := AL_in (tk_3 _ (List.mem_of_getElem? (i := 89) rfl)) rfl
theorem aw_615 : Cond.instanceMethod yX0_breaksOn ∈ AL := AL_in (tk_3 _ (List.mem_of_getElem? (i := 90) rfl)) rfl
theorem aw_616 : Cond.selects RX0 yX0_breaksOn yX0_breaksOn ∈ AL := AL_in (tk_3 _ (List.mem_of_getElem? (i := 91) rfl)) rfl
theorem aw_617 : Cond.code yX0_breaksOn cX0_breaksOn 2 (some .boolean) ∈ AL := AL_in (tk_3 _ (List.mem_of_getElem? (i := 92) rfl)) rfl
theorem aw_618 : Cond.methodLink RX9 200 yX8_stepAt ∈ AL := AL_in (tk_3 _ (List.mem_of_getElem? (i := 93) rfl)) rfl
theorem aw_619 : Cond.instanceMethod yX8_stepAt ∈ AL := AL_in (tk_3 _ (List.mem_of_getElem? (i := 94) rfl)) rfl
theorem aw_620 : Cond.selects RX8 yX8_stepAt yX8_stepAt ∈ AL := AL_in (tk_3 _ (List.mem_of_getElem? (i := 95) rfl)) rfl
theorem aw_621 : Cond.code yX8_stepAt cX8_stepAt 2 (some .int) ∈ AL := AL_in (tk_3 _ (List.mem_of_getElem? (i := 96) rfl)) rfl
theorem aw_622 : Cond.methodLink RL 65 yX9_ways ∈ AL := AL_in (tk_3 _ (List.mem_of_getElem? (i := 97) rfl)) rfl
theorem aw_623 : Cond.instanceMethod yX9_ways ∈ AL := AL_in (tk_3 _ (List.mem_of_getElem? (i := 98) rfl)) rfl
theorem aw_624 : Cond.selects RX9 yX9_ways yX9_ways ∈ AL := AL_in (tk_3 _ (List.mem_of_getElem? (i := 99) rfl)) rfl
theorem aw_625 : Cond.code yX9_ways cX9_ways 2 (some .int) ∈ AL := AL_in (tk_3 _ (List.mem_of_getElem? (i := 100) rfl)) rfl
theorem aw_626 : Cond.methodLink RL 70 yX9_best ∈ AL := AL_in (tk_3 _ (List.mem_of_getElem? (i := 101) rfl)) rfl
theorem aw_627 : Cond.instanceMethod yX9_best ∈ AL := AL_in (tk_3 _ (List.mem_of_getElem? (i := 102) rfl)) rfl
theorem aw_628 : Cond.selects RX9 yX9_best yX9_best ∈ AL := AL_in (tk_3 _ (List.mem_of_getElem? (i := 103) rfl)) rfl
theorem aw_629 : Cond.code yX9_best cX9_best 4 (some .int) ∈ AL := AL_in (tk_3 _ (List.mem_of_getElem? (i := 104) rfl)) rfl
theorem aw_630 : Cond.methodLink RX9 207 yX9_weigh ∈ AL := AL_in (tk_3 _ (List.mem_of_getElem? (i := 105) rfl)) rfl
theorem aw_632 : Cond.instanceMethod yX9_weigh ∈ AL := AL_in (tk_3 _ (List.mem_of_getElem? (i := 107) rfl)) rfl
theorem aw_633 : Cond.code yX9_weigh cX9_weigh 3 none ∈ AL := AL_in (tk_3 _ (List.mem_of_getElem? (i := 108) rfl)) rfl
theorem aw_634 : Cond.methodLink RX9 213 yX3_tugsOf ∈ AL := AL_in (tk_3 _ (List.mem_of_getElem? (i := 109) rfl)) rfl
theorem aw_635 : Cond.static yX3_tugsOf ∈ AL := AL_in (tk_3 _ (List.mem_of_getElem? (i := 110) rfl)) rfl
theorem aw_636 : Cond.code yX3_tugsOf cX3_tugsOf 1 (some .int) ∈ AL := AL_in (tk_3 _ (List.mem_of_getElem? (i := 111) rfl)) rfl
theorem aw_637 : Cond.methodLink RX9 216 yX3_hasSkirt ∈ AL := AL_in (tk_3 _ (List.mem_of_getElem? (i := 112) rfl)) rfl
theorem aw_638 : Cond.static yX3_hasSkirt ∈ AL := AL_in (tk_3 _ (List.mem_of_getElem? (i := 113) rfl)) rfl
theorem aw_639 : Cond.code yX3_hasSkirt cX3_hasSkirt 1 (some .boolean) ∈ AL := AL_in (tk_3 _ (List.mem_of_getElem? (i := 114) rfl)) rfl
theorem aw_640 : Cond.methodLink RX9 210 yX3_bestEntry ∈ AL := AL_in (tk_3 _ (List.mem_of_getElem? (i := 115) rfl)) rfl
theorem aw_641 : Cond.instanceMethod yX3_bestEntry ∈ AL := AL_in (tk_3 _ (List.mem_of_getElem? (i := 116) rfl)) rfl
theorem aw_642 : Cond.selects RX3 yX3_bestEntry yX3_bestEntry ∈ AL := AL_in (tk_3 _ (List.mem_of_getElem? (i := 117) rfl)) rfl
theorem aw_643 : Cond.code yX3_bestEntry cX3_bestEntry 4 (some .int) ∈ AL := AL_in (tk_3 _ (List.mem_of_getElem? (i := 118) rfl)) rfl
theorem aw_644 : Cond.methodLink RL 74 yX9_season ∈ AL := AL_in (tk_3 _ (List.mem_of_getElem? (i := 119) rfl)) rfl
theorem aw_645 : Cond.instanceMethod yX9_season ∈ AL := AL_in (tk_3 _ (List.mem_of_getElem? (i := 120) rfl)) rfl
theorem aw_646 : Cond.selects RX9 yX9_season yX9_season ∈ AL := AL_in (tk_3 _ (List.mem_of_getElem? (i := 121) rfl)) rfl
theorem aw_647 : Cond.code yX9_season cX9_season 4 (some .int) ∈ AL := AL_in (tk_3 _ (List.mem_of_getElem? (i := 122) rfl)) rfl
theorem aw_648 : Cond.methodLink RX9 223 yX3_deal ∈ AL := AL_in (tk_3 _ (List.mem_of_getElem? (i := 123) rfl)) rfl
theorem aw_649 : Cond.instanceMethod yX3_deal ∈ AL := AL_in (tk_3 _ (List.mem_of_getElem? (i := 124) rfl)) rfl
theorem aw_650 : Cond.selects RX3 yX3_deal yX3_deal ∈ AL := AL_in (tk_3 _ (List.mem_of_getElem? (i := 125) rfl)) rfl
theorem aw_651 : Cond.code yX3_deal cX3_deal 4 none ∈ AL := AL_in (tk_3 _ (List.mem_of_getElem? (i := 126) rfl)) rfl
theorem aw_652 : Cond.methodLink RX3 26 yX3_mostFrom ∈ AL := AL_in (tk_3 _ (List.mem_of_getElem? (i := 127) rfl)) rfl
theorem aw_654 : Cond.instanceMethod yX3_mostFrom ∈ AL := AL_in (tk_3 _ (List.mem_of_getElem? (i := 129) rfl)) rfl
theorem aw_655 : Cond.code yX3_mostFrom cX3_mostFrom 5 (some .int) ∈ AL := AL_in (tk_3 _ (List.mem_of_getElem? (i := 130) rfl)) rfl
theorem aw_656 : Cond.methodLink RX3 30 yX3_gainBy ∈ AL := AL_in (tk_3 _ (List.mem_of_getElem? (i := 131) rfl)) rfl
theorem aw_658 : Cond.instanceMethod yX3_gainBy ∈ AL := AL_in (tk_3 _ (List.mem_of_getElem? (i := 133) rfl)) rfl
theorem aw_659 : Cond.code yX3_gainBy cX3_gainBy 3 (some .int) ∈ AL := AL_in (tk_3 _ (List.mem_of_getElem? (i := 134) rfl)) rfl
theorem aw_660 : Cond.methodLink RX3 33 Lib.Math.max.name ∈ AL := AL_in (tk_3 _ (List.mem_of_getElem? (i := 135) rfl)) rfl
theorem aw_661 : Cond.methodLink RX9 229 yX3_tugsFor ∈ AL := AL_in (tk_3 _ (List.mem_of_getElem? (i := 136) rfl)) rfl
theorem aw_662 : Cond.instanceMethod yX3_tugsFor ∈ AL := AL_in (tk_3 _ (List.mem_of_getElem? (i := 137) rfl)) rfl
theorem aw_663 : Cond.selects RX3 yX3_tugsFor yX3_tugsFor ∈ AL := AL_in (tk_3 _ (List.mem_of_getElem? (i := 138) rfl)) rfl
theorem aw_664 : Cond.code yX3_tugsFor cX3_tugsFor 5 (some .int) ∈ AL := AL_in (tk_3 _ (List.mem_of_getElem? (i := 139) rfl)) rfl
theorem aw_665 : Cond.methodLink RX3 38 yX3_fewestFor ∈ AL := AL_in (tk_3 _ (List.mem_of_getElem? (i := 140) rfl)) rfl
theorem aw_667 : Cond.instanceMethod yX3_fewestFor ∈ AL := AL_in (tk_3 _ (List.mem_of_getElem? (i := 142) rfl)) rfl
theorem aw_668 : Cond.code yX3_fewestFor cX3_fewestFor 4 (some .int) ∈ AL := AL_in (tk_3 _ (List.mem_of_getElem? (i := 143) rfl)) rfl
theorem aw_669 : Cond.methodLink RL 78 yX9_more ∈ AL := AL_in (tk_3 _ (List.mem_of_getElem? (i := 144) rfl)) rfl
theorem aw_670 : Cond.instanceMethod yX9_more ∈ AL := AL_in (tk_3 _ (List.mem_of_getElem? (i := 145) rfl)) rfl
theorem aw_671 : Cond.selects RX9 yX9_more yX9_more ∈ AL := AL_in (tk_3 _ (List.mem_of_getElem? (i := 146) rfl)) rfl
theorem aw_672 : Cond.code yX9_more cX9_more 2 (some .int) ∈ AL := AL_in (tk_3 _ (List.mem_of_getElem? (i := 147) rfl)) rfl
theorem aw_673 : Cond.methodLink RX9 232 yX9_season ∈ AL := AL_in (tk_3 _ (List.mem_of_getElem? (i := 148) rfl)) rfl
theorem aw_674 : Cond.methodLink RL 82 yX9_drawn ∈ AL := AL_in (tk_3 _ (List.mem_of_getElem? (i := 149) rfl)) rfl
theorem aw_675 : Cond.instanceMethod yX9_drawn ∈ AL := AL_in (tk_3 _ (List.mem_of_getElem? (i := 150) rfl)) rfl
theorem aw_676 : Cond.selects RX9 yX9_drawn yX9_drawn ∈ AL := AL_in (tk_3 _ (List.mem_of_getElem? (i := 151) rfl)) rfl
theorem aw_677 : Cond.code yX9_drawn cX9_drawn 6 (some .int) ∈ AL := AL_in (tk_3 _ (List.mem_of_getElem? (i := 152) rfl)) rfl
theorem aw_678 : Cond.methodLink RX9 235 yX8_towAgain ∈ AL := AL_in (tk_3 _ (List.mem_of_getElem? (i := 153) rfl)) rfl
theorem aw_679 : Cond.instanceMethod yX8_towAgain ∈ AL := AL_in (tk_3 _ (List.mem_of_getElem? (i := 154) rfl)) rfl
theorem aw_680 : Cond.selects RX8 yX8_towAgain yX8_towAgain ∈ AL := AL_in (tk_3 _ (List.mem_of_getElem? (i := 155) rfl)) rfl
theorem aw_681 : Cond.code yX8_towAgain cX8_towAgain 4 none ∈ AL := AL_in (tk_3 _ (List.mem_of_getElem? (i := 156) rfl)) rfl
theorem aw_682 : Cond.methodLink RL 87 yX9_came ∈ AL := AL_in (tk_3 _ (List.mem_of_getElem? (i := 157) rfl)) rfl
theorem aw_683 : Cond.instanceMethod yX9_came ∈ AL := AL_in (tk_3 _ (List.mem_of_getElem? (i := 158) rfl)) rfl
theorem aw_684 : Cond.selects RX9 yX9_came yX9_came ∈ AL := AL_in (tk_3 _ (List.mem_of_getElem? (i := 159) rfl)) rfl
theorem aw_685 : Cond.code yX9_came cX9_came 10 (some .int) ∈ AL := AL_in (tk_3 _ (List.mem_of_getElem? (i := 160) rfl)) rfl
theorem aw_686 : Cond.methodLink RL 91 yX9_letOff ∈ AL := AL_in (tk_3 _ (List.mem_of_getElem? (i := 161) rfl)) rfl
theorem aw_687 : Cond.instanceMethod yX9_letOff ∈ AL := AL_in (tk_3 _ (List.mem_of_getElem? (i := 162) rfl)) rfl
theorem aw_688 : Cond.selects RX9 yX9_letOff yX9_letOff ∈ AL := AL_in (tk_3 _ (List.mem_of_getElem? (i := 163) rfl)) rfl
theorem aw_689 : Cond.code yX9_letOff cX9_letOff 8 (some .long) ∈ AL := AL_in (tk_3 _ (List.mem_of_getElem? (i := 164) rfl)) rfl
theorem aw_690 : Cond.constantLong RX9 245 (-102) ∈ AL := AL_in (tk_3 _ (List.mem_of_getElem? (i := 165) rfl)) rfl
theorem aw_691 : Cond.methodLink RX9 247 yX5_reckon ∈ AL := AL_in (tk_3 _ (List.mem_of_getElem? (i := 166) rfl)) rfl
theorem aw_692 : Cond.instanceMethod yX5_reckon ∈ AL := AL_in (tk_3 _ (List.mem_of_getElem? (i := 167) rfl)) rfl
theorem aw_693 : Cond.selects RX5 yX5_reckon yX5_reckon ∈ AL := AL_in (tk_3 _ (List.mem_of_getElem? (i := 168) rfl)) rfl
theorem aw_694 : Cond.code yX5_reckon cX5_reckon 9 none ∈ AL := AL_in (tk_3 _ (List.mem_of_getElem? (i := 169) rfl)) rfl
theorem aw_695 : Cond.methodLink RX5 19 yX5_letOffNow ∈ AL := AL_in (tk_3 _ (List.mem_of_getElem? (i := 170) rfl)) rfl
theorem aw_697 : Cond.instanceMethod yX5_letOffNow ∈ AL := AL_in (tk_3 _ (List.mem_of_getElem? (i := 172) rfl)) rfl
theorem aw_698 : Cond.code yX5_letOffNow cX5_letOffNow 3 (some .long) ∈ AL := AL_in (tk_3 _ (List.mem_of_getElem? (i := 173) rfl)) rfl
theorem aw_699 : Cond.constantLong RX5 33 (10) ∈ AL := AL_in (tk_3 _ (List.mem_of_getElem? (i := 174) rfl)) rfl
theorem aw_700 : Cond.methodLink RX5 45 Lib.Math.max.name ∈ AL := AL_in (tk_3 _ (List.mem_of_getElem? (i := 175) rfl)) rfl
theorem aw_701 : Cond.methodLink RX5 23 yX5_heldNow ∈ AL := AL_in (tk_3 _ (List.mem_of_getElem? (i := 176) rfl)) rfl
theorem aw_703 : Cond.instanceMethod yX5_heldNow ∈ AL := AL_in (tk_3 _ (List.mem_of_getElem? (i := 178) rfl)) rfl
theorem aw_704 : Cond.code yX5_heldNow cX5_heldNow 5 (some .long) ∈ AL := AL_in (tk_3 _ (List.mem_of_getElem? (i := 179) rfl)) rfl
theorem aw_705 : Cond.methodLink RX5 27 Lib.MathLoose.max_long.x ∈ AL := AL_in (tk_3 _ (List.mem_of_getElem? (i := 180) rfl)) rfl
theorem aw_706 : Cond.static Lib.MathLoose.max_long.x ∈ AL := AL_in (tk_3 _ (List.mem_of_getElem? (i := 181) rfl)) rfl
theorem aw_707 : Cond.code Lib.MathLoose.max_long.x Lib.MathLoose.max_long.code 4 (some .long) ∈ AL := AL_in (tk_3 _ (List.mem_of_getElem? (i := 182) rfl)) rfl
theorem aw_708 : Cond.methodLinkNest RX5 35 yX9_commonDivisor "IceForCoast" ∈ NW := NW_in (tk_3 _ (List.mem_of_getElem? (i := 183) rfl)) rfl
theorem aw_709 : Cond.static yX9_commonDivisor ∈ AL := AL_in (tk_3 _ (List.mem_of_getElem? (i := 184) rfl)) rfl
theorem aw_710 : Cond.code yX9_commonDivisor cX9_commonDivisor 7 (some .long) ∈ AL := AL_in (tk_3 _ (List.mem_of_getElem? (i := 185) rfl)) rfl
theorem aw_711 : Cond.methodLink RL 96 yX9_line ∈ AL := AL_in (tk_3 _ (List.mem_of_getElem? (i := 186) rfl)) rfl
theorem aw_712 : Cond.instanceMethod yX9_line ∈ AL := AL_in (tk_3 _ (List.mem_of_getElem? (i := 187) rfl)) rfl
theorem aw_713 : Cond.selects RX9 yX9_line yX9_line ∈ AL := AL_in (tk_3 _ (List.mem_of_getElem? (i := 188) rfl)) rfl
theorem aw_714 : Cond.code yX9_line cX9_line 4 (some .int) ∈ AL := AL_in (tk_3 _ (List.mem_of_getElem? (i := 189) rfl)) rfl
theorem aw_715 : Cond.methodLink RX9 261 yX9_isHouse ∈ AL := AL_in (tk_3 _ (List.mem_of_getElem? (i := 190) rfl)) rfl
theorem aw_716 : Cond.static yX9_isHouse ∈ AL := AL_in (tk_3 _ (List.mem_of_getElem? (i := 191) rfl)) rfl
theorem aw_717 : Cond.code yX9_isHouse cX9_isHouse 1 (some .boolean) ∈ AL := AL_in (tk_3 _ (List.mem_of_getElem? (i := 192) rfl)) rfl
theorem aw_718 : Cond.methodLink RX9 264 yX4_add ∈ AL := AL_in (tk_3 _ (List.mem_of_getElem? (i := 193) rfl)) rfl
theorem aw_719 : Cond.instanceMethod yX4_add ∈ AL := AL_in (tk_3 _ (List.mem_of_getElem? (i := 194) rfl)) rfl
theorem aw_720 : Cond.selects RX4 yX4_add yX4_add ∈ AL := AL_in (tk_3 _ (List.mem_of_getElem? (i := 195) rfl)) rfl
theorem aw_721 : Cond.code yX4_add cX4_add 4 (some .boolean) ∈ AL := AL_in (tk_3 _ (List.mem_of_getElem? (i := 196) rfl)) rfl
theorem aw_722 : Cond.methodLink RL 100 yX9_claims ∈ AL := AL_in (tk_3 _ (List.mem_of_getElem? (i := 197) rfl)) rfl
theorem aw_723 : Cond.instanceMethod yX9_claims ∈ AL := AL_in (tk_3 _ (List.mem_of_getElem? (i := 198) rfl)) rfl
theorem aw_724 : Cond.selects RX9 yX9_claims yX9_claims ∈ AL := AL_in (tk_3 _ (List.mem_of_getElem? (i := 199) rfl)) rfl
theorem aw_725 : Cond.code yX9_claims cX9_claims 11 (some .int) ∈ AL := AL_in (tk_3 _ (List.mem_of_getElem? (i := 200) rfl)) rfl
theorem aw_726 : Cond.methodLink RX9 271 yX4_allIfFirst ∈ AL := AL_in (tk_3 _ (List.mem_of_getElem? (i := 201) rfl)) rfl
theorem aw_727 : Cond.instanceMethod yX4_allIfFirst ∈ AL := AL_in (tk_3 _ (List.mem_of_getElem? (i := 202) rfl)) rfl
theorem aw_728 : Cond.selects RX4 yX4_allIfFirst yX4_allIfFirst ∈ AL := AL_in (tk_3 _ (List.mem_of_getElem? (i := 203) rfl)) rfl
theorem aw_729 : Cond.code yX4_allIfFirst cX4_allIfFirst 6 (some .int) ∈ AL := AL_in (tk_3 _ (List.mem_of_getElem? (i := 204) rfl)) rfl
theorem aw_730 : Cond.methodLink RX4 34 yX4_counts ∈ AL := AL_in (tk_3 _ (List.mem_of_getElem? (i := 205) rfl)) rfl
theorem aw_732 : Cond.instanceMethod yX4_counts ∈ AL := AL_in (tk_3 _ (List.mem_of_getElem? (i := 207) rfl)) rfl
theorem aw_733 : Cond.code yX4_counts cX4_counts 4 (some .boolean) ∈ AL := AL_in (tk_3 _ (List.mem_of_getElem? (i := 208) rfl)) rfl
theorem aw_734 : Cond.methodLink RX9 275 yX4_sharesOf ∈ AL := AL_in (tk_3 _ (List.mem_of_getElem? (i := 209) rfl)) rfl
theorem aw_735 : Cond.instanceMethod yX4_sharesOf ∈ AL := AL_in (tk_3 _ (List.mem_of_getElem? (i := 210) rfl)) rfl
theorem aw_736 : Cond.selects RX4 yX4_sharesOf yX4_sharesOf ∈ AL := AL_in (tk_3 _ (List.mem_of_getElem? (i := 211) rfl)) rfl
theorem aw_737 : Cond.code yX4_sharesOf cX4_sharesOf 7 (some .int) ∈ AL := AL_in (tk_3 _ (List.mem_of_getElem? (i := 212) rfl)) rfl
theorem aw_738 : Cond.methodLink RX9 279 yX4_sharesOfAll ∈ AL := AL_in (tk_3 _ (List.mem_of_getElem? (i := 213) rfl)) rfl
theorem aw_739 : Cond.instanceMethod yX4_sharesOfAll ∈ AL := AL_in (tk_3 _ (List.mem_of_getElem? (i := 214) rfl)) rfl
theorem aw_740 : Cond.selects RX4 yX4_sharesOfAll yX4_sharesOfAll ∈ AL := AL_in (tk_3 _ (List.mem_of_getElem? (i := 215) rfl)) rfl
theorem aw_741 : Cond.code yX4_sharesOfAll cX4_sharesOfAll 6 (some .int) ∈ AL := AL_in (tk_3 _ (List.mem_of_getElem? (i := 216) rfl)) rfl
theorem aw_742 : Cond.methodLink RX4 38 yX4_sharesOf ∈ AL := AL_in (tk_3 _ (List.mem_of_getElem? (i := 217) rfl)) rfl
theorem aw_743 : Cond.methodLink RX9 283 yX9_commonDivisor ∈ AL := AL_in (tk_3 _ (List.mem_of_getElem? (i := 218) rfl)) rfl
theorem aw_744 : Cond.methodLink RL 104 yX9_image ∈ AL := AL_in (tk_3 _ (List.mem_of_getElem? (i := 219) rfl)) rfl
theorem aw_745 : Cond.instanceMethod yX9_image ∈ AL := AL_in (tk_3 _ (List.mem_of_getElem? (i := 220) rfl)) rfl
theorem aw_746 : Cond.selects RX9 yX9_image yX9_image ∈ AL := AL_in (tk_3 _ (List.mem_of_getElem? (i := 221) rfl)) rfl
theorem aw_747 : Cond.code yX9_image cX9_image 1 (some .int) ∈ AL := AL_in (tk_3 _ (List.mem_of_getElem? (i := 222) rfl)) rfl
theorem aw_748 : Cond.methodLink RX9 287 yX2_keep ∈ AL := AL_in (tk_3 _ (List.mem_of_getElem? (i := 223) rfl)) rfl
theorem aw_749 : Cond.instanceMethod yX2_keep ∈ AL := AL_in (tk_3 _ (List.mem_of_getElem? (i := 224) rfl)) rfl
theorem aw_750 : Cond.selects RX2 yX2_keep yX2_keep ∈ AL := AL_in (tk_3 _ (List.mem_of_getElem? (i := 225) rfl)) rfl
theorem aw_751 : Cond.code yX2_keep cX2_keep 5 none ∈ AL := AL_in (tk_3 _ (List.mem_of_getElem? (i := 226) rfl)) rfl
theorem aw_752 : Cond.methodLink RX2 25 Lib.Math.min.name ∈ AL := AL_in (tk_3 _ (List.mem_of_getElem? (i := 227) rfl)) rfl
theorem aw_753 : Cond.methodLink RX2 43 yX1_copy ∈ AL := AL_in (tk_3 _ (List.mem_of_getElem? (i := 228) rfl)) rfl
theorem aw_754 : Cond.instanceMethod yX1_copy ∈ AL := AL_in (tk_3 _ (List.mem_of_getElem? (i := 229) rfl)) rfl
theorem aw_755 : Cond.selects RX1 yX1_copy yX1_copy ∈ AL := AL_in (tk_3 _ (List.mem_of_getElem? (i := 230) rfl)) rfl
theorem aw_756 : Cond.code yX1_copy cX1_copy 2 none ∈ AL := AL_in (tk_3 _ (List.mem_of_getElem? (i := 231) rfl)) rfl
theorem aw_757 : Cond.methodLink RX1 19 arraycopyName ∈ AL := AL_in (tk_3 _ (List.mem_of_getElem? (i := 232) rfl)) rfl
theorem aw_758 : Cond.methodLink RL 108 yX9_restore ∈ AL := AL_in (tk_3 _ (List.mem_of_getElem? (i := 233) rfl)) rfl
theorem aw_759 : Cond.instanceMethod yX9_restore ∈ AL := AL_in (tk_3 _ (List.mem_of_getElem? (i := 234) rfl)) rfl
theorem aw_760 : Cond.selects RX9 yX9_restore yX9_restore ∈ AL := AL_in (tk_3 _ (List.mem_of_getElem? (i := 235) rfl)) rfl
theorem aw_761 : Cond.code yX9_restore cX9_restore 1 (some .int) ∈ AL := AL_in (tk_3 _ (List.mem_of_getElem? (i := 236) rfl)) rfl
theorem aw_762 : Cond.methodLink RX9 297 yX2_giveBack ∈ AL := AL_in (tk_3 _ (List.mem_of_getElem? (i := 237) rfl)) rfl
theorem aw_763 : Cond.instanceMethod yX2_giveBack ∈ AL := AL_in (tk_3 _ (List.mem_of_getElem? (i := 238) rfl)) rfl
theorem aw_764 : Cond.selects RX2 yX2_giveBack yX2_giveBack ∈ AL := AL_in (tk_3 _ (List.mem_of_getElem? (i := 239) rfl)) rfl
theorem aw_765 : Cond.code yX2_giveBack cX2_giveBack 4 none ∈ AL := AL_in (tk_4 _ (List.mem_of_getElem? (i := 0) rfl)) rfl
theorem aw_766 : Cond.methodLink RL 112 yX9_count ∈ AL := AL_in (tk_4 _ (List.mem_of_getElem? (i := 1) rfl)) rfl
theorem aw_767 : Cond.instanceMethod yX9_count ∈ AL := AL_in (tk_4 _ (List.mem_of_getElem? (i := 2) rfl)) rfl
theorem aw_768 : Cond.selects RX9 yX9_count yX9_count ∈ AL := AL_in (tk_4 _ (List.mem_of_getElem? (i := 3) rfl)) rfl
theorem aw_769 : Cond.code yX9_count cX9_count 2 (some .int) ∈ AL := AL_in (tk_4 _ (List.mem_of_getElem? (i := 4) rfl)) rfl
theorem aw_770 : Cond.methodLink RL 116 yX9_digest ∈ AL := AL_in (tk_4 _ (List.mem_of_getElem? (i := 5) rfl)) rfl
theorem aw_771 : Cond.instanceMethod yX9_digest ∈ AL := AL_in (tk_4 _ (List.mem_of_getElem? (i := 6) rfl)) rfl
theorem aw_772 : Cond.selects RX9 yX9_digest yX9_digest ∈ AL := AL_in (tk_4 _ (List.mem_of_getElem? (i := 7) rfl)) rfl
theorem aw_773 : Cond.code yX9_digest cX9_digest 5 (some .long) ∈ AL := AL_in (tk_4 _ (List.mem_of_getElem? (i := 8) rfl)) rfl
theorem aw_774 : Cond.constantLong RX9 306 (569) ∈ AL := AL_in (tk_4 _ (List.mem_of_getElem? (i := 9) rfl)) rfl
theorem aw_775 : Cond.constantLong RX9 308 (31) ∈ AL := AL_in (tk_4 _ (List.mem_of_getElem? (i := 10) rfl)) rfl
theorem aw_776 : Cond.methodLink RX9 310 yX9_square ∈ AL := AL_in (tk_4 _ (List.mem_of_getElem? (i := 11) rfl)) rfl
theorem aw_777 : Cond.methodLink RX9 312 yX9_about ∈ AL := AL_in (tk_4 _ (List.mem_of_getElem? (i := 12) rfl)) rfl
theorem aw_778 : Cond.methodLink RX9 315 yX9_ways ∈ AL := AL_in (tk_4 _ (List.mem_of_getElem? (i := 13) rfl)) rfl
theorem aw_779 : Cond.methodLink RX9 318 yX9_tow ∈ AL := AL_in (tk_4 _ (List.mem_of_getElem? (i := 14) rfl)) rfl
theorem aw_780 : Cond.methodLink RX9 322 yX9_best ∈ AL := AL_in (tk_4 _ (List.mem_of_getElem? (i := 15) rfl)) rfl
theorem aw_781 : Cond.methodLink RX9 334 yX6_codeAt ∈ AL := AL_in (tk_4 _ (List.mem_of_getElem? (i := 16) rfl)) rfl
theorem aw_782 : Cond.methodLink RX9 337 yX9_count ∈ AL := AL_in (tk_4 _ (List.mem_of_getElem? (i := 17) rfl)) rfl
theorem aw_783 : Cond.classLink RL 10 RX10 ∈ AL := AL_in (tk_4 _ (List.mem_of_getElem? (i := 18) rfl)) rfl
theorem aw_784 : Cond.instantiable RX10 52 ∈ AL := AL_in (tk_4 _ (List.mem_of_getElem? (i := 19) rfl)) rfl
theorem aw_785 : Cond.methodLink RL 12 yX10_init ∈ AL := AL_in (tk_4 _ (List.mem_of_getElem? (i := 20) rfl)) rfl
theorem aw_786 : Cond.instanceMethod yX10_init ∈ AL := AL_in (tk_4 _ (List.mem_of_getElem? (i := 21) rfl)) rfl
theorem aw_787 : Cond.code yX10_init cX10_init 1 none ∈ AL := AL_in (tk_4 _ (List.mem_of_getElem? (i := 22) rfl)) rfl
theorem aw_788 : Cond.methodLink RX10 1 objectInit ∈ AL := AL_in (tk_4 _ (List.mem_of_getElem? (i := 23) rfl)) rfl
theorem aw_789 : Cond.fieldLink RX10 7 "IceForCoastModel" "page" "[I" ∈ AL := AL_in (tk_4 _ (List.mem_of_getElem? (i := 24) rfl)) rfl
theorem aw_790 : Cond.fieldLink RX10 74 "IceForCoastModel" "pageMany" "I" ∈ AL := AL_in (tk_4 _ (List.mem_of_getElem? (i := 25) rfl)) rfl
theorem aw_791 : Cond.fieldLink RX10 92 "IceForCoastModel" "readRows" "I" ∈ AL := AL_in (tk_4 _ (List.mem_of_getElem? (i := 26) rfl)) rfl
theorem aw_792 : Cond.fieldLink RX10 95 "IceForCoastModel" "readWide" "I" ∈ AL := AL_in (tk_4 _ (List.mem_of_getElem? (i := 27) rfl)) rfl
theorem aw_793 : Cond.fieldLink RX10 89 "IceForCoastModel" "readMany" "I" ∈ AL := AL_in (tk_4 _ (List.mem_of_getElem? (i := 28) rfl)) rfl
theorem aw_794 : Cond.fieldLink RX10 106 "IceForCoastModel" "readHarbour" "I" ∈ AL := AL_in (tk_4 _ (List.mem_of_getElem? (i := 29) rfl)) rfl
theorem aw_795 : Cond.fieldLink RX10 77 "IceForCoastModel" "mayFlow" "Z" ∈ AL := AL_in (tk_4 _ (List.mem_of_getElem? (i := 30) rfl)) rfl
theorem aw_796 : Cond.fieldLink RX10 13 "IceForCoastModel" "readWarm" "[I" ∈ AL := AL_in (tk_4 _ (List.mem_of_getElem? (i := 31) rfl)) rfl
theorem aw_797 : Cond.fieldLink RX10 16 "IceForCoastModel" "readFlow" "[I" ∈ AL := AL_in (tk_4 _ (List.mem_of_getElem? (i := 32) rfl)) rfl
theorem aw_798 : Cond.fieldLink RX10 116 "IceForCoastModel" "rows" "I" ∈ AL := AL_in (tk_4 _ (List.mem_of_getElem? (i := 33) rfl)) rfl
theorem aw_799 : Cond.fieldLink RX10 119 "IceForCoastModel" "wide" "I" ∈ AL := AL_in (tk_4 _ (List.mem_of_getElem? (i := 34) rfl)) rfl
theorem aw_800 : Cond.fieldLink RX10 122 "IceForCoastModel" "harbour" "I" ∈ AL := AL_in (tk_4 _ (List.mem_of_getElem? (i := 35) rfl)) rfl
theorem aw_801 : Cond.fieldLink RX10 131 "IceForCoastModel" "seasRead" "I" ∈ AL := AL_in (tk_4 _ (List.mem_of_getElem? (i := 36) rfl)) rfl
theorem aw_802 : Cond.fieldLink RX10 19 "IceForCoastModel" "warm" "[I" ∈ AL := AL_in (tk_4 _ (List.mem_of_getElem? (i := 37) rfl)) rfl
theorem aw_803 : Cond.fieldLink RX10 22 "IceForCoastModel" "flow" "[I" ∈ AL := AL_in (tk_4 _ (List.mem_of_getElem? (i := 38) rfl)) rfl
theorem aw_804 : Cond.fieldLink RX10 125 "IceForCoastModel" "bergs" "I" ∈ AL := AL_in (tk_4 _ (List.mem_of_getElem? (i := 39) rfl)) rfl
theorem aw_805 : Cond.fieldLink RX10 25 "IceForCoastModel" "bergRows" "[I" ∈ AL := AL_in (tk_4 _ (List.mem_of_getElem? (i := 40) rfl)) rfl
theorem aw_806 : Cond.fieldLink RX10 63 "IceForCoastModel" "price" "I" ∈ AL := AL_in (tk_4 _ (List.mem_of_getElem? (i := 41) rfl)) rfl
theorem aw_807 : Cond.fieldLink RX10 66 "IceForCoastModel" "wage" "I" ∈ AL := AL_in (tk_4 _ (List.mem_of_getElem? (i := 42) rfl)) rfl
theorem aw_808 : Cond.fieldLink RX10 69 "IceForCoastModel" "cloth" "I" ∈ AL := AL_in (tk_4 _ (List.mem_of_getElem? (i := 43) rfl)) rfl
theorem aw_809 : Cond.fieldLink RX10 128 "IceForCoastModel" "lines" "I" ∈ AL := AL_in (tk_4 _ (List.mem_of_getElem? (i := 44) rfl)) rfl
theorem aw_810 : Cond.fieldLink RX10 28 "IceForCoastModel" "lineRows" "[I" ∈ AL := AL_in (tk_4 _ (List.mem_of_getElem? (i := 45) rfl)) rfl
theorem aw_811 : Cond.fieldLink RX10 177 "IceForCoastModel" "kindNow" "I" ∈ AL := AL_in (tk_4 _ (List.mem_of_getElem? (i := 46) rfl)) rfl
theorem aw_812 : Cond.fieldLink RX10 180 "IceForCoastModel" "sizeNow" "I" ∈ AL := AL_in (tk_4 _ (List.mem_of_getElem? (i := 47) rfl)) rfl
theorem aw_813 : Cond.fieldLink RX10 186 "IceForCoastModel" "footNow" "I" ∈ AL := AL_in (tk_4 _ (List.mem_of_getElem? (i := 48) rfl)) rfl
theorem aw_814 : Cond.fieldLink RX10 192 "IceForCoastModel" "everyNow" "I" ∈ AL := AL_in (tk_4 _ (List.mem_of_getElem? (i := 49) rfl)) rfl
theorem aw_815 : Cond.fieldLink RX10 189 "IceForCoastModel" "daysNow" "I" ∈ AL := AL_in (tk_4 _ (List.mem_of_getElem? (i := 50) rfl)) rfl
theorem aw_816 : Cond.fieldLink RX10 183 "IceForCoastModel" "hasSkirt" "Z" ∈ AL := AL_in (tk_4 _ (List.mem_of_getElem? (i := 51) rfl)) rfl
theorem aw_817 : Cond.fieldLink RX10 195 "IceForCoastModel" "tugsNow" "I" ∈ AL := AL_in (tk_4 _ (List.mem_of_getElem? (i := 52) rfl)) rfl
theorem aw_818 : Cond.fieldLink RX10 166 "IceForCoastModel" "seedNow" "I" ∈ AL := AL_in (tk_4 _ (List.mem_of_getElem? (i := 53) rfl)) rfl
theorem aw_819 : Cond.fieldLink RX10 31 "IceForCoastModel" "way" "[I" ∈ AL := AL_in (tk_4 _ (List.mem_of_getElem? (i := 54) rfl)) rfl
theorem aw_820 : Cond.fieldLink RX10 34 "IceForCoastModel" "places" "[I" ∈ AL := AL_in (tk_4 _ (List.mem_of_getElem? (i := 55) rfl)) rfl
theorem aw_821 : Cond.fieldLink RX10 37 "IceForCoastModel" "bestWay" "[I" ∈ AL := AL_in (tk_4 _ (List.mem_of_getElem? (i := 56) rfl)) rfl
theorem aw_822 : Cond.fieldLink RX10 225 "IceForCoastModel" "bestSteps" "I" ∈ AL := AL_in (tk_4 _ (List.mem_of_getElem? (i := 57) rfl)) rfl
theorem aw_823 : Cond.fieldLink RX10 222 "IceForCoastModel" "bestWater" "I" ∈ AL := AL_in (tk_4 _ (List.mem_of_getElem? (i := 58) rfl)) rfl
theorem aw_824 : Cond.fieldLink RX10 219 "IceForCoastModel" "bestDays" "I" ∈ AL := AL_in (tk_4 _ (List.mem_of_getElem? (i := 59) rfl)) rfl
theorem aw_825 : Cond.fieldLink RX10 216 "IceForCoastModel" "bestGain" "I" ∈ AL := AL_in (tk_4 _ (List.mem_of_getElem? (i := 60) rfl)) rfl
theorem aw_826 : Cond.fieldLink RX10 206 "IceForCoastModel" "wayMany" "I" ∈ AL := AL_in (tk_4 _ (List.mem_of_getElem? (i := 61) rfl)) rfl
theorem aw_827 : Cond.fieldLink RX10 40 "IceForCoastModel" "gains" "[I" ∈ AL := AL_in (tk_4 _ (List.mem_of_getElem? (i := 62) rfl)) rfl
theorem aw_828 : Cond.fieldLink RX10 43 "IceForCoastModel" "most" "[I" ∈ AL := AL_in (tk_4 _ (List.mem_of_getElem? (i := 63) rfl)) rfl
theorem aw_829 : Cond.fieldLink RX10 271 "IceForCoastModel" "done" "I" ∈ AL := AL_in (tk_4 _ (List.mem_of_getElem? (i := 64) rfl)) rfl
theorem aw_830 : Cond.fieldLink RX10 46 "IceForCoastModel" "waterNow" "[J" ∈ AL := AL_in (tk_4 _ (List.mem_of_getElem? (i := 65) rfl)) rfl
theorem aw_831 : Cond.fieldLink RX10 50 "IceForCoastModel" "waterNext" "[J" ∈ AL := AL_in (tk_4 _ (List.mem_of_getElem? (i := 66) rfl)) rfl
theorem aw_832 : Cond.fieldLink RX10 59 "IceForCoastModel" "kept" "I" ∈ AL := AL_in (tk_4 _ (List.mem_of_getElem? (i := 67) rfl)) rfl
theorem aw_833 : Cond.fieldLink RX10 295 "IceForCoastModel" "keptSea" "I" ∈ AL := AL_in (tk_4 _ (List.mem_of_getElem? (i := 68) rfl)) rfl
theorem aw_834 : Cond.fieldLink RX10 283 "IceForCoastModel" "keptPrice" "I" ∈ AL := AL_in (tk_4 _ (List.mem_of_getElem? (i := 69) rfl)) rfl
theorem aw_835 : Cond.fieldLink RX10 286 "IceForCoastModel" "keptWage" "I" ∈ AL := AL_in (tk_4 _ (List.mem_of_getElem? (i := 70) rfl)) rfl
theorem aw_836 : Cond.fieldLink RX10 289 "IceForCoastModel" "keptCloth" "I" ∈ AL := AL_in (tk_4 _ (List.mem_of_getElem? (i := 71) rfl)) rfl
theorem aw_837 : Cond.fieldLink RX10 292 "IceForCoastModel" "keptLines" "I" ∈ AL := AL_in (tk_4 _ (List.mem_of_getElem? (i := 72) rfl)) rfl
theorem aw_838 : Cond.fieldLink RX10 53 "IceForCoastModel" "keptBergs" "[I" ∈ AL := AL_in (tk_4 _ (List.mem_of_getElem? (i := 73) rfl)) rfl
theorem aw_839 : Cond.fieldLink RX10 56 "IceForCoastModel" "keptRows" "[I" ∈ AL := AL_in (tk_4 _ (List.mem_of_getElem? (i := 74) rfl)) rfl
theorem aw_840 : Cond.fieldLink RX10 303 "IceForCoastModel" "hash" "J" ∈ AL := AL_in (tk_4 _ (List.mem_of_getElem? (i := 75) rfl)) rfl
theorem aw_946 : Cond.methodLink RL 19 yX10_letters ∈ AL := AL_in (tk_4 _ (List.mem_of_getElem? (i := 181) rfl)) rfl
theorem aw_947 : Cond.instanceMethod yX10_letters ∈ AL := AL_in (tk_4 _ (List.mem_of_getElem? (i := 182) rfl)) rfl
theorem aw_948 : Cond.selects RX10 yX10_letters yX10_letters ∈ AL := AL_in (tk_4 _ (List.mem_of_getElem? (i := 183) rfl)) rfl
theorem aw_949 : Cond.code yX10_letters cX10_letters 9 (some .int) ∈ AL := AL_in (tk_4 _ (List.mem_of_getElem? (i := 184) rfl)) rfl
theorem aw_950 : Cond.constantLong RX10 72 (255) ∈ AL := AL_in (tk_4 _ (List.mem_of_getElem? (i := 185) rfl)) rfl
theorem aw_951 : Cond.methodLink RL 24 yX10_blank ∈ AL := AL_in (tk_4 _ (List.mem_of_getElem? (i := 186) rfl)) rfl
theorem aw_952 : Cond.instanceMethod yX10_blank ∈ AL := AL_in (tk_4 _ (List.mem_of_getElem? (i := 187) rfl)) rfl
theorem aw_953 : Cond.selects RX10 yX10_blank yX10_blank ∈ AL := AL_in (tk_4 _ (List.mem_of_getElem? (i := 188) rfl)) rfl
theorem aw_954 : Cond.code yX10_blank cX10_blank 2 (some .int) ∈ AL := AL_in (tk_4 _ (List.mem_of_getElem? (i := 189) rfl)) rfl
theorem aw_955 : Cond.methodLink RL 28 yX10_fault ∈ AL := AL_in (tk_4 _ (List.mem_of_getElem? (i := 190) rfl)) rfl
theorem aw_956 : Cond.instanceMethod yX10_fault ∈ AL := AL_in (tk_4 _ (List.mem_of_getElem? (i := 191) rfl)) rfl
theorem aw_957 : Cond.selects RX10 yX10_fault yX10_fault ∈ AL := AL_in (tk_4 _ (List.mem_of_getElem? (i := 192) rfl)) rfl
theorem aw_958 : Cond.code yX10_fault cX10_fault 1 (some .int) ∈ AL := AL_in (tk_4 _ (List.mem_of_getElem? (i := 193) rfl)) rfl
theorem aw_959 : Cond.methodLink RX10 113 yX10_faultOf ∈ AL := AL_in (tk_4 _ (List.mem_of_getElem? (i := 194) rfl)) rfl
theorem aw_961 : Cond.instanceMethod yX10_faultOf ∈ AL := AL_in (tk_4 _ (List.mem_of_getElem? (i := 196) rfl)) rfl
theorem aw_962 : Cond.code yX10_faultOf cX10_faultOf 2 (some .int) ∈ AL := AL_in (tk_4 _ (List.mem_of_getElem? (i := 197) rfl)) rfl
theorem aw_963 : Cond.methodLink RX10 109 yX10_go ∈ AL := AL_in (tk_4 _ (List.mem_of_getElem? (i := 198) rfl)) rfl
theorem aw_965 : Cond.instanceMethod yX10_go ∈ AL := AL_in (tk_4 _ (List.mem_of_getElem? (i := 200) rfl)) rfl
theorem aw_966 : Cond.code yX10_go cX10_go 4 (some .boolean) ∈ AL := AL_in (tk_4 _ (List.mem_of_getElem? (i := 201) rfl)) rfl
theorem aw_967 : Cond.methodLink RX10 81 yX10_flowOf ∈ AL := AL_in (tk_4 _ (List.mem_of_getElem? (i := 202) rfl)) rfl
theorem aw_968 : Cond.static yX10_flowOf ∈ AL := AL_in (tk_4 _ (List.mem_of_getElem? (i := 203) rfl)) rfl
theorem aw_969 : Cond.code yX10_flowOf cX10_flowOf 1 (some .int) ∈ AL := AL_in (tk_4 _ (List.mem_of_getElem? (i := 204) rfl)) rfl
theorem aw_970 : Cond.methodLink RX10 85 yX10_readAt ∈ AL := AL_in (tk_4 _ (List.mem_of_getElem? (i := 205) rfl)) rfl
theorem aw_972 : Cond.instanceMethod yX10_readAt ∈ AL := AL_in (tk_4 _ (List.mem_of_getElem? (i := 207) rfl)) rfl
theorem aw_973 : Cond.code yX10_readAt cX10_readAt 1 (some .int) ∈ AL := AL_in (tk_4 _ (List.mem_of_getElem? (i := 208) rfl)) rfl
theorem aw_974 : Cond.constantLong RX10 98 (48) ∈ AL := AL_in (tk_4 _ (List.mem_of_getElem? (i := 209) rfl)) rfl
theorem aw_975 : Cond.constantLong RX10 100 (57) ∈ AL := AL_in (tk_4 _ (List.mem_of_getElem? (i := 210) rfl)) rfl
theorem aw_976 : Cond.methodLink RX10 102 yX10_in ∈ AL := AL_in (tk_4 _ (List.mem_of_getElem? (i := 211) rfl)) rfl
theorem aw_977 : Cond.static yX10_in ∈ AL := AL_in (tk_4 _ (List.mem_of_getElem? (i := 212) rfl)) rfl
theorem aw_978 : Cond.code yX10_in cX10_in 6 (some .boolean) ∈ AL := AL_in (tk_4 _ (List.mem_of_getElem? (i := 213) rfl)) rfl
theorem aw_979 : Cond.methodLink RL 32 yX10_sea ∈ AL := AL_in (tk_4 _ (List.mem_of_getElem? (i := 214) rfl)) rfl
theorem aw_980 : Cond.instanceMethod yX10_sea ∈ AL := AL_in (tk_4 _ (List.mem_of_getElem? (i := 215) rfl)) rfl
theorem aw_981 : Cond.selects RX10 yX10_sea yX10_sea ∈ AL := AL_in (tk_4 _ (List.mem_of_getElem? (i := 216) rfl)) rfl
theorem aw_982 : Cond.code yX10_sea cX10_sea 2 (some .int) ∈ AL := AL_in (tk_4 _ (List.mem_of_getElem? (i := 217) rfl)) rfl
theorem aw_983 : Cond.methodLink RL 37 yX10_square ∈ AL := AL_in (tk_4 _ (List.mem_of_getElem? (i := 218) rfl)) rfl
theorem aw_984 : Cond.instanceMethod yX10_square ∈ AL := AL_in (tk_4 _ (List.mem_of_getElem? (i := 219) rfl)) rfl
theorem aw_985 : Cond.selects RX10 yX10_square yX10_square ∈ AL := AL_in (tk_4 _ (List.mem_of_getElem? (i := 220) rfl)) rfl
theorem aw_986 : Cond.code yX10_square cX10_square 3 (some .int) ∈ AL := AL_in (tk_4 _ (List.mem_of_getElem? (i := 221) rfl)) rfl
theorem aw_987 : Cond.methodLink RX10 140 yX10_isSquare ∈ AL := AL_in (tk_4 _ (List.mem_of_getElem? (i := 222) rfl)) rfl
theorem aw_989 : Cond.instanceMethod yX10_isSquare ∈ AL := AL_in (tk_4 _ (List.mem_of_getElem? (i := 224) rfl)) rfl
theorem aw_990 : Cond.code yX10_isSquare cX10_isSquare 2 (some .boolean) ∈ AL := AL_in (tk_4 _ (List.mem_of_getElem? (i := 225) rfl)) rfl
theorem aw_991 : Cond.methodLink RX10 143 yX10_tellSquare ∈ AL := AL_in (tk_4 _ (List.mem_of_getElem? (i := 226) rfl)) rfl
theorem aw_993 : Cond.instanceMethod yX10_tellSquare ∈ AL := AL_in (tk_4 _ (List.mem_of_getElem? (i := 228) rfl)) rfl
theorem aw_994 : Cond.code yX10_tellSquare cX10_tellSquare 3 (some .int) ∈ AL := AL_in (tk_4 _ (List.mem_of_getElem? (i := 229) rfl)) rfl
theorem aw_995 : Cond.methodLink RX10 137 yX10_farOf ∈ AL := AL_in (tk_4 _ (List.mem_of_getElem? (i := 230) rfl)) rfl
theorem aw_997 : Cond.instanceMethod yX10_farOf ∈ AL := AL_in (tk_4 _ (List.mem_of_getElem? (i := 232) rfl)) rfl
theorem aw_998 : Cond.code yX10_farOf cX10_farOf 2 (some .int) ∈ AL := AL_in (tk_4 _ (List.mem_of_getElem? (i := 233) rfl)) rfl
theorem aw_999 : Cond.methodLink RX10 134 yX10_size ∈ AL := AL_in (tk_4 _ (List.mem_of_getElem? (i := 234) rfl)) rfl
theorem aw_1000 : Cond.static yX10_size ∈ AL := AL_in (tk_4 _ (List.mem_of_getElem? (i := 235) rfl)) rfl
theorem aw_1001 : Cond.code yX10_size cX10_size 1 (some .int) ∈ AL := AL_in (tk_4 _ (List.mem_of_getElem? (i := 236) rfl)) rfl
theorem aw_1002 : Cond.methodLink RL 42 yX10_berg ∈ AL := AL_in (tk_4 _ (List.mem_of_getElem? (i := 237) rfl)) rfl
theorem aw_1003 : Cond.instanceMethod yX10_berg ∈ AL := AL_in (tk_4 _ (List.mem_of_getElem? (i := 238) rfl)) rfl
theorem aw_1004 : Cond.selects RX10 yX10_berg yX10_berg ∈ AL := AL_in (tk_4 _ (List.mem_of_getElem? (i := 239) rfl)) rfl
theorem aw_1005 : Cond.code yX10_berg cX10_berg 6 (some .int) ∈ AL := AL_in (tk_5 _ (List.mem_of_getElem? (i := 0) rfl)) rfl
theorem aw_1006 : Cond.constantLong RX10 147 (4) ∈ AL := AL_in (tk_5 _ (List.mem_of_getElem? (i := 1) rfl)) rfl
theorem aw_1007 : Cond.constantLong RX10 149 (10) ∈ AL := AL_in (tk_5 _ (List.mem_of_getElem? (i := 2) rfl)) rfl
theorem aw_1008 : Cond.constantLong RX10 151 (999) ∈ AL := AL_in (tk_5 _ (List.mem_of_getElem? (i := 3) rfl)) rfl
theorem aw_1009 : Cond.constantLong RX10 153 (99) ∈ AL := AL_in (tk_5 _ (List.mem_of_getElem? (i := 4) rfl)) rfl
theorem aw_1010 : Cond.constantLong RX10 155 (2) ∈ AL := AL_in (tk_5 _ (List.mem_of_getElem? (i := 5) rfl)) rfl
theorem aw_1011 : Cond.constantLong RX10 157 (9) ∈ AL := AL_in (tk_5 _ (List.mem_of_getElem? (i := 6) rfl)) rfl
theorem aw_1012 : Cond.methodLink RL 46 yX10_as ∈ AL := AL_in (tk_5 _ (List.mem_of_getElem? (i := 7) rfl)) rfl
theorem aw_1013 : Cond.instanceMethod yX10_as ∈ AL := AL_in (tk_5 _ (List.mem_of_getElem? (i := 8) rfl)) rfl
theorem aw_1014 : Cond.selects RX10 yX10_as yX10_as ∈ AL := AL_in (tk_5 _ (List.mem_of_getElem? (i := 9) rfl)) rfl
theorem aw_1015 : Cond.code yX10_as cX10_as 5 (some .int) ∈ AL := AL_in (tk_5 _ (List.mem_of_getElem? (i := 10) rfl)) rfl
theorem aw_1016 : Cond.methodLink RX10 159 yX10_isBerg ∈ AL := AL_in (tk_5 _ (List.mem_of_getElem? (i := 11) rfl)) rfl
theorem aw_1018 : Cond.instanceMethod yX10_isBerg ∈ AL := AL_in (tk_5 _ (List.mem_of_getElem? (i := 13) rfl)) rfl
theorem aw_1019 : Cond.code yX10_isBerg cX10_isBerg 2 (some .boolean) ∈ AL := AL_in (tk_5 _ (List.mem_of_getElem? (i := 14) rfl)) rfl
theorem aw_1020 : Cond.methodLink RL 50 yX10_about ∈ AL := AL_in (tk_5 _ (List.mem_of_getElem? (i := 15) rfl)) rfl
theorem aw_1021 : Cond.instanceMethod yX10_about ∈ AL := AL_in (tk_5 _ (List.mem_of_getElem? (i := 16) rfl)) rfl
theorem aw_1022 : Cond.selects RX10 yX10_about yX10_about ∈ AL := AL_in (tk_5 _ (List.mem_of_getElem? (i := 17) rfl)) rfl
theorem aw_1023 : Cond.code yX10_about cX10_about 3 (some .int) ∈ AL := AL_in (tk_5 _ (List.mem_of_getElem? (i := 18) rfl)) rfl
theorem aw_1024 : Cond.methodLink RL 55 yX10_change ∈ AL := AL_in (tk_5 _ (List.mem_of_getElem? (i := 19) rfl)) rfl
theorem aw_1025 : Cond.instanceMethod yX10_change ∈ AL := AL_in (tk_5 _ (List.mem_of_getElem? (i := 20) rfl)) rfl
theorem aw_1026 : Cond.selects RX10 yX10_change yX10_change ∈ AL := AL_in (tk_5 _ (List.mem_of_getElem? (i := 21) rfl)) rfl
theorem aw_1027 : Cond.code yX10_change cX10_change 5 (some .int) ∈ AL := AL_in (tk_5 _ (List.mem_of_getElem? (i := 22) rfl)) rfl
theorem aw_1028 : Cond.constantLong RX10 162 (3) ∈ AL := AL_in (tk_5 _ (List.mem_of_getElem? (i := 23) rfl)) rfl
theorem aw_1029 : Cond.methodLink RL 59 yX10_coin ∈ AL := AL_in (tk_5 _ (List.mem_of_getElem? (i := 24) rfl)) rfl
theorem aw_1030 : Cond.instanceMethod yX10_coin ∈ AL := AL_in (tk_5 _ (List.mem_of_getElem? (i := 25) rfl)) rfl
theorem aw_1031 : Cond.selects RX10 yX10_coin yX10_coin ∈ AL := AL_in (tk_5 _ (List.mem_of_getElem? (i := 26) rfl)) rfl
theorem aw_1032 : Cond.code yX10_coin cX10_coin 4 (some .int) ∈ AL := AL_in (tk_5 _ (List.mem_of_getElem? (i := 27) rfl)) rfl
theorem aw_1033 : Cond.methodLink RL 64 yX10_tow ∈ AL := AL_in (tk_5 _ (List.mem_of_getElem? (i := 28) rfl)) rfl
theorem aw_1034 : Cond.instanceMethod yX10_tow ∈ AL := AL_in (tk_5 _ (List.mem_of_getElem? (i := 29) rfl)) rfl
theorem aw_1035 : Cond.selects RX10 yX10_tow yX10_tow ∈ AL := AL_in (tk_5 _ (List.mem_of_getElem? (i := 30) rfl)) rfl
theorem aw_1036 : Cond.code yX10_tow cX10_tow 5 (some .int) ∈ AL := AL_in (tk_5 _ (List.mem_of_getElem? (i := 31) rfl)) rfl
theorem aw_1037 : Cond.constant RX10 244 (-100101) ∈ AL := AL_in (tk_5 _ (List.mem_of_getElem? (i := 32) rfl)) rfl
theorem aw_1038 : Cond.methodLink RX10 245 yX10_areTugs ∈ AL := AL_in (tk_5 _ (List.mem_of_getElem? (i := 33) rfl)) rfl
theorem aw_1039 : Cond.static yX10_areTugs ∈ AL := AL_in (tk_5 _ (List.mem_of_getElem? (i := 34) rfl)) rfl
theorem aw_1040 : Cond.code yX10_areTugs cX10_areTugs 1 (some .boolean) ∈ AL := AL_in (tk_5 _ (List.mem_of_getElem? (i := 35) rfl)) rfl
theorem aw_1041 : Cond.constantLong RX10 242 (11) ∈ AL := AL_in (tk_5 _ (List.mem_of_getElem? (i := 36) rfl)) rfl
theorem aw_1042 : Cond.constantLong RX10 248 (18) ∈ AL := AL_in (tk_5 _ (List.mem_of_getElem? (i := 37) rfl)) rfl
theorem aw_1043 : Cond.methodLink RX10 250 yX10_tellTow ∈ AL := AL_in (tk_5 _ (List.mem_of_getElem? (i := 38) rfl)) rfl
theorem aw_1045 : Cond.instanceMethod yX10_tellTow ∈ AL := AL_in (tk_5 _ (List.mem_of_getElem? (i := 40) rfl)) rfl
theorem aw_1046 : Cond.code yX10_tellTow cX10_tellTow 5 (some .int) ∈ AL := AL_in (tk_5 _ (List.mem_of_getElem? (i := 41) rfl)) rfl
theorem aw_1047 : Cond.methodLink RX10 235 yX10_ownSize ∈ AL := AL_in (tk_5 _ (List.mem_of_getElem? (i := 42) rfl)) rfl
theorem aw_1049 : Cond.instanceMethod yX10_ownSize ∈ AL := AL_in (tk_5 _ (List.mem_of_getElem? (i := 44) rfl)) rfl
theorem aw_1050 : Cond.code yX10_ownSize cX10_ownSize 2 (some .int) ∈ AL := AL_in (tk_5 _ (List.mem_of_getElem? (i := 45) rfl)) rfl
theorem aw_1051 : Cond.methodLink RX10 238 yX10_layWays ∈ AL := AL_in (tk_5 _ (List.mem_of_getElem? (i := 46) rfl)) rfl
theorem aw_1053 : Cond.instanceMethod yX10_layWays ∈ AL := AL_in (tk_5 _ (List.mem_of_getElem? (i := 48) rfl)) rfl
theorem aw_1054 : Cond.code yX10_layWays cX10_layWays 7 none ∈ AL := AL_in (tk_5 _ (List.mem_of_getElem? (i := 49) rfl)) rfl
theorem aw_1055 : Cond.methodLink RX10 228 yX10_to ∈ AL := AL_in (tk_5 _ (List.mem_of_getElem? (i := 50) rfl)) rfl
theorem aw_1057 : Cond.instanceMethod yX10_to ∈ AL := AL_in (tk_5 _ (List.mem_of_getElem? (i := 52) rfl)) rfl
theorem aw_1058 : Cond.code yX10_to cX10_to 6 (some .int) ∈ AL := AL_in (tk_5 _ (List.mem_of_getElem? (i := 53) rfl)) rfl
theorem aw_1059 : Cond.methodLink RX10 231 yX10_tryWay ∈ AL := AL_in (tk_5 _ (List.mem_of_getElem? (i := 54) rfl)) rfl
theorem aw_1061 : Cond.instanceMethod yX10_tryWay ∈ AL := AL_in (tk_5 _ (List.mem_of_getElem? (i := 56) rfl)) rfl
theorem aw_1062 : Cond.code yX10_tryWay cX10_tryWay 8 none ∈ AL := AL_in (tk_5 _ (List.mem_of_getElem? (i := 57) rfl)) rfl
theorem aw_1063 : Cond.methodLink RX10 209 yX10_begin ∈ AL := AL_in (tk_5 _ (List.mem_of_getElem? (i := 58) rfl)) rfl
theorem aw_1065 : Cond.instanceMethod yX10_begin ∈ AL := AL_in (tk_5 _ (List.mem_of_getElem? (i := 60) rfl)) rfl
theorem aw_1066 : Cond.code yX10_begin cX10_begin 5 none ∈ AL := AL_in (tk_5 _ (List.mem_of_getElem? (i := 61) rfl)) rfl
theorem aw_1067 : Cond.methodLink RX10 213 yX10_towAll ∈ AL := AL_in (tk_5 _ (List.mem_of_getElem? (i := 62) rfl)) rfl
theorem aw_1069 : Cond.instanceMethod yX10_towAll ∈ AL := AL_in (tk_5 _ (List.mem_of_getElem? (i := 64) rfl)) rfl
theorem aw_1070 : Cond.code yX10_towAll cX10_towAll 3 none ∈ AL := AL_in (tk_5 _ (List.mem_of_getElem? (i := 65) rfl)) rfl
theorem aw_1071 : Cond.methodLink RX10 202 yX10_step ∈ AL := AL_in (tk_5 _ (List.mem_of_getElem? (i := 66) rfl)) rfl
theorem aw_1073 : Cond.instanceMethod yX10_step ∈ AL := AL_in (tk_5 _ (List.mem_of_getElem? (i := 68) rfl)) rfl
theorem aw_1074 : Cond.code yX10_step cX10_step 5 none ∈ AL := AL_in (tk_5 _ (List.mem_of_getElem? (i := 69) rfl)) rfl
theorem aw_1075 : Cond.methodLink RX10 198 yX10_day ∈ AL := AL_in (tk_5 _ (List.mem_of_getElem? (i := 70) rfl)) rfl
theorem aw_1077 : Cond.instanceMethod yX10_day ∈ AL := AL_in (tk_5 _ (List.mem_of_getElem? (i := 72) rfl)) rfl
theorem aw_1078 : Cond.code yX10_day cX10_day 4 none ∈ AL := AL_in (tk_5 _ (List.mem_of_getElem? (i := 73) rfl)) rfl
theorem aw_1079 : Cond.methodLink RX10 174 yX10_draw ∈ AL := AL_in (tk_5 _ (List.mem_of_getElem? (i := 74) rfl)) rfl
theorem aw_1081 : Cond.instanceMethod yX10_draw ∈ AL := AL_in (tk_5 _ (List.mem_of_getElem? (i := 76) rfl)) rfl
theorem aw_1082 : Cond.code yX10_draw cX10_draw 2 (some .int) ∈ AL := AL_in (tk_5 _ (List.mem_of_getElem? (i := 77) rfl)) rfl
theorem aw_1083 : Cond.constantLong RX10 164 (1103515245) ∈ AL := AL_in (tk_5 _ (List.mem_of_getElem? (i := 78) rfl)) rfl
theorem aw_1084 : Cond.constantLong RX10 169 (12345) ∈ AL := AL_in (tk_5 _ (List.mem_of_getElem? (i := 79) rfl)) rfl
theorem aw_1085 : Cond.constantLong RX10 171 (2147483647) ∈ AL := AL_in (tk_5 _ (List.mem_of_getElem? (i := 80) rfl)) rfl
theorem aw_1086 : Cond.constant RX10 173 (65536) ∈ AL := AL_in (tk_5 _ (List.mem_of_getElem? (i := 81) rfl)) rfl
theorem aw_1087 : Cond.constant RX10 241 (-100001) ∈ AL := AL_in (tk_5 _ (List.mem_of_getElem? (i := 82) rfl)) rfl
theorem aw_1088 : Cond.constant RX10 254 (-100102) ∈ AL := AL_in (tk_5 _ (List.mem_of_getElem? (i := 83) rfl)) rfl
theorem aw_1089 : Cond.methodLink RL 69 yX10_ways ∈ AL := AL_in (tk_5 _ (List.mem_of_getElem? (i := 84) rfl)) rfl
theorem aw_1090 : Cond.instanceMethod yX10_ways ∈ AL := AL_in (tk_5 _ (List.mem_of_getElem? (i := 85) rfl)) rfl
theorem aw_1091 : Cond.selects RX10 yX10_ways yX10_ways ∈ AL := AL_in (tk_5 _ (List.mem_of_getElem? (i := 86) rfl)) rfl
theorem aw_1092 : Cond.code yX10_ways cX10_ways 2 (some .int) ∈ AL := AL_in (tk_5 _ (List.mem_of_getElem? (i := 87) rfl)) rfl
theorem aw_1093 : Cond.methodLink RX10 255 yX10_waysOf ∈ AL := AL_in (tk_5 _ (List.mem_of_getElem? (i := 88) rfl)) rfl
theorem aw_1095 : Cond.instanceMethod yX10_waysOf ∈ AL := AL_in (tk_5 _ (List.mem_of_getElem? (i := 90) rfl)) rfl
theorem aw_1096 : Cond.code yX10_waysOf cX10_waysOf 2 (some .int) ∈ AL := AL_in (tk_5 _ (List.mem_of_getElem? (i := 91) rfl)) rfl
theorem aw_1097 : Cond.methodLink RL 73 yX10_best ∈ AL := AL_in (tk_5 _ (List.mem_of_getElem? (i := 92) rfl)) rfl
theorem aw_1098 : Cond.instanceMethod yX10_best ∈ AL := AL_in (tk_5 _ (List.mem_of_getElem? (i := 93) rfl)) rfl
theorem aw_1099 : Cond.selects RX10 yX10_best yX10_best ∈ AL := AL_in (tk_5 _ (List.mem_of_getElem? (i := 94) rfl)) rfl
theorem aw_1100 : Cond.code yX10_best cX10_best 3 (some .int) ∈ AL := AL_in (tk_5 _ (List.mem_of_getElem? (i := 95) rfl)) rfl
theorem aw_1101 : Cond.methodLink RX10 259 yX10_tellBest ∈ AL := AL_in (tk_5 _ (List.mem_of_getElem? (i := 96) rfl)) rfl
theorem aw_1103 : Cond.instanceMethod yX10_tellBest ∈ AL := AL_in (tk_5 _ (List.mem_of_getElem? (i := 98) rfl)) rfl
theorem aw_1104 : Cond.code yX10_tellBest cX10_tellBest 7 (some .int) ∈ AL := AL_in (tk_5 _ (List.mem_of_getElem? (i := 99) rfl)) rfl
theorem aw_1105 : Cond.constant RX10 258 (-100000000) ∈ AL := AL_in (tk_5 _ (List.mem_of_getElem? (i := 100) rfl)) rfl
theorem aw_1106 : Cond.methodLink RL 77 yX10_season ∈ AL := AL_in (tk_5 _ (List.mem_of_getElem? (i := 101) rfl)) rfl
theorem aw_1107 : Cond.instanceMethod yX10_season ∈ AL := AL_in (tk_5 _ (List.mem_of_getElem? (i := 102) rfl)) rfl
theorem aw_1108 : Cond.selects RX10 yX10_season yX10_season ∈ AL := AL_in (tk_5 _ (List.mem_of_getElem? (i := 103) rfl)) rfl
theorem aw_1109 : Cond.code yX10_season cX10_season 3 (some .int) ∈ AL := AL_in (tk_5 _ (List.mem_of_getElem? (i := 104) rfl)) rfl
theorem aw_1110 : Cond.methodLink RX10 262 yX10_lacks ∈ AL := AL_in (tk_5 _ (List.mem_of_getElem? (i := 105) rfl)) rfl
theorem aw_1112 : Cond.instanceMethod yX10_lacks ∈ AL := AL_in (tk_5 _ (List.mem_of_getElem? (i := 107) rfl)) rfl
theorem aw_1113 : Cond.code yX10_lacks cX10_lacks 1 (some .boolean) ∈ AL := AL_in (tk_5 _ (List.mem_of_getElem? (i := 108) rfl)) rfl
theorem aw_1114 : Cond.constantLong RX10 266 (5) ∈ AL := AL_in (tk_5 _ (List.mem_of_getElem? (i := 109) rfl)) rfl
theorem aw_1115 : Cond.methodLink RX10 268 yX10_seasonOf ∈ AL := AL_in (tk_5 _ (List.mem_of_getElem? (i := 110) rfl)) rfl
theorem aw_1117 : Cond.instanceMethod yX10_seasonOf ∈ AL := AL_in (tk_5 _ (List.mem_of_getElem? (i := 112) rfl)) rfl
theorem aw_1118 : Cond.code yX10_seasonOf cX10_seasonOf 8 (some .int) ∈ AL := AL_in (tk_5 _ (List.mem_of_getElem? (i := 113) rfl)) rfl
theorem aw_1119 : Cond.methodLink RL 81 yX10_more ∈ AL := AL_in (tk_5 _ (List.mem_of_getElem? (i := 114) rfl)) rfl
theorem aw_1120 : Cond.instanceMethod yX10_more ∈ AL := AL_in (tk_5 _ (List.mem_of_getElem? (i := 115) rfl)) rfl
theorem aw_1121 : Cond.selects RX10 yX10_more yX10_more ∈ AL := AL_in (tk_5 _ (List.mem_of_getElem? (i := 116) rfl)) rfl
theorem aw_1122 : Cond.code yX10_more cX10_more 2 (some .int) ∈ AL := AL_in (tk_5 _ (List.mem_of_getElem? (i := 117) rfl)) rfl
theorem aw_1123 : Cond.methodLink RL 86 yX10_drawn ∈ AL := AL_in (tk_5 _ (List.mem_of_getElem? (i := 118) rfl)) rfl
theorem aw_1124 : Cond.instanceMethod yX10_drawn ∈ AL := AL_in (tk_5 _ (List.mem_of_getElem? (i := 119) rfl)) rfl
theorem aw_1125 : Cond.selects RX10 yX10_drawn yX10_drawn ∈ AL := AL_in (tk_5 _ (List.mem_of_getElem? (i := 120) rfl)) rfl
theorem aw_1126 : Cond.code yX10_drawn cX10_drawn 8 (some .int) ∈ AL := AL_in (tk_5 _ (List.mem_of_getElem? (i := 121) rfl)) rfl
theorem aw_1127 : Cond.methodLink RL 90 yX10_came ∈ AL := AL_in (tk_5 _ (List.mem_of_getElem? (i := 122) rfl)) rfl
theorem aw_1128 : Cond.instanceMethod yX10_came ∈ AL := AL_in (tk_5 _ (List.mem_of_getElem? (i := 123) rfl)) rfl
theorem aw_1129 : Cond.selects RX10 yX10_came yX10_came ∈ AL := AL_in (tk_5 _ (List.mem_of_getElem? (i := 124) rfl)) rfl
theorem aw_1130 : Cond.code yX10_came cX10_came 10 (some .int) ∈ AL := AL_in (tk_5 _ (List.mem_of_getElem? (i := 125) rfl)) rfl
theorem aw_1131 : Cond.methodLink RL 95 yX10_letOff ∈ AL := AL_in (tk_5 _ (List.mem_of_getElem? (i := 126) rfl)) rfl
theorem aw_1132 : Cond.instanceMethod yX10_letOff ∈ AL := AL_in (tk_5 _ (List.mem_of_getElem? (i := 127) rfl)) rfl
theorem aw_1133 : Cond.selects RX10 yX10_letOff yX10_letOff ∈ AL := AL_in (tk_5 _ (List.mem_of_getElem? (i := 128) rfl)) rfl
theorem aw_1134 : Cond.code yX10_letOff cX10_letOff 17 (some .long) ∈ AL := AL_in (tk_5 _ (List.mem_of_getElem? (i := 129) rfl)) rfl
theorem aw_1135 : Cond.constantLong RX10 274 (-102) ∈ AL := AL_in (tk_5 _ (List.mem_of_getElem? (i := 130) rfl)) rfl
theorem aw_1136 : Cond.methodLink RX10 276 yX10_melted ∈ AL := AL_in (tk_5 _ (List.mem_of_getElem? (i := 131) rfl)) rfl
theorem aw_1137 : Cond.static yX10_melted ∈ AL := AL_in (tk_5 _ (List.mem_of_getElem? (i := 132) rfl)) rfl
theorem aw_1138 : Cond.code yX10_melted cX10_melted 2 (some .int) ∈ AL := AL_in (tk_5 _ (List.mem_of_getElem? (i := 133) rfl)) rfl
theorem aw_1139 : Cond.methodLink RX10 279 yX10_common ∈ AL := AL_in (tk_5 _ (List.mem_of_getElem? (i := 134) rfl)) rfl
theorem aw_1140 : Cond.static yX10_common ∈ AL := AL_in (tk_5 _ (List.mem_of_getElem? (i := 135) rfl)) rfl
theorem aw_1141 : Cond.code yX10_common cX10_common 10 (some .long) ∈ AL := AL_in (tk_5 _ (List.mem_of_getElem? (i := 136) rfl)) rfl
theorem aw_1142 : Cond.methodLink RL 99 yX10_line ∈ AL := AL_in (tk_5 _ (List.mem_of_getElem? (i := 137) rfl)) rfl
theorem aw_1143 : Cond.instanceMethod yX10_line ∈ AL := AL_in (tk_5 _ (List.mem_of_getElem? (i := 138) rfl)) rfl
theorem aw_1144 : Cond.selects RX10 yX10_line yX10_line ∈ AL := AL_in (tk_5 _ (List.mem_of_getElem? (i := 139) rfl)) rfl
theorem aw_1145 : Cond.code yX10_line cX10_line 4 (some .int) ∈ AL := AL_in (tk_5 _ (List.mem_of_getElem? (i := 140) rfl)) rfl
theorem aw_1146 : Cond.methodLink RL 103 yX10_claims ∈ AL := AL_in (tk_5 _ (List.mem_of_getElem? (i := 141) rfl)) rfl
theorem aw_1147 : Cond.instanceMethod yX10_claims ∈ AL := AL_in (tk_5 _ (List.mem_of_getElem? (i := 142) rfl)) rfl
theorem aw_1148 : Cond.selects RX10 yX10_claims yX10_claims ∈ AL := AL_in (tk_5 _ (List.mem_of_getElem? (i := 143) rfl)) rfl
theorem aw_1149 : Cond.code yX10_claims cX10_claims 12 (some .int) ∈ AL := AL_in (tk_5 _ (List.mem_of_getElem? (i := 144) rfl)) rfl
theorem aw_1150 : Cond.methodLink RL 107 yX10_image ∈ AL := AL_in (tk_5 _ (List.mem_of_getElem? (i := 145) rfl)) rfl
theorem aw_1151 : Cond.instanceMethod yX10_image ∈ AL := AL_in (tk_5 _ (List.mem_of_getElem? (i := 146) rfl)) rfl
theorem aw_1152 : Cond.selects RX10 yX10_image yX10_image ∈ AL := AL_in (tk_5 _ (List.mem_of_getElem? (i := 147) rfl)) rfl
theorem aw_1153 : Cond.code yX10_image cX10_image 2 (some .int) ∈ AL := AL_in (tk_5 _ (List.mem_of_getElem? (i := 148) rfl)) rfl
theorem aw_1154 : Cond.methodLink RL 111 yX10_restore ∈ AL := AL_in (tk_5 _ (List.mem_of_getElem? (i := 149) rfl)) rfl
theorem aw_1155 : Cond.instanceMethod yX10_restore ∈ AL := AL_in (tk_5 _ (List.mem_of_getElem? (i := 150) rfl)) rfl
theorem aw_1156 : Cond.selects RX10 yX10_restore yX10_restore ∈ AL := AL_in (tk_5 _ (List.mem_of_getElem? (i := 151) rfl)) rfl
theorem aw_1157 : Cond.code yX10_restore cX10_restore 2 (some .int) ∈ AL := AL_in (tk_5 _ (List.mem_of_getElem? (i := 152) rfl)) rfl
theorem aw_1158 : Cond.methodLink RL 115 yX10_count ∈ AL := AL_in (tk_5 _ (List.mem_of_getElem? (i := 153) rfl)) rfl
theorem aw_1159 : Cond.instanceMethod yX10_count ∈ AL := AL_in (tk_5 _ (List.mem_of_getElem? (i := 154) rfl)) rfl
theorem aw_1160 : Cond.selects RX10 yX10_count yX10_count ∈ AL := AL_in (tk_5 _ (List.mem_of_getElem? (i := 155) rfl)) rfl
theorem aw_1161 : Cond.code yX10_count cX10_count 2 (some .int) ∈ AL := AL_in (tk_5 _ (List.mem_of_getElem? (i := 156) rfl)) rfl
theorem aw_1162 : Cond.methodLink RX10 298 yX10_countOf ∈ AL := AL_in (tk_5 _ (List.mem_of_getElem? (i := 157) rfl)) rfl
theorem aw_1164 : Cond.instanceMethod yX10_countOf ∈ AL := AL_in (tk_5 _ (List.mem_of_getElem? (i := 159) rfl)) rfl
theorem aw_1165 : Cond.code yX10_countOf cX10_countOf 2 (some .int) ∈ AL := AL_in (tk_5 _ (List.mem_of_getElem? (i := 160) rfl)) rfl
theorem aw_1166 : Cond.methodLink RL 120 yX10_digest ∈ AL := AL_in (tk_5 _ (List.mem_of_getElem? (i := 161) rfl)) rfl
theorem aw_1167 : Cond.instanceMethod yX10_digest ∈ AL := AL_in (tk_5 _ (List.mem_of_getElem? (i := 162) rfl)) rfl
theorem aw_1168 : Cond.selects RX10 yX10_digest yX10_digest ∈ AL := AL_in (tk_5 _ (List.mem_of_getElem? (i := 163) rfl)) rfl
theorem aw_1169 : Cond.code yX10_digest cX10_digest 3 (some .long) ∈ AL := AL_in (tk_5 _ (List.mem_of_getElem? (i := 164) rfl)) rfl
theorem aw_1170 : Cond.constantLong RX10 311 (569) ∈ AL := AL_in (tk_5 _ (List.mem_of_getElem? (i := 165) rfl)) rfl
theorem aw_1171 : Cond.methodLink RX10 307 yX10_say ∈ AL := AL_in (tk_5 _ (List.mem_of_getElem? (i := 166) rfl)) rfl
theorem aw_1173 : Cond.instanceMethod yX10_say ∈ AL := AL_in (tk_5 _ (List.mem_of_getElem? (i := 168) rfl)) rfl
theorem aw_1174 : Cond.code yX10_say cX10_say 3 none ∈ AL := AL_in (tk_5 _ (List.mem_of_getElem? (i := 169) rfl)) rfl
theorem aw_1175 : Cond.constantLong RX10 301 (31) ∈ AL := AL_in (tk_5 _ (List.mem_of_getElem? (i := 170) rfl)) rfl
theorem aw_1176 : Cond.methodLink RX10 313 yX10_sayBerg ∈ AL := AL_in (tk_5 _ (List.mem_of_getElem? (i := 171) rfl)) rfl
theorem aw_1178 : Cond.instanceMethod yX10_sayBerg ∈ AL := AL_in (tk_5 _ (List.mem_of_getElem? (i := 173) rfl)) rfl
theorem aw_1179 : Cond.code yX10_sayBerg cX10_sayBerg 3 none ∈ AL := AL_in (tk_5 _ (List.mem_of_getElem? (i := 174) rfl)) rfl
theorem aw_1180 : Cond.constantLong RL 13 (4294967295) ∈ AL := AL_in (tk_5 _ (List.mem_of_getElem? (i := 175) rfl)) rfl
end
