section
-- ===== PART A: goes FIRST, ahead of the names: the tables' words, and 'selects' of the private methods out of them =====
/-- a private method of a class that the tables say can be made, by its rows of tables_1 -/
def lw_okq (q : MethodName × Nat) : Prop := (q.1.cls ≠ "java/lang/invoke/MethodHandle" ∧ q.1.cls ≠ "java/lang/invoke/VarHandle") ∧ Cond.instantiable q.1.cls q.2 ∈ tables_1 ∧ Cond.privateMethod q.1 ∈ tables_1 ∧ Cond.instanceMethod q.1 ∈ tables_1
theorem lw_p0 : lw_okq (⟨"IceForCoast$Page", "takes", "(I)Z"⟩, 7) := ⟨⟨by decide +kernel, by decide +kernel⟩, List.mem_of_getElem? (i := 23) (by decide +kernel), List.mem_of_getElem? (i := 373) (by decide +kernel), List.mem_of_getElem? (i := 374) (by decide +kernel)⟩
theorem lw_p1 : lw_okq (⟨"IceForCoast$Page", "takesRowEnd", "()Z"⟩, 7) := ⟨⟨by decide +kernel, by decide +kernel⟩, List.mem_of_getElem? (i := 23) (by decide +kernel), List.mem_of_getElem? (i := 377) (by decide +kernel), List.mem_of_getElem? (i := 378) (by decide +kernel)⟩
theorem lw_p2 : lw_okq (⟨"IceForCoast$Page", "takesSquare", "(I)Z"⟩, 7) := ⟨⟨by decide +kernel, by decide +kernel⟩, List.mem_of_getElem? (i := 23) (by decide +kernel), List.mem_of_getElem? (i := 384) (by decide +kernel), List.mem_of_getElem? (i := 385) (by decide +kernel)⟩
theorem lw_p3 : lw_okq (⟨"IceForCoast$Sea", "layLetter", "(I)V"⟩, 8) := ⟨⟨by decide +kernel, by decide +kernel⟩, List.mem_of_getElem? (i := 60) (by decide +kernel), List.mem_of_getElem? (i := 405) (by decide +kernel), List.mem_of_getElem? (i := 406) (by decide +kernel)⟩
theorem lw_p4 : lw_okq (⟨"IceForCoast$Sea", "measure", "()V"⟩, 8) := ⟨⟨by decide +kernel, by decide +kernel⟩, List.mem_of_getElem? (i := 60) (by decide +kernel), List.mem_of_getElem? (i := 410) (by decide +kernel), List.mem_of_getElem? (i := 411) (by decide +kernel)⟩
theorem lw_p5 : lw_okq (⟨"IceForCoast$Sea", "openWays", "(I)V"⟩, 8) := ⟨⟨by decide +kernel, by decide +kernel⟩, List.mem_of_getElem? (i := 60) (by decide +kernel), List.mem_of_getElem? (i := 417) (by decide +kernel), List.mem_of_getElem? (i := 418) (by decide +kernel)⟩
theorem lw_p6 : lw_okq (⟨"IceForCoast$Sea", "beside", "(II)I"⟩, 8) := ⟨⟨by decide +kernel, by decide +kernel⟩, List.mem_of_getElem? (i := 60) (by decide +kernel), List.mem_of_getElem? (i := 421) (by decide +kernel), List.mem_of_getElem? (i := 422) (by decide +kernel)⟩
theorem lw_p7 : lw_okq (⟨"IceForCoast", "isBerg", "(I)Z"⟩, 12) := ⟨⟨by decide +kernel, by decide +kernel⟩, List.mem_of_getElem? (i := 15) (by decide +kernel), List.mem_of_getElem? (i := 476) (by decide +kernel), List.mem_of_getElem? (i := 477) (by decide +kernel)⟩
theorem lw_p8 : lw_okq (⟨"IceForCoast", "hasWay", "(I)Z"⟩, 12) := ⟨⟨by decide +kernel, by decide +kernel⟩, List.mem_of_getElem? (i := 15) (by decide +kernel), List.mem_of_getElem? (i := 521) (by decide +kernel), List.mem_of_getElem? (i := 522) (by decide +kernel)⟩
theorem lw_p9 : lw_okq (⟨"IceForCoast$Tow", "isHopeless", "(I)Z"⟩, 17) := ⟨⟨by decide +kernel, by decide +kernel⟩, List.mem_of_getElem? (i := 54) (by decide +kernel), List.mem_of_getElem? (i := 534) (by decide +kernel), List.mem_of_getElem? (i := 535) (by decide +kernel)⟩
theorem lw_p10 : lw_okq (⟨"IceForCoast$Tow", "choose", "(I)V"⟩, 17) := ⟨⟨by decide +kernel, by decide +kernel⟩, List.mem_of_getElem? (i := 54) (by decide +kernel), List.mem_of_getElem? (i := 542) (by decide +kernel), List.mem_of_getElem? (i := 543) (by decide +kernel)⟩
theorem lw_p11 : lw_okq (⟨"IceForCoast$Tow", "pass", "(III)V"⟩, 17) := ⟨⟨by decide +kernel, by decide +kernel⟩, List.mem_of_getElem? (i := 54) (by decide +kernel), List.mem_of_getElem? (i := 549) (by decide +kernel), List.mem_of_getElem? (i := 550) (by decide +kernel)⟩
theorem lw_p12 : lw_okq (⟨"IceForCoast$Tow", "daysOfStep", "(III)I"⟩, 17) := ⟨⟨by decide +kernel, by decide +kernel⟩, List.mem_of_getElem? (i := 54) (by decide +kernel), List.mem_of_getElem? (i := 553) (by decide +kernel), List.mem_of_getElem? (i := 554) (by decide +kernel)⟩
theorem lw_p13 : lw_okq (⟨"IceForCoast$Tow", "drawnWarmth", "(I)I"⟩, 17) := ⟨⟨by decide +kernel, by decide +kernel⟩, List.mem_of_getElem? (i := 54) (by decide +kernel), List.mem_of_getElem? (i := 557) (by decide +kernel), List.mem_of_getElem? (i := 558) (by decide +kernel)⟩
theorem lw_p14 : lw_okq (⟨"IceForCoast", "weigh", "(I)V"⟩, 12) := ⟨⟨by decide +kernel, by decide +kernel⟩, List.mem_of_getElem? (i := 15) (by decide +kernel), List.mem_of_getElem? (i := 586) (by decide +kernel), List.mem_of_getElem? (i := 587) (by decide +kernel)⟩
theorem lw_p15 : lw_okq (⟨"IceForCoast$Ledger", "mostFrom", "(II)I"⟩, 4) := ⟨⟨by decide +kernel, by decide +kernel⟩, List.mem_of_getElem? (i := 260) (by decide +kernel), List.mem_of_getElem? (i := 608) (by decide +kernel), List.mem_of_getElem? (i := 609) (by decide +kernel)⟩
def lw_privs_1 : List (MethodName × Nat) := [(⟨"IceForCoast$Page", "takes", "(I)Z"⟩, 7), (⟨"IceForCoast$Page", "takesRowEnd", "()Z"⟩, 7), (⟨"IceForCoast$Page", "takesSquare", "(I)Z"⟩, 7), (⟨"IceForCoast$Sea", "layLetter", "(I)V"⟩, 8), (⟨"IceForCoast$Sea", "measure", "()V"⟩, 8), (⟨"IceForCoast$Sea", "openWays", "(I)V"⟩, 8), (⟨"IceForCoast$Sea", "beside", "(II)I"⟩, 8), (⟨"IceForCoast", "isBerg", "(I)Z"⟩, 12), (⟨"IceForCoast", "hasWay", "(I)Z"⟩, 12), (⟨"IceForCoast$Tow", "isHopeless", "(I)Z"⟩, 17), (⟨"IceForCoast$Tow", "choose", "(I)V"⟩, 17), (⟨"IceForCoast$Tow", "pass", "(III)V"⟩, 17), (⟨"IceForCoast$Tow", "daysOfStep", "(III)I"⟩, 17), (⟨"IceForCoast$Tow", "drawnWarmth", "(I)I"⟩, 17), (⟨"IceForCoast", "weigh", "(I)V"⟩, 12), (⟨"IceForCoast$Ledger", "mostFrom", "(II)I"⟩, 4)]
theorem lw_r1 : ∀ q ∈ lw_privs_1, lw_okq q := List.forall_mem_cons.mpr ⟨lw_p0, List.forall_mem_cons.mpr ⟨lw_p1, List.forall_mem_cons.mpr ⟨lw_p2, List.forall_mem_cons.mpr ⟨lw_p3, List.forall_mem_cons.mpr ⟨lw_p4, List.forall_mem_cons.mpr ⟨lw_p5, List.forall_mem_cons.mpr ⟨lw_p6, List.forall_mem_cons.mpr ⟨lw_p7, List.forall_mem_cons.mpr ⟨lw_p8, List.forall_mem_cons.mpr ⟨lw_p9, List.forall_mem_cons.mpr ⟨lw_p10, List.forall_mem_cons.mpr ⟨lw_p11, List.forall_mem_cons.mpr ⟨lw_p12, List.forall_mem_cons.mpr ⟨lw_p13, List.forall_mem_cons.mpr ⟨lw_p14, List.forall_mem_cons.mpr ⟨lw_p15, fun _ h => absurd h List.not_mem_nil⟩⟩⟩⟩⟩⟩⟩⟩⟩⟩⟩⟩⟩⟩⟩⟩
theorem lw_p16 : lw_okq (⟨"IceForCoast$Ledger", "gainBy", "(II)I"⟩, 4) := ⟨⟨by decide +kernel, by decide +kernel⟩, List.mem_of_getElem? (i := 260) (by decide +kernel), List.mem_of_getElem? (i := 612) (by decide +kernel), List.mem_of_getElem? (i := 613) (by decide +kernel)⟩
theorem lw_p17 : lw_okq (⟨"IceForCoast$Ledger", "fewestFor", "(II)I"⟩, 4) := ⟨⟨by decide +kernel, by decide +kernel⟩, List.mem_of_getElem? (i := 260) (by decide +kernel), List.mem_of_getElem? (i := 621) (by decide +kernel), List.mem_of_getElem? (i := 622) (by decide +kernel)⟩
theorem lw_p18 : lw_okq (⟨"IceForCoast$Odds", "letOffNow", "(II)J"⟩, 4) := ⟨⟨by decide +kernel, by decide +kernel⟩, List.mem_of_getElem? (i := 285) (by decide +kernel), List.mem_of_getElem? (i := 651) (by decide +kernel), List.mem_of_getElem? (i := 652) (by decide +kernel)⟩
theorem lw_p19 : lw_okq (⟨"IceForCoast$Odds", "heldNow", "(III)J"⟩, 4) := ⟨⟨by decide +kernel, by decide +kernel⟩, List.mem_of_getElem? (i := 285) (by decide +kernel), List.mem_of_getElem? (i := 657) (by decide +kernel), List.mem_of_getElem? (i := 658) (by decide +kernel)⟩
theorem lw_p20 : lw_okq (⟨"IceForCoast$Lines", "counts", "(III)Z"⟩, 4) := ⟨⟨by decide +kernel, by decide +kernel⟩, List.mem_of_getElem? (i := 209) (by decide +kernel), List.mem_of_getElem? (i := 686) (by decide +kernel), List.mem_of_getElem? (i := 687) (by decide +kernel)⟩
theorem lw_p21 : lw_okq (⟨"IceForCoastModel", "faultOf", "()I"⟩, 52) := ⟨⟨by decide +kernel, by decide +kernel⟩, List.mem_of_getElem? (i := 739) (by decide +kernel), List.mem_of_getElem? (i := 915) (by decide +kernel), List.mem_of_getElem? (i := 916) (by decide +kernel)⟩
theorem lw_p22 : lw_okq (⟨"IceForCoastModel", "go", "(I)Z"⟩, 52) := ⟨⟨by decide +kernel, by decide +kernel⟩, List.mem_of_getElem? (i := 739) (by decide +kernel), List.mem_of_getElem? (i := 919) (by decide +kernel), List.mem_of_getElem? (i := 920) (by decide +kernel)⟩
theorem lw_p23 : lw_okq (⟨"IceForCoastModel", "readAt", "()I"⟩, 52) := ⟨⟨by decide +kernel, by decide +kernel⟩, List.mem_of_getElem? (i := 739) (by decide +kernel), List.mem_of_getElem? (i := 926) (by decide +kernel), List.mem_of_getElem? (i := 927) (by decide +kernel)⟩
theorem lw_p24 : lw_okq (⟨"IceForCoastModel", "isSquare", "(I)Z"⟩, 52) := ⟨⟨by decide +kernel, by decide +kernel⟩, List.mem_of_getElem? (i := 739) (by decide +kernel), List.mem_of_getElem? (i := 943) (by decide +kernel), List.mem_of_getElem? (i := 944) (by decide +kernel)⟩
theorem lw_p25 : lw_okq (⟨"IceForCoastModel", "tellSquare", "(II)I"⟩, 52) := ⟨⟨by decide +kernel, by decide +kernel⟩, List.mem_of_getElem? (i := 739) (by decide +kernel), List.mem_of_getElem? (i := 947) (by decide +kernel), List.mem_of_getElem? (i := 948) (by decide +kernel)⟩
theorem lw_p26 : lw_okq (⟨"IceForCoastModel", "farOf", "(I)I"⟩, 52) := ⟨⟨by decide +kernel, by decide +kernel⟩, List.mem_of_getElem? (i := 739) (by decide +kernel), List.mem_of_getElem? (i := 951) (by decide +kernel), List.mem_of_getElem? (i := 952) (by decide +kernel)⟩
theorem lw_p27 : lw_okq (⟨"IceForCoastModel", "isBerg", "(I)Z"⟩, 52) := ⟨⟨by decide +kernel, by decide +kernel⟩, List.mem_of_getElem? (i := 739) (by decide +kernel), List.mem_of_getElem? (i := 972) (by decide +kernel), List.mem_of_getElem? (i := 973) (by decide +kernel)⟩
theorem lw_p28 : lw_okq (⟨"IceForCoastModel", "tellTow", "(IIZI)I"⟩, 52) := ⟨⟨by decide +kernel, by decide +kernel⟩, List.mem_of_getElem? (i := 739) (by decide +kernel), List.mem_of_getElem? (i := 999) (by decide +kernel), List.mem_of_getElem? (i := 1000) (by decide +kernel)⟩
theorem lw_p29 : lw_okq (⟨"IceForCoastModel", "ownSize", "(I)I"⟩, 52) := ⟨⟨by decide +kernel, by decide +kernel⟩, List.mem_of_getElem? (i := 739) (by decide +kernel), List.mem_of_getElem? (i := 1003) (by decide +kernel), List.mem_of_getElem? (i := 1004) (by decide +kernel)⟩
theorem lw_p30 : lw_okq (⟨"IceForCoastModel", "layWays", "(IIIZ)V"⟩, 52) := ⟨⟨by decide +kernel, by decide +kernel⟩, List.mem_of_getElem? (i := 739) (by decide +kernel), List.mem_of_getElem? (i := 1007) (by decide +kernel), List.mem_of_getElem? (i := 1008) (by decide +kernel)⟩
theorem lw_p31 : lw_okq (⟨"IceForCoastModel", "to", "(II)I"⟩, 52) := ⟨⟨by decide +kernel, by decide +kernel⟩, List.mem_of_getElem? (i := 739) (by decide +kernel), List.mem_of_getElem? (i := 1011) (by decide +kernel), List.mem_of_getElem? (i := 1012) (by decide +kernel)⟩
def lw_privs_2 : List (MethodName × Nat) := [(⟨"IceForCoast$Ledger", "gainBy", "(II)I"⟩, 4), (⟨"IceForCoast$Ledger", "fewestFor", "(II)I"⟩, 4), (⟨"IceForCoast$Odds", "letOffNow", "(II)J"⟩, 4), (⟨"IceForCoast$Odds", "heldNow", "(III)J"⟩, 4), (⟨"IceForCoast$Lines", "counts", "(III)Z"⟩, 4), (⟨"IceForCoastModel", "faultOf", "()I"⟩, 52), (⟨"IceForCoastModel", "go", "(I)Z"⟩, 52), (⟨"IceForCoastModel", "readAt", "()I"⟩, 52), (⟨"IceForCoastModel", "isSquare", "(I)Z"⟩, 52), (⟨"IceForCoastModel", "tellSquare", "(II)I"⟩, 52), (⟨"IceForCoastModel", "farOf", "(I)I"⟩, 52), (⟨"IceForCoastModel", "isBerg", "(I)Z"⟩, 52), (⟨"IceForCoastModel", "tellTow", "(IIZI)I"⟩, 52), (⟨"IceForCoastModel", "ownSize", "(I)I"⟩, 52), (⟨"IceForCoastModel", "layWays", "(IIIZ)V"⟩, 52), (⟨"IceForCoastModel", "to", "(II)I"⟩, 52)]
theorem lw_r2 : ∀ q ∈ lw_privs_2, lw_okq q := List.forall_mem_cons.mpr ⟨lw_p16, List.forall_mem_cons.mpr ⟨lw_p17, List.forall_mem_cons.mpr ⟨lw_p18, List.forall_mem_cons.mpr ⟨lw_p19, List.forall_mem_cons.mpr ⟨lw_p20, List.forall_mem_cons.mpr ⟨lw_p21, List.forall_mem_cons.mpr ⟨lw_p22, List.forall_mem_cons.mpr ⟨lw_p23, List.forall_mem_cons.mpr ⟨lw_p24, List.forall_mem_cons.mpr ⟨lw_p25, List.forall_mem_cons.mpr ⟨lw_p26, List.forall_mem_cons.mpr ⟨lw_p27, List.forall_mem_cons.mpr ⟨lw_p28, List.forall_mem_cons.mpr ⟨lw_p29, List.forall_mem_cons.mpr ⟨lw_p30, List.forall_mem_cons.mpr ⟨lw_p31, fun _ h => absurd h List.not_mem_nil⟩⟩⟩⟩⟩⟩⟩⟩⟩⟩⟩⟩⟩⟩⟩⟩
theorem lw_p32 : lw_okq (⟨"IceForCoastModel", "tryWay", "(IIIZI)V"⟩, 52) := ⟨⟨by decide +kernel, by decide +kernel⟩, List.mem_of_getElem? (i := 739) (by decide +kernel), List.mem_of_getElem? (i := 1015) (by decide +kernel), List.mem_of_getElem? (i := 1016) (by decide +kernel)⟩
theorem lw_p33 : lw_okq (⟨"IceForCoastModel", "begin", "(IIIZ)V"⟩, 52) := ⟨⟨by decide +kernel, by decide +kernel⟩, List.mem_of_getElem? (i := 739) (by decide +kernel), List.mem_of_getElem? (i := 1019) (by decide +kernel), List.mem_of_getElem? (i := 1020) (by decide +kernel)⟩
theorem lw_p34 : lw_okq (⟨"IceForCoastModel", "towAll", "(I)V"⟩, 52) := ⟨⟨by decide +kernel, by decide +kernel⟩, List.mem_of_getElem? (i := 739) (by decide +kernel), List.mem_of_getElem? (i := 1023) (by decide +kernel), List.mem_of_getElem? (i := 1024) (by decide +kernel)⟩
theorem lw_p35 : lw_okq (⟨"IceForCoastModel", "step", "(II)V"⟩, 52) := ⟨⟨by decide +kernel, by decide +kernel⟩, List.mem_of_getElem? (i := 739) (by decide +kernel), List.mem_of_getElem? (i := 1027) (by decide +kernel), List.mem_of_getElem? (i := 1028) (by decide +kernel)⟩
theorem lw_p36 : lw_okq (⟨"IceForCoastModel", "day", "(I)V"⟩, 52) := ⟨⟨by decide +kernel, by decide +kernel⟩, List.mem_of_getElem? (i := 739) (by decide +kernel), List.mem_of_getElem? (i := 1031) (by decide +kernel), List.mem_of_getElem? (i := 1032) (by decide +kernel)⟩
theorem lw_p37 : lw_okq (⟨"IceForCoastModel", "draw", "(I)I"⟩, 52) := ⟨⟨by decide +kernel, by decide +kernel⟩, List.mem_of_getElem? (i := 739) (by decide +kernel), List.mem_of_getElem? (i := 1035) (by decide +kernel), List.mem_of_getElem? (i := 1036) (by decide +kernel)⟩
theorem lw_p38 : lw_okq (⟨"IceForCoastModel", "waysOf", "(I)I"⟩, 52) := ⟨⟨by decide +kernel, by decide +kernel⟩, List.mem_of_getElem? (i := 739) (by decide +kernel), List.mem_of_getElem? (i := 1049) (by decide +kernel), List.mem_of_getElem? (i := 1050) (by decide +kernel)⟩
theorem lw_p39 : lw_okq (⟨"IceForCoastModel", "tellBest", "(II)I"⟩, 52) := ⟨⟨by decide +kernel, by decide +kernel⟩, List.mem_of_getElem? (i := 739) (by decide +kernel), List.mem_of_getElem? (i := 1057) (by decide +kernel), List.mem_of_getElem? (i := 1058) (by decide +kernel)⟩
theorem lw_p40 : lw_okq (⟨"IceForCoastModel", "lacks", "()Z"⟩, 52) := ⟨⟨by decide +kernel, by decide +kernel⟩, List.mem_of_getElem? (i := 739) (by decide +kernel), List.mem_of_getElem? (i := 1066) (by decide +kernel), List.mem_of_getElem? (i := 1067) (by decide +kernel)⟩
theorem lw_p41 : lw_okq (⟨"IceForCoastModel", "seasonOf", "(II)I"⟩, 52) := ⟨⟨by decide +kernel, by decide +kernel⟩, List.mem_of_getElem? (i := 739) (by decide +kernel), List.mem_of_getElem? (i := 1071) (by decide +kernel), List.mem_of_getElem? (i := 1072) (by decide +kernel)⟩
theorem lw_p42 : lw_okq (⟨"IceForCoastModel", "countOf", "(I)I"⟩, 52) := ⟨⟨by decide +kernel, by decide +kernel⟩, List.mem_of_getElem? (i := 739) (by decide +kernel), List.mem_of_getElem? (i := 1118) (by decide +kernel), List.mem_of_getElem? (i := 1119) (by decide +kernel)⟩
theorem lw_p43 : lw_okq (⟨"IceForCoastModel", "say", "(J)V"⟩, 52) := ⟨⟨by decide +kernel, by decide +kernel⟩, List.mem_of_getElem? (i := 739) (by decide +kernel), List.mem_of_getElem? (i := 1127) (by decide +kernel), List.mem_of_getElem? (i := 1128) (by decide +kernel)⟩
theorem lw_p44 : lw_okq (⟨"IceForCoastModel", "sayBerg", "(I)V"⟩, 52) := ⟨⟨by decide +kernel, by decide +kernel⟩, List.mem_of_getElem? (i := 739) (by decide +kernel), List.mem_of_getElem? (i := 1132) (by decide +kernel), List.mem_of_getElem? (i := 1133) (by decide +kernel)⟩
def lw_privs_3 : List (MethodName × Nat) := [(⟨"IceForCoastModel", "tryWay", "(IIIZI)V"⟩, 52), (⟨"IceForCoastModel", "begin", "(IIIZ)V"⟩, 52), (⟨"IceForCoastModel", "towAll", "(I)V"⟩, 52), (⟨"IceForCoastModel", "step", "(II)V"⟩, 52), (⟨"IceForCoastModel", "day", "(I)V"⟩, 52), (⟨"IceForCoastModel", "draw", "(I)I"⟩, 52), (⟨"IceForCoastModel", "waysOf", "(I)I"⟩, 52), (⟨"IceForCoastModel", "tellBest", "(II)I"⟩, 52), (⟨"IceForCoastModel", "lacks", "()Z"⟩, 52), (⟨"IceForCoastModel", "seasonOf", "(II)I"⟩, 52), (⟨"IceForCoastModel", "countOf", "(I)I"⟩, 52), (⟨"IceForCoastModel", "say", "(J)V"⟩, 52), (⟨"IceForCoastModel", "sayBerg", "(I)V"⟩, 52)]
theorem lw_r3 : ∀ q ∈ lw_privs_3, lw_okq q := List.forall_mem_cons.mpr ⟨lw_p32, List.forall_mem_cons.mpr ⟨lw_p33, List.forall_mem_cons.mpr ⟨lw_p34, List.forall_mem_cons.mpr ⟨lw_p35, List.forall_mem_cons.mpr ⟨lw_p36, List.forall_mem_cons.mpr ⟨lw_p37, List.forall_mem_cons.mpr ⟨lw_p38, List.forall_mem_cons.mpr ⟨lw_p39, List.forall_mem_cons.mpr ⟨lw_p40, List.forall_mem_cons.mpr ⟨lw_p41, List.forall_mem_cons.mpr ⟨lw_p42, List.forall_mem_cons.mpr ⟨lw_p43, List.forall_mem_cons.mpr ⟨lw_p44, fun _ h => absurd h List.not_mem_nil⟩⟩⟩⟩⟩⟩⟩⟩⟩⟩⟩⟩⟩
def lw_privs : List (MethodName × Nat) := lw_privs_1 ++ (lw_privs_2 ++ (lw_privs_3))
def lw_tbl : List Cond := k2_sels lw_privs ++ tables_1
theorem lw_privs_ok : ∀ q ∈ lw_privs, lw_okq q := by
  show ∀ q ∈ lw_privs_1 ++ (lw_privs_2 ++ (lw_privs_3)), lw_okq q
  exact List.forall_mem_append.mpr ⟨lw_r1, List.forall_mem_append.mpr ⟨lw_r2, lw_r3⟩⟩
/-! ===== BEGIN printed: names, fields, word lists, decode rows ===== -/
def RX0 : String := "IceForCoast$Berg"
def TX0 : u_T := fun k => match k with
  | 0 => ("IceForCoast$Berg", "kind", "I", false)
  | 1 => ("IceForCoast$Berg", "square", "I", false)
  | 2 => ("IceForCoast$Berg", "size", "I", false)
  | 3 => ("IceForCoast$Berg", "foot", "I", false)
  | 4 => ("IceForCoast$Berg", "n", "I", false)
  | _ => ("IceForCoast$Berg", "flat", "Z", false)
def tyX0 : Nat → FieldType := fun k => match k with
  | 0 => .int
  | 1 => .int
  | 2 => .int
  | 3 => .int
  | 4 => .int
  | _ => .boolean
abbrev wsX00 : List Cond := u_ws RX0 TX0 6
theorem nmX0 : ∀ a, a < 6 → ∀ b, b < 6 → a ≠ b → (TX0 a).2.1 ≠ (TX0 b).2.1 := by decide +kernel
theorem tyX0_ok : ∀ k, k < 6 → parseFieldDescriptor (TX0 k).2.2.1 = some (tyX0 k) := by decide +kernel
abbrev cX0_init : ByteArray := prog_2_method_1_code
def yX0_init : MethodName := ⟨RX0, "<init>", "()V"⟩
abbrev cX0_isKind : ByteArray := prog_2_method_2_code
def yX0_isKind : MethodName := ⟨RX0, "isKind", "(I)Z"⟩
abbrev cX0_mayBreak : ByteArray := prog_2_method_3_code
def yX0_mayBreak : MethodName := ⟨RX0, "mayBreak", "(II)Z"⟩
abbrev cX0_become : ByteArray := prog_2_method_4_code
def yX0_become : MethodName := ⟨RX0, "become", "(IIIII)V"⟩
abbrev cX0_isA : ByteArray := prog_2_method_5_code
def yX0_isA : MethodName := ⟨RX0, "isA", "(I)Z"⟩
abbrev cX0_meltOf : ByteArray := prog_2_method_6_code
def yX0_meltOf : MethodName := ⟨RX0, "meltOf", "(II)I"⟩
abbrev cX0_breaksOn : ByteArray := prog_2_method_7_code
def yX0_breaksOn : MethodName := ⟨RX0, "breaksOn", "(I)Z"⟩
def RX1 : String := "IceForCoast$Coins"
def TX1 : u_T := fun k => match k with
  | _ => ("IceForCoast$Coins", "value", "[I", true)
def tyX1 : Nat → FieldType := fun k => match k with
  | _ => .array .int
abbrev wsX10 : List Cond := u_ws RX1 TX1 1
theorem nmX1 : ∀ a, a < 1 → ∀ b, b < 1 → a ≠ b → (TX1 a).2.1 ≠ (TX1 b).2.1 := by decide +kernel
theorem tyX1_ok : ∀ k, k < 1 → parseFieldDescriptor (TX1 k).2.2.1 = some (tyX1 k) := by decide +kernel
abbrev cX1_init : ByteArray := prog_3_method_1_code
def yX1_init : MethodName := ⟨RX1, "<init>", "()V"⟩
abbrev cX1_mayBe : ByteArray := prog_3_method_2_code
def yX1_mayBe : MethodName := ⟨RX1, "mayBe", "(II)Z"⟩
abbrev cX1_put : ByteArray := prog_3_method_3_code
def yX1_put : MethodName := ⟨RX1, "put", "(II)I"⟩
abbrev cX1_copy : ByteArray := prog_3_method_4_code
def yX1_copy : MethodName := ⟨RX1, "copy", "(LIceForCoast$Coins;)V"⟩
abbrev cX1_gainOf : ByteArray := prog_3_method_5_code
def yX1_gainOf : MethodName := ⟨RX1, "gainOf", "(IIIZ)I"⟩
def RX2 : String := "IceForCoast$Image"
def TX2 : u_T := fun k => match k with
  | 0 => ("IceForCoast$Image", "sizes", "[I", true)
  | 1 => ("IceForCoast$Image", "feet", "[I", true)
  | 2 => ("IceForCoast$Image", "coins", "LIceForCoast$Coins;", true)
  | 3 => ("IceForCoast$Image", "bergCount", "I", false)
  | 4 => ("IceForCoast$Image", "lineCount", "I", false)
  | _ => ("IceForCoast$Image", "seaNumber", "I", false)
def tyX2 : Nat → FieldType := fun k => match k with
  | 0 => .array .int
  | 1 => .array .int
  | 2 => .object "IceForCoast$Coins"
  | 3 => .int
  | 4 => .int
  | _ => .int
abbrev wsX20 : List Cond := u_ws RX2 TX2 6
theorem nmX2 : ∀ a, a < 6 → ∀ b, b < 6 → a ≠ b → (TX2 a).2.1 ≠ (TX2 b).2.1 := by decide +kernel
theorem tyX2_ok : ∀ k, k < 6 → parseFieldDescriptor (TX2 k).2.2.1 = some (tyX2 k) := by decide +kernel
abbrev cX2_init : ByteArray := prog_4_method_1_code
def yX2_init : MethodName := ⟨RX2, "<init>", "()V"⟩
abbrev cX2_keep : ByteArray := prog_4_method_2_code
def yX2_keep : MethodName := ⟨RX2, "keep", "([LIceForCoast$Berg;ILIceForCoast$Coins;)V"⟩
abbrev cX2_giveBack : ByteArray := prog_4_method_3_code
def yX2_giveBack : MethodName := ⟨RX2, "giveBack", "([LIceForCoast$Berg;LIceForCoast$Coins;)V"⟩
def RX3 : String := "IceForCoast$Ledger"
def TX3 : u_T := fun k => match k with
  | 0 => ("IceForCoast$Ledger", "gains", "[[I", true)
  | 1 => ("IceForCoast$Ledger", "known", "[Z", true)
  | 2 => ("IceForCoast$Ledger", "towable", "[Z", true)
  | _ => ("IceForCoast$Ledger", "most", "[[I", true)
def tyX3 : Nat → FieldType := fun k => match k with
  | 0 => .array (.array .int)
  | 1 => .array .boolean
  | 2 => .array .boolean
  | _ => .array (.array .int)
abbrev wsX30 : List Cond := u_ws RX3 TX3 4
theorem nmX3 : ∀ a, a < 4 → ∀ b, b < 4 → a ≠ b → (TX3 a).2.1 ≠ (TX3 b).2.1 := by decide +kernel
theorem tyX3_ok : ∀ k, k < 4 → parseFieldDescriptor (TX3 k).2.2.1 = some (tyX3 k) := by decide +kernel
abbrev cX3_init : ByteArray := prog_5_method_1_code
def yX3_init : MethodName := ⟨RX3, "<init>", "()V"⟩
abbrev cX3_tugsOf : ByteArray := prog_5_method_2_code
def yX3_tugsOf : MethodName := ⟨RX3, "tugsOf", "(I)I"⟩
abbrev cX3_hasSkirt : ByteArray := prog_5_method_3_code
def yX3_hasSkirt : MethodName := ⟨RX3, "hasSkirt", "(I)Z"⟩
abbrev cX3_forget : ByteArray := prog_5_method_4_code
def yX3_forget : MethodName := ⟨RX3, "forget", "(I)V"⟩
abbrev cX3_forgetAll : ByteArray := prog_5_method_5_code
def yX3_forgetAll : MethodName := ⟨RX3, "forgetAll", "()V"⟩
abbrev cX3_bestEntry : ByteArray := prog_5_method_6_code
def yX3_bestEntry : MethodName := ⟨RX3, "bestEntry", "(I)I"⟩
abbrev cX3_deal : ByteArray := prog_5_method_7_code
def yX3_deal : MethodName := ⟨RX3, "deal", "(I)V"⟩
abbrev cX3_mostFrom : ByteArray := prog_5_method_8_code
def yX3_mostFrom : MethodName := ⟨RX3, "mostFrom", "(II)I"⟩
abbrev cX3_gainBy : ByteArray := prog_5_method_9_code
def yX3_gainBy : MethodName := ⟨RX3, "gainBy", "(II)I"⟩
abbrev cX3_tugsFor : ByteArray := prog_5_method_10_code
def yX3_tugsFor : MethodName := ⟨RX3, "tugsFor", "(II)I"⟩
abbrev cX3_fewestFor : ByteArray := prog_5_method_11_code
def yX3_fewestFor : MethodName := ⟨RX3, "fewestFor", "(II)I"⟩
def RX4 : String := "IceForCoast$Lines"
def TX4 : u_T := fun k => match k with
  | 0 => ("IceForCoast$Lines", "house", "[I", true)
  | 1 => ("IceForCoast$Lines", "berg", "[I", true)
  | 2 => ("IceForCoast$Lines", "day", "[I", true)
  | _ => ("IceForCoast$Lines", "length", "I", false)
def tyX4 : Nat → FieldType := fun k => match k with
  | 0 => .array .int
  | 1 => .array .int
  | 2 => .array .int
  | _ => .int
abbrev wsX40 : List Cond := u_ws RX4 TX4 4
theorem nmX4 : ∀ a, a < 4 → ∀ b, b < 4 → a ≠ b → (TX4 a).2.1 ≠ (TX4 b).2.1 := by decide +kernel
theorem tyX4_ok : ∀ k, k < 4 → parseFieldDescriptor (TX4 k).2.2.1 = some (tyX4 k) := by decide +kernel
abbrev cX4_init : ByteArray := prog_6_method_1_code
def yX4_init : MethodName := ⟨RX4, "<init>", "()V"⟩
abbrev cX4_add : ByteArray := prog_6_method_2_code
def yX4_add : MethodName := ⟨RX4, "add", "(III)Z"⟩
abbrev cX4_cutTo : ByteArray := prog_6_method_3_code
def yX4_cutTo : MethodName := ⟨RX4, "cutTo", "(I)V"⟩
abbrev cX4_counts : ByteArray := prog_6_method_4_code
def yX4_counts : MethodName := ⟨RX4, "counts", "(III)Z"⟩
abbrev cX4_allIfFirst : ByteArray := prog_6_method_5_code
def yX4_allIfFirst : MethodName := ⟨RX4, "allIfFirst", "(III)I"⟩
abbrev cX4_sharesOf : ByteArray := prog_6_method_6_code
def yX4_sharesOf : MethodName := ⟨RX4, "sharesOf", "(IIIZ)I"⟩
abbrev cX4_sharesOfAll : ByteArray := prog_6_method_7_code
def yX4_sharesOfAll : MethodName := ⟨RX4, "sharesOfAll", "(IIZ)I"⟩
def RX5 : String := "IceForCoast$Odds"
def TX5 : u_T := fun k => match k with
  | 0 => ("IceForCoast$Odds", "water", "[J", true)
  | 1 => ("IceForCoast$Odds", "above", "J", false)
  | 2 => ("IceForCoast$Odds", "below", "J", false)
  | _ => ("IceForCoast$Odds", "letsOff", "Z", false)
def tyX5 : Nat → FieldType := fun k => match k with
  | 0 => .array .long
  | 1 => .long
  | 2 => .long
  | _ => .boolean
abbrev wsX50 : List Cond := u_ws RX5 TX5 4
theorem nmX5 : ∀ a, a < 4 → ∀ b, b < 4 → a ≠ b → (TX5 a).2.1 ≠ (TX5 b).2.1 := by decide +kernel
theorem tyX5_ok : ∀ k, k < 4 → parseFieldDescriptor (TX5 k).2.2.1 = some (tyX5 k) := by decide +kernel
abbrev cX5_init : ByteArray := prog_7_method_1_code
def yX5_init : MethodName := ⟨RX5, "<init>", "()V"⟩
abbrev cX5_reckon : ByteArray := prog_7_method_2_code
def yX5_reckon : MethodName := ⟨RX5, "reckon", "(IIII)V"⟩
abbrev cX5_letOffNow : ByteArray := prog_7_method_3_code
def yX5_letOffNow : MethodName := ⟨RX5, "letOffNow", "(II)J"⟩
abbrev cX5_heldNow : ByteArray := prog_7_method_4_code
def yX5_heldNow : MethodName := ⟨RX5, "heldNow", "(III)J"⟩
def RX6 : String := "IceForCoast$Page"
def TX6 : u_T := fun k => match k with
  | 0 => ("IceForCoast$Page", "codes", "[I", true)
  | 1 => ("IceForCoast$Page", "length", "I", false)
  | 2 => ("IceForCoast$Page", "row", "I", false)
  | 3 => ("IceForCoast$Page", "inRow", "I", false)
  | 4 => ("IceForCoast$Page", "width", "I", false)
  | 5 => ("IceForCoast$Page", "harbours", "I", false)
  | _ => ("IceForCoast$Page", "currentMayCome", "Z", false)
def tyX6 : Nat → FieldType := fun k => match k with
  | 0 => .array .int
  | 1 => .int
  | 2 => .int
  | 3 => .int
  | 4 => .int
  | 5 => .int
  | _ => .boolean
abbrev wsX60 : List Cond := u_ws RX6 TX6 7
theorem nmX6 : ∀ a, a < 7 → ∀ b, b < 7 → a ≠ b → (TX6 a).2.1 ≠ (TX6 b).2.1 := by decide +kernel
theorem tyX6_ok : ∀ k, k < 7 → parseFieldDescriptor (TX6 k).2.2.1 = some (tyX6 k) := by decide +kernel
abbrev cX6_init : ByteArray := prog_8_method_1_code
def yX6_init : MethodName := ⟨RX6, "<init>", "()V"⟩
abbrev cX6_append : ByteArray := prog_8_method_2_code
def yX6_append : MethodName := ⟨RX6, "append", "(J)I"⟩
abbrev cX6_byteOf : ByteArray := prog_8_method_3_code
def yX6_byteOf : MethodName := ⟨RX6, "byteOf", "(JI)I"⟩
abbrev cX6_clear : ByteArray := prog_8_method_4_code
def yX6_clear : MethodName := ⟨RX6, "clear", "()I"⟩
abbrev cX6_codeAt : ByteArray := prog_8_method_5_code
def yX6_codeAt : MethodName := ⟨RX6, "codeAt", "(I)I"⟩
abbrev cX6_firstWrong : ByteArray := prog_8_method_6_code
def yX6_firstWrong : MethodName := ⟨RX6, "firstWrong", "()I"⟩
abbrev cX6_isSea : ByteArray := prog_8_method_7_code
def yX6_isSea : MethodName := ⟨RX6, "isSea", "()Z"⟩
abbrev cX6_takes : ByteArray := prog_8_method_8_code
def yX6_takes : MethodName := ⟨RX6, "takes", "(I)Z"⟩
abbrev cX6_takesRowEnd : ByteArray := prog_8_method_9_code
def yX6_takesRowEnd : MethodName := ⟨RX6, "takesRowEnd", "()Z"⟩
abbrev cX6_takesSquare : ByteArray := prog_8_method_10_code
def yX6_takesSquare : MethodName := ⟨RX6, "takesSquare", "(I)Z"⟩
def RX7 : String := "IceForCoast$Sea"
def TX7 : u_T := fun k => match k with
  | 0 => ("IceForCoast$Sea", "warmth", "[I", true)
  | 1 => ("IceForCoast$Sea", "current", "[I", true)
  | 2 => ("IceForCoast$Sea", "far", "[I", true)
  | 3 => ("IceForCoast$Sea", "waysFrom", "[I", true)
  | 4 => ("IceForCoast$Sea", "next", "[[I", true)
  | 5 => ("IceForCoast$Sea", "squares", "I", false)
  | 6 => ("IceForCoast$Sea", "width", "I", false)
  | _ => ("IceForCoast$Sea", "harbour", "I", false)
def tyX7 : Nat → FieldType := fun k => match k with
  | 0 => .array .int
  | 1 => .array .int
  | 2 => .array .int
  | 3 => .array .int
  | 4 => .array (.array .int)
  | 5 => .int
  | 6 => .int
  | _ => .int
abbrev wsX70 : List Cond := u_ws RX7 TX7 8
theorem nmX7 : ∀ a, a < 8 → ∀ b, b < 8 → a ≠ b → (TX7 a).2.1 ≠ (TX7 b).2.1 := by decide +kernel
theorem tyX7_ok : ∀ k, k < 8 → parseFieldDescriptor (TX7 k).2.2.1 = some (tyX7 k) := by decide +kernel
abbrev cX7_init : ByteArray := prog_9_method_1_code
def yX7_init : MethodName := ⟨RX7, "<init>", "()V"⟩
abbrev cX7_wayOf : ByteArray := prog_9_method_2_code
def yX7_wayOf : MethodName := ⟨RX7, "wayOf", "(I)I"⟩
abbrev cX7_has : ByteArray := prog_9_method_3_code
def yX7_has : MethodName := ⟨RX7, "has", "(I)Z"⟩
abbrev cX7_hasWarmth : ByteArray := prog_9_method_4_code
def yX7_hasWarmth : MethodName := ⟨RX7, "hasWarmth", "(I)Z"⟩
abbrev cX7_lay : ByteArray := prog_9_method_5_code
def yX7_lay : MethodName := ⟨RX7, "lay", "(LIceForCoast$Page;)V"⟩
abbrev cX7_layLetter : ByteArray := prog_9_method_6_code
def yX7_layLetter : MethodName := ⟨RX7, "layLetter", "(I)V"⟩
abbrev cX7_measure : ByteArray := prog_9_method_7_code
def yX7_measure : MethodName := ⟨RX7, "measure", "()V"⟩
abbrev cX7_openWays : ByteArray := prog_9_method_8_code
def yX7_openWays : MethodName := ⟨RX7, "openWays", "(I)V"⟩
abbrev cX7_beside : ByteArray := prog_9_method_9_code
def yX7_beside : MethodName := ⟨RX7, "beside", "(II)I"⟩
def RX8 : String := "IceForCoast$Tow"
def TX8 : u_T := fun k => match k with
  | 0 => ("IceForCoast$Tow", "sea", "LIceForCoast$Sea;", true)
  | 1 => ("IceForCoast$Tow", "coins", "LIceForCoast$Coins;", true)
  | 2 => ("IceForCoast$Tow", "sizeAt", "[I", true)
  | 3 => ("IceForCoast$Tow", "footAt", "[I", true)
  | 4 => ("IceForCoast$Tow", "dayAt", "[I", true)
  | 5 => ("IceForCoast$Tow", "trial", "[I", true)
  | 6 => ("IceForCoast$Tow", "chosen", "[I", true)
  | 7 => ("IceForCoast$Tow", "berg", "LIceForCoast$Berg;", false)
  | 8 => ("IceForCoast$Tow", "tugs", "I", false)
  | 9 => ("IceForCoast$Tow", "skirt", "Z", false)
  | 10 => ("IceForCoast$Tow", "found", "Z", false)
  | 11 => ("IceForCoast$Tow", "water", "I", false)
  | 12 => ("IceForCoast$Tow", "days", "I", false)
  | 13 => ("IceForCoast$Tow", "gain", "I", false)
  | 14 => ("IceForCoast$Tow", "steps", "I", false)
  | 15 => ("IceForCoast$Tow", "drawing", "Z", false)
  | _ => ("IceForCoast$Tow", "seed", "J", false)
def tyX8 : Nat → FieldType := fun k => match k with
  | 0 => .object "IceForCoast$Sea"
  | 1 => .object "IceForCoast$Coins"
  | 2 => .array .int
  | 3 => .array .int
  | 4 => .array .int
  | 5 => .array .int
  | 6 => .array .int
  | 7 => .object "IceForCoast$Berg"
  | 8 => .int
  | 9 => .boolean
  | 10 => .boolean
  | 11 => .int
  | 12 => .int
  | 13 => .int
  | 14 => .int
  | 15 => .boolean
  | _ => .long
abbrev wsX80 : List Cond := u_ws RX8 TX8 17
theorem nmX8 : ∀ a, a < 17 → ∀ b, b < 17 → a ≠ b → (TX8 a).2.1 ≠ (TX8 b).2.1 := by decide +kernel
theorem tyX8_ok : ∀ k, k < 17 → parseFieldDescriptor (TX8 k).2.2.1 = some (tyX8 k) := by decide +kernel
abbrev cX8_init : ByteArray := prog_10_method_1_code
def yX8_init : MethodName := ⟨RX8, "<init>", "()V"⟩
abbrev cX8_seek : ByteArray := prog_10_method_2_code
def yX8_seek : MethodName := ⟨RX8, "seek", "(LIceForCoast$Berg;IIZ)V"⟩
abbrev cX8_towAgain : ByteArray := prog_10_method_3_code
def yX8_towAgain : MethodName := ⟨RX8, "towAgain", "(I)V"⟩
abbrev cX8_stepAt : ByteArray := prog_10_method_4_code
def yX8_stepAt : MethodName := ⟨RX8, "stepAt", "(I)I"⟩
abbrev cX8_follow : ByteArray := prog_10_method_5_code
def yX8_follow : MethodName := ⟨RX8, "follow", "(LIceForCoast$Tow;II)V"⟩
abbrev cX8_isHopeless : ByteArray := prog_10_method_6_code
def yX8_isHopeless : MethodName := ⟨RX8, "isHopeless", "(I)Z"⟩
abbrev cX8_choose : ByteArray := prog_10_method_7_code
def yX8_choose : MethodName := ⟨RX8, "choose", "(I)V"⟩
abbrev cX8_pass : ByteArray := prog_10_method_8_code
def yX8_pass : MethodName := ⟨RX8, "pass", "(III)V"⟩
abbrev cX8_daysOfStep : ByteArray := prog_10_method_9_code
def yX8_daysOfStep : MethodName := ⟨RX8, "daysOfStep", "(III)I"⟩
abbrev cX8_drawnWarmth : ByteArray := prog_10_method_10_code
def yX8_drawnWarmth : MethodName := ⟨RX8, "drawnWarmth", "(I)I"⟩
def RX9 : String := "IceForCoast"
def TX9 : u_T := fun k => match k with
  | 0 => ("IceForCoast", "thePage", "LIceForCoast$Page;", true)
  | 1 => ("IceForCoast", "theTow", "LIceForCoast$Tow;", true)
  | 2 => ("IceForCoast", "theSea", "LIceForCoast$Sea;", true)
  | 3 => ("IceForCoast", "coins", "LIceForCoast$Coins;", true)
  | 4 => ("IceForCoast", "bergs", "[LIceForCoast$Berg;", true)
  | 5 => ("IceForCoast", "lines", "LIceForCoast$Lines;", true)
  | 6 => ("IceForCoast", "kept", "LIceForCoast$Image;", true)
  | 7 => ("IceForCoast", "ledger", "LIceForCoast$Ledger;", true)
  | 8 => ("IceForCoast", "theOdds", "LIceForCoast$Odds;", true)
  | 9 => ("IceForCoast", "bergCount", "I", false)
  | 10 => ("IceForCoast", "seasRead", "I", false)
  | _ => ("IceForCoast", "cameDone", "I", false)
def tyX9 : Nat → FieldType := fun k => match k with
  | 0 => .object "IceForCoast$Page"
  | 1 => .object "IceForCoast$Tow"
  | 2 => .object "IceForCoast$Sea"
  | 3 => .object "IceForCoast$Coins"
  | 4 => .array (.object "IceForCoast$Berg")
  | 5 => .object "IceForCoast$Lines"
  | 6 => .object "IceForCoast$Image"
  | 7 => .object "IceForCoast$Ledger"
  | 8 => .object "IceForCoast$Odds"
  | 9 => .int
  | 10 => .int
  | _ => .int
abbrev wsX90 : List Cond := u_ws RX9 TX9 12
theorem nmX9 : ∀ a, a < 12 → ∀ b, b < 12 → a ≠ b → (TX9 a).2.1 ≠ (TX9 b).2.1 := by decide +kernel
theorem tyX9_ok : ∀ k, k < 12 → parseFieldDescriptor (TX9 k).2.2.1 = some (tyX9 k) := by decide +kernel
abbrev cX9_init : ByteArray := prog_1_method_1_code
def yX9_init : MethodName := ⟨RX9, "<init>", "()V"⟩
abbrev cX9_letters : ByteArray := prog_1_method_2_code
def yX9_letters : MethodName := ⟨RX9, "letters", "(J)I"⟩
abbrev cX9_blank : ByteArray := prog_1_method_3_code
def yX9_blank : MethodName := ⟨RX9, "blank", "()I"⟩
abbrev cX9_fault : ByteArray := prog_1_method_4_code
def yX9_fault : MethodName := ⟨RX9, "fault", "()I"⟩
abbrev cX9_sea : ByteArray := prog_1_method_5_code
def yX9_sea : MethodName := ⟨RX9, "sea", "()I"⟩
abbrev cX9_square : ByteArray := prog_1_method_6_code
def yX9_square : MethodName := ⟨RX9, "square", "(II)I"⟩
abbrev cX9_berg : ByteArray := prog_1_method_7_code
def yX9_berg : MethodName := ⟨RX9, "berg", "(IIIII)I"⟩
abbrev cX9_as : ByteArray := prog_1_method_8_code
def yX9_as : MethodName := ⟨RX9, "as", "(II)I"⟩
abbrev cX9_about : ByteArray := prog_1_method_9_code
def yX9_about : MethodName := ⟨RX9, "about", "(II)I"⟩
abbrev cX9_change : ByteArray := prog_1_method_10_code
def yX9_change : MethodName := ⟨RX9, "change", "(III)I"⟩
abbrev cX9_coin : ByteArray := prog_1_method_11_code
def yX9_coin : MethodName := ⟨RX9, "coin", "(II)I"⟩
abbrev cX9_tow : ByteArray := prog_1_method_12_code
def yX9_tow : MethodName := ⟨RX9, "tow", "(IIZI)I"⟩
abbrev cX9_ways : ByteArray := prog_1_method_13_code
def yX9_ways : MethodName := ⟨RX9, "ways", "(I)I"⟩
abbrev cX9_best : ByteArray := prog_1_method_14_code
def yX9_best : MethodName := ⟨RX9, "best", "(II)I"⟩
abbrev cX9_season : ByteArray := prog_1_method_15_code
def yX9_season : MethodName := ⟨RX9, "season", "(II)I"⟩
abbrev cX9_more : ByteArray := prog_1_method_16_code
def yX9_more : MethodName := ⟨RX9, "more", "(I)I"⟩
abbrev cX9_drawn : ByteArray := prog_1_method_17_code
def yX9_drawn : MethodName := ⟨RX9, "drawn", "(IIZII)I"⟩
abbrev cX9_came : ByteArray := prog_1_method_18_code
def yX9_came : MethodName := ⟨RX9, "came", "(IIZII)I"⟩
abbrev cX9_letOff : ByteArray := prog_1_method_19_code
def yX9_letOff : MethodName := ⟨RX9, "letOff", "(IIIII)J"⟩
abbrev cX9_line : ByteArray := prog_1_method_20_code
def yX9_line : MethodName := ⟨RX9, "line", "(III)I"⟩
abbrev cX9_claims : ByteArray := prog_1_method_21_code
def yX9_claims : MethodName := ⟨RX9, "claims", "(IIIII)I"⟩
abbrev cX9_image : ByteArray := prog_1_method_22_code
def yX9_image : MethodName := ⟨RX9, "image", "()I"⟩
abbrev cX9_restore : ByteArray := prog_1_method_23_code
def yX9_restore : MethodName := ⟨RX9, "restore", "()I"⟩
abbrev cX9_count : ByteArray := prog_1_method_24_code
def yX9_count : MethodName := ⟨RX9, "count", "(I)I"⟩
abbrev cX9_digest : ByteArray := prog_1_method_25_code
def yX9_digest : MethodName := ⟨RX9, "digest", "()J"⟩
abbrev cX9_isBerg : ByteArray := prog_1_method_26_code
def yX9_isBerg : MethodName := ⟨RX9, "isBerg", "(I)Z"⟩
abbrev cX9_hasWay : ByteArray := prog_1_method_27_code
def yX9_hasWay : MethodName := ⟨RX9, "hasWay", "(I)Z"⟩
abbrev cX9_isTugs : ByteArray := prog_1_method_28_code
def yX9_isTugs : MethodName := ⟨RX9, "isTugs", "(I)Z"⟩
abbrev cX9_isHouse : ByteArray := prog_1_method_29_code
def yX9_isHouse : MethodName := ⟨RX9, "isHouse", "(I)Z"⟩
abbrev cX9_isSize : ByteArray := prog_1_method_30_code
def yX9_isSize : MethodName := ⟨RX9, "isSize", "(I)Z"⟩
abbrev cX9_isFoot : ByteArray := prog_1_method_31_code
def yX9_isFoot : MethodName := ⟨RX9, "isFoot", "(I)Z"⟩
abbrev cX9_weigh : ByteArray := prog_1_method_32_code
def yX9_weigh : MethodName := ⟨RX9, "weigh", "(I)V"⟩
abbrev cX9_commonDivisor : ByteArray := prog_1_method_33_code
def yX9_commonDivisor : MethodName := ⟨RX9, "commonDivisor", "(JJ)J"⟩
def RX10 : String := "IceForCoastModel"
def TX10 : u_T := fun k => match k with
  | 0 => ("IceForCoastModel", "page", "[I", true)
  | 1 => ("IceForCoastModel", "pageMany", "I", false)
  | 2 => ("IceForCoastModel", "readRows", "I", false)
  | 3 => ("IceForCoastModel", "readWide", "I", false)
  | 4 => ("IceForCoastModel", "readMany", "I", false)
  | 5 => ("IceForCoastModel", "readHarbour", "I", false)
  | 6 => ("IceForCoastModel", "mayFlow", "Z", false)
  | 7 => ("IceForCoastModel", "readWarm", "[I", true)
  | 8 => ("IceForCoastModel", "readFlow", "[I", true)
  | 9 => ("IceForCoastModel", "rows", "I", false)
  | 10 => ("IceForCoastModel", "wide", "I", false)
  | 11 => ("IceForCoastModel", "harbour", "I", false)
  | 12 => ("IceForCoastModel", "seasRead", "I", false)
  | 13 => ("IceForCoastModel", "warm", "[I", true)
  | 14 => ("IceForCoastModel", "flow", "[I", true)
  | 15 => ("IceForCoastModel", "bergs", "I", false)
  | 16 => ("IceForCoastModel", "bergRows", "[I", true)
  | 17 => ("IceForCoastModel", "price", "I", false)
  | 18 => ("IceForCoastModel", "wage", "I", false)
  | 19 => ("IceForCoastModel", "cloth", "I", false)
  | 20 => ("IceForCoastModel", "lines", "I", false)
  | 21 => ("IceForCoastModel", "lineRows", "[I", true)
  | 22 => ("IceForCoastModel", "kindNow", "I", false)
  | 23 => ("IceForCoastModel", "sizeNow", "I", false)
  | 24 => ("IceForCoastModel", "footNow", "I", false)
  | 25 => ("IceForCoastModel", "everyNow", "I", false)
  | 26 => ("IceForCoastModel", "daysNow", "I", false)
  | 27 => ("IceForCoastModel", "hasSkirt", "Z", false)
  | 28 => ("IceForCoastModel", "tugsNow", "I", false)
  | 29 => ("IceForCoastModel", "seedNow", "I", false)
  | 30 => ("IceForCoastModel", "way", "[I", true)
  | 31 => ("IceForCoastModel", "places", "[I", true)
  | 32 => ("IceForCoastModel", "bestWay", "[I", true)
  | 33 => ("IceForCoastModel", "bestSteps", "I", false)
  | 34 => ("IceForCoastModel", "bestWater", "I", false)
  | 35 => ("IceForCoastModel", "bestDays", "I", false)
  | 36 => ("IceForCoastModel", "bestGain", "I", false)
  | 37 => ("IceForCoastModel", "wayMany", "I", false)
  | 38 => ("IceForCoastModel", "gains", "[I", true)
  | 39 => ("IceForCoastModel", "most", "[I", true)
  | 40 => ("IceForCoastModel", "done", "I", false)
  | 41 => ("IceForCoastModel", "waterNow", "[J", true)
  | 42 => ("IceForCoastModel", "waterNext", "[J", true)
  | 43 => ("IceForCoastModel", "kept", "I", false)
  | 44 => ("IceForCoastModel", "keptSea", "I", false)
  | 45 => ("IceForCoastModel", "keptPrice", "I", false)
  | 46 => ("IceForCoastModel", "keptWage", "I", false)
  | 47 => ("IceForCoastModel", "keptCloth", "I", false)
  | 48 => ("IceForCoastModel", "keptLines", "I", false)
  | 49 => ("IceForCoastModel", "keptBergs", "[I", true)
  | 50 => ("IceForCoastModel", "keptRows", "[I", true)
  | _ => ("IceForCoastModel", "hash", "J", false)
def tyX10 : Nat → FieldType := fun k => match k with
  | 0 => .array .int
  | 1 => .int
  | 2 => .int
  | 3 => .int
  | 4 => .int
  | 5 => .int
  | 6 => .boolean
  | 7 => .array .int
  | 8 => .array .int
  | 9 => .int
  | 10 => .int
  | 11 => .int
  | 12 => .int
  | 13 => .array .int
  | 14 => .array .int
  | 15 => .int
  | 16 => .array .int
  | 17 => .int
  | 18 => .int
  | 19 => .int
  | 20 => .int
  | 21 => .array .int
  | 22 => .int
  | 23 => .int
  | 24 => .int
  | 25 => .int
  | 26 => .int
  | 27 => .boolean
  | 28 => .int
  | 29 => .int
  | 30 => .array .int
  | 31 => .array .int
  | 32 => .array .int
  | 33 => .int
  | 34 => .int
  | 35 => .int
  | 36 => .int
  | 37 => .int
  | 38 => .array .int
  | 39 => .array .int
  | 40 => .int
  | 41 => .array .long
  | 42 => .array .long
  | 43 => .int
  | 44 => .int
  | 45 => .int
  | 46 => .int
  | 47 => .int
  | 48 => .int
  | 49 => .array .int
  | 50 => .array .int
  | _ => .long
abbrev wsX100 : List Cond := u_ws RX10 TX10 52
theorem nmX10 : ∀ a, a < 52 → ∀ b, b < 52 → a ≠ b → (TX10 a).2.1 ≠ (TX10 b).2.1 := by decide +kernel
theorem tyX10_ok : ∀ k, k < 52 → parseFieldDescriptor (TX10 k).2.2.1 = some (tyX10 k) := by decide +kernel
abbrev cX10_init : ByteArray := prog_12_method_1_code
def yX10_init : MethodName := ⟨RX10, "<init>", "()V"⟩
abbrev cX10_in : ByteArray := prog_12_method_2_code
def yX10_in : MethodName := ⟨RX10, "in", "(JJJ)Z"⟩
abbrev cX10_letters : ByteArray := prog_12_method_3_code
def yX10_letters : MethodName := ⟨RX10, "letters", "(J)I"⟩
abbrev cX10_blank : ByteArray := prog_12_method_4_code
def yX10_blank : MethodName := ⟨RX10, "blank", "()I"⟩
abbrev cX10_flowOf : ByteArray := prog_12_method_5_code
def yX10_flowOf : MethodName := ⟨RX10, "flowOf", "(I)I"⟩
abbrev cX10_go : ByteArray := prog_12_method_6_code
def yX10_go : MethodName := ⟨RX10, "go", "(I)Z"⟩
abbrev cX10_readAt : ByteArray := prog_12_method_7_code
def yX10_readAt : MethodName := ⟨RX10, "readAt", "()I"⟩
abbrev cX10_faultOf : ByteArray := prog_12_method_8_code
def yX10_faultOf : MethodName := ⟨RX10, "faultOf", "()I"⟩
abbrev cX10_fault : ByteArray := prog_12_method_9_code
def yX10_fault : MethodName := ⟨RX10, "fault", "()I"⟩
abbrev cX10_sea : ByteArray := prog_12_method_10_code
def yX10_sea : MethodName := ⟨RX10, "sea", "()I"⟩
abbrev cX10_lacks : ByteArray := prog_12_method_11_code
def yX10_lacks : MethodName := ⟨RX10, "lacks", "()Z"⟩
abbrev cX10_isSquare : ByteArray := prog_12_method_12_code
def yX10_isSquare : MethodName := ⟨RX10, "isSquare", "(I)Z"⟩
abbrev cX10_size : ByteArray := prog_12_method_13_code
def yX10_size : MethodName := ⟨RX10, "size", "(I)I"⟩
abbrev cX10_farOf : ByteArray := prog_12_method_14_code
def yX10_farOf : MethodName := ⟨RX10, "farOf", "(I)I"⟩
abbrev cX10_tellSquare : ByteArray := prog_12_method_15_code
def yX10_tellSquare : MethodName := ⟨RX10, "tellSquare", "(II)I"⟩
abbrev cX10_square : ByteArray := prog_12_method_16_code
def yX10_square : MethodName := ⟨RX10, "square", "(II)I"⟩
abbrev cX10_berg : ByteArray := prog_12_method_17_code
def yX10_berg : MethodName := ⟨RX10, "berg", "(IIIII)I"⟩
abbrev cX10_isBerg : ByteArray := prog_12_method_18_code
def yX10_isBerg : MethodName := ⟨RX10, "isBerg", "(I)Z"⟩
abbrev cX10_as : ByteArray := prog_12_method_19_code
def yX10_as : MethodName := ⟨RX10, "as", "(II)I"⟩
abbrev cX10_about : ByteArray := prog_12_method_20_code
def yX10_about : MethodName := ⟨RX10, "about", "(II)I"⟩
abbrev cX10_change : ByteArray := prog_12_method_21_code
def yX10_change : MethodName := ⟨RX10, "change", "(III)I"⟩
abbrev cX10_coin : ByteArray := prog_12_method_22_code
def yX10_coin : MethodName := ⟨RX10, "coin", "(II)I"⟩
abbrev cX10_draw : ByteArray := prog_12_method_23_code
def yX10_draw : MethodName := ⟨RX10, "draw", "(I)I"⟩
abbrev cX10_day : ByteArray := prog_12_method_24_code
def yX10_day : MethodName := ⟨RX10, "day", "(I)V"⟩
abbrev cX10_step : ByteArray := prog_12_method_25_code
def yX10_step : MethodName := ⟨RX10, "step", "(II)V"⟩
abbrev cX10_to : ByteArray := prog_12_method_26_code
def yX10_to : MethodName := ⟨RX10, "to", "(II)I"⟩
abbrev cX10_begin : ByteArray := prog_12_method_27_code
def yX10_begin : MethodName := ⟨RX10, "begin", "(IIIZ)V"⟩
abbrev cX10_towAll : ByteArray := prog_12_method_28_code
def yX10_towAll : MethodName := ⟨RX10, "towAll", "(I)V"⟩
abbrev cX10_tryWay : ByteArray := prog_12_method_29_code
def yX10_tryWay : MethodName := ⟨RX10, "tryWay", "(IIIZI)V"⟩
abbrev cX10_layWays : ByteArray := prog_12_method_30_code
def yX10_layWays : MethodName := ⟨RX10, "layWays", "(IIIZ)V"⟩
abbrev cX10_ownSize : ByteArray := prog_12_method_31_code
def yX10_ownSize : MethodName := ⟨RX10, "ownSize", "(I)I"⟩
abbrev cX10_tellTow : ByteArray := prog_12_method_32_code
def yX10_tellTow : MethodName := ⟨RX10, "tellTow", "(IIZI)I"⟩
abbrev cX10_areTugs : ByteArray := prog_12_method_33_code
def yX10_areTugs : MethodName := ⟨RX10, "areTugs", "(I)Z"⟩
abbrev cX10_tow : ByteArray := prog_12_method_34_code
def yX10_tow : MethodName := ⟨RX10, "tow", "(IIZI)I"⟩
abbrev cX10_waysOf : ByteArray := prog_12_method_35_code
def yX10_waysOf : MethodName := ⟨RX10, "waysOf", "(I)I"⟩
abbrev cX10_ways : ByteArray := prog_12_method_36_code
def yX10_ways : MethodName := ⟨RX10, "ways", "(I)I"⟩
abbrev cX10_tellBest : ByteArray := prog_12_method_37_code
def yX10_tellBest : MethodName := ⟨RX10, "tellBest", "(II)I"⟩
abbrev cX10_best : ByteArray := prog_12_method_38_code
def yX10_best : MethodName := ⟨RX10, "best", "(II)I"⟩
abbrev cX10_seasonOf : ByteArray := prog_12_method_39_code
def yX10_seasonOf : MethodName := ⟨RX10, "seasonOf", "(II)I"⟩
abbrev cX10_season : ByteArray := prog_12_method_40_code
def yX10_season : MethodName := ⟨RX10, "season", "(II)I"⟩
abbrev cX10_more : ByteArray := prog_12_method_41_code
def yX10_more : MethodName := ⟨RX10, "more", "(I)I"⟩
abbrev cX10_drawn : ByteArray := prog_12_method_42_code
def yX10_drawn : MethodName := ⟨RX10, "drawn", "(IIZII)I"⟩
abbrev cX10_came : ByteArray := prog_12_method_43_code
def yX10_came : MethodName := ⟨RX10, "came", "(IIZII)I"⟩
abbrev cX10_common : ByteArray := prog_12_method_44_code
def yX10_common : MethodName := ⟨RX10, "common", "(JJ)J"⟩
abbrev cX10_melted : ByteArray := prog_12_method_45_code
def yX10_melted : MethodName := ⟨RX10, "melted", "(II)I"⟩
abbrev cX10_letOff : ByteArray := prog_12_method_46_code
def yX10_letOff : MethodName := ⟨RX10, "letOff", "(IIIII)J"⟩
abbrev cX10_line : ByteArray := prog_12_method_47_code
def yX10_line : MethodName := ⟨RX10, "line", "(III)I"⟩
abbrev cX10_claims : ByteArray := prog_12_method_48_code
def yX10_claims : MethodName := ⟨RX10, "claims", "(IIIII)I"⟩
abbrev cX10_image : ByteArray := prog_12_method_49_code
def yX10_image : MethodName := ⟨RX10, "image", "()I"⟩
abbrev cX10_restore : ByteArray := prog_12_method_50_code
def yX10_restore : MethodName := ⟨RX10, "restore", "()I"⟩
abbrev cX10_countOf : ByteArray := prog_12_method_51_code
def yX10_countOf : MethodName := ⟨RX10, "countOf", "(I)I"⟩
abbrev cX10_count : ByteArray := prog_12_method_52_code
def yX10_count : MethodName := ⟨RX10, "count", "(I)I"⟩
abbrev cX10_say : ByteArray := prog_12_method_53_code
def yX10_say : MethodName := ⟨RX10, "say", "(J)V"⟩
abbrev cX10_sayBerg : ByteArray := prog_12_method_54_code
def yX10_sayBerg : MethodName := ⟨RX10, "sayBerg", "(I)V"⟩
abbrev cX10_digest : ByteArray := prog_12_method_55_code
def yX10_digest : MethodName := ⟨RX10, "digest", "()J"⟩
def RJ9 : String := "java/lang/Math"
def TJ9 : u_T := fun k => match k with
  | _ => ("", "", "", false)
def tyJ9 : Nat → FieldType := fun k => match k with
  | _ => .int
abbrev wsJ90 : List Cond := u_ws RJ9 TJ9 0
theorem nmJ9 : ∀ a, a < 0 → ∀ b, b < 0 → a ≠ b → (TJ9 a).2.1 ≠ (TJ9 b).2.1 := by decide +kernel
theorem tyJ9_ok : ∀ k, k < 0 → parseFieldDescriptor (TJ9 k).2.2.1 = some (tyJ9 k) := by decide +kernel
abbrev cJ9_abs_0f7a4 : ByteArray := prog_13_method_59_code
def yJ9_abs_0f7a4 : MethodName := ⟨RJ9, "abs", "(I)I"⟩
abbrev cJ9_max_7cf53 : ByteArray := prog_13_method_65_code
def yJ9_max_7cf53 : MethodName := ⟨RJ9, "max", "(II)I"⟩
abbrev cJ9_max_f86c9 : ByteArray := prog_13_method_66_code
def yJ9_max_f86c9 : MethodName := ⟨RJ9, "max", "(JJ)J"⟩
abbrev cJ9_min_7cf53 : ByteArray := prog_13_method_69_code
def yJ9_min_7cf53 : MethodName := ⟨RJ9, "min", "(II)I"⟩
def RJ10 : String := "java/lang/System"
def TJ10 : u_T := fun k => match k with
  | _ => ("", "", "", false)
def tyJ10 : Nat → FieldType := fun k => match k with
  | _ => .int
abbrev wsJ100 : List Cond := u_ws RJ10 TJ10 0
theorem nmJ10 : ∀ a, a < 0 → ∀ b, b < 0 → a ≠ b → (TJ10 a).2.1 ≠ (TJ10 b).2.1 := by decide +kernel
theorem tyJ10_ok : ∀ k, k < 0 → parseFieldDescriptor (TJ10 k).2.2.1 = some (tyJ10 k) := by decide +kernel
def RL : String := "IceForCoastLaw"
abbrev cL_law : ByteArray := code
def yL_law : MethodName := ⟨RL, "law", "([I)Z"⟩
abbrev vwCl : List vw_C := [(RX0, TX0, 6), (RX1, TX1, 1), (RX2, TX2, 6), (RX3, TX3, 4), (RX4, TX4, 4), (RX5, TX5, 4), (RX6, TX6, 7), (RX7, TX7, 8), (RX8, TX8, 17), (RX9, TX9, 12), (RX10, TX10, 52)]
end
section
/-! ===== the layer: the state of a world as numbers ===== -/
/-- ints, longs and moving references of a world, by cell and place -/
abbrev Sg : Type := (Nat → Nat → Int32) × (Nat → Nat → Int64) × (Nat → Nat → Nat)
def rI (σ : Sg) (o k : Nat) : Int32 := σ.1 o k
def rJ (σ : Sg) (o k : Nat) : Int64 := σ.2.1 o k
def rR (σ : Sg) (o k : Nat) : Nat := σ.2.2 o k
def wI (σ : Sg) (o k : Nat) (v : Int32) : Sg := (fun a b => if a = o ∧ b = k then v else σ.1 a b, σ.2)
def wJ (σ : Sg) (o k : Nat) (v : Int64) : Sg := (σ.1, fun a b => if a = o ∧ b = k then v else σ.2.1 a b, σ.2.2)
def wR (σ : Sg) (o k : Nat) (v : Nat) : Sg := (σ.1, σ.2.1, fun a b => if a = o ∧ b = k then v else σ.2.2 a b)
/-- a stretch of one row of ints copied into another -/
def wC (σ : Sg) (a0 sp a1 dp n : Nat) : Sg := (fun a b => if a = a1 ∧ dp ≤ b ∧ b < dp + n then σ.1 a0 (sp + (b - dp)) else σ.1 a b, σ.2)
/-- a shape: (0, class, slots) an object, a slot (0,_) an int, (1,_) a long, (2,d) the cell d further on, (3,_) a moving reference; (1,n,_) ints, (2,n,_) longs, (3,n,_) booleans, (4,n,[(b,_)]) objects from cell b on, (5,n,[(b,_)]) rows from cell b on -/
abbrev Sh : Type := Nat × Nat × List (Nat × Nat)
def slotV (ad : Nat → Nat) (σ : Sg) (i k : Nat) (s : Nat × Nat) : Value := match s.1 with
  | 0 => .int (rI σ i k)
  | 1 => .long (rJ σ i k)
  | 2 => .ref (ad (i + s.2))
  | _ => .ref (ad (rR σ i k))
def slv (ad : Nat → Nat) (σ : Sg) (i : Nat) : Nat → List (Nat × Nat) → List Value
  | _, [] => []
  | k, s :: t => slotV ad σ i k s :: slv ad σ i (k + 1) t
def rowB (sh : Sh) : Nat := (sh.2.2.headD (0, 0)).1
def ent (cys : Nat → ClassId) (ad : Nat → Nat) (σ : Sg) (i : Nat) (sh : Sh) : va_E := match sh.1 with
  | 0 => .inr (sh.2.1, slv ad σ i 0 sh.2.2)
  | 1 => .inl (cys 0, sh.2.1, .inl (rI σ i))
  | 2 => .inl (cys 1, sh.2.1, .inr (.inl (rJ σ i)))
  | 3 => .inl (cys 2, sh.2.1, .inl (rI σ i))
  | 4 => .inl (cys 3, sh.2.1, .inr (.inr (.inr (.inr (fun j => some (ad (rowB sh + j)))))))
  | _ => .inl (cys 4, sh.2.1, .inr (.inr (.inr (.inr (fun j => some (ad (rowB sh + j)))))))
def wd (cys : Nat → ClassId) (ad : Nat → Nat) (σ : Sg) : Nat → List Sh → va_W
  | _, [] => []
  | i, sh :: t => (ad i, ent cys ad σ i sh) :: wd cys ad σ (i + 1) t
abbrev tysOf (cys : Nat → ClassId) : List (ClassId × FieldType) := [(cys 0, .int), (cys 1, .long), (cys 2, .boolean), (cys 3, .object RX0), (cys 4, .array .int)]
theorem slv_get {ad : Nat → Nat} {σ : Sg} {i : Nat} : ∀ (l : List (Nat × Nat)) (k0 j : Nat), (slv ad σ i k0 l)[j]? = (l[j]?).map (slotV ad σ i (k0 + j))
  | [], k0, j => by simp [slv]
  | s :: t, k0, 0 => by simp [slv]
  | s :: t, k0, j + 1 => by
    simp only [slv, List.getElem?_cons_succ]
    rw [slv_get t (k0 + 1) j, show k0 + 1 + j = k0 + (j + 1) by omega]
theorem slv_len {ad : Nat → Nat} {σ : Sg} {i : Nat} : ∀ (l : List (Nat × Nat)) (k0 : Nat), (slv ad σ i k0 l).length = l.length
  | [], _ => rfl
  | s :: t, k0 => by simp only [slv, List.length_cons]; rw [slv_len t (k0 + 1)]
theorem slv_eq {ad : Nat → Nat} {σ σ' : Sg} {i : Nat} : ∀ (l : List (Nat × Nat)) (k0 : Nat), (∀ q t, k0 ≤ q → slotV ad σ' i q t = slotV ad σ i q t) → slv ad σ' i k0 l = slv ad σ i k0 l
  | [], _, _ => rfl
  | s :: t, k0, h => by
    simp only [slv]
    rw [h k0 s (Nat.le_refl _), slv_eq t (k0 + 1) (fun q t hq => h q t (by omega))]
theorem slv_set {ad : Nat → Nat} {σ σ' : Sg} {i : Nat} {v : Value} : ∀ (l : List (Nat × Nat)) (k0 j : Nat) (s : Nat × Nat), l[j]? = some s → (∀ q t, q ≠ k0 + j → slotV ad σ' i q t = slotV ad σ i q t) → slotV ad σ' i (k0 + j) s = v → (slv ad σ i k0 l).set j v = slv ad σ' i k0 l
  | [], _, _, _, h, _, _ => by simp at h
  | s0 :: t, k0, 0, s, h, hq, hv => by
    rw [List.getElem?_cons_zero] at h
    cases h
    simp only [slv, List.set_cons_zero]
    rw [← hv, Nat.add_zero, slv_eq t (k0 + 1) (fun q u hu => hq q u (by omega))]
  | s0 :: t, k0, j + 1, s, h, hq, hv => by
    rw [List.getElem?_cons_succ] at h
    simp only [slv, List.set_cons_succ]
    rw [hq k0 s0 (by omega), slv_set t (k0 + 1) j s h (fun q u hu => hq q u (by omega)) (by rw [show k0 + 1 + j = k0 + (j + 1) by omega]; exact hv)]
theorem wd_get {cys : Nat → ClassId} {ad : Nat → Nat} {σ : Sg} : ∀ (Y : List Sh) (i0 j : Nat), (wd cys ad σ i0 Y)[j]? = (Y[j]?).map (fun sh => (ad (i0 + j), ent cys ad σ (i0 + j) sh))
  | [], i0, j => by simp [wd]
  | s :: t, i0, 0 => by simp [wd]
  | s :: t, i0, j + 1 => by
    simp only [wd, List.getElem?_cons_succ]
    rw [wd_get t (i0 + 1) j, show i0 + 1 + j = i0 + (j + 1) by omega]
theorem wd_at {cys : Nat → ClassId} {ad : Nat → Nat} {σ : Sg} {Y : List Sh} {o : Nat} {sh : Sh} (h : Y[o]? = some sh) : (wd cys ad σ 0 Y)[o]? = some (ad o, ent cys ad σ o sh) := by
  rw [wd_get, h, Nat.zero_add]
  rfl
theorem wd_eq {cys : Nat → ClassId} {ad : Nat → Nat} {σ σ' : Sg} : ∀ (Y : List Sh) (i0 : Nat), (∀ q sh, i0 ≤ q → ent cys ad σ' q sh = ent cys ad σ q sh) → wd cys ad σ' i0 Y = wd cys ad σ i0 Y
  | [], _, _ => rfl
  | s :: t, i0, h => by
    simp only [wd]
    rw [h i0 s (Nat.le_refl _), wd_eq t (i0 + 1) (fun q t hq => h q t (by omega))]
theorem wd_set {cys : Nat → ClassId} {ad : Nat → Nat} {σ σ' : Sg} {e : va_E} : ∀ (Y : List Sh) (i0 j : Nat) (sh : Sh), Y[j]? = some sh → (∀ q t, q ≠ i0 + j → ent cys ad σ' q t = ent cys ad σ q t) → ent cys ad σ' (i0 + j) sh = e → (wd cys ad σ i0 Y).set j (ad (i0 + j), e) = wd cys ad σ' i0 Y
  | [], _, _, _, h, _, _ => by simp at h
  | s0 :: t, i0, 0, s, h, hq, hv => by
    rw [List.getElem?_cons_zero] at h
    cases h
    simp only [wd, List.set_cons_zero]
    rw [← hv, Nat.add_zero, wd_eq t (i0 + 1) (fun q u hu => hq q u (by omega))]
  | s0 :: t, i0, j + 1, s, h, hq, hv => by
    rw [List.getElem?_cons_succ] at h
    simp only [wd, List.set_cons_succ]
    rw [hq i0 s0 (by omega), show i0 + (j + 1) = i0 + 1 + j by omega, wd_set t (i0 + 1) j s h (fun q u hu => hq q u (by omega)) (by rw [show i0 + 1 + j = i0 + (j + 1) by omega]; exact hv)]
theorem wd_len {cys : Nat → ClassId} {ad : Nat → Nat} {σ : Sg} : ∀ (Y : List Sh) (i0 : Nat), (wd cys ad σ i0 Y).length = Y.length
  | [], _ => rfl
  | s :: t, i0 => by simp only [wd, List.length_cons]; rw [wd_len t (i0 + 1)]
/-- the addresses apart, and of a kind -/
theorem wd_D {cys : Nat → ClassId} {ad : Nat → Nat} {σ : Sg} {Y : List Sh} {A : Nat → Prop} (hi : ∀ i j, i < Y.length → j < Y.length → ad i = ad j → i = j) (hA : ∀ i, i < Y.length → A (ad i)) : va_D A (wd cys ad σ 0 Y) := by
  have key : ∀ (k : Nat) (q : Nat × va_E), (wd cys ad σ 0 Y)[k]? = some q → k < Y.length ∧ q.1 = ad k := by
    intro k q hk
    have hl : k < (wd cys ad σ 0 Y).length := (List.getElem?_eq_some_iff.mp hk).1
    rw [wd_len] at hl
    rw [wd_at (List.getElem?_eq_getElem hl)] at hk
    cases hk
    exact ⟨hl, rfl⟩
  refine ⟨fun i j p q h1 h2 h3 => ?_, fun k q h => ?_⟩
  · obtain ⟨a1, a2⟩ := key i p h1
    obtain ⟨b1, b2⟩ := key j q h2
    exact hi i j a1 b1 (by rw [← a2, ← b2]; exact h3)
  · obtain ⟨a1, a2⟩ := key k q h
    rw [a2]
    exact hA k a1
theorem ent_wI {cys : Nat → ClassId} {ad : Nat → Nat} {σ : Sg} {o k : Nat} {v : Int32} (q : Nat) (sh : Sh) (h : q ≠ o) : ent cys ad (wI σ o k v) q sh = ent cys ad σ q sh := by
  have e1 : rI (wI σ o k v) q = rI σ q := by funext j; simp [rI, wI, h]
  have e2 : rJ (wI σ o k v) q = rJ σ q := rfl
  have e3 : ∀ k0, slv ad (wI σ o k v) q k0 sh.2.2 = slv ad σ q k0 sh.2.2 := fun k0 => slv_eq _ _ (fun j t _ => by
    unfold slotV
    split
    · rw [e1]
    · rfl
    · rfl
    · rfl)
  unfold ent
  split
  · rw [e3]
  · rw [e1]
  · rw [e2]
  · rw [e1]
  · rfl
  · rfl
theorem ent_wJ {cys : Nat → ClassId} {ad : Nat → Nat} {σ : Sg} {o k : Nat} {v : Int64} (q : Nat) (sh : Sh) (h : q ≠ o) : ent cys ad (wJ σ o k v) q sh = ent cys ad σ q sh := by
  have e1 : rI (wJ σ o k v) q = rI σ q := rfl
  have e2 : rJ (wJ σ o k v) q = rJ σ q := by funext j; simp [rJ, wJ, h]
  have e3 : ∀ k0, slv ad (wJ σ o k v) q k0 sh.2.2 = slv ad σ q k0 sh.2.2 := fun k0 => slv_eq _ _ (fun j t _ => by
    unfold slotV
    split
    · rfl
    · rw [e2]
    · rfl
    · rfl)
  unfold ent
  split
  · rw [e3]
  · rfl
  · rw [e2]
  · rfl
  · rfl
  · rfl
theorem ent_wR {cys : Nat → ClassId} {ad : Nat → Nat} {σ : Sg} {o k v : Nat} (q : Nat) (sh : Sh) (h : q ≠ o) : ent cys ad (wR σ o k v) q sh = ent cys ad σ q sh := by
  have e1 : rI (wR σ o k v) q = rI σ q := rfl
  have e2 : rJ (wR σ o k v) q = rJ σ q := rfl
  have e3 : ∀ k0, slv ad (wR σ o k v) q k0 sh.2.2 = slv ad σ q k0 sh.2.2 := fun k0 => slv_eq _ _ (fun j t _ => by
    unfold slotV
    split
    · rfl
    · rfl
    · rfl
    · have e4 : rR (wR σ o k v) q j = rR σ q j := by simp [rR, wR, h]
      rw [e4])
  unfold ent
  split
  · rw [e3]
  · rfl
  · rfl
  · rfl
  · rfl
  · rfl
theorem ent_wC {cys : Nat → ClassId} {ad : Nat → Nat} {σ : Sg} {a0 sp a1 dp n : Nat} (q : Nat) (sh : Sh) (h : q ≠ a1) : ent cys ad (wC σ a0 sp a1 dp n) q sh = ent cys ad σ q sh := by
  have e1 : rI (wC σ a0 sp a1 dp n) q = rI σ q := by funext j; simp [rI, wC, h]
  have e2 : rJ (wC σ a0 sp a1 dp n) q = rJ σ q := rfl
  have e3 : ∀ k0, slv ad (wC σ a0 sp a1 dp n) q k0 sh.2.2 = slv ad σ q k0 sh.2.2 := fun k0 => slv_eq _ _ (fun j t _ => by
    unfold slotV
    split
    · rw [e1]
    · rfl
    · rfl
    · rfl)
  unfold ent
  split
  · rw [e3]
  · rw [e1]
  · rw [e2]
  · rw [e1]
  · rfl
  · rfl

/-! ===== a method's point: context, program counter, locals, stack, what holds of the heap ===== -/
def AL : List Cond := lw_tbl.filter goodWord
def isNest : Cond → Bool
  | .fieldLinkNest .. => true
  | .methodLinkNest .. => true
  | _ => false
def NW : List Cond := lw_tbl.filter isNest
theorem AL_in {w : Cond} (h : w ∈ lw_tbl) (g : goodWord w = true) : w ∈ AL := List.mem_filter.mpr ⟨h, g⟩
theorem NW_in {w : Cond} (h : w ∈ lw_tbl) (g : isNest w = true) : w ∈ NW := List.mem_filter.mpr ⟨h, g⟩
theorem AL_good {w : Cond} (h : w ∈ AL) : w ∈ AL ∧ ((w.onTables && w.keeps) = true ∨ ∃ ty, w = .arrayClass ty) := ⟨h, good_of_word (List.mem_filter.mp h).2⟩
abbrev KT : Type := Program × Launch × Env × Room × State × MethodId × Array Value × List Frame × Method × Code × va_G × (Nat → ClassId) × (Nat → Nat) × (Nat → Prop) × (State → Prop)
abbrev kp (K : KT) : Program := K.1
abbrev kl (K : KT) : Launch := K.2.1
abbrev ke (K : KT) : Env := K.2.2.1
abbrev kR (K : KT) : Room := K.2.2.2.1
abbrev ks (K : KT) : State := K.2.2.2.2.1
abbrev km (K : KT) : MethodId := K.2.2.2.2.2.1
abbrev ka (K : KT) : Array Value := K.2.2.2.2.2.2.1
abbrev kb (K : KT) : List Frame := K.2.2.2.2.2.2.2.1
abbrev kmeth (K : KT) : Method := K.2.2.2.2.2.2.2.2.1
abbrev kc (K : KT) : Code := K.2.2.2.2.2.2.2.2.2.1
abbrev kD (K : KT) : va_G := K.2.2.2.2.2.2.2.2.2.2.1
abbrev kcy (K : KT) : Nat → ClassId := K.2.2.2.2.2.2.2.2.2.2.2.1
def kad (K : KT) : Nat → Nat := K.2.2.2.2.2.2.2.2.2.2.2.2.1
abbrev kA (K : KT) : Nat → Prop := K.2.2.2.2.2.2.2.2.2.2.2.2.2.1
abbrev kQ (K : KT) : State → Prop := K.2.2.2.2.2.2.2.2.2.2.2.2.2.2
abbrev Wk (K : KT) (H : Heap) (locs : List Loc) (g : JFrame) : Prop := W (kp K) (kl K) (ke K) (kR K) (ks K) (km K) (ka K) (kb K) (kmeth K) (kc K) H locs 0 0 (kQ K) g
def LX (ls : Array Slot) (L : List (Option Value)) : Prop := ls.size = L.length ∧ lv_wf ls ∧ ∀ (i : Nat) (v : Value), L[i]? = some (some v) → ls[i]? = some (Slot.val v)
def G (K : KT) (pc : Nat) (L : List (Option Value)) (st : List Value) (P : Heap → List Loc → Prop) : Prop :=
  ∀ (H : Heap) (locs : List Loc) (ls : Array Slot), P H locs → LX ls L → Wk K H locs (F0 (km K) pc ls st)
def Cb (K : KT) (cc : ByteArray) (own : String) (nL d : Nat) : Prop :=
  (kp K).tables.exec = Jvm.exec ∧ (kc K).code = cc ∧ (kc K).maxLocals = nL ∧ (ks K).vm.findClass own = some (km K).cls ∧ (∀ w ∈ AL, w.before (ka K) (ks K) = true) ∧ (kmeth K).locks = false ∧ d ≤ (kR K).frames ∧ 40 * d ≤ (kR K).locals
theorem Cb.fix {K : KT} {cc : ByteArray} {own : String} {nL d : Nat} (C : Cb K cc own nL d) : CallFix (kp K) (km K) (kc K) cc nL (ks K) (ka K) AL own := ⟨C.1, C.2.1, C.2.2.1, C.2.2.2.1, C.2.2.2.2.1⟩
theorem Cb.x {K : KT} {cc : ByteArray} {own : String} {nL d : Nat} (C : Cb K cc own nL d) : (kp K).tables.exec = Jvm.exec := C.1
theorem Cb.b {K : KT} {cc : ByteArray} {own : String} {nL d : Nat} (C : Cb K cc own nL d) : (kc K).code = cc := C.2.1
theorem Cb.o {K : KT} {cc : ByteArray} {own : String} {nL d : Nat} (C : Cb K cc own nL d) : (ks K).vm.findClass own = some (km K).cls := C.2.2.2.1
theorem Cb.t {K : KT} {cc : ByteArray} {own : String} {nL d : Nat} (C : Cb K cc own nL d) {w : Cond} (h : w ∈ AL) : w.before (ka K) (ks K) = true := C.2.2.2.2.1 w h
/-! the locals -/
def prs (L : List (Option Value)) : List (Nat × Value) := (List.range L.length).filterMap (fun i => (L[i]?.join).map (fun v => (i, v)))
theorem prs_iff {L : List (Option Value)} {q : Nat × Value} : q ∈ prs L ↔ L[q.1]? = some (some q.2) := by
  unfold prs
  rw [List.mem_filterMap]
  constructor
  · rintro ⟨i, -, h⟩
    obtain ⟨v, h1, h2⟩ := Option.map_eq_some_iff.mp h
    subst h2
    exact Option.join_eq_some_iff.mp h1
  · intro h
    refine ⟨q.1, List.mem_range.mpr ((List.getElem?_eq_some_iff.mp h).1), ?_⟩
    rw [h]
    rfl
theorem LX.has {ls : Array Slot} {L : List (Option Value)} (h : LX ls L) : lv_has ls L.length (prs L) := ⟨h.1, h.2.1, fun q hq => h.2.2 q.1 q.2 (prs_iff.mp hq)⟩
def c2 : Option (Option Value) → Bool
  | some (some (.long _)) => true
  | some (some (.double _)) => true
  | _ => false
/-- a store ends a long whose second half it takes -/
def clr (L : List (Option Value)) : Nat → List (Option Value)
  | 0 => L
  | j + 1 => if c2 L[j]? = true then L.set j none else L
def st1 (L : List (Option Value)) (i : Nat) (v : Value) : List (Option Value) := (clr L i).set i (some v)
def st2 (L : List (Option Value)) (i : Nat) (v : Value) : List (Option Value) := ((clr L i).set i (some v)).set (i + 1) none
theorem clr_len (L : List (Option Value)) (i : Nat) : (clr L i).length = L.length := by
  cases i with
  | zero => rfl
  | succ j => simp only [clr]; split <;> simp
theorem clr_get {L : List (Option Value)} {i j : Nat} {v : Value} (h : (clr L i)[j]? = some (some v)) : L[j]? = some (some v) ∧ ¬ (j + 1 = i ∧ v.category = 2) := by
  cases i with
  | zero => exact ⟨h, fun q => by omega⟩
  | succ q =>
    simp only [clr] at h
    split at h
    next hc =>
      rw [List.getElem?_set] at h
      split at h
      next => split at h <;> cases h
      next hne => exact ⟨h, fun z => hne (by omega)⟩
    next hc =>
      refine ⟨h, fun z => hc ?_⟩
      have hj : j = q := by omega
      subst hj
      rw [h]
      cases v <;> first | rfl | (exfalso; have := z.2; simp [Value.category] at this)
theorem LX.s1 {ls' : Array Slot} {L : List (Option Value)} {i : Nat} {v : Value} (hi : i < L.length) (h : lv_has ls' L.length ((i, v) :: (prs L).filter (fun q => !(q.1 == i) && !(q.1 + 1 == i && q.2.category == 2)))) : LX ls' (st1 L i v) := by
  refine ⟨by rw [h.1]; simp [st1, clr_len], h.2.1, fun j u hj => ?_⟩
  unfold st1 at hj
  rw [List.getElem?_set] at hj
  split at hj
  next e =>
    subst e
    rw [clr_len, if_pos hi] at hj
    cases hj
    exact h.2.2 (i, v) List.mem_cons_self
  next e =>
    obtain ⟨h1, h2⟩ := clr_get hj
    refine h.2.2 (j, u) (List.mem_cons_of_mem _ (List.mem_filter.mpr ⟨prs_iff.mpr h1, ?_⟩))
    have e' : j ≠ i := fun z => e z.symm
    by_cases z : j + 1 = i
    · have : ¬ u.category = 2 := fun y => h2 ⟨z, y⟩
      simp [e', this]
    · simp [e', z]
theorem LX.s2 {ls' : Array Slot} {L : List (Option Value)} {i : Nat} {v : Value} (hi : i + 1 < L.length) (h : lv_has ls' L.length ((i, v) :: (prs L).filter (fun q => !(q.1 == i) && (!(q.1 == i + 1) && !(q.1 + 1 == i && q.2.category == 2))))) : LX ls' (st2 L i v) := by
  refine ⟨by rw [h.1]; simp [st2, clr_len], h.2.1, fun j u hj => ?_⟩
  unfold st2 at hj
  rw [List.getElem?_set] at hj
  split at hj
  next e => split at hj <;> cases hj
  next e0 =>
    rw [List.getElem?_set] at hj
    split at hj
    next e =>
      subst e
      rw [clr_len, if_pos (by omega)] at hj
      cases hj
      exact h.2.2 (i, v) List.mem_cons_self
    next e =>
      obtain ⟨h1, h2⟩ := clr_get hj
      refine h.2.2 (j, u) (List.mem_cons_of_mem _ (List.mem_filter.mpr ⟨prs_iff.mpr h1, ?_⟩))
      have e' : j ≠ i := fun z => e z.symm
      have e0' : j ≠ i + 1 := fun z => e0 z.symm
      by_cases z : j + 1 = i
      · have : ¬ u.category = 2 := fun y => h2 ⟨z, y⟩
        simp [e', e0', this]
      · simp [e', e0', z]
/-- fewer locals are known -/
def ksel : List Bool → List (Option Value) → List (Option Value)
  | b :: bs, x :: xs => (if b = true then x else none) :: ksel bs xs
  | _, xs => xs
theorem ksel_len : ∀ (bs : List Bool) (L : List (Option Value)), (ksel bs L).length = L.length
  | [], L => by cases L <;> rfl
  | b :: bs, [] => rfl
  | b :: bs, x :: xs => by simp only [ksel, List.length_cons]; rw [ksel_len bs xs]
theorem ksel_get : ∀ (bs : List Bool) (L : List (Option Value)) (i : Nat) (v : Value), (ksel bs L)[i]? = some (some v) → L[i]? = some (some v)
  | [], L, i, v, h => by cases L <;> exact h
  | b :: bs, [], i, v, h => h
  | b :: bs, x :: xs, 0, v, h => by
    simp only [ksel, List.getElem?_cons_zero] at h ⊢
    split at h
    · exact h
    · cases h
  | b :: bs, x :: xs, i + 1, v, h => by
    simp only [ksel, List.getElem?_cons_succ] at h ⊢
    exact ksel_get bs xs i v h
theorem g_mask {K : KT} {pc : Nat} {L L' : List (Option Value)} {st : List Value} {P : Heap → List Loc → Prop} (bs : List Bool) (h : ksel bs L = L') (k : G K pc L' st P) : G K pc L st P := by
  intro H locs ls hP hL
  subst h
  exact k H locs ls hP ⟨by rw [hL.1, ksel_len], hL.2.1, fun i v hi => hL.2.2 i v (ksel_get bs L i v hi)⟩
theorem ite_t {c : Prop} {i : Decidable c} {α : Type} {a b o : α} (hc : c) (h : (@ite α c i a b) = o) : a = o := by rw [if_pos hc] at h; exact h
theorem ite_f {c : Prop} {i : Decidable c} {α : Type} {a b o : α} (hc : ¬ c) (h : (@ite α c i a b) = o) : b = o := by rw [if_neg hc] at h; exact h
/-- a place is in its row -/
def inb (i : Int32) (n : Nat) : Bool := decide (¬ i < 0) && decide (i.toNatClampNeg < n)
theorem inb_in {i : Int32} {n : Nat} (h : inb i n = true) : vp_in i n := by
  unfold inb at h
  rw [Bool.and_eq_true, decide_eq_true_eq, decide_eq_true_eq] at h
  exact fun q => q.elim h.1 (fun z => absurd h.2 (by omega))
theorem inb_lt {i : Int32} {n : Nat} (h : inb i n = true) : i.toNatClampNeg < n := by
  unfold inb at h
  rw [Bool.and_eq_true, decide_eq_true_eq, decide_eq_true_eq] at h
  exact h.2
/-- 0 or 1 -/
def isB (v : Int32) : Bool := decide (v = 0) || decide (v = 1)
theorem isB_n {v : Int32} (h : isB v = true) : narrow .boolean (.int v) = .int v := by
  unfold isB at h
  rw [Bool.or_eq_true, decide_eq_true_eq, decide_eq_true_eq] at h
  rcases h with rfl | rfl <;> rfl
theorem isB_f {v : Int32} (h : isB v = true) : fits .boolean (.int v) = true := by
  unfold isB at h
  rw [Bool.or_eq_true, decide_eq_true_eq, decide_eq_true_eq] at h
  rcases h with rfl | rfl <;> rfl
theorem chk {b : Bool} {α : Type} {x : Option α} {o : α} (h : (if b = true then x else none) = some o) : b = true ∧ x = some o := by
  by_cases c : b = true
  · rw [if_pos c] at h; exact ⟨c, h⟩
  · rw [if_neg c] at h; cases h
/-- the shape of a cell is as told -/
def isSh (Y : List Sh) (o : Nat) (sh : Sh) : Bool := decide (Y[o]? = some sh)
theorem isSh_e {Y : List Sh} {o : Nat} {sh : Sh} (h : isSh Y o sh = true) : Y[o]? = some sh := of_decide_eq_true h
/-- a loop of at most so many rounds -/
def lp {S T : Type} (f : S → Option (S ⊕ T)) : Nat → S → Option T
  | 0, _ => none
  | n + 1, s => match f s with
    | none => none
    | some (.inl s') => lp f n s'
    | some (.inr t) => some t
def FU : Nat := 1000000
theorem lp_ind {S T : Type} {f : S → Option (S ⊕ T)} {Gh : S → Prop} {KK : T → Prop} (hb : ∀ s o, f s = some o → (∀ s', o = .inl s' → Gh s') → (∀ t, o = .inr t → KK t) → Gh s) : ∀ (n : Nat) (s : S) (t : T), lp f n s = some t → KK t → Gh s
  | 0, s, t, h, _ => by cases h
  | n + 1, s, t, h, hk => by
    unfold lp at h
    cases hf : f s with
    | none => rw [hf] at h; cases h
    | some o =>
      rw [hf] at h
      cases o with
      | inl s' => exact hb s _ hf (fun s2 e => by cases e; exact lp_ind hb n s' t h hk) (fun t2 e => by cases e)
      | inr t' => exact hb s _ hf (fun s2 e => by cases e) (fun t2 e => by cases e; cases h; exact hk)

section GI
variable {K : KT} {cc : ByteArray} {own : String} {nL d pc : Nat} {L : List (Option Value)} {st : List Value} {P : Heap → List Loc → Prop}
theorem g_iconst (C : Cb K cc own nL d) {n : Int} {v : Int32} (hd : decode cc pc = .ok (.iconst n, 1)) (hv : Int32.ofInt n = v)
    (k : G K (pc + 1) L (.int v :: st) P) : G K pc L st P := fun H locs ls hP hL => lv_iconst C.x C.b hd hv (k H locs ls hP hL)
theorem g_bipush (C : Cb K cc own nL d) {n : Int} {v : Int32} (hd : decode cc pc = .ok (.bipush n, 2)) (hv : (Int8.ofInt n).toInt32 = v)
    (k : G K (pc + 2) L (.int v :: st) P) : G K pc L st P := fun H locs ls hP hL => lv_bipush C.x C.b hd hv (k H locs ls hP hL)
theorem g_sipush (C : Cb K cc own nL d) {n : Int} {v : Int32} (hd : decode cc pc = .ok (.sipush n, 3)) (hv : (Int16.ofInt n).toInt32 = v)
    (k : G K (pc + 3) L (.int v :: st) P) : G K pc L st P := fun H locs ls hP hL => lv_sipush C.x C.b hd hv (k H locs ls hP hL)
theorem g_lconst (C : Cb K cc own nL d) {n : Fin 2} {v : Int64} (hd : decode cc pc = .ok (.lconst n, 1)) (hv : Int64.ofNat (n : Nat) = v)
    (k : G K (pc + 1) L (.long v :: st) P) : G K pc L st P := fun H locs ls hP hL => lv_lconst C.x C.b hd hv (k H locs ls hP hL)
theorem g_iload_n (C : Cb K cc own nL d) {n : Fin 4} {i : Nat} {x : Int32} (hd : decode cc pc = .ok (.iload_n n, 1)) (hi : (n : Nat) = i) (hl : L[i]? = some (some (.int x)))
    (k : G K (pc + 1) L (.int x :: st) P) : G K pc L st P := fun H locs ls hP hL => lv_iload_n C.x C.b hd hi (hL.2.2 _ _ hl) (k H locs ls hP hL)
theorem g_iload (C : Cb K cc own nL d) {i : Nat} {x : Int32} (hd : decode cc pc = .ok (.iload i, 2)) (hl : L[i]? = some (some (.int x)))
    (k : G K (pc + 2) L (.int x :: st) P) : G K pc L st P := fun H locs ls hP hL => lv_iload C.x C.b hd (hL.2.2 _ _ hl) (k H locs ls hP hL)
theorem g_istore_n (C : Cb K cc own nL d) {n : Fin 4} {i : Nat} {x : Int32} {L' : List (Option Value)} (hd : decode cc pc = .ok (.istore_n n, 1)) (hi : (n : Nat) = i) (hn : i < L.length) (hL' : st1 L i (.int x) = L')
    (k : G K (pc + 1) L' st P) : G K pc L (.int x :: st) P := fun H locs ls hP hL => lv_istore_n C.x C.b hd hi hL.has hn rfl (fun ls' h' => k H locs ls' hP (hL' ▸ LX.s1 hn h'))
theorem g_istore (C : Cb K cc own nL d) {i : Nat} {x : Int32} {L' : List (Option Value)} (hd : decode cc pc = .ok (.istore i, 2)) (hn : i < L.length) (hL' : st1 L i (.int x) = L')
    (k : G K (pc + 2) L' st P) : G K pc L (.int x :: st) P := fun H locs ls hP hL => lv_istore C.x C.b hd hL.has hn rfl (fun ls' h' => k H locs ls' hP (hL' ▸ LX.s1 hn h'))
theorem g_lload_n (C : Cb K cc own nL d) {n : Fin 4} {i : Nat} {x : Int64} (hd : decode cc pc = .ok (.lload_n n, 1)) (hi : (n : Nat) = i) (hl : L[i]? = some (some (.long x)))
    (k : G K (pc + 1) L (.long x :: st) P) : G K pc L st P := fun H locs ls hP hL => lv_lload_n C.x C.b hd hi (hL.2.2 _ _ hl) (k H locs ls hP hL)
theorem g_lload (C : Cb K cc own nL d) {i : Nat} {x : Int64} (hd : decode cc pc = .ok (.lload i, 2)) (hl : L[i]? = some (some (.long x)))
    (k : G K (pc + 2) L (.long x :: st) P) : G K pc L st P := fun H locs ls hP hL => lv_lload C.x C.b hd (hL.2.2 _ _ hl) (k H locs ls hP hL)
theorem g_lstore_n (C : Cb K cc own nL d) {n : Fin 4} {i : Nat} {x : Int64} {L' : List (Option Value)} (hd : decode cc pc = .ok (.lstore_n n, 1)) (hi : (n : Nat) = i) (hn : i + 1 < L.length) (hL' : st2 L i (.long x) = L')
    (k : G K (pc + 1) L' st P) : G K pc L (.long x :: st) P := fun H locs ls hP hL => lv_lstore_n C.x C.b hd hi hL.has hn rfl (fun ls' h' => k H locs ls' hP (hL' ▸ LX.s2 hn h'))
theorem g_lstore (C : Cb K cc own nL d) {i : Nat} {x : Int64} {L' : List (Option Value)} (hd : decode cc pc = .ok (.lstore i, 2)) (hn : i + 1 < L.length) (hL' : st2 L i (.long x) = L')
    (k : G K (pc + 2) L' st P) : G K pc L (.long x :: st) P := fun H locs ls hP hL => lv_lstore C.x C.b hd hL.has hn rfl (fun ls' h' => k H locs ls' hP (hL' ▸ LX.s2 hn h'))
theorem g_aload_n (C : Cb K cc own nL d) {n : Fin 4} {i : Nat} {x : Nat} (hd : decode cc pc = .ok (.aload_n n, 1)) (hi : (n : Nat) = i) (hl : L[i]? = some (some (.ref x)))
    (k : G K (pc + 1) L (.ref x :: st) P) : G K pc L st P := fun H locs ls hP hL => lv_aload_n C.x C.b hd hi (hL.2.2 _ _ hl) (k H locs ls hP hL)
theorem g_aload (C : Cb K cc own nL d) {i : Nat} {x : Nat} (hd : decode cc pc = .ok (.aload i, 2)) (hl : L[i]? = some (some (.ref x)))
    (k : G K (pc + 2) L (.ref x :: st) P) : G K pc L st P := fun H locs ls hP hL => lv_aload C.x C.b hd (hL.2.2 _ _ hl) (k H locs ls hP hL)
theorem g_astore_n (C : Cb K cc own nL d) {n : Fin 4} {i : Nat} {x : Nat} {L' : List (Option Value)} (hd : decode cc pc = .ok (.astore_n n, 1)) (hi : (n : Nat) = i) (hn : i < L.length) (hL' : st1 L i (.ref x) = L')
    (k : G K (pc + 1) L' st P) : G K pc L (.ref x :: st) P := fun H locs ls hP hL => lv_astore_n C.x C.b hd hi hL.has hn rfl (fun ls' h' => k H locs ls' hP (hL' ▸ LX.s1 hn h'))
theorem g_astore (C : Cb K cc own nL d) {i : Nat} {x : Nat} {L' : List (Option Value)} (hd : decode cc pc = .ok (.astore i, 2)) (hn : i < L.length) (hL' : st1 L i (.ref x) = L')
    (k : G K (pc + 2) L' st P) : G K pc L (.ref x :: st) P := fun H locs ls hP hL => lv_astore C.x C.b hd hL.has hn rfl (fun ls' h' => k H locs ls' hP (hL' ▸ LX.s1 hn h'))
theorem g_iinc (C : Cb K cc own nL d) {i : Nat} {n : Int} {x y : Int32} {L' : List (Option Value)} (hd : decode cc pc = .ok (.iinc i n, 3)) (hl : L[i]? = some (some (.int x))) (hy : Int32.ofInt n = y) (hn : i < L.length) (hL' : st1 L i (.int (x + y)) = L')
    (k : G K (pc + 3) L' st P) : G K pc L st P := fun H locs ls hP hL => by
  obtain ⟨j, hj⟩ := List.getElem?_of_mem ((prs_iff (q := (i, .int x))).mpr hl)
  exact lv_iinc C.x C.b hd hL.has hj (by rw [hy]) hn rfl (fun ls' h' => k H locs ls' hP (hL' ▸ LX.s1 hn h'))
theorem g_iadd (C : Cb K cc own nL d) {x y : Int32} (hd : decode cc pc = .ok (.iadd, 1))
    (k : G K (pc + 1) L (.int (x + y) :: st) P) : G K pc L (.int y :: .int x :: st) P := fun H locs ls hP hL => lv_iadd C.x C.b hd (k H locs ls hP hL)
theorem g_isub (C : Cb K cc own nL d) {x y : Int32} (hd : decode cc pc = .ok (.isub, 1))
    (k : G K (pc + 1) L (.int (x - y) :: st) P) : G K pc L (.int y :: .int x :: st) P := fun H locs ls hP hL => lv_isub C.x C.b hd (k H locs ls hP hL)
theorem g_imul (C : Cb K cc own nL d) {x y : Int32} (hd : decode cc pc = .ok (.imul, 1))
    (k : G K (pc + 1) L (.int (x * y) :: st) P) : G K pc L (.int y :: .int x :: st) P := fun H locs ls hP hL => lv_imul C.x C.b hd (k H locs ls hP hL)
theorem g_iand (C : Cb K cc own nL d) {x y : Int32} (hd : decode cc pc = .ok (.iand, 1))
    (k : G K (pc + 1) L (.int (x &&& y) :: st) P) : G K pc L (.int y :: .int x :: st) P := fun H locs ls hP hL => lv_iand C.x C.b hd (k H locs ls hP hL)
theorem g_idiv (C : Cb K cc own nL d) {x y : Int32} (hd : decode cc pc = .ok (.idiv, 1)) (hne : ¬ y = 0)
    (k : G K (pc + 1) L (.int (x / y) :: st) P) : G K pc L (.int y :: .int x :: st) P := fun H locs ls hP hL => lv_idiv C.x C.b hd hne (k H locs ls hP hL)
theorem g_irem (C : Cb K cc own nL d) {x y : Int32} (hd : decode cc pc = .ok (.irem, 1)) (hne : ¬ y = 0)
    (k : G K (pc + 1) L (.int (x - x / y * y) :: st) P) : G K pc L (.int y :: .int x :: st) P := fun H locs ls hP hL => lv_irem C.x C.b hd hne (k H locs ls hP hL)
theorem g_ineg (C : Cb K cc own nL d) {x : Int32} (hd : decode cc pc = .ok (.ineg, 1))
    (k : G K (pc + 1) L (.int (-x) :: st) P) : G K pc L (.int x :: st) P := fun H locs ls hP hL => lv_ineg C.x C.b hd (k H locs ls hP hL)
theorem g_ladd (C : Cb K cc own nL d) {x y : Int64} (hd : decode cc pc = .ok (.ladd, 1))
    (k : G K (pc + 1) L (.long (x + y) :: st) P) : G K pc L (.long y :: .long x :: st) P := fun H locs ls hP hL => lv_ladd C.x C.b hd (k H locs ls hP hL)
theorem g_lsub (C : Cb K cc own nL d) {x y : Int64} (hd : decode cc pc = .ok (.lsub, 1))
    (k : G K (pc + 1) L (.long (x - y) :: st) P) : G K pc L (.long y :: .long x :: st) P := fun H locs ls hP hL => lv_lsub C.x C.b hd (k H locs ls hP hL)
theorem g_lmul (C : Cb K cc own nL d) {x y : Int64} (hd : decode cc pc = .ok (.lmul, 1))
    (k : G K (pc + 1) L (.long (x * y) :: st) P) : G K pc L (.long y :: .long x :: st) P := fun H locs ls hP hL => lv_lmul C.x C.b hd (k H locs ls hP hL)
theorem g_land (C : Cb K cc own nL d) {x y : Int64} (hd : decode cc pc = .ok (.land, 1))
    (k : G K (pc + 1) L (.long (x &&& y) :: st) P) : G K pc L (.long y :: .long x :: st) P := fun H locs ls hP hL => lv_land C.x C.b hd (k H locs ls hP hL)
theorem g_lor (C : Cb K cc own nL d) {x y : Int64} (hd : decode cc pc = .ok (.lor, 1))
    (k : G K (pc + 1) L (.long (x ||| y) :: st) P) : G K pc L (.long y :: .long x :: st) P := fun H locs ls hP hL => lv_lor C.x C.b hd (k H locs ls hP hL)
theorem g_ldiv (C : Cb K cc own nL d) {x y : Int64} (hd : decode cc pc = .ok (.ldiv, 1)) (hne : ¬ y = 0)
    (k : G K (pc + 1) L (.long (x / y) :: st) P) : G K pc L (.long y :: .long x :: st) P := fun H locs ls hP hL => lv_ldiv C.x C.b hd hne (k H locs ls hP hL)
theorem g_lrem (C : Cb K cc own nL d) {x y : Int64} (hd : decode cc pc = .ok (.lrem, 1)) (hne : ¬ y = 0)
    (k : G K (pc + 1) L (.long (x - x / y * y) :: st) P) : G K pc L (.long y :: .long x :: st) P := fun H locs ls hP hL => lv_lrem C.x C.b hd hne (k H locs ls hP hL)
def lushr (x : Int64) (y : Int32) : Int64 := (x.toUInt64 >>> (y.toInt64.toUInt64 &&& Int64.toUInt64 63)).toInt64
def lshl (x : Int64) (y : Int32) : Int64 := x <<< (y.toInt64 &&& 63)
theorem g_lushr (C : Cb K cc own nL d) {x : Int64} {y : Int32} (hd : decode cc pc = .ok (.lushr, 1))
    (k : G K (pc + 1) L (.long (lushr x y) :: st) P) : G K pc L (.int y :: .long x :: st) P := fun H locs ls hP hL => lv_lushr C.x C.b hd rfl (k H locs ls hP hL)
theorem g_lshl (C : Cb K cc own nL d) {x : Int64} {y : Int32} (hd : decode cc pc = .ok (.lshl, 1))
    (k : G K (pc + 1) L (.long (lshl x y) :: st) P) : G K pc L (.int y :: .long x :: st) P := fun H locs ls hP hL => lv_lshl C.x C.b hd rfl (k H locs ls hP hL)
theorem g_i2l (C : Cb K cc own nL d) {x : Int32} (hd : decode cc pc = .ok (.i2l, 1))
    (k : G K (pc + 1) L (.long x.toInt64 :: st) P) : G K pc L (.int x :: st) P := fun H locs ls hP hL => lv_i2l C.x C.b hd rfl (k H locs ls hP hL)
theorem g_l2i (C : Cb K cc own nL d) {x : Int64} (hd : decode cc pc = .ok (.l2i, 1))
    (k : G K (pc + 1) L (.int x.toInt32 :: st) P) : G K pc L (.long x :: st) P := fun H locs ls hP hL => lv_l2i C.x C.b hd rfl (k H locs ls hP hL)
theorem g_lcmp (C : Cb K cc own nL d) {x y : Int64} (hd : decode cc pc = .ok (.lcmp, 1))
    (k : G K (pc + 1) L (.int (lg_cmp x y) :: st) P) : G K pc L (.long y :: .long x :: st) P := fun H locs ls hP hL => W.lcmp C.x C.b hd (k H locs ls hP hL)
theorem g_dup (C : Cb K cc own nL d) {v : Value} (hd : decode cc pc = .ok (.dup, 1)) (hv : v.category = 1)
    (k : G K (pc + 1) L (v :: v :: st) P) : G K pc L (v :: st) P := fun H locs ls hP hL => lv_dup C.x C.b hd hv (k H locs ls hP hL)
theorem g_dup2 (C : Cb K cc own nL d) {u v : Value} (hd : decode cc pc = .ok (.dup2, 1)) (hu : u.category = 1) (hv : v.category = 1)
    (k : G K (pc + 1) L (u :: v :: u :: v :: st) P) : G K pc L (u :: v :: st) P := fun H locs ls hP hL => lv_dup2_11 C.x C.b hd hu hv (k H locs ls hP hL)
theorem g_pop (C : Cb K cc own nL d) {v : Value} (hd : decode cc pc = .ok (.pop, 1)) (hv : v.category = 1)
    (k : G K (pc + 1) L st P) : G K pc L (v :: st) P := fun H locs ls hP hL => lv_pop C.x C.b hd hv (k H locs ls hP hL)
theorem g_if_eq (C : Cb K cc own nL d) {x : Int32} {off : Int} {tgt : Nat} (hd : decode cc pc = .ok (.ifCond .eq off, 3)) (ht : (pc : Int) + off = (tgt : Int))
    (kt : x = 0 → G K tgt L st P) (kf : ¬ x = 0 → G K (pc + 3) L st P) : G K pc L (.int x :: st) P := fun H locs ls hP hL => lv_if_eq C.x C.b hd ht (fun q => kt q H locs ls hP hL) (fun q => kf q H locs ls hP hL)
theorem g_if_ne (C : Cb K cc own nL d) {x : Int32} {off : Int} {tgt : Nat} (hd : decode cc pc = .ok (.ifCond .ne off, 3)) (ht : (pc : Int) + off = (tgt : Int))
    (kt : ¬ x = 0 → G K tgt L st P) (kf : x = 0 → G K (pc + 3) L st P) : G K pc L (.int x :: st) P := fun H locs ls hP hL => lv_if_ne C.x C.b hd ht (fun q => kt q H locs ls hP hL) (fun q => kf q H locs ls hP hL)
theorem g_if_lt (C : Cb K cc own nL d) {x : Int32} {off : Int} {tgt : Nat} (hd : decode cc pc = .ok (.ifCond .lt off, 3)) (ht : (pc : Int) + off = (tgt : Int))
    (kt : x < 0 → G K tgt L st P) (kf : ¬ x < 0 → G K (pc + 3) L st P) : G K pc L (.int x :: st) P := fun H locs ls hP hL => lv_if_lt C.x C.b hd ht (fun q => kt q H locs ls hP hL) (fun q => kf q H locs ls hP hL)
theorem g_if_ge (C : Cb K cc own nL d) {x : Int32} {off : Int} {tgt : Nat} (hd : decode cc pc = .ok (.ifCond .ge off, 3)) (ht : (pc : Int) + off = (tgt : Int))
    (kt : 0 ≤ x → G K tgt L st P) (kf : ¬ 0 ≤ x → G K (pc + 3) L st P) : G K pc L (.int x :: st) P := fun H locs ls hP hL => lv_if_ge C.x C.b hd ht (fun q => kt q H locs ls hP hL) (fun q => kf q H locs ls hP hL)
theorem g_if_gt (C : Cb K cc own nL d) {x : Int32} {off : Int} {tgt : Nat} (hd : decode cc pc = .ok (.ifCond .gt off, 3)) (ht : (pc : Int) + off = (tgt : Int))
    (kt : 0 < x → G K tgt L st P) (kf : ¬ 0 < x → G K (pc + 3) L st P) : G K pc L (.int x :: st) P := fun H locs ls hP hL => lv_if_gt C.x C.b hd ht (fun q => kt q H locs ls hP hL) (fun q => kf q H locs ls hP hL)
theorem g_if_le (C : Cb K cc own nL d) {x : Int32} {off : Int} {tgt : Nat} (hd : decode cc pc = .ok (.ifCond .le off, 3)) (ht : (pc : Int) + off = (tgt : Int))
    (kt : x ≤ 0 → G K tgt L st P) (kf : ¬ x ≤ 0 → G K (pc + 3) L st P) : G K pc L (.int x :: st) P := fun H locs ls hP hL => lv_if_le C.x C.b hd ht (fun q => kt q H locs ls hP hL) (fun q => kf q H locs ls hP hL)
theorem g_icmp_eq (C : Cb K cc own nL d) {x y : Int32} {off : Int} {tgt : Nat} (hd : decode cc pc = .ok (.if_icmp .eq off, 3)) (ht : (pc : Int) + off = (tgt : Int))
    (kt : x = y → G K tgt L st P) (kf : ¬ x = y → G K (pc + 3) L st P) : G K pc L (.int y :: .int x :: st) P := fun H locs ls hP hL => lv_icmp_eq C.x C.b hd ht (fun q => kt q H locs ls hP hL) (fun q => kf q H locs ls hP hL)
theorem g_icmp_ne (C : Cb K cc own nL d) {x y : Int32} {off : Int} {tgt : Nat} (hd : decode cc pc = .ok (.if_icmp .ne off, 3)) (ht : (pc : Int) + off = (tgt : Int))
    (kt : ¬ x = y → G K tgt L st P) (kf : x = y → G K (pc + 3) L st P) : G K pc L (.int y :: .int x :: st) P := fun H locs ls hP hL => lv_icmp_ne C.x C.b hd ht (fun q => kt q H locs ls hP hL) (fun q => kf q H locs ls hP hL)
theorem g_icmp_lt (C : Cb K cc own nL d) {x y : Int32} {off : Int} {tgt : Nat} (hd : decode cc pc = .ok (.if_icmp .lt off, 3)) (ht : (pc : Int) + off = (tgt : Int))
    (kt : x < y → G K tgt L st P) (kf : ¬ x < y → G K (pc + 3) L st P) : G K pc L (.int y :: .int x :: st) P := fun H locs ls hP hL => lv_icmp_lt C.x C.b hd ht (fun q => kt q H locs ls hP hL) (fun q => kf q H locs ls hP hL)
theorem g_icmp_ge (C : Cb K cc own nL d) {x y : Int32} {off : Int} {tgt : Nat} (hd : decode cc pc = .ok (.if_icmp .ge off, 3)) (ht : (pc : Int) + off = (tgt : Int))
    (kt : y ≤ x → G K tgt L st P) (kf : ¬ y ≤ x → G K (pc + 3) L st P) : G K pc L (.int y :: .int x :: st) P := fun H locs ls hP hL => lv_icmp_ge C.x C.b hd ht (fun q => kt q H locs ls hP hL) (fun q => kf q H locs ls hP hL)
theorem g_icmp_gt (C : Cb K cc own nL d) {x y : Int32} {off : Int} {tgt : Nat} (hd : decode cc pc = .ok (.if_icmp .gt off, 3)) (ht : (pc : Int) + off = (tgt : Int))
    (kt : y < x → G K tgt L st P) (kf : ¬ y < x → G K (pc + 3) L st P) : G K pc L (.int y :: .int x :: st) P := fun H locs ls hP hL => lv_icmp_gt C.x C.b hd ht (fun q => kt q H locs ls hP hL) (fun q => kf q H locs ls hP hL)
theorem g_icmp_le (C : Cb K cc own nL d) {x y : Int32} {off : Int} {tgt : Nat} (hd : decode cc pc = .ok (.if_icmp .le off, 3)) (ht : (pc : Int) + off = (tgt : Int))
    (kt : x ≤ y → G K tgt L st P) (kf : ¬ x ≤ y → G K (pc + 3) L st P) : G K pc L (.int y :: .int x :: st) P := fun H locs ls hP hL => lv_icmp_le C.x C.b hd ht (fun q => kt q H locs ls hP hL) (fun q => kf q H locs ls hP hL)
theorem g_goto (C : Cb K cc own nL d) {off : Int} {tgt : Nat} (hd : decode cc pc = .ok (.goto off, 3)) (ht : (pc : Int) + off = (tgt : Int)) (k : G K tgt L st P) : G K pc L st P := fun H locs ls hP hL => lv_goto C.x C.b hd ht (k H locs ls hP hL)
theorem g_tableIn (C : Cb K cc own nL d) {dflt lo hi : Int} {offs : Array Int} {len : Nat} {x : Int32} {off : Int} {tgt : Nat} (hd : decode cc pc = .ok (.tableswitch dflt lo hi offs, len)) (h1 : ¬ x.toInt < lo) (h2 : ¬ hi < x.toInt) (ho : offs[(x.toInt - lo).toNat]? = some off) (ht : (pc : Int) + off = (tgt : Int))
    (k : G K tgt L st P) : G K pc L (.int x :: st) P := fun H locs ls hP hL => lv_tableIn C.x C.b hd h1 h2 ho ht (k H locs ls hP hL)
theorem g_tableOut (C : Cb K cc own nL d) {dflt lo hi : Int} {offs : Array Int} {len : Nat} {x : Int32} {tgt : Nat} (hd : decode cc pc = .ok (.tableswitch dflt lo hi offs, len)) (h : x.toInt < lo ∨ hi < x.toInt) (ht : (pc : Int) + dflt = (tgt : Int))
    (k : G K tgt L st P) : G K pc L (.int x :: st) P := fun H locs ls hP hL => lv_tableOut C.x C.b hd h ht (k H locs ls hP hL)
theorem g_lookup (C : Cb K cc own nL d) {dflt : Int} {ps : Array (Int × Int)} {len : Nat} {x : Int32} {off : Int} {tgt : Nat} (hd : decode cc pc = .ok (.lookupswitch dflt ps, len)) (hp : (ps.toList.zip (ps.toList.drop 1)).all (fun (a, next) => a.1 < next.1) = true) (ho : Op.lookupswitch.offset ps.toList dflt x.toInt = off) (ht : (pc : Int) + off = (tgt : Int))
    (k : G K tgt L st P) : G K pc L (.int x :: st) P := fun H locs ls hP hL => lv_lookup C.x C.b hd hp ho ht (k H locs ls hP hL)
theorem g_ldc (C : Cb K cc own nL d) {index : Nat} {v : Int32} (hw : Cond.constant own index v ∈ AL) (hd : decode cc pc = .ok (.ldc index, 2)) (k : G K (pc + 2) L (.int v :: st) P) : G K pc L st P := fun H locs ls hP hL => lv_ldc C.x C.b C.o (C.t hw) hd (k H locs ls hP hL)
theorem g_ldcw (C : Cb K cc own nL d) {index : Nat} {v : Int32} (hw : Cond.constant own index v ∈ AL) (hd : decode cc pc = .ok (.ldc_w index, 3)) (k : G K (pc + 3) L (.int v :: st) P) : G K pc L st P := fun H locs ls hP hL => lv_ldcw C.x C.b C.o (C.t hw) hd (k H locs ls hP hL)
theorem g_ldc2 (C : Cb K cc own nL d) {index : Nat} {v : Int64} (hw : Cond.constantLong own index v ∈ AL) (hd : decode cc pc = .ok (.ldc2_w index, 3)) (k : G K (pc + 3) L (.long v :: st) P) : G K pc L st P := fun H locs ls hP hL => lv_ldc2 C.x C.b C.o (C.t hw) hd (k H locs ls hP hL)
end GI
end
section
/-! ===== reads, writes, calls, returns over a world of shapes ===== -/
def Aof (ad : Nat → Nat) (N sz : Nat) : Nat → Prop := fun q => (∃ i, i < N ∧ q = ad i) ∨ sz ≤ q
def stL (l : List Int32) (j : Nat) : Int32 := l.getD j 0
def Ev (A : Nat → Prop) (U : State) : Prop := (∀ w ∈ NW, va_Nw w U) ∧
  (∃ t, va_Z "IceForCoast$Coins" "LEAST" "[I" (.ref t) A U U.heap ∧ va_T .int t 3 (fun j => .int (stL [1, 0, 0] j)) A U U.heap) ∧
  (∃ t, va_Z "IceForCoast$Coins" "MOST" "[I" (.ref t) A U U.heap ∧ va_T .int t 3 (fun j => .int (stL [9, 9, 99] j)) A U U.heap)
def Cx (K : KT) (Y : List Sh) (cc : ByteArray) (own : String) (nL d : Nat) (ret : Option FieldType) : Prop :=
  Cb K cc own nL d ∧ (kmeth K).sig.returnType = ret ∧ va_K (kD K) vwCl (tysOf (kcy K)) (ks K) ∧ (∀ i j, i < Y.length → j < Y.length → kad K i = kad K j → i = j) ∧ kA K = Aof (kad K) Y.length (ks K).heap.size ∧ Ev (kA K) (ks K)
def Wd (K : KT) (Y : List Sh) (σ : Sg) : Heap → List Loc → Prop := fun H locs => va_P (kD K) vwCl (wd (kcy K) (kad K) σ 0 Y) H ∧ va_S (kA K) (ks K).heap H locs
section GC
variable {K : KT} {Y : List Sh} {cc : ByteArray} {own : String} {nL d : Nat} {ret : Option FieldType}
theorem Cx.c (C : Cx K Y cc own nL d ret) : Cb K cc own nL d := C.1
theorem Cx.r (C : Cx K Y cc own nL d ret) : (kmeth K).sig.returnType = ret := C.2.1
theorem Cx.k (C : Cx K Y cc own nL d ret) : va_K (kD K) vwCl (tysOf (kcy K)) (ks K) := C.2.2.1
theorem Cx.i (C : Cx K Y cc own nL d ret) : ∀ i j, i < Y.length → j < Y.length → kad K i = kad K j → i = j := C.2.2.2.1
theorem Cx.a (C : Cx K Y cc own nL d ret) : kA K = Aof (kad K) Y.length (ks K).heap.size := C.2.2.2.2.1
theorem Cx.e (C : Cx K Y cc own nL d ret) : Ev (kA K) (ks K) := C.2.2.2.2.2
theorem Cx.in (C : Cx K Y cc own nL d ret) : ∀ i, i < Y.length → kA K (kad K i) := fun i h => by rw [C.a]; exact Or.inl ⟨i, h, rfl⟩
theorem Cx.D (C : Cx K Y cc own nL d ret) (σ : Sg) : va_D (kA K) (wd (kcy K) (kad K) σ 0 Y) := wd_D C.i C.in
theorem Cx.nest (C : Cx K Y cc own nL d ret) {w : Cond} (h : w ∈ NW) (ho : w.onTables = true) : w.before (ka K) (ks K) = true := va_Nw.use ho (C.e.1 w h)
end GC
/-- a field, by its link or by the nest -/
def FL (own : String) (index : Nat) (C n d : String) : Prop := (Cond.fieldLink own index C n d ∈ AL) ∨ ∃ host, Cond.fieldLinkNest own index C n d host ∈ NW
section GH
variable {K : KT} {Y : List Sh} {cc : ByteArray} {own : String} {nL d : Nat} {ret : Option FieldType} {pc : Nat} {L : List (Option Value)} {st : List Value} {σ : Sg}
theorem g_get (C : Cx K Y cc own nL d ret) {o ci k index N : Nat} {C0 : String} {T : u_T} {sl : List (Nat × Nat)} {s : Nat × Nat} (hd : decode cc pc = .ok (.getfield index, 3)) (hY : Y[o]? = some (0, ci, sl)) (hs : sl[k]? = some s) (hc : vwCl[ci]? = some (C0, T, N)) (hk : k < N) (hl : FL own index (T k).1 (T k).2.1 (T k).2.2.1) (hin : ∀ w ∈ u_ws C0 T N, w ∈ AL)
    {v : Value} (hv : slotV (kad K) σ o k s = v) (kk : G K (pc + 3) L (v :: st) (Wd K Y σ)) : G K pc L (.ref (kad K o) :: st) (Wd K Y σ) := fun H locs ls hP hL => by
  subst hv
  have he : (wd (kcy K) (kad K) σ 0 Y)[o]? = some (kad K o, .inr (ci, slv (kad K) σ o 0 sl)) := wd_at hY
  have hv : (slv (kad K) σ o 0 sl)[k]? = some (slotV (kad K) σ o k s) := by rw [slv_get, hs, Nat.zero_add]; rfl
  rcases hl with hl | ⟨host, hl⟩
  · exact va_get C.c.x C.c.b C.c.fix.2.2.2.2 hin C.c.o C.k hP.1 o he hc k hk (C.c.t hl) (fun _ h => h) hv hd (kk H locs ls hP hL)
  · exact va_getN C.c.x C.c.b C.c.fix.2.2.2.2 hin C.c.o C.k hP.1 o he hc k hk (C.nest hl rfl) (fun _ h => h) hv hd (kk H locs ls hP hL)
theorem g_put0 (C : Cx K Y cc own nL d ret) {o ci k index N : Nat} {C0 : String} {T : u_T} {ty0 : Nat → FieldType} {sl : List (Nat × Nat)} {s : Nat × Nat} {v : Value} {σ' : Sg} (hd : decode cc pc = .ok (.putfield index, 3)) (hY : Y[o]? = some (0, ci, sl)) (hs : sl[k]? = some s) (hc : vwCl[ci]? = some (C0, T, N)) (hk : k < N) (hl : FL own index (T k).1 (T k).2.1 (T k).2.2.1) (hin : ∀ w ∈ u_ws C0 T N, w ∈ AL)
    (hty : ∀ k, k < N → parseFieldDescriptor (T k).2.2.1 = some (ty0 k)) (hnm : ∀ a, a < N → ∀ b, b < N → a ≠ b → (T a).2.1 ≠ (T b).2.1) (hfin : (T k).2.2.2 = false) (hn : narrow (ty0 k) v = v) (hf : fits (ty0 k) v = true)
    (h1 : ∀ q sh, q ≠ o → ent (kcy K) (kad K) σ' q sh = ent (kcy K) (kad K) σ q sh) (h2 : ∀ q t, q ≠ k → slotV (kad K) σ' o q t = slotV (kad K) σ o q t) (h3 : slotV (kad K) σ' o k s = v)
    (kk : G K (pc + 3) L st (Wd K Y σ')) : G K pc L (v :: .ref (kad K o) :: st) (Wd K Y σ) := fun H locs ls hP hL => by
  have he : (wd (kcy K) (kad K) σ 0 Y)[o]? = some (kad K o, .inr (ci, slv (kad K) σ o 0 sl)) := wd_at hY
  have hlen : k < (slv (kad K) σ o 0 sl).length := by rw [slv_len]; exact (List.getElem?_eq_some_iff.mp hs).1
  have hset : (slv (kad K) σ o 0 sl).set k v = slv (kad K) σ' o 0 sl := slv_set sl 0 k s hs (fun q t hq => h2 q t (by omega)) (by rw [Nat.zero_add]; exact h3)
  have hw : (wd (kcy K) (kad K) σ 0 Y).set o (kad K o, .inr (ci, (slv (kad K) σ o 0 sl).set k v)) = wd (kcy K) (kad K) σ' 0 Y := by
    have := wd_set (cys := kcy K) (ad := kad K) (σ := σ) (σ' := σ') (e := .inr (ci, slv (kad K) σ' o 0 sl)) Y 0 o _ hY (fun q t hq => h1 q t (by omega)) (by rw [Nat.zero_add]; rfl)
    rw [Nat.zero_add] at this
    rw [hset]
    exact this
  rcases hl with hl | ⟨host, hl⟩
  · exact va_put C.c.x C.c.b C.c.fix.2.2.2.2 hin ty0 hty hnm C.c.o C.k hP.1 (C.D σ) hP.2 o he hc k hk (C.c.t hl) (fun _ h => h) hfin (hty k hk) hn hf hlen hd (fun H1 locs1 q1 q2 q3 => kk H1 locs1 ls ⟨hw ▸ q1, q3⟩ hL)
  · exact va_putN C.c.x C.c.b C.c.fix.2.2.2.2 hin ty0 hty hnm C.c.o C.k hP.1 (C.D σ) hP.2 o he hc k hk (C.nest hl rfl) (fun _ h => h) hfin (hty k hk) hn hf hlen hd (fun H1 locs1 q1 q2 q3 => kk H1 locs1 ls ⟨hw ▸ q1, q3⟩ hL)
theorem slot_wI {ad : Nat → Nat} {o k : Nat} {v : Int32} {σ : Sg} (q : Nat) (t : Nat × Nat) (h : q ≠ k) : slotV ad (wI σ o k v) o q t = slotV ad σ o q t := by
  unfold slotV
  split
  · simp [rI, wI, h]
  · rfl
  · rfl
  · rfl
theorem slot_wJ {ad : Nat → Nat} {o k : Nat} {v : Int64} {σ : Sg} (q : Nat) (t : Nat × Nat) (h : q ≠ k) : slotV ad (wJ σ o k v) o q t = slotV ad σ o q t := by
  unfold slotV
  split
  · rfl
  · simp [rJ, wJ, h]
  · rfl
  · rfl
theorem slot_wR {ad : Nat → Nat} {o k v : Nat} {σ : Sg} (q : Nat) (t : Nat × Nat) (h : q ≠ k) : slotV ad (wR σ o k v) o q t = slotV ad σ o q t := by
  unfold slotV
  split
  · rfl
  · rfl
  · rfl
  · simp [rR, wR, h]
theorem g_putI (C : Cx K Y cc own nL d ret) {o ci k index N z : Nat} {C0 : String} {T : u_T} {ty0 : Nat → FieldType} {sl : List (Nat × Nat)} {v : Int32} (hd : decode cc pc = .ok (.putfield index, 3)) (hY : Y[o]? = some (0, ci, sl)) (hs : sl[k]? = some (0, z)) (hc : vwCl[ci]? = some (C0, T, N)) (hk : k < N) (hl : FL own index (T k).1 (T k).2.1 (T k).2.2.1) (hin : ∀ w ∈ u_ws C0 T N, w ∈ AL)
    (hty : ∀ k, k < N → parseFieldDescriptor (T k).2.2.1 = some (ty0 k)) (hnm : ∀ a, a < N → ∀ b, b < N → a ≠ b → (T a).2.1 ≠ (T b).2.1) (hfin : (T k).2.2.2 = false) (hn : narrow (ty0 k) (.int v) = .int v) (hf : fits (ty0 k) (.int v) = true)
    (kk : G K (pc + 3) L st (Wd K Y (wI σ o k v))) : G K pc L (.int v :: .ref (kad K o) :: st) (Wd K Y σ) :=
  g_put0 C hd hY hs hc hk hl hin hty hnm hfin hn hf (fun q sh h => ent_wI q sh h) (fun q t h => slot_wI q t h) (by simp [slotV, rI, wI]) kk
theorem g_putJ (C : Cx K Y cc own nL d ret) {o ci k index N z : Nat} {C0 : String} {T : u_T} {ty0 : Nat → FieldType} {sl : List (Nat × Nat)} {v : Int64} (hd : decode cc pc = .ok (.putfield index, 3)) (hY : Y[o]? = some (0, ci, sl)) (hs : sl[k]? = some (1, z)) (hc : vwCl[ci]? = some (C0, T, N)) (hk : k < N) (hl : FL own index (T k).1 (T k).2.1 (T k).2.2.1) (hin : ∀ w ∈ u_ws C0 T N, w ∈ AL)
    (hty : ∀ k, k < N → parseFieldDescriptor (T k).2.2.1 = some (ty0 k)) (hnm : ∀ a, a < N → ∀ b, b < N → a ≠ b → (T a).2.1 ≠ (T b).2.1) (hfin : (T k).2.2.2 = false) (hn : narrow (ty0 k) (.long v) = .long v) (hf : fits (ty0 k) (.long v) = true)
    (kk : G K (pc + 3) L st (Wd K Y (wJ σ o k v))) : G K pc L (.long v :: .ref (kad K o) :: st) (Wd K Y σ) :=
  g_put0 C hd hY hs hc hk hl hin hty hnm hfin hn hf (fun q sh h => ent_wJ q sh h) (fun q t h => slot_wJ q t h) (by simp [slotV, rJ, wJ]) kk
theorem g_putR (C : Cx K Y cc own nL d ret) {o ci k index N z v : Nat} {C0 : String} {T : u_T} {ty0 : Nat → FieldType} {sl : List (Nat × Nat)} (hd : decode cc pc = .ok (.putfield index, 3)) (hY : Y[o]? = some (0, ci, sl)) (hs : sl[k]? = some (3, z)) (hc : vwCl[ci]? = some (C0, T, N)) (hk : k < N) (hl : FL own index (T k).1 (T k).2.1 (T k).2.2.1) (hin : ∀ w ∈ u_ws C0 T N, w ∈ AL)
    (hty : ∀ k, k < N → parseFieldDescriptor (T k).2.2.1 = some (ty0 k)) (hnm : ∀ a, a < N → ∀ b, b < N → a ≠ b → (T a).2.1 ≠ (T b).2.1) (hfin : (T k).2.2.2 = false) (hn : ∀ a, narrow (ty0 k) (.ref a) = .ref a) (hf : ∀ a, fits (ty0 k) (.ref a) = true)
    (kk : G K (pc + 3) L st (Wd K Y (wR σ o k v))) : G K pc L (.ref (kad K v) :: .ref (kad K o) :: st) (Wd K Y σ) :=
  g_put0 C hd hY hs hc hk hl hin hty hnm hfin (hn _) (hf _) (fun q sh h => ent_wR q sh h) (fun q t h => slot_wR q t h) (by simp [slotV, rR, wR]) kk
theorem g_iald (C : Cx K Y cc own nL d ret) {o n : Nat} {z : List (Nat × Nat)} {i : Int32} (hd : decode cc pc = .ok (.iaload, 1)) (hY : Y[o]? = some (1, n, z)) (hi : inb i n = true)
    (kk : G K (pc + 1) L (.int (rI σ o i.toNatClampNeg) :: st) (Wd K Y σ)) : G K pc L (.int i :: .ref (kad K o) :: st) (Wd K Y σ) := fun H locs ls hP hL => by
  have he : (wd (kcy K) (kad K) σ 0 Y)[o]? = some (kad K o, .inl (kcy K 0, n, .inl (rI σ o))) := wd_at hY
  exact va_iald C.c.x C.c.b C.k hP.1 o 0 he rfl (inb_in hi) hd (kk H locs ls hP hL)
theorem g_zald (C : Cx K Y cc own nL d ret) {o n : Nat} {z : List (Nat × Nat)} {i : Int32} (hd : decode cc pc = .ok (.baload, 1)) (hY : Y[o]? = some (3, n, z)) (hi : inb i n = true)
    (kk : G K (pc + 1) L (.int (rI σ o i.toNatClampNeg) :: st) (Wd K Y σ)) : G K pc L (.int i :: .ref (kad K o) :: st) (Wd K Y σ) := fun H locs ls hP hL => by
  have he : (wd (kcy K) (kad K) σ 0 Y)[o]? = some (kad K o, .inl (kcy K 2, n, .inl (rI σ o))) := wd_at hY
  exact va_zald C.c.x C.c.b C.k hP.1 o 2 he rfl (inb_in hi) hd (kk H locs ls hP hL)
theorem g_lald (C : Cx K Y cc own nL d ret) {o n : Nat} {z : List (Nat × Nat)} {i : Int32} (hd : decode cc pc = .ok (.laload, 1)) (hY : Y[o]? = some (2, n, z)) (hi : inb i n = true)
    (kk : G K (pc + 1) L (.long (rJ σ o i.toNatClampNeg) :: st) (Wd K Y σ)) : G K pc L (.int i :: .ref (kad K o) :: st) (Wd K Y σ) := fun H locs ls hP hL => by
  have he : (wd (kcy K) (kad K) σ 0 Y)[o]? = some (kad K o, .inl (kcy K 1, n, .inr (.inl (rJ σ o)))) := wd_at hY
  exact va_lald C.c.x C.c.b C.k hP.1 o 1 he rfl (inb_in hi) hd (kk H locs ls hP hL)
theorem g_aald4 (C : Cx K Y cc own nL d ret) {o n b : Nat} {z : List (Nat × Nat)} {i : Int32} (hd : decode cc pc = .ok (.aaload, 1)) (hY : Y[o]? = some (4, n, z)) (hi : inb i n = true) (hb : (z.headD (0, 0)).1 = b)
    (kk : G K (pc + 1) L (.ref (kad K (b + i.toNatClampNeg)) :: st) (Wd K Y σ)) : G K pc L (.int i :: .ref (kad K o) :: st) (Wd K Y σ) := fun H locs ls hP hL => by
  subst hb
  have he : (wd (kcy K) (kad K) σ 0 Y)[o]? = some (kad K o, .inl (kcy K 3, n, .inr (.inr (.inr (.inr (fun j => some (kad K ((z.headD (0, 0)).1 + j)))))))) := wd_at hY
  exact va_aldq C.c.x C.c.b C.k hP.1 o 3 he rfl (inb_in hi) hd (kk H locs ls hP hL)
theorem g_aald5 (C : Cx K Y cc own nL d ret) {o n b : Nat} {z : List (Nat × Nat)} {i : Int32} (hd : decode cc pc = .ok (.aaload, 1)) (hY : Y[o]? = some (5, n, z)) (hi : inb i n = true) (hb : (z.headD (0, 0)).1 = b)
    (kk : G K (pc + 1) L (.ref (kad K (b + i.toNatClampNeg)) :: st) (Wd K Y σ)) : G K pc L (.int i :: .ref (kad K o) :: st) (Wd K Y σ) := fun H locs ls hP hL => by
  subst hb
  have ha : (wd (kcy K) (kad K) σ 0 Y)[o]? = some (kad K o, .inl (kcy K 4, n, .inr (.inr (.inr (.inr (fun j => some (kad K ((z.headD (0, 0)).1 + j)))))))) := wd_at hY
  have hin := inb_in hi
  have hlt : i.toNatClampNeg < n := inb_lt hi
  have ht : (tysOf (kcy K))[4]? = some (kcy K 4, FieldType.array .int) := rfl
  exact W.aald (v := va_rf (some (kad K ((z.headD (0, 0)).1 + i.toNatClampNeg)))) (ty := .array .int) C.c.x C.c.b (hP.1 o _ ha) ((C.k.2 4 _ ht).1 n (fun j => va_rf (some (kad K ((z.headD (0, 0)).1 + j))))) rfl (fun q => by cases q) (by show ¬ (i < 0 ∨ (arrV _ _ _).slots.size ≤ _); rw [arrV_size]; exact hin) (by show (arrV _ _ _).slots[_]? = _; rw [arrV_read _ _ hlt]) rfl rfl hd (kk H locs ls hP hL)
theorem rI_upd {σ : Sg} {o k : Nat} {v : Int32} : rI (wI σ o k v) o = upd (rI σ o) k v := by
  funext j
  by_cases h : j = k
  · subst h; simp [rI, wI, upd]
  · simp [rI, wI, upd, h]
theorem rJ_upd {σ : Sg} {o k : Nat} {v : Int64} : rJ (wJ σ o k v) o = vp_updL (rJ σ o) k v := by
  funext j
  by_cases h : j = k
  · subst h; simp [rJ, wJ, vp_updL]
  · simp [rJ, wJ, vp_updL, h]
theorem wd_put {cys : Nat → ClassId} {ad : Nat → Nat} {σ σ' : Sg} {e : va_E} {o : Nat} {sh : Sh} (hY : Y[o]? = some sh) (h1 : ∀ q sh, q ≠ o → ent cys ad σ' q sh = ent cys ad σ q sh) (h2 : ent cys ad σ' o sh = e) : (wd cys ad σ 0 Y).set o (ad o, e) = wd cys ad σ' 0 Y := by
  have := wd_set (cys := cys) (ad := ad) (σ := σ) (σ' := σ') (e := e) Y 0 o _ hY (fun q t hq => h1 q t (by omega)) (by rw [Nat.zero_add]; exact h2)
  rw [Nat.zero_add] at this
  exact this
theorem g_iast (C : Cx K Y cc own nL d ret) {o n : Nat} {z : List (Nat × Nat)} {i x : Int32} (hd : decode cc pc = .ok (.iastore, 1)) (hY : Y[o]? = some (1, n, z)) (hi : inb i n = true)
    (kk : G K (pc + 1) L st (Wd K Y (wI σ o i.toNatClampNeg x))) : G K pc L (.int x :: .int i :: .ref (kad K o) :: st) (Wd K Y σ) := fun H locs ls hP hL => by
  have he : (wd (kcy K) (kad K) σ 0 Y)[o]? = some (kad K o, .inl (kcy K 0, n, .inl (rI σ o))) := wd_at hY
  have hw := wd_put (cys := kcy K) (ad := kad K) (σ := σ) (σ' := wI σ o i.toNatClampNeg x) (e := .inl (kcy K 0, n, .inl (upd (rI σ o) i.toNatClampNeg x))) hY (fun q sh h => ent_wI q sh h) (by show Sum.inl (kcy K 0, n, Sum.inl (rI _ o)) = _; rw [rI_upd])
  exact va_iast C.c.x C.c.b C.k hP.1 (C.D σ) hP.2 o 0 he rfl (inb_in hi) hd (fun H1 locs1 q1 q2 q3 => kk H1 locs1 ls ⟨hw ▸ q1, q3⟩ hL)
theorem isB_v {x : Int32} (h : isB x = true) : vp_nar .boolean x = x := by
  unfold isB at h
  rw [Bool.or_eq_true, decide_eq_true_eq, decide_eq_true_eq] at h
  rcases h with rfl | rfl <;> rfl
theorem g_zast (C : Cx K Y cc own nL d ret) {o n : Nat} {z : List (Nat × Nat)} {i x : Int32} (hd : decode cc pc = .ok (.bastore, 1)) (hY : Y[o]? = some (3, n, z)) (hi : inb i n = true) (hx : isB x = true)
    (kk : G K (pc + 1) L st (Wd K Y (wI σ o i.toNatClampNeg x))) : G K pc L (.int x :: .int i :: .ref (kad K o) :: st) (Wd K Y σ) := fun H locs ls hP hL => by
  have he : (wd (kcy K) (kad K) σ 0 Y)[o]? = some (kad K o, .inl (kcy K 2, n, .inl (rI σ o))) := wd_at hY
  have hw := wd_put (cys := kcy K) (ad := kad K) (σ := σ) (σ' := wI σ o i.toNatClampNeg x) (e := .inl (kcy K 2, n, .inl (upd (rI σ o) i.toNatClampNeg (vp_nar .boolean x)))) hY (fun q sh h => ent_wI q sh h) (by show Sum.inl (kcy K 2, n, Sum.inl (rI _ o)) = _; rw [rI_upd, isB_v hx])
  exact va_zast C.c.x C.c.b C.k hP.1 (C.D σ) hP.2 o 2 he rfl (inb_in hi) hd (fun H1 locs1 q1 q2 q3 => kk H1 locs1 ls ⟨hw ▸ q1, q3⟩ hL)
theorem g_last (C : Cx K Y cc own nL d ret) {o n : Nat} {z : List (Nat × Nat)} {i : Int32} {x : Int64} (hd : decode cc pc = .ok (.lastore, 1)) (hY : Y[o]? = some (2, n, z)) (hi : inb i n = true)
    (kk : G K (pc + 1) L st (Wd K Y (wJ σ o i.toNatClampNeg x))) : G K pc L (.long x :: .int i :: .ref (kad K o) :: st) (Wd K Y σ) := fun H locs ls hP hL => by
  have he : (wd (kcy K) (kad K) σ 0 Y)[o]? = some (kad K o, .inl (kcy K 1, n, .inr (.inl (rJ σ o)))) := wd_at hY
  have hw := wd_put (cys := kcy K) (ad := kad K) (σ := σ) (σ' := wJ σ o i.toNatClampNeg x) (e := .inl (kcy K 1, n, .inr (.inl (vp_updL (rJ σ o) i.toNatClampNeg x)))) hY (fun q sh h => ent_wJ q sh h) (by show Sum.inl (kcy K 1, n, Sum.inr (Sum.inl (rJ _ o))) = _; rw [rJ_upd])
  exact va_last C.c.x C.c.b C.k hP.1 (C.D σ) hP.2 o 1 he rfl (inb_in hi) hd (fun H1 locs1 q1 q2 q3 => kk H1 locs1 ls ⟨hw ▸ q1, q3⟩ hL)
theorem g_alen1 (C : Cx K Y cc own nL d ret) {o n : Nat} {z : List (Nat × Nat)} {v : Int32} (hd : decode cc pc = .ok (.arraylength, 1)) (hY : Y[o]? = some (1, n, z)) (hv : Int32.ofNat n = v)
    (kk : G K (pc + 1) L (.int v :: st) (Wd K Y σ)) : G K pc L (.ref (kad K o) :: st) (Wd K Y σ) := fun H locs ls hP hL => by
  have he : (wd (kcy K) (kad K) σ 0 Y)[o]? = some (kad K o, .inl (kcy K 0, n, .inl (rI σ o))) := wd_at hY
  exact va_alen C.c.x C.c.b C.k hP.1 o 0 he rfl hv hd (kk H locs ls hP hL)
theorem g_alen4 (C : Cx K Y cc own nL d ret) {o n : Nat} {z : List (Nat × Nat)} {v : Int32} (hd : decode cc pc = .ok (.arraylength, 1)) (hY : Y[o]? = some (4, n, z)) (hv : Int32.ofNat n = v)
    (kk : G K (pc + 1) L (.int v :: st) (Wd K Y σ)) : G K pc L (.ref (kad K o) :: st) (Wd K Y σ) := fun H locs ls hP hL => by
  have he : (wd (kcy K) (kad K) σ 0 Y)[o]? = some (kad K o, .inl (kcy K 3, n, .inr (.inr (.inr (.inr (fun j => some (kad K ((z.headD (0, 0)).1 + j)))))))) := wd_at hY
  exact va_alen C.c.x C.c.b C.k hP.1 o 3 he rfl hv hd (kk H locs ls hP hL)
/-- a copy of so many numbers is within both rows -/
def cpB (sp dp n : Int32) (n0 n1 : Nat) : Bool := decide (¬ sp < 0) && (decide (¬ dp < 0) && (decide (¬ n < 0) && (decide (sp.toNatClampNeg + n.toNatClampNeg ≤ n0) && decide (dp.toNatClampNeg + n.toNatClampNeg ≤ n1))))
theorem ent_cp {cys : Nat → ClassId} {ad : Nat → Nat} {σ : Sg} {a0 a1 sp dp n n1 : Nat} {z : List (Nat × Nat)} : ent cys ad (wC σ a0 sp a1 dp n) a1 (1, n1, z) = .inl (cys 0, n1, .inl (va_cpy (rI σ a0) (rI σ a1) sp dp n)) := by
  show Sum.inl (cys 0, n1, Sum.inl (rI (wC σ a0 sp a1 dp n) a1)) = _
  congr 4
  funext j
  by_cases h : dp ≤ j ∧ j < dp + n
  · simp [rI, wC, va_cpy, h]
  · simp [rI, wC, va_cpy, h]
theorem g_copy (C : Cx K Y cc own nL d ret) {index o0 o1 n0 n1 : Nat} {z0 z1 : List (Nat × Nat)} {sp dp n : Int32} (hd : decode cc pc = .ok (.invokestatic index, 3)) (hw1 : Cond.methodLink own index arraycopyName ∈ AL) (hw2 : Cond.native arraycopyName ∈ AL) (hw3 : Cond.static arraycopyName ∈ AL) (hw4 : Cond.initialized "java/lang/System" ∈ AL)
    (hLn : L.length = nL) (hr : (st.map fun v => v.category).sum ≤ 8) (hd1 : 1 ≤ d) (hY0 : Y[o0]? = some (1, n0, z0)) (hY1 : Y[o1]? = some (1, n1, z1)) (h : cpB sp dp n n0 n1 = true)
    (kk : G K (pc + 3) L st (Wd K Y (wC σ o0 sp.toNatClampNeg o1 dp.toNatClampNeg n.toNatClampNeg))) : G K pc L (.int n :: .int dp :: .ref (kad K o1) :: .int sp :: .ref (kad K o0) :: st) (Wd K Y σ) := fun H locs ls hP hL => by
  have he0 : (wd (kcy K) (kad K) σ 0 Y)[o0]? = some (kad K o0, .inl (kcy K 0, n0, .inl (rI σ o0))) := wd_at hY0
  have he1 : (wd (kcy K) (kad K) σ 0 Y)[o1]? = some (kad K o1, .inl (kcy K 0, n1, .inl (rI σ o1))) := wd_at hY1
  unfold cpB at h
  simp only [Bool.and_eq_true, decide_eq_true_eq] at h
  have hw := wd_put (cys := kcy K) (ad := kad K) (σ := σ) (σ' := wC σ o0 sp.toNatClampNeg o1 dp.toNatClampNeg n.toNatClampNeg) hY1 (fun q sh h => ent_wC q sh h) ent_cp
  have hf := C.c.2.2.2.2.2.2.1
  have hlo := C.c.2.2.2.2.2.2.2
  have hnf : nativeFrameWords "java/lang/System" "arraycopy" 5 + 11 ≤ 32 := by decide +kernel
  exact va_copyi C.c.x C.c.b (C.c.2.2.1.trans (hLn.symm.trans hL.1.symm)) C.c.o (C.c.t hw1) (C.c.t hw2) (C.c.t hw3) (C.c.t hw4) C.k hP.1 (C.D σ) hP.2 o0 o1 0 0 he0 he1 rfl rfl rfl h.1 h.2.1 h.2.2.1 h.2.2.2.1 h.2.2.2.2 (fun _ _ => rfl) (by omega) (by omega) hd (fun H1 locs1 q1 q2 q3 => kk H1 locs1 ls ⟨hw ▸ q1, q3⟩ hL)
theorem g_stat (C : Cx K Y cc own nL d ret) {index : Nat} {n : String} {l : List Int32} (hd : decode cc pc = .ok (.getstatic index, 3)) (hw : Cond.fieldLink own index "IceForCoast$Coins" n "[I" ∈ AL) (hE : ∃ t, va_Z "IceForCoast$Coins" n "[I" (.ref t) (kA K) (ks K) (ks K).heap ∧ va_T .int t 3 (fun j => .int (stL l j)) (kA K) (ks K) (ks K).heap)
    (kk : ∀ t, va_T .int t 3 (fun j => .int (stL l j)) (kA K) (ks K) (ks K).heap → G K (pc + 3) L (.ref t :: st) (Wd K Y σ)) : G K pc L st (Wd K Y σ) := fun H locs ls hP hL => by
  obtain ⟨t, hZ, hT⟩ := hE
  exact va_gets C.c.x C.c.b hZ hP.2 C.c.o (C.c.t hw) (fun _ h => h) hd (kk t hT H locs ls hP hL)
theorem g_tld (C : Cx K Y cc own nL d ret) {t : Nat} {l : List Int32} {i : Int32} (hT : va_T .int t 3 (fun j => .int (stL l j)) (kA K) (ks K) (ks K).heap) (hd : decode cc pc = .ok (.iaload, 1)) (hi : inb i 3 = true)
    (kk : G K (pc + 1) L (.int (stL l i.toNatClampNeg) :: st) (Wd K Y σ)) : G K pc L (.int i :: .ref t :: st) (Wd K Y σ) := fun H locs ls hP hL =>
  va_ti C.c.x C.c.b hT hP.2 (inb_in hi) rfl hd (kk H locs ls hP hL)
end GH
section GM
variable {K : KT} {cc : ByteArray} {own : String} {nL d : Nat} {pc : Nat} {L : List (Option Value)} {st : List Value} {P : Heap → List Loc → Prop}
def imax (x y : Int32) : Int32 := if x < y then y else x
def imin (x y : Int32) : Int32 := if y < x then y else x
def lmax (x y : Int64) : Int64 := if y < x then x else y
theorem g_max (C : Cb K cc own nL d) {index : Nat} {x y : Int32} (hd : decode cc pc = .ok (.invokestatic index, 3)) (hw1 : Cond.methodLink own index Lib.Math.max.name ∈ AL) (hw2 : Cond.static Lib.Math.max.name ∈ AL) (hw3 : Cond.initialized "java/lang/Math" ∈ AL) (hw4 : Cond.code Lib.Math.max.name Lib.Math.max.code 2 (some .int) ∈ AL) (hLn : L.length = nL) (hr : (st.map fun v => v.category).sum ≤ 8) (hd1 : 1 ≤ d)
    (k : G K (pc + 3) L (.int (imax x y) :: st) P) : G K pc L (.int y :: .int x :: st) P := fun H locs ls hP hL => by
  have hf := C.2.2.2.2.2.2.1
  have hlo := C.2.2.2.2.2.2.2
  exact va_mmax C.x C.b (C.2.2.1.trans (hLn.symm.trans hL.1.symm)) C.o (C.t hw1) (C.t hw2) (C.t hw3) (C.t hw4) (by omega) (by omega) (Nat.zero_le _) (Nat.zero_le _) hd (k H locs ls hP hL)
theorem g_min (C : Cb K cc own nL d) {index : Nat} {x y : Int32} (hd : decode cc pc = .ok (.invokestatic index, 3)) (hw1 : Cond.methodLink own index Lib.Math.min.name ∈ AL) (hw2 : Cond.static Lib.Math.min.name ∈ AL) (hw3 : Cond.initialized "java/lang/Math" ∈ AL) (hw4 : Cond.code Lib.Math.min.name Lib.Math.min.code 2 (some .int) ∈ AL) (hLn : L.length = nL) (hr : (st.map fun v => v.category).sum ≤ 8) (hd1 : 1 ≤ d)
    (k : G K (pc + 3) L (.int (imin x y) :: st) P) : G K pc L (.int y :: .int x :: st) P := fun H locs ls hP hL => by
  have hf := C.2.2.2.2.2.2.1
  have hlo := C.2.2.2.2.2.2.2
  exact va_mmin C.x C.b (C.2.2.1.trans (hLn.symm.trans hL.1.symm)) C.o (C.t hw1) (C.t hw2) (C.t hw3) (C.t hw4) (by omega) (by omega) (Nat.zero_le _) (Nat.zero_le _) hd (k H locs ls hP hL)
theorem g_lmax (C : Cb K cc own nL d) {index : Nat} {x y : Int64} (hd : decode cc pc = .ok (.invokestatic index, 3)) (hw1 : Cond.methodLink own index Lib.MathLoose.max_long.x ∈ AL) (hw2 : Cond.static Lib.MathLoose.max_long.x ∈ AL) (hw3 : Cond.initialized "java/lang/Math" ∈ AL) (hw4 : Cond.code Lib.MathLoose.max_long.x Lib.MathLoose.max_long.code 4 (some .long) ∈ AL) (hLn : L.length = nL) (hr : (st.map fun v => v.category).sum ≤ 8) (hd1 : 1 ≤ d)
    (k : G K (pc + 3) L (.long (lmax x y) :: st) P) : G K pc L (.long y :: .long x :: st) P := fun H locs ls hP hL => by
  have hf := C.2.2.2.2.2.2.1
  have hlo := C.2.2.2.2.2.2.2
  exact va_mmax_long C.x C.b (C.2.2.1.trans (hLn.symm.trans hL.1.symm)) C.o (C.t hw1) (C.t hw2) (C.t hw3) (C.t hw4) (by omega) (by omega) (Nat.zero_le _) (Nat.zero_le _) hd (k H locs ls hP hL)
def iabs (x : Int32) : Int32 := if 0 ≤ x then x else 0 - x
theorem g_abs (C : Cb K cc own nL d) {index : Nat} {x : Int32} (hd : decode cc pc = .ok (.invokestatic index, 3)) (hw1 : Cond.methodLink own index Lib.Math.abs.name ∈ AL) (hw2 : Cond.static Lib.Math.abs.name ∈ AL) (hw3 : Cond.initialized "java/lang/Math" ∈ AL) (hw4 : Cond.code Lib.Math.abs.name Lib.Math.abs.code 1 (some .int) ∈ AL) (hLn : L.length = nL) (hr : (st.map fun v => v.category).sum ≤ 8) (hd1 : 1 ≤ d)
    (k : G K (pc + 3) L (.int (iabs x) :: st) P) : G K pc L (.int x :: st) P := fun H locs ls hP hL => by
  have hf := C.2.2.2.2.2.2.1
  have hlo := C.2.2.2.2.2.2.2
  exact va_mabs C.x C.b (C.2.2.1.trans (hLn.symm.trans hL.1.symm)) C.o (C.t hw1) (C.t hw2) (C.t hw3) (C.t hw4) (by omega) (by omega) (Nat.zero_le _) (Nat.zero_le _) hd (k H locs ls hP hL)
end GM
/-! ===== contracts, calls, returns ===== -/
abbrev Ok : Type := Option Value → Sg → Prop
def QX (D : va_G) (cys : Nat → ClassId) (ad : Nat → Nat) (Y : List Sh) (A : Nat → Prop) (ok : Ok) : Array Value → State → Outcome → State → Prop := fun _ st oc t =>
  ∃ (v : Option Value) (σ' : Sg), oc = .returned v ∧ ok v σ' ∧ va_P D vwCl (wd cys ad σ' 0 Y) t.heap ∧ va_F A st t
def Bx (D : va_G) (cys : Nat → ClassId) (ad : Nat → Nat) (Y : List Sh) (σ : Sg) (U : State) : Prop :=
  va_P D vwCl (wd cys ad σ 0 Y) U.heap ∧ va_K D vwCl (tysOf cys) U ∧ (∀ i j, i < Y.length → j < Y.length → ad i = ad j → i = j)
def rmd (d : Nat) : Room := { frames := d, cells := 0, slots := 0, locals := 40 * d }
/-- a method's contract: from the world σ, with these arguments, it comes to an end that ok allows -/
def Ct (Y : List Sh) (y : MethodName) (cc : ByteArray) (nL : Nat) (ret : Option FieldType) (d : Nat) (vals : (Nat → Nat) → List Value) (σ : Sg) (ok : Ok) : Prop :=
  ∀ (l : Launch) (D : va_G) (cys : Nat → ClassId) (ad : Nat → Nat) (sz : Nat), Met l y (.code y cc nL ret :: AL) (rmd d) (va_Pc (vals ad) (fun U => U.heap.size = sz ∧ Bx D cys ad Y σ U ∧ Ev (Aof ad Y.length sz) U)) (QX D cys ad Y (Aof ad Y.length sz) ok) 0 0 (Aof ad Y.length sz)
def Rk (K : KT) (Y : List Sh) (ok : Ok) : Prop := kQ K = MQ (kb K) (QX (kD K) (kcy K) (kad K) Y (kA K) ok) (ka K) (ks K) 0 0 (kA K)
/-- the locals with which a method begins -/
def lsl : List Value → List (Option Value)
  | [] => []
  | .long x :: t => some (.long x) :: none :: lsl t
  | .double x :: t => some (.double x) :: none :: lsl t
  | v :: t => some v :: lsl t
def pad (L : List (Option Value)) (n : Nat) : List (Option Value) := L ++ List.replicate (n - L.length) none
theorem lsl_args : ∀ (vs : List Value) (k i : Nat) (v : Value), (lsl vs)[i]? = some (some v) → (k + i, v) ∈ lv_args k vs
  | [], k, i, v, h => by simp [lsl] at h
  | a :: t, k, i, v, h => by
    have one : ∀ (x : Value), lsl (x :: t) = some x :: lsl t → x.category = 1 → (lsl (x :: t))[i]? = some (some v) → (k + i, v) ∈ lv_args k (x :: t) := by
      intro x e hc h
      rw [e] at h
      unfold lv_args
      rw [if_neg (by omega)]
      cases i with
      | zero => simp at h; subst h; exact List.mem_cons_self
      | succ i =>
        rw [List.getElem?_cons_succ] at h
        have := lsl_args t (k + 1) i v h
        rw [show k + 1 + i = k + (i + 1) by omega] at this
        exact List.mem_cons_of_mem _ this
    have two : ∀ (x : Value), lsl (x :: t) = some x :: none :: lsl t → x.category = 2 → (lsl (x :: t))[i]? = some (some v) → (k + i, v) ∈ lv_args k (x :: t) := by
      intro x e hc h
      rw [e] at h
      unfold lv_args
      rw [if_pos hc]
      cases i with
      | zero => simp at h; subst h; exact List.mem_cons_self
      | succ i =>
        cases i with
        | zero => simp at h
        | succ i =>
          rw [List.getElem?_cons_succ, List.getElem?_cons_succ] at h
          have := lsl_args t (k + 2) i v h
          rw [show k + 2 + i = k + (i + 1 + 1) by omega] at this
          exact List.mem_cons_of_mem _ this
    cases a with
    | long x => exact two _ rfl rfl h
    | double x => exact two _ rfl rfl h
    | _ => exact one _ rfl rfl h
theorem lsl_sl : ∀ (vs : List Value), (lg_sl vs).length = (lsl vs).length
  | [] => rfl
  | a :: t => by
    have ih := lsl_sl t
    unfold lg_sl at ih ⊢
    rw [List.flatMap_cons, List.length_append, ih]
    cases a <;> simp [lsl, Value.category] <;> omega
theorem lx_entry (vs : List Value) {n : Nat} (h : (lsl vs).length ≤ n) : LX ((lg_sl vs ++ List.replicate (n - (lg_sl vs).length) Slot.unset).toArray) (pad (lsl vs) n) := by
  have hl := lv_entry vs (n := n) (by rw [lsl_sl]; exact h)
  refine ⟨?_, hl.2.1, fun i v hi => ?_⟩
  · rw [hl.1]
    simp [pad]
    omega
  · unfold pad at hi
    by_cases hlt : i < (lsl vs).length
    · rw [List.getElem?_append_left hlt] at hi
      have := lsl_args vs 0 i v hi
      rw [Nat.zero_add] at this
      exact hl.2.2 _ this
    · rw [List.getElem?_append_right (by omega)] at hi
      have := List.eq_of_mem_replicate (List.mem_of_getElem? hi)
      cases this
theorem ct_of {Y : List Sh} {y : MethodName} {cc : ByteArray} {nL d : Nat} {ret : Option FieldType} {vals : (Nat → Nat) → List Value} {σ : Sg} {ok : Ok} {L0 : (Nat → Nat) → List (Option Value)} (hy : plainName y.cls = true) (hn : ∀ ad, (lsl (vals ad)).length ≤ nL) (hL : ∀ ad, pad (lsl (vals ad)) nL = L0 ad)
    (body : ∀ K, Cx K Y cc y.cls nL d ret → Rk K Y ok → G K 0 (L0 (kad K)) [] (Wd K Y σ)) : Ct Y y cc nL ret d vals σ ok := by
  intro l D cys ad sz
  refine Met.ofW (cc := cc) (maxL := nL) (ret := ret) hy rfl ?_
  intro p e s m args below meth c s₁ B hml hv
  obtain ⟨rfl, hsz, ⟨hP, hK, hi⟩, hE⟩ := hv
  subst hsz
  have hts := atoms_spec (ws := .code y cc nL ret :: AL) B.pre
  have hown : s.vm.findClass y.cls = some m.cls := findClass_of_methodNamed B.named
  let K : KT := (p, l, e, rmd d, s, m, (vals ad).toArray, below, meth, c, D, cys, ad, Aof ad Y.length s.heap.size, MQ below (QX D cys ad Y (Aof ad Y.length s.heap.size) ok) (vals ad).toArray s 0 0 (Aof ad Y.length s.heap.size))
  have C : Cx K Y cc y.cls nL d ret := ⟨⟨B.exec, B.bytes, hml, hown, fun w hw => hts w (List.mem_cons_of_mem _ hw), B.notSynchronized, Nat.le_refl _, Nat.le_refl _⟩, B.returns, hK, hi, rfl, hE⟩
  have hG := body K C rfl
  rw [lg_entry_eq]
  have := hG s.heap [] _ ⟨hP, va_S.rf⟩ (hL ad ▸ lx_entry (vals ad) (hn ad))
  exact this
section GRet
variable {K : KT} {Y : List Sh} {cc : ByteArray} {own : String} {nL d : Nat} {ret : Option FieldType} {pc : Nat} {L : List (Option Value)} {σ : Sg} {ok : Ok}
theorem g_q (C : Cx K Y cc own nL d ret) {v : Option Value} {H : Heap} {locs : List Loc} (ho : ok v σ) (hP : Wd K Y σ H locs) (t : State) (ht : t.heap = H) : QX (kD K) (kcy K) (kad K) Y (kA K) ok (ka K) (ks K) (.returned v) t :=
  ⟨v, σ, rfl, ho, by rw [ht]; exact hP.1, hP.2.F ht⟩
theorem g_iret {ty : FieldType} (C : Cx K Y cc own nL d (some ty)) (hQ : Rk K Y ok) {v : Int32} (hd : decode cc pc = .ok (.ireturn, 1)) (hn : narrow ty (.int v) = .int v) (ho : ok (some (.int v)) σ) : G K pc L [.int v] (Wd K Y σ) := fun H locs ls hP hL => by
  show W _ _ _ _ _ _ _ _ _ _ _ _ _ _ (kQ K) _
  rw [hQ]
  exact W.zret C.c.x C.c.b C.r hn (fun t ht _ => g_q C ho hP t ht) hP.2.2.2 hd C.c.2.2.2.2.2.1
theorem g_lret (C : Cx K Y cc own nL d (some .long)) (hQ : Rk K Y ok) {v : Int64} (hd : decode cc pc = .ok (.lreturn, 1)) (ho : ok (some (.long v)) σ) : G K pc L [.long v] (Wd K Y σ) := fun H locs ls hP hL => by
  show W _ _ _ _ _ _ _ _ _ _ _ _ _ _ (kQ K) _
  rw [hQ]
  exact W.lret C.c.x C.c.b C.r (fun t ht _ => g_q C ho hP t ht) hP.2.2.2 hd C.c.2.2.2.2.2.1
theorem g_vret (C : Cx K Y cc own nL d none) (hQ : Rk K Y ok) (hd : decode cc pc = .ok (.return_, 1)) (ho : ok none σ) : G K pc L [] (Wd K Y σ) := fun H locs ls hP hL => by
  show W _ _ _ _ _ _ _ _ _ _ _ _ _ _ (kQ K) _
  rw [hQ]
  exact W.vret C.c.x C.c.b C.r (fun t ht _ => g_q C ho hP t ht) hP.2.2.2 hd C.c.2.2.2.2.2.1
end GRet
theorem Ev.moved {A B : Nat → Prop} {s U : State} (hW : s.WarmedH U.vm) (hk : ∀ a : Nat, a < s.heap.size → ¬ A a → U.heap[a]? = s.heap[a]?) (hAB : ∀ q, B q → A q) (h : Ev A s) : Ev B U := by
  obtain ⟨h1, ⟨t, h2, h3⟩, ⟨t', h4, h5⟩⟩ := h
  refine ⟨fun w hw => ?_, ⟨t, ((h2.kept hk).moved hW.alike).narrow hAB, ((h3.kept hk).moved hW.alike).narrow hAB⟩, ⟨t', ((h4.kept hk).moved hW.alike).narrow hAB, ((h5.kept hk).moved hW.alike).narrow hAB⟩⟩
  have hn := (List.mem_filter.mp hw).2
  have hz := h1 w hw
  cases w with
  | fieldLinkNest a i b n d h => exact va_Nw.warmF hW hz
  | methodLinkNest a i x h => exact va_Nw.warmM hW hz
  | _ => cases hn
theorem Ev.frame {A : Nat → Prop} {U : State} {g : JFrame} {mk : MethodId} {a : Array Value} (h : Ev A U) : Ev A (U.calling g mk a) := by
  obtain ⟨h1, ⟨t, h2, h3⟩, ⟨t', h4, h5⟩⟩ := h
  have al : U.vm.Alike (U.calling g mk a).vm := Vm.Alike.refl U.vm
  refine ⟨fun w hw => ?_, ⟨t, h2.moved al, h3.moved al⟩, ⟨t', h4.moved al, h5.moved al⟩⟩
  have hn := (List.mem_filter.mp hw).2
  have hz := h1 w hw
  cases w with
  | fieldLinkNest a i b n d h => exact va_Nw.same rfl rfl hz
  | methodLinkNest a i x h => exact va_Nw.same rfl rfl hz
  | _ => cases hn
theorem ct_blind {Y : List Sh} {vals : (Nat → Nat) → List Value} {σ : Sg} {D : va_G} {cys : Nat → ClassId} {ad : Nat → Nat} {sz : Nat} : FrameBlind (va_Pc (vals ad) (fun U => U.heap.size = sz ∧ Bx D cys ad Y σ U ∧ Ev (Aof ad Y.length sz) U)) :=
  fun a U g mk q => ⟨q.1, q.2.1, ⟨q.2.2.1.1, va_K.moved (u := U) (U := U.calling g mk a) (Vm.Alike.refl U.vm) q.2.2.1.2.1, q.2.2.1.2.2⟩, q.2.2.2.frame⟩

section GCall
variable {K : KT} {Y : List Sh} {cc : ByteArray} {own : String} {nL d : Nat} {ret : Option FieldType} {pc : Nat} {L : List (Option Value)} {st : List Value} {σ : Sg}
/-- what holds of the callee's start -/
theorem ct_pre (C : Cx K Y cc own nL d ret) {vals : (Nat → Nat) → List Value} {H : Heap} {locs : List Loc} (hP : Wd K Y σ H locs) (U : State) (hU : U.heap = H) (hW : (ks K).WarmedH U.vm) : (va_Pc (vals (kad K)) (fun U => U.heap.size = H.size ∧ Bx (kD K) (kcy K) (kad K) Y σ U ∧ Ev (Aof (kad K) Y.length H.size) U)) (vals (kad K)).toArray U := by
  refine ⟨rfl, by rw [hU], ⟨by rw [hU]; exact hP.1, va_K.moved hW.alike C.k, C.i⟩, C.e.moved hW (fun a h1 h2 => by rw [hU]; exact hP.2.2.1 a h1 h2) (fun q h => ?_)⟩
  rw [C.a]
  rcases h with h | h
  · exact Or.inl h
  · exact Or.inr (Nat.le_trans hP.2.1 h)
/-- behind a call -/
theorem ct_go (C : Cx K Y cc own nL d ret) {H : Heap} {locs : List Loc} {ls : Array Slot} {st rest : List Value} {a : Array Value} {ok : Ok} (hP : Wd K Y σ H locs) (hL : LX ls L)
    (hr : va_Run (kp K) (kl K) (ke K) (kR K) (ks K) (km K) (ka K) (kb K) (kmeth K) (kc K) H locs 0 0 0 0 (F0 (km K) pc ls st) rest (QX (kD K) (kcy K) (kad K) Y (Aof (kad K) Y.length H.size) ok a) (Aof (kad K) Y.length H.size))
    (kk : ∀ v σ', ok v σ' → G K (pc + 3) L (v.toList ++ rest) (Wd K Y σ')) : Wk K H locs (F0 (km K) pc ls st) := by
  have hsub : ∀ q, Aof (kad K) Y.length H.size q → kA K q := fun q h => by
    rw [C.a]
    rcases h with h | h
    · exact Or.inl h
    · exact Or.inr (Nat.le_trans hP.2.1 h)
  intro T hT X
  obtain ⟨v, st₀, t, T', L2, h0, X', hL2, e1, e2, ⟨v', σ', hv, hok, hw, hz, hk⟩, stp⟩ := hr T hT X
  cases hv
  rw [h0] at hz hk
  have hS : va_S (kA K) (ks K).heap T'.heap (locs ++ L2) := ⟨Nat.le_trans hP.2.1 (by rw [e1]; exact hz), fun q h1 h2 => by rw [e1, hk q (Nat.lt_of_lt_of_le h1 hP.2.1) (fun z => h2 (hsub q z))]; exact hP.2.2.1 q h1 h2, fun q hq => by
      rcases List.mem_append.mp hq with h | h
      · exact hP.2.2.2 q h
      · exact hsub _ (hL2 q h)⟩
  obtain ⟨t2, a1, b1⟩ := kk v σ' hok T'.heap (locs ++ L2) ls ⟨by rw [e1]; exact hw, hS⟩ hL T' rfl X'
  exact ⟨t2, stp t2 a1, b1⟩
/-- what a callee asks of the tables, and its room -/
def Cw (y : MethodName) (cc : ByteArray) (nL : Nat) (ret : Option FieldType) (n : Nat) : Prop := (Cond.code y cc nL ret ∈ AL) ∧ (Cond.initialized y.cls ∈ AL) ∧ (y.cls ≠ "java/lang/invoke/MethodHandle" ∧ y.cls ≠ "java/lang/invoke/VarHandle") ∧ (parseMethodDescriptor y.desc).map (fun d => d.parameters.length) = some n ∧ nL ≤ 21
theorem ct_in {y : MethodName} {cc : ByteArray} {nL : Nat} {ret : Option FieldType} (h : Cond.code y cc nL ret ∈ AL) : GoodIn AL (.code y cc nL ret :: AL) := fun w hw => by
  rcases List.mem_cons.mp hw with rfl | hw
  · exact AL_good h
  · exact AL_good hw
theorem g_callV (C : Cx K Y cc own nL d ret) {index ci o n d' nL' N : Nat} {y : MethodName} {cc' : ByteArray} {ret' : Option FieldType} {vals : (Nat → Nat) → List Value} {ok : Ok} {As rest : List Value} {T : u_T} {sl : List (Nat × Nat)} (hd : decode cc pc = .ok (.invokevirtual index, 3)) (hM : Ct Y y cc' nL' ret' d' vals σ ok) (hw : Cw y cc' nL' ret' n) (hl : (Cond.methodLink own index y ∈ AL) ∨ ∃ host, Cond.methodLinkNest own index y host ∈ NW) (hi : Cond.instanceMethod y ∈ AL) (hse : Cond.selects y.cls y y ∈ AL)
    (hv : vals (kad K) = .ref (kad K o) :: As) (hst : st = As.reverse ++ .ref (kad K o) :: rest) (hn : As.length = n) (hdd : d' + 1 ≤ d) (hLn : L.length = nL) (hY : Y[o]? = some (0, ci, sl)) (hc : vwCl[ci]? = some (y.cls, T, N)) (hr : (rest.map fun v => v.category).sum ≤ 8)
    (kk : ∀ v σ', ok v σ' → G K (pc + 3) L (v.toList ++ rest) (Wd K Y σ')) : G K pc L st (Wd K Y σ) := fun H locs ls hP hL => by
  have he : (wd (kcy K) (kad K) σ 0 Y)[o]? = some (kad K o, .inr (ci, slv (kad K) σ o 0 sl)) := wd_at hY
  have hf := C.c.2.2.2.2.2.2.1
  have hlo := C.c.2.2.2.2.2.2.2
  have hR : (rmd d').frames + 1 ≤ (kR K).frames ∧ 8 + (nL' + 11) + (rmd d').locals ≤ (kR K).locals := ⟨by show d' + 1 ≤ _; omega, by have := hw.2.2.2.2; show 8 + (nL' + 11) + 40 * d' ≤ _; omega⟩
  have hM' := hM (kl K) (kD K) (kcy K) (kad K) H.size
  have hpre : PreV (ks K) H y.cls (kad K o) (va_Pc (vals (kad K)) (fun U => U.heap.size = H.size ∧ Bx (kD K) (kcy K) (kad K) Y σ U ∧ Ev (Aof (kad K) Y.length H.size) U)) As := ⟨ct_blind, va_recv C.k hP.1 hc he, fun U hU hW => by rw [← hv]; exact ct_pre C hP U hU hW⟩
  have hz : ls.size = nL := hL.1.trans hLn
  rcases hl with hl | ⟨host, hl⟩
  · have cb : CallB (kR K) (ks K) (ka K) own index y cc' nL' ret' (.code y cc' nL' ret' :: AL) (rmd d') 0 0 n := callB_of n C.c.2.2.2.2.1 (ct_in hw.1) rfl rfl rfl (C.c.t hw.2.1) (C.c.t hl) ⟨hw.2.2.1.1, hw.2.2.1.2, hw.2.2.2.1⟩ hR
    exact ct_go C hP hL (va_runV (As := As) (rest := rest) C.c.fix hM' ⟨cb, C.c.t hi, C.c.t hse⟩ hpre rfl hn hz hst (lv_room hr) hd ⟨Nat.zero_le _, Nat.zero_le _⟩) kk
  · have cb : va_CN (kR K) (ks K) (ka K) own index y host cc' nL' ret' (.code y cc' nL' ret' :: AL) (rmd d') 0 0 n := va_cnB n C.c.2.2.2.2.1 (ct_in hw.1) rfl rfl rfl (C.e.1 _ hl) (C.c.t hw.2.1) ⟨hw.2.2.1.1, hw.2.2.1.2, hw.2.2.2.1⟩ hR
    exact ct_go C hP hL (va_runVN (As := As) (rest := rest) C.c.fix hM' ⟨cb, C.c.t hi, C.c.t hse⟩ hpre rfl hn hz hst (lv_room hr) hd ⟨Nat.zero_le _, Nat.zero_le _⟩) kk
theorem g_callS (C : Cx K Y cc own nL d ret) {index n d' nL' : Nat} {y : MethodName} {cc' : ByteArray} {ret' : Option FieldType} {vals : (Nat → Nat) → List Value} {ok : Ok} {As rest : List Value} (hd : decode cc pc = .ok (.invokestatic index, 3)) (hM : Ct Y y cc' nL' ret' d' vals σ ok) (hw : Cw y cc' nL' ret' n) (hl : (Cond.methodLink own index y ∈ AL) ∨ ∃ host, Cond.methodLinkNest own index y host ∈ NW) (hi : Cond.static y ∈ AL)
    (hv : vals (kad K) = As) (hst : st = As.reverse ++ rest) (hn : As.length = n) (hdd : d' + 1 ≤ d) (hLn : L.length = nL) (hr : (rest.map fun v => v.category).sum ≤ 8)
    (kk : ∀ v σ', ok v σ' → G K (pc + 3) L (v.toList ++ rest) (Wd K Y σ')) : G K pc L st (Wd K Y σ) := fun H locs ls hP hL => by
  have hf := C.c.2.2.2.2.2.2.1
  have hlo := C.c.2.2.2.2.2.2.2
  have hR : (rmd d').frames + 1 ≤ (kR K).frames ∧ 8 + (nL' + 11) + (rmd d').locals ≤ (kR K).locals := ⟨by show d' + 1 ≤ _; omega, by have := hw.2.2.2.2; show 8 + (nL' + 11) + 40 * d' ≤ _; omega⟩
  have hM' := hM (kl K) (kD K) (kcy K) (kad K) H.size
  have hpre : PreS (ks K) H (va_Pc (vals (kad K)) (fun U => U.heap.size = H.size ∧ Bx (kD K) (kcy K) (kad K) Y σ U ∧ Ev (Aof (kad K) Y.length H.size) U)) As := ⟨ct_blind, fun U hU hW => by rw [← hv]; exact ct_pre C hP U hU hW⟩
  have hz : ls.size = nL := hL.1.trans hLn
  rcases hl with hl | ⟨host, hl⟩
  · have cb : CallB (kR K) (ks K) (ka K) own index y cc' nL' ret' (.code y cc' nL' ret' :: AL) (rmd d') 0 0 n := callB_of n C.c.2.2.2.2.1 (ct_in hw.1) rfl rfl rfl (C.c.t hw.2.1) (C.c.t hl) ⟨hw.2.2.1.1, hw.2.2.1.2, hw.2.2.2.1⟩ hR
    exact ct_go C hP hL (va_runS (As := As) (rest := rest) C.c.fix hM' ⟨cb, C.c.t hi⟩ hpre rfl hn hz hst (lv_room hr) hd ⟨Nat.zero_le _, Nat.zero_le _⟩) kk
  · have cb : va_CN (kR K) (ks K) (ka K) own index y host cc' nL' ret' (.code y cc' nL' ret' :: AL) (rmd d') 0 0 n := va_cnB n C.c.2.2.2.2.1 (ct_in hw.1) rfl rfl rfl (C.e.1 _ hl) (C.c.t hw.2.1) ⟨hw.2.2.1.1, hw.2.2.1.2, hw.2.2.2.1⟩ hR
    exact ct_go C hP hL (va_runSN (As := As) (rest := rest) C.c.fix hM' ⟨cb, C.c.t hi, trivial⟩ hpre rfl hn hz hst (lv_room hr) hd ⟨Nat.zero_le _, Nat.zero_le _⟩) kk
end GCall
end
section
/-! ===== the tables' words by their places ===== -/
theorem AL_of (ws : List Cond) (ps : List Nat) (hp : ws = ps.filterMap (fun i => lw_tbl[i]?)) (h : ws.all goodWord = true) : ∀ w ∈ ws, w ∈ AL := by
  intro w hw
  have h1 := List.all_eq_true.mp h w hw
  rw [hp] at hw
  obtain ⟨i, -, hi⟩ := List.mem_filterMap.mp hw
  exact AL_in (List.mem_of_getElem? hi) h1
theorem NW_of (ws : List Cond) (ps : List Nat) (hp : ws = ps.filterMap (fun i => lw_tbl[i]?)) (h : ws.all isNest = true) : ∀ w ∈ ws, w ∈ NW := by
  intro w hw
  have h1 := List.all_eq_true.mp h w hw
  rw [hp] at hw
  obtain ⟨i, -, hi⟩ := List.mem_filterMap.mp hw
  exact NW_in (List.mem_of_getElem? hi) h1
theorem inA0 : ∀ w ∈ wsX00, w ∈ AL := AL_of _ [179, 181, 183, 185, 187, 189] (by decide +kernel) (by decide +kernel)
theorem inA1 : ∀ w ∈ wsX10, w ∈ AL := AL_of _ [154] (by decide +kernel) (by decide +kernel)
theorem inA2 : ∀ w ∈ wsX20, w ∈ AL := AL_of _ [291, 293, 295, 297, 299, 301] (by decide +kernel) (by decide +kernel)
theorem inA3 : ∀ w ∈ wsX30, w ∈ AL := AL_of _ [319, 321, 323, 325] (by decide +kernel) (by decide +kernel)
theorem inA4 : ∀ w ∈ wsX40, w ∈ AL := AL_of _ [267, 269, 271, 273] (by decide +kernel) (by decide +kernel)
theorem inA5 : ∀ w ∈ wsX50, w ∈ AL := AL_of _ [342, 344, 346, 348] (by decide +kernel) (by decide +kernel)
theorem inA6 : ∀ w ∈ wsX60, w ∈ AL := AL_of _ [82, 84, 86, 88, 90, 92, 94] (by decide +kernel) (by decide +kernel)
theorem inA7 : ∀ w ∈ wsX70, w ∈ AL := AL_of _ [129, 131, 133, 135, 137, 139, 141, 143] (by decide +kernel) (by decide +kernel)
theorem inA8 : ∀ w ∈ wsX80, w ∈ AL := AL_of _ [216, 218, 220, 222, 224, 226, 228, 230, 232, 234, 236, 238, 240, 242, 244, 246, 248] (by decide +kernel) (by decide +kernel)
theorem inA9 : ∀ w ∈ wsX90, w ∈ AL := AL_of _ [365, 367, 369, 371, 373, 375, 377, 379, 381, 383, 385, 387] (by decide +kernel) (by decide +kernel)
theorem inA10 : ∀ w ∈ wsX100, w ∈ AL := AL_of _ [841, 843, 845, 847, 849, 851, 853, 855, 857, 859, 861, 863, 865, 867, 869, 871, 873, 875, 877, 879, 881, 883, 885, 887, 889, 891, 893, 895, 897, 899, 901, 903, 905, 907, 909, 911, 913, 915, 917, 919, 921, 923, 925, 927, 929, 931, 933, 935, 937, 939, 941, 943] (by decide +kernel) (by decide +kernel)
def uw_0 : List Cond := [Cond.selects RX6 yX6_takes yX6_takes,
  Cond.selects RX6 yX6_takesRowEnd yX6_takesRowEnd,
  Cond.selects RX6 yX6_takesSquare yX6_takesSquare,
  Cond.selects RX7 yX7_layLetter yX7_layLetter,
  Cond.selects RX7 yX7_measure yX7_measure,
  Cond.selects RX7 yX7_openWays yX7_openWays,
  Cond.selects RX7 yX7_beside yX7_beside,
  Cond.selects RX9 yX9_isBerg yX9_isBerg,
  Cond.selects RX9 yX9_hasWay yX9_hasWay,
  Cond.selects RX8 yX8_isHopeless yX8_isHopeless,
  Cond.selects RX8 yX8_choose yX8_choose,
  Cond.selects RX8 yX8_pass yX8_pass,
  Cond.selects RX8 yX8_daysOfStep yX8_daysOfStep,
  Cond.selects RX8 yX8_drawnWarmth yX8_drawnWarmth,
  Cond.selects RX9 yX9_weigh yX9_weigh,
  Cond.selects RX3 yX3_mostFrom yX3_mostFrom,
  Cond.selects RX3 yX3_gainBy yX3_gainBy,
  Cond.selects RX3 yX3_fewestFor yX3_fewestFor,
  Cond.selects RX5 yX5_letOffNow yX5_letOffNow,
  Cond.selects RX5 yX5_heldNow yX5_heldNow,
  Cond.selects RX4 yX4_counts yX4_counts,
  Cond.selects RX10 yX10_faultOf yX10_faultOf,
  Cond.selects RX10 yX10_go yX10_go,
  Cond.selects RX10 yX10_readAt yX10_readAt,
  Cond.selects RX10 yX10_isSquare yX10_isSquare,
  Cond.selects RX10 yX10_tellSquare yX10_tellSquare,
  Cond.selects RX10 yX10_farOf yX10_farOf,
  Cond.selects RX10 yX10_isBerg yX10_isBerg,
  Cond.selects RX10 yX10_tellTow yX10_tellTow,
  Cond.selects RX10 yX10_ownSize yX10_ownSize,
  Cond.selects RX10 yX10_layWays yX10_layWays,
  Cond.selects RX10 yX10_to yX10_to,
  Cond.selects RX10 yX10_tryWay yX10_tryWay,
  Cond.selects RX10 yX10_begin yX10_begin,
  Cond.selects RX10 yX10_towAll yX10_towAll,
  Cond.selects RX10 yX10_step yX10_step,
  Cond.selects RX10 yX10_day yX10_day,
  Cond.selects RX10 yX10_draw yX10_draw,
  Cond.selects RX10 yX10_waysOf yX10_waysOf,
  Cond.selects RX10 yX10_tellBest yX10_tellBest]
theorem uw_0_in : ∀ w ∈ uw_0, w ∈ AL := AL_of _ [0, 1, 2, 3, 4, 5, 6, 7, 8, 9, 10, 11, 12, 13, 14, 15, 16, 17, 18, 19, 20, 21, 22, 23, 24, 25, 26, 27, 28, 29, 30, 31, 32, 33, 34, 35, 36, 37, 38, 39] (by decide +kernel) (by decide +kernel)
theorem aw_0 : Cond.selects RX6 yX6_takes yX6_takes ∈ AL := uw_0_in _ (List.mem_of_getElem? (i := 0) rfl)
theorem aw_1 : Cond.selects RX6 yX6_takesRowEnd yX6_takesRowEnd ∈ AL := uw_0_in _ (List.mem_of_getElem? (i := 1) rfl)
theorem aw_2 : Cond.selects RX6 yX6_takesSquare yX6_takesSquare ∈ AL := uw_0_in _ (List.mem_of_getElem? (i := 2) rfl)
theorem aw_3 : Cond.selects RX7 yX7_layLetter yX7_layLetter ∈ AL := uw_0_in _ (List.mem_of_getElem? (i := 3) rfl)
theorem aw_4 : Cond.selects RX7 yX7_measure yX7_measure ∈ AL := uw_0_in _ (List.mem_of_getElem? (i := 4) rfl)
theorem aw_5 : Cond.selects RX7 yX7_openWays yX7_openWays ∈ AL := uw_0_in _ (List.mem_of_getElem? (i := 5) rfl)
theorem aw_6 : Cond.selects RX7 yX7_beside yX7_beside ∈ AL := uw_0_in _ (List.mem_of_getElem? (i := 6) rfl)
theorem aw_7 : Cond.selects RX9 yX9_isBerg yX9_isBerg ∈ AL := uw_0_in _ (List.mem_of_getElem? (i := 7) rfl)
theorem aw_8 : Cond.selects RX9 yX9_hasWay yX9_hasWay ∈ AL := uw_0_in _ (List.mem_of_getElem? (i := 8) rfl)
theorem aw_9 : Cond.selects RX8 yX8_isHopeless yX8_isHopeless ∈ AL := uw_0_in _ (List.mem_of_getElem? (i := 9) rfl)
theorem aw_10 : Cond.selects RX8 yX8_choose yX8_choose ∈ AL := uw_0_in _ (List.mem_of_getElem? (i := 10) rfl)
theorem aw_11 : Cond.selects RX8 yX8_pass yX8_pass ∈ AL := uw_0_in _ (List.mem_of_getElem? (i := 11) rfl)
theorem aw_12 : Cond.selects RX8 yX8_daysOfStep yX8_daysOfStep ∈ AL := uw_0_in _ (List.mem_of_getElem? (i := 12) rfl)
theorem aw_13 : Cond.selects RX8 yX8_drawnWarmth yX8_drawnWarmth ∈ AL := uw_0_in _ (List.mem_of_getElem? (i := 13) rfl)
theorem aw_14 : Cond.selects RX9 yX9_weigh yX9_weigh ∈ AL := uw_0_in _ (List.mem_of_getElem? (i := 14) rfl)
theorem aw_15 : Cond.selects RX3 yX3_mostFrom yX3_mostFrom ∈ AL := uw_0_in _ (List.mem_of_getElem? (i := 15) rfl)
theorem aw_16 : Cond.selects RX3 yX3_gainBy yX3_gainBy ∈ AL := uw_0_in _ (List.mem_of_getElem? (i := 16) rfl)
theorem aw_17 : Cond.selects RX3 yX3_fewestFor yX3_fewestFor ∈ AL := uw_0_in _ (List.mem_of_getElem? (i := 17) rfl)
theorem aw_18 : Cond.selects RX5 yX5_letOffNow yX5_letOffNow ∈ AL := uw_0_in _ (List.mem_of_getElem? (i := 18) rfl)
theorem aw_19 : Cond.selects RX5 yX5_heldNow yX5_heldNow ∈ AL := uw_0_in _ (List.mem_of_getElem? (i := 19) rfl)
theorem aw_20 : Cond.selects RX4 yX4_counts yX4_counts ∈ AL := uw_0_in _ (List.mem_of_getElem? (i := 20) rfl)
theorem aw_21 : Cond.selects RX10 yX10_faultOf yX10_faultOf ∈ AL := uw_0_in _ (List.mem_of_getElem? (i := 21) rfl)
theorem aw_22 : Cond.selects RX10 yX10_go yX10_go ∈ AL := uw_0_in _ (List.mem_of_getElem? (i := 22) rfl)
theorem aw_23 : Cond.selects RX10 yX10_readAt yX10_readAt ∈ AL := uw_0_in _ (List.mem_of_getElem? (i := 23) rfl)
theorem aw_24 : Cond.selects RX10 yX10_isSquare yX10_isSquare ∈ AL := uw_0_in _ (List.mem_of_getElem? (i := 24) rfl)
theorem aw_25 : Cond.selects RX10 yX10_tellSquare yX10_tellSquare ∈ AL := uw_0_in _ (List.mem_of_getElem? (i := 25) rfl)
theorem aw_26 : Cond.selects RX10 yX10_farOf yX10_farOf ∈ AL := uw_0_in _ (List.mem_of_getElem? (i := 26) rfl)
theorem aw_27 : Cond.selects RX10 yX10_isBerg yX10_isBerg ∈ AL := uw_0_in _ (List.mem_of_getElem? (i := 27) rfl)
theorem aw_28 : Cond.selects RX10 yX10_tellTow yX10_tellTow ∈ AL := uw_0_in _ (List.mem_of_getElem? (i := 28) rfl)
theorem aw_29 : Cond.selects RX10 yX10_ownSize yX10_ownSize ∈ AL := uw_0_in _ (List.mem_of_getElem? (i := 29) rfl)
theorem aw_30 : Cond.selects RX10 yX10_layWays yX10_layWays ∈ AL := uw_0_in _ (List.mem_of_getElem? (i := 30) rfl)
theorem aw_31 : Cond.selects RX10 yX10_to yX10_to ∈ AL := uw_0_in _ (List.mem_of_getElem? (i := 31) rfl)
theorem aw_32 : Cond.selects RX10 yX10_tryWay yX10_tryWay ∈ AL := uw_0_in _ (List.mem_of_getElem? (i := 32) rfl)
theorem aw_33 : Cond.selects RX10 yX10_begin yX10_begin ∈ AL := uw_0_in _ (List.mem_of_getElem? (i := 33) rfl)
theorem aw_34 : Cond.selects RX10 yX10_towAll yX10_towAll ∈ AL := uw_0_in _ (List.mem_of_getElem? (i := 34) rfl)
theorem aw_35 : Cond.selects RX10 yX10_step yX10_step ∈ AL := uw_0_in _ (List.mem_of_getElem? (i := 35) rfl)
theorem aw_36 : Cond.selects RX10 yX10_day yX10_day ∈ AL := uw_0_in _ (List.mem_of_getElem? (i := 36) rfl)
theorem aw_37 : Cond.selects RX10 yX10_draw yX10_draw ∈ AL := uw_0_in _ (List.mem_of_getElem? (i := 37) rfl)
theorem aw_38 : Cond.selects RX10 yX10_waysOf yX10_waysOf ∈ AL := uw_0_in _ (List.mem_of_getElem? (i := 38) rfl)
theorem aw_39 : Cond.selects RX10 yX10_tellBest yX10_tellBest ∈ AL := uw_0_in _ (List.mem_of_getElem? (i := 39) rfl)
def uw_1 : List Cond := [Cond.selects RX10 yX10_lacks yX10_lacks,
  Cond.selects RX10 yX10_seasonOf yX10_seasonOf,
  Cond.selects RX10 yX10_countOf yX10_countOf,
  Cond.selects RX10 yX10_say yX10_say,
  Cond.selects RX10 yX10_sayBerg yX10_sayBerg,
  Cond.initialized RX9,
  Cond.initialized RX6,
  Cond.initialized RX8,
  Cond.initialized RX7,
  Cond.initialized RX1,
  Cond.initialized RX0,
  Cond.initialized RX4,
  Cond.initialized RX2,
  Cond.initialized RX3,
  Cond.initialized RX5,
  Cond.initialized RX10,
  Cond.initialized "java/lang/Math",
  Cond.initialized "java/lang/System",
  Cond.fieldLink RX6 11 "IceForCoast$Page" "codes" "[I",
  Cond.fieldLink RX6 19 "IceForCoast$Page" "length" "I",
  Cond.fieldLink RX6 23 "IceForCoast$Page" "row" "I",
  Cond.fieldLink RX6 26 "IceForCoast$Page" "inRow" "I",
  Cond.fieldLink RX6 29 "IceForCoast$Page" "width" "I",
  Cond.fieldLink RX6 32 "IceForCoast$Page" "harbours" "I",
  Cond.fieldLink RX6 35 "IceForCoast$Page" "currentMayCome" "Z",
  Cond.fieldLink RX7 11 "IceForCoast$Sea" "warmth" "[I",
  Cond.fieldLink RX7 15 "IceForCoast$Sea" "current" "[I",
  Cond.fieldLink RX7 18 "IceForCoast$Sea" "far" "[I",
  Cond.fieldLink RX7 21 "IceForCoast$Sea" "waysFrom" "[I",
  Cond.fieldLink RX7 26 "IceForCoast$Sea" "next" "[[I",
  Cond.fieldLink RX7 29 "IceForCoast$Sea" "squares" "I",
  Cond.fieldLink RX7 37 "IceForCoast$Sea" "width" "I",
  Cond.fieldLink RX7 64 "IceForCoast$Sea" "harbour" "I",
  Cond.fieldLink RX1 7 "IceForCoast$Coins" "value" "[I",
  Cond.fieldLink RX0 9 "IceForCoast$Berg" "kind" "I",
  Cond.fieldLink RX0 13 "IceForCoast$Berg" "square" "I",
  Cond.fieldLink RX0 16 "IceForCoast$Berg" "size" "I",
  Cond.fieldLink RX0 19 "IceForCoast$Berg" "foot" "I",
  Cond.fieldLink RX0 22 "IceForCoast$Berg" "n" "I",
  Cond.fieldLink RX0 25 "IceForCoast$Berg" "flat" "Z"]
theorem uw_1_in : ∀ w ∈ uw_1, w ∈ AL := AL_of _ [40, 41, 42, 43, 44, 46, 47, 48, 49, 50, 51, 52, 53, 54, 55, 56, 57, 58, 73, 74, 77, 78, 79, 80, 81, 112, 115, 118, 120, 122, 124, 126, 128, 152, 163, 167, 170, 174, 176, 178] (by decide +kernel) (by decide +kernel)
theorem aw_40 : Cond.selects RX10 yX10_lacks yX10_lacks ∈ AL := uw_1_in _ (List.mem_of_getElem? (i := 0) rfl)
theorem aw_41 : Cond.selects RX10 yX10_seasonOf yX10_seasonOf ∈ AL := uw_1_in _ (List.mem_of_getElem? (i := 1) rfl)
theorem aw_42 : Cond.selects RX10 yX10_countOf yX10_countOf ∈ AL := uw_1_in _ (List.mem_of_getElem? (i := 2) rfl)
theorem aw_43 : Cond.selects RX10 yX10_say yX10_say ∈ AL := uw_1_in _ (List.mem_of_getElem? (i := 3) rfl)
theorem aw_44 : Cond.selects RX10 yX10_sayBerg yX10_sayBerg ∈ AL := uw_1_in _ (List.mem_of_getElem? (i := 4) rfl)
theorem aw_46 : Cond.initialized RX9 ∈ AL := uw_1_in _ (List.mem_of_getElem? (i := 5) rfl)
theorem aw_47 : Cond.initialized RX6 ∈ AL := uw_1_in _ (List.mem_of_getElem? (i := 6) rfl)
theorem aw_48 : Cond.initialized RX8 ∈ AL := uw_1_in _ (List.mem_of_getElem? (i := 7) rfl)
theorem aw_49 : Cond.initialized RX7 ∈ AL := uw_1_in _ (List.mem_of_getElem? (i := 8) rfl)
theorem aw_50 : Cond.initialized RX1 ∈ AL := uw_1_in _ (List.mem_of_getElem? (i := 9) rfl)
theorem aw_51 : Cond.initialized RX0 ∈ AL := uw_1_in _ (List.mem_of_getElem? (i := 10) rfl)
theorem aw_52 : Cond.initialized RX4 ∈ AL := uw_1_in _ (List.mem_of_getElem? (i := 11) rfl)
theorem aw_53 : Cond.initialized RX2 ∈ AL := uw_1_in _ (List.mem_of_getElem? (i := 12) rfl)
theorem aw_54 : Cond.initialized RX3 ∈ AL := uw_1_in _ (List.mem_of_getElem? (i := 13) rfl)
theorem aw_55 : Cond.initialized RX5 ∈ AL := uw_1_in _ (List.mem_of_getElem? (i := 14) rfl)
theorem aw_56 : Cond.initialized RX10 ∈ AL := uw_1_in _ (List.mem_of_getElem? (i := 15) rfl)
theorem aw_57 : Cond.initialized "java/lang/Math" ∈ AL := uw_1_in _ (List.mem_of_getElem? (i := 16) rfl)
theorem aw_58 : Cond.initialized "java/lang/System" ∈ AL := uw_1_in _ (List.mem_of_getElem? (i := 17) rfl)
theorem aw_73 : Cond.fieldLink RX6 11 "IceForCoast$Page" "codes" "[I" ∈ AL := uw_1_in _ (List.mem_of_getElem? (i := 18) rfl)
theorem aw_74 : Cond.fieldLink RX6 19 "IceForCoast$Page" "length" "I" ∈ AL := uw_1_in _ (List.mem_of_getElem? (i := 19) rfl)
theorem aw_77 : Cond.fieldLink RX6 23 "IceForCoast$Page" "row" "I" ∈ AL := uw_1_in _ (List.mem_of_getElem? (i := 20) rfl)
theorem aw_78 : Cond.fieldLink RX6 26 "IceForCoast$Page" "inRow" "I" ∈ AL := uw_1_in _ (List.mem_of_getElem? (i := 21) rfl)
theorem aw_79 : Cond.fieldLink RX6 29 "IceForCoast$Page" "width" "I" ∈ AL := uw_1_in _ (List.mem_of_getElem? (i := 22) rfl)
theorem aw_80 : Cond.fieldLink RX6 32 "IceForCoast$Page" "harbours" "I" ∈ AL := uw_1_in _ (List.mem_of_getElem? (i := 23) rfl)
theorem aw_81 : Cond.fieldLink RX6 35 "IceForCoast$Page" "currentMayCome" "Z" ∈ AL := uw_1_in _ (List.mem_of_getElem? (i := 24) rfl)
theorem aw_112 : Cond.fieldLink RX7 11 "IceForCoast$Sea" "warmth" "[I" ∈ AL := uw_1_in _ (List.mem_of_getElem? (i := 25) rfl)
theorem aw_115 : Cond.fieldLink RX7 15 "IceForCoast$Sea" "current" "[I" ∈ AL := uw_1_in _ (List.mem_of_getElem? (i := 26) rfl)
theorem aw_118 : Cond.fieldLink RX7 18 "IceForCoast$Sea" "far" "[I" ∈ AL := uw_1_in _ (List.mem_of_getElem? (i := 27) rfl)
theorem aw_120 : Cond.fieldLink RX7 21 "IceForCoast$Sea" "waysFrom" "[I" ∈ AL := uw_1_in _ (List.mem_of_getElem? (i := 28) rfl)
theorem aw_122 : Cond.fieldLink RX7 26 "IceForCoast$Sea" "next" "[[I" ∈ AL := uw_1_in _ (List.mem_of_getElem? (i := 29) rfl)
theorem aw_124 : Cond.fieldLink RX7 29 "IceForCoast$Sea" "squares" "I" ∈ AL := uw_1_in _ (List.mem_of_getElem? (i := 30) rfl)
theorem aw_126 : Cond.fieldLink RX7 37 "IceForCoast$Sea" "width" "I" ∈ AL := uw_1_in _ (List.mem_of_getElem? (i := 31) rfl)
theorem aw_128 : Cond.fieldLink RX7 64 "IceForCoast$Sea" "harbour" "I" ∈ AL := uw_1_in _ (List.mem_of_getElem? (i := 32) rfl)
theorem aw_152 : Cond.fieldLink RX1 7 "IceForCoast$Coins" "value" "[I" ∈ AL := uw_1_in _ (List.mem_of_getElem? (i := 33) rfl)
theorem aw_163 : Cond.fieldLink RX0 9 "IceForCoast$Berg" "kind" "I" ∈ AL := uw_1_in _ (List.mem_of_getElem? (i := 34) rfl)
theorem aw_167 : Cond.fieldLink RX0 13 "IceForCoast$Berg" "square" "I" ∈ AL := uw_1_in _ (List.mem_of_getElem? (i := 35) rfl)
theorem aw_170 : Cond.fieldLink RX0 16 "IceForCoast$Berg" "size" "I" ∈ AL := uw_1_in _ (List.mem_of_getElem? (i := 36) rfl)
theorem aw_174 : Cond.fieldLink RX0 19 "IceForCoast$Berg" "foot" "I" ∈ AL := uw_1_in _ (List.mem_of_getElem? (i := 37) rfl)
theorem aw_176 : Cond.fieldLink RX0 22 "IceForCoast$Berg" "n" "I" ∈ AL := uw_1_in _ (List.mem_of_getElem? (i := 38) rfl)
theorem aw_178 : Cond.fieldLink RX0 25 "IceForCoast$Berg" "flat" "Z" ∈ AL := uw_1_in _ (List.mem_of_getElem? (i := 39) rfl)
def uw_2 : List Cond := [Cond.fieldLink RX8 12 "IceForCoast$Tow" "sea" "LIceForCoast$Sea;",
  Cond.fieldLink RX8 21 "IceForCoast$Tow" "coins" "LIceForCoast$Coins;",
  Cond.fieldLink RX8 25 "IceForCoast$Tow" "sizeAt" "[I",
  Cond.fieldLink RX8 29 "IceForCoast$Tow" "footAt" "[I",
  Cond.fieldLink RX8 32 "IceForCoast$Tow" "dayAt" "[I",
  Cond.fieldLink RX8 35 "IceForCoast$Tow" "trial" "[I",
  Cond.fieldLink RX8 38 "IceForCoast$Tow" "chosen" "[I",
  Cond.fieldLink RX8 44 "IceForCoast$Tow" "berg" "LIceForCoast$Berg;",
  Cond.fieldLink RX8 48 "IceForCoast$Tow" "tugs" "I",
  Cond.fieldLink RX8 58 "IceForCoast$Tow" "skirt" "Z",
  Cond.fieldLink RX8 62 "IceForCoast$Tow" "found" "Z",
  Cond.fieldLink RX8 93 "IceForCoast$Tow" "water" "I",
  Cond.fieldLink RX8 96 "IceForCoast$Tow" "days" "I",
  Cond.fieldLink RX8 114 "IceForCoast$Tow" "gain" "I",
  Cond.fieldLink RX8 82 "IceForCoast$Tow" "steps" "I",
  Cond.fieldLink RX8 65 "IceForCoast$Tow" "drawing" "Z",
  Cond.fieldLink RX8 78 "IceForCoast$Tow" "seed" "J",
  Cond.fieldLink RX4 11 "IceForCoast$Lines" "house" "[I",
  Cond.fieldLink RX4 15 "IceForCoast$Lines" "berg" "[I",
  Cond.fieldLink RX4 18 "IceForCoast$Lines" "day" "[I",
  Cond.fieldLink RX4 21 "IceForCoast$Lines" "length" "I",
  Cond.fieldLink RX2 9 "IceForCoast$Image" "sizes" "[I",
  Cond.fieldLink RX2 15 "IceForCoast$Image" "feet" "[I",
  Cond.fieldLink RX2 21 "IceForCoast$Image" "coins" "LIceForCoast$Coins;",
  Cond.fieldLink RX2 31 "IceForCoast$Image" "bergCount" "I",
  Cond.fieldLink RX3 13 "IceForCoast$Ledger" "gains" "[[I",
  Cond.fieldLink RX3 16 "IceForCoast$Ledger" "known" "[Z",
  Cond.fieldLink RX3 20 "IceForCoast$Ledger" "towable" "[Z",
  Cond.fieldLink RX3 23 "IceForCoast$Ledger" "most" "[[I",
  Cond.fieldLink RX5 9 "IceForCoast$Odds" "water" "[J",
  Cond.fieldLink RX5 38 "IceForCoast$Odds" "above" "J",
  Cond.fieldLink RX5 42 "IceForCoast$Odds" "below" "J",
  Cond.fieldLink RX5 15 "IceForCoast$Odds" "letsOff" "Z",
  Cond.fieldLink RX9 10 "IceForCoast" "thePage" "LIceForCoast$Page;",
  Cond.fieldLink RX9 19 "IceForCoast" "theTow" "LIceForCoast$Tow;",
  Cond.fieldLink RX9 27 "IceForCoast" "theSea" "LIceForCoast$Sea;",
  Cond.fieldLink RX9 34 "IceForCoast" "coins" "LIceForCoast$Coins;",
  Cond.fieldLink RX9 37 "IceForCoast" "bergs" "[LIceForCoast$Berg;",
  Cond.fieldLink RX9 44 "IceForCoast" "lines" "LIceForCoast$Lines;",
  Cond.fieldLink RX9 51 "IceForCoast" "kept" "LIceForCoast$Image;"]
theorem uw_2_in : ∀ w ∈ uw_2, w ∈ AL := AL_of _ [192, 194, 196, 197, 198, 199, 200, 201, 202, 203, 204, 205, 207, 209, 211, 213, 214, 259, 261, 263, 265, 284, 285, 286, 287, 311, 313, 315, 317, 335, 336, 338, 340, 353, 354, 355, 356, 357, 358, 359] (by decide +kernel) (by decide +kernel)
theorem aw_192 : Cond.fieldLink RX8 12 "IceForCoast$Tow" "sea" "LIceForCoast$Sea;" ∈ AL := uw_2_in _ (List.mem_of_getElem? (i := 0) rfl)
theorem aw_194 : Cond.fieldLink RX8 21 "IceForCoast$Tow" "coins" "LIceForCoast$Coins;" ∈ AL := uw_2_in _ (List.mem_of_getElem? (i := 1) rfl)
theorem aw_196 : Cond.fieldLink RX8 25 "IceForCoast$Tow" "sizeAt" "[I" ∈ AL := uw_2_in _ (List.mem_of_getElem? (i := 2) rfl)
theorem aw_197 : Cond.fieldLink RX8 29 "IceForCoast$Tow" "footAt" "[I" ∈ AL := uw_2_in _ (List.mem_of_getElem? (i := 3) rfl)
theorem aw_198 : Cond.fieldLink RX8 32 "IceForCoast$Tow" "dayAt" "[I" ∈ AL := uw_2_in _ (List.mem_of_getElem? (i := 4) rfl)
theorem aw_199 : Cond.fieldLink RX8 35 "IceForCoast$Tow" "trial" "[I" ∈ AL := uw_2_in _ (List.mem_of_getElem? (i := 5) rfl)
theorem aw_200 : Cond.fieldLink RX8 38 "IceForCoast$Tow" "chosen" "[I" ∈ AL := uw_2_in _ (List.mem_of_getElem? (i := 6) rfl)
theorem aw_201 : Cond.fieldLink RX8 44 "IceForCoast$Tow" "berg" "LIceForCoast$Berg;" ∈ AL := uw_2_in _ (List.mem_of_getElem? (i := 7) rfl)
theorem aw_202 : Cond.fieldLink RX8 48 "IceForCoast$Tow" "tugs" "I" ∈ AL := uw_2_in _ (List.mem_of_getElem? (i := 8) rfl)
theorem aw_203 : Cond.fieldLink RX8 58 "IceForCoast$Tow" "skirt" "Z" ∈ AL := uw_2_in _ (List.mem_of_getElem? (i := 9) rfl)
theorem aw_204 : Cond.fieldLink RX8 62 "IceForCoast$Tow" "found" "Z" ∈ AL := uw_2_in _ (List.mem_of_getElem? (i := 10) rfl)
theorem aw_205 : Cond.fieldLink RX8 93 "IceForCoast$Tow" "water" "I" ∈ AL := uw_2_in _ (List.mem_of_getElem? (i := 11) rfl)
theorem aw_207 : Cond.fieldLink RX8 96 "IceForCoast$Tow" "days" "I" ∈ AL := uw_2_in _ (List.mem_of_getElem? (i := 12) rfl)
theorem aw_209 : Cond.fieldLink RX8 114 "IceForCoast$Tow" "gain" "I" ∈ AL := uw_2_in _ (List.mem_of_getElem? (i := 13) rfl)
theorem aw_211 : Cond.fieldLink RX8 82 "IceForCoast$Tow" "steps" "I" ∈ AL := uw_2_in _ (List.mem_of_getElem? (i := 14) rfl)
theorem aw_213 : Cond.fieldLink RX8 65 "IceForCoast$Tow" "drawing" "Z" ∈ AL := uw_2_in _ (List.mem_of_getElem? (i := 15) rfl)
theorem aw_214 : Cond.fieldLink RX8 78 "IceForCoast$Tow" "seed" "J" ∈ AL := uw_2_in _ (List.mem_of_getElem? (i := 16) rfl)
theorem aw_259 : Cond.fieldLink RX4 11 "IceForCoast$Lines" "house" "[I" ∈ AL := uw_2_in _ (List.mem_of_getElem? (i := 17) rfl)
theorem aw_261 : Cond.fieldLink RX4 15 "IceForCoast$Lines" "berg" "[I" ∈ AL := uw_2_in _ (List.mem_of_getElem? (i := 18) rfl)
theorem aw_263 : Cond.fieldLink RX4 18 "IceForCoast$Lines" "day" "[I" ∈ AL := uw_2_in _ (List.mem_of_getElem? (i := 19) rfl)
theorem aw_265 : Cond.fieldLink RX4 21 "IceForCoast$Lines" "length" "I" ∈ AL := uw_2_in _ (List.mem_of_getElem? (i := 20) rfl)
theorem aw_284 : Cond.fieldLink RX2 9 "IceForCoast$Image" "sizes" "[I" ∈ AL := uw_2_in _ (List.mem_of_getElem? (i := 21) rfl)
theorem aw_285 : Cond.fieldLink RX2 15 "IceForCoast$Image" "feet" "[I" ∈ AL := uw_2_in _ (List.mem_of_getElem? (i := 22) rfl)
theorem aw_286 : Cond.fieldLink RX2 21 "IceForCoast$Image" "coins" "LIceForCoast$Coins;" ∈ AL := uw_2_in _ (List.mem_of_getElem? (i := 23) rfl)
theorem aw_287 : Cond.fieldLink RX2 31 "IceForCoast$Image" "bergCount" "I" ∈ AL := uw_2_in _ (List.mem_of_getElem? (i := 24) rfl)
theorem aw_311 : Cond.fieldLink RX3 13 "IceForCoast$Ledger" "gains" "[[I" ∈ AL := uw_2_in _ (List.mem_of_getElem? (i := 25) rfl)
theorem aw_313 : Cond.fieldLink RX3 16 "IceForCoast$Ledger" "known" "[Z" ∈ AL := uw_2_in _ (List.mem_of_getElem? (i := 26) rfl)
theorem aw_315 : Cond.fieldLink RX3 20 "IceForCoast$Ledger" "towable" "[Z" ∈ AL := uw_2_in _ (List.mem_of_getElem? (i := 27) rfl)
theorem aw_317 : Cond.fieldLink RX3 23 "IceForCoast$Ledger" "most" "[[I" ∈ AL := uw_2_in _ (List.mem_of_getElem? (i := 28) rfl)
theorem aw_335 : Cond.fieldLink RX5 9 "IceForCoast$Odds" "water" "[J" ∈ AL := uw_2_in _ (List.mem_of_getElem? (i := 29) rfl)
theorem aw_336 : Cond.fieldLink RX5 38 "IceForCoast$Odds" "above" "J" ∈ AL := uw_2_in _ (List.mem_of_getElem? (i := 30) rfl)
theorem aw_338 : Cond.fieldLink RX5 42 "IceForCoast$Odds" "below" "J" ∈ AL := uw_2_in _ (List.mem_of_getElem? (i := 31) rfl)
theorem aw_340 : Cond.fieldLink RX5 15 "IceForCoast$Odds" "letsOff" "Z" ∈ AL := uw_2_in _ (List.mem_of_getElem? (i := 32) rfl)
theorem aw_353 : Cond.fieldLink RX9 10 "IceForCoast" "thePage" "LIceForCoast$Page;" ∈ AL := uw_2_in _ (List.mem_of_getElem? (i := 33) rfl)
theorem aw_354 : Cond.fieldLink RX9 19 "IceForCoast" "theTow" "LIceForCoast$Tow;" ∈ AL := uw_2_in _ (List.mem_of_getElem? (i := 34) rfl)
theorem aw_355 : Cond.fieldLink RX9 27 "IceForCoast" "theSea" "LIceForCoast$Sea;" ∈ AL := uw_2_in _ (List.mem_of_getElem? (i := 35) rfl)
theorem aw_356 : Cond.fieldLink RX9 34 "IceForCoast" "coins" "LIceForCoast$Coins;" ∈ AL := uw_2_in _ (List.mem_of_getElem? (i := 36) rfl)
theorem aw_357 : Cond.fieldLink RX9 37 "IceForCoast" "bergs" "[LIceForCoast$Berg;" ∈ AL := uw_2_in _ (List.mem_of_getElem? (i := 37) rfl)
theorem aw_358 : Cond.fieldLink RX9 44 "IceForCoast" "lines" "LIceForCoast$Lines;" ∈ AL := uw_2_in _ (List.mem_of_getElem? (i := 38) rfl)
theorem aw_359 : Cond.fieldLink RX9 51 "IceForCoast" "kept" "LIceForCoast$Image;" ∈ AL := uw_2_in _ (List.mem_of_getElem? (i := 39) rfl)
def uw_3 : List Cond := [Cond.fieldLink RX9 58 "IceForCoast" "ledger" "LIceForCoast$Ledger;",
  Cond.fieldLink RX9 65 "IceForCoast" "theOdds" "LIceForCoast$Odds;",
  Cond.fieldLink RX9 91 "IceForCoast" "bergCount" "I",
  Cond.fieldLink RX9 99 "IceForCoast" "seasRead" "I",
  Cond.fieldLink RX9 242 "IceForCoast" "cameDone" "I",
  Cond.code yX9_letters cX9_letters 3 (some .int),
  Cond.methodLink RX9 70 yX6_append,
  Cond.instanceMethod yX6_append,
  Cond.selects RX6 yX6_append yX6_append,
  Cond.code yX6_append cX6_append 7 (some .int),
  Cond.methodLink RX6 15 yX6_byteOf,
  Cond.static yX6_byteOf,
  Cond.code yX6_byteOf cX6_byteOf 3 (some .int),
  Cond.code yX9_blank cX9_blank 1 (some .int),
  Cond.methodLink RX9 74 yX6_clear,
  Cond.instanceMethod yX6_clear,
  Cond.selects RX6 yX6_clear yX6_clear,
  Cond.code yX6_clear cX6_clear 2 (some .int),
  Cond.code yX9_fault cX9_fault 1 (some .int),
  Cond.methodLink RX9 78 yX6_firstWrong,
  Cond.instanceMethod yX6_firstWrong,
  Cond.selects RX6 yX6_firstWrong yX6_firstWrong,
  Cond.code yX6_firstWrong cX6_firstWrong 2 (some .int),
  Cond.methodLink RX6 39 yX6_takes,
  Cond.instanceMethod yX6_takes,
  Cond.code yX6_takes cX6_takes 3 (some .boolean),
  Cond.methodLink RX6 47 yX6_takesRowEnd,
  Cond.instanceMethod yX6_takesRowEnd,
  Cond.code yX6_takesRowEnd cX6_takesRowEnd 2 (some .boolean),
  Cond.methodLink RX6 51 yX7_wayOf,
  Cond.static yX7_wayOf,
  Cond.code yX7_wayOf cX7_wayOf 1 (some .int),
  Cond.methodLink RX6 57 yX6_takesSquare,
  Cond.instanceMethod yX6_takesSquare,
  Cond.code yX6_takesSquare cX6_takesSquare 4 (some .boolean),
  Cond.code yX9_sea cX9_sea 1 (some .int),
  Cond.methodLink RX9 81 yX6_isSea,
  Cond.instanceMethod yX6_isSea,
  Cond.selects RX6 yX6_isSea yX6_isSea,
  Cond.code yX6_isSea cX6_isSea 1 (some .boolean)]
theorem uw_3_in : ∀ w ∈ uw_3, w ∈ AL := AL_of _ [360, 361, 362, 363, 364, 393, 394, 395, 396, 397, 398, 399, 400, 404, 405, 406, 407, 408, 412, 413, 414, 415, 416, 417, 419, 420, 421, 423, 424, 425, 426, 427, 428, 430, 431, 435, 436, 437, 438, 439] (by decide +kernel) (by decide +kernel)
theorem aw_360 : Cond.fieldLink RX9 58 "IceForCoast" "ledger" "LIceForCoast$Ledger;" ∈ AL := uw_3_in _ (List.mem_of_getElem? (i := 0) rfl)
theorem aw_361 : Cond.fieldLink RX9 65 "IceForCoast" "theOdds" "LIceForCoast$Odds;" ∈ AL := uw_3_in _ (List.mem_of_getElem? (i := 1) rfl)
theorem aw_362 : Cond.fieldLink RX9 91 "IceForCoast" "bergCount" "I" ∈ AL := uw_3_in _ (List.mem_of_getElem? (i := 2) rfl)
theorem aw_363 : Cond.fieldLink RX9 99 "IceForCoast" "seasRead" "I" ∈ AL := uw_3_in _ (List.mem_of_getElem? (i := 3) rfl)
theorem aw_364 : Cond.fieldLink RX9 242 "IceForCoast" "cameDone" "I" ∈ AL := uw_3_in _ (List.mem_of_getElem? (i := 4) rfl)
theorem aw_393 : Cond.code yX9_letters cX9_letters 3 (some .int) ∈ AL := uw_3_in _ (List.mem_of_getElem? (i := 5) rfl)
theorem aw_394 : Cond.methodLink RX9 70 yX6_append ∈ AL := uw_3_in _ (List.mem_of_getElem? (i := 6) rfl)
theorem aw_395 : Cond.instanceMethod yX6_append ∈ AL := uw_3_in _ (List.mem_of_getElem? (i := 7) rfl)
theorem aw_396 : Cond.selects RX6 yX6_append yX6_append ∈ AL := uw_3_in _ (List.mem_of_getElem? (i := 8) rfl)
theorem aw_397 : Cond.code yX6_append cX6_append 7 (some .int) ∈ AL := uw_3_in _ (List.mem_of_getElem? (i := 9) rfl)
theorem aw_398 : Cond.methodLink RX6 15 yX6_byteOf ∈ AL := uw_3_in _ (List.mem_of_getElem? (i := 10) rfl)
theorem aw_399 : Cond.static yX6_byteOf ∈ AL := uw_3_in _ (List.mem_of_getElem? (i := 11) rfl)
theorem aw_400 : Cond.code yX6_byteOf cX6_byteOf 3 (some .int) ∈ AL := uw_3_in _ (List.mem_of_getElem? (i := 12) rfl)
theorem aw_404 : Cond.code yX9_blank cX9_blank 1 (some .int) ∈ AL := uw_3_in _ (List.mem_of_getElem? (i := 13) rfl)
theorem aw_405 : Cond.methodLink RX9 74 yX6_clear ∈ AL := uw_3_in _ (List.mem_of_getElem? (i := 14) rfl)
theorem aw_406 : Cond.instanceMethod yX6_clear ∈ AL := uw_3_in _ (List.mem_of_getElem? (i := 15) rfl)
theorem aw_407 : Cond.selects RX6 yX6_clear yX6_clear ∈ AL := uw_3_in _ (List.mem_of_getElem? (i := 16) rfl)
theorem aw_408 : Cond.code yX6_clear cX6_clear 2 (some .int) ∈ AL := uw_3_in _ (List.mem_of_getElem? (i := 17) rfl)
theorem aw_412 : Cond.code yX9_fault cX9_fault 1 (some .int) ∈ AL := uw_3_in _ (List.mem_of_getElem? (i := 18) rfl)
theorem aw_413 : Cond.methodLink RX9 78 yX6_firstWrong ∈ AL := uw_3_in _ (List.mem_of_getElem? (i := 19) rfl)
theorem aw_414 : Cond.instanceMethod yX6_firstWrong ∈ AL := uw_3_in _ (List.mem_of_getElem? (i := 20) rfl)
theorem aw_415 : Cond.selects RX6 yX6_firstWrong yX6_firstWrong ∈ AL := uw_3_in _ (List.mem_of_getElem? (i := 21) rfl)
theorem aw_416 : Cond.code yX6_firstWrong cX6_firstWrong 2 (some .int) ∈ AL := uw_3_in _ (List.mem_of_getElem? (i := 22) rfl)
theorem aw_417 : Cond.methodLink RX6 39 yX6_takes ∈ AL := uw_3_in _ (List.mem_of_getElem? (i := 23) rfl)
theorem aw_419 : Cond.instanceMethod yX6_takes ∈ AL := uw_3_in _ (List.mem_of_getElem? (i := 24) rfl)
theorem aw_420 : Cond.code yX6_takes cX6_takes 3 (some .boolean) ∈ AL := uw_3_in _ (List.mem_of_getElem? (i := 25) rfl)
theorem aw_421 : Cond.methodLink RX6 47 yX6_takesRowEnd ∈ AL := uw_3_in _ (List.mem_of_getElem? (i := 26) rfl)
theorem aw_423 : Cond.instanceMethod yX6_takesRowEnd ∈ AL := uw_3_in _ (List.mem_of_getElem? (i := 27) rfl)
theorem aw_424 : Cond.code yX6_takesRowEnd cX6_takesRowEnd 2 (some .boolean) ∈ AL := uw_3_in _ (List.mem_of_getElem? (i := 28) rfl)
theorem aw_425 : Cond.methodLink RX6 51 yX7_wayOf ∈ AL := uw_3_in _ (List.mem_of_getElem? (i := 29) rfl)
theorem aw_426 : Cond.static yX7_wayOf ∈ AL := uw_3_in _ (List.mem_of_getElem? (i := 30) rfl)
theorem aw_427 : Cond.code yX7_wayOf cX7_wayOf 1 (some .int) ∈ AL := uw_3_in _ (List.mem_of_getElem? (i := 31) rfl)
theorem aw_428 : Cond.methodLink RX6 57 yX6_takesSquare ∈ AL := uw_3_in _ (List.mem_of_getElem? (i := 32) rfl)
theorem aw_430 : Cond.instanceMethod yX6_takesSquare ∈ AL := uw_3_in _ (List.mem_of_getElem? (i := 33) rfl)
theorem aw_431 : Cond.code yX6_takesSquare cX6_takesSquare 4 (some .boolean) ∈ AL := uw_3_in _ (List.mem_of_getElem? (i := 34) rfl)
theorem aw_435 : Cond.code yX9_sea cX9_sea 1 (some .int) ∈ AL := uw_3_in _ (List.mem_of_getElem? (i := 35) rfl)
theorem aw_436 : Cond.methodLink RX9 81 yX6_isSea ∈ AL := uw_3_in _ (List.mem_of_getElem? (i := 36) rfl)
theorem aw_437 : Cond.instanceMethod yX6_isSea ∈ AL := uw_3_in _ (List.mem_of_getElem? (i := 37) rfl)
theorem aw_438 : Cond.selects RX6 yX6_isSea yX6_isSea ∈ AL := uw_3_in _ (List.mem_of_getElem? (i := 38) rfl)
theorem aw_439 : Cond.code yX6_isSea cX6_isSea 1 (some .boolean) ∈ AL := uw_3_in _ (List.mem_of_getElem? (i := 39) rfl)
def uw_4 : List Cond := [Cond.methodLink RX6 43 yX6_firstWrong,
  Cond.methodLink RX9 85 yX7_lay,
  Cond.instanceMethod yX7_lay,
  Cond.selects RX7 yX7_lay yX7_lay,
  Cond.code yX7_lay cX7_lay 3 none,
  Cond.methodLink RX7 45 yX6_codeAt,
  Cond.instanceMethod yX6_codeAt,
  Cond.selects RX6 yX6_codeAt yX6_codeAt,
  Cond.code yX6_codeAt cX6_codeAt 2 (some .int),
  Cond.methodLink RX7 49 yX7_layLetter,
  Cond.instanceMethod yX7_layLetter,
  Cond.code yX7_layLetter cX7_layLetter 3 none,
  Cond.methodLink RX7 61 yX7_wayOf,
  Cond.methodLink RX7 53 yX7_measure,
  Cond.instanceMethod yX7_measure,
  Cond.code yX7_measure cX7_measure 4 none,
  Cond.methodLink RX7 67 Lib.Math.abs.name,
  Cond.static Lib.Math.abs.name,
  Cond.code Lib.Math.abs.name Lib.Math.abs.code 1 (some .int),
  Cond.methodLink RX7 58 yX7_openWays,
  Cond.instanceMethod yX7_openWays,
  Cond.code yX7_openWays cX7_openWays 6 none,
  Cond.methodLink RX7 72 yX7_beside,
  Cond.instanceMethod yX7_beside,
  Cond.code yX7_beside cX7_beside 4 (some .int),
  Cond.methodLink RX9 95 yX4_cutTo,
  Cond.instanceMethod yX4_cutTo,
  Cond.selects RX4 yX4_cutTo yX4_cutTo,
  Cond.code yX4_cutTo cX4_cutTo 2 none,
  Cond.methodLink RX4 25 Lib.Math.min.name,
  Cond.static Lib.Math.min.name,
  Cond.code Lib.Math.min.name Lib.Math.min.code 2 (some .int),
  Cond.methodLink RX4 31 Lib.Math.max.name,
  Cond.static Lib.Math.max.name,
  Cond.code Lib.Math.max.name Lib.Math.max.code 2 (some .int),
  Cond.instanceMethod yX9_square,
  Cond.selects RX9 yX9_square yX9_square,
  Cond.code yX9_square cX9_square 3 (some .int),
  Cond.methodLink RX9 105 yX7_has,
  Cond.instanceMethod yX7_has]
theorem uw_4_in : ∀ w ∈ uw_4, w ∈ AL := AL_of _ [440, 441, 442, 443, 444, 445, 446, 447, 448, 449, 451, 452, 453, 454, 456, 457, 458, 459, 460, 461, 463, 464, 465, 467, 468, 469, 470, 471, 472, 473, 474, 475, 476, 477, 478, 480, 481, 482, 483, 484] (by decide +kernel) (by decide +kernel)
theorem aw_440 : Cond.methodLink RX6 43 yX6_firstWrong ∈ AL := uw_4_in _ (List.mem_of_getElem? (i := 0) rfl)
theorem aw_441 : Cond.methodLink RX9 85 yX7_lay ∈ AL := uw_4_in _ (List.mem_of_getElem? (i := 1) rfl)
theorem aw_442 : Cond.instanceMethod yX7_lay ∈ AL := uw_4_in _ (List.mem_of_getElem? (i := 2) rfl)
theorem aw_443 : Cond.selects RX7 yX7_lay yX7_lay ∈ AL := uw_4_in _ (List.mem_of_getElem? (i := 3) rfl)
theorem aw_444 : Cond.code yX7_lay cX7_lay 3 none ∈ AL := uw_4_in _ (List.mem_of_getElem? (i := 4) rfl)
theorem aw_445 : Cond.methodLink RX7 45 yX6_codeAt ∈ AL := uw_4_in _ (List.mem_of_getElem? (i := 5) rfl)
theorem aw_446 : Cond.instanceMethod yX6_codeAt ∈ AL := uw_4_in _ (List.mem_of_getElem? (i := 6) rfl)
theorem aw_447 : Cond.selects RX6 yX6_codeAt yX6_codeAt ∈ AL := uw_4_in _ (List.mem_of_getElem? (i := 7) rfl)
theorem aw_448 : Cond.code yX6_codeAt cX6_codeAt 2 (some .int) ∈ AL := uw_4_in _ (List.mem_of_getElem? (i := 8) rfl)
theorem aw_449 : Cond.methodLink RX7 49 yX7_layLetter ∈ AL := uw_4_in _ (List.mem_of_getElem? (i := 9) rfl)
theorem aw_451 : Cond.instanceMethod yX7_layLetter ∈ AL := uw_4_in _ (List.mem_of_getElem? (i := 10) rfl)
theorem aw_452 : Cond.code yX7_layLetter cX7_layLetter 3 none ∈ AL := uw_4_in _ (List.mem_of_getElem? (i := 11) rfl)
theorem aw_453 : Cond.methodLink RX7 61 yX7_wayOf ∈ AL := uw_4_in _ (List.mem_of_getElem? (i := 12) rfl)
theorem aw_454 : Cond.methodLink RX7 53 yX7_measure ∈ AL := uw_4_in _ (List.mem_of_getElem? (i := 13) rfl)
theorem aw_456 : Cond.instanceMethod yX7_measure ∈ AL := uw_4_in _ (List.mem_of_getElem? (i := 14) rfl)
theorem aw_457 : Cond.code yX7_measure cX7_measure 4 none ∈ AL := uw_4_in _ (List.mem_of_getElem? (i := 15) rfl)
theorem aw_458 : Cond.methodLink RX7 67 Lib.Math.abs.name ∈ AL := uw_4_in _ (List.mem_of_getElem? (i := 16) rfl)
theorem aw_459 : Cond.static Lib.Math.abs.name ∈ AL := uw_4_in _ (List.mem_of_getElem? (i := 17) rfl)
theorem aw_460 : Cond.code Lib.Math.abs.name Lib.Math.abs.code 1 (some .int) ∈ AL := uw_4_in _ (List.mem_of_getElem? (i := 18) rfl)
theorem aw_461 : Cond.methodLink RX7 58 yX7_openWays ∈ AL := uw_4_in _ (List.mem_of_getElem? (i := 19) rfl)
theorem aw_463 : Cond.instanceMethod yX7_openWays ∈ AL := uw_4_in _ (List.mem_of_getElem? (i := 20) rfl)
theorem aw_464 : Cond.code yX7_openWays cX7_openWays 6 none ∈ AL := uw_4_in _ (List.mem_of_getElem? (i := 21) rfl)
theorem aw_465 : Cond.methodLink RX7 72 yX7_beside ∈ AL := uw_4_in _ (List.mem_of_getElem? (i := 22) rfl)
theorem aw_467 : Cond.instanceMethod yX7_beside ∈ AL := uw_4_in _ (List.mem_of_getElem? (i := 23) rfl)
theorem aw_468 : Cond.code yX7_beside cX7_beside 4 (some .int) ∈ AL := uw_4_in _ (List.mem_of_getElem? (i := 24) rfl)
theorem aw_469 : Cond.methodLink RX9 95 yX4_cutTo ∈ AL := uw_4_in _ (List.mem_of_getElem? (i := 25) rfl)
theorem aw_470 : Cond.instanceMethod yX4_cutTo ∈ AL := uw_4_in _ (List.mem_of_getElem? (i := 26) rfl)
theorem aw_471 : Cond.selects RX4 yX4_cutTo yX4_cutTo ∈ AL := uw_4_in _ (List.mem_of_getElem? (i := 27) rfl)
theorem aw_472 : Cond.code yX4_cutTo cX4_cutTo 2 none ∈ AL := uw_4_in _ (List.mem_of_getElem? (i := 28) rfl)
theorem aw_473 : Cond.methodLink RX4 25 Lib.Math.min.name ∈ AL := uw_4_in _ (List.mem_of_getElem? (i := 29) rfl)
theorem aw_474 : Cond.static Lib.Math.min.name ∈ AL := uw_4_in _ (List.mem_of_getElem? (i := 30) rfl)
theorem aw_475 : Cond.code Lib.Math.min.name Lib.Math.min.code 2 (some .int) ∈ AL := uw_4_in _ (List.mem_of_getElem? (i := 31) rfl)
theorem aw_476 : Cond.methodLink RX4 31 Lib.Math.max.name ∈ AL := uw_4_in _ (List.mem_of_getElem? (i := 32) rfl)
theorem aw_477 : Cond.static Lib.Math.max.name ∈ AL := uw_4_in _ (List.mem_of_getElem? (i := 33) rfl)
theorem aw_478 : Cond.code Lib.Math.max.name Lib.Math.max.code 2 (some .int) ∈ AL := uw_4_in _ (List.mem_of_getElem? (i := 34) rfl)
theorem aw_480 : Cond.instanceMethod yX9_square ∈ AL := uw_4_in _ (List.mem_of_getElem? (i := 35) rfl)
theorem aw_481 : Cond.selects RX9 yX9_square yX9_square ∈ AL := uw_4_in _ (List.mem_of_getElem? (i := 36) rfl)
theorem aw_482 : Cond.code yX9_square cX9_square 3 (some .int) ∈ AL := uw_4_in _ (List.mem_of_getElem? (i := 37) rfl)
theorem aw_483 : Cond.methodLink RX9 105 yX7_has ∈ AL := uw_4_in _ (List.mem_of_getElem? (i := 38) rfl)
theorem aw_484 : Cond.instanceMethod yX7_has ∈ AL := uw_4_in _ (List.mem_of_getElem? (i := 39) rfl)
def uw_5 : List Cond := [Cond.selects RX7 yX7_has yX7_has,
  Cond.code yX7_has cX7_has 2 (some .boolean),
  Cond.code yX9_berg cX9_berg 6 (some .int),
  Cond.methodLink RX9 119 yX0_isKind,
  Cond.static yX0_isKind,
  Cond.code yX0_isKind cX0_isKind 1 (some .boolean),
  Cond.methodLink RX9 122 yX7_hasWarmth,
  Cond.instanceMethod yX7_hasWarmth,
  Cond.selects RX7 yX7_hasWarmth yX7_hasWarmth,
  Cond.code yX7_hasWarmth cX7_hasWarmth 2 (some .boolean),
  Cond.methodLink RX7 33 yX7_has,
  Cond.methodLink RX9 125 yX9_isSize,
  Cond.static yX9_isSize,
  Cond.code yX9_isSize cX9_isSize 1 (some .boolean),
  Cond.methodLink RX9 128 yX9_isFoot,
  Cond.static yX9_isFoot,
  Cond.code yX9_isFoot cX9_isFoot 1 (some .boolean),
  Cond.methodLink RX9 131 yX0_mayBreak,
  Cond.static yX0_mayBreak,
  Cond.code yX0_mayBreak cX0_mayBreak 2 (some .boolean),
  Cond.methodLink RX9 135 yX0_become,
  Cond.instanceMethod yX0_become,
  Cond.selects RX0 yX0_become yX0_become,
  Cond.code yX0_become cX0_become 6 none,
  Cond.methodLink RX9 139 yX3_forget,
  Cond.instanceMethod yX3_forget,
  Cond.selects RX3 yX3_forget yX3_forget,
  Cond.code yX3_forget cX3_forget 2 none,
  Cond.code yX9_as cX9_as 3 (some .int),
  Cond.methodLink RX9 142 yX9_isBerg,
  Cond.instanceMethod yX9_isBerg,
  Cond.code yX9_isBerg cX9_isBerg 2 (some .boolean),
  Cond.methodLink RX9 145 yX0_isA,
  Cond.instanceMethod yX0_isA,
  Cond.selects RX0 yX0_isA yX0_isA,
  Cond.code yX0_isA cX0_isA 2 (some .boolean),
  Cond.instanceMethod yX9_about,
  Cond.selects RX9 yX9_about yX9_about,
  Cond.code yX9_about cX9_about 3 (some .int),
  Cond.code yX9_change cX9_change 8 (some .int)]
theorem uw_5_in : ∀ w ∈ uw_5, w ∈ AL := AL_of _ [485, 486, 490, 491, 492, 493, 494, 495, 496, 497, 498, 499, 500, 501, 502, 503, 504, 505, 506, 507, 508, 509, 510, 511, 512, 513, 514, 515, 519, 520, 522, 523, 524, 525, 526, 527, 529, 530, 531, 535] (by decide +kernel) (by decide +kernel)
theorem aw_485 : Cond.selects RX7 yX7_has yX7_has ∈ AL := uw_5_in _ (List.mem_of_getElem? (i := 0) rfl)
theorem aw_486 : Cond.code yX7_has cX7_has 2 (some .boolean) ∈ AL := uw_5_in _ (List.mem_of_getElem? (i := 1) rfl)
theorem aw_490 : Cond.code yX9_berg cX9_berg 6 (some .int) ∈ AL := uw_5_in _ (List.mem_of_getElem? (i := 2) rfl)
theorem aw_491 : Cond.methodLink RX9 119 yX0_isKind ∈ AL := uw_5_in _ (List.mem_of_getElem? (i := 3) rfl)
theorem aw_492 : Cond.static yX0_isKind ∈ AL := uw_5_in _ (List.mem_of_getElem? (i := 4) rfl)
theorem aw_493 : Cond.code yX0_isKind cX0_isKind 1 (some .boolean) ∈ AL := uw_5_in _ (List.mem_of_getElem? (i := 5) rfl)
theorem aw_494 : Cond.methodLink RX9 122 yX7_hasWarmth ∈ AL := uw_5_in _ (List.mem_of_getElem? (i := 6) rfl)
theorem aw_495 : Cond.instanceMethod yX7_hasWarmth ∈ AL := uw_5_in _ (List.mem_of_getElem? (i := 7) rfl)
theorem aw_496 : Cond.selects RX7 yX7_hasWarmth yX7_hasWarmth ∈ AL := uw_5_in _ (List.mem_of_getElem? (i := 8) rfl)
theorem aw_497 : Cond.code yX7_hasWarmth cX7_hasWarmth 2 (some .boolean) ∈ AL := uw_5_in _ (List.mem_of_getElem? (i := 9) rfl)
theorem aw_498 : Cond.methodLink RX7 33 yX7_has ∈ AL := uw_5_in _ (List.mem_of_getElem? (i := 10) rfl)
theorem aw_499 : Cond.methodLink RX9 125 yX9_isSize ∈ AL := uw_5_in _ (List.mem_of_getElem? (i := 11) rfl)
theorem aw_500 : Cond.static yX9_isSize ∈ AL := uw_5_in _ (List.mem_of_getElem? (i := 12) rfl)
theorem aw_501 : Cond.code yX9_isSize cX9_isSize 1 (some .boolean) ∈ AL := uw_5_in _ (List.mem_of_getElem? (i := 13) rfl)
theorem aw_502 : Cond.methodLink RX9 128 yX9_isFoot ∈ AL := uw_5_in _ (List.mem_of_getElem? (i := 14) rfl)
theorem aw_503 : Cond.static yX9_isFoot ∈ AL := uw_5_in _ (List.mem_of_getElem? (i := 15) rfl)
theorem aw_504 : Cond.code yX9_isFoot cX9_isFoot 1 (some .boolean) ∈ AL := uw_5_in _ (List.mem_of_getElem? (i := 16) rfl)
theorem aw_505 : Cond.methodLink RX9 131 yX0_mayBreak ∈ AL := uw_5_in _ (List.mem_of_getElem? (i := 17) rfl)
theorem aw_506 : Cond.static yX0_mayBreak ∈ AL := uw_5_in _ (List.mem_of_getElem? (i := 18) rfl)
theorem aw_507 : Cond.code yX0_mayBreak cX0_mayBreak 2 (some .boolean) ∈ AL := uw_5_in _ (List.mem_of_getElem? (i := 19) rfl)
theorem aw_508 : Cond.methodLink RX9 135 yX0_become ∈ AL := uw_5_in _ (List.mem_of_getElem? (i := 20) rfl)
theorem aw_509 : Cond.instanceMethod yX0_become ∈ AL := uw_5_in _ (List.mem_of_getElem? (i := 21) rfl)
theorem aw_510 : Cond.selects RX0 yX0_become yX0_become ∈ AL := uw_5_in _ (List.mem_of_getElem? (i := 22) rfl)
theorem aw_511 : Cond.code yX0_become cX0_become 6 none ∈ AL := uw_5_in _ (List.mem_of_getElem? (i := 23) rfl)
theorem aw_512 : Cond.methodLink RX9 139 yX3_forget ∈ AL := uw_5_in _ (List.mem_of_getElem? (i := 24) rfl)
theorem aw_513 : Cond.instanceMethod yX3_forget ∈ AL := uw_5_in _ (List.mem_of_getElem? (i := 25) rfl)
theorem aw_514 : Cond.selects RX3 yX3_forget yX3_forget ∈ AL := uw_5_in _ (List.mem_of_getElem? (i := 26) rfl)
theorem aw_515 : Cond.code yX3_forget cX3_forget 2 none ∈ AL := uw_5_in _ (List.mem_of_getElem? (i := 27) rfl)
theorem aw_519 : Cond.code yX9_as cX9_as 3 (some .int) ∈ AL := uw_5_in _ (List.mem_of_getElem? (i := 28) rfl)
theorem aw_520 : Cond.methodLink RX9 142 yX9_isBerg ∈ AL := uw_5_in _ (List.mem_of_getElem? (i := 29) rfl)
theorem aw_522 : Cond.instanceMethod yX9_isBerg ∈ AL := uw_5_in _ (List.mem_of_getElem? (i := 30) rfl)
theorem aw_523 : Cond.code yX9_isBerg cX9_isBerg 2 (some .boolean) ∈ AL := uw_5_in _ (List.mem_of_getElem? (i := 31) rfl)
theorem aw_524 : Cond.methodLink RX9 145 yX0_isA ∈ AL := uw_5_in _ (List.mem_of_getElem? (i := 32) rfl)
theorem aw_525 : Cond.instanceMethod yX0_isA ∈ AL := uw_5_in _ (List.mem_of_getElem? (i := 33) rfl)
theorem aw_526 : Cond.selects RX0 yX0_isA yX0_isA ∈ AL := uw_5_in _ (List.mem_of_getElem? (i := 34) rfl)
theorem aw_527 : Cond.code yX0_isA cX0_isA 2 (some .boolean) ∈ AL := uw_5_in _ (List.mem_of_getElem? (i := 35) rfl)
theorem aw_529 : Cond.instanceMethod yX9_about ∈ AL := uw_5_in _ (List.mem_of_getElem? (i := 36) rfl)
theorem aw_530 : Cond.selects RX9 yX9_about yX9_about ∈ AL := uw_5_in _ (List.mem_of_getElem? (i := 37) rfl)
theorem aw_531 : Cond.code yX9_about cX9_about 3 (some .int) ∈ AL := uw_5_in _ (List.mem_of_getElem? (i := 38) rfl)
theorem aw_535 : Cond.code yX9_change cX9_change 8 (some .int) ∈ AL := uw_5_in _ (List.mem_of_getElem? (i := 39) rfl)
def uw_6 : List Cond := [Cond.code yX9_coin cX9_coin 3 (some .int),
  Cond.methodLink RX9 163 yX1_mayBe,
  Cond.instanceMethod yX1_mayBe,
  Cond.selects RX1 yX1_mayBe yX1_mayBe,
  Cond.code yX1_mayBe cX1_mayBe 3 (some .boolean),
  Cond.fieldLink RX1 13 "IceForCoast$Coins" "LEAST" "[I",
  Cond.fieldLink RX1 16 "IceForCoast$Coins" "MOST" "[I",
  Cond.methodLink RX9 168 yX3_forgetAll,
  Cond.instanceMethod yX3_forgetAll,
  Cond.selects RX3 yX3_forgetAll yX3_forgetAll,
  Cond.code yX3_forgetAll cX3_forgetAll 2 none,
  Cond.methodLink RX9 171 yX1_put,
  Cond.instanceMethod yX1_put,
  Cond.selects RX1 yX1_put yX1_put,
  Cond.code yX1_put cX1_put 4 (some .int),
  Cond.instanceMethod yX9_tow,
  Cond.selects RX9 yX9_tow yX9_tow,
  Cond.code yX9_tow cX9_tow 6 (some .int),
  Cond.constant RX9 175 (-100101),
  Cond.methodLink RX9 176 yX9_isTugs,
  Cond.static yX9_isTugs,
  Cond.code yX9_isTugs cX9_isTugs 1 (some .boolean),
  Cond.constant RX9 179 (-100102),
  Cond.methodLink RX9 180 yX9_hasWay,
  Cond.instanceMethod yX9_hasWay,
  Cond.code yX9_hasWay cX9_hasWay 2 (some .boolean),
  Cond.constant RX9 183 (-100001),
  Cond.methodLink RX9 184 yX8_seek,
  Cond.instanceMethod yX8_seek,
  Cond.selects RX8 yX8_seek yX8_seek,
  Cond.code yX8_seek cX8_seek 5 none,
  Cond.methodLink RX8 52 Lib.Math.max.name,
  Cond.methodLink RX8 74 yX8_follow,
  Cond.static yX8_follow,
  Cond.code yX8_follow cX8_follow 5 none,
  Cond.methodLink RX8 99 yX8_isHopeless,
  Cond.instanceMethod yX8_isHopeless,
  Cond.code yX8_isHopeless cX8_isHopeless 3 (some .boolean),
  Cond.methodLink RX8 110 yX1_gainOf,
  Cond.instanceMethod yX1_gainOf]
theorem uw_6_in : ∀ w ∈ uw_6, w ∈ AL := AL_of _ [539, 540, 541, 542, 543, 544, 546, 548, 549, 550, 551, 552, 553, 554, 555, 557, 558, 559, 560, 561, 562, 563, 564, 565, 567, 568, 569, 570, 571, 572, 573, 574, 575, 576, 577, 578, 580, 581, 582, 583] (by decide +kernel) (by decide +kernel)
theorem aw_539 : Cond.code yX9_coin cX9_coin 3 (some .int) ∈ AL := uw_6_in _ (List.mem_of_getElem? (i := 0) rfl)
theorem aw_540 : Cond.methodLink RX9 163 yX1_mayBe ∈ AL := uw_6_in _ (List.mem_of_getElem? (i := 1) rfl)
theorem aw_541 : Cond.instanceMethod yX1_mayBe ∈ AL := uw_6_in _ (List.mem_of_getElem? (i := 2) rfl)
theorem aw_542 : Cond.selects RX1 yX1_mayBe yX1_mayBe ∈ AL := uw_6_in _ (List.mem_of_getElem? (i := 3) rfl)
theorem aw_543 : Cond.code yX1_mayBe cX1_mayBe 3 (some .boolean) ∈ AL := uw_6_in _ (List.mem_of_getElem? (i := 4) rfl)
theorem aw_544 : Cond.fieldLink RX1 13 "IceForCoast$Coins" "LEAST" "[I" ∈ AL := uw_6_in _ (List.mem_of_getElem? (i := 5) rfl)
theorem aw_546 : Cond.fieldLink RX1 16 "IceForCoast$Coins" "MOST" "[I" ∈ AL := uw_6_in _ (List.mem_of_getElem? (i := 6) rfl)
theorem aw_548 : Cond.methodLink RX9 168 yX3_forgetAll ∈ AL := uw_6_in _ (List.mem_of_getElem? (i := 7) rfl)
theorem aw_549 : Cond.instanceMethod yX3_forgetAll ∈ AL := uw_6_in _ (List.mem_of_getElem? (i := 8) rfl)
theorem aw_550 : Cond.selects RX3 yX3_forgetAll yX3_forgetAll ∈ AL := uw_6_in _ (List.mem_of_getElem? (i := 9) rfl)
theorem aw_551 : Cond.code yX3_forgetAll cX3_forgetAll 2 none ∈ AL := uw_6_in _ (List.mem_of_getElem? (i := 10) rfl)
theorem aw_552 : Cond.methodLink RX9 171 yX1_put ∈ AL := uw_6_in _ (List.mem_of_getElem? (i := 11) rfl)
theorem aw_553 : Cond.instanceMethod yX1_put ∈ AL := uw_6_in _ (List.mem_of_getElem? (i := 12) rfl)
theorem aw_554 : Cond.selects RX1 yX1_put yX1_put ∈ AL := uw_6_in _ (List.mem_of_getElem? (i := 13) rfl)
theorem aw_555 : Cond.code yX1_put cX1_put 4 (some .int) ∈ AL := uw_6_in _ (List.mem_of_getElem? (i := 14) rfl)
theorem aw_557 : Cond.instanceMethod yX9_tow ∈ AL := uw_6_in _ (List.mem_of_getElem? (i := 15) rfl)
theorem aw_558 : Cond.selects RX9 yX9_tow yX9_tow ∈ AL := uw_6_in _ (List.mem_of_getElem? (i := 16) rfl)
theorem aw_559 : Cond.code yX9_tow cX9_tow 6 (some .int) ∈ AL := uw_6_in _ (List.mem_of_getElem? (i := 17) rfl)
theorem aw_560 : Cond.constant RX9 175 (-100101) ∈ AL := uw_6_in _ (List.mem_of_getElem? (i := 18) rfl)
theorem aw_561 : Cond.methodLink RX9 176 yX9_isTugs ∈ AL := uw_6_in _ (List.mem_of_getElem? (i := 19) rfl)
theorem aw_562 : Cond.static yX9_isTugs ∈ AL := uw_6_in _ (List.mem_of_getElem? (i := 20) rfl)
theorem aw_563 : Cond.code yX9_isTugs cX9_isTugs 1 (some .boolean) ∈ AL := uw_6_in _ (List.mem_of_getElem? (i := 21) rfl)
theorem aw_564 : Cond.constant RX9 179 (-100102) ∈ AL := uw_6_in _ (List.mem_of_getElem? (i := 22) rfl)
theorem aw_565 : Cond.methodLink RX9 180 yX9_hasWay ∈ AL := uw_6_in _ (List.mem_of_getElem? (i := 23) rfl)
theorem aw_567 : Cond.instanceMethod yX9_hasWay ∈ AL := uw_6_in _ (List.mem_of_getElem? (i := 24) rfl)
theorem aw_568 : Cond.code yX9_hasWay cX9_hasWay 2 (some .boolean) ∈ AL := uw_6_in _ (List.mem_of_getElem? (i := 25) rfl)
theorem aw_569 : Cond.constant RX9 183 (-100001) ∈ AL := uw_6_in _ (List.mem_of_getElem? (i := 26) rfl)
theorem aw_570 : Cond.methodLink RX9 184 yX8_seek ∈ AL := uw_6_in _ (List.mem_of_getElem? (i := 27) rfl)
theorem aw_571 : Cond.instanceMethod yX8_seek ∈ AL := uw_6_in _ (List.mem_of_getElem? (i := 28) rfl)
theorem aw_572 : Cond.selects RX8 yX8_seek yX8_seek ∈ AL := uw_6_in _ (List.mem_of_getElem? (i := 29) rfl)
theorem aw_573 : Cond.code yX8_seek cX8_seek 5 none ∈ AL := uw_6_in _ (List.mem_of_getElem? (i := 30) rfl)
theorem aw_574 : Cond.methodLink RX8 52 Lib.Math.max.name ∈ AL := uw_6_in _ (List.mem_of_getElem? (i := 31) rfl)
theorem aw_575 : Cond.methodLink RX8 74 yX8_follow ∈ AL := uw_6_in _ (List.mem_of_getElem? (i := 32) rfl)
theorem aw_576 : Cond.static yX8_follow ∈ AL := uw_6_in _ (List.mem_of_getElem? (i := 33) rfl)
theorem aw_577 : Cond.code yX8_follow cX8_follow 5 none ∈ AL := uw_6_in _ (List.mem_of_getElem? (i := 34) rfl)
theorem aw_578 : Cond.methodLink RX8 99 yX8_isHopeless ∈ AL := uw_6_in _ (List.mem_of_getElem? (i := 35) rfl)
theorem aw_580 : Cond.instanceMethod yX8_isHopeless ∈ AL := uw_6_in _ (List.mem_of_getElem? (i := 36) rfl)
theorem aw_581 : Cond.code yX8_isHopeless cX8_isHopeless 3 (some .boolean) ∈ AL := uw_6_in _ (List.mem_of_getElem? (i := 37) rfl)
theorem aw_582 : Cond.methodLink RX8 110 yX1_gainOf ∈ AL := uw_6_in _ (List.mem_of_getElem? (i := 38) rfl)
theorem aw_583 : Cond.instanceMethod yX1_gainOf ∈ AL := uw_6_in _ (List.mem_of_getElem? (i := 39) rfl)
def uw_7 : List Cond := [Cond.selects RX1 yX1_gainOf yX1_gainOf,
  Cond.code yX1_gainOf cX1_gainOf 5 (some .int),
  Cond.methodLink RX8 106 yX8_choose,
  Cond.instanceMethod yX8_choose,
  Cond.code yX8_choose cX8_choose 2 none,
  Cond.methodLink RX8 117 arraycopyName,
  Cond.static arraycopyName,
  Cond.native arraycopyName,
  Cond.methodLink RX8 85 yX8_pass,
  Cond.instanceMethod yX8_pass,
  Cond.code yX8_pass cX8_pass 10 none,
  Cond.methodLink RX8 123 yX8_daysOfStep,
  Cond.instanceMethod yX8_daysOfStep,
  Cond.code yX8_daysOfStep cX8_daysOfStep 6 (some .int),
  Cond.methodLink RX8 130 yX8_drawnWarmth,
  Cond.instanceMethod yX8_drawnWarmth,
  Cond.code yX8_drawnWarmth cX8_drawnWarmth 3 (some .int),
  Cond.constantLong RX8 146 (1103515245),
  Cond.constantLong RX8 148 (12345),
  Cond.constantLong RX8 150 (2147483648),
  Cond.constantLong RX8 152 (65536),
  Cond.constantLong RX8 154 (3),
  Cond.methodLink RX8 134 yX0_meltOf,
  Cond.instanceMethod yX0_meltOf,
  Cond.selects RX0 yX0_meltOf yX0_meltOf,
  Cond.code yX0_meltOf cX0_meltOf 5 (some .int),
  Cond.methodLink RX8 140 yX0_breaksOn,
  Cond.instanceMethod yX0_breaksOn,
  Cond.selects RX0 yX0_breaksOn yX0_breaksOn,
  Cond.code yX0_breaksOn cX0_breaksOn 2 (some .boolean),
  Cond.methodLink RX9 200 yX8_stepAt,
  Cond.instanceMethod yX8_stepAt,
  Cond.selects RX8 yX8_stepAt yX8_stepAt,
  Cond.code yX8_stepAt cX8_stepAt 2 (some .int),
  Cond.instanceMethod yX9_ways,
  Cond.selects RX9 yX9_ways yX9_ways,
  Cond.code yX9_ways cX9_ways 2 (some .int),
  Cond.instanceMethod yX9_best,
  Cond.selects RX9 yX9_best yX9_best,
  Cond.code yX9_best cX9_best 4 (some .int)]
theorem uw_7_in : ∀ w ∈ uw_7, w ∈ AL := AL_of _ [584, 585, 586, 588, 589, 590, 591, 592, 593, 595, 596, 597, 599, 600, 601, 603, 604, 605, 606, 607, 608, 609, 610, 611, 612, 613, 614, 615, 616, 617, 618, 619, 620, 621, 623, 624, 625, 627, 628, 629] (by decide +kernel) (by decide +kernel)
theorem aw_584 : Cond.selects RX1 yX1_gainOf yX1_gainOf ∈ AL := uw_7_in _ (List.mem_of_getElem? (i := 0) rfl)
theorem aw_585 : Cond.code yX1_gainOf cX1_gainOf 5 (some .int) ∈ AL := uw_7_in _ (List.mem_of_getElem? (i := 1) rfl)
theorem aw_586 : Cond.methodLink RX8 106 yX8_choose ∈ AL := uw_7_in _ (List.mem_of_getElem? (i := 2) rfl)
theorem aw_588 : Cond.instanceMethod yX8_choose ∈ AL := uw_7_in _ (List.mem_of_getElem? (i := 3) rfl)
theorem aw_589 : Cond.code yX8_choose cX8_choose 2 none ∈ AL := uw_7_in _ (List.mem_of_getElem? (i := 4) rfl)
theorem aw_590 : Cond.methodLink RX8 117 arraycopyName ∈ AL := uw_7_in _ (List.mem_of_getElem? (i := 5) rfl)
theorem aw_591 : Cond.static arraycopyName ∈ AL := uw_7_in _ (List.mem_of_getElem? (i := 6) rfl)
theorem aw_592 : Cond.native arraycopyName ∈ AL := uw_7_in _ (List.mem_of_getElem? (i := 7) rfl)
theorem aw_593 : Cond.methodLink RX8 85 yX8_pass ∈ AL := uw_7_in _ (List.mem_of_getElem? (i := 8) rfl)
theorem aw_595 : Cond.instanceMethod yX8_pass ∈ AL := uw_7_in _ (List.mem_of_getElem? (i := 9) rfl)
theorem aw_596 : Cond.code yX8_pass cX8_pass 10 none ∈ AL := uw_7_in _ (List.mem_of_getElem? (i := 10) rfl)
theorem aw_597 : Cond.methodLink RX8 123 yX8_daysOfStep ∈ AL := uw_7_in _ (List.mem_of_getElem? (i := 11) rfl)
theorem aw_599 : Cond.instanceMethod yX8_daysOfStep ∈ AL := uw_7_in _ (List.mem_of_getElem? (i := 12) rfl)
theorem aw_600 : Cond.code yX8_daysOfStep cX8_daysOfStep 6 (some .int) ∈ AL := uw_7_in _ (List.mem_of_getElem? (i := 13) rfl)
theorem aw_601 : Cond.methodLink RX8 130 yX8_drawnWarmth ∈ AL := uw_7_in _ (List.mem_of_getElem? (i := 14) rfl)
theorem aw_603 : Cond.instanceMethod yX8_drawnWarmth ∈ AL := uw_7_in _ (List.mem_of_getElem? (i := 15) rfl)
theorem aw_604 : Cond.code yX8_drawnWarmth cX8_drawnWarmth 3 (some .int) ∈ AL := uw_7_in _ (List.mem_of_getElem? (i := 16) rfl)
theorem aw_605 : Cond.constantLong RX8 146 (1103515245) ∈ AL := uw_7_in _ (List.mem_of_getElem? (i := 17) rfl)
theorem aw_606 : Cond.constantLong RX8 148 (12345) ∈ AL := uw_7_in _ (List.mem_of_getElem? (i := 18) rfl)
theorem aw_607 : Cond.constantLong RX8 150 (2147483648) ∈ AL := uw_7_in _ (List.mem_of_getElem? (i := 19) rfl)
theorem aw_608 : Cond.constantLong RX8 152 (65536) ∈ AL := uw_7_in _ (List.mem_of_getElem? (i := 20) rfl)
theorem aw_609 : Cond.constantLong RX8 154 (3) ∈ AL := uw_7_in _ (List.mem_of_getElem? (i := 21) rfl)
theorem aw_610 : Cond.methodLink RX8 134 yX0_meltOf ∈ AL := uw_7_in _ (List.mem_of_getElem? (i := 22) rfl)
theorem aw_611 : Cond.instanceMethod yX0_meltOf ∈ AL := uw_7_in _ (List.mem_of_getElem? (i := 23) rfl)
theorem aw_612 : Cond.selects RX0 yX0_meltOf yX0_meltOf ∈ AL := uw_7_in _ (List.mem_of_getElem? (i := 24) rfl)
theorem aw_613 : Cond.code yX0_meltOf cX0_meltOf 5 (some .int) ∈ AL := uw_7_in _ (List.mem_of_getElem? (i := 25) rfl)
theorem aw_614 : Cond.methodLink RX8 140 yX0_breaksOn ∈ AL := uw_7_in _ (List.mem_of_getElem? (i := 26) rfl)
theorem aw_615 : Cond.instanceMethod yX0_breaksOn ∈ AL := uw_7_in _ (List.mem_of_getElem? (i := 27) rfl)
theorem aw_616 : Cond.selects RX0 yX0_breaksOn yX0_breaksOn ∈ AL := uw_7_in _ (List.mem_of_getElem? (i := 28) rfl)
theorem aw_617 : Cond.code yX0_breaksOn cX0_breaksOn 2 (some .boolean) ∈ AL := uw_7_in _ (List.mem_of_getElem? (i := 29) rfl)
theorem aw_618 : Cond.methodLink RX9 200 yX8_stepAt ∈ AL := uw_7_in _ (List.mem_of_getElem? (i := 30) rfl)
theorem aw_619 : Cond.instanceMethod yX8_stepAt ∈ AL := uw_7_in _ (List.mem_of_getElem? (i := 31) rfl)
theorem aw_620 : Cond.selects RX8 yX8_stepAt yX8_stepAt ∈ AL := uw_7_in _ (List.mem_of_getElem? (i := 32) rfl)
theorem aw_621 : Cond.code yX8_stepAt cX8_stepAt 2 (some .int) ∈ AL := uw_7_in _ (List.mem_of_getElem? (i := 33) rfl)
theorem aw_623 : Cond.instanceMethod yX9_ways ∈ AL := uw_7_in _ (List.mem_of_getElem? (i := 34) rfl)
theorem aw_624 : Cond.selects RX9 yX9_ways yX9_ways ∈ AL := uw_7_in _ (List.mem_of_getElem? (i := 35) rfl)
theorem aw_625 : Cond.code yX9_ways cX9_ways 2 (some .int) ∈ AL := uw_7_in _ (List.mem_of_getElem? (i := 36) rfl)
theorem aw_627 : Cond.instanceMethod yX9_best ∈ AL := uw_7_in _ (List.mem_of_getElem? (i := 37) rfl)
theorem aw_628 : Cond.selects RX9 yX9_best yX9_best ∈ AL := uw_7_in _ (List.mem_of_getElem? (i := 38) rfl)
theorem aw_629 : Cond.code yX9_best cX9_best 4 (some .int) ∈ AL := uw_7_in _ (List.mem_of_getElem? (i := 39) rfl)
def uw_8 : List Cond := [Cond.methodLink RX9 207 yX9_weigh,
  Cond.instanceMethod yX9_weigh,
  Cond.code yX9_weigh cX9_weigh 3 none,
  Cond.methodLink RX9 213 yX3_tugsOf,
  Cond.static yX3_tugsOf,
  Cond.code yX3_tugsOf cX3_tugsOf 1 (some .int),
  Cond.methodLink RX9 216 yX3_hasSkirt,
  Cond.static yX3_hasSkirt,
  Cond.code yX3_hasSkirt cX3_hasSkirt 1 (some .boolean),
  Cond.methodLink RX9 210 yX3_bestEntry,
  Cond.instanceMethod yX3_bestEntry,
  Cond.selects RX3 yX3_bestEntry yX3_bestEntry,
  Cond.code yX3_bestEntry cX3_bestEntry 4 (some .int),
  Cond.instanceMethod yX9_season,
  Cond.selects RX9 yX9_season yX9_season,
  Cond.code yX9_season cX9_season 4 (some .int),
  Cond.methodLink RX9 223 yX3_deal,
  Cond.instanceMethod yX3_deal,
  Cond.selects RX3 yX3_deal yX3_deal,
  Cond.code yX3_deal cX3_deal 4 none,
  Cond.methodLink RX3 26 yX3_mostFrom,
  Cond.instanceMethod yX3_mostFrom,
  Cond.code yX3_mostFrom cX3_mostFrom 5 (some .int),
  Cond.methodLink RX3 30 yX3_gainBy,
  Cond.instanceMethod yX3_gainBy,
  Cond.code yX3_gainBy cX3_gainBy 3 (some .int),
  Cond.methodLink RX3 33 Lib.Math.max.name,
  Cond.methodLink RX9 229 yX3_tugsFor,
  Cond.instanceMethod yX3_tugsFor,
  Cond.selects RX3 yX3_tugsFor yX3_tugsFor,
  Cond.code yX3_tugsFor cX3_tugsFor 5 (some .int),
  Cond.methodLink RX3 38 yX3_fewestFor,
  Cond.instanceMethod yX3_fewestFor,
  Cond.code yX3_fewestFor cX3_fewestFor 4 (some .int),
  Cond.code yX9_more cX9_more 2 (some .int),
  Cond.methodLink RX9 232 yX9_season,
  Cond.code yX9_drawn cX9_drawn 6 (some .int),
  Cond.methodLink RX9 235 yX8_towAgain,
  Cond.instanceMethod yX8_towAgain,
  Cond.selects RX8 yX8_towAgain yX8_towAgain]
theorem uw_8_in : ∀ w ∈ uw_8, w ∈ AL := AL_of _ [630, 632, 633, 634, 635, 636, 637, 638, 639, 640, 641, 642, 643, 645, 646, 647, 648, 649, 650, 651, 652, 654, 655, 656, 658, 659, 660, 661, 662, 663, 664, 665, 667, 668, 672, 673, 677, 678, 679, 680] (by decide +kernel) (by decide +kernel)
theorem aw_630 : Cond.methodLink RX9 207 yX9_weigh ∈ AL := uw_8_in _ (List.mem_of_getElem? (i := 0) rfl)
theorem aw_632 : Cond.instanceMethod yX9_weigh ∈ AL := uw_8_in _ (List.mem_of_getElem? (i := 1) rfl)
theorem aw_633 : Cond.code yX9_weigh cX9_weigh 3 none ∈ AL := uw_8_in _ (List.mem_of_getElem? (i := 2) rfl)
theorem aw_634 : Cond.methodLink RX9 213 yX3_tugsOf ∈ AL := uw_8_in _ (List.mem_of_getElem? (i := 3) rfl)
theorem aw_635 : Cond.static yX3_tugsOf ∈ AL := uw_8_in _ (List.mem_of_getElem? (i := 4) rfl)
theorem aw_636 : Cond.code yX3_tugsOf cX3_tugsOf 1 (some .int) ∈ AL := uw_8_in _ (List.mem_of_getElem? (i := 5) rfl)
theorem aw_637 : Cond.methodLink RX9 216 yX3_hasSkirt ∈ AL := uw_8_in _ (List.mem_of_getElem? (i := 6) rfl)
theorem aw_638 : Cond.static yX3_hasSkirt ∈ AL := uw_8_in _ (List.mem_of_getElem? (i := 7) rfl)
theorem aw_639 : Cond.code yX3_hasSkirt cX3_hasSkirt 1 (some .boolean) ∈ AL := uw_8_in _ (List.mem_of_getElem? (i := 8) rfl)
theorem aw_640 : Cond.methodLink RX9 210 yX3_bestEntry ∈ AL := uw_8_in _ (List.mem_of_getElem? (i := 9) rfl)
theorem aw_641 : Cond.instanceMethod yX3_bestEntry ∈ AL := uw_8_in _ (List.mem_of_getElem? (i := 10) rfl)
theorem aw_642 : Cond.selects RX3 yX3_bestEntry yX3_bestEntry ∈ AL := uw_8_in _ (List.mem_of_getElem? (i := 11) rfl)
theorem aw_643 : Cond.code yX3_bestEntry cX3_bestEntry 4 (some .int) ∈ AL := uw_8_in _ (List.mem_of_getElem? (i := 12) rfl)
theorem aw_645 : Cond.instanceMethod yX9_season ∈ AL := uw_8_in _ (List.mem_of_getElem? (i := 13) rfl)
theorem aw_646 : Cond.selects RX9 yX9_season yX9_season ∈ AL := uw_8_in _ (List.mem_of_getElem? (i := 14) rfl)
theorem aw_647 : Cond.code yX9_season cX9_season 4 (some .int) ∈ AL := uw_8_in _ (List.mem_of_getElem? (i := 15) rfl)
theorem aw_648 : Cond.methodLink RX9 223 yX3_deal ∈ AL := uw_8_in _ (List.mem_of_getElem? (i := 16) rfl)
theorem aw_649 : Cond.instanceMethod yX3_deal ∈ AL := uw_8_in _ (List.mem_of_getElem? (i := 17) rfl)
theorem aw_650 : Cond.selects RX3 yX3_deal yX3_deal ∈ AL := uw_8_in _ (List.mem_of_getElem? (i := 18) rfl)
theorem aw_651 : Cond.code yX3_deal cX3_deal 4 none ∈ AL := uw_8_in _ (List.mem_of_getElem? (i := 19) rfl)
theorem aw_652 : Cond.methodLink RX3 26 yX3_mostFrom ∈ AL := uw_8_in _ (List.mem_of_getElem? (i := 20) rfl)
theorem aw_654 : Cond.instanceMethod yX3_mostFrom ∈ AL := uw_8_in _ (List.mem_of_getElem? (i := 21) rfl)
theorem aw_655 : Cond.code yX3_mostFrom cX3_mostFrom 5 (some .int) ∈ AL := uw_8_in _ (List.mem_of_getElem? (i := 22) rfl)
theorem aw_656 : Cond.methodLink RX3 30 yX3_gainBy ∈ AL := uw_8_in _ (List.mem_of_getElem? (i := 23) rfl)
theorem aw_658 : Cond.instanceMethod yX3_gainBy ∈ AL := uw_8_in _ (List.mem_of_getElem? (i := 24) rfl)
theorem aw_659 : Cond.code yX3_gainBy cX3_gainBy 3 (some .int) ∈ AL := uw_8_in _ (List.mem_of_getElem? (i := 25) rfl)
theorem aw_660 : Cond.methodLink RX3 33 Lib.Math.max.name ∈ AL := uw_8_in _ (List.mem_of_getElem? (i := 26) rfl)
theorem aw_661 : Cond.methodLink RX9 229 yX3_tugsFor ∈ AL := uw_8_in _ (List.mem_of_getElem? (i := 27) rfl)
theorem aw_662 : Cond.instanceMethod yX3_tugsFor ∈ AL := uw_8_in _ (List.mem_of_getElem? (i := 28) rfl)
theorem aw_663 : Cond.selects RX3 yX3_tugsFor yX3_tugsFor ∈ AL := uw_8_in _ (List.mem_of_getElem? (i := 29) rfl)
theorem aw_664 : Cond.code yX3_tugsFor cX3_tugsFor 5 (some .int) ∈ AL := uw_8_in _ (List.mem_of_getElem? (i := 30) rfl)
theorem aw_665 : Cond.methodLink RX3 38 yX3_fewestFor ∈ AL := uw_8_in _ (List.mem_of_getElem? (i := 31) rfl)
theorem aw_667 : Cond.instanceMethod yX3_fewestFor ∈ AL := uw_8_in _ (List.mem_of_getElem? (i := 32) rfl)
theorem aw_668 : Cond.code yX3_fewestFor cX3_fewestFor 4 (some .int) ∈ AL := uw_8_in _ (List.mem_of_getElem? (i := 33) rfl)
theorem aw_672 : Cond.code yX9_more cX9_more 2 (some .int) ∈ AL := uw_8_in _ (List.mem_of_getElem? (i := 34) rfl)
theorem aw_673 : Cond.methodLink RX9 232 yX9_season ∈ AL := uw_8_in _ (List.mem_of_getElem? (i := 35) rfl)
theorem aw_677 : Cond.code yX9_drawn cX9_drawn 6 (some .int) ∈ AL := uw_8_in _ (List.mem_of_getElem? (i := 36) rfl)
theorem aw_678 : Cond.methodLink RX9 235 yX8_towAgain ∈ AL := uw_8_in _ (List.mem_of_getElem? (i := 37) rfl)
theorem aw_679 : Cond.instanceMethod yX8_towAgain ∈ AL := uw_8_in _ (List.mem_of_getElem? (i := 38) rfl)
theorem aw_680 : Cond.selects RX8 yX8_towAgain yX8_towAgain ∈ AL := uw_8_in _ (List.mem_of_getElem? (i := 39) rfl)
def uw_9 : List Cond := [Cond.code yX8_towAgain cX8_towAgain 4 none,
  Cond.code yX9_came cX9_came 10 (some .int),
  Cond.code yX9_letOff cX9_letOff 8 (some .long),
  Cond.constantLong RX9 245 (-102),
  Cond.methodLink RX9 247 yX5_reckon,
  Cond.instanceMethod yX5_reckon,
  Cond.selects RX5 yX5_reckon yX5_reckon,
  Cond.code yX5_reckon cX5_reckon 9 none,
  Cond.methodLink RX5 19 yX5_letOffNow,
  Cond.instanceMethod yX5_letOffNow,
  Cond.code yX5_letOffNow cX5_letOffNow 3 (some .long),
  Cond.constantLong RX5 33 (10),
  Cond.methodLink RX5 45 Lib.Math.max.name,
  Cond.methodLink RX5 23 yX5_heldNow,
  Cond.instanceMethod yX5_heldNow,
  Cond.code yX5_heldNow cX5_heldNow 5 (some .long),
  Cond.methodLink RX5 27 Lib.MathLoose.max_long.x,
  Cond.static Lib.MathLoose.max_long.x,
  Cond.code Lib.MathLoose.max_long.x Lib.MathLoose.max_long.code 4 (some .long),
  Cond.static yX9_commonDivisor,
  Cond.code yX9_commonDivisor cX9_commonDivisor 7 (some .long),
  Cond.code yX9_line cX9_line 4 (some .int),
  Cond.methodLink RX9 261 yX9_isHouse,
  Cond.static yX9_isHouse,
  Cond.code yX9_isHouse cX9_isHouse 1 (some .boolean),
  Cond.methodLink RX9 264 yX4_add,
  Cond.instanceMethod yX4_add,
  Cond.selects RX4 yX4_add yX4_add,
  Cond.code yX4_add cX4_add 4 (some .boolean),
  Cond.code yX9_claims cX9_claims 11 (some .int),
  Cond.methodLink RX9 271 yX4_allIfFirst,
  Cond.instanceMethod yX4_allIfFirst,
  Cond.selects RX4 yX4_allIfFirst yX4_allIfFirst,
  Cond.code yX4_allIfFirst cX4_allIfFirst 6 (some .int),
  Cond.methodLink RX4 34 yX4_counts,
  Cond.instanceMethod yX4_counts,
  Cond.code yX4_counts cX4_counts 4 (some .boolean),
  Cond.methodLink RX9 275 yX4_sharesOf,
  Cond.instanceMethod yX4_sharesOf,
  Cond.selects RX4 yX4_sharesOf yX4_sharesOf]
theorem uw_9_in : ∀ w ∈ uw_9, w ∈ AL := AL_of _ [681, 685, 689, 690, 691, 692, 693, 694, 695, 697, 698, 699, 700, 701, 703, 704, 705, 706, 707, 709, 710, 714, 715, 716, 717, 718, 719, 720, 721, 725, 726, 727, 728, 729, 730, 732, 733, 734, 735, 736] (by decide +kernel) (by decide +kernel)
theorem aw_681 : Cond.code yX8_towAgain cX8_towAgain 4 none ∈ AL := uw_9_in _ (List.mem_of_getElem? (i := 0) rfl)
theorem aw_685 : Cond.code yX9_came cX9_came 10 (some .int) ∈ AL := uw_9_in _ (List.mem_of_getElem? (i := 1) rfl)
theorem aw_689 : Cond.code yX9_letOff cX9_letOff 8 (some .long) ∈ AL := uw_9_in _ (List.mem_of_getElem? (i := 2) rfl)
theorem aw_690 : Cond.constantLong RX9 245 (-102) ∈ AL := uw_9_in _ (List.mem_of_getElem? (i := 3) rfl)
theorem aw_691 : Cond.methodLink RX9 247 yX5_reckon ∈ AL := uw_9_in _ (List.mem_of_getElem? (i := 4) rfl)
theorem aw_692 : Cond.instanceMethod yX5_reckon ∈ AL := uw_9_in _ (List.mem_of_getElem? (i := 5) rfl)
theorem aw_693 : Cond.selects RX5 yX5_reckon yX5_reckon ∈ AL := uw_9_in _ (List.mem_of_getElem? (i := 6) rfl)
theorem aw_694 : Cond.code yX5_reckon cX5_reckon 9 none ∈ AL := uw_9_in _ (List.mem_of_getElem? (i := 7) rfl)
theorem aw_695 : Cond.methodLink RX5 19 yX5_letOffNow ∈ AL := uw_9_in _ (List.mem_of_getElem? (i := 8) rfl)
theorem aw_697 : Cond.instanceMethod yX5_letOffNow ∈ AL := uw_9_in _ (List.mem_of_getElem? (i := 9) rfl)
theorem aw_698 : Cond.code yX5_letOffNow cX5_letOffNow 3 (some .long) ∈ AL := uw_9_in _ (List.mem_of_getElem? (i := 10) rfl)
theorem aw_699 : Cond.constantLong RX5 33 (10) ∈ AL := uw_9_in _ (List.mem_of_getElem? (i := 11) rfl)
theorem aw_700 : Cond.methodLink RX5 45 Lib.Math.max.name ∈ AL := uw_9_in _ (List.mem_of_getElem? (i := 12) rfl)
theorem aw_701 : Cond.methodLink RX5 23 yX5_heldNow ∈ AL := uw_9_in _ (List.mem_of_getElem? (i := 13) rfl)
theorem aw_703 : Cond.instanceMethod yX5_heldNow ∈ AL := uw_9_in _ (List.mem_of_getElem? (i := 14) rfl)
theorem aw_704 : Cond.code yX5_heldNow cX5_heldNow 5 (some .long) ∈ AL := uw_9_in _ (List.mem_of_getElem? (i := 15) rfl)
theorem aw_705 : Cond.methodLink RX5 27 Lib.MathLoose.max_long.x ∈ AL := uw_9_in _ (List.mem_of_getElem? (i := 16) rfl)
theorem aw_706 : Cond.static Lib.MathLoose.max_long.x ∈ AL := uw_9_in _ (List.mem_of_getElem? (i := 17) rfl)
theorem aw_707 : Cond.code Lib.MathLoose.max_long.x Lib.MathLoose.max_long.code 4 (some .long) ∈ AL := uw_9_in _ (List.mem_of_getElem? (i := 18) rfl)
theorem aw_709 : Cond.static yX9_commonDivisor ∈ AL := uw_9_in _ (List.mem_of_getElem? (i := 19) rfl)
theorem aw_710 : Cond.code yX9_commonDivisor cX9_commonDivisor 7 (some .long) ∈ AL := uw_9_in _ (List.mem_of_getElem? (i := 20) rfl)
theorem aw_714 : Cond.code yX9_line cX9_line 4 (some .int) ∈ AL := uw_9_in _ (List.mem_of_getElem? (i := 21) rfl)
theorem aw_715 : Cond.methodLink RX9 261 yX9_isHouse ∈ AL := uw_9_in _ (List.mem_of_getElem? (i := 22) rfl)
theorem aw_716 : Cond.static yX9_isHouse ∈ AL := uw_9_in _ (List.mem_of_getElem? (i := 23) rfl)
theorem aw_717 : Cond.code yX9_isHouse cX9_isHouse 1 (some .boolean) ∈ AL := uw_9_in _ (List.mem_of_getElem? (i := 24) rfl)
theorem aw_718 : Cond.methodLink RX9 264 yX4_add ∈ AL := uw_9_in _ (List.mem_of_getElem? (i := 25) rfl)
theorem aw_719 : Cond.instanceMethod yX4_add ∈ AL := uw_9_in _ (List.mem_of_getElem? (i := 26) rfl)
theorem aw_720 : Cond.selects RX4 yX4_add yX4_add ∈ AL := uw_9_in _ (List.mem_of_getElem? (i := 27) rfl)
theorem aw_721 : Cond.code yX4_add cX4_add 4 (some .boolean) ∈ AL := uw_9_in _ (List.mem_of_getElem? (i := 28) rfl)
theorem aw_725 : Cond.code yX9_claims cX9_claims 11 (some .int) ∈ AL := uw_9_in _ (List.mem_of_getElem? (i := 29) rfl)
theorem aw_726 : Cond.methodLink RX9 271 yX4_allIfFirst ∈ AL := uw_9_in _ (List.mem_of_getElem? (i := 30) rfl)
theorem aw_727 : Cond.instanceMethod yX4_allIfFirst ∈ AL := uw_9_in _ (List.mem_of_getElem? (i := 31) rfl)
theorem aw_728 : Cond.selects RX4 yX4_allIfFirst yX4_allIfFirst ∈ AL := uw_9_in _ (List.mem_of_getElem? (i := 32) rfl)
theorem aw_729 : Cond.code yX4_allIfFirst cX4_allIfFirst 6 (some .int) ∈ AL := uw_9_in _ (List.mem_of_getElem? (i := 33) rfl)
theorem aw_730 : Cond.methodLink RX4 34 yX4_counts ∈ AL := uw_9_in _ (List.mem_of_getElem? (i := 34) rfl)
theorem aw_732 : Cond.instanceMethod yX4_counts ∈ AL := uw_9_in _ (List.mem_of_getElem? (i := 35) rfl)
theorem aw_733 : Cond.code yX4_counts cX4_counts 4 (some .boolean) ∈ AL := uw_9_in _ (List.mem_of_getElem? (i := 36) rfl)
theorem aw_734 : Cond.methodLink RX9 275 yX4_sharesOf ∈ AL := uw_9_in _ (List.mem_of_getElem? (i := 37) rfl)
theorem aw_735 : Cond.instanceMethod yX4_sharesOf ∈ AL := uw_9_in _ (List.mem_of_getElem? (i := 38) rfl)
theorem aw_736 : Cond.selects RX4 yX4_sharesOf yX4_sharesOf ∈ AL := uw_9_in _ (List.mem_of_getElem? (i := 39) rfl)
def uw_10 : List Cond := [Cond.code yX4_sharesOf cX4_sharesOf 7 (some .int),
  Cond.methodLink RX9 279 yX4_sharesOfAll,
  Cond.instanceMethod yX4_sharesOfAll,
  Cond.selects RX4 yX4_sharesOfAll yX4_sharesOfAll,
  Cond.code yX4_sharesOfAll cX4_sharesOfAll 6 (some .int),
  Cond.methodLink RX4 38 yX4_sharesOf,
  Cond.methodLink RX9 283 yX9_commonDivisor,
  Cond.code yX9_image cX9_image 1 (some .int),
  Cond.methodLink RX9 287 yX2_keep,
  Cond.instanceMethod yX2_keep,
  Cond.selects RX2 yX2_keep yX2_keep,
  Cond.code yX2_keep cX2_keep 5 none,
  Cond.methodLink RX2 25 Lib.Math.min.name,
  Cond.methodLink RX2 43 yX1_copy,
  Cond.instanceMethod yX1_copy,
  Cond.selects RX1 yX1_copy yX1_copy,
  Cond.code yX1_copy cX1_copy 2 none,
  Cond.methodLink RX1 19 arraycopyName,
  Cond.code yX9_restore cX9_restore 1 (some .int),
  Cond.methodLink RX9 297 yX2_giveBack,
  Cond.instanceMethod yX2_giveBack,
  Cond.selects RX2 yX2_giveBack yX2_giveBack,
  Cond.code yX2_giveBack cX2_giveBack 4 none,
  Cond.instanceMethod yX9_count,
  Cond.selects RX9 yX9_count yX9_count,
  Cond.code yX9_count cX9_count 2 (some .int),
  Cond.code yX9_digest cX9_digest 5 (some .long),
  Cond.constantLong RX9 306 (569),
  Cond.constantLong RX9 308 (31),
  Cond.methodLink RX9 310 yX9_square,
  Cond.methodLink RX9 312 yX9_about,
  Cond.methodLink RX9 315 yX9_ways,
  Cond.methodLink RX9 318 yX9_tow,
  Cond.methodLink RX9 322 yX9_best,
  Cond.methodLink RX9 334 yX6_codeAt,
  Cond.methodLink RX9 337 yX9_count,
  Cond.fieldLink RX10 7 "IceForCoastModel" "page" "[I",
  Cond.fieldLink RX10 74 "IceForCoastModel" "pageMany" "I",
  Cond.fieldLink RX10 92 "IceForCoastModel" "readRows" "I",
  Cond.fieldLink RX10 95 "IceForCoastModel" "readWide" "I"]
theorem uw_10_in : ∀ w ∈ uw_10, w ∈ AL := AL_of _ [737, 738, 739, 740, 741, 742, 743, 747, 748, 749, 750, 751, 752, 753, 754, 755, 756, 757, 761, 762, 763, 764, 765, 767, 768, 769, 773, 774, 775, 776, 777, 778, 779, 780, 781, 782, 789, 790, 791, 792] (by decide +kernel) (by decide +kernel)
theorem aw_737 : Cond.code yX4_sharesOf cX4_sharesOf 7 (some .int) ∈ AL := uw_10_in _ (List.mem_of_getElem? (i := 0) rfl)
theorem aw_738 : Cond.methodLink RX9 279 yX4_sharesOfAll ∈ AL := uw_10_in _ (List.mem_of_getElem? (i := 1) rfl)
theorem aw_739 : Cond.instanceMethod yX4_sharesOfAll ∈ AL := uw_10_in _ (List.mem_of_getElem? (i := 2) rfl)
theorem aw_740 : Cond.selects RX4 yX4_sharesOfAll yX4_sharesOfAll ∈ AL := uw_10_in _ (List.mem_of_getElem? (i := 3) rfl)
theorem aw_741 : Cond.code yX4_sharesOfAll cX4_sharesOfAll 6 (some .int) ∈ AL := uw_10_in _ (List.mem_of_getElem? (i := 4) rfl)
theorem aw_742 : Cond.methodLink RX4 38 yX4_sharesOf ∈ AL := uw_10_in _ (List.mem_of_getElem? (i := 5) rfl)
theorem aw_743 : Cond.methodLink RX9 283 yX9_commonDivisor ∈ AL := uw_10_in _ (List.mem_of_getElem? (i := 6) rfl)
theorem aw_747 : Cond.code yX9_image cX9_image 1 (some .int) ∈ AL := uw_10_in _ (List.mem_of_getElem? (i := 7) rfl)
theorem aw_748 : Cond.methodLink RX9 287 yX2_keep ∈ AL := uw_10_in _ (List.mem_of_getElem? (i := 8) rfl)
theorem aw_749 : Cond.instanceMethod yX2_keep ∈ AL := uw_10_in _ (List.mem_of_getElem? (i := 9) rfl)
theorem aw_750 : Cond.selects RX2 yX2_keep yX2_keep ∈ AL := uw_10_in _ (List.mem_of_getElem? (i := 10) rfl)
theorem aw_751 : Cond.code yX2_keep cX2_keep 5 none ∈ AL := uw_10_in _ (List.mem_of_getElem? (i := 11) rfl)
theorem aw_752 : Cond.methodLink RX2 25 Lib.Math.min.name ∈ AL := uw_10_in _ (List.mem_of_getElem? (i := 12) rfl)
theorem aw_753 : Cond.methodLink RX2 43 yX1_copy ∈ AL := uw_10_in _ (List.mem_of_getElem? (i := 13) rfl)
theorem aw_754 : Cond.instanceMethod yX1_copy ∈ AL := uw_10_in _ (List.mem_of_getElem? (i := 14) rfl)
theorem aw_755 : Cond.selects RX1 yX1_copy yX1_copy ∈ AL := uw_10_in _ (List.mem_of_getElem? (i := 15) rfl)
theorem aw_756 : Cond.code yX1_copy cX1_copy 2 none ∈ AL := uw_10_in _ (List.mem_of_getElem? (i := 16) rfl)
theorem aw_757 : Cond.methodLink RX1 19 arraycopyName ∈ AL := uw_10_in _ (List.mem_of_getElem? (i := 17) rfl)
theorem aw_761 : Cond.code yX9_restore cX9_restore 1 (some .int) ∈ AL := uw_10_in _ (List.mem_of_getElem? (i := 18) rfl)
theorem aw_762 : Cond.methodLink RX9 297 yX2_giveBack ∈ AL := uw_10_in _ (List.mem_of_getElem? (i := 19) rfl)
theorem aw_763 : Cond.instanceMethod yX2_giveBack ∈ AL := uw_10_in _ (List.mem_of_getElem? (i := 20) rfl)
theorem aw_764 : Cond.selects RX2 yX2_giveBack yX2_giveBack ∈ AL := uw_10_in _ (List.mem_of_getElem? (i := 21) rfl)
theorem aw_765 : Cond.code yX2_giveBack cX2_giveBack 4 none ∈ AL := uw_10_in _ (List.mem_of_getElem? (i := 22) rfl)
theorem aw_767 : Cond.instanceMethod yX9_count ∈ AL := uw_10_in _ (List.mem_of_getElem? (i := 23) rfl)
theorem aw_768 : Cond.selects RX9 yX9_count yX9_count ∈ AL := uw_10_in _ (List.mem_of_getElem? (i := 24) rfl)
theorem aw_769 : Cond.code yX9_count cX9_count 2 (some .int) ∈ AL := uw_10_in _ (List.mem_of_getElem? (i := 25) rfl)
theorem aw_773 : Cond.code yX9_digest cX9_digest 5 (some .long) ∈ AL := uw_10_in _ (List.mem_of_getElem? (i := 26) rfl)
theorem aw_774 : Cond.constantLong RX9 306 (569) ∈ AL := uw_10_in _ (List.mem_of_getElem? (i := 27) rfl)
theorem aw_775 : Cond.constantLong RX9 308 (31) ∈ AL := uw_10_in _ (List.mem_of_getElem? (i := 28) rfl)
theorem aw_776 : Cond.methodLink RX9 310 yX9_square ∈ AL := uw_10_in _ (List.mem_of_getElem? (i := 29) rfl)
theorem aw_777 : Cond.methodLink RX9 312 yX9_about ∈ AL := uw_10_in _ (List.mem_of_getElem? (i := 30) rfl)
theorem aw_778 : Cond.methodLink RX9 315 yX9_ways ∈ AL := uw_10_in _ (List.mem_of_getElem? (i := 31) rfl)
theorem aw_779 : Cond.methodLink RX9 318 yX9_tow ∈ AL := uw_10_in _ (List.mem_of_getElem? (i := 32) rfl)
theorem aw_780 : Cond.methodLink RX9 322 yX9_best ∈ AL := uw_10_in _ (List.mem_of_getElem? (i := 33) rfl)
theorem aw_781 : Cond.methodLink RX9 334 yX6_codeAt ∈ AL := uw_10_in _ (List.mem_of_getElem? (i := 34) rfl)
theorem aw_782 : Cond.methodLink RX9 337 yX9_count ∈ AL := uw_10_in _ (List.mem_of_getElem? (i := 35) rfl)
theorem aw_789 : Cond.fieldLink RX10 7 "IceForCoastModel" "page" "[I" ∈ AL := uw_10_in _ (List.mem_of_getElem? (i := 36) rfl)
theorem aw_790 : Cond.fieldLink RX10 74 "IceForCoastModel" "pageMany" "I" ∈ AL := uw_10_in _ (List.mem_of_getElem? (i := 37) rfl)
theorem aw_791 : Cond.fieldLink RX10 92 "IceForCoastModel" "readRows" "I" ∈ AL := uw_10_in _ (List.mem_of_getElem? (i := 38) rfl)
theorem aw_792 : Cond.fieldLink RX10 95 "IceForCoastModel" "readWide" "I" ∈ AL := uw_10_in _ (List.mem_of_getElem? (i := 39) rfl)
def uw_11 : List Cond := [Cond.fieldLink RX10 89 "IceForCoastModel" "readMany" "I",
  Cond.fieldLink RX10 106 "IceForCoastModel" "readHarbour" "I",
  Cond.fieldLink RX10 77 "IceForCoastModel" "mayFlow" "Z",
  Cond.fieldLink RX10 13 "IceForCoastModel" "readWarm" "[I",
  Cond.fieldLink RX10 16 "IceForCoastModel" "readFlow" "[I",
  Cond.fieldLink RX10 116 "IceForCoastModel" "rows" "I",
  Cond.fieldLink RX10 119 "IceForCoastModel" "wide" "I",
  Cond.fieldLink RX10 122 "IceForCoastModel" "harbour" "I",
  Cond.fieldLink RX10 131 "IceForCoastModel" "seasRead" "I",
  Cond.fieldLink RX10 19 "IceForCoastModel" "warm" "[I",
  Cond.fieldLink RX10 22 "IceForCoastModel" "flow" "[I",
  Cond.fieldLink RX10 125 "IceForCoastModel" "bergs" "I",
  Cond.fieldLink RX10 25 "IceForCoastModel" "bergRows" "[I",
  Cond.fieldLink RX10 63 "IceForCoastModel" "price" "I",
  Cond.fieldLink RX10 66 "IceForCoastModel" "wage" "I",
  Cond.fieldLink RX10 69 "IceForCoastModel" "cloth" "I",
  Cond.fieldLink RX10 128 "IceForCoastModel" "lines" "I",
  Cond.fieldLink RX10 28 "IceForCoastModel" "lineRows" "[I",
  Cond.fieldLink RX10 177 "IceForCoastModel" "kindNow" "I",
  Cond.fieldLink RX10 180 "IceForCoastModel" "sizeNow" "I",
  Cond.fieldLink RX10 186 "IceForCoastModel" "footNow" "I",
  Cond.fieldLink RX10 192 "IceForCoastModel" "everyNow" "I",
  Cond.fieldLink RX10 189 "IceForCoastModel" "daysNow" "I",
  Cond.fieldLink RX10 183 "IceForCoastModel" "hasSkirt" "Z",
  Cond.fieldLink RX10 195 "IceForCoastModel" "tugsNow" "I",
  Cond.fieldLink RX10 166 "IceForCoastModel" "seedNow" "I",
  Cond.fieldLink RX10 31 "IceForCoastModel" "way" "[I",
  Cond.fieldLink RX10 34 "IceForCoastModel" "places" "[I",
  Cond.fieldLink RX10 37 "IceForCoastModel" "bestWay" "[I",
  Cond.fieldLink RX10 225 "IceForCoastModel" "bestSteps" "I",
  Cond.fieldLink RX10 222 "IceForCoastModel" "bestWater" "I",
  Cond.fieldLink RX10 219 "IceForCoastModel" "bestDays" "I",
  Cond.fieldLink RX10 216 "IceForCoastModel" "bestGain" "I",
  Cond.fieldLink RX10 206 "IceForCoastModel" "wayMany" "I",
  Cond.fieldLink RX10 40 "IceForCoastModel" "gains" "[I",
  Cond.fieldLink RX10 43 "IceForCoastModel" "most" "[I",
  Cond.fieldLink RX10 271 "IceForCoastModel" "done" "I",
  Cond.fieldLink RX10 46 "IceForCoastModel" "waterNow" "[J",
  Cond.fieldLink RX10 50 "IceForCoastModel" "waterNext" "[J",
  Cond.fieldLink RX10 59 "IceForCoastModel" "kept" "I"]
theorem uw_11_in : ∀ w ∈ uw_11, w ∈ AL := AL_of _ [793, 794, 795, 796, 797, 798, 799, 800, 801, 802, 803, 804, 805, 806, 807, 808, 809, 810, 811, 812, 813, 814, 815, 816, 817, 818, 819, 820, 821, 822, 823, 824, 825, 826, 827, 828, 829, 830, 831, 832] (by decide +kernel) (by decide +kernel)
theorem aw_793 : Cond.fieldLink RX10 89 "IceForCoastModel" "readMany" "I" ∈ AL := uw_11_in _ (List.mem_of_getElem? (i := 0) rfl)
theorem aw_794 : Cond.fieldLink RX10 106 "IceForCoastModel" "readHarbour" "I" ∈ AL := uw_11_in _ (List.mem_of_getElem? (i := 1) rfl)
theorem aw_795 : Cond.fieldLink RX10 77 "IceForCoastModel" "mayFlow" "Z" ∈ AL := uw_11_in _ (List.mem_of_getElem? (i := 2) rfl)
theorem aw_796 : Cond.fieldLink RX10 13 "IceForCoastModel" "readWarm" "[I" ∈ AL := uw_11_in _ (List.mem_of_getElem? (i := 3) rfl)
theorem aw_797 : Cond.fieldLink RX10 16 "IceForCoastModel" "readFlow" "[I" ∈ AL := uw_11_in _ (List.mem_of_getElem? (i := 4) rfl)
theorem aw_798 : Cond.fieldLink RX10 116 "IceForCoastModel" "rows" "I" ∈ AL := uw_11_in _ (List.mem_of_getElem? (i := 5) rfl)
theorem aw_799 : Cond.fieldLink RX10 119 "IceForCoastModel" "wide" "I" ∈ AL := uw_11_in _ (List.mem_of_getElem? (i := 6) rfl)
theorem aw_800 : Cond.fieldLink RX10 122 "IceForCoastModel" "harbour" "I" ∈ AL := uw_11_in _ (List.mem_of_getElem? (i := 7) rfl)
theorem aw_801 : Cond.fieldLink RX10 131 "IceForCoastModel" "seasRead" "I" ∈ AL := uw_11_in _ (List.mem_of_getElem? (i := 8) rfl)
theorem aw_802 : Cond.fieldLink RX10 19 "IceForCoastModel" "warm" "[I" ∈ AL := uw_11_in _ (List.mem_of_getElem? (i := 9) rfl)
theorem aw_803 : Cond.fieldLink RX10 22 "IceForCoastModel" "flow" "[I" ∈ AL := uw_11_in _ (List.mem_of_getElem? (i := 10) rfl)
theorem aw_804 : Cond.fieldLink RX10 125 "IceForCoastModel" "bergs" "I" ∈ AL := uw_11_in _ (List.mem_of_getElem? (i := 11) rfl)
theorem aw_805 : Cond.fieldLink RX10 25 "IceForCoastModel" "bergRows" "[I" ∈ AL := uw_11_in _ (List.mem_of_getElem? (i := 12) rfl)
theorem aw_806 : Cond.fieldLink RX10 63 "IceForCoastModel" "price" "I" ∈ AL := uw_11_in _ (List.mem_of_getElem? (i := 13) rfl)
theorem aw_807 : Cond.fieldLink RX10 66 "IceForCoastModel" "wage" "I" ∈ AL := uw_11_in _ (List.mem_of_getElem? (i := 14) rfl)
theorem aw_808 : Cond.fieldLink RX10 69 "IceForCoastModel" "cloth" "I" ∈ AL := uw_11_in _ (List.mem_of_getElem? (i := 15) rfl)
theorem aw_809 : Cond.fieldLink RX10 128 "IceForCoastModel" "lines" "I" ∈ AL := uw_11_in _ (List.mem_of_getElem? (i := 16) rfl)
theorem aw_810 : Cond.fieldLink RX10 28 "IceForCoastModel" "lineRows" "[I" ∈ AL := uw_11_in _ (List.mem_of_getElem? (i := 17) rfl)
theorem aw_811 : Cond.fieldLink RX10 177 "IceForCoastModel" "kindNow" "I" ∈ AL := uw_11_in _ (List.mem_of_getElem? (i := 18) rfl)
theorem aw_812 : Cond.fieldLink RX10 180 "IceForCoastModel" "sizeNow" "I" ∈ AL := uw_11_in _ (List.mem_of_getElem? (i := 19) rfl)
theorem aw_813 : Cond.fieldLink RX10 186 "IceForCoastModel" "footNow" "I" ∈ AL := uw_11_in _ (List.mem_of_getElem? (i := 20) rfl)
theorem aw_814 : Cond.fieldLink RX10 192 "IceForCoastModel" "everyNow" "I" ∈ AL := uw_11_in _ (List.mem_of_getElem? (i := 21) rfl)
theorem aw_815 : Cond.fieldLink RX10 189 "IceForCoastModel" "daysNow" "I" ∈ AL := uw_11_in _ (List.mem_of_getElem? (i := 22) rfl)
theorem aw_816 : Cond.fieldLink RX10 183 "IceForCoastModel" "hasSkirt" "Z" ∈ AL := uw_11_in _ (List.mem_of_getElem? (i := 23) rfl)
theorem aw_817 : Cond.fieldLink RX10 195 "IceForCoastModel" "tugsNow" "I" ∈ AL := uw_11_in _ (List.mem_of_getElem? (i := 24) rfl)
theorem aw_818 : Cond.fieldLink RX10 166 "IceForCoastModel" "seedNow" "I" ∈ AL := uw_11_in _ (List.mem_of_getElem? (i := 25) rfl)
theorem aw_819 : Cond.fieldLink RX10 31 "IceForCoastModel" "way" "[I" ∈ AL := uw_11_in _ (List.mem_of_getElem? (i := 26) rfl)
theorem aw_820 : Cond.fieldLink RX10 34 "IceForCoastModel" "places" "[I" ∈ AL := uw_11_in _ (List.mem_of_getElem? (i := 27) rfl)
theorem aw_821 : Cond.fieldLink RX10 37 "IceForCoastModel" "bestWay" "[I" ∈ AL := uw_11_in _ (List.mem_of_getElem? (i := 28) rfl)
theorem aw_822 : Cond.fieldLink RX10 225 "IceForCoastModel" "bestSteps" "I" ∈ AL := uw_11_in _ (List.mem_of_getElem? (i := 29) rfl)
theorem aw_823 : Cond.fieldLink RX10 222 "IceForCoastModel" "bestWater" "I" ∈ AL := uw_11_in _ (List.mem_of_getElem? (i := 30) rfl)
theorem aw_824 : Cond.fieldLink RX10 219 "IceForCoastModel" "bestDays" "I" ∈ AL := uw_11_in _ (List.mem_of_getElem? (i := 31) rfl)
theorem aw_825 : Cond.fieldLink RX10 216 "IceForCoastModel" "bestGain" "I" ∈ AL := uw_11_in _ (List.mem_of_getElem? (i := 32) rfl)
theorem aw_826 : Cond.fieldLink RX10 206 "IceForCoastModel" "wayMany" "I" ∈ AL := uw_11_in _ (List.mem_of_getElem? (i := 33) rfl)
theorem aw_827 : Cond.fieldLink RX10 40 "IceForCoastModel" "gains" "[I" ∈ AL := uw_11_in _ (List.mem_of_getElem? (i := 34) rfl)
theorem aw_828 : Cond.fieldLink RX10 43 "IceForCoastModel" "most" "[I" ∈ AL := uw_11_in _ (List.mem_of_getElem? (i := 35) rfl)
theorem aw_829 : Cond.fieldLink RX10 271 "IceForCoastModel" "done" "I" ∈ AL := uw_11_in _ (List.mem_of_getElem? (i := 36) rfl)
theorem aw_830 : Cond.fieldLink RX10 46 "IceForCoastModel" "waterNow" "[J" ∈ AL := uw_11_in _ (List.mem_of_getElem? (i := 37) rfl)
theorem aw_831 : Cond.fieldLink RX10 50 "IceForCoastModel" "waterNext" "[J" ∈ AL := uw_11_in _ (List.mem_of_getElem? (i := 38) rfl)
theorem aw_832 : Cond.fieldLink RX10 59 "IceForCoastModel" "kept" "I" ∈ AL := uw_11_in _ (List.mem_of_getElem? (i := 39) rfl)
def uw_12 : List Cond := [Cond.fieldLink RX10 295 "IceForCoastModel" "keptSea" "I",
  Cond.fieldLink RX10 283 "IceForCoastModel" "keptPrice" "I",
  Cond.fieldLink RX10 286 "IceForCoastModel" "keptWage" "I",
  Cond.fieldLink RX10 289 "IceForCoastModel" "keptCloth" "I",
  Cond.fieldLink RX10 292 "IceForCoastModel" "keptLines" "I",
  Cond.fieldLink RX10 53 "IceForCoastModel" "keptBergs" "[I",
  Cond.fieldLink RX10 56 "IceForCoastModel" "keptRows" "[I",
  Cond.fieldLink RX10 303 "IceForCoastModel" "hash" "J",
  Cond.code yX10_letters cX10_letters 9 (some .int),
  Cond.constantLong RX10 72 (255),
  Cond.code yX10_blank cX10_blank 2 (some .int),
  Cond.code yX10_fault cX10_fault 1 (some .int),
  Cond.methodLink RX10 113 yX10_faultOf,
  Cond.instanceMethod yX10_faultOf,
  Cond.code yX10_faultOf cX10_faultOf 2 (some .int),
  Cond.methodLink RX10 109 yX10_go,
  Cond.instanceMethod yX10_go,
  Cond.code yX10_go cX10_go 4 (some .boolean),
  Cond.methodLink RX10 81 yX10_flowOf,
  Cond.static yX10_flowOf,
  Cond.code yX10_flowOf cX10_flowOf 1 (some .int),
  Cond.methodLink RX10 85 yX10_readAt,
  Cond.instanceMethod yX10_readAt,
  Cond.code yX10_readAt cX10_readAt 1 (some .int),
  Cond.constantLong RX10 98 (48),
  Cond.constantLong RX10 100 (57),
  Cond.methodLink RX10 102 yX10_in,
  Cond.static yX10_in,
  Cond.code yX10_in cX10_in 6 (some .boolean),
  Cond.code yX10_sea cX10_sea 2 (some .int),
  Cond.code yX10_square cX10_square 3 (some .int),
  Cond.methodLink RX10 140 yX10_isSquare,
  Cond.instanceMethod yX10_isSquare,
  Cond.code yX10_isSquare cX10_isSquare 2 (some .boolean),
  Cond.methodLink RX10 143 yX10_tellSquare,
  Cond.instanceMethod yX10_tellSquare,
  Cond.code yX10_tellSquare cX10_tellSquare 3 (some .int),
  Cond.methodLink RX10 137 yX10_farOf,
  Cond.instanceMethod yX10_farOf,
  Cond.code yX10_farOf cX10_farOf 2 (some .int)]
theorem uw_12_in : ∀ w ∈ uw_12, w ∈ AL := AL_of _ [833, 834, 835, 836, 837, 838, 839, 840, 949, 950, 954, 958, 959, 961, 962, 963, 965, 966, 967, 968, 969, 970, 972, 973, 974, 975, 976, 977, 978, 982, 986, 987, 989, 990, 991, 993, 994, 995, 997, 998] (by decide +kernel) (by decide +kernel)
theorem aw_833 : Cond.fieldLink RX10 295 "IceForCoastModel" "keptSea" "I" ∈ AL := uw_12_in _ (List.mem_of_getElem? (i := 0) rfl)
theorem aw_834 : Cond.fieldLink RX10 283 "IceForCoastModel" "keptPrice" "I" ∈ AL := uw_12_in _ (List.mem_of_getElem? (i := 1) rfl)
theorem aw_835 : Cond.fieldLink RX10 286 "IceForCoastModel" "keptWage" "I" ∈ AL := uw_12_in _ (List.mem_of_getElem? (i := 2) rfl)
theorem aw_836 : Cond.fieldLink RX10 289 "IceForCoastModel" "keptCloth" "I" ∈ AL := uw_12_in _ (List.mem_of_getElem? (i := 3) rfl)
theorem aw_837 : Cond.fieldLink RX10 292 "IceForCoastModel" "keptLines" "I" ∈ AL := uw_12_in _ (List.mem_of_getElem? (i := 4) rfl)
theorem aw_838 : Cond.fieldLink RX10 53 "IceForCoastModel" "keptBergs" "[I" ∈ AL := uw_12_in _ (List.mem_of_getElem? (i := 5) rfl)
theorem aw_839 : Cond.fieldLink RX10 56 "IceForCoastModel" "keptRows" "[I" ∈ AL := uw_12_in _ (List.mem_of_getElem? (i := 6) rfl)
theorem aw_840 : Cond.fieldLink RX10 303 "IceForCoastModel" "hash" "J" ∈ AL := uw_12_in _ (List.mem_of_getElem? (i := 7) rfl)
theorem aw_949 : Cond.code yX10_letters cX10_letters 9 (some .int) ∈ AL := uw_12_in _ (List.mem_of_getElem? (i := 8) rfl)
theorem aw_950 : Cond.constantLong RX10 72 (255) ∈ AL := uw_12_in _ (List.mem_of_getElem? (i := 9) rfl)
theorem aw_954 : Cond.code yX10_blank cX10_blank 2 (some .int) ∈ AL := uw_12_in _ (List.mem_of_getElem? (i := 10) rfl)
theorem aw_958 : Cond.code yX10_fault cX10_fault 1 (some .int) ∈ AL := uw_12_in _ (List.mem_of_getElem? (i := 11) rfl)
theorem aw_959 : Cond.methodLink RX10 113 yX10_faultOf ∈ AL := uw_12_in _ (List.mem_of_getElem? (i := 12) rfl)
theorem aw_961 : Cond.instanceMethod yX10_faultOf ∈ AL := uw_12_in _ (List.mem_of_getElem? (i := 13) rfl)
theorem aw_962 : Cond.code yX10_faultOf cX10_faultOf 2 (some .int) ∈ AL := uw_12_in _ (List.mem_of_getElem? (i := 14) rfl)
theorem aw_963 : Cond.methodLink RX10 109 yX10_go ∈ AL := uw_12_in _ (List.mem_of_getElem? (i := 15) rfl)
theorem aw_965 : Cond.instanceMethod yX10_go ∈ AL := uw_12_in _ (List.mem_of_getElem? (i := 16) rfl)
theorem aw_966 : Cond.code yX10_go cX10_go 4 (some .boolean) ∈ AL := uw_12_in _ (List.mem_of_getElem? (i := 17) rfl)
theorem aw_967 : Cond.methodLink RX10 81 yX10_flowOf ∈ AL := uw_12_in _ (List.mem_of_getElem? (i := 18) rfl)
theorem aw_968 : Cond.static yX10_flowOf ∈ AL := uw_12_in _ (List.mem_of_getElem? (i := 19) rfl)
theorem aw_969 : Cond.code yX10_flowOf cX10_flowOf 1 (some .int) ∈ AL := uw_12_in _ (List.mem_of_getElem? (i := 20) rfl)
theorem aw_970 : Cond.methodLink RX10 85 yX10_readAt ∈ AL := uw_12_in _ (List.mem_of_getElem? (i := 21) rfl)
theorem aw_972 : Cond.instanceMethod yX10_readAt ∈ AL := uw_12_in _ (List.mem_of_getElem? (i := 22) rfl)
theorem aw_973 : Cond.code yX10_readAt cX10_readAt 1 (some .int) ∈ AL := uw_12_in _ (List.mem_of_getElem? (i := 23) rfl)
theorem aw_974 : Cond.constantLong RX10 98 (48) ∈ AL := uw_12_in _ (List.mem_of_getElem? (i := 24) rfl)
theorem aw_975 : Cond.constantLong RX10 100 (57) ∈ AL := uw_12_in _ (List.mem_of_getElem? (i := 25) rfl)
theorem aw_976 : Cond.methodLink RX10 102 yX10_in ∈ AL := uw_12_in _ (List.mem_of_getElem? (i := 26) rfl)
theorem aw_977 : Cond.static yX10_in ∈ AL := uw_12_in _ (List.mem_of_getElem? (i := 27) rfl)
theorem aw_978 : Cond.code yX10_in cX10_in 6 (some .boolean) ∈ AL := uw_12_in _ (List.mem_of_getElem? (i := 28) rfl)
theorem aw_982 : Cond.code yX10_sea cX10_sea 2 (some .int) ∈ AL := uw_12_in _ (List.mem_of_getElem? (i := 29) rfl)
theorem aw_986 : Cond.code yX10_square cX10_square 3 (some .int) ∈ AL := uw_12_in _ (List.mem_of_getElem? (i := 30) rfl)
theorem aw_987 : Cond.methodLink RX10 140 yX10_isSquare ∈ AL := uw_12_in _ (List.mem_of_getElem? (i := 31) rfl)
theorem aw_989 : Cond.instanceMethod yX10_isSquare ∈ AL := uw_12_in _ (List.mem_of_getElem? (i := 32) rfl)
theorem aw_990 : Cond.code yX10_isSquare cX10_isSquare 2 (some .boolean) ∈ AL := uw_12_in _ (List.mem_of_getElem? (i := 33) rfl)
theorem aw_991 : Cond.methodLink RX10 143 yX10_tellSquare ∈ AL := uw_12_in _ (List.mem_of_getElem? (i := 34) rfl)
theorem aw_993 : Cond.instanceMethod yX10_tellSquare ∈ AL := uw_12_in _ (List.mem_of_getElem? (i := 35) rfl)
theorem aw_994 : Cond.code yX10_tellSquare cX10_tellSquare 3 (some .int) ∈ AL := uw_12_in _ (List.mem_of_getElem? (i := 36) rfl)
theorem aw_995 : Cond.methodLink RX10 137 yX10_farOf ∈ AL := uw_12_in _ (List.mem_of_getElem? (i := 37) rfl)
theorem aw_997 : Cond.instanceMethod yX10_farOf ∈ AL := uw_12_in _ (List.mem_of_getElem? (i := 38) rfl)
theorem aw_998 : Cond.code yX10_farOf cX10_farOf 2 (some .int) ∈ AL := uw_12_in _ (List.mem_of_getElem? (i := 39) rfl)
def uw_13 : List Cond := [Cond.methodLink RX10 134 yX10_size,
  Cond.static yX10_size,
  Cond.code yX10_size cX10_size 1 (some .int),
  Cond.code yX10_berg cX10_berg 6 (some .int),
  Cond.constantLong RX10 147 (4),
  Cond.constantLong RX10 149 (10),
  Cond.constantLong RX10 151 (999),
  Cond.constantLong RX10 153 (99),
  Cond.constantLong RX10 155 (2),
  Cond.constantLong RX10 157 (9),
  Cond.code yX10_as cX10_as 5 (some .int),
  Cond.methodLink RX10 159 yX10_isBerg,
  Cond.instanceMethod yX10_isBerg,
  Cond.code yX10_isBerg cX10_isBerg 2 (some .boolean),
  Cond.code yX10_about cX10_about 3 (some .int),
  Cond.code yX10_change cX10_change 5 (some .int),
  Cond.constantLong RX10 162 (3),
  Cond.code yX10_coin cX10_coin 4 (some .int),
  Cond.code yX10_tow cX10_tow 5 (some .int),
  Cond.constant RX10 244 (-100101),
  Cond.methodLink RX10 245 yX10_areTugs,
  Cond.static yX10_areTugs,
  Cond.code yX10_areTugs cX10_areTugs 1 (some .boolean),
  Cond.constantLong RX10 242 (11),
  Cond.constantLong RX10 248 (18),
  Cond.methodLink RX10 250 yX10_tellTow,
  Cond.instanceMethod yX10_tellTow,
  Cond.code yX10_tellTow cX10_tellTow 5 (some .int),
  Cond.methodLink RX10 235 yX10_ownSize,
  Cond.instanceMethod yX10_ownSize,
  Cond.code yX10_ownSize cX10_ownSize 2 (some .int),
  Cond.methodLink RX10 238 yX10_layWays,
  Cond.instanceMethod yX10_layWays,
  Cond.code yX10_layWays cX10_layWays 7 none,
  Cond.methodLink RX10 228 yX10_to,
  Cond.instanceMethod yX10_to,
  Cond.code yX10_to cX10_to 6 (some .int),
  Cond.methodLink RX10 231 yX10_tryWay,
  Cond.instanceMethod yX10_tryWay,
  Cond.code yX10_tryWay cX10_tryWay 8 none]
theorem uw_13_in : ∀ w ∈ uw_13, w ∈ AL := AL_of _ [999, 1000, 1001, 1005, 1006, 1007, 1008, 1009, 1010, 1011, 1015, 1016, 1018, 1019, 1023, 1027, 1028, 1032, 1036, 1037, 1038, 1039, 1040, 1041, 1042, 1043, 1045, 1046, 1047, 1049, 1050, 1051, 1053, 1054, 1055, 1057, 1058, 1059, 1061, 1062] (by decide +kernel) (by decide +kernel)
theorem aw_999 : Cond.methodLink RX10 134 yX10_size ∈ AL := uw_13_in _ (List.mem_of_getElem? (i := 0) rfl)
theorem aw_1000 : Cond.static yX10_size ∈ AL := uw_13_in _ (List.mem_of_getElem? (i := 1) rfl)
theorem aw_1001 : Cond.code yX10_size cX10_size 1 (some .int) ∈ AL := uw_13_in _ (List.mem_of_getElem? (i := 2) rfl)
theorem aw_1005 : Cond.code yX10_berg cX10_berg 6 (some .int) ∈ AL := uw_13_in _ (List.mem_of_getElem? (i := 3) rfl)
theorem aw_1006 : Cond.constantLong RX10 147 (4) ∈ AL := uw_13_in _ (List.mem_of_getElem? (i := 4) rfl)
theorem aw_1007 : Cond.constantLong RX10 149 (10) ∈ AL := uw_13_in _ (List.mem_of_getElem? (i := 5) rfl)
theorem aw_1008 : Cond.constantLong RX10 151 (999) ∈ AL := uw_13_in _ (List.mem_of_getElem? (i := 6) rfl)
theorem aw_1009 : Cond.constantLong RX10 153 (99) ∈ AL := uw_13_in _ (List.mem_of_getElem? (i := 7) rfl)
theorem aw_1010 : Cond.constantLong RX10 155 (2) ∈ AL := uw_13_in _ (List.mem_of_getElem? (i := 8) rfl)
theorem aw_1011 : Cond.constantLong RX10 157 (9) ∈ AL := uw_13_in _ (List.mem_of_getElem? (i := 9) rfl)
theorem aw_1015 : Cond.code yX10_as cX10_as 5 (some .int) ∈ AL := uw_13_in _ (List.mem_of_getElem? (i := 10) rfl)
theorem aw_1016 : Cond.methodLink RX10 159 yX10_isBerg ∈ AL := uw_13_in _ (List.mem_of_getElem? (i := 11) rfl)
theorem aw_1018 : Cond.instanceMethod yX10_isBerg ∈ AL := uw_13_in _ (List.mem_of_getElem? (i := 12) rfl)
theorem aw_1019 : Cond.code yX10_isBerg cX10_isBerg 2 (some .boolean) ∈ AL := uw_13_in _ (List.mem_of_getElem? (i := 13) rfl)
theorem aw_1023 : Cond.code yX10_about cX10_about 3 (some .int) ∈ AL := uw_13_in _ (List.mem_of_getElem? (i := 14) rfl)
theorem aw_1027 : Cond.code yX10_change cX10_change 5 (some .int) ∈ AL := uw_13_in _ (List.mem_of_getElem? (i := 15) rfl)
theorem aw_1028 : Cond.constantLong RX10 162 (3) ∈ AL := uw_13_in _ (List.mem_of_getElem? (i := 16) rfl)
theorem aw_1032 : Cond.code yX10_coin cX10_coin 4 (some .int) ∈ AL := uw_13_in _ (List.mem_of_getElem? (i := 17) rfl)
theorem aw_1036 : Cond.code yX10_tow cX10_tow 5 (some .int) ∈ AL := uw_13_in _ (List.mem_of_getElem? (i := 18) rfl)
theorem aw_1037 : Cond.constant RX10 244 (-100101) ∈ AL := uw_13_in _ (List.mem_of_getElem? (i := 19) rfl)
theorem aw_1038 : Cond.methodLink RX10 245 yX10_areTugs ∈ AL := uw_13_in _ (List.mem_of_getElem? (i := 20) rfl)
theorem aw_1039 : Cond.static yX10_areTugs ∈ AL := uw_13_in _ (List.mem_of_getElem? (i := 21) rfl)
theorem aw_1040 : Cond.code yX10_areTugs cX10_areTugs 1 (some .boolean) ∈ AL := uw_13_in _ (List.mem_of_getElem? (i := 22) rfl)
theorem aw_1041 : Cond.constantLong RX10 242 (11) ∈ AL := uw_13_in _ (List.mem_of_getElem? (i := 23) rfl)
theorem aw_1042 : Cond.constantLong RX10 248 (18) ∈ AL := uw_13_in _ (List.mem_of_getElem? (i := 24) rfl)
theorem aw_1043 : Cond.methodLink RX10 250 yX10_tellTow ∈ AL := uw_13_in _ (List.mem_of_getElem? (i := 25) rfl)
theorem aw_1045 : Cond.instanceMethod yX10_tellTow ∈ AL := uw_13_in _ (List.mem_of_getElem? (i := 26) rfl)
theorem aw_1046 : Cond.code yX10_tellTow cX10_tellTow 5 (some .int) ∈ AL := uw_13_in _ (List.mem_of_getElem? (i := 27) rfl)
theorem aw_1047 : Cond.methodLink RX10 235 yX10_ownSize ∈ AL := uw_13_in _ (List.mem_of_getElem? (i := 28) rfl)
theorem aw_1049 : Cond.instanceMethod yX10_ownSize ∈ AL := uw_13_in _ (List.mem_of_getElem? (i := 29) rfl)
theorem aw_1050 : Cond.code yX10_ownSize cX10_ownSize 2 (some .int) ∈ AL := uw_13_in _ (List.mem_of_getElem? (i := 30) rfl)
theorem aw_1051 : Cond.methodLink RX10 238 yX10_layWays ∈ AL := uw_13_in _ (List.mem_of_getElem? (i := 31) rfl)
theorem aw_1053 : Cond.instanceMethod yX10_layWays ∈ AL := uw_13_in _ (List.mem_of_getElem? (i := 32) rfl)
theorem aw_1054 : Cond.code yX10_layWays cX10_layWays 7 none ∈ AL := uw_13_in _ (List.mem_of_getElem? (i := 33) rfl)
theorem aw_1055 : Cond.methodLink RX10 228 yX10_to ∈ AL := uw_13_in _ (List.mem_of_getElem? (i := 34) rfl)
theorem aw_1057 : Cond.instanceMethod yX10_to ∈ AL := uw_13_in _ (List.mem_of_getElem? (i := 35) rfl)
theorem aw_1058 : Cond.code yX10_to cX10_to 6 (some .int) ∈ AL := uw_13_in _ (List.mem_of_getElem? (i := 36) rfl)
theorem aw_1059 : Cond.methodLink RX10 231 yX10_tryWay ∈ AL := uw_13_in _ (List.mem_of_getElem? (i := 37) rfl)
theorem aw_1061 : Cond.instanceMethod yX10_tryWay ∈ AL := uw_13_in _ (List.mem_of_getElem? (i := 38) rfl)
theorem aw_1062 : Cond.code yX10_tryWay cX10_tryWay 8 none ∈ AL := uw_13_in _ (List.mem_of_getElem? (i := 39) rfl)
def uw_14 : List Cond := [Cond.methodLink RX10 209 yX10_begin,
  Cond.instanceMethod yX10_begin,
  Cond.code yX10_begin cX10_begin 5 none,
  Cond.methodLink RX10 213 yX10_towAll,
  Cond.instanceMethod yX10_towAll,
  Cond.code yX10_towAll cX10_towAll 3 none,
  Cond.methodLink RX10 202 yX10_step,
  Cond.instanceMethod yX10_step,
  Cond.code yX10_step cX10_step 5 none,
  Cond.methodLink RX10 198 yX10_day,
  Cond.instanceMethod yX10_day,
  Cond.code yX10_day cX10_day 4 none,
  Cond.methodLink RX10 174 yX10_draw,
  Cond.instanceMethod yX10_draw,
  Cond.code yX10_draw cX10_draw 2 (some .int),
  Cond.constantLong RX10 164 (1103515245),
  Cond.constantLong RX10 169 (12345),
  Cond.constantLong RX10 171 (2147483647),
  Cond.constant RX10 173 (65536),
  Cond.constant RX10 241 (-100001),
  Cond.constant RX10 254 (-100102),
  Cond.code yX10_ways cX10_ways 2 (some .int),
  Cond.methodLink RX10 255 yX10_waysOf,
  Cond.instanceMethod yX10_waysOf,
  Cond.code yX10_waysOf cX10_waysOf 2 (some .int),
  Cond.code yX10_best cX10_best 3 (some .int),
  Cond.methodLink RX10 259 yX10_tellBest,
  Cond.instanceMethod yX10_tellBest,
  Cond.code yX10_tellBest cX10_tellBest 7 (some .int),
  Cond.constant RX10 258 (-100000000),
  Cond.code yX10_season cX10_season 3 (some .int),
  Cond.methodLink RX10 262 yX10_lacks,
  Cond.instanceMethod yX10_lacks,
  Cond.code yX10_lacks cX10_lacks 1 (some .boolean),
  Cond.constantLong RX10 266 (5),
  Cond.methodLink RX10 268 yX10_seasonOf,
  Cond.instanceMethod yX10_seasonOf,
  Cond.code yX10_seasonOf cX10_seasonOf 8 (some .int),
  Cond.code yX10_more cX10_more 2 (some .int),
  Cond.code yX10_drawn cX10_drawn 8 (some .int)]
theorem uw_14_in : ∀ w ∈ uw_14, w ∈ AL := AL_of _ [1063, 1065, 1066, 1067, 1069, 1070, 1071, 1073, 1074, 1075, 1077, 1078, 1079, 1081, 1082, 1083, 1084, 1085, 1086, 1087, 1088, 1092, 1093, 1095, 1096, 1100, 1101, 1103, 1104, 1105, 1109, 1110, 1112, 1113, 1114, 1115, 1117, 1118, 1122, 1126] (by decide +kernel) (by decide +kernel)
theorem aw_1063 : Cond.methodLink RX10 209 yX10_begin ∈ AL := uw_14_in _ (List.mem_of_getElem? (i := 0) rfl)
theorem aw_1065 : Cond.instanceMethod yX10_begin ∈ AL := uw_14_in _ (List.mem_of_getElem? (i := 1) rfl)
theorem aw_1066 : Cond.code yX10_begin cX10_begin 5 none ∈ AL := uw_14_in _ (List.mem_of_getElem? (i := 2) rfl)
theorem aw_1067 : Cond.methodLink RX10 213 yX10_towAll ∈ AL := uw_14_in _ (List.mem_of_getElem? (i := 3) rfl)
theorem aw_1069 : Cond.instanceMethod yX10_towAll ∈ AL := uw_14_in _ (List.mem_of_getElem? (i := 4) rfl)
theorem aw_1070 : Cond.code yX10_towAll cX10_towAll 3 none ∈ AL := uw_14_in _ (List.mem_of_getElem? (i := 5) rfl)
theorem aw_1071 : Cond.methodLink RX10 202 yX10_step ∈ AL := uw_14_in _ (List.mem_of_getElem? (i := 6) rfl)
theorem aw_1073 : Cond.instanceMethod yX10_step ∈ AL := uw_14_in _ (List.mem_of_getElem? (i := 7) rfl)
theorem aw_1074 : Cond.code yX10_step cX10_step 5 none ∈ AL := uw_14_in _ (List.mem_of_getElem? (i := 8) rfl)
theorem aw_1075 : Cond.methodLink RX10 198 yX10_day ∈ AL := uw_14_in _ (List.mem_of_getElem? (i := 9) rfl)
theorem aw_1077 : Cond.instanceMethod yX10_day ∈ AL := uw_14_in _ (List.mem_of_getElem? (i := 10) rfl)
theorem aw_1078 : Cond.code yX10_day cX10_day 4 none ∈ AL := uw_14_in _ (List.mem_of_getElem? (i := 11) rfl)
theorem aw_1079 : Cond.methodLink RX10 174 yX10_draw ∈ AL := uw_14_in _ (List.mem_of_getElem? (i := 12) rfl)
theorem aw_1081 : Cond.instanceMethod yX10_draw ∈ AL := uw_14_in _ (List.mem_of_getElem? (i := 13) rfl)
theorem aw_1082 : Cond.code yX10_draw cX10_draw 2 (some .int) ∈ AL := uw_14_in _ (List.mem_of_getElem? (i := 14) rfl)
theorem aw_1083 : Cond.constantLong RX10 164 (1103515245) ∈ AL := uw_14_in _ (List.mem_of_getElem? (i := 15) rfl)
theorem aw_1084 : Cond.constantLong RX10 169 (12345) ∈ AL := uw_14_in _ (List.mem_of_getElem? (i := 16) rfl)
theorem aw_1085 : Cond.constantLong RX10 171 (2147483647) ∈ AL := uw_14_in _ (List.mem_of_getElem? (i := 17) rfl)
theorem aw_1086 : Cond.constant RX10 173 (65536) ∈ AL := uw_14_in _ (List.mem_of_getElem? (i := 18) rfl)
theorem aw_1087 : Cond.constant RX10 241 (-100001) ∈ AL := uw_14_in _ (List.mem_of_getElem? (i := 19) rfl)
theorem aw_1088 : Cond.constant RX10 254 (-100102) ∈ AL := uw_14_in _ (List.mem_of_getElem? (i := 20) rfl)
theorem aw_1092 : Cond.code yX10_ways cX10_ways 2 (some .int) ∈ AL := uw_14_in _ (List.mem_of_getElem? (i := 21) rfl)
theorem aw_1093 : Cond.methodLink RX10 255 yX10_waysOf ∈ AL := uw_14_in _ (List.mem_of_getElem? (i := 22) rfl)
theorem aw_1095 : Cond.instanceMethod yX10_waysOf ∈ AL := uw_14_in _ (List.mem_of_getElem? (i := 23) rfl)
theorem aw_1096 : Cond.code yX10_waysOf cX10_waysOf 2 (some .int) ∈ AL := uw_14_in _ (List.mem_of_getElem? (i := 24) rfl)
theorem aw_1100 : Cond.code yX10_best cX10_best 3 (some .int) ∈ AL := uw_14_in _ (List.mem_of_getElem? (i := 25) rfl)
theorem aw_1101 : Cond.methodLink RX10 259 yX10_tellBest ∈ AL := uw_14_in _ (List.mem_of_getElem? (i := 26) rfl)
theorem aw_1103 : Cond.instanceMethod yX10_tellBest ∈ AL := uw_14_in _ (List.mem_of_getElem? (i := 27) rfl)
theorem aw_1104 : Cond.code yX10_tellBest cX10_tellBest 7 (some .int) ∈ AL := uw_14_in _ (List.mem_of_getElem? (i := 28) rfl)
theorem aw_1105 : Cond.constant RX10 258 (-100000000) ∈ AL := uw_14_in _ (List.mem_of_getElem? (i := 29) rfl)
theorem aw_1109 : Cond.code yX10_season cX10_season 3 (some .int) ∈ AL := uw_14_in _ (List.mem_of_getElem? (i := 30) rfl)
theorem aw_1110 : Cond.methodLink RX10 262 yX10_lacks ∈ AL := uw_14_in _ (List.mem_of_getElem? (i := 31) rfl)
theorem aw_1112 : Cond.instanceMethod yX10_lacks ∈ AL := uw_14_in _ (List.mem_of_getElem? (i := 32) rfl)
theorem aw_1113 : Cond.code yX10_lacks cX10_lacks 1 (some .boolean) ∈ AL := uw_14_in _ (List.mem_of_getElem? (i := 33) rfl)
theorem aw_1114 : Cond.constantLong RX10 266 (5) ∈ AL := uw_14_in _ (List.mem_of_getElem? (i := 34) rfl)
theorem aw_1115 : Cond.methodLink RX10 268 yX10_seasonOf ∈ AL := uw_14_in _ (List.mem_of_getElem? (i := 35) rfl)
theorem aw_1117 : Cond.instanceMethod yX10_seasonOf ∈ AL := uw_14_in _ (List.mem_of_getElem? (i := 36) rfl)
theorem aw_1118 : Cond.code yX10_seasonOf cX10_seasonOf 8 (some .int) ∈ AL := uw_14_in _ (List.mem_of_getElem? (i := 37) rfl)
theorem aw_1122 : Cond.code yX10_more cX10_more 2 (some .int) ∈ AL := uw_14_in _ (List.mem_of_getElem? (i := 38) rfl)
theorem aw_1126 : Cond.code yX10_drawn cX10_drawn 8 (some .int) ∈ AL := uw_14_in _ (List.mem_of_getElem? (i := 39) rfl)
def uw_15 : List Cond := [Cond.code yX10_came cX10_came 10 (some .int),
  Cond.code yX10_letOff cX10_letOff 17 (some .long),
  Cond.constantLong RX10 274 (-102),
  Cond.methodLink RX10 276 yX10_melted,
  Cond.static yX10_melted,
  Cond.code yX10_melted cX10_melted 2 (some .int),
  Cond.methodLink RX10 279 yX10_common,
  Cond.static yX10_common,
  Cond.code yX10_common cX10_common 10 (some .long),
  Cond.code yX10_line cX10_line 4 (some .int),
  Cond.code yX10_claims cX10_claims 12 (some .int),
  Cond.code yX10_image cX10_image 2 (some .int),
  Cond.code yX10_restore cX10_restore 2 (some .int),
  Cond.code yX10_count cX10_count 2 (some .int),
  Cond.methodLink RX10 298 yX10_countOf,
  Cond.instanceMethod yX10_countOf,
  Cond.code yX10_countOf cX10_countOf 2 (some .int),
  Cond.code yX10_digest cX10_digest 3 (some .long),
  Cond.constantLong RX10 311 (569),
  Cond.methodLink RX10 307 yX10_say,
  Cond.instanceMethod yX10_say,
  Cond.code yX10_say cX10_say 3 none,
  Cond.constantLong RX10 301 (31),
  Cond.methodLink RX10 313 yX10_sayBerg,
  Cond.instanceMethod yX10_sayBerg,
  Cond.code yX10_sayBerg cX10_sayBerg 3 none]
theorem uw_15_in : ∀ w ∈ uw_15, w ∈ AL := AL_of _ [1130, 1134, 1135, 1136, 1137, 1138, 1139, 1140, 1141, 1145, 1149, 1153, 1157, 1161, 1162, 1164, 1165, 1169, 1170, 1171, 1173, 1174, 1175, 1176, 1178, 1179] (by decide +kernel) (by decide +kernel)
theorem aw_1130 : Cond.code yX10_came cX10_came 10 (some .int) ∈ AL := uw_15_in _ (List.mem_of_getElem? (i := 0) rfl)
theorem aw_1134 : Cond.code yX10_letOff cX10_letOff 17 (some .long) ∈ AL := uw_15_in _ (List.mem_of_getElem? (i := 1) rfl)
theorem aw_1135 : Cond.constantLong RX10 274 (-102) ∈ AL := uw_15_in _ (List.mem_of_getElem? (i := 2) rfl)
theorem aw_1136 : Cond.methodLink RX10 276 yX10_melted ∈ AL := uw_15_in _ (List.mem_of_getElem? (i := 3) rfl)
theorem aw_1137 : Cond.static yX10_melted ∈ AL := uw_15_in _ (List.mem_of_getElem? (i := 4) rfl)
theorem aw_1138 : Cond.code yX10_melted cX10_melted 2 (some .int) ∈ AL := uw_15_in _ (List.mem_of_getElem? (i := 5) rfl)
theorem aw_1139 : Cond.methodLink RX10 279 yX10_common ∈ AL := uw_15_in _ (List.mem_of_getElem? (i := 6) rfl)
theorem aw_1140 : Cond.static yX10_common ∈ AL := uw_15_in _ (List.mem_of_getElem? (i := 7) rfl)
theorem aw_1141 : Cond.code yX10_common cX10_common 10 (some .long) ∈ AL := uw_15_in _ (List.mem_of_getElem? (i := 8) rfl)
theorem aw_1145 : Cond.code yX10_line cX10_line 4 (some .int) ∈ AL := uw_15_in _ (List.mem_of_getElem? (i := 9) rfl)
theorem aw_1149 : Cond.code yX10_claims cX10_claims 12 (some .int) ∈ AL := uw_15_in _ (List.mem_of_getElem? (i := 10) rfl)
theorem aw_1153 : Cond.code yX10_image cX10_image 2 (some .int) ∈ AL := uw_15_in _ (List.mem_of_getElem? (i := 11) rfl)
theorem aw_1157 : Cond.code yX10_restore cX10_restore 2 (some .int) ∈ AL := uw_15_in _ (List.mem_of_getElem? (i := 12) rfl)
theorem aw_1161 : Cond.code yX10_count cX10_count 2 (some .int) ∈ AL := uw_15_in _ (List.mem_of_getElem? (i := 13) rfl)
theorem aw_1162 : Cond.methodLink RX10 298 yX10_countOf ∈ AL := uw_15_in _ (List.mem_of_getElem? (i := 14) rfl)
theorem aw_1164 : Cond.instanceMethod yX10_countOf ∈ AL := uw_15_in _ (List.mem_of_getElem? (i := 15) rfl)
theorem aw_1165 : Cond.code yX10_countOf cX10_countOf 2 (some .int) ∈ AL := uw_15_in _ (List.mem_of_getElem? (i := 16) rfl)
theorem aw_1169 : Cond.code yX10_digest cX10_digest 3 (some .long) ∈ AL := uw_15_in _ (List.mem_of_getElem? (i := 17) rfl)
theorem aw_1170 : Cond.constantLong RX10 311 (569) ∈ AL := uw_15_in _ (List.mem_of_getElem? (i := 18) rfl)
theorem aw_1171 : Cond.methodLink RX10 307 yX10_say ∈ AL := uw_15_in _ (List.mem_of_getElem? (i := 19) rfl)
theorem aw_1173 : Cond.instanceMethod yX10_say ∈ AL := uw_15_in _ (List.mem_of_getElem? (i := 20) rfl)
theorem aw_1174 : Cond.code yX10_say cX10_say 3 none ∈ AL := uw_15_in _ (List.mem_of_getElem? (i := 21) rfl)
theorem aw_1175 : Cond.constantLong RX10 301 (31) ∈ AL := uw_15_in _ (List.mem_of_getElem? (i := 22) rfl)
theorem aw_1176 : Cond.methodLink RX10 313 yX10_sayBerg ∈ AL := uw_15_in _ (List.mem_of_getElem? (i := 23) rfl)
theorem aw_1178 : Cond.instanceMethod yX10_sayBerg ∈ AL := uw_15_in _ (List.mem_of_getElem? (i := 24) rfl)
theorem aw_1179 : Cond.code yX10_sayBerg cX10_sayBerg 3 none ∈ AL := uw_15_in _ (List.mem_of_getElem? (i := 25) rfl)
def un_0 : List Cond := [Cond.fieldLinkNest RX7 40 "IceForCoast$Page" "length" "I" "IceForCoast",
  Cond.fieldLinkNest RX9 302 "IceForCoast$Page" "length" "I" "IceForCoast",
  Cond.fieldLinkNest RX9 109 "IceForCoast$Sea" "warmth" "[I" "IceForCoast",
  Cond.fieldLinkNest RX8 127 "IceForCoast$Sea" "warmth" "[I" "IceForCoast",
  Cond.fieldLinkNest RX9 113 "IceForCoast$Sea" "current" "[I" "IceForCoast",
  Cond.fieldLinkNest RX8 143 "IceForCoast$Sea" "current" "[I" "IceForCoast",
  Cond.fieldLinkNest RX9 116 "IceForCoast$Sea" "far" "[I" "IceForCoast",
  Cond.fieldLinkNest RX9 204 "IceForCoast$Sea" "waysFrom" "[I" "IceForCoast",
  Cond.fieldLinkNest RX8 89 "IceForCoast$Sea" "next" "[[I" "IceForCoast",
  Cond.fieldLinkNest RX9 102 "IceForCoast$Sea" "squares" "I" "IceForCoast",
  Cond.fieldLinkNest RX8 103 "IceForCoast$Sea" "harbour" "I" "IceForCoast",
  Cond.fieldLinkNest RX9 303 "IceForCoast$Coins" "value" "[I" "IceForCoast",
  Cond.fieldLinkNest RX8 137 "IceForCoast$Berg" "kind" "I" "IceForCoast",
  Cond.fieldLinkNest RX9 148 "IceForCoast$Berg" "kind" "I" "IceForCoast",
  Cond.fieldLinkNest RX8 71 "IceForCoast$Berg" "square" "I" "IceForCoast",
  Cond.fieldLinkNest RX9 151 "IceForCoast$Berg" "square" "I" "IceForCoast",
  Cond.fieldLinkNest RX2 35 "IceForCoast$Berg" "size" "I" "IceForCoast",
  Cond.fieldLinkNest RX9 154 "IceForCoast$Berg" "size" "I" "IceForCoast",
  Cond.fieldLinkNest RX8 68 "IceForCoast$Berg" "foot" "I" "IceForCoast",
  Cond.fieldLinkNest RX2 40 "IceForCoast$Berg" "foot" "I" "IceForCoast",
  Cond.fieldLinkNest RX9 157 "IceForCoast$Berg" "foot" "I" "IceForCoast",
  Cond.fieldLinkNest RX9 160 "IceForCoast$Berg" "n" "I" "IceForCoast",
  Cond.fieldLinkNest RX9 188 "IceForCoast$Tow" "water" "I" "IceForCoast",
  Cond.fieldLinkNest RX9 191 "IceForCoast$Tow" "days" "I" "IceForCoast",
  Cond.fieldLinkNest RX9 194 "IceForCoast$Tow" "gain" "I" "IceForCoast",
  Cond.fieldLinkNest RX9 197 "IceForCoast$Tow" "steps" "I" "IceForCoast",
  Cond.fieldLinkNest RX9 238 "IceForCoast$Tow" "seed" "J" "IceForCoast",
  Cond.fieldLinkNest RX9 325 "IceForCoast$Lines" "house" "[I" "IceForCoast",
  Cond.fieldLinkNest RX9 328 "IceForCoast$Lines" "berg" "[I" "IceForCoast",
  Cond.fieldLinkNest RX9 331 "IceForCoast$Lines" "day" "[I" "IceForCoast",
  Cond.fieldLinkNest RX9 268 "IceForCoast$Lines" "length" "I" "IceForCoast",
  Cond.fieldLinkNest RX9 301 "IceForCoast$Image" "bergCount" "I" "IceForCoast",
  Cond.fieldLinkNest RX9 291 "IceForCoast$Image" "lineCount" "I" "IceForCoast",
  Cond.fieldLinkNest RX9 294 "IceForCoast$Image" "seaNumber" "I" "IceForCoast",
  Cond.fieldLinkNest RX9 219 "IceForCoast$Ledger" "gains" "[[I" "IceForCoast",
  Cond.fieldLinkNest RX9 340 "IceForCoast$Ledger" "known" "[Z" "IceForCoast",
  Cond.fieldLinkNest RX9 344 "IceForCoast$Ledger" "towable" "[Z" "IceForCoast",
  Cond.fieldLinkNest RX9 226 "IceForCoast$Ledger" "most" "[[I" "IceForCoast",
  Cond.fieldLinkNest RX9 251 "IceForCoast$Odds" "above" "J" "IceForCoast",
  Cond.fieldLinkNest RX9 254 "IceForCoast$Odds" "below" "J" "IceForCoast"]
theorem un_0_in : ∀ w ∈ un_0, w ∈ NW := NW_of _ [75, 76, 113, 114, 116, 117, 119, 121, 123, 125, 127, 153, 164, 165, 166, 168, 169, 171, 172, 173, 175, 177, 206, 208, 210, 212, 215, 260, 262, 264, 266, 288, 289, 290, 312, 314, 316, 318, 337, 339] (by decide +kernel) (by decide +kernel)
theorem aw_75 : Cond.fieldLinkNest RX7 40 "IceForCoast$Page" "length" "I" "IceForCoast" ∈ NW := un_0_in _ (List.mem_of_getElem? (i := 0) rfl)
theorem aw_76 : Cond.fieldLinkNest RX9 302 "IceForCoast$Page" "length" "I" "IceForCoast" ∈ NW := un_0_in _ (List.mem_of_getElem? (i := 1) rfl)
theorem aw_113 : Cond.fieldLinkNest RX9 109 "IceForCoast$Sea" "warmth" "[I" "IceForCoast" ∈ NW := un_0_in _ (List.mem_of_getElem? (i := 2) rfl)
theorem aw_114 : Cond.fieldLinkNest RX8 127 "IceForCoast$Sea" "warmth" "[I" "IceForCoast" ∈ NW := un_0_in _ (List.mem_of_getElem? (i := 3) rfl)
theorem aw_116 : Cond.fieldLinkNest RX9 113 "IceForCoast$Sea" "current" "[I" "IceForCoast" ∈ NW := un_0_in _ (List.mem_of_getElem? (i := 4) rfl)
theorem aw_117 : Cond.fieldLinkNest RX8 143 "IceForCoast$Sea" "current" "[I" "IceForCoast" ∈ NW := un_0_in _ (List.mem_of_getElem? (i := 5) rfl)
theorem aw_119 : Cond.fieldLinkNest RX9 116 "IceForCoast$Sea" "far" "[I" "IceForCoast" ∈ NW := un_0_in _ (List.mem_of_getElem? (i := 6) rfl)
theorem aw_121 : Cond.fieldLinkNest RX9 204 "IceForCoast$Sea" "waysFrom" "[I" "IceForCoast" ∈ NW := un_0_in _ (List.mem_of_getElem? (i := 7) rfl)
theorem aw_123 : Cond.fieldLinkNest RX8 89 "IceForCoast$Sea" "next" "[[I" "IceForCoast" ∈ NW := un_0_in _ (List.mem_of_getElem? (i := 8) rfl)
theorem aw_125 : Cond.fieldLinkNest RX9 102 "IceForCoast$Sea" "squares" "I" "IceForCoast" ∈ NW := un_0_in _ (List.mem_of_getElem? (i := 9) rfl)
theorem aw_127 : Cond.fieldLinkNest RX8 103 "IceForCoast$Sea" "harbour" "I" "IceForCoast" ∈ NW := un_0_in _ (List.mem_of_getElem? (i := 10) rfl)
theorem aw_153 : Cond.fieldLinkNest RX9 303 "IceForCoast$Coins" "value" "[I" "IceForCoast" ∈ NW := un_0_in _ (List.mem_of_getElem? (i := 11) rfl)
theorem aw_164 : Cond.fieldLinkNest RX8 137 "IceForCoast$Berg" "kind" "I" "IceForCoast" ∈ NW := un_0_in _ (List.mem_of_getElem? (i := 12) rfl)
theorem aw_165 : Cond.fieldLinkNest RX9 148 "IceForCoast$Berg" "kind" "I" "IceForCoast" ∈ NW := un_0_in _ (List.mem_of_getElem? (i := 13) rfl)
theorem aw_166 : Cond.fieldLinkNest RX8 71 "IceForCoast$Berg" "square" "I" "IceForCoast" ∈ NW := un_0_in _ (List.mem_of_getElem? (i := 14) rfl)
theorem aw_168 : Cond.fieldLinkNest RX9 151 "IceForCoast$Berg" "square" "I" "IceForCoast" ∈ NW := un_0_in _ (List.mem_of_getElem? (i := 15) rfl)
theorem aw_169 : Cond.fieldLinkNest RX2 35 "IceForCoast$Berg" "size" "I" "IceForCoast" ∈ NW := un_0_in _ (List.mem_of_getElem? (i := 16) rfl)
theorem aw_171 : Cond.fieldLinkNest RX9 154 "IceForCoast$Berg" "size" "I" "IceForCoast" ∈ NW := un_0_in _ (List.mem_of_getElem? (i := 17) rfl)
theorem aw_172 : Cond.fieldLinkNest RX8 68 "IceForCoast$Berg" "foot" "I" "IceForCoast" ∈ NW := un_0_in _ (List.mem_of_getElem? (i := 18) rfl)
theorem aw_173 : Cond.fieldLinkNest RX2 40 "IceForCoast$Berg" "foot" "I" "IceForCoast" ∈ NW := un_0_in _ (List.mem_of_getElem? (i := 19) rfl)
theorem aw_175 : Cond.fieldLinkNest RX9 157 "IceForCoast$Berg" "foot" "I" "IceForCoast" ∈ NW := un_0_in _ (List.mem_of_getElem? (i := 20) rfl)
theorem aw_177 : Cond.fieldLinkNest RX9 160 "IceForCoast$Berg" "n" "I" "IceForCoast" ∈ NW := un_0_in _ (List.mem_of_getElem? (i := 21) rfl)
theorem aw_206 : Cond.fieldLinkNest RX9 188 "IceForCoast$Tow" "water" "I" "IceForCoast" ∈ NW := un_0_in _ (List.mem_of_getElem? (i := 22) rfl)
theorem aw_208 : Cond.fieldLinkNest RX9 191 "IceForCoast$Tow" "days" "I" "IceForCoast" ∈ NW := un_0_in _ (List.mem_of_getElem? (i := 23) rfl)
theorem aw_210 : Cond.fieldLinkNest RX9 194 "IceForCoast$Tow" "gain" "I" "IceForCoast" ∈ NW := un_0_in _ (List.mem_of_getElem? (i := 24) rfl)
theorem aw_212 : Cond.fieldLinkNest RX9 197 "IceForCoast$Tow" "steps" "I" "IceForCoast" ∈ NW := un_0_in _ (List.mem_of_getElem? (i := 25) rfl)
theorem aw_215 : Cond.fieldLinkNest RX9 238 "IceForCoast$Tow" "seed" "J" "IceForCoast" ∈ NW := un_0_in _ (List.mem_of_getElem? (i := 26) rfl)
theorem aw_260 : Cond.fieldLinkNest RX9 325 "IceForCoast$Lines" "house" "[I" "IceForCoast" ∈ NW := un_0_in _ (List.mem_of_getElem? (i := 27) rfl)
theorem aw_262 : Cond.fieldLinkNest RX9 328 "IceForCoast$Lines" "berg" "[I" "IceForCoast" ∈ NW := un_0_in _ (List.mem_of_getElem? (i := 28) rfl)
theorem aw_264 : Cond.fieldLinkNest RX9 331 "IceForCoast$Lines" "day" "[I" "IceForCoast" ∈ NW := un_0_in _ (List.mem_of_getElem? (i := 29) rfl)
theorem aw_266 : Cond.fieldLinkNest RX9 268 "IceForCoast$Lines" "length" "I" "IceForCoast" ∈ NW := un_0_in _ (List.mem_of_getElem? (i := 30) rfl)
theorem aw_288 : Cond.fieldLinkNest RX9 301 "IceForCoast$Image" "bergCount" "I" "IceForCoast" ∈ NW := un_0_in _ (List.mem_of_getElem? (i := 31) rfl)
theorem aw_289 : Cond.fieldLinkNest RX9 291 "IceForCoast$Image" "lineCount" "I" "IceForCoast" ∈ NW := un_0_in _ (List.mem_of_getElem? (i := 32) rfl)
theorem aw_290 : Cond.fieldLinkNest RX9 294 "IceForCoast$Image" "seaNumber" "I" "IceForCoast" ∈ NW := un_0_in _ (List.mem_of_getElem? (i := 33) rfl)
theorem aw_312 : Cond.fieldLinkNest RX9 219 "IceForCoast$Ledger" "gains" "[[I" "IceForCoast" ∈ NW := un_0_in _ (List.mem_of_getElem? (i := 34) rfl)
theorem aw_314 : Cond.fieldLinkNest RX9 340 "IceForCoast$Ledger" "known" "[Z" "IceForCoast" ∈ NW := un_0_in _ (List.mem_of_getElem? (i := 35) rfl)
theorem aw_316 : Cond.fieldLinkNest RX9 344 "IceForCoast$Ledger" "towable" "[Z" "IceForCoast" ∈ NW := un_0_in _ (List.mem_of_getElem? (i := 36) rfl)
theorem aw_318 : Cond.fieldLinkNest RX9 226 "IceForCoast$Ledger" "most" "[[I" "IceForCoast" ∈ NW := un_0_in _ (List.mem_of_getElem? (i := 37) rfl)
theorem aw_337 : Cond.fieldLinkNest RX9 251 "IceForCoast$Odds" "above" "J" "IceForCoast" ∈ NW := un_0_in _ (List.mem_of_getElem? (i := 38) rfl)
theorem aw_339 : Cond.fieldLinkNest RX9 254 "IceForCoast$Odds" "below" "J" "IceForCoast" ∈ NW := un_0_in _ (List.mem_of_getElem? (i := 39) rfl)
def un_1 : List Cond := [Cond.fieldLinkNest RX9 257 "IceForCoast$Odds" "letsOff" "Z" "IceForCoast",
  Cond.methodLinkNest RX5 35 yX9_commonDivisor "IceForCoast"]
theorem un_1_in : ∀ w ∈ un_1, w ∈ NW := NW_of _ [341, 708] (by decide +kernel) (by decide +kernel)
theorem aw_341 : Cond.fieldLinkNest RX9 257 "IceForCoast$Odds" "letsOff" "Z" "IceForCoast" ∈ NW := un_1_in _ (List.mem_of_getElem? (i := 0) rfl)
theorem aw_708 : Cond.methodLinkNest RX5 35 yX9_commonDivisor "IceForCoast" ∈ NW := un_1_in _ (List.mem_of_getElem? (i := 1) rfl)
end
section
/-! ===== small things for the printed functions ===== -/
def okI (p : Int32 × Sg) : Ok := fun v τ => v = some (.int p.1) ∧ τ = p.2
def okJ (p : Int64 × Sg) : Ok := fun v τ => v = some (.long p.1) ∧ τ = p.2
def okV (p : Sg) : Ok := fun v τ => v = none ∧ τ = p
/-- how deep the one recursion may go -/
abbrev FD : Nat := 12
def el {A B C : Type} (f : A → C) (g : B → C) : A ⊕ B → C
  | .inl a => f a
  | .inr b => g b
theorem el_l {A B C : Type} {f : A → C} {g : B → C} {a : A} {o : C} (h : el f g (.inl a) = o) : f a = o := h
theorem el_r {A B C : Type} {f : A → C} {g : B → C} {b : B} {o : C} (h : el f g (.inr b) = o) : g b = o := h
theorem lp_bind {S T R : Type} {f : S → Option (S ⊕ T)} {Gh : S → Prop} {k : T → Option R} {o : R} {n : Nat} {s : S} (h : Option.bind (lp f n s) k = some o) (hb : ∀ s o2, f s = some o2 → (∀ s', o2 = .inl s' → Gh s') → (∀ t, o2 = .inr t → k t = some o) → Gh s) : Gh s := by
  obtain ⟨t, e, h⟩ := Option.bind_eq_some_iff.mp h
  exact lp_ind (KK := fun t => k t = some o) hb n s t e h
theorem chk0 {c : Prop} {i : Decidable c} {α : Type} {x : Option α} {o : α} (h : (@ite _ c i none x) = some o) : ¬ c ∧ x = some o := by
  by_cases q : c
  · rw [if_pos q] at h; cases h
  · rw [if_neg q] at h; exact ⟨q, h⟩
def allNe (x : Int32) : List Int32 → Prop
  | [] => True
  | v :: t => ¬ x = v ∧ allNe x t
theorem allNe_at {x : Int32} : ∀ (l : List Int32) (i : Nat), allNe x l → i < l.length → ¬ x = l.getD i 0
  | [], _, _, h => by simp at h
  | v :: t, 0, h, _ => by simpa using h.1
  | v :: t, i + 1, h, hi => by
    have := allNe_at t i h.2 (by simpa using hi)
    simpa using this
def tblOk (lo hi : Int) (ks : List Int32) : Bool := (List.range ks.length).all (fun i => decide ((ks.getD i 0).toInt = lo + (i : Int))) && decide (hi + 1 = lo + (ks.length : Int))
theorem tbl_out {x : Int32} {lo hi : Int} {ks : List Int32} (hk : tblOk lo hi ks = true) (hne : allNe x ks) : x.toInt < lo ∨ hi < x.toInt := by
  unfold tblOk at hk
  rw [Bool.and_eq_true, List.all_eq_true, decide_eq_true_eq] at hk
  rcases Int.lt_or_le x.toInt lo with h | h
  · exact Or.inl h
  · rcases Int.lt_or_le hi x.toInt with h2 | h2
    · exact Or.inr h2
    · exfalso
      have h3 : (x.toInt - lo).toNat < ks.length := by omega
      have h4 := of_decide_eq_true (hk.1 _ (List.mem_range.mpr h3))
      exact allNe_at ks _ hne h3 (Int32.toInt_inj.mp (by rw [h4]; omega))
section GSw
variable {K : KT} {cc : ByteArray} {own : String} {nL d : Nat} {pc : Nat} {L : List (Option Value)} {st : List Value} {P : Heap → List Loc → Prop}
theorem g_tblIn (C : Cb K cc own nL d) {dflt lo hi off : Int} {offs : Array Int} {len tgt : Nat} {x v : Int32} (hx : x = v) (hd : decode cc pc = .ok (.tableswitch dflt lo hi offs, len)) (h1 : ¬ v.toInt < lo) (h2 : ¬ hi < v.toInt) (ho : offs[(v.toInt - lo).toNat]? = some off) (ht : (pc : Int) + off = (tgt : Int)) (k : G K tgt L st P) : G K pc L (.int x :: st) P := by
  subst hx
  exact g_tableIn C hd h1 h2 ho ht k
theorem g_tblOut (C : Cb K cc own nL d) {dflt lo hi : Int} {offs : Array Int} {len tgt : Nat} {x : Int32} (ks : List Int32) (hk : tblOk lo hi ks = true) (hne : allNe x ks) (hd : decode cc pc = .ok (.tableswitch dflt lo hi offs, len)) (ht : (pc : Int) + dflt = (tgt : Int)) (k : G K tgt L st P) : G K pc L (.int x :: st) P :=
  g_tableOut C hd (tbl_out hk hne) ht k
theorem g_lkIn (C : Cb K cc own nL d) {dflt off : Int} {ps : Array (Int × Int)} {len tgt : Nat} {x v : Int32} (hx : x = v) (hd : decode cc pc = .ok (.lookupswitch dflt ps, len)) (hp : (ps.toList.zip (ps.toList.drop 1)).all (fun (a, next) => a.1 < next.1) = true) (ho : Op.lookupswitch.offset ps.toList dflt v.toInt = off) (ht : (pc : Int) + off = (tgt : Int)) (k : G K tgt L st P) : G K pc L (.int x :: st) P := by
  subst hx
  exact g_lookup C hd hp ho ht k
theorem lk_out {x : Int32} {d : Int} : ∀ (r : List (Int × Int)) (ks : List Int32), r.map Prod.fst = ks.map Int32.toInt → allNe x ks → Op.lookupswitch.offset r d x.toInt = d
  | [], _, _, _ => rfl
  | (a, o) :: r, [], h, _ => by simp at h
  | (a, o) :: r, k :: ks, h, hne => by
    simp only [List.map_cons, List.cons.injEq] at h
    rw [lv_osw hne.1 h.1.symm]
    exact lk_out r ks h.2 hne.2
theorem g_lkOut (C : Cb K cc own nL d) {dflt : Int} {ps : Array (Int × Int)} {len tgt : Nat} {x : Int32} (ks : List Int32) (hk : ps.toList.map Prod.fst = ks.map Int32.toInt) (hne : allNe x ks) (hd : decode cc pc = .ok (.lookupswitch dflt ps, len)) (hp : (ps.toList.zip (ps.toList.drop 1)).all (fun (a, next) => a.1 < next.1) = true) (ht : (pc : Int) + dflt = (tgt : Int)) (k : G K tgt L st P) : G K pc L (.int x :: st) P :=
  g_lookup C hd hp (lk_out _ ks hk hne) ht k
end GSw

abbrev slX0 : List (Nat × Nat) := [(0, 0), (0, 0), (0, 0), (0, 0), (0, 0), (0, 0)]
abbrev slX1 : List (Nat × Nat) := [(2, 1)]
abbrev slX2 : List (Nat × Nat) := [(2, 1), (2, 2), (2, 3), (0, 0), (0, 0), (0, 0)]
abbrev slX3 : List (Nat × Nat) := [(2, 1), (2, 2), (2, 3), (2, 4)]
abbrev slX4 : List (Nat × Nat) := [(2, 1), (2, 2), (2, 3), (0, 0)]
abbrev slX5 : List (Nat × Nat) := [(2, 1), (1, 0), (1, 0), (0, 0)]
abbrev slX6 : List (Nat × Nat) := [(2, 1), (0, 0), (0, 0), (0, 0), (0, 0), (0, 0), (0, 0)]
abbrev slX7 : List (Nat × Nat) := [(2, 1), (2, 2), (2, 3), (2, 4), (2, 5), (0, 0), (0, 0), (0, 0)]
abbrev slX8 : List (Nat × Nat) := [(2, 1), (2, 7), (2, 9), (2, 10), (2, 11), (2, 12), (2, 13), (3, 0), (0, 0), (0, 0), (0, 0), (0, 0), (0, 0), (0, 0), (0, 0), (0, 0), (1, 0)]
abbrev slX9 : List (Nat × Nat) := [(2, 1), (2, 3), (2, 4), (2, 10), (2, 18), (2, 24), (2, 28), (2, 33), (2, 38), (0, 0), (0, 0), (0, 0)]
abbrev slX10 : List (Nat × Nat) := [(2, 1), (0, 0), (0, 0), (0, 0), (0, 0), (0, 0), (0, 0), (2, 2), (2, 3), (0, 0), (0, 0), (0, 0), (0, 0), (2, 4), (2, 5), (0, 0), (2, 6), (0, 0), (0, 0), (0, 0), (0, 0), (2, 7), (0, 0), (0, 0), (0, 0), (0, 0), (0, 0), (0, 0), (0, 0), (0, 0), (2, 8), (2, 9), (2, 10), (0, 0), (0, 0), (0, 0), (0, 0), (0, 0), (2, 11), (2, 12), (0, 0), (2, 13), (2, 14), (0, 0), (0, 0), (0, 0), (0, 0), (0, 0), (0, 0), (2, 15), (2, 16), (1, 0)]
abbrev layC : List Sh := [(0, 9, slX9), (0, 6, slX6), (1, 64, []), (0, 8, slX8), (0, 7, slX7), (1, 30, []), (1, 30, []), (1, 30, []), (1, 30, []), (5, 30, [(40, 0)]), (0, 1, slX1), (1, 3, []), (1, 10, []), (1, 10, []), (1, 10, []), (1, 9, []), (1, 9, []), (0, 0, slX0), (4, 5, [(19, 0)]), (0, 0, slX0), (0, 0, slX0), (0, 0, slX0), (0, 0, slX0), (0, 0, slX0), (0, 4, slX4), (1, 10, []), (1, 10, []), (1, 10, []), (0, 2, slX2), (1, 5, []), (1, 5, []), (0, 1, slX1), (1, 3, []), (0, 3, slX3), (5, 5, [(70, 0)]), (3, 5, []), (3, 5, []), (5, 6, [(75, 0)]), (0, 5, slX5), (2, 1000, []), (1, 4, []), (1, 4, []), (1, 4, []), (1, 4, []), (1, 4, []), (1, 4, []), (1, 4, []), (1, 4, []), (1, 4, []), (1, 4, []), (1, 4, []), (1, 4, []), (1, 4, []), (1, 4, []), (1, 4, []), (1, 4, []), (1, 4, []), (1, 4, []), (1, 4, []), (1, 4, []), (1, 4, []), (1, 4, []), (1, 4, []), (1, 4, []), (1, 4, []), (1, 4, []), (1, 4, []), (1, 4, []), (1, 4, []), (1, 4, []), (1, 24, []), (1, 24, []), (1, 24, []), (1, 24, []), (1, 24, []), (1, 12, []), (1, 12, []), (1, 12, []), (1, 12, []), (1, 12, []), (1, 12, [])]
abbrev layM : List Sh := [(0, 10, slX10), (1, 64, []), (1, 30, []), (1, 30, []), (1, 30, []), (1, 30, []), (1, 25, []), (1, 30, []), (1, 10, []), (1, 10, []), (1, 10, []), (1, 60, []), (1, 72, []), (2, 1000, []), (2, 1000, []), (1, 25, []), (1, 30, [])]
theorem rng {n : Nat} {f : Nat → Bool} (h : (List.range n).all f = true) {j : Nat} (hj : j < n) : f j = true := List.all_eq_true.mp h j (List.mem_range.mpr hj)
theorem rw_9 {j : Nat} (h : j < 30) : layC[40 + j]? = some (1, 4, []) := of_decide_eq_true (rng (f := fun j => decide (layC[40 + j]? = some (1, 4, []))) (by decide +kernel) h)
theorem rw_34 {j : Nat} (h : j < 5) : layC[70 + j]? = some (1, 24, []) := of_decide_eq_true (rng (f := fun j => decide (layC[70 + j]? = some (1, 24, []))) (by decide +kernel) h)
theorem rw_37 {j : Nat} (h : j < 6) : layC[75 + j]? = some (1, 12, []) := of_decide_eq_true (rng (f := fun j => decide (layC[75 + j]? = some (1, 12, []))) (by decide +kernel) h)
theorem rw_18 {j : Nat} (h : j < 5) : layC[19 + j]? = some (0, 0, slX0) := of_decide_eq_true (rng (f := fun j => decide (layC[19 + j]? = some (0, 0, slX0))) (by decide +kernel) h)
theorem lay_lt {Y : List Sh} {o : Nat} {s : Sh} (h : Y[o]? = some s) : o < Y.length := (List.getElem?_eq_some_iff.mp h).1
theorem cn_val {o : Nat} (h : layC[o]? = some (0, 1, slX1)) : layC[o + 1]? = some (1, 3, []) := by
  have h1 := rng (n := 81) (f := fun o => decide (layC[o]? = some (0, 1, slX1)) == false || decide (layC[o + 1]? = some (1, 3, []))) (by decide +kernel) (lay_lt h)
  have h2 : decide (layC[o]? = some (0, 1, slX1)) = true := decide_eq_true h
  rw [h2] at h1
  exact of_decide_eq_true (by simpa using h1)
end
section
-- X0_isKind
theorem dX0_isKind_0 : decode cX0_isKind 0 = .ok (.iload_n 0, 1) := by decide +kernel
theorem dX0_isKind_1 : decode cX0_isKind 1 = .ok (.ifCond .lt 12, 3) := by decide +kernel
theorem dX0_isKind_4 : decode cX0_isKind 4 = .ok (.iload_n 0, 1) := by decide +kernel
theorem dX0_isKind_5 : decode cX0_isKind 5 = .ok (.iconst 4, 1) := by decide +kernel
theorem dX0_isKind_6 : decode cX0_isKind 6 = .ok (.if_icmp .gt 7, 3) := by decide +kernel
theorem dX0_isKind_9 : decode cX0_isKind 9 = .ok (.iconst 1, 1) := by decide +kernel
theorem dX0_isKind_10 : decode cX0_isKind 10 = .ok (.goto 4, 3) := by decide +kernel
theorem dX0_isKind_13 : decode cX0_isKind 13 = .ok (.iconst 0, 1) := by decide +kernel
theorem dX0_isKind_14 : decode cX0_isKind 14 = .ok (.ireturn, 1) := by decide +kernel
theorem cw_X0_isKind : Cw yX0_isKind cX0_isKind 1 (some .boolean) 1 := ⟨aw_493, aw_51, ⟨by decide, by decide⟩, by decide +kernel, by decide⟩
def fX0_isKind_b0 (x0 : Int32) (σ : Sg) : Option (Int32 × Sg) :=
  if x0 < 0 then (some ((0 : Int32), σ)) else (if (4 : Int32) < x0 then (some ((0 : Int32), σ)) else (some ((1 : Int32), σ)))
set_option maxRecDepth 4000 in
theorem bX0_isKind_b0 {K : KT} {x0 : Int32} {σ : Sg} {o : Int32 × Sg} (C : Cx K layC cX0_isKind RX0 1 (1) (some .boolean))  (hQ : Rk K layC (okI o)) (h : fX0_isKind_b0 x0 σ = some o) : G K 0 [some (.int x0)] [] (Wd K layC σ) := by
  unfold fX0_isKind_b0 at h
  refine g_iload_n C.c dX0_isKind_0 rfl (i := 0) rfl ?_
  refine g_if_lt C.c (tgt := 13) dX0_isKind_1 (by decide) (fun c => ?_) (fun c => ?_)
  · replace h := ite_t c h
    refine g_iconst C.c dX0_isKind_13 (v := (0 : Int32)) (by decide) ?_
    obtain rfl := Option.some.inj h
    exact g_iret C hQ dX0_isKind_14 rfl ⟨rfl, rfl⟩
  · replace h := ite_f c h
    refine g_iload_n C.c dX0_isKind_4 rfl (i := 0) rfl ?_
    refine g_iconst C.c dX0_isKind_5 (v := (4 : Int32)) (by decide) ?_
    refine g_icmp_gt C.c (tgt := 13) dX0_isKind_6 (by decide) (fun c => ?_) (fun c => ?_)
    · replace h := ite_t c h
      refine g_iconst C.c dX0_isKind_13 (v := (0 : Int32)) (by decide) ?_
      obtain rfl := Option.some.inj h
      exact g_iret C hQ dX0_isKind_14 rfl ⟨rfl, rfl⟩
    · replace h := ite_f c h
      refine g_iconst C.c dX0_isKind_9 (v := (1 : Int32)) (by decide) ?_
      refine g_goto C.c (tgt := 14) dX0_isKind_10 (by decide) ?_
      obtain rfl := Option.some.inj h
      exact g_iret C hQ dX0_isKind_14 rfl ⟨rfl, rfl⟩
def fX0_isKind (a0 : Int32) (σ : Sg) : Option (Int32 × Sg) := fX0_isKind_b0 a0 σ
theorem ct_X0_isKind {a0 : Int32} {σ : Sg} {p : Int32 × Sg} (h : fX0_isKind a0 σ = some p) : Ct layC yX0_isKind cX0_isKind 1 (some .boolean) 1 (fun ad => [.int a0]) σ (okI p) :=
 ct_of (L0 := fun ad => [some (.int a0)]) (by decide) (fun _ => Nat.le_of_ble_eq_true rfl) (fun _ => rfl) (fun K C hQ => g_mask [true] rfl (bX0_isKind_b0 C hQ h))
-- X0_mayBreak
theorem dX0_mayBreak_0 : decode cX0_mayBreak 0 = .ok (.iload_n 0, 1) := by decide +kernel
theorem dX0_mayBreak_1 : decode cX0_mayBreak 1 = .ok (.iconst 2, 1) := by decide +kernel
theorem dX0_mayBreak_2 : decode cX0_mayBreak 2 = .ok (.if_icmp .ne 22, 3) := by decide +kernel
theorem dX0_mayBreak_5 : decode cX0_mayBreak 5 = .ok (.iload_n 1, 1) := by decide +kernel
theorem dX0_mayBreak_6 : decode cX0_mayBreak 6 = .ok (.iconst 2, 1) := by decide +kernel
theorem dX0_mayBreak_7 : decode cX0_mayBreak 7 = .ok (.if_icmp .lt 13, 3) := by decide +kernel
theorem dX0_mayBreak_10 : decode cX0_mayBreak 10 = .ok (.iload_n 1, 1) := by decide +kernel
theorem dX0_mayBreak_11 : decode cX0_mayBreak 11 = .ok (.bipush 9, 2) := by decide +kernel
theorem dX0_mayBreak_13 : decode cX0_mayBreak 13 = .ok (.if_icmp .gt 7, 3) := by decide +kernel
theorem dX0_mayBreak_16 : decode cX0_mayBreak 16 = .ok (.iconst 1, 1) := by decide +kernel
theorem dX0_mayBreak_17 : decode cX0_mayBreak 17 = .ok (.goto 16, 3) := by decide +kernel
theorem dX0_mayBreak_20 : decode cX0_mayBreak 20 = .ok (.iconst 0, 1) := by decide +kernel
theorem dX0_mayBreak_21 : decode cX0_mayBreak 21 = .ok (.goto 12, 3) := by decide +kernel
theorem dX0_mayBreak_24 : decode cX0_mayBreak 24 = .ok (.iload_n 1, 1) := by decide +kernel
theorem dX0_mayBreak_25 : decode cX0_mayBreak 25 = .ok (.ifCond .ne 7, 3) := by decide +kernel
theorem dX0_mayBreak_28 : decode cX0_mayBreak 28 = .ok (.iconst 1, 1) := by decide +kernel
theorem dX0_mayBreak_29 : decode cX0_mayBreak 29 = .ok (.goto 4, 3) := by decide +kernel
theorem dX0_mayBreak_32 : decode cX0_mayBreak 32 = .ok (.iconst 0, 1) := by decide +kernel
theorem dX0_mayBreak_33 : decode cX0_mayBreak 33 = .ok (.ireturn, 1) := by decide +kernel
theorem cw_X0_mayBreak : Cw yX0_mayBreak cX0_mayBreak 2 (some .boolean) 2 := ⟨aw_507, aw_51, ⟨by decide, by decide⟩, by decide +kernel, by decide⟩
def fX0_mayBreak_b20  (σ : Sg) : Option (Int32 × Sg) :=
  some ((0 : Int32), σ)
def fX0_mayBreak_b0 (x0 : Int32) (x1 : Int32) (σ : Sg) : Option (Int32 × Sg) :=
  if x0 = (2 : Int32) then (if x1 < (2 : Int32) then (fX0_mayBreak_b20 σ) else (if (9 : Int32) < x1 then (fX0_mayBreak_b20 σ) else (some ((1 : Int32), σ)))) else (if x1 = 0 then (some ((1 : Int32), σ)) else (some ((0 : Int32), σ)))
set_option maxRecDepth 4000 in
theorem bX0_mayBreak_b20 {K : KT}  {σ : Sg} {o : Int32 × Sg} (C : Cx K layC cX0_mayBreak RX0 2 (1) (some .boolean))  (hQ : Rk K layC (okI o)) (h : fX0_mayBreak_b20  σ = some o) : G K 20 [none, none] [] (Wd K layC σ) := by
  unfold fX0_mayBreak_b20 at h
  refine g_iconst C.c dX0_mayBreak_20 (v := (0 : Int32)) (by decide) ?_
  refine g_goto C.c (tgt := 33) dX0_mayBreak_21 (by decide) ?_
  obtain rfl := Option.some.inj h
  exact g_iret C hQ dX0_mayBreak_33 rfl ⟨rfl, rfl⟩
set_option maxRecDepth 4000 in
theorem bX0_mayBreak_b0 {K : KT} {x0 : Int32} {x1 : Int32} {σ : Sg} {o : Int32 × Sg} (C : Cx K layC cX0_mayBreak RX0 2 (1) (some .boolean))  (hQ : Rk K layC (okI o)) (h : fX0_mayBreak_b0 x0 x1 σ = some o) : G K 0 [some (.int x0), some (.int x1)] [] (Wd K layC σ) := by
  unfold fX0_mayBreak_b0 at h
  refine g_iload_n C.c dX0_mayBreak_0 rfl (i := 0) rfl ?_
  refine g_iconst C.c dX0_mayBreak_1 (v := (2 : Int32)) (by decide) ?_
  refine g_icmp_ne C.c (tgt := 24) dX0_mayBreak_2 (by decide) (fun c => ?_) (fun c => ?_)
  · replace h := ite_f c h
    refine g_iload_n C.c dX0_mayBreak_24 rfl (i := 1) rfl ?_
    refine g_if_ne C.c (tgt := 32) dX0_mayBreak_25 (by decide) (fun c => ?_) (fun c => ?_)
    · replace h := ite_f c h
      refine g_iconst C.c dX0_mayBreak_32 (v := (0 : Int32)) (by decide) ?_
      obtain rfl := Option.some.inj h
      exact g_iret C hQ dX0_mayBreak_33 rfl ⟨rfl, rfl⟩
    · replace h := ite_t c h
      refine g_iconst C.c dX0_mayBreak_28 (v := (1 : Int32)) (by decide) ?_
      refine g_goto C.c (tgt := 33) dX0_mayBreak_29 (by decide) ?_
      obtain rfl := Option.some.inj h
      exact g_iret C hQ dX0_mayBreak_33 rfl ⟨rfl, rfl⟩
  · replace h := ite_t c h
    refine g_iload_n C.c dX0_mayBreak_5 rfl (i := 1) rfl ?_
    refine g_iconst C.c dX0_mayBreak_6 (v := (2 : Int32)) (by decide) ?_
    refine g_icmp_lt C.c (tgt := 20) dX0_mayBreak_7 (by decide) (fun c => ?_) (fun c => ?_)
    · replace h := ite_t c h
      exact g_mask [false, false] rfl (bX0_mayBreak_b20 C hQ h)
    · replace h := ite_f c h
      refine g_iload_n C.c dX0_mayBreak_10 rfl (i := 1) rfl ?_
      refine g_bipush C.c dX0_mayBreak_11 (v := (9 : Int32)) (by decide) ?_
      refine g_icmp_gt C.c (tgt := 20) dX0_mayBreak_13 (by decide) (fun c => ?_) (fun c => ?_)
      · replace h := ite_t c h
        exact g_mask [false, false] rfl (bX0_mayBreak_b20 C hQ h)
      · replace h := ite_f c h
        refine g_iconst C.c dX0_mayBreak_16 (v := (1 : Int32)) (by decide) ?_
        refine g_goto C.c (tgt := 33) dX0_mayBreak_17 (by decide) ?_
        obtain rfl := Option.some.inj h
        exact g_iret C hQ dX0_mayBreak_33 rfl ⟨rfl, rfl⟩
def fX0_mayBreak (a0 : Int32) (a1 : Int32) (σ : Sg) : Option (Int32 × Sg) := fX0_mayBreak_b0 a0 a1 σ
theorem ct_X0_mayBreak {a0 : Int32} {a1 : Int32} {σ : Sg} {p : Int32 × Sg} (h : fX0_mayBreak a0 a1 σ = some p) : Ct layC yX0_mayBreak cX0_mayBreak 2 (some .boolean) 1 (fun ad => [.int a0, .int a1]) σ (okI p) :=
 ct_of (L0 := fun ad => [some (.int a0), some (.int a1)]) (by decide) (fun _ => Nat.le_of_ble_eq_true rfl) (fun _ => rfl) (fun K C hQ => g_mask [true, true] rfl (bX0_mayBreak_b0 C hQ h))
-- X0_become
theorem dX0_become_0 : decode cX0_become 0 = .ok (.aload_n 0, 1) := by decide +kernel
theorem dX0_become_1 : decode cX0_become 1 = .ok (.iload_n 1, 1) := by decide +kernel
theorem dX0_become_2 : decode cX0_become 2 = .ok (.putfield 9, 3) := by decide +kernel
theorem dX0_become_5 : decode cX0_become 5 = .ok (.aload_n 0, 1) := by decide +kernel
theorem dX0_become_6 : decode cX0_become 6 = .ok (.iload_n 2, 1) := by decide +kernel
theorem dX0_become_7 : decode cX0_become 7 = .ok (.putfield 13, 3) := by decide +kernel
theorem dX0_become_10 : decode cX0_become 10 = .ok (.aload_n 0, 1) := by decide +kernel
theorem dX0_become_11 : decode cX0_become 11 = .ok (.iload_n 3, 1) := by decide +kernel
theorem dX0_become_12 : decode cX0_become 12 = .ok (.putfield 16, 3) := by decide +kernel
theorem dX0_become_15 : decode cX0_become 15 = .ok (.aload_n 0, 1) := by decide +kernel
theorem dX0_become_16 : decode cX0_become 16 = .ok (.iload 4, 2) := by decide +kernel
theorem dX0_become_18 : decode cX0_become 18 = .ok (.putfield 19, 3) := by decide +kernel
theorem dX0_become_21 : decode cX0_become 21 = .ok (.aload_n 0, 1) := by decide +kernel
theorem dX0_become_22 : decode cX0_become 22 = .ok (.iload 5, 2) := by decide +kernel
theorem dX0_become_24 : decode cX0_become 24 = .ok (.putfield 22, 3) := by decide +kernel
theorem dX0_become_27 : decode cX0_become 27 = .ok (.aload_n 0, 1) := by decide +kernel
theorem dX0_become_28 : decode cX0_become 28 = .ok (.iload_n 1, 1) := by decide +kernel
theorem dX0_become_29 : decode cX0_become 29 = .ok (.iconst 1, 1) := by decide +kernel
theorem dX0_become_30 : decode cX0_become 30 = .ok (.if_icmp .eq 8, 3) := by decide +kernel
theorem dX0_become_33 : decode cX0_become 33 = .ok (.iload_n 1, 1) := by decide +kernel
theorem dX0_become_34 : decode cX0_become 34 = .ok (.iconst 4, 1) := by decide +kernel
theorem dX0_become_35 : decode cX0_become 35 = .ok (.if_icmp .ne 7, 3) := by decide +kernel
theorem dX0_become_38 : decode cX0_become 38 = .ok (.iconst 1, 1) := by decide +kernel
theorem dX0_become_39 : decode cX0_become 39 = .ok (.goto 4, 3) := by decide +kernel
theorem dX0_become_42 : decode cX0_become 42 = .ok (.iconst 0, 1) := by decide +kernel
theorem dX0_become_43 : decode cX0_become 43 = .ok (.putfield 25, 3) := by decide +kernel
theorem dX0_become_46 : decode cX0_become 46 = .ok (.return_, 1) := by decide +kernel
theorem cw_X0_become : Cw yX0_become cX0_become 6 none 5 := ⟨aw_511, aw_51, ⟨by decide, by decide⟩, by decide +kernel, by decide⟩
theorem pf_0_9d {K : KT} {cc : ByteArray} {nL d pc : Nat} {ret : Option FieldType} {L : List (Option Value)} {st : List Value} {σ : Sg} (C : Cx K layC cc RX0 nL d ret) {o : Nat} (hY : layC[o]? = some (0, 0, slX0)) {v : Int32}  (hd : decode cc pc = .ok (.putfield 9, 3)) (k : G K (pc + 3) L st (Wd K layC (wI σ o 0 v))) : G K pc L (.int v :: .ref (kad K o) :: st) (Wd K layC σ) := g_putI C (o := o) (ci := 0) (k := 0) hd hY rfl rfl (by decide) (Or.inl aw_163) inA0 tyX0_ok nmX0 rfl rfl rfl k
theorem pf_0_13d {K : KT} {cc : ByteArray} {nL d pc : Nat} {ret : Option FieldType} {L : List (Option Value)} {st : List Value} {σ : Sg} (C : Cx K layC cc RX0 nL d ret) {o : Nat} (hY : layC[o]? = some (0, 0, slX0)) {v : Int32}  (hd : decode cc pc = .ok (.putfield 13, 3)) (k : G K (pc + 3) L st (Wd K layC (wI σ o 1 v))) : G K pc L (.int v :: .ref (kad K o) :: st) (Wd K layC σ) := g_putI C (o := o) (ci := 0) (k := 1) hd hY rfl rfl (by decide) (Or.inl aw_167) inA0 tyX0_ok nmX0 rfl rfl rfl k
theorem pf_0_16d {K : KT} {cc : ByteArray} {nL d pc : Nat} {ret : Option FieldType} {L : List (Option Value)} {st : List Value} {σ : Sg} (C : Cx K layC cc RX0 nL d ret) {o : Nat} (hY : layC[o]? = some (0, 0, slX0)) {v : Int32}  (hd : decode cc pc = .ok (.putfield 16, 3)) (k : G K (pc + 3) L st (Wd K layC (wI σ o 2 v))) : G K pc L (.int v :: .ref (kad K o) :: st) (Wd K layC σ) := g_putI C (o := o) (ci := 0) (k := 2) hd hY rfl rfl (by decide) (Or.inl aw_170) inA0 tyX0_ok nmX0 rfl rfl rfl k
theorem pf_0_19d {K : KT} {cc : ByteArray} {nL d pc : Nat} {ret : Option FieldType} {L : List (Option Value)} {st : List Value} {σ : Sg} (C : Cx K layC cc RX0 nL d ret) {o : Nat} (hY : layC[o]? = some (0, 0, slX0)) {v : Int32}  (hd : decode cc pc = .ok (.putfield 19, 3)) (k : G K (pc + 3) L st (Wd K layC (wI σ o 3 v))) : G K pc L (.int v :: .ref (kad K o) :: st) (Wd K layC σ) := g_putI C (o := o) (ci := 0) (k := 3) hd hY rfl rfl (by decide) (Or.inl aw_174) inA0 tyX0_ok nmX0 rfl rfl rfl k
theorem pf_0_22d {K : KT} {cc : ByteArray} {nL d pc : Nat} {ret : Option FieldType} {L : List (Option Value)} {st : List Value} {σ : Sg} (C : Cx K layC cc RX0 nL d ret) {o : Nat} (hY : layC[o]? = some (0, 0, slX0)) {v : Int32}  (hd : decode cc pc = .ok (.putfield 22, 3)) (k : G K (pc + 3) L st (Wd K layC (wI σ o 4 v))) : G K pc L (.int v :: .ref (kad K o) :: st) (Wd K layC σ) := g_putI C (o := o) (ci := 0) (k := 4) hd hY rfl rfl (by decide) (Or.inl aw_176) inA0 tyX0_ok nmX0 rfl rfl rfl k
theorem pf_0_25d {K : KT} {cc : ByteArray} {nL d pc : Nat} {ret : Option FieldType} {L : List (Option Value)} {st : List Value} {σ : Sg} (C : Cx K layC cc RX0 nL d ret) {o : Nat} (hY : layC[o]? = some (0, 0, slX0)) {v : Int32} (hb : isB v = true) (hd : decode cc pc = .ok (.putfield 25, 3)) (k : G K (pc + 3) L st (Wd K layC (wI σ o 5 v))) : G K pc L (.int v :: .ref (kad K o) :: st) (Wd K layC σ) := g_putI C (o := o) (ci := 0) (k := 5) hd hY rfl rfl (by decide) (Or.inl aw_178) inA0 tyX0_ok nmX0 rfl (isB_n hb) (isB_f hb) k
def fX0_become_b38 (u0 : Nat) (σ : Sg) : Option (Sg) :=
  some (wI σ u0 5 (1 : Int32))
def fX0_become_b0 (w0 : Nat) (x1 : Int32) (x2 : Int32) (x3 : Int32) (x4 : Int32) (x5 : Int32) (σ : Sg) : Option (Sg) :=
  if x1 = (1 : Int32) then (fX0_become_b38 w0 (wI (wI (wI (wI (wI σ w0 0 x1) w0 1 x2) w0 2 x3) w0 3 x4) w0 4 x5)) else (if x1 = (4 : Int32) then (fX0_become_b38 w0 (wI (wI (wI (wI (wI σ w0 0 x1) w0 1 x2) w0 2 x3) w0 3 x4) w0 4 x5)) else (some (wI (wI (wI (wI (wI (wI σ w0 0 x1) w0 1 x2) w0 2 x3) w0 3 x4) w0 4 x5) w0 5 (0 : Int32))))
set_option maxRecDepth 4000 in
theorem bX0_become_b38 {K : KT} {u0 : Nat} {σ : Sg} {o : Sg} (C : Cx K layC cX0_become RX0 6 (1) none) (hu0 : layC[u0]? = some (0, 0, slX0)) (hQ : Rk K layC (okV o)) (h : fX0_become_b38 u0 σ = some o) : G K 38 [none, none, none, none, none, none] [.ref (kad K u0)] (Wd K layC σ) := by
  unfold fX0_become_b38 at h
  refine g_iconst C.c dX0_become_38 (v := (1 : Int32)) (by decide) ?_
  refine g_goto C.c (tgt := 43) dX0_become_39 (by decide) ?_
  refine pf_0_25d C hu0 (by decide) dX0_become_43 ?_
  obtain rfl := Option.some.inj h
  exact g_vret C hQ dX0_become_46 ⟨rfl, rfl⟩
set_option maxRecDepth 4000 in
theorem bX0_become_b0 {K : KT} {w0 : Nat} {x1 : Int32} {x2 : Int32} {x3 : Int32} {x4 : Int32} {x5 : Int32} {σ : Sg} {o : Sg} (C : Cx K layC cX0_become RX0 6 (1) none) (hw0 : layC[w0]? = some (0, 0, slX0)) (hQ : Rk K layC (okV o)) (h : fX0_become_b0 w0 x1 x2 x3 x4 x5 σ = some o) : G K 0 [some (.ref (kad K w0)), some (.int x1), some (.int x2), some (.int x3), some (.int x4), some (.int x5)] [] (Wd K layC σ) := by
  unfold fX0_become_b0 at h
  refine g_aload_n C.c dX0_become_0 rfl (i := 0) rfl ?_
  refine g_iload_n C.c dX0_become_1 rfl (i := 1) rfl ?_
  refine pf_0_9d C hw0 dX0_become_2 ?_
  refine g_aload_n C.c dX0_become_5 rfl (i := 0) rfl ?_
  refine g_iload_n C.c dX0_become_6 rfl (i := 2) rfl ?_
  refine pf_0_13d C hw0 dX0_become_7 ?_
  refine g_aload_n C.c dX0_become_10 rfl (i := 0) rfl ?_
  refine g_iload_n C.c dX0_become_11 rfl (i := 3) rfl ?_
  refine pf_0_16d C hw0 dX0_become_12 ?_
  refine g_aload_n C.c dX0_become_15 rfl (i := 0) rfl ?_
  refine g_iload C.c dX0_become_16 (i := 4) rfl ?_
  refine pf_0_19d C hw0 dX0_become_18 ?_
  refine g_aload_n C.c dX0_become_21 rfl (i := 0) rfl ?_
  refine g_iload C.c dX0_become_22 (i := 5) rfl ?_
  refine pf_0_22d C hw0 dX0_become_24 ?_
  refine g_aload_n C.c dX0_become_27 rfl (i := 0) rfl ?_
  refine g_iload_n C.c dX0_become_28 rfl (i := 1) rfl ?_
  refine g_iconst C.c dX0_become_29 (v := (1 : Int32)) (by decide) ?_
  refine g_icmp_eq C.c (tgt := 38) dX0_become_30 (by decide) (fun c => ?_) (fun c => ?_)
  · replace h := ite_t c h
    exact g_mask [false, false, false, false, false, false] rfl (bX0_become_b38 C hw0 hQ h)
  · replace h := ite_f c h
    refine g_iload_n C.c dX0_become_33 rfl (i := 1) rfl ?_
    refine g_iconst C.c dX0_become_34 (v := (4 : Int32)) (by decide) ?_
    refine g_icmp_ne C.c (tgt := 42) dX0_become_35 (by decide) (fun c => ?_) (fun c => ?_)
    · replace h := ite_f c h
      refine g_iconst C.c dX0_become_42 (v := (0 : Int32)) (by decide) ?_
      refine pf_0_25d C hw0 (by decide) dX0_become_43 ?_
      obtain rfl := Option.some.inj h
      exact g_vret C hQ dX0_become_46 ⟨rfl, rfl⟩
    · replace h := ite_t c h
      exact g_mask [false, false, false, false, false, false] rfl (bX0_become_b38 C hw0 hQ h)
def fX0_become (o0 : Nat) (a0 : Int32) (a1 : Int32) (a2 : Int32) (a3 : Int32) (a4 : Int32) (σ : Sg) : Option (Sg) := fX0_become_b0 o0 a0 a1 a2 a3 a4 σ
theorem ct_X0_become {o0 : Nat} {a0 : Int32} {a1 : Int32} {a2 : Int32} {a3 : Int32} {a4 : Int32} {σ : Sg} {p : Sg} (hY0 : layC[o0]? = some (0, 0, slX0)) (h : fX0_become o0 a0 a1 a2 a3 a4 σ = some p) : Ct layC yX0_become cX0_become 6 none 1 (fun ad => [.ref (ad o0), .int a0, .int a1, .int a2, .int a3, .int a4]) σ (okV p) :=
 ct_of (L0 := fun ad => [some (.ref (ad o0)), some (.int a0), some (.int a1), some (.int a2), some (.int a3), some (.int a4)]) (by decide) (fun _ => Nat.le_of_ble_eq_true rfl) (fun _ => rfl) (fun K C hQ => g_mask [true, true, true, true, true, true] rfl (bX0_become_b0 C hY0 hQ h))
-- X0_isA
theorem dX0_isA_0 : decode cX0_isA 0 = .ok (.iload_n 1, 1) := by decide +kernel
theorem dX0_isA_1 : decode cX0_isA 1 = .ok (.ifCond .eq 23, 3) := by decide +kernel
theorem dX0_isA_4 : decode cX0_isA 4 = .ok (.iload_n 1, 1) := by decide +kernel
theorem dX0_isA_5 : decode cX0_isA 5 = .ok (.aload_n 0, 1) := by decide +kernel
theorem dX0_isA_6 : decode cX0_isA 6 = .ok (.getfield 9, 3) := by decide +kernel
theorem dX0_isA_9 : decode cX0_isA 9 = .ok (.if_icmp .eq 15, 3) := by decide +kernel
theorem dX0_isA_12 : decode cX0_isA 12 = .ok (.iload_n 1, 1) := by decide +kernel
theorem dX0_isA_13 : decode cX0_isA 13 = .ok (.iconst 1, 1) := by decide +kernel
theorem dX0_isA_14 : decode cX0_isA 14 = .ok (.if_icmp .ne 14, 3) := by decide +kernel
theorem dX0_isA_17 : decode cX0_isA 17 = .ok (.aload_n 0, 1) := by decide +kernel
theorem dX0_isA_18 : decode cX0_isA 18 = .ok (.getfield 25, 3) := by decide +kernel
theorem dX0_isA_21 : decode cX0_isA 21 = .ok (.ifCond .eq 7, 3) := by decide +kernel
theorem dX0_isA_24 : decode cX0_isA 24 = .ok (.iconst 1, 1) := by decide +kernel
theorem dX0_isA_25 : decode cX0_isA 25 = .ok (.goto 4, 3) := by decide +kernel
theorem dX0_isA_28 : decode cX0_isA 28 = .ok (.iconst 0, 1) := by decide +kernel
theorem dX0_isA_29 : decode cX0_isA 29 = .ok (.ireturn, 1) := by decide +kernel
theorem cw_X0_isA : Cw yX0_isA cX0_isA 2 (some .boolean) 1 := ⟨aw_527, aw_51, ⟨by decide, by decide⟩, by decide +kernel, by decide⟩
theorem gf_0_9d {K : KT} {cc : ByteArray} {nL d pc : Nat} {ret : Option FieldType} {L : List (Option Value)} {st : List Value} {σ : Sg} (C : Cx K layC cc RX0 nL d ret) {o : Nat} (hY : layC[o]? = some (0, 0, slX0)) (hd : decode cc pc = .ok (.getfield 9, 3)) (k : G K (pc + 3) L (.int (rI σ o 0) :: st) (Wd K layC σ)) : G K pc L (.ref (kad K o) :: st) (Wd K layC σ) := g_get C (o := o) (ci := 0) (k := 0) hd hY rfl rfl (by decide) (Or.inl aw_163) inA0 rfl k
theorem gf_0_25d {K : KT} {cc : ByteArray} {nL d pc : Nat} {ret : Option FieldType} {L : List (Option Value)} {st : List Value} {σ : Sg} (C : Cx K layC cc RX0 nL d ret) {o : Nat} (hY : layC[o]? = some (0, 0, slX0)) (hd : decode cc pc = .ok (.getfield 25, 3)) (k : G K (pc + 3) L (.int (rI σ o 5) :: st) (Wd K layC σ)) : G K pc L (.ref (kad K o) :: st) (Wd K layC σ) := g_get C (o := o) (ci := 0) (k := 5) hd hY rfl rfl (by decide) (Or.inl aw_178) inA0 rfl k
def fX0_isA_b24  (σ : Sg) : Option (Int32 × Sg) :=
  some ((1 : Int32), σ)
def fX0_isA_b0 (w0 : Nat) (x1 : Int32) (σ : Sg) : Option (Int32 × Sg) :=
  if x1 = 0 then (fX0_isA_b24 σ) else (if x1 = (rI σ w0 0) then (fX0_isA_b24 σ) else (if x1 = (1 : Int32) then (if (rI σ w0 5) = 0 then (some ((0 : Int32), σ)) else (fX0_isA_b24 σ)) else (some ((0 : Int32), σ))))
set_option maxRecDepth 4000 in
theorem bX0_isA_b24 {K : KT}  {σ : Sg} {o : Int32 × Sg} (C : Cx K layC cX0_isA RX0 2 (1) (some .boolean))  (hQ : Rk K layC (okI o)) (h : fX0_isA_b24  σ = some o) : G K 24 [none, none] [] (Wd K layC σ) := by
  unfold fX0_isA_b24 at h
  refine g_iconst C.c dX0_isA_24 (v := (1 : Int32)) (by decide) ?_
  refine g_goto C.c (tgt := 29) dX0_isA_25 (by decide) ?_
  obtain rfl := Option.some.inj h
  exact g_iret C hQ dX0_isA_29 rfl ⟨rfl, rfl⟩
set_option maxRecDepth 4000 in
theorem bX0_isA_b0 {K : KT} {w0 : Nat} {x1 : Int32} {σ : Sg} {o : Int32 × Sg} (C : Cx K layC cX0_isA RX0 2 (1) (some .boolean)) (hw0 : layC[w0]? = some (0, 0, slX0)) (hQ : Rk K layC (okI o)) (h : fX0_isA_b0 w0 x1 σ = some o) : G K 0 [some (.ref (kad K w0)), some (.int x1)] [] (Wd K layC σ) := by
  unfold fX0_isA_b0 at h
  refine g_iload_n C.c dX0_isA_0 rfl (i := 1) rfl ?_
  refine g_if_eq C.c (tgt := 24) dX0_isA_1 (by decide) (fun c => ?_) (fun c => ?_)
  · replace h := ite_t c h
    exact g_mask [false, false] rfl (bX0_isA_b24 C hQ h)
  · replace h := ite_f c h
    refine g_iload_n C.c dX0_isA_4 rfl (i := 1) rfl ?_
    refine g_aload_n C.c dX0_isA_5 rfl (i := 0) rfl ?_
    refine gf_0_9d C hw0 dX0_isA_6 ?_
    refine g_icmp_eq C.c (tgt := 24) dX0_isA_9 (by decide) (fun c => ?_) (fun c => ?_)
    · replace h := ite_t c h
      exact g_mask [false, false] rfl (bX0_isA_b24 C hQ h)
    · replace h := ite_f c h
      refine g_iload_n C.c dX0_isA_12 rfl (i := 1) rfl ?_
      refine g_iconst C.c dX0_isA_13 (v := (1 : Int32)) (by decide) ?_
      refine g_icmp_ne C.c (tgt := 28) dX0_isA_14 (by decide) (fun c => ?_) (fun c => ?_)
      · replace h := ite_f c h
        refine g_iconst C.c dX0_isA_28 (v := (0 : Int32)) (by decide) ?_
        obtain rfl := Option.some.inj h
        exact g_iret C hQ dX0_isA_29 rfl ⟨rfl, rfl⟩
      · replace h := ite_t c h
        refine g_aload_n C.c dX0_isA_17 rfl (i := 0) rfl ?_
        refine gf_0_25d C hw0 dX0_isA_18 ?_
        refine g_if_eq C.c (tgt := 28) dX0_isA_21 (by decide) (fun c => ?_) (fun c => ?_)
        · replace h := ite_t c h
          refine g_iconst C.c dX0_isA_28 (v := (0 : Int32)) (by decide) ?_
          obtain rfl := Option.some.inj h
          exact g_iret C hQ dX0_isA_29 rfl ⟨rfl, rfl⟩
        · replace h := ite_f c h
          exact g_mask [false, false] rfl (bX0_isA_b24 C hQ h)
def fX0_isA (o0 : Nat) (a0 : Int32) (σ : Sg) : Option (Int32 × Sg) := fX0_isA_b0 o0 a0 σ
theorem ct_X0_isA {o0 : Nat} {a0 : Int32} {σ : Sg} {p : Int32 × Sg} (hY0 : layC[o0]? = some (0, 0, slX0)) (h : fX0_isA o0 a0 σ = some p) : Ct layC yX0_isA cX0_isA 2 (some .boolean) 1 (fun ad => [.ref (ad o0), .int a0]) σ (okI p) :=
 ct_of (L0 := fun ad => [some (.ref (ad o0)), some (.int a0)]) (by decide) (fun _ => Nat.le_of_ble_eq_true rfl) (fun _ => rfl) (fun K C hQ => g_mask [true, true] rfl (bX0_isA_b0 C hY0 hQ h))
-- X0_meltOf
theorem dX0_meltOf_0 : decode cX0_meltOf 0 = .ok (.aload_n 0, 1) := by decide +kernel
theorem dX0_meltOf_1 : decode cX0_meltOf 1 = .ok (.getfield 9, 3) := by decide +kernel
theorem dX0_meltOf_4 : decode cX0_meltOf 4 = .ok (.iconst 3, 1) := by decide +kernel
theorem dX0_meltOf_5 : decode cX0_meltOf 5 = .ok (.if_icmp .ne 9, 3) := by decide +kernel
theorem dX0_meltOf_8 : decode cX0_meltOf 8 = .ok (.iload_n 1, 1) := by decide +kernel
theorem dX0_meltOf_9 : decode cX0_meltOf 9 = .ok (.iconst 1, 1) := by decide +kernel
theorem dX0_meltOf_10 : decode cX0_meltOf 10 = .ok (.iadd, 1) := by decide +kernel
theorem dX0_meltOf_11 : decode cX0_meltOf 11 = .ok (.goto 4, 3) := by decide +kernel
theorem dX0_meltOf_14 : decode cX0_meltOf 14 = .ok (.iload_n 1, 1) := by decide +kernel
theorem dX0_meltOf_15 : decode cX0_meltOf 15 = .ok (.istore_n 3, 1) := by decide +kernel
theorem dX0_meltOf_16 : decode cX0_meltOf 16 = .ok (.iconst 1, 1) := by decide +kernel
theorem dX0_meltOf_17 : decode cX0_meltOf 17 = .ok (.iload_n 3, 1) := by decide +kernel
theorem dX0_meltOf_18 : decode cX0_meltOf 18 = .ok (.iload_n 2, 1) := by decide +kernel
theorem dX0_meltOf_19 : decode cX0_meltOf 19 = .ok (.imul, 1) := by decide +kernel
theorem dX0_meltOf_20 : decode cX0_meltOf 20 = .ok (.bipush 100, 2) := by decide +kernel
theorem dX0_meltOf_22 : decode cX0_meltOf 22 = .ok (.idiv, 1) := by decide +kernel
theorem dX0_meltOf_23 : decode cX0_meltOf 23 = .ok (.iadd, 1) := by decide +kernel
theorem dX0_meltOf_24 : decode cX0_meltOf 24 = .ok (.istore 4, 2) := by decide +kernel
theorem dX0_meltOf_26 : decode cX0_meltOf 26 = .ok (.aload_n 0, 1) := by decide +kernel
theorem dX0_meltOf_27 : decode cX0_meltOf 27 = .ok (.getfield 25, 3) := by decide +kernel
theorem dX0_meltOf_30 : decode cX0_meltOf 30 = .ok (.ifCond .eq 12, 3) := by decide +kernel
theorem dX0_meltOf_33 : decode cX0_meltOf 33 = .ok (.iload 4, 2) := by decide +kernel
theorem dX0_meltOf_35 : decode cX0_meltOf 35 = .ok (.iconst 1, 1) := by decide +kernel
theorem dX0_meltOf_36 : decode cX0_meltOf 36 = .ok (.iadd, 1) := by decide +kernel
theorem dX0_meltOf_37 : decode cX0_meltOf 37 = .ok (.iconst 2, 1) := by decide +kernel
theorem dX0_meltOf_38 : decode cX0_meltOf 38 = .ok (.idiv, 1) := by decide +kernel
theorem dX0_meltOf_39 : decode cX0_meltOf 39 = .ok (.goto 5, 3) := by decide +kernel
theorem dX0_meltOf_42 : decode cX0_meltOf 42 = .ok (.iload 4, 2) := by decide +kernel
theorem dX0_meltOf_44 : decode cX0_meltOf 44 = .ok (.ireturn, 1) := by decide +kernel
theorem cw_X0_meltOf : Cw yX0_meltOf cX0_meltOf 5 (some .int) 2 := ⟨aw_613, aw_51, ⟨by decide, by decide⟩, by decide +kernel, by decide⟩
def fX0_meltOf_b15 (w0 : Nat) (x2 : Int32) (y0 : Int32) (σ : Sg) : Option (Int32 × Sg) :=
  if (rI σ w0 5) = 0 then (some (((1 : Int32) + ((y0 * x2) / (100 : Int32))), σ)) else (some (((((1 : Int32) + ((y0 * x2) / (100 : Int32))) + (1 : Int32)) / (2 : Int32)), σ))
def fX0_meltOf_b0 (w0 : Nat) (x1 : Int32) (x2 : Int32) (σ : Sg) : Option (Int32 × Sg) :=
  if (rI σ w0 0) = (3 : Int32) then (fX0_meltOf_b15 w0 x2 (x1 + (1 : Int32)) σ) else (fX0_meltOf_b15 w0 x2 x1 σ)
set_option maxRecDepth 4000 in
theorem bX0_meltOf_b15 {K : KT} {w0 : Nat} {x2 : Int32} {y0 : Int32} {σ : Sg} {o : Int32 × Sg} (C : Cx K layC cX0_meltOf RX0 5 (1) (some .int)) (hw0 : layC[w0]? = some (0, 0, slX0)) (hQ : Rk K layC (okI o)) (h : fX0_meltOf_b15 w0 x2 y0 σ = some o) : G K 15 [some (.ref (kad K w0)), none, some (.int x2), none, none] [.int y0] (Wd K layC σ) := by
  unfold fX0_meltOf_b15 at h
  refine g_istore_n C.c (i := 3) (L' := [some (.ref (kad K w0)), none, some (.int x2), some (.int y0), none]) dX0_meltOf_15 rfl (Nat.le_of_ble_eq_true rfl) rfl ?_
  refine g_iconst C.c dX0_meltOf_16 (v := (1 : Int32)) (by decide) ?_
  refine g_iload_n C.c dX0_meltOf_17 rfl (i := 3) rfl ?_
  refine g_iload_n C.c dX0_meltOf_18 rfl (i := 2) rfl ?_
  refine g_imul C.c dX0_meltOf_19 ?_
  refine g_bipush C.c dX0_meltOf_20 (v := (100 : Int32)) (by decide) ?_
  refine g_idiv C.c dX0_meltOf_22 (by decide) ?_
  refine g_iadd C.c dX0_meltOf_23 ?_
  refine g_istore C.c (i := 4) (L' := [some (.ref (kad K w0)), none, some (.int x2), some (.int y0), some (.int ((1 : Int32) + ((y0 * x2) / (100 : Int32))))]) dX0_meltOf_24 (Nat.le_of_ble_eq_true rfl) rfl ?_
  refine g_aload_n C.c dX0_meltOf_26 rfl (i := 0) rfl ?_
  refine gf_0_25d C hw0 dX0_meltOf_27 ?_
  refine g_if_eq C.c (tgt := 42) dX0_meltOf_30 (by decide) (fun c => ?_) (fun c => ?_)
  · replace h := ite_t c h
    refine g_iload C.c dX0_meltOf_42 (i := 4) rfl ?_
    obtain rfl := Option.some.inj h
    exact g_iret C hQ dX0_meltOf_44 rfl ⟨rfl, rfl⟩
  · replace h := ite_f c h
    refine g_iload C.c dX0_meltOf_33 (i := 4) rfl ?_
    refine g_iconst C.c dX0_meltOf_35 (v := (1 : Int32)) (by decide) ?_
    refine g_iadd C.c dX0_meltOf_36 ?_
    refine g_iconst C.c dX0_meltOf_37 (v := (2 : Int32)) (by decide) ?_
    refine g_idiv C.c dX0_meltOf_38 (by decide) ?_
    refine g_goto C.c (tgt := 44) dX0_meltOf_39 (by decide) ?_
    obtain rfl := Option.some.inj h
    exact g_iret C hQ dX0_meltOf_44 rfl ⟨rfl, rfl⟩
set_option maxRecDepth 4000 in
theorem bX0_meltOf_b0 {K : KT} {w0 : Nat} {x1 : Int32} {x2 : Int32} {σ : Sg} {o : Int32 × Sg} (C : Cx K layC cX0_meltOf RX0 5 (1) (some .int)) (hw0 : layC[w0]? = some (0, 0, slX0)) (hQ : Rk K layC (okI o)) (h : fX0_meltOf_b0 w0 x1 x2 σ = some o) : G K 0 [some (.ref (kad K w0)), some (.int x1), some (.int x2), none, none] [] (Wd K layC σ) := by
  unfold fX0_meltOf_b0 at h
  refine g_aload_n C.c dX0_meltOf_0 rfl (i := 0) rfl ?_
  refine gf_0_9d C hw0 dX0_meltOf_1 ?_
  refine g_iconst C.c dX0_meltOf_4 (v := (3 : Int32)) (by decide) ?_
  refine g_icmp_ne C.c (tgt := 14) dX0_meltOf_5 (by decide) (fun c => ?_) (fun c => ?_)
  · replace h := ite_f c h
    refine g_iload_n C.c dX0_meltOf_14 rfl (i := 1) rfl ?_
    exact g_mask [true, false, true, false, false] rfl (bX0_meltOf_b15 C hw0 hQ h)
  · replace h := ite_t c h
    refine g_iload_n C.c dX0_meltOf_8 rfl (i := 1) rfl ?_
    refine g_iconst C.c dX0_meltOf_9 (v := (1 : Int32)) (by decide) ?_
    refine g_iadd C.c dX0_meltOf_10 ?_
    refine g_goto C.c (tgt := 15) dX0_meltOf_11 (by decide) ?_
    exact g_mask [true, false, true, false, false] rfl (bX0_meltOf_b15 C hw0 hQ h)
def fX0_meltOf (o0 : Nat) (a0 : Int32) (a1 : Int32) (σ : Sg) : Option (Int32 × Sg) := fX0_meltOf_b0 o0 a0 a1 σ
theorem ct_X0_meltOf {o0 : Nat} {a0 : Int32} {a1 : Int32} {σ : Sg} {p : Int32 × Sg} (hY0 : layC[o0]? = some (0, 0, slX0)) (h : fX0_meltOf o0 a0 a1 σ = some p) : Ct layC yX0_meltOf cX0_meltOf 5 (some .int) 1 (fun ad => [.ref (ad o0), .int a0, .int a1]) σ (okI p) :=
 ct_of (L0 := fun ad => [some (.ref (ad o0)), some (.int a0), some (.int a1), none, none]) (by decide) (fun _ => Nat.le_of_ble_eq_true rfl) (fun _ => rfl) (fun K C hQ => g_mask [true, true, true, false, false] rfl (bX0_meltOf_b0 C hY0 hQ h))
-- X0_breaksOn
theorem dX0_breaksOn_0 : decode cX0_breaksOn 0 = .ok (.aload_n 0, 1) := by decide +kernel
theorem dX0_breaksOn_1 : decode cX0_breaksOn 1 = .ok (.getfield 9, 3) := by decide +kernel
theorem dX0_breaksOn_4 : decode cX0_breaksOn 4 = .ok (.iconst 2, 1) := by decide +kernel
theorem dX0_breaksOn_5 : decode cX0_breaksOn 5 = .ok (.if_icmp .ne 23, 3) := by decide +kernel
theorem dX0_breaksOn_8 : decode cX0_breaksOn 8 = .ok (.aload_n 0, 1) := by decide +kernel
theorem dX0_breaksOn_9 : decode cX0_breaksOn 9 = .ok (.getfield 22, 3) := by decide +kernel
theorem dX0_breaksOn_12 : decode cX0_breaksOn 12 = .ok (.ifCond .le 16, 3) := by decide +kernel
theorem dX0_breaksOn_15 : decode cX0_breaksOn 15 = .ok (.iload_n 1, 1) := by decide +kernel
theorem dX0_breaksOn_16 : decode cX0_breaksOn 16 = .ok (.aload_n 0, 1) := by decide +kernel
theorem dX0_breaksOn_17 : decode cX0_breaksOn 17 = .ok (.getfield 22, 3) := by decide +kernel
theorem dX0_breaksOn_20 : decode cX0_breaksOn 20 = .ok (.irem, 1) := by decide +kernel
theorem dX0_breaksOn_21 : decode cX0_breaksOn 21 = .ok (.ifCond .ne 7, 3) := by decide +kernel
theorem dX0_breaksOn_24 : decode cX0_breaksOn 24 = .ok (.iconst 1, 1) := by decide +kernel
theorem dX0_breaksOn_25 : decode cX0_breaksOn 25 = .ok (.goto 4, 3) := by decide +kernel
theorem dX0_breaksOn_28 : decode cX0_breaksOn 28 = .ok (.iconst 0, 1) := by decide +kernel
theorem dX0_breaksOn_29 : decode cX0_breaksOn 29 = .ok (.ireturn, 1) := by decide +kernel
theorem cw_X0_breaksOn : Cw yX0_breaksOn cX0_breaksOn 2 (some .boolean) 1 := ⟨aw_617, aw_51, ⟨by decide, by decide⟩, by decide +kernel, by decide⟩
theorem gf_0_22d {K : KT} {cc : ByteArray} {nL d pc : Nat} {ret : Option FieldType} {L : List (Option Value)} {st : List Value} {σ : Sg} (C : Cx K layC cc RX0 nL d ret) {o : Nat} (hY : layC[o]? = some (0, 0, slX0)) (hd : decode cc pc = .ok (.getfield 22, 3)) (k : G K (pc + 3) L (.int (rI σ o 4) :: st) (Wd K layC σ)) : G K pc L (.ref (kad K o) :: st) (Wd K layC σ) := g_get C (o := o) (ci := 0) (k := 4) hd hY rfl rfl (by decide) (Or.inl aw_176) inA0 rfl k
def fX0_breaksOn_b0 (w0 : Nat) (x1 : Int32) (σ : Sg) : Option (Int32 × Sg) :=
  if (rI σ w0 0) = (2 : Int32) then (if (rI σ w0 4) ≤ 0 then (some ((0 : Int32), σ)) else (if (rI σ w0 4) = 0 then none else if (x1 - x1 / (rI σ w0 4) * (rI σ w0 4)) = 0 then (some ((1 : Int32), σ)) else (some ((0 : Int32), σ)))) else (some ((0 : Int32), σ))
set_option maxRecDepth 4000 in
theorem bX0_breaksOn_b0 {K : KT} {w0 : Nat} {x1 : Int32} {σ : Sg} {o : Int32 × Sg} (C : Cx K layC cX0_breaksOn RX0 2 (1) (some .boolean)) (hw0 : layC[w0]? = some (0, 0, slX0)) (hQ : Rk K layC (okI o)) (h : fX0_breaksOn_b0 w0 x1 σ = some o) : G K 0 [some (.ref (kad K w0)), some (.int x1)] [] (Wd K layC σ) := by
  unfold fX0_breaksOn_b0 at h
  refine g_aload_n C.c dX0_breaksOn_0 rfl (i := 0) rfl ?_
  refine gf_0_9d C hw0 dX0_breaksOn_1 ?_
  refine g_iconst C.c dX0_breaksOn_4 (v := (2 : Int32)) (by decide) ?_
  refine g_icmp_ne C.c (tgt := 28) dX0_breaksOn_5 (by decide) (fun c => ?_) (fun c => ?_)
  · replace h := ite_f c h
    refine g_iconst C.c dX0_breaksOn_28 (v := (0 : Int32)) (by decide) ?_
    obtain rfl := Option.some.inj h
    exact g_iret C hQ dX0_breaksOn_29 rfl ⟨rfl, rfl⟩
  · replace h := ite_t c h
    refine g_aload_n C.c dX0_breaksOn_8 rfl (i := 0) rfl ?_
    refine gf_0_22d C hw0 dX0_breaksOn_9 ?_
    refine g_if_le C.c (tgt := 28) dX0_breaksOn_12 (by decide) (fun c => ?_) (fun c => ?_)
    · replace h := ite_t c h
      refine g_iconst C.c dX0_breaksOn_28 (v := (0 : Int32)) (by decide) ?_
      obtain rfl := Option.some.inj h
      exact g_iret C hQ dX0_breaksOn_29 rfl ⟨rfl, rfl⟩
    · replace h := ite_f c h
      refine g_iload_n C.c dX0_breaksOn_15 rfl (i := 1) rfl ?_
      refine g_aload_n C.c dX0_breaksOn_16 rfl (i := 0) rfl ?_
      refine gf_0_22d C hw0 dX0_breaksOn_17 ?_
      obtain ⟨c1, h⟩ := chk0 h
      refine g_irem C.c dX0_breaksOn_20 c1 ?_
      refine g_if_ne C.c (tgt := 28) dX0_breaksOn_21 (by decide) (fun c => ?_) (fun c => ?_)
      · replace h := ite_f c h
        refine g_iconst C.c dX0_breaksOn_28 (v := (0 : Int32)) (by decide) ?_
        obtain rfl := Option.some.inj h
        exact g_iret C hQ dX0_breaksOn_29 rfl ⟨rfl, rfl⟩
      · replace h := ite_t c h
        refine g_iconst C.c dX0_breaksOn_24 (v := (1 : Int32)) (by decide) ?_
        refine g_goto C.c (tgt := 29) dX0_breaksOn_25 (by decide) ?_
        obtain rfl := Option.some.inj h
        exact g_iret C hQ dX0_breaksOn_29 rfl ⟨rfl, rfl⟩
def fX0_breaksOn (o0 : Nat) (a0 : Int32) (σ : Sg) : Option (Int32 × Sg) := fX0_breaksOn_b0 o0 a0 σ
theorem ct_X0_breaksOn {o0 : Nat} {a0 : Int32} {σ : Sg} {p : Int32 × Sg} (hY0 : layC[o0]? = some (0, 0, slX0)) (h : fX0_breaksOn o0 a0 σ = some p) : Ct layC yX0_breaksOn cX0_breaksOn 2 (some .boolean) 1 (fun ad => [.ref (ad o0), .int a0]) σ (okI p) :=
 ct_of (L0 := fun ad => [some (.ref (ad o0)), some (.int a0)]) (by decide) (fun _ => Nat.le_of_ble_eq_true rfl) (fun _ => rfl) (fun K C hQ => g_mask [true, true] rfl (bX0_breaksOn_b0 C hY0 hQ h))
-- X1_mayBe
theorem dX1_mayBe_0 : decode cX1_mayBe 0 = .ok (.iload_n 1, 1) := by decide +kernel
theorem dX1_mayBe_1 : decode cX1_mayBe 1 = .ok (.ifCond .lt 30, 3) := by decide +kernel
theorem dX1_mayBe_4 : decode cX1_mayBe 4 = .ok (.iload_n 1, 1) := by decide +kernel
theorem dX1_mayBe_5 : decode cX1_mayBe 5 = .ok (.iconst 2, 1) := by decide +kernel
theorem dX1_mayBe_6 : decode cX1_mayBe 6 = .ok (.if_icmp .gt 25, 3) := by decide +kernel
theorem dX1_mayBe_9 : decode cX1_mayBe 9 = .ok (.iload_n 2, 1) := by decide +kernel
theorem dX1_mayBe_10 : decode cX1_mayBe 10 = .ok (.getstatic 13, 3) := by decide +kernel
theorem dX1_mayBe_13 : decode cX1_mayBe 13 = .ok (.iload_n 1, 1) := by decide +kernel
theorem dX1_mayBe_14 : decode cX1_mayBe 14 = .ok (.iaload, 1) := by decide +kernel
theorem dX1_mayBe_15 : decode cX1_mayBe 15 = .ok (.if_icmp .lt 16, 3) := by decide +kernel
theorem dX1_mayBe_18 : decode cX1_mayBe 18 = .ok (.iload_n 2, 1) := by decide +kernel
theorem dX1_mayBe_19 : decode cX1_mayBe 19 = .ok (.getstatic 16, 3) := by decide +kernel
theorem dX1_mayBe_22 : decode cX1_mayBe 22 = .ok (.iload_n 1, 1) := by decide +kernel
theorem dX1_mayBe_23 : decode cX1_mayBe 23 = .ok (.iaload, 1) := by decide +kernel
theorem dX1_mayBe_24 : decode cX1_mayBe 24 = .ok (.if_icmp .gt 7, 3) := by decide +kernel
theorem dX1_mayBe_27 : decode cX1_mayBe 27 = .ok (.iconst 1, 1) := by decide +kernel
theorem dX1_mayBe_28 : decode cX1_mayBe 28 = .ok (.goto 4, 3) := by decide +kernel
theorem dX1_mayBe_31 : decode cX1_mayBe 31 = .ok (.iconst 0, 1) := by decide +kernel
theorem dX1_mayBe_32 : decode cX1_mayBe 32 = .ok (.ireturn, 1) := by decide +kernel
theorem cw_X1_mayBe : Cw yX1_mayBe cX1_mayBe 3 (some .boolean) 2 := ⟨aw_543, aw_50, ⟨by decide, by decide⟩, by decide +kernel, by decide⟩
def fX1_mayBe_b0 (x1 : Int32) (x2 : Int32) (σ : Sg) : Option (Int32 × Sg) :=
  if x1 < 0 then (some ((0 : Int32), σ)) else (if (2 : Int32) < x1 then (some ((0 : Int32), σ)) else (if inb x1 3 = true then (if x2 < (stL [1, 0, 0] (x1).toNatClampNeg) then (some ((0 : Int32), σ)) else (if inb x1 3 = true then (if (stL [9, 9, 99] (x1).toNatClampNeg) < x2 then (some ((0 : Int32), σ)) else (some ((1 : Int32), σ))) else none)) else none))
set_option maxRecDepth 4000 in
theorem bX1_mayBe_b0 {K : KT} {x1 : Int32} {x2 : Int32} {σ : Sg} {o : Int32 × Sg} (C : Cx K layC cX1_mayBe RX1 3 (1) (some .boolean))  (hQ : Rk K layC (okI o)) (h : fX1_mayBe_b0 x1 x2 σ = some o) : G K 0 [none, some (.int x1), some (.int x2)] [] (Wd K layC σ) := by
  unfold fX1_mayBe_b0 at h
  refine g_iload_n C.c dX1_mayBe_0 rfl (i := 1) rfl ?_
  refine g_if_lt C.c (tgt := 31) dX1_mayBe_1 (by decide) (fun c => ?_) (fun c => ?_)
  · replace h := ite_t c h
    refine g_iconst C.c dX1_mayBe_31 (v := (0 : Int32)) (by decide) ?_
    obtain rfl := Option.some.inj h
    exact g_iret C hQ dX1_mayBe_32 rfl ⟨rfl, rfl⟩
  · replace h := ite_f c h
    refine g_iload_n C.c dX1_mayBe_4 rfl (i := 1) rfl ?_
    refine g_iconst C.c dX1_mayBe_5 (v := (2 : Int32)) (by decide) ?_
    refine g_icmp_gt C.c (tgt := 31) dX1_mayBe_6 (by decide) (fun c => ?_) (fun c => ?_)
    · replace h := ite_t c h
      refine g_iconst C.c dX1_mayBe_31 (v := (0 : Int32)) (by decide) ?_
      obtain rfl := Option.some.inj h
      exact g_iret C hQ dX1_mayBe_32 rfl ⟨rfl, rfl⟩
    · replace h := ite_f c h
      refine g_iload_n C.c dX1_mayBe_9 rfl (i := 2) rfl ?_
      refine g_stat C dX1_mayBe_10 aw_544 C.e.2.1 (fun g1 hg2 => ?_)
      refine g_iload_n C.c dX1_mayBe_13 rfl (i := 1) rfl ?_
      obtain ⟨c3, h⟩ := chk h
      refine g_tld C hg2 dX1_mayBe_14 c3 ?_
      refine g_icmp_lt C.c (tgt := 31) dX1_mayBe_15 (by decide) (fun c => ?_) (fun c => ?_)
      · replace h := ite_t c h
        refine g_iconst C.c dX1_mayBe_31 (v := (0 : Int32)) (by decide) ?_
        obtain rfl := Option.some.inj h
        exact g_iret C hQ dX1_mayBe_32 rfl ⟨rfl, rfl⟩
      · replace h := ite_f c h
        refine g_iload_n C.c dX1_mayBe_18 rfl (i := 2) rfl ?_
        refine g_stat C dX1_mayBe_19 aw_546 C.e.2.2 (fun g4 hg5 => ?_)
        refine g_iload_n C.c dX1_mayBe_22 rfl (i := 1) rfl ?_
        obtain ⟨c6, h⟩ := chk h
        refine g_tld C hg5 dX1_mayBe_23 c6 ?_
        refine g_icmp_gt C.c (tgt := 31) dX1_mayBe_24 (by decide) (fun c => ?_) (fun c => ?_)
        · replace h := ite_t c h
          refine g_iconst C.c dX1_mayBe_31 (v := (0 : Int32)) (by decide) ?_
          obtain rfl := Option.some.inj h
          exact g_iret C hQ dX1_mayBe_32 rfl ⟨rfl, rfl⟩
        · replace h := ite_f c h
          refine g_iconst C.c dX1_mayBe_27 (v := (1 : Int32)) (by decide) ?_
          refine g_goto C.c (tgt := 32) dX1_mayBe_28 (by decide) ?_
          obtain rfl := Option.some.inj h
          exact g_iret C hQ dX1_mayBe_32 rfl ⟨rfl, rfl⟩
def fX1_mayBe (o0 : Nat) (a0 : Int32) (a1 : Int32) (σ : Sg) : Option (Int32 × Sg) := fX1_mayBe_b0 a0 a1 σ
theorem ct_X1_mayBe {o0 : Nat} {a0 : Int32} {a1 : Int32} {σ : Sg} {p : Int32 × Sg} (hY0 : layC[o0]? = some (0, 1, slX1)) (h : fX1_mayBe o0 a0 a1 σ = some p) : Ct layC yX1_mayBe cX1_mayBe 3 (some .boolean) 1 (fun ad => [.ref (ad o0), .int a0, .int a1]) σ (okI p) :=
 ct_of (L0 := fun ad => [some (.ref (ad o0)), some (.int a0), some (.int a1)]) (by decide) (fun _ => Nat.le_of_ble_eq_true rfl) (fun _ => rfl) (fun K C hQ => g_mask [false, true, true] rfl (bX1_mayBe_b0 C hQ h))
-- X1_put
theorem dX1_put_0 : decode cX1_put 0 = .ok (.aload_n 0, 1) := by decide +kernel
theorem dX1_put_1 : decode cX1_put 1 = .ok (.getfield 7, 3) := by decide +kernel
theorem dX1_put_4 : decode cX1_put 4 = .ok (.iload_n 1, 1) := by decide +kernel
theorem dX1_put_5 : decode cX1_put 5 = .ok (.iaload, 1) := by decide +kernel
theorem dX1_put_6 : decode cX1_put 6 = .ok (.istore_n 3, 1) := by decide +kernel
theorem dX1_put_7 : decode cX1_put 7 = .ok (.aload_n 0, 1) := by decide +kernel
theorem dX1_put_8 : decode cX1_put 8 = .ok (.getfield 7, 3) := by decide +kernel
theorem dX1_put_11 : decode cX1_put 11 = .ok (.iload_n 1, 1) := by decide +kernel
theorem dX1_put_12 : decode cX1_put 12 = .ok (.iload_n 2, 1) := by decide +kernel
theorem dX1_put_13 : decode cX1_put 13 = .ok (.iastore, 1) := by decide +kernel
theorem dX1_put_14 : decode cX1_put 14 = .ok (.iload_n 3, 1) := by decide +kernel
theorem dX1_put_15 : decode cX1_put 15 = .ok (.ireturn, 1) := by decide +kernel
theorem cw_X1_put : Cw yX1_put cX1_put 4 (some .int) 2 := ⟨aw_555, aw_50, ⟨by decide, by decide⟩, by decide +kernel, by decide⟩
theorem gf_1_7d {K : KT} {cc : ByteArray} {nL d pc : Nat} {ret : Option FieldType} {L : List (Option Value)} {st : List Value} {σ : Sg} (C : Cx K layC cc RX1 nL d ret) {o : Nat} (hY : layC[o]? = some (0, 1, slX1)) (hd : decode cc pc = .ok (.getfield 7, 3)) (k : G K (pc + 3) L (.ref (kad K (o + 1)) :: st) (Wd K layC σ)) : G K pc L (.ref (kad K o) :: st) (Wd K layC σ) := g_get C (o := o) (ci := 1) (k := 0) hd hY rfl rfl (by decide) (Or.inl aw_152) inA1 rfl k
def fX1_put_b0 (w0 : Nat) (x1 : Int32) (x2 : Int32) (σ : Sg) : Option (Int32 × Sg) :=
  if inb x1 3 = true then (if inb x1 3 = true then (some ((rI σ (w0 + 1) (x1).toNatClampNeg), (wI σ (w0 + 1) (x1).toNatClampNeg x2))) else none) else none
set_option maxRecDepth 4000 in
theorem bX1_put_b0 {K : KT} {w0 : Nat} {x1 : Int32} {x2 : Int32} {σ : Sg} {o : Int32 × Sg} (C : Cx K layC cX1_put RX1 4 (1) (some .int)) (hw0 : layC[w0]? = some (0, 1, slX1)) (hQ : Rk K layC (okI o)) (h : fX1_put_b0 w0 x1 x2 σ = some o) : G K 0 [some (.ref (kad K w0)), some (.int x1), some (.int x2), none] [] (Wd K layC σ) := by
  unfold fX1_put_b0 at h
  refine g_aload_n C.c dX1_put_0 rfl (i := 0) rfl ?_
  refine gf_1_7d C hw0 dX1_put_1 ?_
  refine g_iload_n C.c dX1_put_4 rfl (i := 1) rfl ?_
  obtain ⟨c1, h⟩ := chk h
  refine g_iald C dX1_put_5 (cn_val hw0) c1 ?_
  refine g_istore_n C.c (i := 3) (L' := [some (.ref (kad K w0)), some (.int x1), some (.int x2), some (.int (rI σ (w0 + 1) (x1).toNatClampNeg))]) dX1_put_6 rfl (Nat.le_of_ble_eq_true rfl) rfl ?_
  refine g_aload_n C.c dX1_put_7 rfl (i := 0) rfl ?_
  refine gf_1_7d C hw0 dX1_put_8 ?_
  refine g_iload_n C.c dX1_put_11 rfl (i := 1) rfl ?_
  refine g_iload_n C.c dX1_put_12 rfl (i := 2) rfl ?_
  obtain ⟨c2, h⟩ := chk h
  refine g_iast C dX1_put_13 (cn_val hw0) c2 ?_
  refine g_iload_n C.c dX1_put_14 rfl (i := 3) rfl ?_
  obtain rfl := Option.some.inj h
  exact g_iret C hQ dX1_put_15 rfl ⟨rfl, rfl⟩
def fX1_put (o0 : Nat) (a0 : Int32) (a1 : Int32) (σ : Sg) : Option (Int32 × Sg) := fX1_put_b0 o0 a0 a1 σ
theorem ct_X1_put {o0 : Nat} {a0 : Int32} {a1 : Int32} {σ : Sg} {p : Int32 × Sg} (hY0 : layC[o0]? = some (0, 1, slX1)) (h : fX1_put o0 a0 a1 σ = some p) : Ct layC yX1_put cX1_put 4 (some .int) 1 (fun ad => [.ref (ad o0), .int a0, .int a1]) σ (okI p) :=
 ct_of (L0 := fun ad => [some (.ref (ad o0)), some (.int a0), some (.int a1), none]) (by decide) (fun _ => Nat.le_of_ble_eq_true rfl) (fun _ => rfl) (fun K C hQ => g_mask [true, true, true, false] rfl (bX1_put_b0 C hY0 hQ h))
-- X1_copy
theorem dX1_copy_0 : decode cX1_copy 0 = .ok (.aload_n 1, 1) := by decide +kernel
theorem dX1_copy_1 : decode cX1_copy 1 = .ok (.getfield 7, 3) := by decide +kernel
theorem dX1_copy_4 : decode cX1_copy 4 = .ok (.iconst 0, 1) := by decide +kernel
theorem dX1_copy_5 : decode cX1_copy 5 = .ok (.aload_n 0, 1) := by decide +kernel
theorem dX1_copy_6 : decode cX1_copy 6 = .ok (.getfield 7, 3) := by decide +kernel
theorem dX1_copy_9 : decode cX1_copy 9 = .ok (.iconst 0, 1) := by decide +kernel
theorem dX1_copy_10 : decode cX1_copy 10 = .ok (.aload_n 0, 1) := by decide +kernel
theorem dX1_copy_11 : decode cX1_copy 11 = .ok (.getfield 7, 3) := by decide +kernel
theorem dX1_copy_14 : decode cX1_copy 14 = .ok (.arraylength, 1) := by decide +kernel
theorem dX1_copy_15 : decode cX1_copy 15 = .ok (.invokestatic 19, 3) := by decide +kernel
theorem dX1_copy_18 : decode cX1_copy 18 = .ok (.return_, 1) := by decide +kernel
theorem cw_X1_copy : Cw yX1_copy cX1_copy 2 none 1 := ⟨aw_756, aw_50, ⟨by decide, by decide⟩, by decide +kernel, by decide⟩
def fX1_copy_b0 (w0 : Nat) (w1 : Nat) (σ : Sg) : Option (Sg) :=
  if cpB (0 : Int32) (0 : Int32) (3 : Int32) 3 3 = true then (some (wC σ (w1 + 1) ((0 : Int32)).toNatClampNeg (w0 + 1) ((0 : Int32)).toNatClampNeg ((3 : Int32)).toNatClampNeg)) else none
set_option maxRecDepth 4000 in
theorem bX1_copy_b0 {K : KT} {w0 : Nat} {w1 : Nat} {σ : Sg} {o : Sg} (C : Cx K layC cX1_copy RX1 2 (1) none) (hw0 : layC[w0]? = some (0, 1, slX1)) (hw1 : layC[w1]? = some (0, 1, slX1)) (hQ : Rk K layC (okV o)) (h : fX1_copy_b0 w0 w1 σ = some o) : G K 0 [some (.ref (kad K w0)), some (.ref (kad K w1))] [] (Wd K layC σ) := by
  unfold fX1_copy_b0 at h
  refine g_aload_n C.c dX1_copy_0 rfl (i := 1) rfl ?_
  refine gf_1_7d C hw1 dX1_copy_1 ?_
  refine g_iconst C.c dX1_copy_4 (v := (0 : Int32)) (by decide) ?_
  refine g_aload_n C.c dX1_copy_5 rfl (i := 0) rfl ?_
  refine gf_1_7d C hw0 dX1_copy_6 ?_
  refine g_iconst C.c dX1_copy_9 (v := (0 : Int32)) (by decide) ?_
  refine g_aload_n C.c dX1_copy_10 rfl (i := 0) rfl ?_
  refine gf_1_7d C hw0 dX1_copy_11 ?_
  refine g_alen1 C (v := (3 : Int32)) dX1_copy_14 (cn_val hw0) rfl ?_
  obtain ⟨c1, h⟩ := chk h
  refine g_copy C dX1_copy_15 aw_757 aw_592 aw_591 aw_58 rfl (Nat.le_of_ble_eq_true rfl) (Nat.le_of_ble_eq_true rfl) (cn_val hw1) (cn_val hw0) c1 ?_
  obtain rfl := Option.some.inj h
  exact g_vret C hQ dX1_copy_18 ⟨rfl, rfl⟩
def fX1_copy (o0 : Nat) (q0 : Nat) (σ : Sg) : Option (Sg) := fX1_copy_b0 o0 q0 σ
theorem ct_X1_copy {o0 : Nat} {q0 : Nat} {σ : Sg} {p : Sg} (hY0 : layC[o0]? = some (0, 1, slX1)) (hYq0 : layC[q0]? = some (0, 1, slX1)) (h : fX1_copy o0 q0 σ = some p) : Ct layC yX1_copy cX1_copy 2 none 1 (fun ad => [.ref (ad o0), .ref (ad q0)]) σ (okV p) :=
 ct_of (L0 := fun ad => [some (.ref (ad o0)), some (.ref (ad q0))]) (by decide) (fun _ => Nat.le_of_ble_eq_true rfl) (fun _ => rfl) (fun K C hQ => g_mask [true, true] rfl (bX1_copy_b0 C hY0 hYq0 hQ h))
-- X1_gainOf
theorem dX1_gainOf_0 : decode cX1_gainOf 0 = .ok (.aload_n 0, 1) := by decide +kernel
theorem dX1_gainOf_1 : decode cX1_gainOf 1 = .ok (.getfield 7, 3) := by decide +kernel
theorem dX1_gainOf_4 : decode cX1_gainOf 4 = .ok (.iconst 0, 1) := by decide +kernel
theorem dX1_gainOf_5 : decode cX1_gainOf 5 = .ok (.iaload, 1) := by decide +kernel
theorem dX1_gainOf_6 : decode cX1_gainOf 6 = .ok (.iload_n 1, 1) := by decide +kernel
theorem dX1_gainOf_7 : decode cX1_gainOf 7 = .ok (.imul, 1) := by decide +kernel
theorem dX1_gainOf_8 : decode cX1_gainOf 8 = .ok (.aload_n 0, 1) := by decide +kernel
theorem dX1_gainOf_9 : decode cX1_gainOf 9 = .ok (.getfield 7, 3) := by decide +kernel
theorem dX1_gainOf_12 : decode cX1_gainOf 12 = .ok (.iconst 1, 1) := by decide +kernel
theorem dX1_gainOf_13 : decode cX1_gainOf 13 = .ok (.iaload, 1) := by decide +kernel
theorem dX1_gainOf_14 : decode cX1_gainOf 14 = .ok (.iload_n 2, 1) := by decide +kernel
theorem dX1_gainOf_15 : decode cX1_gainOf 15 = .ok (.imul, 1) := by decide +kernel
theorem dX1_gainOf_16 : decode cX1_gainOf 16 = .ok (.iload_n 3, 1) := by decide +kernel
theorem dX1_gainOf_17 : decode cX1_gainOf 17 = .ok (.imul, 1) := by decide +kernel
theorem dX1_gainOf_18 : decode cX1_gainOf 18 = .ok (.isub, 1) := by decide +kernel
theorem dX1_gainOf_19 : decode cX1_gainOf 19 = .ok (.iload 4, 2) := by decide +kernel
theorem dX1_gainOf_21 : decode cX1_gainOf 21 = .ok (.ifCond .eq 12, 3) := by decide +kernel
theorem dX1_gainOf_24 : decode cX1_gainOf 24 = .ok (.aload_n 0, 1) := by decide +kernel
theorem dX1_gainOf_25 : decode cX1_gainOf 25 = .ok (.getfield 7, 3) := by decide +kernel
theorem dX1_gainOf_28 : decode cX1_gainOf 28 = .ok (.iconst 2, 1) := by decide +kernel
theorem dX1_gainOf_29 : decode cX1_gainOf 29 = .ok (.iaload, 1) := by decide +kernel
theorem dX1_gainOf_30 : decode cX1_gainOf 30 = .ok (.goto 4, 3) := by decide +kernel
theorem dX1_gainOf_33 : decode cX1_gainOf 33 = .ok (.iconst 0, 1) := by decide +kernel
theorem dX1_gainOf_34 : decode cX1_gainOf 34 = .ok (.isub, 1) := by decide +kernel
theorem dX1_gainOf_35 : decode cX1_gainOf 35 = .ok (.ireturn, 1) := by decide +kernel
theorem cw_X1_gainOf : Cw yX1_gainOf cX1_gainOf 5 (some .int) 4 := ⟨aw_585, aw_50, ⟨by decide, by decide⟩, by decide +kernel, by decide⟩
def fX1_gainOf_b0 (w0 : Nat) (x1 : Int32) (x2 : Int32) (x3 : Int32) (x4 : Int32) (σ : Sg) : Option (Int32 × Sg) :=
  if x4 = 0 then (some (((((rI σ (w0 + 1) ((0 : Int32)).toNatClampNeg) * x1) - (((rI σ (w0 + 1) ((1 : Int32)).toNatClampNeg) * x2) * x3)) - (0 : Int32)), σ)) else (some (((((rI σ (w0 + 1) ((0 : Int32)).toNatClampNeg) * x1) - (((rI σ (w0 + 1) ((1 : Int32)).toNatClampNeg) * x2) * x3)) - (rI σ (w0 + 1) ((2 : Int32)).toNatClampNeg)), σ))
set_option maxRecDepth 4000 in
theorem bX1_gainOf_b0 {K : KT} {w0 : Nat} {x1 : Int32} {x2 : Int32} {x3 : Int32} {x4 : Int32} {σ : Sg} {o : Int32 × Sg} (C : Cx K layC cX1_gainOf RX1 5 (1) (some .int)) (hw0 : layC[w0]? = some (0, 1, slX1)) (hQ : Rk K layC (okI o)) (h : fX1_gainOf_b0 w0 x1 x2 x3 x4 σ = some o) : G K 0 [some (.ref (kad K w0)), some (.int x1), some (.int x2), some (.int x3), some (.int x4)] [] (Wd K layC σ) := by
  unfold fX1_gainOf_b0 at h
  refine g_aload_n C.c dX1_gainOf_0 rfl (i := 0) rfl ?_
  refine gf_1_7d C hw0 dX1_gainOf_1 ?_
  refine g_iconst C.c dX1_gainOf_4 (v := (0 : Int32)) (by decide) ?_
  refine g_iald C dX1_gainOf_5 (cn_val hw0) (by decide) ?_
  refine g_iload_n C.c dX1_gainOf_6 rfl (i := 1) rfl ?_
  refine g_imul C.c dX1_gainOf_7 ?_
  refine g_aload_n C.c dX1_gainOf_8 rfl (i := 0) rfl ?_
  refine gf_1_7d C hw0 dX1_gainOf_9 ?_
  refine g_iconst C.c dX1_gainOf_12 (v := (1 : Int32)) (by decide) ?_
  refine g_iald C dX1_gainOf_13 (cn_val hw0) (by decide) ?_
  refine g_iload_n C.c dX1_gainOf_14 rfl (i := 2) rfl ?_
  refine g_imul C.c dX1_gainOf_15 ?_
  refine g_iload_n C.c dX1_gainOf_16 rfl (i := 3) rfl ?_
  refine g_imul C.c dX1_gainOf_17 ?_
  refine g_isub C.c dX1_gainOf_18 ?_
  refine g_iload C.c dX1_gainOf_19 (i := 4) rfl ?_
  refine g_if_eq C.c (tgt := 33) dX1_gainOf_21 (by decide) (fun c => ?_) (fun c => ?_)
  · replace h := ite_t c h
    refine g_iconst C.c dX1_gainOf_33 (v := (0 : Int32)) (by decide) ?_
    refine g_isub C.c dX1_gainOf_34 ?_
    obtain rfl := Option.some.inj h
    exact g_iret C hQ dX1_gainOf_35 rfl ⟨rfl, rfl⟩
  · replace h := ite_f c h
    refine g_aload_n C.c dX1_gainOf_24 rfl (i := 0) rfl ?_
    refine gf_1_7d C hw0 dX1_gainOf_25 ?_
    refine g_iconst C.c dX1_gainOf_28 (v := (2 : Int32)) (by decide) ?_
    refine g_iald C dX1_gainOf_29 (cn_val hw0) (by decide) ?_
    refine g_goto C.c (tgt := 34) dX1_gainOf_30 (by decide) ?_
    refine g_isub C.c dX1_gainOf_34 ?_
    obtain rfl := Option.some.inj h
    exact g_iret C hQ dX1_gainOf_35 rfl ⟨rfl, rfl⟩
def fX1_gainOf (o0 : Nat) (a0 : Int32) (a1 : Int32) (a2 : Int32) (a3 : Int32) (σ : Sg) : Option (Int32 × Sg) := fX1_gainOf_b0 o0 a0 a1 a2 a3 σ
theorem ct_X1_gainOf {o0 : Nat} {a0 : Int32} {a1 : Int32} {a2 : Int32} {a3 : Int32} {σ : Sg} {p : Int32 × Sg} (hY0 : layC[o0]? = some (0, 1, slX1)) (h : fX1_gainOf o0 a0 a1 a2 a3 σ = some p) : Ct layC yX1_gainOf cX1_gainOf 5 (some .int) 1 (fun ad => [.ref (ad o0), .int a0, .int a1, .int a2, .int a3]) σ (okI p) :=
 ct_of (L0 := fun ad => [some (.ref (ad o0)), some (.int a0), some (.int a1), some (.int a2), some (.int a3)]) (by decide) (fun _ => Nat.le_of_ble_eq_true rfl) (fun _ => rfl) (fun K C hQ => g_mask [true, true, true, true, true] rfl (bX1_gainOf_b0 C hY0 hQ h))
end
section
-- X6_byteOf
theorem dX6_byteOf_0 : decode cX6_byteOf 0 = .ok (.lload_n 0, 1) := by decide +kernel
theorem dX6_byteOf_1 : decode cX6_byteOf 1 = .ok (.bipush 8, 2) := by decide +kernel
theorem dX6_byteOf_3 : decode cX6_byteOf 3 = .ok (.iload_n 2, 1) := by decide +kernel
theorem dX6_byteOf_4 : decode cX6_byteOf 4 = .ok (.imul, 1) := by decide +kernel
theorem dX6_byteOf_5 : decode cX6_byteOf 5 = .ok (.lushr, 1) := by decide +kernel
theorem dX6_byteOf_6 : decode cX6_byteOf 6 = .ok (.l2i, 1) := by decide +kernel
theorem dX6_byteOf_7 : decode cX6_byteOf 7 = .ok (.sipush 255, 3) := by decide +kernel
theorem dX6_byteOf_10 : decode cX6_byteOf 10 = .ok (.iand, 1) := by decide +kernel
theorem dX6_byteOf_11 : decode cX6_byteOf 11 = .ok (.ireturn, 1) := by decide +kernel
theorem cw_X6_byteOf : Cw yX6_byteOf cX6_byteOf 3 (some .int) 2 := ⟨aw_400, aw_47, ⟨by decide, by decide⟩, by decide +kernel, by decide⟩
def fX6_byteOf_b0 (x0 : Int64) (x2 : Int32) (σ : Sg) : Option (Int32 × Sg) :=
  some ((((lushr x0 ((8 : Int32) * x2))).toInt32 &&& (255 : Int32)), σ)
set_option maxRecDepth 4000 in
theorem bX6_byteOf_b0 {K : KT} {x0 : Int64} {x2 : Int32} {σ : Sg} {o : Int32 × Sg} (C : Cx K layC cX6_byteOf RX6 3 (1) (some .int))  (hQ : Rk K layC (okI o)) (h : fX6_byteOf_b0 x0 x2 σ = some o) : G K 0 [some (.long x0), none, some (.int x2)] [] (Wd K layC σ) := by
  unfold fX6_byteOf_b0 at h
  refine g_lload_n C.c dX6_byteOf_0 rfl (i := 0) rfl ?_
  refine g_bipush C.c dX6_byteOf_1 (v := (8 : Int32)) (by decide) ?_
  refine g_iload_n C.c dX6_byteOf_3 rfl (i := 2) rfl ?_
  refine g_imul C.c dX6_byteOf_4 ?_
  refine g_lushr C.c dX6_byteOf_5 ?_
  refine g_l2i C.c dX6_byteOf_6 ?_
  refine g_sipush C.c dX6_byteOf_7 (v := (255 : Int32)) (by decide) ?_
  refine g_iand C.c dX6_byteOf_10 ?_
  obtain rfl := Option.some.inj h
  exact g_iret C hQ dX6_byteOf_11 rfl ⟨rfl, rfl⟩
def fX6_byteOf (a0 : Int64) (a1 : Int32) (σ : Sg) : Option (Int32 × Sg) := fX6_byteOf_b0 a0 a1 σ
theorem ct_X6_byteOf {a0 : Int64} {a1 : Int32} {σ : Sg} {p : Int32 × Sg} (h : fX6_byteOf a0 a1 σ = some p) : Ct layC yX6_byteOf cX6_byteOf 3 (some .int) 1 (fun ad => [.long a0, .int a1]) σ (okI p) :=
 ct_of (L0 := fun ad => [some (.long a0), none, some (.int a1)]) (by decide) (fun _ => Nat.le_of_ble_eq_true rfl) (fun _ => rfl) (fun K C hQ => g_mask [true, false, true] rfl (bX6_byteOf_b0 C hQ h))
-- X6_append
theorem dX6_append_0 : decode cX6_append 0 = .ok (.iconst 0, 1) := by decide +kernel
theorem dX6_append_1 : decode cX6_append 1 = .ok (.istore_n 3, 1) := by decide +kernel
theorem dX6_append_2 : decode cX6_append 2 = .ok (.iconst 0, 1) := by decide +kernel
theorem dX6_append_3 : decode cX6_append 3 = .ok (.istore 4, 2) := by decide +kernel
theorem dX6_append_5 : decode cX6_append 5 = .ok (.iconst 0, 1) := by decide +kernel
theorem dX6_append_6 : decode cX6_append 6 = .ok (.istore 5, 2) := by decide +kernel
theorem dX6_append_8 : decode cX6_append 8 = .ok (.iload 5, 2) := by decide +kernel
theorem dX6_append_10 : decode cX6_append 10 = .ok (.bipush 8, 2) := by decide +kernel
theorem dX6_append_12 : decode cX6_append 12 = .ok (.if_icmp .ge 62, 3) := by decide +kernel
theorem dX6_append_15 : decode cX6_append 15 = .ok (.lload_n 1, 1) := by decide +kernel
theorem dX6_append_16 : decode cX6_append 16 = .ok (.iload 5, 2) := by decide +kernel
theorem dX6_append_18 : decode cX6_append 18 = .ok (.invokestatic 15, 3) := by decide +kernel
theorem dX6_append_21 : decode cX6_append 21 = .ok (.istore 6, 2) := by decide +kernel
theorem dX6_append_23 : decode cX6_append 23 = .ok (.iload 6, 2) := by decide +kernel
theorem dX6_append_25 : decode cX6_append 25 = .ok (.bipush 126, 2) := by decide +kernel
theorem dX6_append_27 : decode cX6_append 27 = .ok (.if_icmp .gt 13, 3) := by decide +kernel
theorem dX6_append_30 : decode cX6_append 30 = .ok (.iload 4, 2) := by decide +kernel
theorem dX6_append_32 : decode cX6_append 32 = .ok (.ifCond .eq 11, 3) := by decide +kernel
theorem dX6_append_35 : decode cX6_append 35 = .ok (.iload 6, 2) := by decide +kernel
theorem dX6_append_37 : decode cX6_append 37 = .ok (.ifCond .eq 6, 3) := by decide +kernel
theorem dX6_append_40 : decode cX6_append 40 = .ok (.bipush (-102), 2) := by decide +kernel
theorem dX6_append_42 : decode cX6_append 42 = .ok (.ireturn, 1) := by decide +kernel
theorem dX6_append_43 : decode cX6_append 43 = .ok (.iload 6, 2) := by decide +kernel
theorem dX6_append_45 : decode cX6_append 45 = .ok (.ifCond .ne 7, 3) := by decide +kernel
theorem dX6_append_48 : decode cX6_append 48 = .ok (.iconst 1, 1) := by decide +kernel
theorem dX6_append_49 : decode cX6_append 49 = .ok (.goto 4, 3) := by decide +kernel
theorem dX6_append_52 : decode cX6_append 52 = .ok (.iconst 0, 1) := by decide +kernel
theorem dX6_append_53 : decode cX6_append 53 = .ok (.istore 4, 2) := by decide +kernel
theorem dX6_append_55 : decode cX6_append 55 = .ok (.iload_n 3, 1) := by decide +kernel
theorem dX6_append_56 : decode cX6_append 56 = .ok (.iload 4, 2) := by decide +kernel
theorem dX6_append_58 : decode cX6_append 58 = .ok (.ifCond .eq 7, 3) := by decide +kernel
theorem dX6_append_61 : decode cX6_append 61 = .ok (.iconst 0, 1) := by decide +kernel
theorem dX6_append_62 : decode cX6_append 62 = .ok (.goto 4, 3) := by decide +kernel
theorem dX6_append_65 : decode cX6_append 65 = .ok (.iconst 1, 1) := by decide +kernel
theorem dX6_append_66 : decode cX6_append 66 = .ok (.iadd, 1) := by decide +kernel
theorem dX6_append_67 : decode cX6_append 67 = .ok (.istore_n 3, 1) := by decide +kernel
theorem dX6_append_68 : decode cX6_append 68 = .ok (.iinc 5 1, 3) := by decide +kernel
theorem dX6_append_71 : decode cX6_append 71 = .ok (.goto (-63), 3) := by decide +kernel
theorem dX6_append_74 : decode cX6_append 74 = .ok (.aload_n 0, 1) := by decide +kernel
theorem dX6_append_75 : decode cX6_append 75 = .ok (.getfield 19, 3) := by decide +kernel
theorem dX6_append_78 : decode cX6_append 78 = .ok (.iload_n 3, 1) := by decide +kernel
theorem dX6_append_79 : decode cX6_append 79 = .ok (.iadd, 1) := by decide +kernel
theorem dX6_append_80 : decode cX6_append 80 = .ok (.bipush 64, 2) := by decide +kernel
theorem dX6_append_82 : decode cX6_append 82 = .ok (.if_icmp .le 6, 3) := by decide +kernel
theorem dX6_append_85 : decode cX6_append 85 = .ok (.bipush (-104), 2) := by decide +kernel
theorem dX6_append_87 : decode cX6_append 87 = .ok (.ireturn, 1) := by decide +kernel
theorem dX6_append_88 : decode cX6_append 88 = .ok (.iconst 0, 1) := by decide +kernel
theorem dX6_append_89 : decode cX6_append 89 = .ok (.istore 5, 2) := by decide +kernel
theorem dX6_append_91 : decode cX6_append 91 = .ok (.iload 5, 2) := by decide +kernel
theorem dX6_append_93 : decode cX6_append 93 = .ok (.iload_n 3, 1) := by decide +kernel
theorem dX6_append_94 : decode cX6_append 94 = .ok (.if_icmp .ge 34, 3) := by decide +kernel
theorem dX6_append_97 : decode cX6_append 97 = .ok (.aload_n 0, 1) := by decide +kernel
theorem dX6_append_98 : decode cX6_append 98 = .ok (.getfield 11, 3) := by decide +kernel
theorem dX6_append_101 : decode cX6_append 101 = .ok (.aload_n 0, 1) := by decide +kernel
theorem dX6_append_102 : decode cX6_append 102 = .ok (.getfield 19, 3) := by decide +kernel
theorem dX6_append_105 : decode cX6_append 105 = .ok (.lload_n 1, 1) := by decide +kernel
theorem dX6_append_106 : decode cX6_append 106 = .ok (.iload 5, 2) := by decide +kernel
theorem dX6_append_108 : decode cX6_append 108 = .ok (.invokestatic 15, 3) := by decide +kernel
theorem dX6_append_111 : decode cX6_append 111 = .ok (.iastore, 1) := by decide +kernel
theorem dX6_append_112 : decode cX6_append 112 = .ok (.aload_n 0, 1) := by decide +kernel
theorem dX6_append_113 : decode cX6_append 113 = .ok (.dup, 1) := by decide +kernel
theorem dX6_append_114 : decode cX6_append 114 = .ok (.getfield 19, 3) := by decide +kernel
theorem dX6_append_117 : decode cX6_append 117 = .ok (.iconst 1, 1) := by decide +kernel
theorem dX6_append_118 : decode cX6_append 118 = .ok (.iadd, 1) := by decide +kernel
theorem dX6_append_119 : decode cX6_append 119 = .ok (.putfield 19, 3) := by decide +kernel
theorem dX6_append_122 : decode cX6_append 122 = .ok (.iinc 5 1, 3) := by decide +kernel
theorem dX6_append_125 : decode cX6_append 125 = .ok (.goto (-34), 3) := by decide +kernel
theorem dX6_append_128 : decode cX6_append 128 = .ok (.aload_n 0, 1) := by decide +kernel
theorem dX6_append_129 : decode cX6_append 129 = .ok (.getfield 19, 3) := by decide +kernel
theorem dX6_append_132 : decode cX6_append 132 = .ok (.ireturn, 1) := by decide +kernel
theorem cw_X6_append : Cw yX6_append cX6_append 7 (some .int) 1 := ⟨aw_397, aw_47, ⟨by decide, by decide⟩, by decide +kernel, by decide⟩
theorem kc_6_15 {K : KT} {cc : ByteArray} {nL d pc : Nat} {ret : Option FieldType} {L : List (Option Value)} {st : List Value} {σ : Sg} (C : Cx K layC cc RX6 nL d ret)  {a0 : Int64} {a1 : Int32}  {p : Int32 × Sg} (hd : decode cc pc = .ok (.invokestatic 15, 3)) (e : fX6_byteOf a0 a1 σ = some p) (hdd : 1 + 1 ≤ d) (hLn : L.length = nL) (hr : (st.map fun v => v.category).sum ≤ 8) (k : G K (pc + 3) L (.int p.1 :: st) (Wd K layC p.2)) : G K pc L (.int a1 :: .long a0 :: st) (Wd K layC σ) :=
  g_callS C (As := [.long a0, .int a1]) (rest := st) hd (ct_X6_byteOf e) cw_X6_byteOf (Or.inl aw_398) aw_399 rfl rfl rfl hdd hLn hr (fun v τ q => by obtain ⟨rfl, rfl⟩ := q; exact k)
theorem gf_6_19 {K : KT} {cc : ByteArray} {nL d pc : Nat} {ret : Option FieldType} {L : List (Option Value)} {st : List Value} {σ : Sg} (C : Cx K layC cc RX6 nL d ret)  (hd : decode cc pc = .ok (.getfield 19, 3)) (k : G K (pc + 3) L (.int (rI σ 1 1) :: st) (Wd K layC σ)) : G K pc L (.ref (kad K 1) :: st) (Wd K layC σ) := g_get C (o := 1) (ci := 6) (k := 1) hd rfl rfl rfl (by decide) (Or.inl aw_74) inA6 rfl k
theorem gf_6_11 {K : KT} {cc : ByteArray} {nL d pc : Nat} {ret : Option FieldType} {L : List (Option Value)} {st : List Value} {σ : Sg} (C : Cx K layC cc RX6 nL d ret)  (hd : decode cc pc = .ok (.getfield 11, 3)) (k : G K (pc + 3) L (.ref (kad K 2) :: st) (Wd K layC σ)) : G K pc L (.ref (kad K 1) :: st) (Wd K layC σ) := g_get C (o := 1) (ci := 6) (k := 0) hd rfl rfl rfl (by decide) (Or.inl aw_73) inA6 rfl k
theorem pf_6_19 {K : KT} {cc : ByteArray} {nL d pc : Nat} {ret : Option FieldType} {L : List (Option Value)} {st : List Value} {σ : Sg} (C : Cx K layC cc RX6 nL d ret)  {v : Int32}  (hd : decode cc pc = .ok (.putfield 19, 3)) (k : G K (pc + 3) L st (Wd K layC (wI σ 1 1 v))) : G K pc L (.int v :: .ref (kad K 1) :: st) (Wd K layC σ) := g_putI C (o := 1) (ci := 6) (k := 1) hd rfl rfl rfl (by decide) (Or.inl aw_74) inA6 tyX6_ok nmX6 rfl rfl rfl k
def fX6_append_b66 (x1 : Int64) (x4 : Int32) (x5 : Int32) (y0 : Int32) (y1 : Int32) (σ : Sg) : Option ((Int32 × Int32 × Int32 × Sg) ⊕ (((Sg) ⊕ (Int32 × Sg)))) :=
  some (.inl ((y1 + y0), x4, (x5 + (1 : Int32)), σ))
def fX6_append_b53 (x1 : Int64) (x3 : Int32) (x5 : Int32) (y0 : Int32) (σ : Sg) : Option ((Int32 × Int32 × Int32 × Sg) ⊕ (((Sg) ⊕ (Int32 × Sg)))) :=
  if y0 = 0 then (fX6_append_b66 x1 y0 x5 (1 : Int32) x3 σ) else (fX6_append_b66 x1 y0 x5 (0 : Int32) x3 σ)
def fX6_append_b43 (x1 : Int64) (x3 : Int32) (x5 : Int32) (x6 : Int32) (σ : Sg) : Option ((Int32 × Int32 × Int32 × Sg) ⊕ (((Sg) ⊕ (Int32 × Sg)))) :=
  if x6 = 0 then (fX6_append_b53 x1 x3 x5 (1 : Int32) σ) else (fX6_append_b53 x1 x3 x5 (0 : Int32) σ)
def fX6_append_b8 (x1 : Int64) (x3 : Int32) (x4 : Int32) (x5 : Int32) (σ : Sg) : Option ((Int32 × Int32 × Int32 × Sg) ⊕ (((Sg) ⊕ (Int32 × Sg)))) :=
  if (8 : Int32) ≤ x5 then (some (.inr (.inr (x3, σ)))) else (Option.bind (fX6_byteOf x1 x5 σ) fun p1 => (if (126 : Int32) < p1.1 then (some (.inr (.inl p1.2))) else (if x4 = 0 then (fX6_append_b43 x1 x3 x5 p1.1 p1.2) else (if p1.1 = 0 then (fX6_append_b43 x1 x3 x5 p1.1 p1.2) else (some (.inr (.inl p1.2)))))))
def fX6_append_b91 (x1 : Int64) (x3 : Int32) (x5 : Int32) (σ : Sg) : Option ((Int32 × Sg) ⊕ ((Sg))) :=
  if x3 ≤ x5 then (some (.inr σ)) else (Option.bind (fX6_byteOf x1 x5 σ) fun p5 => (if inb (rI σ 1 1) 64 = true then (some (.inl ((x5 + (1 : Int32)), (wI (wI p5.2 2 ((rI σ 1 1)).toNatClampNeg p5.1) 1 1 ((rI (wI p5.2 2 ((rI σ 1 1)).toNatClampNeg p5.1) 1 1) + (1 : Int32)))))) else none))
def fX6_append_b0 (x1 : Int64) (σ : Sg) : Option (Int32 × Sg) :=
  Option.bind (lp (fun s => fX6_append_b8 x1 s.1 s.2.1 s.2.2.1 s.2.2.2) FU ((0 : Int32), (0 : Int32), (0 : Int32), σ)) (el (fun t3 => some ((-102 : Int32), t3)) (fun t3 => if ((rI t3.2 1 1) + t3.1) ≤ (64 : Int32) then (Option.bind (lp (fun s => fX6_append_b91 x1 t3.1 s.1 s.2) FU ((0 : Int32), t3.2)) fun t8 => some ((rI t8 1 1), t8)) else (some ((-104 : Int32), t3.2))))
set_option maxRecDepth 4000 in
theorem bX6_append_b66 {K : KT} {x1 : Int64} {x4 : Int32} {x5 : Int32} {y0 : Int32} {y1 : Int32} {σ : Sg} {o : (Int32 × Int32 × Int32 × Sg) ⊕ (((Sg) ⊕ (Int32 × Sg)))} (C : Cx K layC cX6_append RX6 7 (2) (some .int))  (hI : ∀ s' : Int32 × Int32 × Int32 × Sg, o = .inl s' → G K 8 [some (.ref (kad K 1)), some (.long x1), none, some (.int s'.1), some (.int s'.2.1), some (.int s'.2.2.1), none] [] (Wd K layC s'.2.2.2)) (hE0 : ∀ t : Sg, o = .inr (.inl t) → G K 40 [none, none, none, none, none, none, none] [] (Wd K layC t)) (hE1 : ∀ t : Int32 × Sg, o = .inr (.inr t) → G K 74 [some (.ref (kad K 1)), some (.long x1), none, some (.int t.1), none, none, none] [] (Wd K layC t.2)) (h : fX6_append_b66 x1 x4 x5 y0 y1 σ = some o) : G K 66 [some (.ref (kad K 1)), some (.long x1), none, none, some (.int x4), some (.int x5), none] [.int y0, .int y1] (Wd K layC σ) := by
  unfold fX6_append_b66 at h
  refine g_iadd C.c dX6_append_66 ?_
  refine g_istore_n C.c (i := 3) (L' := [some (.ref (kad K 1)), some (.long x1), none, some (.int (y1 + y0)), some (.int x4), some (.int x5), none]) dX6_append_67 rfl (Nat.le_of_ble_eq_true rfl) rfl ?_
  refine g_iinc C.c (i := 5) (y := (1 : Int32)) (L' := [some (.ref (kad K 1)), some (.long x1), none, some (.int (y1 + y0)), some (.int x4), some (.int (x5 + (1 : Int32))), none]) dX6_append_68 rfl (by decide) (Nat.le_of_ble_eq_true rfl) rfl ?_
  refine g_goto C.c (tgt := 8) dX6_append_71 (by decide) ?_
  exact g_mask [true, true, false, true, true, true, false] rfl (hI _ (Option.some.inj h).symm)
set_option maxRecDepth 4000 in
theorem bX6_append_b53 {K : KT} {x1 : Int64} {x3 : Int32} {x5 : Int32} {y0 : Int32} {σ : Sg} {o : (Int32 × Int32 × Int32 × Sg) ⊕ (((Sg) ⊕ (Int32 × Sg)))} (C : Cx K layC cX6_append RX6 7 (2) (some .int))  (hI : ∀ s' : Int32 × Int32 × Int32 × Sg, o = .inl s' → G K 8 [some (.ref (kad K 1)), some (.long x1), none, some (.int s'.1), some (.int s'.2.1), some (.int s'.2.2.1), none] [] (Wd K layC s'.2.2.2)) (hE0 : ∀ t : Sg, o = .inr (.inl t) → G K 40 [none, none, none, none, none, none, none] [] (Wd K layC t)) (hE1 : ∀ t : Int32 × Sg, o = .inr (.inr t) → G K 74 [some (.ref (kad K 1)), some (.long x1), none, some (.int t.1), none, none, none] [] (Wd K layC t.2)) (h : fX6_append_b53 x1 x3 x5 y0 σ = some o) : G K 53 [some (.ref (kad K 1)), some (.long x1), none, some (.int x3), none, some (.int x5), none] [.int y0] (Wd K layC σ) := by
  unfold fX6_append_b53 at h
  refine g_istore C.c (i := 4) (L' := [some (.ref (kad K 1)), some (.long x1), none, some (.int x3), some (.int y0), some (.int x5), none]) dX6_append_53 (Nat.le_of_ble_eq_true rfl) rfl ?_
  refine g_iload_n C.c dX6_append_55 rfl (i := 3) rfl ?_
  refine g_iload C.c dX6_append_56 (i := 4) rfl ?_
  refine g_if_eq C.c (tgt := 65) dX6_append_58 (by decide) (fun c => ?_) (fun c => ?_)
  · replace h := ite_t c h
    refine g_iconst C.c dX6_append_65 (v := (1 : Int32)) (by decide) ?_
    exact g_mask [true, true, false, false, true, true, false] rfl (bX6_append_b66 C hI hE0 hE1 h)
  · replace h := ite_f c h
    refine g_iconst C.c dX6_append_61 (v := (0 : Int32)) (by decide) ?_
    refine g_goto C.c (tgt := 66) dX6_append_62 (by decide) ?_
    exact g_mask [true, true, false, false, true, true, false] rfl (bX6_append_b66 C hI hE0 hE1 h)
set_option maxRecDepth 4000 in
theorem bX6_append_b43 {K : KT} {x1 : Int64} {x3 : Int32} {x5 : Int32} {x6 : Int32} {σ : Sg} {o : (Int32 × Int32 × Int32 × Sg) ⊕ (((Sg) ⊕ (Int32 × Sg)))} (C : Cx K layC cX6_append RX6 7 (2) (some .int))  (hI : ∀ s' : Int32 × Int32 × Int32 × Sg, o = .inl s' → G K 8 [some (.ref (kad K 1)), some (.long x1), none, some (.int s'.1), some (.int s'.2.1), some (.int s'.2.2.1), none] [] (Wd K layC s'.2.2.2)) (hE0 : ∀ t : Sg, o = .inr (.inl t) → G K 40 [none, none, none, none, none, none, none] [] (Wd K layC t)) (hE1 : ∀ t : Int32 × Sg, o = .inr (.inr t) → G K 74 [some (.ref (kad K 1)), some (.long x1), none, some (.int t.1), none, none, none] [] (Wd K layC t.2)) (h : fX6_append_b43 x1 x3 x5 x6 σ = some o) : G K 43 [some (.ref (kad K 1)), some (.long x1), none, some (.int x3), none, some (.int x5), some (.int x6)] [] (Wd K layC σ) := by
  unfold fX6_append_b43 at h
  refine g_iload C.c dX6_append_43 (i := 6) rfl ?_
  refine g_if_ne C.c (tgt := 52) dX6_append_45 (by decide) (fun c => ?_) (fun c => ?_)
  · replace h := ite_f c h
    refine g_iconst C.c dX6_append_52 (v := (0 : Int32)) (by decide) ?_
    exact g_mask [true, true, false, true, false, true, false] rfl (bX6_append_b53 C hI hE0 hE1 h)
  · replace h := ite_t c h
    refine g_iconst C.c dX6_append_48 (v := (1 : Int32)) (by decide) ?_
    refine g_goto C.c (tgt := 53) dX6_append_49 (by decide) ?_
    exact g_mask [true, true, false, true, false, true, false] rfl (bX6_append_b53 C hI hE0 hE1 h)
set_option maxRecDepth 4000 in
theorem bX6_append_b8 {K : KT} {x1 : Int64} {x3 : Int32} {x4 : Int32} {x5 : Int32} {σ : Sg} {o : (Int32 × Int32 × Int32 × Sg) ⊕ (((Sg) ⊕ (Int32 × Sg)))} (C : Cx K layC cX6_append RX6 7 (2) (some .int))  (hI : ∀ s' : Int32 × Int32 × Int32 × Sg, o = .inl s' → G K 8 [some (.ref (kad K 1)), some (.long x1), none, some (.int s'.1), some (.int s'.2.1), some (.int s'.2.2.1), none] [] (Wd K layC s'.2.2.2)) (hE0 : ∀ t : Sg, o = .inr (.inl t) → G K 40 [none, none, none, none, none, none, none] [] (Wd K layC t)) (hE1 : ∀ t : Int32 × Sg, o = .inr (.inr t) → G K 74 [some (.ref (kad K 1)), some (.long x1), none, some (.int t.1), none, none, none] [] (Wd K layC t.2)) (h : fX6_append_b8 x1 x3 x4 x5 σ = some o) : G K 8 [some (.ref (kad K 1)), some (.long x1), none, some (.int x3), some (.int x4), some (.int x5), none] [] (Wd K layC σ) := by
  unfold fX6_append_b8 at h
  refine g_iload C.c dX6_append_8 (i := 5) rfl ?_
  refine g_bipush C.c dX6_append_10 (v := (8 : Int32)) (by decide) ?_
  refine g_icmp_ge C.c (tgt := 74) dX6_append_12 (by decide) (fun c => ?_) (fun c => ?_)
  · replace h := ite_t c h
    exact g_mask [true, true, false, true, false, false, false] rfl (hE1 _ (Option.some.inj h).symm)
  · replace h := ite_f c h
    refine g_lload_n C.c dX6_append_15 rfl (i := 1) rfl ?_
    refine g_iload C.c dX6_append_16 (i := 5) rfl ?_
    obtain ⟨p1, e2, h⟩ := Option.bind_eq_some_iff.mp h
    refine kc_6_15 C dX6_append_18 e2 (Nat.le_of_ble_eq_true rfl) rfl (Nat.le_of_ble_eq_true rfl) ?_
    refine g_istore C.c (i := 6) (L' := [some (.ref (kad K 1)), some (.long x1), none, some (.int x3), some (.int x4), some (.int x5), some (.int p1.1)]) dX6_append_21 (Nat.le_of_ble_eq_true rfl) rfl ?_
    refine g_iload C.c dX6_append_23 (i := 6) rfl ?_
    refine g_bipush C.c dX6_append_25 (v := (126 : Int32)) (by decide) ?_
    refine g_icmp_gt C.c (tgt := 40) dX6_append_27 (by decide) (fun c => ?_) (fun c => ?_)
    · replace h := ite_t c h
      exact g_mask [false, false, false, false, false, false, false] rfl (hE0 _ (Option.some.inj h).symm)
    · replace h := ite_f c h
      refine g_iload C.c dX6_append_30 (i := 4) rfl ?_
      refine g_if_eq C.c (tgt := 43) dX6_append_32 (by decide) (fun c => ?_) (fun c => ?_)
      · replace h := ite_t c h
        exact g_mask [true, true, false, true, false, true, true] rfl (bX6_append_b43 C hI hE0 hE1 h)
      · replace h := ite_f c h
        refine g_iload C.c dX6_append_35 (i := 6) rfl ?_
        refine g_if_eq C.c (tgt := 43) dX6_append_37 (by decide) (fun c => ?_) (fun c => ?_)
        · replace h := ite_t c h
          exact g_mask [true, true, false, true, false, true, true] rfl (bX6_append_b43 C hI hE0 hE1 h)
        · replace h := ite_f c h
          exact g_mask [false, false, false, false, false, false, false] rfl (hE0 _ (Option.some.inj h).symm)
set_option maxRecDepth 4000 in
theorem bX6_append_b91 {K : KT} {x1 : Int64} {x3 : Int32} {x5 : Int32} {σ : Sg} {o : (Int32 × Sg) ⊕ ((Sg))} (C : Cx K layC cX6_append RX6 7 (2) (some .int))  (hI : ∀ s' : Int32 × Sg, o = .inl s' → G K 91 [some (.ref (kad K 1)), some (.long x1), none, some (.int x3), none, some (.int s'.1), none] [] (Wd K layC s'.2)) (hE0 : ∀ t : Sg, o = .inr t → G K 128 [some (.ref (kad K 1)), none, none, none, none, none, none] [] (Wd K layC t)) (h : fX6_append_b91 x1 x3 x5 σ = some o) : G K 91 [some (.ref (kad K 1)), some (.long x1), none, some (.int x3), none, some (.int x5), none] [] (Wd K layC σ) := by
  unfold fX6_append_b91 at h
  refine g_iload C.c dX6_append_91 (i := 5) rfl ?_
  refine g_iload_n C.c dX6_append_93 rfl (i := 3) rfl ?_
  refine g_icmp_ge C.c (tgt := 128) dX6_append_94 (by decide) (fun c => ?_) (fun c => ?_)
  · replace h := ite_t c h
    exact g_mask [true, false, false, false, false, false, false] rfl (hE0 _ (Option.some.inj h).symm)
  · replace h := ite_f c h
    refine g_aload_n C.c dX6_append_97 rfl (i := 0) rfl ?_
    refine gf_6_11 C dX6_append_98 ?_
    refine g_aload_n C.c dX6_append_101 rfl (i := 0) rfl ?_
    refine gf_6_19 C dX6_append_102 ?_
    refine g_lload_n C.c dX6_append_105 rfl (i := 1) rfl ?_
    refine g_iload C.c dX6_append_106 (i := 5) rfl ?_
    obtain ⟨p5, e6, h⟩ := Option.bind_eq_some_iff.mp h
    refine kc_6_15 C dX6_append_108 e6 (Nat.le_of_ble_eq_true rfl) rfl (Nat.le_of_ble_eq_true rfl) ?_
    obtain ⟨c7, h⟩ := chk h
    refine g_iast C dX6_append_111 rfl c7 ?_
    refine g_aload_n C.c dX6_append_112 rfl (i := 0) rfl ?_
    refine g_dup C.c dX6_append_113 rfl ?_
    refine gf_6_19 C dX6_append_114 ?_
    refine g_iconst C.c dX6_append_117 (v := (1 : Int32)) (by decide) ?_
    refine g_iadd C.c dX6_append_118 ?_
    refine pf_6_19 C dX6_append_119 ?_
    refine g_iinc C.c (i := 5) (y := (1 : Int32)) (L' := [some (.ref (kad K 1)), some (.long x1), none, some (.int x3), none, some (.int (x5 + (1 : Int32))), none]) dX6_append_122 rfl (by decide) (Nat.le_of_ble_eq_true rfl) rfl ?_
    refine g_goto C.c (tgt := 91) dX6_append_125 (by decide) ?_
    exact g_mask [true, true, false, true, false, true, false] rfl (hI _ (Option.some.inj h).symm)
set_option maxRecDepth 4000 in
theorem bX6_append_b0 {K : KT} {x1 : Int64} {σ : Sg} {o : Int32 × Sg} (C : Cx K layC cX6_append RX6 7 (2) (some .int))  (hQ : Rk K layC (okI o)) (h : fX6_append_b0 x1 σ = some o) : G K 0 [some (.ref (kad K 1)), some (.long x1), none, none, none, none, none] [] (Wd K layC σ) := by
  unfold fX6_append_b0 at h
  refine g_iconst C.c dX6_append_0 (v := (0 : Int32)) (by decide) ?_
  refine g_istore_n C.c (i := 3) (L' := [some (.ref (kad K 1)), some (.long x1), none, some (.int (0 : Int32)), none, none, none]) dX6_append_1 rfl (Nat.le_of_ble_eq_true rfl) rfl ?_
  refine g_iconst C.c dX6_append_2 (v := (0 : Int32)) (by decide) ?_
  refine g_istore C.c (i := 4) (L' := [some (.ref (kad K 1)), some (.long x1), none, some (.int (0 : Int32)), some (.int (0 : Int32)), none, none]) dX6_append_3 (Nat.le_of_ble_eq_true rfl) rfl ?_
  refine g_iconst C.c dX6_append_5 (v := (0 : Int32)) (by decide) ?_
  refine g_istore C.c (i := 5) (L' := [some (.ref (kad K 1)), some (.long x1), none, some (.int (0 : Int32)), some (.int (0 : Int32)), some (.int (0 : Int32)), none]) dX6_append_6 (Nat.le_of_ble_eq_true rfl) rfl ?_
  refine g_mask [true, true, false, true, true, true, false] rfl ?_
  refine lp_bind (Gh := fun s => G K 8 [some (.ref (kad K 1)), some (.long x1), none, some (.int s.1), some (.int s.2.1), some (.int s.2.2.1), none] [] (Wd K layC s.2.2.2)) h (fun s o2 hf gI gE => ?_)
  refine bX6_append_b8 C gI (fun t3 e => ?_) (fun t3 e => ?_) hf
  · have h := el_l (gE _ e)
    refine g_bipush C.c dX6_append_40 (v := (-102 : Int32)) (by decide) ?_
    obtain rfl := Option.some.inj h
    exact g_iret C hQ dX6_append_42 rfl ⟨rfl, rfl⟩
  · have h := el_r (gE _ e)
    refine g_aload_n C.c dX6_append_74 rfl (i := 0) rfl ?_
    refine gf_6_19 C dX6_append_75 ?_
    refine g_iload_n C.c dX6_append_78 rfl (i := 3) rfl ?_
    refine g_iadd C.c dX6_append_79 ?_
    refine g_bipush C.c dX6_append_80 (v := (64 : Int32)) (by decide) ?_
    refine g_icmp_le C.c (tgt := 88) dX6_append_82 (by decide) (fun c => ?_) (fun c => ?_)
    · replace h := ite_t c h
      refine g_iconst C.c dX6_append_88 (v := (0 : Int32)) (by decide) ?_
      refine g_istore C.c (i := 5) (L' := [some (.ref (kad K 1)), some (.long x1), none, some (.int t3.1), none, some (.int (0 : Int32)), none]) dX6_append_89 (Nat.le_of_ble_eq_true rfl) rfl ?_
      refine g_mask [true, true, false, true, false, true, false] rfl ?_
      refine lp_bind (Gh := fun s => G K 91 [some (.ref (kad K 1)), some (.long x1), none, some (.int t3.1), none, some (.int s.1), none] [] (Wd K layC s.2)) h (fun s o2 hf gI gE => ?_)
      refine bX6_append_b91 C gI (fun t8 e => ?_) hf
      · have h := gE _ e
        refine g_aload_n C.c dX6_append_128 rfl (i := 0) rfl ?_
        refine gf_6_19 C dX6_append_129 ?_
        obtain rfl := Option.some.inj h
        exact g_iret C hQ dX6_append_132 rfl ⟨rfl, rfl⟩
    · replace h := ite_f c h
      refine g_bipush C.c dX6_append_85 (v := (-104 : Int32)) (by decide) ?_
      obtain rfl := Option.some.inj h
      exact g_iret C hQ dX6_append_87 rfl ⟨rfl, rfl⟩
def fX6_append (a0 : Int64) (σ : Sg) : Option (Int32 × Sg) := fX6_append_b0 a0 σ
theorem ct_X6_append {a0 : Int64} {σ : Sg} {p : Int32 × Sg} (h : fX6_append a0 σ = some p) : Ct layC yX6_append cX6_append 7 (some .int) 2 (fun ad => [.ref (ad 1), .long a0]) σ (okI p) :=
 ct_of (L0 := fun ad => [some (.ref (ad 1)), some (.long a0), none, none, none, none, none]) (by decide) (fun _ => Nat.le_of_ble_eq_true rfl) (fun _ => rfl) (fun K C hQ => g_mask [true, true, false, false, false, false, false] rfl (bX6_append_b0 C hQ h))
-- X6_clear
theorem dX6_clear_0 : decode cX6_clear 0 = .ok (.aload_n 0, 1) := by decide +kernel
theorem dX6_clear_1 : decode cX6_clear 1 = .ok (.getfield 19, 3) := by decide +kernel
theorem dX6_clear_4 : decode cX6_clear 4 = .ok (.istore_n 1, 1) := by decide +kernel
theorem dX6_clear_5 : decode cX6_clear 5 = .ok (.aload_n 0, 1) := by decide +kernel
theorem dX6_clear_6 : decode cX6_clear 6 = .ok (.iconst 0, 1) := by decide +kernel
theorem dX6_clear_7 : decode cX6_clear 7 = .ok (.putfield 19, 3) := by decide +kernel
theorem dX6_clear_10 : decode cX6_clear 10 = .ok (.iload_n 1, 1) := by decide +kernel
theorem dX6_clear_11 : decode cX6_clear 11 = .ok (.ireturn, 1) := by decide +kernel
theorem cw_X6_clear : Cw yX6_clear cX6_clear 2 (some .int) 0 := ⟨aw_408, aw_47, ⟨by decide, by decide⟩, by decide +kernel, by decide⟩
def fX6_clear_b0  (σ : Sg) : Option (Int32 × Sg) :=
  some ((rI σ 1 1), (wI σ 1 1 (0 : Int32)))
set_option maxRecDepth 4000 in
theorem bX6_clear_b0 {K : KT}  {σ : Sg} {o : Int32 × Sg} (C : Cx K layC cX6_clear RX6 2 (1) (some .int))  (hQ : Rk K layC (okI o)) (h : fX6_clear_b0  σ = some o) : G K 0 [some (.ref (kad K 1)), none] [] (Wd K layC σ) := by
  unfold fX6_clear_b0 at h
  refine g_aload_n C.c dX6_clear_0 rfl (i := 0) rfl ?_
  refine gf_6_19 C dX6_clear_1 ?_
  refine g_istore_n C.c (i := 1) (L' := [some (.ref (kad K 1)), some (.int (rI σ 1 1))]) dX6_clear_4 rfl (Nat.le_of_ble_eq_true rfl) rfl ?_
  refine g_aload_n C.c dX6_clear_5 rfl (i := 0) rfl ?_
  refine g_iconst C.c dX6_clear_6 (v := (0 : Int32)) (by decide) ?_
  refine pf_6_19 C dX6_clear_7 ?_
  refine g_iload_n C.c dX6_clear_10 rfl (i := 1) rfl ?_
  obtain rfl := Option.some.inj h
  exact g_iret C hQ dX6_clear_11 rfl ⟨rfl, rfl⟩
def fX6_clear (σ : Sg) : Option (Int32 × Sg) := fX6_clear_b0 σ
theorem ct_X6_clear {σ : Sg} {p : Int32 × Sg} (h : fX6_clear σ = some p) : Ct layC yX6_clear cX6_clear 2 (some .int) 1 (fun ad => [.ref (ad 1)]) σ (okI p) :=
 ct_of (L0 := fun ad => [some (.ref (ad 1)), none]) (by decide) (fun _ => Nat.le_of_ble_eq_true rfl) (fun _ => rfl) (fun K C hQ => g_mask [true, false] rfl (bX6_clear_b0 C hQ h))
-- X6_codeAt
theorem dX6_codeAt_0 : decode cX6_codeAt 0 = .ok (.iload_n 1, 1) := by decide +kernel
theorem dX6_codeAt_1 : decode cX6_codeAt 1 = .ok (.ifCond .lt 20, 3) := by decide +kernel
theorem dX6_codeAt_4 : decode cX6_codeAt 4 = .ok (.iload_n 1, 1) := by decide +kernel
theorem dX6_codeAt_5 : decode cX6_codeAt 5 = .ok (.aload_n 0, 1) := by decide +kernel
theorem dX6_codeAt_6 : decode cX6_codeAt 6 = .ok (.getfield 19, 3) := by decide +kernel
theorem dX6_codeAt_9 : decode cX6_codeAt 9 = .ok (.if_icmp .ge 12, 3) := by decide +kernel
theorem dX6_codeAt_12 : decode cX6_codeAt 12 = .ok (.aload_n 0, 1) := by decide +kernel
theorem dX6_codeAt_13 : decode cX6_codeAt 13 = .ok (.getfield 11, 3) := by decide +kernel
theorem dX6_codeAt_16 : decode cX6_codeAt 16 = .ok (.iload_n 1, 1) := by decide +kernel
theorem dX6_codeAt_17 : decode cX6_codeAt 17 = .ok (.iaload, 1) := by decide +kernel
theorem dX6_codeAt_18 : decode cX6_codeAt 18 = .ok (.goto 4, 3) := by decide +kernel
theorem dX6_codeAt_21 : decode cX6_codeAt 21 = .ok (.iconst 0, 1) := by decide +kernel
theorem dX6_codeAt_22 : decode cX6_codeAt 22 = .ok (.ireturn, 1) := by decide +kernel
theorem cw_X6_codeAt : Cw yX6_codeAt cX6_codeAt 2 (some .int) 1 := ⟨aw_448, aw_47, ⟨by decide, by decide⟩, by decide +kernel, by decide⟩
def fX6_codeAt_b0 (x1 : Int32) (σ : Sg) : Option (Int32 × Sg) :=
  if x1 < 0 then (some ((0 : Int32), σ)) else (if (rI σ 1 1) ≤ x1 then (some ((0 : Int32), σ)) else (if inb x1 64 = true then (some ((rI σ 2 (x1).toNatClampNeg), σ)) else none))
set_option maxRecDepth 4000 in
theorem bX6_codeAt_b0 {K : KT} {x1 : Int32} {σ : Sg} {o : Int32 × Sg} (C : Cx K layC cX6_codeAt RX6 2 (1) (some .int))  (hQ : Rk K layC (okI o)) (h : fX6_codeAt_b0 x1 σ = some o) : G K 0 [some (.ref (kad K 1)), some (.int x1)] [] (Wd K layC σ) := by
  unfold fX6_codeAt_b0 at h
  refine g_iload_n C.c dX6_codeAt_0 rfl (i := 1) rfl ?_
  refine g_if_lt C.c (tgt := 21) dX6_codeAt_1 (by decide) (fun c => ?_) (fun c => ?_)
  · replace h := ite_t c h
    refine g_iconst C.c dX6_codeAt_21 (v := (0 : Int32)) (by decide) ?_
    obtain rfl := Option.some.inj h
    exact g_iret C hQ dX6_codeAt_22 rfl ⟨rfl, rfl⟩
  · replace h := ite_f c h
    refine g_iload_n C.c dX6_codeAt_4 rfl (i := 1) rfl ?_
    refine g_aload_n C.c dX6_codeAt_5 rfl (i := 0) rfl ?_
    refine gf_6_19 C dX6_codeAt_6 ?_
    refine g_icmp_ge C.c (tgt := 21) dX6_codeAt_9 (by decide) (fun c => ?_) (fun c => ?_)
    · replace h := ite_t c h
      refine g_iconst C.c dX6_codeAt_21 (v := (0 : Int32)) (by decide) ?_
      obtain rfl := Option.some.inj h
      exact g_iret C hQ dX6_codeAt_22 rfl ⟨rfl, rfl⟩
    · replace h := ite_f c h
      refine g_aload_n C.c dX6_codeAt_12 rfl (i := 0) rfl ?_
      refine gf_6_11 C dX6_codeAt_13 ?_
      refine g_iload_n C.c dX6_codeAt_16 rfl (i := 1) rfl ?_
      obtain ⟨c1, h⟩ := chk h
      refine g_iald C dX6_codeAt_17 rfl c1 ?_
      refine g_goto C.c (tgt := 22) dX6_codeAt_18 (by decide) ?_
      obtain rfl := Option.some.inj h
      exact g_iret C hQ dX6_codeAt_22 rfl ⟨rfl, rfl⟩
def fX6_codeAt (a0 : Int32) (σ : Sg) : Option (Int32 × Sg) := fX6_codeAt_b0 a0 σ
theorem ct_X6_codeAt {a0 : Int32} {σ : Sg} {p : Int32 × Sg} (h : fX6_codeAt a0 σ = some p) : Ct layC yX6_codeAt cX6_codeAt 2 (some .int) 1 (fun ad => [.ref (ad 1), .int a0]) σ (okI p) :=
 ct_of (L0 := fun ad => [some (.ref (ad 1)), some (.int a0)]) (by decide) (fun _ => Nat.le_of_ble_eq_true rfl) (fun _ => rfl) (fun K C hQ => g_mask [true, true] rfl (bX6_codeAt_b0 C hQ h))
-- X6_takesRowEnd
theorem dX6_takesRowEnd_0 : decode cX6_takesRowEnd 0 = .ok (.aload_n 0, 1) := by decide +kernel
theorem dX6_takesRowEnd_1 : decode cX6_takesRowEnd 1 = .ok (.getfield 23, 3) := by decide +kernel
theorem dX6_takesRowEnd_4 : decode cX6_takesRowEnd 4 = .ok (.ifCond .ne 19, 3) := by decide +kernel
theorem dX6_takesRowEnd_7 : decode cX6_takesRowEnd 7 = .ok (.aload_n 0, 1) := by decide +kernel
theorem dX6_takesRowEnd_8 : decode cX6_takesRowEnd 8 = .ok (.getfield 26, 3) := by decide +kernel
theorem dX6_takesRowEnd_11 : decode cX6_takesRowEnd 11 = .ok (.iconst 2, 1) := by decide +kernel
theorem dX6_takesRowEnd_12 : decode cX6_takesRowEnd 12 = .ok (.if_icmp .lt 7, 3) := by decide +kernel
theorem dX6_takesRowEnd_15 : decode cX6_takesRowEnd 15 = .ok (.iconst 1, 1) := by decide +kernel
theorem dX6_takesRowEnd_16 : decode cX6_takesRowEnd 16 = .ok (.goto 23, 3) := by decide +kernel
theorem dX6_takesRowEnd_19 : decode cX6_takesRowEnd 19 = .ok (.iconst 0, 1) := by decide +kernel
theorem dX6_takesRowEnd_20 : decode cX6_takesRowEnd 20 = .ok (.goto 19, 3) := by decide +kernel
theorem dX6_takesRowEnd_23 : decode cX6_takesRowEnd 23 = .ok (.aload_n 0, 1) := by decide +kernel
theorem dX6_takesRowEnd_24 : decode cX6_takesRowEnd 24 = .ok (.getfield 26, 3) := by decide +kernel
theorem dX6_takesRowEnd_27 : decode cX6_takesRowEnd 27 = .ok (.aload_n 0, 1) := by decide +kernel
theorem dX6_takesRowEnd_28 : decode cX6_takesRowEnd 28 = .ok (.getfield 29, 3) := by decide +kernel
theorem dX6_takesRowEnd_31 : decode cX6_takesRowEnd 31 = .ok (.if_icmp .ne 7, 3) := by decide +kernel
theorem dX6_takesRowEnd_34 : decode cX6_takesRowEnd 34 = .ok (.iconst 1, 1) := by decide +kernel
theorem dX6_takesRowEnd_35 : decode cX6_takesRowEnd 35 = .ok (.goto 4, 3) := by decide +kernel
theorem dX6_takesRowEnd_38 : decode cX6_takesRowEnd 38 = .ok (.iconst 0, 1) := by decide +kernel
theorem dX6_takesRowEnd_39 : decode cX6_takesRowEnd 39 = .ok (.istore_n 1, 1) := by decide +kernel
theorem dX6_takesRowEnd_40 : decode cX6_takesRowEnd 40 = .ok (.iload_n 1, 1) := by decide +kernel
theorem dX6_takesRowEnd_41 : decode cX6_takesRowEnd 41 = .ok (.ifCond .eq 13, 3) := by decide +kernel
theorem dX6_takesRowEnd_44 : decode cX6_takesRowEnd 44 = .ok (.aload_n 0, 1) := by decide +kernel
theorem dX6_takesRowEnd_45 : decode cX6_takesRowEnd 45 = .ok (.getfield 23, 3) := by decide +kernel
theorem dX6_takesRowEnd_48 : decode cX6_takesRowEnd 48 = .ok (.iconst 1, 1) := by decide +kernel
theorem dX6_takesRowEnd_49 : decode cX6_takesRowEnd 49 = .ok (.iadd, 1) := by decide +kernel
theorem dX6_takesRowEnd_50 : decode cX6_takesRowEnd 50 = .ok (.iconst 5, 1) := by decide +kernel
theorem dX6_takesRowEnd_51 : decode cX6_takesRowEnd 51 = .ok (.if_icmp .lt 5, 3) := by decide +kernel
theorem dX6_takesRowEnd_54 : decode cX6_takesRowEnd 54 = .ok (.iconst 0, 1) := by decide +kernel
theorem dX6_takesRowEnd_55 : decode cX6_takesRowEnd 55 = .ok (.ireturn, 1) := by decide +kernel
theorem dX6_takesRowEnd_56 : decode cX6_takesRowEnd 56 = .ok (.aload_n 0, 1) := by decide +kernel
theorem dX6_takesRowEnd_57 : decode cX6_takesRowEnd 57 = .ok (.aload_n 0, 1) := by decide +kernel
theorem dX6_takesRowEnd_58 : decode cX6_takesRowEnd 58 = .ok (.getfield 26, 3) := by decide +kernel
theorem dX6_takesRowEnd_61 : decode cX6_takesRowEnd 61 = .ok (.putfield 29, 3) := by decide +kernel
theorem dX6_takesRowEnd_64 : decode cX6_takesRowEnd 64 = .ok (.aload_n 0, 1) := by decide +kernel
theorem dX6_takesRowEnd_65 : decode cX6_takesRowEnd 65 = .ok (.dup, 1) := by decide +kernel
theorem dX6_takesRowEnd_66 : decode cX6_takesRowEnd 66 = .ok (.getfield 23, 3) := by decide +kernel
theorem dX6_takesRowEnd_69 : decode cX6_takesRowEnd 69 = .ok (.iconst 1, 1) := by decide +kernel
theorem dX6_takesRowEnd_70 : decode cX6_takesRowEnd 70 = .ok (.iadd, 1) := by decide +kernel
theorem dX6_takesRowEnd_71 : decode cX6_takesRowEnd 71 = .ok (.putfield 23, 3) := by decide +kernel
theorem dX6_takesRowEnd_74 : decode cX6_takesRowEnd 74 = .ok (.aload_n 0, 1) := by decide +kernel
theorem dX6_takesRowEnd_75 : decode cX6_takesRowEnd 75 = .ok (.iconst 0, 1) := by decide +kernel
theorem dX6_takesRowEnd_76 : decode cX6_takesRowEnd 76 = .ok (.putfield 26, 3) := by decide +kernel
theorem dX6_takesRowEnd_79 : decode cX6_takesRowEnd 79 = .ok (.aload_n 0, 1) := by decide +kernel
theorem dX6_takesRowEnd_80 : decode cX6_takesRowEnd 80 = .ok (.iconst 0, 1) := by decide +kernel
theorem dX6_takesRowEnd_81 : decode cX6_takesRowEnd 81 = .ok (.putfield 35, 3) := by decide +kernel
theorem dX6_takesRowEnd_84 : decode cX6_takesRowEnd 84 = .ok (.iconst 1, 1) := by decide +kernel
theorem dX6_takesRowEnd_85 : decode cX6_takesRowEnd 85 = .ok (.ireturn, 1) := by decide +kernel
theorem cw_X6_takesRowEnd : Cw yX6_takesRowEnd cX6_takesRowEnd 2 (some .boolean) 0 := ⟨aw_424, aw_47, ⟨by decide, by decide⟩, by decide +kernel, by decide⟩
theorem gf_6_23 {K : KT} {cc : ByteArray} {nL d pc : Nat} {ret : Option FieldType} {L : List (Option Value)} {st : List Value} {σ : Sg} (C : Cx K layC cc RX6 nL d ret)  (hd : decode cc pc = .ok (.getfield 23, 3)) (k : G K (pc + 3) L (.int (rI σ 1 2) :: st) (Wd K layC σ)) : G K pc L (.ref (kad K 1) :: st) (Wd K layC σ) := g_get C (o := 1) (ci := 6) (k := 2) hd rfl rfl rfl (by decide) (Or.inl aw_77) inA6 rfl k
theorem gf_6_26 {K : KT} {cc : ByteArray} {nL d pc : Nat} {ret : Option FieldType} {L : List (Option Value)} {st : List Value} {σ : Sg} (C : Cx K layC cc RX6 nL d ret)  (hd : decode cc pc = .ok (.getfield 26, 3)) (k : G K (pc + 3) L (.int (rI σ 1 3) :: st) (Wd K layC σ)) : G K pc L (.ref (kad K 1) :: st) (Wd K layC σ) := g_get C (o := 1) (ci := 6) (k := 3) hd rfl rfl rfl (by decide) (Or.inl aw_78) inA6 rfl k
theorem gf_6_29 {K : KT} {cc : ByteArray} {nL d pc : Nat} {ret : Option FieldType} {L : List (Option Value)} {st : List Value} {σ : Sg} (C : Cx K layC cc RX6 nL d ret)  (hd : decode cc pc = .ok (.getfield 29, 3)) (k : G K (pc + 3) L (.int (rI σ 1 4) :: st) (Wd K layC σ)) : G K pc L (.ref (kad K 1) :: st) (Wd K layC σ) := g_get C (o := 1) (ci := 6) (k := 4) hd rfl rfl rfl (by decide) (Or.inl aw_79) inA6 rfl k
theorem pf_6_29 {K : KT} {cc : ByteArray} {nL d pc : Nat} {ret : Option FieldType} {L : List (Option Value)} {st : List Value} {σ : Sg} (C : Cx K layC cc RX6 nL d ret)  {v : Int32}  (hd : decode cc pc = .ok (.putfield 29, 3)) (k : G K (pc + 3) L st (Wd K layC (wI σ 1 4 v))) : G K pc L (.int v :: .ref (kad K 1) :: st) (Wd K layC σ) := g_putI C (o := 1) (ci := 6) (k := 4) hd rfl rfl rfl (by decide) (Or.inl aw_79) inA6 tyX6_ok nmX6 rfl rfl rfl k
theorem pf_6_23 {K : KT} {cc : ByteArray} {nL d pc : Nat} {ret : Option FieldType} {L : List (Option Value)} {st : List Value} {σ : Sg} (C : Cx K layC cc RX6 nL d ret)  {v : Int32}  (hd : decode cc pc = .ok (.putfield 23, 3)) (k : G K (pc + 3) L st (Wd K layC (wI σ 1 2 v))) : G K pc L (.int v :: .ref (kad K 1) :: st) (Wd K layC σ) := g_putI C (o := 1) (ci := 6) (k := 2) hd rfl rfl rfl (by decide) (Or.inl aw_77) inA6 tyX6_ok nmX6 rfl rfl rfl k
theorem pf_6_26 {K : KT} {cc : ByteArray} {nL d pc : Nat} {ret : Option FieldType} {L : List (Option Value)} {st : List Value} {σ : Sg} (C : Cx K layC cc RX6 nL d ret)  {v : Int32}  (hd : decode cc pc = .ok (.putfield 26, 3)) (k : G K (pc + 3) L st (Wd K layC (wI σ 1 3 v))) : G K pc L (.int v :: .ref (kad K 1) :: st) (Wd K layC σ) := g_putI C (o := 1) (ci := 6) (k := 3) hd rfl rfl rfl (by decide) (Or.inl aw_78) inA6 tyX6_ok nmX6 rfl rfl rfl k
theorem pf_6_35 {K : KT} {cc : ByteArray} {nL d pc : Nat} {ret : Option FieldType} {L : List (Option Value)} {st : List Value} {σ : Sg} (C : Cx K layC cc RX6 nL d ret)  {v : Int32} (hb : isB v = true) (hd : decode cc pc = .ok (.putfield 35, 3)) (k : G K (pc + 3) L st (Wd K layC (wI σ 1 6 v))) : G K pc L (.int v :: .ref (kad K 1) :: st) (Wd K layC σ) := g_putI C (o := 1) (ci := 6) (k := 6) hd rfl rfl rfl (by decide) (Or.inl aw_81) inA6 tyX6_ok nmX6 rfl (isB_n hb) (isB_f hb) k
def fX6_takesRowEnd_b39 (y0 : Int32) (σ : Sg) : Option (Int32 × Sg) :=
  if y0 = 0 then (some ((0 : Int32), σ)) else (if ((rI σ 1 2) + (1 : Int32)) < (5 : Int32) then (some ((1 : Int32), (wI (wI (wI (wI σ 1 4 (rI σ 1 3)) 1 2 ((rI (wI σ 1 4 (rI σ 1 3)) 1 2) + (1 : Int32))) 1 3 (0 : Int32)) 1 6 (0 : Int32)))) else (some ((0 : Int32), σ)))
def fX6_takesRowEnd_b0  (σ : Sg) : Option (Int32 × Sg) :=
  if (rI σ 1 2) = 0 then (if (rI σ 1 3) < (2 : Int32) then (fX6_takesRowEnd_b39 (0 : Int32) σ) else (fX6_takesRowEnd_b39 (1 : Int32) σ)) else (if (rI σ 1 3) = (rI σ 1 4) then (fX6_takesRowEnd_b39 (1 : Int32) σ) else (fX6_takesRowEnd_b39 (0 : Int32) σ))
set_option maxRecDepth 4000 in
theorem bX6_takesRowEnd_b39 {K : KT} {y0 : Int32} {σ : Sg} {o : Int32 × Sg} (C : Cx K layC cX6_takesRowEnd RX6 2 (1) (some .boolean))  (hQ : Rk K layC (okI o)) (h : fX6_takesRowEnd_b39 y0 σ = some o) : G K 39 [some (.ref (kad K 1)), none] [.int y0] (Wd K layC σ) := by
  unfold fX6_takesRowEnd_b39 at h
  refine g_istore_n C.c (i := 1) (L' := [some (.ref (kad K 1)), some (.int y0)]) dX6_takesRowEnd_39 rfl (Nat.le_of_ble_eq_true rfl) rfl ?_
  refine g_iload_n C.c dX6_takesRowEnd_40 rfl (i := 1) rfl ?_
  refine g_if_eq C.c (tgt := 54) dX6_takesRowEnd_41 (by decide) (fun c => ?_) (fun c => ?_)
  · replace h := ite_t c h
    refine g_iconst C.c dX6_takesRowEnd_54 (v := (0 : Int32)) (by decide) ?_
    obtain rfl := Option.some.inj h
    exact g_iret C hQ dX6_takesRowEnd_55 rfl ⟨rfl, rfl⟩
  · replace h := ite_f c h
    refine g_aload_n C.c dX6_takesRowEnd_44 rfl (i := 0) rfl ?_
    refine gf_6_23 C dX6_takesRowEnd_45 ?_
    refine g_iconst C.c dX6_takesRowEnd_48 (v := (1 : Int32)) (by decide) ?_
    refine g_iadd C.c dX6_takesRowEnd_49 ?_
    refine g_iconst C.c dX6_takesRowEnd_50 (v := (5 : Int32)) (by decide) ?_
    refine g_icmp_lt C.c (tgt := 56) dX6_takesRowEnd_51 (by decide) (fun c => ?_) (fun c => ?_)
    · replace h := ite_t c h
      refine g_aload_n C.c dX6_takesRowEnd_56 rfl (i := 0) rfl ?_
      refine g_aload_n C.c dX6_takesRowEnd_57 rfl (i := 0) rfl ?_
      refine gf_6_26 C dX6_takesRowEnd_58 ?_
      refine pf_6_29 C dX6_takesRowEnd_61 ?_
      refine g_aload_n C.c dX6_takesRowEnd_64 rfl (i := 0) rfl ?_
      refine g_dup C.c dX6_takesRowEnd_65 rfl ?_
      refine gf_6_23 C dX6_takesRowEnd_66 ?_
      refine g_iconst C.c dX6_takesRowEnd_69 (v := (1 : Int32)) (by decide) ?_
      refine g_iadd C.c dX6_takesRowEnd_70 ?_
      refine pf_6_23 C dX6_takesRowEnd_71 ?_
      refine g_aload_n C.c dX6_takesRowEnd_74 rfl (i := 0) rfl ?_
      refine g_iconst C.c dX6_takesRowEnd_75 (v := (0 : Int32)) (by decide) ?_
      refine pf_6_26 C dX6_takesRowEnd_76 ?_
      refine g_aload_n C.c dX6_takesRowEnd_79 rfl (i := 0) rfl ?_
      refine g_iconst C.c dX6_takesRowEnd_80 (v := (0 : Int32)) (by decide) ?_
      refine pf_6_35 C (by decide) dX6_takesRowEnd_81 ?_
      refine g_iconst C.c dX6_takesRowEnd_84 (v := (1 : Int32)) (by decide) ?_
      obtain rfl := Option.some.inj h
      exact g_iret C hQ dX6_takesRowEnd_85 rfl ⟨rfl, rfl⟩
    · replace h := ite_f c h
      refine g_iconst C.c dX6_takesRowEnd_54 (v := (0 : Int32)) (by decide) ?_
      obtain rfl := Option.some.inj h
      exact g_iret C hQ dX6_takesRowEnd_55 rfl ⟨rfl, rfl⟩
set_option maxRecDepth 4000 in
theorem bX6_takesRowEnd_b0 {K : KT}  {σ : Sg} {o : Int32 × Sg} (C : Cx K layC cX6_takesRowEnd RX6 2 (1) (some .boolean))  (hQ : Rk K layC (okI o)) (h : fX6_takesRowEnd_b0  σ = some o) : G K 0 [some (.ref (kad K 1)), none] [] (Wd K layC σ) := by
  unfold fX6_takesRowEnd_b0 at h
  refine g_aload_n C.c dX6_takesRowEnd_0 rfl (i := 0) rfl ?_
  refine gf_6_23 C dX6_takesRowEnd_1 ?_
  refine g_if_ne C.c (tgt := 23) dX6_takesRowEnd_4 (by decide) (fun c => ?_) (fun c => ?_)
  · replace h := ite_f c h
    refine g_aload_n C.c dX6_takesRowEnd_23 rfl (i := 0) rfl ?_
    refine gf_6_26 C dX6_takesRowEnd_24 ?_
    refine g_aload_n C.c dX6_takesRowEnd_27 rfl (i := 0) rfl ?_
    refine gf_6_29 C dX6_takesRowEnd_28 ?_
    refine g_icmp_ne C.c (tgt := 38) dX6_takesRowEnd_31 (by decide) (fun c => ?_) (fun c => ?_)
    · replace h := ite_f c h
      refine g_iconst C.c dX6_takesRowEnd_38 (v := (0 : Int32)) (by decide) ?_
      exact g_mask [true, false] rfl (bX6_takesRowEnd_b39 C hQ h)
    · replace h := ite_t c h
      refine g_iconst C.c dX6_takesRowEnd_34 (v := (1 : Int32)) (by decide) ?_
      refine g_goto C.c (tgt := 39) dX6_takesRowEnd_35 (by decide) ?_
      exact g_mask [true, false] rfl (bX6_takesRowEnd_b39 C hQ h)
  · replace h := ite_t c h
    refine g_aload_n C.c dX6_takesRowEnd_7 rfl (i := 0) rfl ?_
    refine gf_6_26 C dX6_takesRowEnd_8 ?_
    refine g_iconst C.c dX6_takesRowEnd_11 (v := (2 : Int32)) (by decide) ?_
    refine g_icmp_lt C.c (tgt := 19) dX6_takesRowEnd_12 (by decide) (fun c => ?_) (fun c => ?_)
    · replace h := ite_t c h
      refine g_iconst C.c dX6_takesRowEnd_19 (v := (0 : Int32)) (by decide) ?_
      refine g_goto C.c (tgt := 39) dX6_takesRowEnd_20 (by decide) ?_
      exact g_mask [true, false] rfl (bX6_takesRowEnd_b39 C hQ h)
    · replace h := ite_f c h
      refine g_iconst C.c dX6_takesRowEnd_15 (v := (1 : Int32)) (by decide) ?_
      refine g_goto C.c (tgt := 39) dX6_takesRowEnd_16 (by decide) ?_
      exact g_mask [true, false] rfl (bX6_takesRowEnd_b39 C hQ h)
def fX6_takesRowEnd (σ : Sg) : Option (Int32 × Sg) := fX6_takesRowEnd_b0 σ
theorem ct_X6_takesRowEnd {σ : Sg} {p : Int32 × Sg} (h : fX6_takesRowEnd σ = some p) : Ct layC yX6_takesRowEnd cX6_takesRowEnd 2 (some .boolean) 1 (fun ad => [.ref (ad 1)]) σ (okI p) :=
 ct_of (L0 := fun ad => [some (.ref (ad 1)), none]) (by decide) (fun _ => Nat.le_of_ble_eq_true rfl) (fun _ => rfl) (fun K C hQ => g_mask [true, false] rfl (bX6_takesRowEnd_b0 C hQ h))
-- X7_wayOf
theorem dX7_wayOf_0 : decode cX7_wayOf 0 = .ok (.iload_n 0, 1) := by decide +kernel
theorem dX7_wayOf_1 : decode cX7_wayOf 1 = .ok (.lookupswitch 51 #[(101, 45), (110, 43), (115, 47), (119, 49)], 43) := by decide +kernel
theorem dX7_wayOf_44 : decode cX7_wayOf 44 = .ok (.iconst 0, 1) := by decide +kernel
theorem dX7_wayOf_45 : decode cX7_wayOf 45 = .ok (.ireturn, 1) := by decide +kernel
theorem dX7_wayOf_46 : decode cX7_wayOf 46 = .ok (.iconst 1, 1) := by decide +kernel
theorem dX7_wayOf_47 : decode cX7_wayOf 47 = .ok (.ireturn, 1) := by decide +kernel
theorem dX7_wayOf_48 : decode cX7_wayOf 48 = .ok (.iconst 2, 1) := by decide +kernel
theorem dX7_wayOf_49 : decode cX7_wayOf 49 = .ok (.ireturn, 1) := by decide +kernel
theorem dX7_wayOf_50 : decode cX7_wayOf 50 = .ok (.iconst 3, 1) := by decide +kernel
theorem dX7_wayOf_51 : decode cX7_wayOf 51 = .ok (.ireturn, 1) := by decide +kernel
theorem dX7_wayOf_52 : decode cX7_wayOf 52 = .ok (.iconst (-1), 1) := by decide +kernel
theorem dX7_wayOf_53 : decode cX7_wayOf 53 = .ok (.ireturn, 1) := by decide +kernel
theorem cw_X7_wayOf : Cw yX7_wayOf cX7_wayOf 1 (some .int) 1 := ⟨aw_427, aw_49, ⟨by decide, by decide⟩, by decide +kernel, by decide⟩
def fX7_wayOf_b0 (x0 : Int32) (σ : Sg) : Option (Int32 × Sg) :=
  if x0 = (101 : Int32) then (some ((1 : Int32), σ)) else (if x0 = (110 : Int32) then (some ((0 : Int32), σ)) else (if x0 = (115 : Int32) then (some ((2 : Int32), σ)) else (if x0 = (119 : Int32) then (some ((3 : Int32), σ)) else (some ((-1 : Int32), σ)))))
set_option maxRecDepth 4000 in
theorem bX7_wayOf_b0 {K : KT} {x0 : Int32} {σ : Sg} {o : Int32 × Sg} (C : Cx K layC cX7_wayOf RX7 1 (1) (some .int))  (hQ : Rk K layC (okI o)) (h : fX7_wayOf_b0 x0 σ = some o) : G K 0 [some (.int x0)] [] (Wd K layC σ) := by
  unfold fX7_wayOf_b0 at h
  refine g_iload_n C.c dX7_wayOf_0 rfl (i := 0) rfl ?_
  by_cases c0 : x0 = (101 : Int32)
  · replace h := ite_t c0 h
    refine g_lkIn C.c (tgt := 46) (off := 45) c0 dX7_wayOf_1 (by decide) (by decide) (by decide) ?_
    refine g_iconst C.c dX7_wayOf_46 (v := (1 : Int32)) (by decide) ?_
    obtain rfl := Option.some.inj h
    exact g_iret C hQ dX7_wayOf_47 rfl ⟨rfl, rfl⟩
  · replace h := ite_f c0 h
    by_cases c1 : x0 = (110 : Int32)
    · replace h := ite_t c1 h
      refine g_lkIn C.c (tgt := 44) (off := 43) c1 dX7_wayOf_1 (by decide) (by decide) (by decide) ?_
      refine g_iconst C.c dX7_wayOf_44 (v := (0 : Int32)) (by decide) ?_
      obtain rfl := Option.some.inj h
      exact g_iret C hQ dX7_wayOf_45 rfl ⟨rfl, rfl⟩
    · replace h := ite_f c1 h
      by_cases c2 : x0 = (115 : Int32)
      · replace h := ite_t c2 h
        refine g_lkIn C.c (tgt := 48) (off := 47) c2 dX7_wayOf_1 (by decide) (by decide) (by decide) ?_
        refine g_iconst C.c dX7_wayOf_48 (v := (2 : Int32)) (by decide) ?_
        obtain rfl := Option.some.inj h
        exact g_iret C hQ dX7_wayOf_49 rfl ⟨rfl, rfl⟩
      · replace h := ite_f c2 h
        by_cases c3 : x0 = (119 : Int32)
        · replace h := ite_t c3 h
          refine g_lkIn C.c (tgt := 50) (off := 49) c3 dX7_wayOf_1 (by decide) (by decide) (by decide) ?_
          refine g_iconst C.c dX7_wayOf_50 (v := (3 : Int32)) (by decide) ?_
          obtain rfl := Option.some.inj h
          exact g_iret C hQ dX7_wayOf_51 rfl ⟨rfl, rfl⟩
        · replace h := ite_f c3 h
          refine g_lkOut C.c (tgt := 52) [(101 : Int32), (110 : Int32), (115 : Int32), (119 : Int32)] (by decide) ⟨c0, c1, c2, c3, trivial⟩ dX7_wayOf_1 (by decide) (by decide) ?_
          refine g_iconst C.c dX7_wayOf_52 (v := (-1 : Int32)) (by decide) ?_
          obtain rfl := Option.some.inj h
          exact g_iret C hQ dX7_wayOf_53 rfl ⟨rfl, rfl⟩
def fX7_wayOf (a0 : Int32) (σ : Sg) : Option (Int32 × Sg) := fX7_wayOf_b0 a0 σ
theorem ct_X7_wayOf {a0 : Int32} {σ : Sg} {p : Int32 × Sg} (h : fX7_wayOf a0 σ = some p) : Ct layC yX7_wayOf cX7_wayOf 1 (some .int) 1 (fun ad => [.int a0]) σ (okI p) :=
 ct_of (L0 := fun ad => [some (.int a0)]) (by decide) (fun _ => Nat.le_of_ble_eq_true rfl) (fun _ => rfl) (fun K C hQ => g_mask [true] rfl (bX7_wayOf_b0 C hQ h))
-- X6_takesSquare
theorem dX6_takesSquare_0 : decode cX6_takesSquare 0 = .ok (.iload_n 1, 1) := by decide +kernel
theorem dX6_takesSquare_1 : decode cX6_takesSquare 1 = .ok (.bipush 48, 2) := by decide +kernel
theorem dX6_takesSquare_3 : decode cX6_takesSquare 3 = .ok (.if_icmp .lt 13, 3) := by decide +kernel
theorem dX6_takesSquare_6 : decode cX6_takesSquare 6 = .ok (.iload_n 1, 1) := by decide +kernel
theorem dX6_takesSquare_7 : decode cX6_takesSquare 7 = .ok (.bipush 57, 2) := by decide +kernel
theorem dX6_takesSquare_9 : decode cX6_takesSquare 9 = .ok (.if_icmp .gt 7, 3) := by decide +kernel
theorem dX6_takesSquare_12 : decode cX6_takesSquare 12 = .ok (.iconst 1, 1) := by decide +kernel
theorem dX6_takesSquare_13 : decode cX6_takesSquare 13 = .ok (.goto 4, 3) := by decide +kernel
theorem dX6_takesSquare_16 : decode cX6_takesSquare 16 = .ok (.iconst 0, 1) := by decide +kernel
theorem dX6_takesSquare_17 : decode cX6_takesSquare 17 = .ok (.istore_n 2, 1) := by decide +kernel
theorem dX6_takesSquare_18 : decode cX6_takesSquare 18 = .ok (.iload_n 1, 1) := by decide +kernel
theorem dX6_takesSquare_19 : decode cX6_takesSquare 19 = .ok (.bipush 104, 2) := by decide +kernel
theorem dX6_takesSquare_21 : decode cX6_takesSquare 21 = .ok (.if_icmp .ne 14, 3) := by decide +kernel
theorem dX6_takesSquare_24 : decode cX6_takesSquare 24 = .ok (.aload_n 0, 1) := by decide +kernel
theorem dX6_takesSquare_25 : decode cX6_takesSquare 25 = .ok (.getfield 32, 3) := by decide +kernel
theorem dX6_takesSquare_28 : decode cX6_takesSquare 28 = .ok (.ifCond .le 7, 3) := by decide +kernel
theorem dX6_takesSquare_31 : decode cX6_takesSquare 31 = .ok (.iconst 1, 1) := by decide +kernel
theorem dX6_takesSquare_32 : decode cX6_takesSquare 32 = .ok (.goto 4, 3) := by decide +kernel
theorem dX6_takesSquare_35 : decode cX6_takesSquare 35 = .ok (.iconst 0, 1) := by decide +kernel
theorem dX6_takesSquare_36 : decode cX6_takesSquare 36 = .ok (.istore_n 3, 1) := by decide +kernel
theorem dX6_takesSquare_37 : decode cX6_takesSquare 37 = .ok (.iload_n 2, 1) := by decide +kernel
theorem dX6_takesSquare_38 : decode cX6_takesSquare 38 = .ok (.ifCond .ne 15, 3) := by decide +kernel
theorem dX6_takesSquare_41 : decode cX6_takesSquare 41 = .ok (.iload_n 1, 1) := by decide +kernel
theorem dX6_takesSquare_42 : decode cX6_takesSquare 42 = .ok (.bipush 35, 2) := by decide +kernel
theorem dX6_takesSquare_44 : decode cX6_takesSquare 44 = .ok (.if_icmp .eq 9, 3) := by decide +kernel
theorem dX6_takesSquare_47 : decode cX6_takesSquare 47 = .ok (.iload_n 1, 1) := by decide +kernel
theorem dX6_takesSquare_48 : decode cX6_takesSquare 48 = .ok (.bipush 104, 2) := by decide +kernel
theorem dX6_takesSquare_50 : decode cX6_takesSquare 50 = .ok (.if_icmp .ne 7, 3) := by decide +kernel
theorem dX6_takesSquare_53 : decode cX6_takesSquare 53 = .ok (.iload_n 3, 1) := by decide +kernel
theorem dX6_takesSquare_54 : decode cX6_takesSquare 54 = .ok (.ifCond .eq 5, 3) := by decide +kernel
theorem dX6_takesSquare_57 : decode cX6_takesSquare 57 = .ok (.iconst 0, 1) := by decide +kernel
theorem dX6_takesSquare_58 : decode cX6_takesSquare 58 = .ok (.ireturn, 1) := by decide +kernel
theorem dX6_takesSquare_59 : decode cX6_takesSquare 59 = .ok (.aload_n 0, 1) := by decide +kernel
theorem dX6_takesSquare_60 : decode cX6_takesSquare 60 = .ok (.getfield 26, 3) := by decide +kernel
theorem dX6_takesSquare_63 : decode cX6_takesSquare 63 = .ok (.aload_n 0, 1) := by decide +kernel
theorem dX6_takesSquare_64 : decode cX6_takesSquare 64 = .ok (.getfield 23, 3) := by decide +kernel
theorem dX6_takesSquare_67 : decode cX6_takesSquare 67 = .ok (.ifCond .ne 8, 3) := by decide +kernel
theorem dX6_takesSquare_70 : decode cX6_takesSquare 70 = .ok (.bipush 6, 2) := by decide +kernel
theorem dX6_takesSquare_72 : decode cX6_takesSquare 72 = .ok (.goto 7, 3) := by decide +kernel
theorem dX6_takesSquare_75 : decode cX6_takesSquare 75 = .ok (.aload_n 0, 1) := by decide +kernel
theorem dX6_takesSquare_76 : decode cX6_takesSquare 76 = .ok (.getfield 29, 3) := by decide +kernel
theorem dX6_takesSquare_79 : decode cX6_takesSquare 79 = .ok (.if_icmp .lt 5, 3) := by decide +kernel
theorem dX6_takesSquare_82 : decode cX6_takesSquare 82 = .ok (.iconst 0, 1) := by decide +kernel
theorem dX6_takesSquare_83 : decode cX6_takesSquare 83 = .ok (.ireturn, 1) := by decide +kernel
theorem dX6_takesSquare_84 : decode cX6_takesSquare 84 = .ok (.aload_n 0, 1) := by decide +kernel
theorem dX6_takesSquare_85 : decode cX6_takesSquare 85 = .ok (.dup, 1) := by decide +kernel
theorem dX6_takesSquare_86 : decode cX6_takesSquare 86 = .ok (.getfield 32, 3) := by decide +kernel
theorem dX6_takesSquare_89 : decode cX6_takesSquare 89 = .ok (.iload_n 1, 1) := by decide +kernel
theorem dX6_takesSquare_90 : decode cX6_takesSquare 90 = .ok (.bipush 104, 2) := by decide +kernel
theorem dX6_takesSquare_92 : decode cX6_takesSquare 92 = .ok (.if_icmp .ne 7, 3) := by decide +kernel
theorem dX6_takesSquare_95 : decode cX6_takesSquare 95 = .ok (.iconst 1, 1) := by decide +kernel
theorem dX6_takesSquare_96 : decode cX6_takesSquare 96 = .ok (.goto 4, 3) := by decide +kernel
theorem dX6_takesSquare_99 : decode cX6_takesSquare 99 = .ok (.iconst 0, 1) := by decide +kernel
theorem dX6_takesSquare_100 : decode cX6_takesSquare 100 = .ok (.iadd, 1) := by decide +kernel
theorem dX6_takesSquare_101 : decode cX6_takesSquare 101 = .ok (.putfield 32, 3) := by decide +kernel
theorem dX6_takesSquare_104 : decode cX6_takesSquare 104 = .ok (.aload_n 0, 1) := by decide +kernel
theorem dX6_takesSquare_105 : decode cX6_takesSquare 105 = .ok (.dup, 1) := by decide +kernel
theorem dX6_takesSquare_106 : decode cX6_takesSquare 106 = .ok (.getfield 26, 3) := by decide +kernel
theorem dX6_takesSquare_109 : decode cX6_takesSquare 109 = .ok (.iconst 1, 1) := by decide +kernel
theorem dX6_takesSquare_110 : decode cX6_takesSquare 110 = .ok (.iadd, 1) := by decide +kernel
theorem dX6_takesSquare_111 : decode cX6_takesSquare 111 = .ok (.putfield 26, 3) := by decide +kernel
theorem dX6_takesSquare_114 : decode cX6_takesSquare 114 = .ok (.aload_n 0, 1) := by decide +kernel
theorem dX6_takesSquare_115 : decode cX6_takesSquare 115 = .ok (.iload_n 2, 1) := by decide +kernel
theorem dX6_takesSquare_116 : decode cX6_takesSquare 116 = .ok (.putfield 35, 3) := by decide +kernel
theorem dX6_takesSquare_119 : decode cX6_takesSquare 119 = .ok (.iconst 1, 1) := by decide +kernel
theorem dX6_takesSquare_120 : decode cX6_takesSquare 120 = .ok (.ireturn, 1) := by decide +kernel
theorem cw_X6_takesSquare : Cw yX6_takesSquare cX6_takesSquare 4 (some .boolean) 1 := ⟨aw_431, aw_47, ⟨by decide, by decide⟩, by decide +kernel, by decide⟩
theorem gf_6_32 {K : KT} {cc : ByteArray} {nL d pc : Nat} {ret : Option FieldType} {L : List (Option Value)} {st : List Value} {σ : Sg} (C : Cx K layC cc RX6 nL d ret)  (hd : decode cc pc = .ok (.getfield 32, 3)) (k : G K (pc + 3) L (.int (rI σ 1 5) :: st) (Wd K layC σ)) : G K pc L (.ref (kad K 1) :: st) (Wd K layC σ) := g_get C (o := 1) (ci := 6) (k := 5) hd rfl rfl rfl (by decide) (Or.inl aw_80) inA6 rfl k
theorem pf_6_32 {K : KT} {cc : ByteArray} {nL d pc : Nat} {ret : Option FieldType} {L : List (Option Value)} {st : List Value} {σ : Sg} (C : Cx K layC cc RX6 nL d ret)  {v : Int32}  (hd : decode cc pc = .ok (.putfield 32, 3)) (k : G K (pc + 3) L st (Wd K layC (wI σ 1 5 v))) : G K pc L (.int v :: .ref (kad K 1) :: st) (Wd K layC σ) := g_putI C (o := 1) (ci := 6) (k := 5) hd rfl rfl rfl (by decide) (Or.inl aw_80) inA6 tyX6_ok nmX6 rfl rfl rfl k
def fX6_takesSquare_b100 (x2 : Int32) (y0 : Int32) (y1 : Int32) (σ : Sg) : Option (Int32 × Sg) :=
  if isB x2 = true then (some ((1 : Int32), (wI (wI (wI σ 1 5 (y1 + y0)) 1 3 ((rI (wI σ 1 5 (y1 + y0)) 1 3) + (1 : Int32))) 1 6 x2))) else none
def fX6_takesSquare_b79 (x1 : Int32) (x2 : Int32) (y0 : Int32) (y1 : Int32) (σ : Sg) : Option (Int32 × Sg) :=
  if y1 < y0 then (if x1 = (104 : Int32) then (fX6_takesSquare_b100 x2 (1 : Int32) (rI σ 1 5) σ) else (fX6_takesSquare_b100 x2 (0 : Int32) (rI σ 1 5) σ)) else (some ((0 : Int32), σ))
def fX6_takesSquare_b53 (x1 : Int32) (x2 : Int32) (x3 : Int32) (σ : Sg) : Option (Int32 × Sg) :=
  if x3 = 0 then (if (rI σ 1 2) = 0 then (fX6_takesSquare_b79 x1 x2 (6 : Int32) (rI σ 1 3) σ) else (fX6_takesSquare_b79 x1 x2 (rI σ 1 4) (rI σ 1 3) σ)) else (some ((0 : Int32), σ))
def fX6_takesSquare_b36 (x1 : Int32) (x2 : Int32) (y0 : Int32) (σ : Sg) : Option (Int32 × Sg) :=
  if x2 = 0 then (if x1 = (35 : Int32) then (fX6_takesSquare_b53 x1 x2 y0 σ) else (if x1 = (104 : Int32) then (fX6_takesSquare_b53 x1 x2 y0 σ) else (some ((0 : Int32), σ)))) else (fX6_takesSquare_b53 x1 x2 y0 σ)
def fX6_takesSquare_b35 (x1 : Int32) (x2 : Int32) (σ : Sg) : Option (Int32 × Sg) :=
  fX6_takesSquare_b36 x1 x2 (0 : Int32) σ
def fX6_takesSquare_b17 (x1 : Int32) (y0 : Int32) (σ : Sg) : Option (Int32 × Sg) :=
  if x1 = (104 : Int32) then (if (rI σ 1 5) ≤ 0 then (fX6_takesSquare_b35 x1 y0 σ) else (fX6_takesSquare_b36 x1 y0 (1 : Int32) σ)) else (fX6_takesSquare_b35 x1 y0 σ)
def fX6_takesSquare_b16 (x1 : Int32) (σ : Sg) : Option (Int32 × Sg) :=
  fX6_takesSquare_b17 x1 (0 : Int32) σ
def fX6_takesSquare_b0 (x1 : Int32) (σ : Sg) : Option (Int32 × Sg) :=
  if x1 < (48 : Int32) then (fX6_takesSquare_b16 x1 σ) else (if (57 : Int32) < x1 then (fX6_takesSquare_b16 x1 σ) else (fX6_takesSquare_b17 x1 (1 : Int32) σ))
set_option maxRecDepth 4000 in
theorem bX6_takesSquare_b100 {K : KT} {x2 : Int32} {y0 : Int32} {y1 : Int32} {σ : Sg} {o : Int32 × Sg} (C : Cx K layC cX6_takesSquare RX6 4 (1) (some .boolean))  (hQ : Rk K layC (okI o)) (h : fX6_takesSquare_b100 x2 y0 y1 σ = some o) : G K 100 [some (.ref (kad K 1)), none, some (.int x2), none] [.int y0, .int y1, .ref (kad K 1)] (Wd K layC σ) := by
  unfold fX6_takesSquare_b100 at h
  refine g_iadd C.c dX6_takesSquare_100 ?_
  refine pf_6_32 C dX6_takesSquare_101 ?_
  refine g_aload_n C.c dX6_takesSquare_104 rfl (i := 0) rfl ?_
  refine g_dup C.c dX6_takesSquare_105 rfl ?_
  refine gf_6_26 C dX6_takesSquare_106 ?_
  refine g_iconst C.c dX6_takesSquare_109 (v := (1 : Int32)) (by decide) ?_
  refine g_iadd C.c dX6_takesSquare_110 ?_
  refine pf_6_26 C dX6_takesSquare_111 ?_
  refine g_aload_n C.c dX6_takesSquare_114 rfl (i := 0) rfl ?_
  refine g_iload_n C.c dX6_takesSquare_115 rfl (i := 2) rfl ?_
  obtain ⟨c1, h⟩ := chk h
  refine pf_6_35 C c1 dX6_takesSquare_116 ?_
  refine g_iconst C.c dX6_takesSquare_119 (v := (1 : Int32)) (by decide) ?_
  obtain rfl := Option.some.inj h
  exact g_iret C hQ dX6_takesSquare_120 rfl ⟨rfl, rfl⟩
set_option maxRecDepth 4000 in
theorem bX6_takesSquare_b79 {K : KT} {x1 : Int32} {x2 : Int32} {y0 : Int32} {y1 : Int32} {σ : Sg} {o : Int32 × Sg} (C : Cx K layC cX6_takesSquare RX6 4 (1) (some .boolean))  (hQ : Rk K layC (okI o)) (h : fX6_takesSquare_b79 x1 x2 y0 y1 σ = some o) : G K 79 [some (.ref (kad K 1)), some (.int x1), some (.int x2), none] [.int y0, .int y1] (Wd K layC σ) := by
  unfold fX6_takesSquare_b79 at h
  refine g_icmp_lt C.c (tgt := 84) dX6_takesSquare_79 (by decide) (fun c => ?_) (fun c => ?_)
  · replace h := ite_t c h
    refine g_aload_n C.c dX6_takesSquare_84 rfl (i := 0) rfl ?_
    refine g_dup C.c dX6_takesSquare_85 rfl ?_
    refine gf_6_32 C dX6_takesSquare_86 ?_
    refine g_iload_n C.c dX6_takesSquare_89 rfl (i := 1) rfl ?_
    refine g_bipush C.c dX6_takesSquare_90 (v := (104 : Int32)) (by decide) ?_
    refine g_icmp_ne C.c (tgt := 99) dX6_takesSquare_92 (by decide) (fun c => ?_) (fun c => ?_)
    · replace h := ite_f c h
      refine g_iconst C.c dX6_takesSquare_99 (v := (0 : Int32)) (by decide) ?_
      exact g_mask [true, false, true, false] rfl (bX6_takesSquare_b100 C hQ h)
    · replace h := ite_t c h
      refine g_iconst C.c dX6_takesSquare_95 (v := (1 : Int32)) (by decide) ?_
      refine g_goto C.c (tgt := 100) dX6_takesSquare_96 (by decide) ?_
      exact g_mask [true, false, true, false] rfl (bX6_takesSquare_b100 C hQ h)
  · replace h := ite_f c h
    refine g_iconst C.c dX6_takesSquare_82 (v := (0 : Int32)) (by decide) ?_
    obtain rfl := Option.some.inj h
    exact g_iret C hQ dX6_takesSquare_83 rfl ⟨rfl, rfl⟩
set_option maxRecDepth 4000 in
theorem bX6_takesSquare_b53 {K : KT} {x1 : Int32} {x2 : Int32} {x3 : Int32} {σ : Sg} {o : Int32 × Sg} (C : Cx K layC cX6_takesSquare RX6 4 (1) (some .boolean))  (hQ : Rk K layC (okI o)) (h : fX6_takesSquare_b53 x1 x2 x3 σ = some o) : G K 53 [some (.ref (kad K 1)), some (.int x1), some (.int x2), some (.int x3)] [] (Wd K layC σ) := by
  unfold fX6_takesSquare_b53 at h
  refine g_iload_n C.c dX6_takesSquare_53 rfl (i := 3) rfl ?_
  refine g_if_eq C.c (tgt := 59) dX6_takesSquare_54 (by decide) (fun c => ?_) (fun c => ?_)
  · replace h := ite_t c h
    refine g_aload_n C.c dX6_takesSquare_59 rfl (i := 0) rfl ?_
    refine gf_6_26 C dX6_takesSquare_60 ?_
    refine g_aload_n C.c dX6_takesSquare_63 rfl (i := 0) rfl ?_
    refine gf_6_23 C dX6_takesSquare_64 ?_
    refine g_if_ne C.c (tgt := 75) dX6_takesSquare_67 (by decide) (fun c => ?_) (fun c => ?_)
    · replace h := ite_f c h
      refine g_aload_n C.c dX6_takesSquare_75 rfl (i := 0) rfl ?_
      refine gf_6_29 C dX6_takesSquare_76 ?_
      exact g_mask [true, true, true, false] rfl (bX6_takesSquare_b79 C hQ h)
    · replace h := ite_t c h
      refine g_bipush C.c dX6_takesSquare_70 (v := (6 : Int32)) (by decide) ?_
      refine g_goto C.c (tgt := 79) dX6_takesSquare_72 (by decide) ?_
      exact g_mask [true, true, true, false] rfl (bX6_takesSquare_b79 C hQ h)
  · replace h := ite_f c h
    refine g_iconst C.c dX6_takesSquare_57 (v := (0 : Int32)) (by decide) ?_
    obtain rfl := Option.some.inj h
    exact g_iret C hQ dX6_takesSquare_58 rfl ⟨rfl, rfl⟩
set_option maxRecDepth 4000 in
theorem bX6_takesSquare_b36 {K : KT} {x1 : Int32} {x2 : Int32} {y0 : Int32} {σ : Sg} {o : Int32 × Sg} (C : Cx K layC cX6_takesSquare RX6 4 (1) (some .boolean))  (hQ : Rk K layC (okI o)) (h : fX6_takesSquare_b36 x1 x2 y0 σ = some o) : G K 36 [some (.ref (kad K 1)), some (.int x1), some (.int x2), none] [.int y0] (Wd K layC σ) := by
  unfold fX6_takesSquare_b36 at h
  refine g_istore_n C.c (i := 3) (L' := [some (.ref (kad K 1)), some (.int x1), some (.int x2), some (.int y0)]) dX6_takesSquare_36 rfl (Nat.le_of_ble_eq_true rfl) rfl ?_
  refine g_iload_n C.c dX6_takesSquare_37 rfl (i := 2) rfl ?_
  refine g_if_ne C.c (tgt := 53) dX6_takesSquare_38 (by decide) (fun c => ?_) (fun c => ?_)
  · replace h := ite_f c h
    exact g_mask [true, true, true, true] rfl (bX6_takesSquare_b53 C hQ h)
  · replace h := ite_t c h
    refine g_iload_n C.c dX6_takesSquare_41 rfl (i := 1) rfl ?_
    refine g_bipush C.c dX6_takesSquare_42 (v := (35 : Int32)) (by decide) ?_
    refine g_icmp_eq C.c (tgt := 53) dX6_takesSquare_44 (by decide) (fun c => ?_) (fun c => ?_)
    · replace h := ite_t c h
      exact g_mask [true, true, true, true] rfl (bX6_takesSquare_b53 C hQ h)
    · replace h := ite_f c h
      refine g_iload_n C.c dX6_takesSquare_47 rfl (i := 1) rfl ?_
      refine g_bipush C.c dX6_takesSquare_48 (v := (104 : Int32)) (by decide) ?_
      refine g_icmp_ne C.c (tgt := 57) dX6_takesSquare_50 (by decide) (fun c => ?_) (fun c => ?_)
      · replace h := ite_f c h
        refine g_iconst C.c dX6_takesSquare_57 (v := (0 : Int32)) (by decide) ?_
        obtain rfl := Option.some.inj h
        exact g_iret C hQ dX6_takesSquare_58 rfl ⟨rfl, rfl⟩
      · replace h := ite_t c h
        exact g_mask [true, true, true, true] rfl (bX6_takesSquare_b53 C hQ h)
set_option maxRecDepth 4000 in
theorem bX6_takesSquare_b35 {K : KT} {x1 : Int32} {x2 : Int32} {σ : Sg} {o : Int32 × Sg} (C : Cx K layC cX6_takesSquare RX6 4 (1) (some .boolean))  (hQ : Rk K layC (okI o)) (h : fX6_takesSquare_b35 x1 x2 σ = some o) : G K 35 [some (.ref (kad K 1)), some (.int x1), some (.int x2), none] [] (Wd K layC σ) := by
  unfold fX6_takesSquare_b35 at h
  refine g_iconst C.c dX6_takesSquare_35 (v := (0 : Int32)) (by decide) ?_
  exact g_mask [true, true, true, false] rfl (bX6_takesSquare_b36 C hQ h)
set_option maxRecDepth 4000 in
theorem bX6_takesSquare_b17 {K : KT} {x1 : Int32} {y0 : Int32} {σ : Sg} {o : Int32 × Sg} (C : Cx K layC cX6_takesSquare RX6 4 (1) (some .boolean))  (hQ : Rk K layC (okI o)) (h : fX6_takesSquare_b17 x1 y0 σ = some o) : G K 17 [some (.ref (kad K 1)), some (.int x1), none, none] [.int y0] (Wd K layC σ) := by
  unfold fX6_takesSquare_b17 at h
  refine g_istore_n C.c (i := 2) (L' := [some (.ref (kad K 1)), some (.int x1), some (.int y0), none]) dX6_takesSquare_17 rfl (Nat.le_of_ble_eq_true rfl) rfl ?_
  refine g_iload_n C.c dX6_takesSquare_18 rfl (i := 1) rfl ?_
  refine g_bipush C.c dX6_takesSquare_19 (v := (104 : Int32)) (by decide) ?_
  refine g_icmp_ne C.c (tgt := 35) dX6_takesSquare_21 (by decide) (fun c => ?_) (fun c => ?_)
  · replace h := ite_f c h
    exact g_mask [true, true, true, false] rfl (bX6_takesSquare_b35 C hQ h)
  · replace h := ite_t c h
    refine g_aload_n C.c dX6_takesSquare_24 rfl (i := 0) rfl ?_
    refine gf_6_32 C dX6_takesSquare_25 ?_
    refine g_if_le C.c (tgt := 35) dX6_takesSquare_28 (by decide) (fun c => ?_) (fun c => ?_)
    · replace h := ite_t c h
      exact g_mask [true, true, true, false] rfl (bX6_takesSquare_b35 C hQ h)
    · replace h := ite_f c h
      refine g_iconst C.c dX6_takesSquare_31 (v := (1 : Int32)) (by decide) ?_
      refine g_goto C.c (tgt := 36) dX6_takesSquare_32 (by decide) ?_
      exact g_mask [true, true, true, false] rfl (bX6_takesSquare_b36 C hQ h)
set_option maxRecDepth 4000 in
theorem bX6_takesSquare_b16 {K : KT} {x1 : Int32} {σ : Sg} {o : Int32 × Sg} (C : Cx K layC cX6_takesSquare RX6 4 (1) (some .boolean))  (hQ : Rk K layC (okI o)) (h : fX6_takesSquare_b16 x1 σ = some o) : G K 16 [some (.ref (kad K 1)), some (.int x1), none, none] [] (Wd K layC σ) := by
  unfold fX6_takesSquare_b16 at h
  refine g_iconst C.c dX6_takesSquare_16 (v := (0 : Int32)) (by decide) ?_
  exact g_mask [true, true, false, false] rfl (bX6_takesSquare_b17 C hQ h)
set_option maxRecDepth 4000 in
theorem bX6_takesSquare_b0 {K : KT} {x1 : Int32} {σ : Sg} {o : Int32 × Sg} (C : Cx K layC cX6_takesSquare RX6 4 (1) (some .boolean))  (hQ : Rk K layC (okI o)) (h : fX6_takesSquare_b0 x1 σ = some o) : G K 0 [some (.ref (kad K 1)), some (.int x1), none, none] [] (Wd K layC σ) := by
  unfold fX6_takesSquare_b0 at h
  refine g_iload_n C.c dX6_takesSquare_0 rfl (i := 1) rfl ?_
  refine g_bipush C.c dX6_takesSquare_1 (v := (48 : Int32)) (by decide) ?_
  refine g_icmp_lt C.c (tgt := 16) dX6_takesSquare_3 (by decide) (fun c => ?_) (fun c => ?_)
  · replace h := ite_t c h
    exact g_mask [true, true, false, false] rfl (bX6_takesSquare_b16 C hQ h)
  · replace h := ite_f c h
    refine g_iload_n C.c dX6_takesSquare_6 rfl (i := 1) rfl ?_
    refine g_bipush C.c dX6_takesSquare_7 (v := (57 : Int32)) (by decide) ?_
    refine g_icmp_gt C.c (tgt := 16) dX6_takesSquare_9 (by decide) (fun c => ?_) (fun c => ?_)
    · replace h := ite_t c h
      exact g_mask [true, true, false, false] rfl (bX6_takesSquare_b16 C hQ h)
    · replace h := ite_f c h
      refine g_iconst C.c dX6_takesSquare_12 (v := (1 : Int32)) (by decide) ?_
      refine g_goto C.c (tgt := 17) dX6_takesSquare_13 (by decide) ?_
      exact g_mask [true, true, false, false] rfl (bX6_takesSquare_b17 C hQ h)
def fX6_takesSquare (a0 : Int32) (σ : Sg) : Option (Int32 × Sg) := fX6_takesSquare_b0 a0 σ
theorem ct_X6_takesSquare {a0 : Int32} {σ : Sg} {p : Int32 × Sg} (h : fX6_takesSquare a0 σ = some p) : Ct layC yX6_takesSquare cX6_takesSquare 4 (some .boolean) 1 (fun ad => [.ref (ad 1), .int a0]) σ (okI p) :=
 ct_of (L0 := fun ad => [some (.ref (ad 1)), some (.int a0), none, none]) (by decide) (fun _ => Nat.le_of_ble_eq_true rfl) (fun _ => rfl) (fun K C hQ => g_mask [true, true, false, false] rfl (bX6_takesSquare_b0 C hQ h))
-- X6_takes
theorem dX6_takes_0 : decode cX6_takes 0 = .ok (.iload_n 1, 1) := by decide +kernel
theorem dX6_takes_1 : decode cX6_takes 1 = .ok (.bipush 47, 2) := by decide +kernel
theorem dX6_takes_3 : decode cX6_takes 3 = .ok (.if_icmp .ne 8, 3) := by decide +kernel
theorem dX6_takes_6 : decode cX6_takes 6 = .ok (.aload_n 0, 1) := by decide +kernel
theorem dX6_takes_7 : decode cX6_takes 7 = .ok (.invokevirtual 47, 3) := by decide +kernel
theorem dX6_takes_10 : decode cX6_takes 10 = .ok (.ireturn, 1) := by decide +kernel
theorem dX6_takes_11 : decode cX6_takes 11 = .ok (.iload_n 1, 1) := by decide +kernel
theorem dX6_takes_12 : decode cX6_takes 12 = .ok (.invokestatic 51, 3) := by decide +kernel
theorem dX6_takes_15 : decode cX6_takes 15 = .ok (.iconst (-1), 1) := by decide +kernel
theorem dX6_takes_16 : decode cX6_takes 16 = .ok (.if_icmp .eq 15, 3) := by decide +kernel
theorem dX6_takes_19 : decode cX6_takes 19 = .ok (.aload_n 0, 1) := by decide +kernel
theorem dX6_takes_20 : decode cX6_takes 20 = .ok (.getfield 35, 3) := by decide +kernel
theorem dX6_takes_23 : decode cX6_takes 23 = .ok (.istore_n 2, 1) := by decide +kernel
theorem dX6_takes_24 : decode cX6_takes 24 = .ok (.aload_n 0, 1) := by decide +kernel
theorem dX6_takes_25 : decode cX6_takes 25 = .ok (.iconst 0, 1) := by decide +kernel
theorem dX6_takes_26 : decode cX6_takes 26 = .ok (.putfield 35, 3) := by decide +kernel
theorem dX6_takes_29 : decode cX6_takes 29 = .ok (.iload_n 2, 1) := by decide +kernel
theorem dX6_takes_30 : decode cX6_takes 30 = .ok (.ireturn, 1) := by decide +kernel
theorem dX6_takes_31 : decode cX6_takes 31 = .ok (.aload_n 0, 1) := by decide +kernel
theorem dX6_takes_32 : decode cX6_takes 32 = .ok (.iload_n 1, 1) := by decide +kernel
theorem dX6_takes_33 : decode cX6_takes 33 = .ok (.invokevirtual 57, 3) := by decide +kernel
theorem dX6_takes_36 : decode cX6_takes 36 = .ok (.ireturn, 1) := by decide +kernel
theorem cw_X6_takes : Cw yX6_takes cX6_takes 3 (some .boolean) 1 := ⟨aw_420, aw_47, ⟨by decide, by decide⟩, by decide +kernel, by decide⟩
theorem kc_6_51 {K : KT} {cc : ByteArray} {nL d pc : Nat} {ret : Option FieldType} {L : List (Option Value)} {st : List Value} {σ : Sg} (C : Cx K layC cc RX6 nL d ret)  {a0 : Int32}  {p : Int32 × Sg} (hd : decode cc pc = .ok (.invokestatic 51, 3)) (e : fX7_wayOf a0 σ = some p) (hdd : 1 + 1 ≤ d) (hLn : L.length = nL) (hr : (st.map fun v => v.category).sum ≤ 8) (k : G K (pc + 3) L (.int p.1 :: st) (Wd K layC p.2)) : G K pc L (.int a0 :: st) (Wd K layC σ) :=
  g_callS C (As := [.int a0]) (rest := st) hd (ct_X7_wayOf e) cw_X7_wayOf (Or.inl aw_425) aw_426 rfl rfl rfl hdd hLn hr (fun v τ q => by obtain ⟨rfl, rfl⟩ := q; exact k)
theorem kc_6_57 {K : KT} {cc : ByteArray} {nL d pc : Nat} {ret : Option FieldType} {L : List (Option Value)} {st : List Value} {σ : Sg} (C : Cx K layC cc RX6 nL d ret)  {a0 : Int32}  {p : Int32 × Sg} (hd : decode cc pc = .ok (.invokevirtual 57, 3)) (e : fX6_takesSquare a0 σ = some p) (hdd : 1 + 1 ≤ d) (hLn : L.length = nL) (hr : (st.map fun v => v.category).sum ≤ 8) (k : G K (pc + 3) L (.int p.1 :: st) (Wd K layC p.2)) : G K pc L (.int a0 :: .ref (kad K 1) :: st) (Wd K layC σ) :=
  g_callV C (As := [.int a0]) (rest := st) (o := 1) (ci := 6) hd (ct_X6_takesSquare e) cw_X6_takesSquare (Or.inl aw_428) aw_430 aw_2 rfl rfl rfl hdd hLn rfl rfl hr (fun v τ q => by obtain ⟨rfl, rfl⟩ := q; exact k)
theorem gf_6_35 {K : KT} {cc : ByteArray} {nL d pc : Nat} {ret : Option FieldType} {L : List (Option Value)} {st : List Value} {σ : Sg} (C : Cx K layC cc RX6 nL d ret)  (hd : decode cc pc = .ok (.getfield 35, 3)) (k : G K (pc + 3) L (.int (rI σ 1 6) :: st) (Wd K layC σ)) : G K pc L (.ref (kad K 1) :: st) (Wd K layC σ) := g_get C (o := 1) (ci := 6) (k := 6) hd rfl rfl rfl (by decide) (Or.inl aw_81) inA6 rfl k
theorem kc_6_47 {K : KT} {cc : ByteArray} {nL d pc : Nat} {ret : Option FieldType} {L : List (Option Value)} {st : List Value} {σ : Sg} (C : Cx K layC cc RX6 nL d ret)    {p : Int32 × Sg} (hd : decode cc pc = .ok (.invokevirtual 47, 3)) (e : fX6_takesRowEnd σ = some p) (hdd : 1 + 1 ≤ d) (hLn : L.length = nL) (hr : (st.map fun v => v.category).sum ≤ 8) (k : G K (pc + 3) L (.int p.1 :: st) (Wd K layC p.2)) : G K pc L (.ref (kad K 1) :: st) (Wd K layC σ) :=
  g_callV C (As := []) (rest := st) (o := 1) (ci := 6) hd (ct_X6_takesRowEnd e) cw_X6_takesRowEnd (Or.inl aw_421) aw_423 aw_1 rfl rfl rfl hdd hLn rfl rfl hr (fun v τ q => by obtain ⟨rfl, rfl⟩ := q; exact k)
def fX6_takes_b0 (x1 : Int32) (σ : Sg) : Option (Int32 × Sg) :=
  if x1 = (47 : Int32) then (Option.bind (fX6_takesRowEnd σ) fun p7 => (if isB p7.1 = true then (some (p7.1, p7.2)) else none)) else (Option.bind (fX7_wayOf x1 σ) fun p1 => (if p1.1 = (-1 : Int32) then (Option.bind (fX6_takesSquare x1 p1.2) fun p3 => (if isB p3.1 = true then (some (p3.1, p3.2)) else none)) else (if isB (rI p1.2 1 6) = true then (some ((rI p1.2 1 6), (wI p1.2 1 6 (0 : Int32)))) else none)))
set_option maxRecDepth 4000 in
theorem bX6_takes_b0 {K : KT} {x1 : Int32} {σ : Sg} {o : Int32 × Sg} (C : Cx K layC cX6_takes RX6 3 (2) (some .boolean))  (hQ : Rk K layC (okI o)) (h : fX6_takes_b0 x1 σ = some o) : G K 0 [some (.ref (kad K 1)), some (.int x1), none] [] (Wd K layC σ) := by
  unfold fX6_takes_b0 at h
  refine g_iload_n C.c dX6_takes_0 rfl (i := 1) rfl ?_
  refine g_bipush C.c dX6_takes_1 (v := (47 : Int32)) (by decide) ?_
  refine g_icmp_ne C.c (tgt := 11) dX6_takes_3 (by decide) (fun c => ?_) (fun c => ?_)
  · replace h := ite_f c h
    refine g_iload_n C.c dX6_takes_11 rfl (i := 1) rfl ?_
    obtain ⟨p1, e2, h⟩ := Option.bind_eq_some_iff.mp h
    refine kc_6_51 C dX6_takes_12 e2 (Nat.le_of_ble_eq_true rfl) rfl (Nat.le_of_ble_eq_true rfl) ?_
    refine g_iconst C.c dX6_takes_15 (v := (-1 : Int32)) (by decide) ?_
    refine g_icmp_eq C.c (tgt := 31) dX6_takes_16 (by decide) (fun c => ?_) (fun c => ?_)
    · replace h := ite_t c h
      refine g_aload_n C.c dX6_takes_31 rfl (i := 0) rfl ?_
      refine g_iload_n C.c dX6_takes_32 rfl (i := 1) rfl ?_
      obtain ⟨p3, e4, h⟩ := Option.bind_eq_some_iff.mp h
      refine kc_6_57 C dX6_takes_33 e4 (Nat.le_of_ble_eq_true rfl) rfl (Nat.le_of_ble_eq_true rfl) ?_
      obtain ⟨c5, h⟩ := chk h
      obtain rfl := Option.some.inj h
      exact g_iret C hQ dX6_takes_36 (isB_n c5) ⟨rfl, rfl⟩
    · replace h := ite_f c h
      refine g_aload_n C.c dX6_takes_19 rfl (i := 0) rfl ?_
      refine gf_6_35 C dX6_takes_20 ?_
      refine g_istore_n C.c (i := 2) (L' := [some (.ref (kad K 1)), some (.int x1), some (.int (rI p1.2 1 6))]) dX6_takes_23 rfl (Nat.le_of_ble_eq_true rfl) rfl ?_
      refine g_aload_n C.c dX6_takes_24 rfl (i := 0) rfl ?_
      refine g_iconst C.c dX6_takes_25 (v := (0 : Int32)) (by decide) ?_
      refine pf_6_35 C (by decide) dX6_takes_26 ?_
      refine g_iload_n C.c dX6_takes_29 rfl (i := 2) rfl ?_
      obtain ⟨c6, h⟩ := chk h
      obtain rfl := Option.some.inj h
      exact g_iret C hQ dX6_takes_30 (isB_n c6) ⟨rfl, rfl⟩
  · replace h := ite_t c h
    refine g_aload_n C.c dX6_takes_6 rfl (i := 0) rfl ?_
    obtain ⟨p7, e8, h⟩ := Option.bind_eq_some_iff.mp h
    refine kc_6_47 C dX6_takes_7 e8 (Nat.le_of_ble_eq_true rfl) rfl (Nat.le_of_ble_eq_true rfl) ?_
    obtain ⟨c9, h⟩ := chk h
    obtain rfl := Option.some.inj h
    exact g_iret C hQ dX6_takes_10 (isB_n c9) ⟨rfl, rfl⟩
def fX6_takes (a0 : Int32) (σ : Sg) : Option (Int32 × Sg) := fX6_takes_b0 a0 σ
theorem ct_X6_takes {a0 : Int32} {σ : Sg} {p : Int32 × Sg} (h : fX6_takes a0 σ = some p) : Ct layC yX6_takes cX6_takes 3 (some .boolean) 2 (fun ad => [.ref (ad 1), .int a0]) σ (okI p) :=
 ct_of (L0 := fun ad => [some (.ref (ad 1)), some (.int a0), none]) (by decide) (fun _ => Nat.le_of_ble_eq_true rfl) (fun _ => rfl) (fun K C hQ => g_mask [true, true, false] rfl (bX6_takes_b0 C hQ h))
-- X6_firstWrong
theorem dX6_firstWrong_0 : decode cX6_firstWrong 0 = .ok (.aload_n 0, 1) := by decide +kernel
theorem dX6_firstWrong_1 : decode cX6_firstWrong 1 = .ok (.iconst 0, 1) := by decide +kernel
theorem dX6_firstWrong_2 : decode cX6_firstWrong 2 = .ok (.putfield 23, 3) := by decide +kernel
theorem dX6_firstWrong_5 : decode cX6_firstWrong 5 = .ok (.aload_n 0, 1) := by decide +kernel
theorem dX6_firstWrong_6 : decode cX6_firstWrong 6 = .ok (.iconst 0, 1) := by decide +kernel
theorem dX6_firstWrong_7 : decode cX6_firstWrong 7 = .ok (.putfield 26, 3) := by decide +kernel
theorem dX6_firstWrong_10 : decode cX6_firstWrong 10 = .ok (.aload_n 0, 1) := by decide +kernel
theorem dX6_firstWrong_11 : decode cX6_firstWrong 11 = .ok (.iconst 0, 1) := by decide +kernel
theorem dX6_firstWrong_12 : decode cX6_firstWrong 12 = .ok (.putfield 29, 3) := by decide +kernel
theorem dX6_firstWrong_15 : decode cX6_firstWrong 15 = .ok (.aload_n 0, 1) := by decide +kernel
theorem dX6_firstWrong_16 : decode cX6_firstWrong 16 = .ok (.iconst 0, 1) := by decide +kernel
theorem dX6_firstWrong_17 : decode cX6_firstWrong 17 = .ok (.putfield 32, 3) := by decide +kernel
theorem dX6_firstWrong_20 : decode cX6_firstWrong 20 = .ok (.aload_n 0, 1) := by decide +kernel
theorem dX6_firstWrong_21 : decode cX6_firstWrong 21 = .ok (.iconst 0, 1) := by decide +kernel
theorem dX6_firstWrong_22 : decode cX6_firstWrong 22 = .ok (.putfield 35, 3) := by decide +kernel
theorem dX6_firstWrong_25 : decode cX6_firstWrong 25 = .ok (.iconst 0, 1) := by decide +kernel
theorem dX6_firstWrong_26 : decode cX6_firstWrong 26 = .ok (.istore_n 1, 1) := by decide +kernel
theorem dX6_firstWrong_27 : decode cX6_firstWrong 27 = .ok (.iload_n 1, 1) := by decide +kernel
theorem dX6_firstWrong_28 : decode cX6_firstWrong 28 = .ok (.aload_n 0, 1) := by decide +kernel
theorem dX6_firstWrong_29 : decode cX6_firstWrong 29 = .ok (.getfield 19, 3) := by decide +kernel
theorem dX6_firstWrong_32 : decode cX6_firstWrong 32 = .ok (.if_icmp .ge 24, 3) := by decide +kernel
theorem dX6_firstWrong_35 : decode cX6_firstWrong 35 = .ok (.aload_n 0, 1) := by decide +kernel
theorem dX6_firstWrong_36 : decode cX6_firstWrong 36 = .ok (.aload_n 0, 1) := by decide +kernel
theorem dX6_firstWrong_37 : decode cX6_firstWrong 37 = .ok (.getfield 11, 3) := by decide +kernel
theorem dX6_firstWrong_40 : decode cX6_firstWrong 40 = .ok (.iload_n 1, 1) := by decide +kernel
theorem dX6_firstWrong_41 : decode cX6_firstWrong 41 = .ok (.iaload, 1) := by decide +kernel
theorem dX6_firstWrong_42 : decode cX6_firstWrong 42 = .ok (.invokevirtual 39, 3) := by decide +kernel
theorem dX6_firstWrong_45 : decode cX6_firstWrong 45 = .ok (.ifCond .ne 5, 3) := by decide +kernel
theorem dX6_firstWrong_48 : decode cX6_firstWrong 48 = .ok (.iload_n 1, 1) := by decide +kernel
theorem dX6_firstWrong_49 : decode cX6_firstWrong 49 = .ok (.ireturn, 1) := by decide +kernel
theorem dX6_firstWrong_50 : decode cX6_firstWrong 50 = .ok (.iinc 1 1, 3) := by decide +kernel
theorem dX6_firstWrong_53 : decode cX6_firstWrong 53 = .ok (.goto (-26), 3) := by decide +kernel
theorem dX6_firstWrong_56 : decode cX6_firstWrong 56 = .ok (.aload_n 0, 1) := by decide +kernel
theorem dX6_firstWrong_57 : decode cX6_firstWrong 57 = .ok (.getfield 19, 3) := by decide +kernel
theorem dX6_firstWrong_60 : decode cX6_firstWrong 60 = .ok (.ireturn, 1) := by decide +kernel
theorem cw_X6_firstWrong : Cw yX6_firstWrong cX6_firstWrong 2 (some .int) 0 := ⟨aw_416, aw_47, ⟨by decide, by decide⟩, by decide +kernel, by decide⟩
theorem kc_6_39 {K : KT} {cc : ByteArray} {nL d pc : Nat} {ret : Option FieldType} {L : List (Option Value)} {st : List Value} {σ : Sg} (C : Cx K layC cc RX6 nL d ret)  {a0 : Int32}  {p : Int32 × Sg} (hd : decode cc pc = .ok (.invokevirtual 39, 3)) (e : fX6_takes a0 σ = some p) (hdd : 2 + 1 ≤ d) (hLn : L.length = nL) (hr : (st.map fun v => v.category).sum ≤ 8) (k : G K (pc + 3) L (.int p.1 :: st) (Wd K layC p.2)) : G K pc L (.int a0 :: .ref (kad K 1) :: st) (Wd K layC σ) :=
  g_callV C (As := [.int a0]) (rest := st) (o := 1) (ci := 6) hd (ct_X6_takes e) cw_X6_takes (Or.inl aw_417) aw_419 aw_0 rfl rfl rfl hdd hLn rfl rfl hr (fun v τ q => by obtain ⟨rfl, rfl⟩ := q; exact k)
def fX6_firstWrong_b27 (x1 : Int32) (σ : Sg) : Option ((Int32 × Sg) ⊕ (((Int32 × Sg) ⊕ (Sg)))) :=
  if (rI σ 1 1) ≤ x1 then (some (.inr (.inr σ))) else (if inb x1 64 = true then (Option.bind (fX6_takes (rI σ 2 (x1).toNatClampNeg) σ) fun p2 => (if p2.1 = 0 then (some (.inr (.inl (x1, p2.2)))) else (some (.inl ((x1 + (1 : Int32)), p2.2))))) else none)
def fX6_firstWrong_b0  (σ : Sg) : Option (Int32 × Sg) :=
  Option.bind (lp (fun s => fX6_firstWrong_b27 s.1 s.2) FU ((0 : Int32), (wI (wI (wI (wI (wI σ 1 2 (0 : Int32)) 1 3 (0 : Int32)) 1 4 (0 : Int32)) 1 5 (0 : Int32)) 1 6 (0 : Int32)))) (el (fun t4 => some (t4.1, t4.2)) (fun t4 => some ((rI t4 1 1), t4)))
set_option maxRecDepth 4000 in
theorem bX6_firstWrong_b27 {K : KT} {x1 : Int32} {σ : Sg} {o : (Int32 × Sg) ⊕ (((Int32 × Sg) ⊕ (Sg)))} (C : Cx K layC cX6_firstWrong RX6 2 (3) (some .int))  (hI : ∀ s' : Int32 × Sg, o = .inl s' → G K 27 [some (.ref (kad K 1)), some (.int s'.1)] [] (Wd K layC s'.2)) (hE0 : ∀ t : Int32 × Sg, o = .inr (.inl t) → G K 48 [none, some (.int t.1)] [] (Wd K layC t.2)) (hE1 : ∀ t : Sg, o = .inr (.inr t) → G K 56 [some (.ref (kad K 1)), none] [] (Wd K layC t)) (h : fX6_firstWrong_b27 x1 σ = some o) : G K 27 [some (.ref (kad K 1)), some (.int x1)] [] (Wd K layC σ) := by
  unfold fX6_firstWrong_b27 at h
  refine g_iload_n C.c dX6_firstWrong_27 rfl (i := 1) rfl ?_
  refine g_aload_n C.c dX6_firstWrong_28 rfl (i := 0) rfl ?_
  refine gf_6_19 C dX6_firstWrong_29 ?_
  refine g_icmp_ge C.c (tgt := 56) dX6_firstWrong_32 (by decide) (fun c => ?_) (fun c => ?_)
  · replace h := ite_t c h
    exact g_mask [true, false] rfl (hE1 _ (Option.some.inj h).symm)
  · replace h := ite_f c h
    refine g_aload_n C.c dX6_firstWrong_35 rfl (i := 0) rfl ?_
    refine g_aload_n C.c dX6_firstWrong_36 rfl (i := 0) rfl ?_
    refine gf_6_11 C dX6_firstWrong_37 ?_
    refine g_iload_n C.c dX6_firstWrong_40 rfl (i := 1) rfl ?_
    obtain ⟨c1, h⟩ := chk h
    refine g_iald C dX6_firstWrong_41 rfl c1 ?_
    obtain ⟨p2, e3, h⟩ := Option.bind_eq_some_iff.mp h
    refine kc_6_39 C dX6_firstWrong_42 e3 (Nat.le_of_ble_eq_true rfl) rfl (Nat.le_of_ble_eq_true rfl) ?_
    refine g_if_ne C.c (tgt := 50) dX6_firstWrong_45 (by decide) (fun c => ?_) (fun c => ?_)
    · replace h := ite_f c h
      refine g_iinc C.c (i := 1) (y := (1 : Int32)) (L' := [some (.ref (kad K 1)), some (.int (x1 + (1 : Int32)))]) dX6_firstWrong_50 rfl (by decide) (Nat.le_of_ble_eq_true rfl) rfl ?_
      refine g_goto C.c (tgt := 27) dX6_firstWrong_53 (by decide) ?_
      exact g_mask [true, true] rfl (hI _ (Option.some.inj h).symm)
    · replace h := ite_t c h
      exact g_mask [false, true] rfl (hE0 _ (Option.some.inj h).symm)
set_option maxRecDepth 4000 in
theorem bX6_firstWrong_b0 {K : KT}  {σ : Sg} {o : Int32 × Sg} (C : Cx K layC cX6_firstWrong RX6 2 (3) (some .int))  (hQ : Rk K layC (okI o)) (h : fX6_firstWrong_b0  σ = some o) : G K 0 [some (.ref (kad K 1)), none] [] (Wd K layC σ) := by
  unfold fX6_firstWrong_b0 at h
  refine g_aload_n C.c dX6_firstWrong_0 rfl (i := 0) rfl ?_
  refine g_iconst C.c dX6_firstWrong_1 (v := (0 : Int32)) (by decide) ?_
  refine pf_6_23 C dX6_firstWrong_2 ?_
  refine g_aload_n C.c dX6_firstWrong_5 rfl (i := 0) rfl ?_
  refine g_iconst C.c dX6_firstWrong_6 (v := (0 : Int32)) (by decide) ?_
  refine pf_6_26 C dX6_firstWrong_7 ?_
  refine g_aload_n C.c dX6_firstWrong_10 rfl (i := 0) rfl ?_
  refine g_iconst C.c dX6_firstWrong_11 (v := (0 : Int32)) (by decide) ?_
  refine pf_6_29 C dX6_firstWrong_12 ?_
  refine g_aload_n C.c dX6_firstWrong_15 rfl (i := 0) rfl ?_
  refine g_iconst C.c dX6_firstWrong_16 (v := (0 : Int32)) (by decide) ?_
  refine pf_6_32 C dX6_firstWrong_17 ?_
  refine g_aload_n C.c dX6_firstWrong_20 rfl (i := 0) rfl ?_
  refine g_iconst C.c dX6_firstWrong_21 (v := (0 : Int32)) (by decide) ?_
  refine pf_6_35 C (by decide) dX6_firstWrong_22 ?_
  refine g_iconst C.c dX6_firstWrong_25 (v := (0 : Int32)) (by decide) ?_
  refine g_istore_n C.c (i := 1) (L' := [some (.ref (kad K 1)), some (.int (0 : Int32))]) dX6_firstWrong_26 rfl (Nat.le_of_ble_eq_true rfl) rfl ?_
  refine g_mask [true, true] rfl ?_
  refine lp_bind (Gh := fun s => G K 27 [some (.ref (kad K 1)), some (.int s.1)] [] (Wd K layC s.2)) h (fun s o2 hf gI gE => ?_)
  refine bX6_firstWrong_b27 C gI (fun t4 e => ?_) (fun t4 e => ?_) hf
  · have h := el_l (gE _ e)
    refine g_iload_n C.c dX6_firstWrong_48 rfl (i := 1) rfl ?_
    obtain rfl := Option.some.inj h
    exact g_iret C hQ dX6_firstWrong_49 rfl ⟨rfl, rfl⟩
  · have h := el_r (gE _ e)
    refine g_aload_n C.c dX6_firstWrong_56 rfl (i := 0) rfl ?_
    refine gf_6_19 C dX6_firstWrong_57 ?_
    obtain rfl := Option.some.inj h
    exact g_iret C hQ dX6_firstWrong_60 rfl ⟨rfl, rfl⟩
def fX6_firstWrong (σ : Sg) : Option (Int32 × Sg) := fX6_firstWrong_b0 σ
theorem ct_X6_firstWrong {σ : Sg} {p : Int32 × Sg} (h : fX6_firstWrong σ = some p) : Ct layC yX6_firstWrong cX6_firstWrong 2 (some .int) 3 (fun ad => [.ref (ad 1)]) σ (okI p) :=
 ct_of (L0 := fun ad => [some (.ref (ad 1)), none]) (by decide) (fun _ => Nat.le_of_ble_eq_true rfl) (fun _ => rfl) (fun K C hQ => g_mask [true, false] rfl (bX6_firstWrong_b0 C hQ h))
-- X6_isSea
theorem dX6_isSea_0 : decode cX6_isSea 0 = .ok (.aload_n 0, 1) := by decide +kernel
theorem dX6_isSea_1 : decode cX6_isSea 1 = .ok (.invokevirtual 43, 3) := by decide +kernel
theorem dX6_isSea_4 : decode cX6_isSea 4 = .ok (.aload_n 0, 1) := by decide +kernel
theorem dX6_isSea_5 : decode cX6_isSea 5 = .ok (.getfield 19, 3) := by decide +kernel
theorem dX6_isSea_8 : decode cX6_isSea 8 = .ok (.if_icmp .ne 34, 3) := by decide +kernel
theorem dX6_isSea_11 : decode cX6_isSea 11 = .ok (.aload_n 0, 1) := by decide +kernel
theorem dX6_isSea_12 : decode cX6_isSea 12 = .ok (.getfield 23, 3) := by decide +kernel
theorem dX6_isSea_15 : decode cX6_isSea 15 = .ok (.iconst 1, 1) := by decide +kernel
theorem dX6_isSea_16 : decode cX6_isSea 16 = .ok (.if_icmp .lt 26, 3) := by decide +kernel
theorem dX6_isSea_19 : decode cX6_isSea 19 = .ok (.aload_n 0, 1) := by decide +kernel
theorem dX6_isSea_20 : decode cX6_isSea 20 = .ok (.getfield 26, 3) := by decide +kernel
theorem dX6_isSea_23 : decode cX6_isSea 23 = .ok (.aload_n 0, 1) := by decide +kernel
theorem dX6_isSea_24 : decode cX6_isSea 24 = .ok (.getfield 29, 3) := by decide +kernel
theorem dX6_isSea_27 : decode cX6_isSea 27 = .ok (.if_icmp .ne 15, 3) := by decide +kernel
theorem dX6_isSea_30 : decode cX6_isSea 30 = .ok (.aload_n 0, 1) := by decide +kernel
theorem dX6_isSea_31 : decode cX6_isSea 31 = .ok (.getfield 32, 3) := by decide +kernel
theorem dX6_isSea_34 : decode cX6_isSea 34 = .ok (.iconst 1, 1) := by decide +kernel
theorem dX6_isSea_35 : decode cX6_isSea 35 = .ok (.if_icmp .ne 7, 3) := by decide +kernel
theorem dX6_isSea_38 : decode cX6_isSea 38 = .ok (.iconst 1, 1) := by decide +kernel
theorem dX6_isSea_39 : decode cX6_isSea 39 = .ok (.goto 4, 3) := by decide +kernel
theorem dX6_isSea_42 : decode cX6_isSea 42 = .ok (.iconst 0, 1) := by decide +kernel
theorem dX6_isSea_43 : decode cX6_isSea 43 = .ok (.ireturn, 1) := by decide +kernel
theorem cw_X6_isSea : Cw yX6_isSea cX6_isSea 1 (some .boolean) 0 := ⟨aw_439, aw_47, ⟨by decide, by decide⟩, by decide +kernel, by decide⟩
theorem kc_6_43 {K : KT} {cc : ByteArray} {nL d pc : Nat} {ret : Option FieldType} {L : List (Option Value)} {st : List Value} {σ : Sg} (C : Cx K layC cc RX6 nL d ret)    {p : Int32 × Sg} (hd : decode cc pc = .ok (.invokevirtual 43, 3)) (e : fX6_firstWrong σ = some p) (hdd : 3 + 1 ≤ d) (hLn : L.length = nL) (hr : (st.map fun v => v.category).sum ≤ 8) (k : G K (pc + 3) L (.int p.1 :: st) (Wd K layC p.2)) : G K pc L (.ref (kad K 1) :: st) (Wd K layC σ) :=
  g_callV C (As := []) (rest := st) (o := 1) (ci := 6) hd (ct_X6_firstWrong e) cw_X6_firstWrong (Or.inl aw_440) aw_414 aw_415 rfl rfl rfl hdd hLn rfl rfl hr (fun v τ q => by obtain ⟨rfl, rfl⟩ := q; exact k)
def fX6_isSea_b0  (σ : Sg) : Option (Int32 × Sg) :=
  Option.bind (fX6_firstWrong σ) fun p1 => (if p1.1 = (rI p1.2 1 1) then (if (rI p1.2 1 2) < (1 : Int32) then (some ((0 : Int32), p1.2)) else (if (rI p1.2 1 3) = (rI p1.2 1 4) then (if (rI p1.2 1 5) = (1 : Int32) then (some ((1 : Int32), p1.2)) else (some ((0 : Int32), p1.2))) else (some ((0 : Int32), p1.2)))) else (some ((0 : Int32), p1.2)))
set_option maxRecDepth 4000 in
theorem bX6_isSea_b0 {K : KT}  {σ : Sg} {o : Int32 × Sg} (C : Cx K layC cX6_isSea RX6 1 (4) (some .boolean))  (hQ : Rk K layC (okI o)) (h : fX6_isSea_b0  σ = some o) : G K 0 [some (.ref (kad K 1))] [] (Wd K layC σ) := by
  unfold fX6_isSea_b0 at h
  refine g_aload_n C.c dX6_isSea_0 rfl (i := 0) rfl ?_
  obtain ⟨p1, e2, h⟩ := Option.bind_eq_some_iff.mp h
  refine kc_6_43 C dX6_isSea_1 e2 (Nat.le_of_ble_eq_true rfl) rfl (Nat.le_of_ble_eq_true rfl) ?_
  refine g_aload_n C.c dX6_isSea_4 rfl (i := 0) rfl ?_
  refine gf_6_19 C dX6_isSea_5 ?_
  refine g_icmp_ne C.c (tgt := 42) dX6_isSea_8 (by decide) (fun c => ?_) (fun c => ?_)
  · replace h := ite_f c h
    refine g_iconst C.c dX6_isSea_42 (v := (0 : Int32)) (by decide) ?_
    obtain rfl := Option.some.inj h
    exact g_iret C hQ dX6_isSea_43 rfl ⟨rfl, rfl⟩
  · replace h := ite_t c h
    refine g_aload_n C.c dX6_isSea_11 rfl (i := 0) rfl ?_
    refine gf_6_23 C dX6_isSea_12 ?_
    refine g_iconst C.c dX6_isSea_15 (v := (1 : Int32)) (by decide) ?_
    refine g_icmp_lt C.c (tgt := 42) dX6_isSea_16 (by decide) (fun c => ?_) (fun c => ?_)
    · replace h := ite_t c h
      refine g_iconst C.c dX6_isSea_42 (v := (0 : Int32)) (by decide) ?_
      obtain rfl := Option.some.inj h
      exact g_iret C hQ dX6_isSea_43 rfl ⟨rfl, rfl⟩
    · replace h := ite_f c h
      refine g_aload_n C.c dX6_isSea_19 rfl (i := 0) rfl ?_
      refine gf_6_26 C dX6_isSea_20 ?_
      refine g_aload_n C.c dX6_isSea_23 rfl (i := 0) rfl ?_
      refine gf_6_29 C dX6_isSea_24 ?_
      refine g_icmp_ne C.c (tgt := 42) dX6_isSea_27 (by decide) (fun c => ?_) (fun c => ?_)
      · replace h := ite_f c h
        refine g_iconst C.c dX6_isSea_42 (v := (0 : Int32)) (by decide) ?_
        obtain rfl := Option.some.inj h
        exact g_iret C hQ dX6_isSea_43 rfl ⟨rfl, rfl⟩
      · replace h := ite_t c h
        refine g_aload_n C.c dX6_isSea_30 rfl (i := 0) rfl ?_
        refine gf_6_32 C dX6_isSea_31 ?_
        refine g_iconst C.c dX6_isSea_34 (v := (1 : Int32)) (by decide) ?_
        refine g_icmp_ne C.c (tgt := 42) dX6_isSea_35 (by decide) (fun c => ?_) (fun c => ?_)
        · replace h := ite_f c h
          refine g_iconst C.c dX6_isSea_42 (v := (0 : Int32)) (by decide) ?_
          obtain rfl := Option.some.inj h
          exact g_iret C hQ dX6_isSea_43 rfl ⟨rfl, rfl⟩
        · replace h := ite_t c h
          refine g_iconst C.c dX6_isSea_38 (v := (1 : Int32)) (by decide) ?_
          refine g_goto C.c (tgt := 43) dX6_isSea_39 (by decide) ?_
          obtain rfl := Option.some.inj h
          exact g_iret C hQ dX6_isSea_43 rfl ⟨rfl, rfl⟩
def fX6_isSea (σ : Sg) : Option (Int32 × Sg) := fX6_isSea_b0 σ
theorem ct_X6_isSea {σ : Sg} {p : Int32 × Sg} (h : fX6_isSea σ = some p) : Ct layC yX6_isSea cX6_isSea 1 (some .boolean) 4 (fun ad => [.ref (ad 1)]) σ (okI p) :=
 ct_of (L0 := fun ad => [some (.ref (ad 1))]) (by decide) (fun _ => Nat.le_of_ble_eq_true rfl) (fun _ => rfl) (fun K C hQ => g_mask [true] rfl (bX6_isSea_b0 C hQ h))
-- X7_has
theorem dX7_has_0 : decode cX7_has 0 = .ok (.iload_n 1, 1) := by decide +kernel
theorem dX7_has_1 : decode cX7_has 1 = .ok (.ifCond .lt 15, 3) := by decide +kernel
theorem dX7_has_4 : decode cX7_has 4 = .ok (.iload_n 1, 1) := by decide +kernel
theorem dX7_has_5 : decode cX7_has 5 = .ok (.aload_n 0, 1) := by decide +kernel
theorem dX7_has_6 : decode cX7_has 6 = .ok (.getfield 29, 3) := by decide +kernel
theorem dX7_has_9 : decode cX7_has 9 = .ok (.if_icmp .ge 7, 3) := by decide +kernel
theorem dX7_has_12 : decode cX7_has 12 = .ok (.iconst 1, 1) := by decide +kernel
theorem dX7_has_13 : decode cX7_has 13 = .ok (.goto 4, 3) := by decide +kernel
theorem dX7_has_16 : decode cX7_has 16 = .ok (.iconst 0, 1) := by decide +kernel
theorem dX7_has_17 : decode cX7_has 17 = .ok (.ireturn, 1) := by decide +kernel
theorem cw_X7_has : Cw yX7_has cX7_has 2 (some .boolean) 1 := ⟨aw_486, aw_49, ⟨by decide, by decide⟩, by decide +kernel, by decide⟩
theorem gf_7_29 {K : KT} {cc : ByteArray} {nL d pc : Nat} {ret : Option FieldType} {L : List (Option Value)} {st : List Value} {σ : Sg} (C : Cx K layC cc RX7 nL d ret)  (hd : decode cc pc = .ok (.getfield 29, 3)) (k : G K (pc + 3) L (.int (rI σ 4 5) :: st) (Wd K layC σ)) : G K pc L (.ref (kad K 4) :: st) (Wd K layC σ) := g_get C (o := 4) (ci := 7) (k := 5) hd rfl rfl rfl (by decide) (Or.inl aw_124) inA7 rfl k
def fX7_has_b0 (x1 : Int32) (σ : Sg) : Option (Int32 × Sg) :=
  if x1 < 0 then (some ((0 : Int32), σ)) else (if (rI σ 4 5) ≤ x1 then (some ((0 : Int32), σ)) else (some ((1 : Int32), σ)))
set_option maxRecDepth 4000 in
theorem bX7_has_b0 {K : KT} {x1 : Int32} {σ : Sg} {o : Int32 × Sg} (C : Cx K layC cX7_has RX7 2 (1) (some .boolean))  (hQ : Rk K layC (okI o)) (h : fX7_has_b0 x1 σ = some o) : G K 0 [some (.ref (kad K 4)), some (.int x1)] [] (Wd K layC σ) := by
  unfold fX7_has_b0 at h
  refine g_iload_n C.c dX7_has_0 rfl (i := 1) rfl ?_
  refine g_if_lt C.c (tgt := 16) dX7_has_1 (by decide) (fun c => ?_) (fun c => ?_)
  · replace h := ite_t c h
    refine g_iconst C.c dX7_has_16 (v := (0 : Int32)) (by decide) ?_
    obtain rfl := Option.some.inj h
    exact g_iret C hQ dX7_has_17 rfl ⟨rfl, rfl⟩
  · replace h := ite_f c h
    refine g_iload_n C.c dX7_has_4 rfl (i := 1) rfl ?_
    refine g_aload_n C.c dX7_has_5 rfl (i := 0) rfl ?_
    refine gf_7_29 C dX7_has_6 ?_
    refine g_icmp_ge C.c (tgt := 16) dX7_has_9 (by decide) (fun c => ?_) (fun c => ?_)
    · replace h := ite_t c h
      refine g_iconst C.c dX7_has_16 (v := (0 : Int32)) (by decide) ?_
      obtain rfl := Option.some.inj h
      exact g_iret C hQ dX7_has_17 rfl ⟨rfl, rfl⟩
    · replace h := ite_f c h
      refine g_iconst C.c dX7_has_12 (v := (1 : Int32)) (by decide) ?_
      refine g_goto C.c (tgt := 17) dX7_has_13 (by decide) ?_
      obtain rfl := Option.some.inj h
      exact g_iret C hQ dX7_has_17 rfl ⟨rfl, rfl⟩
def fX7_has (a0 : Int32) (σ : Sg) : Option (Int32 × Sg) := fX7_has_b0 a0 σ
theorem ct_X7_has {a0 : Int32} {σ : Sg} {p : Int32 × Sg} (h : fX7_has a0 σ = some p) : Ct layC yX7_has cX7_has 2 (some .boolean) 1 (fun ad => [.ref (ad 4), .int a0]) σ (okI p) :=
 ct_of (L0 := fun ad => [some (.ref (ad 4)), some (.int a0)]) (by decide) (fun _ => Nat.le_of_ble_eq_true rfl) (fun _ => rfl) (fun K C hQ => g_mask [true, true] rfl (bX7_has_b0 C hQ h))
-- X7_hasWarmth
theorem dX7_hasWarmth_0 : decode cX7_hasWarmth 0 = .ok (.aload_n 0, 1) := by decide +kernel
theorem dX7_hasWarmth_1 : decode cX7_hasWarmth 1 = .ok (.iload_n 1, 1) := by decide +kernel
theorem dX7_hasWarmth_2 : decode cX7_hasWarmth 2 = .ok (.invokevirtual 33, 3) := by decide +kernel
theorem dX7_hasWarmth_5 : decode cX7_hasWarmth 5 = .ok (.ifCond .eq 18, 3) := by decide +kernel
theorem dX7_hasWarmth_8 : decode cX7_hasWarmth 8 = .ok (.aload_n 0, 1) := by decide +kernel
theorem dX7_hasWarmth_9 : decode cX7_hasWarmth 9 = .ok (.getfield 11, 3) := by decide +kernel
theorem dX7_hasWarmth_12 : decode cX7_hasWarmth 12 = .ok (.iload_n 1, 1) := by decide +kernel
theorem dX7_hasWarmth_13 : decode cX7_hasWarmth 13 = .ok (.iaload, 1) := by decide +kernel
theorem dX7_hasWarmth_14 : decode cX7_hasWarmth 14 = .ok (.bipush 10, 2) := by decide +kernel
theorem dX7_hasWarmth_16 : decode cX7_hasWarmth 16 = .ok (.if_icmp .ge 7, 3) := by decide +kernel
theorem dX7_hasWarmth_19 : decode cX7_hasWarmth 19 = .ok (.iconst 1, 1) := by decide +kernel
theorem dX7_hasWarmth_20 : decode cX7_hasWarmth 20 = .ok (.goto 4, 3) := by decide +kernel
theorem dX7_hasWarmth_23 : decode cX7_hasWarmth 23 = .ok (.iconst 0, 1) := by decide +kernel
theorem dX7_hasWarmth_24 : decode cX7_hasWarmth 24 = .ok (.ireturn, 1) := by decide +kernel
theorem cw_X7_hasWarmth : Cw yX7_hasWarmth cX7_hasWarmth 2 (some .boolean) 1 := ⟨aw_497, aw_49, ⟨by decide, by decide⟩, by decide +kernel, by decide⟩
theorem kc_7_33 {K : KT} {cc : ByteArray} {nL d pc : Nat} {ret : Option FieldType} {L : List (Option Value)} {st : List Value} {σ : Sg} (C : Cx K layC cc RX7 nL d ret)  {a0 : Int32}  {p : Int32 × Sg} (hd : decode cc pc = .ok (.invokevirtual 33, 3)) (e : fX7_has a0 σ = some p) (hdd : 1 + 1 ≤ d) (hLn : L.length = nL) (hr : (st.map fun v => v.category).sum ≤ 8) (k : G K (pc + 3) L (.int p.1 :: st) (Wd K layC p.2)) : G K pc L (.int a0 :: .ref (kad K 4) :: st) (Wd K layC σ) :=
  g_callV C (As := [.int a0]) (rest := st) (o := 4) (ci := 7) hd (ct_X7_has e) cw_X7_has (Or.inl aw_498) aw_484 aw_485 rfl rfl rfl hdd hLn rfl rfl hr (fun v τ q => by obtain ⟨rfl, rfl⟩ := q; exact k)
theorem gf_7_11 {K : KT} {cc : ByteArray} {nL d pc : Nat} {ret : Option FieldType} {L : List (Option Value)} {st : List Value} {σ : Sg} (C : Cx K layC cc RX7 nL d ret)  (hd : decode cc pc = .ok (.getfield 11, 3)) (k : G K (pc + 3) L (.ref (kad K 5) :: st) (Wd K layC σ)) : G K pc L (.ref (kad K 4) :: st) (Wd K layC σ) := g_get C (o := 4) (ci := 7) (k := 0) hd rfl rfl rfl (by decide) (Or.inl aw_112) inA7 rfl k
def fX7_hasWarmth_b0 (x1 : Int32) (σ : Sg) : Option (Int32 × Sg) :=
  Option.bind (fX7_has x1 σ) fun p1 => (if p1.1 = 0 then (some ((0 : Int32), p1.2)) else (if inb x1 30 = true then (if (10 : Int32) ≤ (rI p1.2 5 (x1).toNatClampNeg) then (some ((0 : Int32), p1.2)) else (some ((1 : Int32), p1.2))) else none))
set_option maxRecDepth 4000 in
theorem bX7_hasWarmth_b0 {K : KT} {x1 : Int32} {σ : Sg} {o : Int32 × Sg} (C : Cx K layC cX7_hasWarmth RX7 2 (2) (some .boolean))  (hQ : Rk K layC (okI o)) (h : fX7_hasWarmth_b0 x1 σ = some o) : G K 0 [some (.ref (kad K 4)), some (.int x1)] [] (Wd K layC σ) := by
  unfold fX7_hasWarmth_b0 at h
  refine g_aload_n C.c dX7_hasWarmth_0 rfl (i := 0) rfl ?_
  refine g_iload_n C.c dX7_hasWarmth_1 rfl (i := 1) rfl ?_
  obtain ⟨p1, e2, h⟩ := Option.bind_eq_some_iff.mp h
  refine kc_7_33 C dX7_hasWarmth_2 e2 (Nat.le_of_ble_eq_true rfl) rfl (Nat.le_of_ble_eq_true rfl) ?_
  refine g_if_eq C.c (tgt := 23) dX7_hasWarmth_5 (by decide) (fun c => ?_) (fun c => ?_)
  · replace h := ite_t c h
    refine g_iconst C.c dX7_hasWarmth_23 (v := (0 : Int32)) (by decide) ?_
    obtain rfl := Option.some.inj h
    exact g_iret C hQ dX7_hasWarmth_24 rfl ⟨rfl, rfl⟩
  · replace h := ite_f c h
    refine g_aload_n C.c dX7_hasWarmth_8 rfl (i := 0) rfl ?_
    refine gf_7_11 C dX7_hasWarmth_9 ?_
    refine g_iload_n C.c dX7_hasWarmth_12 rfl (i := 1) rfl ?_
    obtain ⟨c3, h⟩ := chk h
    refine g_iald C dX7_hasWarmth_13 rfl c3 ?_
    refine g_bipush C.c dX7_hasWarmth_14 (v := (10 : Int32)) (by decide) ?_
    refine g_icmp_ge C.c (tgt := 23) dX7_hasWarmth_16 (by decide) (fun c => ?_) (fun c => ?_)
    · replace h := ite_t c h
      refine g_iconst C.c dX7_hasWarmth_23 (v := (0 : Int32)) (by decide) ?_
      obtain rfl := Option.some.inj h
      exact g_iret C hQ dX7_hasWarmth_24 rfl ⟨rfl, rfl⟩
    · replace h := ite_f c h
      refine g_iconst C.c dX7_hasWarmth_19 (v := (1 : Int32)) (by decide) ?_
      refine g_goto C.c (tgt := 24) dX7_hasWarmth_20 (by decide) ?_
      obtain rfl := Option.some.inj h
      exact g_iret C hQ dX7_hasWarmth_24 rfl ⟨rfl, rfl⟩
def fX7_hasWarmth (a0 : Int32) (σ : Sg) : Option (Int32 × Sg) := fX7_hasWarmth_b0 a0 σ
theorem ct_X7_hasWarmth {a0 : Int32} {σ : Sg} {p : Int32 × Sg} (h : fX7_hasWarmth a0 σ = some p) : Ct layC yX7_hasWarmth cX7_hasWarmth 2 (some .boolean) 2 (fun ad => [.ref (ad 4), .int a0]) σ (okI p) :=
 ct_of (L0 := fun ad => [some (.ref (ad 4)), some (.int a0)]) (by decide) (fun _ => Nat.le_of_ble_eq_true rfl) (fun _ => rfl) (fun K C hQ => g_mask [true, true] rfl (bX7_hasWarmth_b0 C hQ h))
-- X7_layLetter
theorem dX7_layLetter_0 : decode cX7_layLetter 0 = .ok (.iload_n 1, 1) := by decide +kernel
theorem dX7_layLetter_1 : decode cX7_layLetter 1 = .ok (.invokestatic 61, 3) := by decide +kernel
theorem dX7_layLetter_4 : decode cX7_layLetter 4 = .ok (.istore_n 2, 1) := by decide +kernel
theorem dX7_layLetter_5 : decode cX7_layLetter 5 = .ok (.iload_n 1, 1) := by decide +kernel
theorem dX7_layLetter_6 : decode cX7_layLetter 6 = .ok (.bipush 47, 2) := by decide +kernel
theorem dX7_layLetter_8 : decode cX7_layLetter 8 = .ok (.if_icmp .ne 28, 3) := by decide +kernel
theorem dX7_layLetter_11 : decode cX7_layLetter 11 = .ok (.aload_n 0, 1) := by decide +kernel
theorem dX7_layLetter_12 : decode cX7_layLetter 12 = .ok (.aload_n 0, 1) := by decide +kernel
theorem dX7_layLetter_13 : decode cX7_layLetter 13 = .ok (.getfield 37, 3) := by decide +kernel
theorem dX7_layLetter_16 : decode cX7_layLetter 16 = .ok (.ifCond .ne 10, 3) := by decide +kernel
theorem dX7_layLetter_19 : decode cX7_layLetter 19 = .ok (.aload_n 0, 1) := by decide +kernel
theorem dX7_layLetter_20 : decode cX7_layLetter 20 = .ok (.getfield 29, 3) := by decide +kernel
theorem dX7_layLetter_23 : decode cX7_layLetter 23 = .ok (.goto 7, 3) := by decide +kernel
theorem dX7_layLetter_26 : decode cX7_layLetter 26 = .ok (.aload_n 0, 1) := by decide +kernel
theorem dX7_layLetter_27 : decode cX7_layLetter 27 = .ok (.getfield 37, 3) := by decide +kernel
theorem dX7_layLetter_30 : decode cX7_layLetter 30 = .ok (.putfield 37, 3) := by decide +kernel
theorem dX7_layLetter_33 : decode cX7_layLetter 33 = .ok (.goto 115, 3) := by decide +kernel
theorem dX7_layLetter_36 : decode cX7_layLetter 36 = .ok (.iload_n 2, 1) := by decide +kernel
theorem dX7_layLetter_37 : decode cX7_layLetter 37 = .ok (.iconst (-1), 1) := by decide +kernel
theorem dX7_layLetter_38 : decode cX7_layLetter 38 = .ok (.if_icmp .eq 25, 3) := by decide +kernel
theorem dX7_layLetter_41 : decode cX7_layLetter 41 = .ok (.aload_n 0, 1) := by decide +kernel
theorem dX7_layLetter_42 : decode cX7_layLetter 42 = .ok (.getfield 29, 3) := by decide +kernel
theorem dX7_layLetter_45 : decode cX7_layLetter 45 = .ok (.ifCond .le 103, 3) := by decide +kernel
theorem dX7_layLetter_48 : decode cX7_layLetter 48 = .ok (.aload_n 0, 1) := by decide +kernel
theorem dX7_layLetter_49 : decode cX7_layLetter 49 = .ok (.getfield 15, 3) := by decide +kernel
theorem dX7_layLetter_52 : decode cX7_layLetter 52 = .ok (.aload_n 0, 1) := by decide +kernel
theorem dX7_layLetter_53 : decode cX7_layLetter 53 = .ok (.getfield 29, 3) := by decide +kernel
theorem dX7_layLetter_56 : decode cX7_layLetter 56 = .ok (.iconst 1, 1) := by decide +kernel
theorem dX7_layLetter_57 : decode cX7_layLetter 57 = .ok (.isub, 1) := by decide +kernel
theorem dX7_layLetter_58 : decode cX7_layLetter 58 = .ok (.iload_n 2, 1) := by decide +kernel
theorem dX7_layLetter_59 : decode cX7_layLetter 59 = .ok (.iastore, 1) := by decide +kernel
theorem dX7_layLetter_60 : decode cX7_layLetter 60 = .ok (.goto 88, 3) := by decide +kernel
theorem dX7_layLetter_63 : decode cX7_layLetter 63 = .ok (.aload_n 0, 1) := by decide +kernel
theorem dX7_layLetter_64 : decode cX7_layLetter 64 = .ok (.getfield 29, 3) := by decide +kernel
theorem dX7_layLetter_67 : decode cX7_layLetter 67 = .ok (.bipush 30, 2) := by decide +kernel
theorem dX7_layLetter_69 : decode cX7_layLetter 69 = .ok (.if_icmp .ge 79, 3) := by decide +kernel
theorem dX7_layLetter_72 : decode cX7_layLetter 72 = .ok (.aload_n 0, 1) := by decide +kernel
theorem dX7_layLetter_73 : decode cX7_layLetter 73 = .ok (.getfield 11, 3) := by decide +kernel
theorem dX7_layLetter_76 : decode cX7_layLetter 76 = .ok (.aload_n 0, 1) := by decide +kernel
theorem dX7_layLetter_77 : decode cX7_layLetter 77 = .ok (.getfield 29, 3) := by decide +kernel
theorem dX7_layLetter_80 : decode cX7_layLetter 80 = .ok (.iload_n 1, 1) := by decide +kernel
theorem dX7_layLetter_81 : decode cX7_layLetter 81 = .ok (.bipush 35, 2) := by decide +kernel
theorem dX7_layLetter_83 : decode cX7_layLetter 83 = .ok (.if_icmp .ne 8, 3) := by decide +kernel
theorem dX7_layLetter_86 : decode cX7_layLetter 86 = .ok (.bipush 11, 2) := by decide +kernel
theorem dX7_layLetter_88 : decode cX7_layLetter 88 = .ok (.goto 18, 3) := by decide +kernel
theorem dX7_layLetter_91 : decode cX7_layLetter 91 = .ok (.iload_n 1, 1) := by decide +kernel
theorem dX7_layLetter_92 : decode cX7_layLetter 92 = .ok (.bipush 104, 2) := by decide +kernel
theorem dX7_layLetter_94 : decode cX7_layLetter 94 = .ok (.if_icmp .ne 8, 3) := by decide +kernel
theorem dX7_layLetter_97 : decode cX7_layLetter 97 = .ok (.bipush 10, 2) := by decide +kernel
theorem dX7_layLetter_99 : decode cX7_layLetter 99 = .ok (.goto 7, 3) := by decide +kernel
theorem dX7_layLetter_102 : decode cX7_layLetter 102 = .ok (.iload_n 1, 1) := by decide +kernel
theorem dX7_layLetter_103 : decode cX7_layLetter 103 = .ok (.bipush 48, 2) := by decide +kernel
theorem dX7_layLetter_105 : decode cX7_layLetter 105 = .ok (.isub, 1) := by decide +kernel
theorem dX7_layLetter_106 : decode cX7_layLetter 106 = .ok (.iastore, 1) := by decide +kernel
theorem dX7_layLetter_107 : decode cX7_layLetter 107 = .ok (.aload_n 0, 1) := by decide +kernel
theorem dX7_layLetter_108 : decode cX7_layLetter 108 = .ok (.getfield 15, 3) := by decide +kernel
theorem dX7_layLetter_111 : decode cX7_layLetter 111 = .ok (.aload_n 0, 1) := by decide +kernel
theorem dX7_layLetter_112 : decode cX7_layLetter 112 = .ok (.getfield 29, 3) := by decide +kernel
theorem dX7_layLetter_115 : decode cX7_layLetter 115 = .ok (.iconst (-1), 1) := by decide +kernel
theorem dX7_layLetter_116 : decode cX7_layLetter 116 = .ok (.iastore, 1) := by decide +kernel
theorem dX7_layLetter_117 : decode cX7_layLetter 117 = .ok (.aload_n 0, 1) := by decide +kernel
theorem dX7_layLetter_118 : decode cX7_layLetter 118 = .ok (.iload_n 1, 1) := by decide +kernel
theorem dX7_layLetter_119 : decode cX7_layLetter 119 = .ok (.bipush 104, 2) := by decide +kernel
theorem dX7_layLetter_121 : decode cX7_layLetter 121 = .ok (.if_icmp .ne 10, 3) := by decide +kernel
theorem dX7_layLetter_124 : decode cX7_layLetter 124 = .ok (.aload_n 0, 1) := by decide +kernel
theorem dX7_layLetter_125 : decode cX7_layLetter 125 = .ok (.getfield 29, 3) := by decide +kernel
theorem dX7_layLetter_128 : decode cX7_layLetter 128 = .ok (.goto 7, 3) := by decide +kernel
theorem dX7_layLetter_131 : decode cX7_layLetter 131 = .ok (.aload_n 0, 1) := by decide +kernel
theorem dX7_layLetter_132 : decode cX7_layLetter 132 = .ok (.getfield 64, 3) := by decide +kernel
theorem dX7_layLetter_135 : decode cX7_layLetter 135 = .ok (.putfield 64, 3) := by decide +kernel
theorem dX7_layLetter_138 : decode cX7_layLetter 138 = .ok (.aload_n 0, 1) := by decide +kernel
theorem dX7_layLetter_139 : decode cX7_layLetter 139 = .ok (.dup, 1) := by decide +kernel
theorem dX7_layLetter_140 : decode cX7_layLetter 140 = .ok (.getfield 29, 3) := by decide +kernel
theorem dX7_layLetter_143 : decode cX7_layLetter 143 = .ok (.iconst 1, 1) := by decide +kernel
theorem dX7_layLetter_144 : decode cX7_layLetter 144 = .ok (.iadd, 1) := by decide +kernel
theorem dX7_layLetter_145 : decode cX7_layLetter 145 = .ok (.putfield 29, 3) := by decide +kernel
theorem dX7_layLetter_148 : decode cX7_layLetter 148 = .ok (.return_, 1) := by decide +kernel
theorem cw_X7_layLetter : Cw yX7_layLetter cX7_layLetter 3 none 1 := ⟨aw_452, aw_49, ⟨by decide, by decide⟩, by decide +kernel, by decide⟩
theorem kc_7_61 {K : KT} {cc : ByteArray} {nL d pc : Nat} {ret : Option FieldType} {L : List (Option Value)} {st : List Value} {σ : Sg} (C : Cx K layC cc RX7 nL d ret)  {a0 : Int32}  {p : Int32 × Sg} (hd : decode cc pc = .ok (.invokestatic 61, 3)) (e : fX7_wayOf a0 σ = some p) (hdd : 1 + 1 ≤ d) (hLn : L.length = nL) (hr : (st.map fun v => v.category).sum ≤ 8) (k : G K (pc + 3) L (.int p.1 :: st) (Wd K layC p.2)) : G K pc L (.int a0 :: st) (Wd K layC σ) :=
  g_callS C (As := [.int a0]) (rest := st) hd (ct_X7_wayOf e) cw_X7_wayOf (Or.inl aw_453) aw_426 rfl rfl rfl hdd hLn hr (fun v τ q => by obtain ⟨rfl, rfl⟩ := q; exact k)
theorem gf_7_15 {K : KT} {cc : ByteArray} {nL d pc : Nat} {ret : Option FieldType} {L : List (Option Value)} {st : List Value} {σ : Sg} (C : Cx K layC cc RX7 nL d ret)  (hd : decode cc pc = .ok (.getfield 15, 3)) (k : G K (pc + 3) L (.ref (kad K 6) :: st) (Wd K layC σ)) : G K pc L (.ref (kad K 4) :: st) (Wd K layC σ) := g_get C (o := 4) (ci := 7) (k := 1) hd rfl rfl rfl (by decide) (Or.inl aw_115) inA7 rfl k
theorem gf_7_64 {K : KT} {cc : ByteArray} {nL d pc : Nat} {ret : Option FieldType} {L : List (Option Value)} {st : List Value} {σ : Sg} (C : Cx K layC cc RX7 nL d ret)  (hd : decode cc pc = .ok (.getfield 64, 3)) (k : G K (pc + 3) L (.int (rI σ 4 7) :: st) (Wd K layC σ)) : G K pc L (.ref (kad K 4) :: st) (Wd K layC σ) := g_get C (o := 4) (ci := 7) (k := 7) hd rfl rfl rfl (by decide) (Or.inl aw_128) inA7 rfl k
theorem pf_7_64 {K : KT} {cc : ByteArray} {nL d pc : Nat} {ret : Option FieldType} {L : List (Option Value)} {st : List Value} {σ : Sg} (C : Cx K layC cc RX7 nL d ret)  {v : Int32}  (hd : decode cc pc = .ok (.putfield 64, 3)) (k : G K (pc + 3) L st (Wd K layC (wI σ 4 7 v))) : G K pc L (.int v :: .ref (kad K 4) :: st) (Wd K layC σ) := g_putI C (o := 4) (ci := 7) (k := 7) hd rfl rfl rfl (by decide) (Or.inl aw_128) inA7 tyX7_ok nmX7 rfl rfl rfl k
theorem pf_7_29 {K : KT} {cc : ByteArray} {nL d pc : Nat} {ret : Option FieldType} {L : List (Option Value)} {st : List Value} {σ : Sg} (C : Cx K layC cc RX7 nL d ret)  {v : Int32}  (hd : decode cc pc = .ok (.putfield 29, 3)) (k : G K (pc + 3) L st (Wd K layC (wI σ 4 5 v))) : G K pc L (.int v :: .ref (kad K 4) :: st) (Wd K layC σ) := g_putI C (o := 4) (ci := 7) (k := 5) hd rfl rfl rfl (by decide) (Or.inl aw_124) inA7 tyX7_ok nmX7 rfl rfl rfl k
theorem gf_7_37 {K : KT} {cc : ByteArray} {nL d pc : Nat} {ret : Option FieldType} {L : List (Option Value)} {st : List Value} {σ : Sg} (C : Cx K layC cc RX7 nL d ret)  (hd : decode cc pc = .ok (.getfield 37, 3)) (k : G K (pc + 3) L (.int (rI σ 4 6) :: st) (Wd K layC σ)) : G K pc L (.ref (kad K 4) :: st) (Wd K layC σ) := g_get C (o := 4) (ci := 7) (k := 6) hd rfl rfl rfl (by decide) (Or.inl aw_126) inA7 rfl k
theorem pf_7_37 {K : KT} {cc : ByteArray} {nL d pc : Nat} {ret : Option FieldType} {L : List (Option Value)} {st : List Value} {σ : Sg} (C : Cx K layC cc RX7 nL d ret)  {v : Int32}  (hd : decode cc pc = .ok (.putfield 37, 3)) (k : G K (pc + 3) L st (Wd K layC (wI σ 4 6 v))) : G K pc L (.int v :: .ref (kad K 4) :: st) (Wd K layC σ) := g_putI C (o := 4) (ci := 7) (k := 6) hd rfl rfl rfl (by decide) (Or.inl aw_126) inA7 tyX7_ok nmX7 rfl rfl rfl k
def fX7_layLetter_b135 (y0 : Int32) (σ : Sg) : Option (Sg) :=
  some (wI (wI σ 4 7 y0) 4 5 ((rI (wI σ 4 7 y0) 4 5) + (1 : Int32)))
def fX7_layLetter_b106 (x1 : Int32) (y0 : Int32) (y1 : Int32) (σ : Sg) : Option (Sg) :=
  if inb y1 30 = true then (if inb (rI (wI σ 5 (y1).toNatClampNeg y0) 4 5) 30 = true then (if x1 = (104 : Int32) then (fX7_layLetter_b135 (rI (wI (wI σ 5 (y1).toNatClampNeg y0) 6 ((rI (wI σ 5 (y1).toNatClampNeg y0) 4 5)).toNatClampNeg (-1 : Int32)) 4 5) (wI (wI σ 5 (y1).toNatClampNeg y0) 6 ((rI (wI σ 5 (y1).toNatClampNeg y0) 4 5)).toNatClampNeg (-1 : Int32))) else (fX7_layLetter_b135 (rI (wI (wI σ 5 (y1).toNatClampNeg y0) 6 ((rI (wI σ 5 (y1).toNatClampNeg y0) 4 5)).toNatClampNeg (-1 : Int32)) 4 7) (wI (wI σ 5 (y1).toNatClampNeg y0) 6 ((rI (wI σ 5 (y1).toNatClampNeg y0) 4 5)).toNatClampNeg (-1 : Int32)))) else none) else none
def fX7_layLetter_b30 (y0 : Int32) (σ : Sg) : Option (Sg) :=
  some (wI σ 4 6 y0)
def fX7_layLetter_b0 (x1 : Int32) (σ : Sg) : Option (Sg) :=
  Option.bind (fX7_wayOf x1 σ) fun p1 => (if x1 = (47 : Int32) then (if (rI p1.2 4 6) = 0 then (fX7_layLetter_b30 (rI p1.2 4 5) p1.2) else (fX7_layLetter_b30 (rI p1.2 4 6) p1.2)) else (if p1.1 = (-1 : Int32) then (if (30 : Int32) ≤ (rI p1.2 4 5) then (some p1.2) else (if x1 = (35 : Int32) then (fX7_layLetter_b106 x1 (11 : Int32) (rI p1.2 4 5) p1.2) else (if x1 = (104 : Int32) then (fX7_layLetter_b106 x1 (10 : Int32) (rI p1.2 4 5) p1.2) else (fX7_layLetter_b106 x1 (x1 - (48 : Int32)) (rI p1.2 4 5) p1.2)))) else (if (rI p1.2 4 5) ≤ 0 then (some p1.2) else (if inb ((rI p1.2 4 5) - (1 : Int32)) 30 = true then (some (wI p1.2 6 (((rI p1.2 4 5) - (1 : Int32))).toNatClampNeg p1.1)) else none))))
set_option maxRecDepth 4000 in
theorem bX7_layLetter_b135 {K : KT} {y0 : Int32} {σ : Sg} {o : Sg} (C : Cx K layC cX7_layLetter RX7 3 (2) none)  (hQ : Rk K layC (okV o)) (h : fX7_layLetter_b135 y0 σ = some o) : G K 135 [some (.ref (kad K 4)), none, none] [.int y0, .ref (kad K 4)] (Wd K layC σ) := by
  unfold fX7_layLetter_b135 at h
  refine pf_7_64 C dX7_layLetter_135 ?_
  refine g_aload_n C.c dX7_layLetter_138 rfl (i := 0) rfl ?_
  refine g_dup C.c dX7_layLetter_139 rfl ?_
  refine gf_7_29 C dX7_layLetter_140 ?_
  refine g_iconst C.c dX7_layLetter_143 (v := (1 : Int32)) (by decide) ?_
  refine g_iadd C.c dX7_layLetter_144 ?_
  refine pf_7_29 C dX7_layLetter_145 ?_
  obtain rfl := Option.some.inj h
  exact g_vret C hQ dX7_layLetter_148 ⟨rfl, rfl⟩
set_option maxRecDepth 4000 in
theorem bX7_layLetter_b106 {K : KT} {x1 : Int32} {y0 : Int32} {y1 : Int32} {σ : Sg} {o : Sg} (C : Cx K layC cX7_layLetter RX7 3 (2) none)  (hQ : Rk K layC (okV o)) (h : fX7_layLetter_b106 x1 y0 y1 σ = some o) : G K 106 [some (.ref (kad K 4)), some (.int x1), none] [.int y0, .int y1, .ref (kad K 5)] (Wd K layC σ) := by
  unfold fX7_layLetter_b106 at h
  obtain ⟨c3, h⟩ := chk h
  refine g_iast C dX7_layLetter_106 rfl c3 ?_
  refine g_aload_n C.c dX7_layLetter_107 rfl (i := 0) rfl ?_
  refine gf_7_15 C dX7_layLetter_108 ?_
  refine g_aload_n C.c dX7_layLetter_111 rfl (i := 0) rfl ?_
  refine gf_7_29 C dX7_layLetter_112 ?_
  refine g_iconst C.c dX7_layLetter_115 (v := (-1 : Int32)) (by decide) ?_
  obtain ⟨c4, h⟩ := chk h
  refine g_iast C dX7_layLetter_116 rfl c4 ?_
  refine g_aload_n C.c dX7_layLetter_117 rfl (i := 0) rfl ?_
  refine g_iload_n C.c dX7_layLetter_118 rfl (i := 1) rfl ?_
  refine g_bipush C.c dX7_layLetter_119 (v := (104 : Int32)) (by decide) ?_
  refine g_icmp_ne C.c (tgt := 131) dX7_layLetter_121 (by decide) (fun c => ?_) (fun c => ?_)
  · replace h := ite_f c h
    refine g_aload_n C.c dX7_layLetter_131 rfl (i := 0) rfl ?_
    refine gf_7_64 C dX7_layLetter_132 ?_
    exact g_mask [true, false, false] rfl (bX7_layLetter_b135 C hQ h)
  · replace h := ite_t c h
    refine g_aload_n C.c dX7_layLetter_124 rfl (i := 0) rfl ?_
    refine gf_7_29 C dX7_layLetter_125 ?_
    refine g_goto C.c (tgt := 135) dX7_layLetter_128 (by decide) ?_
    exact g_mask [true, false, false] rfl (bX7_layLetter_b135 C hQ h)
set_option maxRecDepth 4000 in
theorem bX7_layLetter_b30 {K : KT} {y0 : Int32} {σ : Sg} {o : Sg} (C : Cx K layC cX7_layLetter RX7 3 (2) none)  (hQ : Rk K layC (okV o)) (h : fX7_layLetter_b30 y0 σ = some o) : G K 30 [none, none, none] [.int y0, .ref (kad K 4)] (Wd K layC σ) := by
  unfold fX7_layLetter_b30 at h
  refine pf_7_37 C dX7_layLetter_30 ?_
  refine g_goto C.c (tgt := 148) dX7_layLetter_33 (by decide) ?_
  obtain rfl := Option.some.inj h
  exact g_vret C hQ dX7_layLetter_148 ⟨rfl, rfl⟩
set_option maxRecDepth 4000 in
theorem bX7_layLetter_b0 {K : KT} {x1 : Int32} {σ : Sg} {o : Sg} (C : Cx K layC cX7_layLetter RX7 3 (2) none)  (hQ : Rk K layC (okV o)) (h : fX7_layLetter_b0 x1 σ = some o) : G K 0 [some (.ref (kad K 4)), some (.int x1), none] [] (Wd K layC σ) := by
  unfold fX7_layLetter_b0 at h
  refine g_iload_n C.c dX7_layLetter_0 rfl (i := 1) rfl ?_
  obtain ⟨p1, e2, h⟩ := Option.bind_eq_some_iff.mp h
  refine kc_7_61 C dX7_layLetter_1 e2 (Nat.le_of_ble_eq_true rfl) rfl (Nat.le_of_ble_eq_true rfl) ?_
  refine g_istore_n C.c (i := 2) (L' := [some (.ref (kad K 4)), some (.int x1), some (.int p1.1)]) dX7_layLetter_4 rfl (Nat.le_of_ble_eq_true rfl) rfl ?_
  refine g_iload_n C.c dX7_layLetter_5 rfl (i := 1) rfl ?_
  refine g_bipush C.c dX7_layLetter_6 (v := (47 : Int32)) (by decide) ?_
  refine g_icmp_ne C.c (tgt := 36) dX7_layLetter_8 (by decide) (fun c => ?_) (fun c => ?_)
  · replace h := ite_f c h
    refine g_iload_n C.c dX7_layLetter_36 rfl (i := 2) rfl ?_
    refine g_iconst C.c dX7_layLetter_37 (v := (-1 : Int32)) (by decide) ?_
    refine g_icmp_eq C.c (tgt := 63) dX7_layLetter_38 (by decide) (fun c => ?_) (fun c => ?_)
    · replace h := ite_t c h
      refine g_aload_n C.c dX7_layLetter_63 rfl (i := 0) rfl ?_
      refine gf_7_29 C dX7_layLetter_64 ?_
      refine g_bipush C.c dX7_layLetter_67 (v := (30 : Int32)) (by decide) ?_
      refine g_icmp_ge C.c (tgt := 148) dX7_layLetter_69 (by decide) (fun c => ?_) (fun c => ?_)
      · replace h := ite_t c h
        obtain rfl := Option.some.inj h
        exact g_vret C hQ dX7_layLetter_148 ⟨rfl, rfl⟩
      · replace h := ite_f c h
        refine g_aload_n C.c dX7_layLetter_72 rfl (i := 0) rfl ?_
        refine gf_7_11 C dX7_layLetter_73 ?_
        refine g_aload_n C.c dX7_layLetter_76 rfl (i := 0) rfl ?_
        refine gf_7_29 C dX7_layLetter_77 ?_
        refine g_iload_n C.c dX7_layLetter_80 rfl (i := 1) rfl ?_
        refine g_bipush C.c dX7_layLetter_81 (v := (35 : Int32)) (by decide) ?_
        refine g_icmp_ne C.c (tgt := 91) dX7_layLetter_83 (by decide) (fun c => ?_) (fun c => ?_)
        · replace h := ite_f c h
          refine g_iload_n C.c dX7_layLetter_91 rfl (i := 1) rfl ?_
          refine g_bipush C.c dX7_layLetter_92 (v := (104 : Int32)) (by decide) ?_
          refine g_icmp_ne C.c (tgt := 102) dX7_layLetter_94 (by decide) (fun c => ?_) (fun c => ?_)
          · replace h := ite_f c h
            refine g_iload_n C.c dX7_layLetter_102 rfl (i := 1) rfl ?_
            refine g_bipush C.c dX7_layLetter_103 (v := (48 : Int32)) (by decide) ?_
            refine g_isub C.c dX7_layLetter_105 ?_
            exact g_mask [true, true, false] rfl (bX7_layLetter_b106 C hQ h)
          · replace h := ite_t c h
            refine g_bipush C.c dX7_layLetter_97 (v := (10 : Int32)) (by decide) ?_
            refine g_goto C.c (tgt := 106) dX7_layLetter_99 (by decide) ?_
            exact g_mask [true, true, false] rfl (bX7_layLetter_b106 C hQ h)
        · replace h := ite_t c h
          refine g_bipush C.c dX7_layLetter_86 (v := (11 : Int32)) (by decide) ?_
          refine g_goto C.c (tgt := 106) dX7_layLetter_88 (by decide) ?_
          exact g_mask [true, true, false] rfl (bX7_layLetter_b106 C hQ h)
    · replace h := ite_f c h
      refine g_aload_n C.c dX7_layLetter_41 rfl (i := 0) rfl ?_
      refine gf_7_29 C dX7_layLetter_42 ?_
      refine g_if_le C.c (tgt := 148) dX7_layLetter_45 (by decide) (fun c => ?_) (fun c => ?_)
      · replace h := ite_t c h
        obtain rfl := Option.some.inj h
        exact g_vret C hQ dX7_layLetter_148 ⟨rfl, rfl⟩
      · replace h := ite_f c h
        refine g_aload_n C.c dX7_layLetter_48 rfl (i := 0) rfl ?_
        refine gf_7_15 C dX7_layLetter_49 ?_
        refine g_aload_n C.c dX7_layLetter_52 rfl (i := 0) rfl ?_
        refine gf_7_29 C dX7_layLetter_53 ?_
        refine g_iconst C.c dX7_layLetter_56 (v := (1 : Int32)) (by decide) ?_
        refine g_isub C.c dX7_layLetter_57 ?_
        refine g_iload_n C.c dX7_layLetter_58 rfl (i := 2) rfl ?_
        obtain ⟨c5, h⟩ := chk h
        refine g_iast C dX7_layLetter_59 rfl c5 ?_
        refine g_goto C.c (tgt := 148) dX7_layLetter_60 (by decide) ?_
        obtain rfl := Option.some.inj h
        exact g_vret C hQ dX7_layLetter_148 ⟨rfl, rfl⟩
  · replace h := ite_t c h
    refine g_aload_n C.c dX7_layLetter_11 rfl (i := 0) rfl ?_
    refine g_aload_n C.c dX7_layLetter_12 rfl (i := 0) rfl ?_
    refine gf_7_37 C dX7_layLetter_13 ?_
    refine g_if_ne C.c (tgt := 26) dX7_layLetter_16 (by decide) (fun c => ?_) (fun c => ?_)
    · replace h := ite_f c h
      refine g_aload_n C.c dX7_layLetter_26 rfl (i := 0) rfl ?_
      refine gf_7_37 C dX7_layLetter_27 ?_
      exact g_mask [false, false, false] rfl (bX7_layLetter_b30 C hQ h)
    · replace h := ite_t c h
      refine g_aload_n C.c dX7_layLetter_19 rfl (i := 0) rfl ?_
      refine gf_7_29 C dX7_layLetter_20 ?_
      refine g_goto C.c (tgt := 30) dX7_layLetter_23 (by decide) ?_
      exact g_mask [false, false, false] rfl (bX7_layLetter_b30 C hQ h)
def fX7_layLetter (a0 : Int32) (σ : Sg) : Option (Sg) := fX7_layLetter_b0 a0 σ
theorem ct_X7_layLetter {a0 : Int32} {σ : Sg} {p : Sg} (h : fX7_layLetter a0 σ = some p) : Ct layC yX7_layLetter cX7_layLetter 3 none 2 (fun ad => [.ref (ad 4), .int a0]) σ (okV p) :=
 ct_of (L0 := fun ad => [some (.ref (ad 4)), some (.int a0), none]) (by decide) (fun _ => Nat.le_of_ble_eq_true rfl) (fun _ => rfl) (fun K C hQ => g_mask [true, true, false] rfl (bX7_layLetter_b0 C hQ h))
-- X7_measure
theorem dX7_measure_0 : decode cX7_measure 0 = .ok (.aload_n 0, 1) := by decide +kernel
theorem dX7_measure_1 : decode cX7_measure 1 = .ok (.getfield 37, 3) := by decide +kernel
theorem dX7_measure_4 : decode cX7_measure 4 = .ok (.ifCond .ne 4, 3) := by decide +kernel
theorem dX7_measure_7 : decode cX7_measure 7 = .ok (.return_, 1) := by decide +kernel
theorem dX7_measure_8 : decode cX7_measure 8 = .ok (.iconst 0, 1) := by decide +kernel
theorem dX7_measure_9 : decode cX7_measure 9 = .ok (.istore_n 1, 1) := by decide +kernel
theorem dX7_measure_10 : decode cX7_measure 10 = .ok (.iload_n 1, 1) := by decide +kernel
theorem dX7_measure_11 : decode cX7_measure 11 = .ok (.aload_n 0, 1) := by decide +kernel
theorem dX7_measure_12 : decode cX7_measure 12 = .ok (.getfield 29, 3) := by decide +kernel
theorem dX7_measure_15 : decode cX7_measure 15 = .ok (.if_icmp .ge 58, 3) := by decide +kernel
theorem dX7_measure_18 : decode cX7_measure 18 = .ok (.iload_n 1, 1) := by decide +kernel
theorem dX7_measure_19 : decode cX7_measure 19 = .ok (.aload_n 0, 1) := by decide +kernel
theorem dX7_measure_20 : decode cX7_measure 20 = .ok (.getfield 37, 3) := by decide +kernel
theorem dX7_measure_23 : decode cX7_measure 23 = .ok (.idiv, 1) := by decide +kernel
theorem dX7_measure_24 : decode cX7_measure 24 = .ok (.aload_n 0, 1) := by decide +kernel
theorem dX7_measure_25 : decode cX7_measure 25 = .ok (.getfield 64, 3) := by decide +kernel
theorem dX7_measure_28 : decode cX7_measure 28 = .ok (.aload_n 0, 1) := by decide +kernel
theorem dX7_measure_29 : decode cX7_measure 29 = .ok (.getfield 37, 3) := by decide +kernel
theorem dX7_measure_32 : decode cX7_measure 32 = .ok (.idiv, 1) := by decide +kernel
theorem dX7_measure_33 : decode cX7_measure 33 = .ok (.isub, 1) := by decide +kernel
theorem dX7_measure_34 : decode cX7_measure 34 = .ok (.invokestatic 67, 3) := by decide +kernel
theorem dX7_measure_37 : decode cX7_measure 37 = .ok (.istore_n 2, 1) := by decide +kernel
theorem dX7_measure_38 : decode cX7_measure 38 = .ok (.iload_n 1, 1) := by decide +kernel
theorem dX7_measure_39 : decode cX7_measure 39 = .ok (.aload_n 0, 1) := by decide +kernel
theorem dX7_measure_40 : decode cX7_measure 40 = .ok (.getfield 37, 3) := by decide +kernel
theorem dX7_measure_43 : decode cX7_measure 43 = .ok (.irem, 1) := by decide +kernel
theorem dX7_measure_44 : decode cX7_measure 44 = .ok (.aload_n 0, 1) := by decide +kernel
theorem dX7_measure_45 : decode cX7_measure 45 = .ok (.getfield 64, 3) := by decide +kernel
theorem dX7_measure_48 : decode cX7_measure 48 = .ok (.aload_n 0, 1) := by decide +kernel
theorem dX7_measure_49 : decode cX7_measure 49 = .ok (.getfield 37, 3) := by decide +kernel
theorem dX7_measure_52 : decode cX7_measure 52 = .ok (.irem, 1) := by decide +kernel
theorem dX7_measure_53 : decode cX7_measure 53 = .ok (.isub, 1) := by decide +kernel
theorem dX7_measure_54 : decode cX7_measure 54 = .ok (.invokestatic 67, 3) := by decide +kernel
theorem dX7_measure_57 : decode cX7_measure 57 = .ok (.istore_n 3, 1) := by decide +kernel
theorem dX7_measure_58 : decode cX7_measure 58 = .ok (.aload_n 0, 1) := by decide +kernel
theorem dX7_measure_59 : decode cX7_measure 59 = .ok (.getfield 18, 3) := by decide +kernel
theorem dX7_measure_62 : decode cX7_measure 62 = .ok (.iload_n 1, 1) := by decide +kernel
theorem dX7_measure_63 : decode cX7_measure 63 = .ok (.iload_n 2, 1) := by decide +kernel
theorem dX7_measure_64 : decode cX7_measure 64 = .ok (.iload_n 3, 1) := by decide +kernel
theorem dX7_measure_65 : decode cX7_measure 65 = .ok (.iadd, 1) := by decide +kernel
theorem dX7_measure_66 : decode cX7_measure 66 = .ok (.iastore, 1) := by decide +kernel
theorem dX7_measure_67 : decode cX7_measure 67 = .ok (.iinc 1 1, 3) := by decide +kernel
theorem dX7_measure_70 : decode cX7_measure 70 = .ok (.goto (-60), 3) := by decide +kernel
theorem dX7_measure_73 : decode cX7_measure 73 = .ok (.return_, 1) := by decide +kernel
theorem cw_X7_measure : Cw yX7_measure cX7_measure 4 none 0 := ⟨aw_457, aw_49, ⟨by decide, by decide⟩, by decide +kernel, by decide⟩
theorem gf_7_18 {K : KT} {cc : ByteArray} {nL d pc : Nat} {ret : Option FieldType} {L : List (Option Value)} {st : List Value} {σ : Sg} (C : Cx K layC cc RX7 nL d ret)  (hd : decode cc pc = .ok (.getfield 18, 3)) (k : G K (pc + 3) L (.ref (kad K 7) :: st) (Wd K layC σ)) : G K pc L (.ref (kad K 4) :: st) (Wd K layC σ) := g_get C (o := 4) (ci := 7) (k := 2) hd rfl rfl rfl (by decide) (Or.inl aw_118) inA7 rfl k
def fX7_measure_b10 (x1 : Int32) (σ : Sg) : Option ((Int32 × Sg) ⊕ ((Sg))) :=
  if (rI σ 4 5) ≤ x1 then (some (.inr σ)) else (if (rI σ 4 6) = 0 then none else if (rI σ 4 6) = 0 then none else if (rI σ 4 6) = 0 then none else if (rI σ 4 6) = 0 then none else if inb x1 30 = true then (some (.inl ((x1 + (1 : Int32)), (wI σ 7 (x1).toNatClampNeg ((iabs ((x1 / (rI σ 4 6)) - ((rI σ 4 7) / (rI σ 4 6)))) + (iabs ((x1 - x1 / (rI σ 4 6) * (rI σ 4 6)) - ((rI σ 4 7) - (rI σ 4 7) / (rI σ 4 6) * (rI σ 4 6))))))))) else none)
def fX7_measure_b0  (σ : Sg) : Option (Sg) :=
  if (rI σ 4 6) = 0 then (some σ) else (Option.bind (lp (fun s => fX7_measure_b10 s.1 s.2) FU ((0 : Int32), σ)) fun t6 => some t6)
set_option maxRecDepth 4000 in
theorem bX7_measure_b10 {K : KT} {x1 : Int32} {σ : Sg} {o : (Int32 × Sg) ⊕ ((Sg))} (C : Cx K layC cX7_measure RX7 4 (1) none)  (hI : ∀ s' : Int32 × Sg, o = .inl s' → G K 10 [some (.ref (kad K 4)), some (.int s'.1), none, none] [] (Wd K layC s'.2)) (hE0 : ∀ t : Sg, o = .inr t → G K 73 [none, none, none, none] [] (Wd K layC t)) (h : fX7_measure_b10 x1 σ = some o) : G K 10 [some (.ref (kad K 4)), some (.int x1), none, none] [] (Wd K layC σ) := by
  unfold fX7_measure_b10 at h
  refine g_iload_n C.c dX7_measure_10 rfl (i := 1) rfl ?_
  refine g_aload_n C.c dX7_measure_11 rfl (i := 0) rfl ?_
  refine gf_7_29 C dX7_measure_12 ?_
  refine g_icmp_ge C.c (tgt := 73) dX7_measure_15 (by decide) (fun c => ?_) (fun c => ?_)
  · replace h := ite_t c h
    exact g_mask [false, false, false, false] rfl (hE0 _ (Option.some.inj h).symm)
  · replace h := ite_f c h
    refine g_iload_n C.c dX7_measure_18 rfl (i := 1) rfl ?_
    refine g_aload_n C.c dX7_measure_19 rfl (i := 0) rfl ?_
    refine gf_7_37 C dX7_measure_20 ?_
    obtain ⟨c1, h⟩ := chk0 h
    refine g_idiv C.c dX7_measure_23 c1 ?_
    refine g_aload_n C.c dX7_measure_24 rfl (i := 0) rfl ?_
    refine gf_7_64 C dX7_measure_25 ?_
    refine g_aload_n C.c dX7_measure_28 rfl (i := 0) rfl ?_
    refine gf_7_37 C dX7_measure_29 ?_
    obtain ⟨c2, h⟩ := chk0 h
    refine g_idiv C.c dX7_measure_32 c2 ?_
    refine g_isub C.c dX7_measure_33 ?_
    refine g_abs C.c dX7_measure_34 aw_458 aw_459 aw_57 aw_460 rfl (Nat.le_of_ble_eq_true rfl) (Nat.le_of_ble_eq_true rfl) ?_
    refine g_istore_n C.c (i := 2) (L' := [some (.ref (kad K 4)), some (.int x1), some (.int (iabs ((x1 / (rI σ 4 6)) - ((rI σ 4 7) / (rI σ 4 6))))), none]) dX7_measure_37 rfl (Nat.le_of_ble_eq_true rfl) rfl ?_
    refine g_iload_n C.c dX7_measure_38 rfl (i := 1) rfl ?_
    refine g_aload_n C.c dX7_measure_39 rfl (i := 0) rfl ?_
    refine gf_7_37 C dX7_measure_40 ?_
    obtain ⟨c3, h⟩ := chk0 h
    refine g_irem C.c dX7_measure_43 c3 ?_
    refine g_aload_n C.c dX7_measure_44 rfl (i := 0) rfl ?_
    refine gf_7_64 C dX7_measure_45 ?_
    refine g_aload_n C.c dX7_measure_48 rfl (i := 0) rfl ?_
    refine gf_7_37 C dX7_measure_49 ?_
    obtain ⟨c4, h⟩ := chk0 h
    refine g_irem C.c dX7_measure_52 c4 ?_
    refine g_isub C.c dX7_measure_53 ?_
    refine g_abs C.c dX7_measure_54 aw_458 aw_459 aw_57 aw_460 rfl (Nat.le_of_ble_eq_true rfl) (Nat.le_of_ble_eq_true rfl) ?_
    refine g_istore_n C.c (i := 3) (L' := [some (.ref (kad K 4)), some (.int x1), some (.int (iabs ((x1 / (rI σ 4 6)) - ((rI σ 4 7) / (rI σ 4 6))))), some (.int (iabs ((x1 - x1 / (rI σ 4 6) * (rI σ 4 6)) - ((rI σ 4 7) - (rI σ 4 7) / (rI σ 4 6) * (rI σ 4 6)))))]) dX7_measure_57 rfl (Nat.le_of_ble_eq_true rfl) rfl ?_
    refine g_aload_n C.c dX7_measure_58 rfl (i := 0) rfl ?_
    refine gf_7_18 C dX7_measure_59 ?_
    refine g_iload_n C.c dX7_measure_62 rfl (i := 1) rfl ?_
    refine g_iload_n C.c dX7_measure_63 rfl (i := 2) rfl ?_
    refine g_iload_n C.c dX7_measure_64 rfl (i := 3) rfl ?_
    refine g_iadd C.c dX7_measure_65 ?_
    obtain ⟨c5, h⟩ := chk h
    refine g_iast C dX7_measure_66 rfl c5 ?_
    refine g_iinc C.c (i := 1) (y := (1 : Int32)) (L' := [some (.ref (kad K 4)), some (.int (x1 + (1 : Int32))), some (.int (iabs ((x1 / (rI σ 4 6)) - ((rI σ 4 7) / (rI σ 4 6))))), some (.int (iabs ((x1 - x1 / (rI σ 4 6) * (rI σ 4 6)) - ((rI σ 4 7) - (rI σ 4 7) / (rI σ 4 6) * (rI σ 4 6)))))]) dX7_measure_67 rfl (by decide) (Nat.le_of_ble_eq_true rfl) rfl ?_
    refine g_goto C.c (tgt := 10) dX7_measure_70 (by decide) ?_
    exact g_mask [true, true, false, false] rfl (hI _ (Option.some.inj h).symm)
set_option maxRecDepth 4000 in
theorem bX7_measure_b0 {K : KT}  {σ : Sg} {o : Sg} (C : Cx K layC cX7_measure RX7 4 (1) none)  (hQ : Rk K layC (okV o)) (h : fX7_measure_b0  σ = some o) : G K 0 [some (.ref (kad K 4)), none, none, none] [] (Wd K layC σ) := by
  unfold fX7_measure_b0 at h
  refine g_aload_n C.c dX7_measure_0 rfl (i := 0) rfl ?_
  refine gf_7_37 C dX7_measure_1 ?_
  refine g_if_ne C.c (tgt := 8) dX7_measure_4 (by decide) (fun c => ?_) (fun c => ?_)
  · replace h := ite_f c h
    refine g_iconst C.c dX7_measure_8 (v := (0 : Int32)) (by decide) ?_
    refine g_istore_n C.c (i := 1) (L' := [some (.ref (kad K 4)), some (.int (0 : Int32)), none, none]) dX7_measure_9 rfl (Nat.le_of_ble_eq_true rfl) rfl ?_
    refine g_mask [true, true, false, false] rfl ?_
    refine lp_bind (Gh := fun s => G K 10 [some (.ref (kad K 4)), some (.int s.1), none, none] [] (Wd K layC s.2)) h (fun s o2 hf gI gE => ?_)
    refine bX7_measure_b10 C gI (fun t6 e => ?_) hf
    · have h := gE _ e
      obtain rfl := Option.some.inj h
      exact g_vret C hQ dX7_measure_73 ⟨rfl, rfl⟩
  · replace h := ite_t c h
    obtain rfl := Option.some.inj h
    exact g_vret C hQ dX7_measure_7 ⟨rfl, rfl⟩
def fX7_measure (σ : Sg) : Option (Sg) := fX7_measure_b0 σ
theorem ct_X7_measure {σ : Sg} {p : Sg} (h : fX7_measure σ = some p) : Ct layC yX7_measure cX7_measure 4 none 1 (fun ad => [.ref (ad 4)]) σ (okV p) :=
 ct_of (L0 := fun ad => [some (.ref (ad 4)), none, none, none]) (by decide) (fun _ => Nat.le_of_ble_eq_true rfl) (fun _ => rfl) (fun K C hQ => g_mask [true, false, false, false] rfl (bX7_measure_b0 C hQ h))
-- X7_beside
theorem dX7_beside_0 : decode cX7_beside 0 = .ok (.aload_n 0, 1) := by decide +kernel
theorem dX7_beside_1 : decode cX7_beside 1 = .ok (.getfield 37, 3) := by decide +kernel
theorem dX7_beside_4 : decode cX7_beside 4 = .ok (.ifCond .ne 5, 3) := by decide +kernel
theorem dX7_beside_7 : decode cX7_beside 7 = .ok (.iconst (-1), 1) := by decide +kernel
theorem dX7_beside_8 : decode cX7_beside 8 = .ok (.ireturn, 1) := by decide +kernel
theorem dX7_beside_9 : decode cX7_beside 9 = .ok (.iload_n 1, 1) := by decide +kernel
theorem dX7_beside_10 : decode cX7_beside 10 = .ok (.aload_n 0, 1) := by decide +kernel
theorem dX7_beside_11 : decode cX7_beside 11 = .ok (.getfield 37, 3) := by decide +kernel
theorem dX7_beside_14 : decode cX7_beside 14 = .ok (.irem, 1) := by decide +kernel
theorem dX7_beside_15 : decode cX7_beside 15 = .ok (.istore_n 3, 1) := by decide +kernel
theorem dX7_beside_16 : decode cX7_beside 16 = .ok (.iload_n 2, 1) := by decide +kernel
theorem dX7_beside_17 : decode cX7_beside 17 = .ok (.tableswitch 88 0 2 #[27, 46, 64], 27) := by decide +kernel
theorem dX7_beside_44 : decode cX7_beside 44 = .ok (.iload_n 1, 1) := by decide +kernel
theorem dX7_beside_45 : decode cX7_beside 45 = .ok (.aload_n 0, 1) := by decide +kernel
theorem dX7_beside_46 : decode cX7_beside 46 = .ok (.getfield 37, 3) := by decide +kernel
theorem dX7_beside_49 : decode cX7_beside 49 = .ok (.if_icmp .lt 12, 3) := by decide +kernel
theorem dX7_beside_52 : decode cX7_beside 52 = .ok (.iload_n 1, 1) := by decide +kernel
theorem dX7_beside_53 : decode cX7_beside 53 = .ok (.aload_n 0, 1) := by decide +kernel
theorem dX7_beside_54 : decode cX7_beside 54 = .ok (.getfield 37, 3) := by decide +kernel
theorem dX7_beside_57 : decode cX7_beside 57 = .ok (.isub, 1) := by decide +kernel
theorem dX7_beside_58 : decode cX7_beside 58 = .ok (.goto 4, 3) := by decide +kernel
theorem dX7_beside_61 : decode cX7_beside 61 = .ok (.iconst (-1), 1) := by decide +kernel
theorem dX7_beside_62 : decode cX7_beside 62 = .ok (.ireturn, 1) := by decide +kernel
theorem dX7_beside_63 : decode cX7_beside 63 = .ok (.iload_n 3, 1) := by decide +kernel
theorem dX7_beside_64 : decode cX7_beside 64 = .ok (.iconst 1, 1) := by decide +kernel
theorem dX7_beside_65 : decode cX7_beside 65 = .ok (.iadd, 1) := by decide +kernel
theorem dX7_beside_66 : decode cX7_beside 66 = .ok (.aload_n 0, 1) := by decide +kernel
theorem dX7_beside_67 : decode cX7_beside 67 = .ok (.getfield 37, 3) := by decide +kernel
theorem dX7_beside_70 : decode cX7_beside 70 = .ok (.if_icmp .ge 9, 3) := by decide +kernel
theorem dX7_beside_73 : decode cX7_beside 73 = .ok (.iload_n 1, 1) := by decide +kernel
theorem dX7_beside_74 : decode cX7_beside 74 = .ok (.iconst 1, 1) := by decide +kernel
theorem dX7_beside_75 : decode cX7_beside 75 = .ok (.iadd, 1) := by decide +kernel
theorem dX7_beside_76 : decode cX7_beside 76 = .ok (.goto 4, 3) := by decide +kernel
theorem dX7_beside_79 : decode cX7_beside 79 = .ok (.iconst (-1), 1) := by decide +kernel
theorem dX7_beside_80 : decode cX7_beside 80 = .ok (.ireturn, 1) := by decide +kernel
theorem dX7_beside_81 : decode cX7_beside 81 = .ok (.iload_n 1, 1) := by decide +kernel
theorem dX7_beside_82 : decode cX7_beside 82 = .ok (.aload_n 0, 1) := by decide +kernel
theorem dX7_beside_83 : decode cX7_beside 83 = .ok (.getfield 37, 3) := by decide +kernel
theorem dX7_beside_86 : decode cX7_beside 86 = .ok (.iadd, 1) := by decide +kernel
theorem dX7_beside_87 : decode cX7_beside 87 = .ok (.aload_n 0, 1) := by decide +kernel
theorem dX7_beside_88 : decode cX7_beside 88 = .ok (.getfield 29, 3) := by decide +kernel
theorem dX7_beside_91 : decode cX7_beside 91 = .ok (.if_icmp .ge 12, 3) := by decide +kernel
theorem dX7_beside_94 : decode cX7_beside 94 = .ok (.iload_n 1, 1) := by decide +kernel
theorem dX7_beside_95 : decode cX7_beside 95 = .ok (.aload_n 0, 1) := by decide +kernel
theorem dX7_beside_96 : decode cX7_beside 96 = .ok (.getfield 37, 3) := by decide +kernel
theorem dX7_beside_99 : decode cX7_beside 99 = .ok (.iadd, 1) := by decide +kernel
theorem dX7_beside_100 : decode cX7_beside 100 = .ok (.goto 4, 3) := by decide +kernel
theorem dX7_beside_103 : decode cX7_beside 103 = .ok (.iconst (-1), 1) := by decide +kernel
theorem dX7_beside_104 : decode cX7_beside 104 = .ok (.ireturn, 1) := by decide +kernel
theorem dX7_beside_105 : decode cX7_beside 105 = .ok (.iload_n 3, 1) := by decide +kernel
theorem dX7_beside_106 : decode cX7_beside 106 = .ok (.ifCond .le 9, 3) := by decide +kernel
theorem dX7_beside_109 : decode cX7_beside 109 = .ok (.iload_n 1, 1) := by decide +kernel
theorem dX7_beside_110 : decode cX7_beside 110 = .ok (.iconst 1, 1) := by decide +kernel
theorem dX7_beside_111 : decode cX7_beside 111 = .ok (.isub, 1) := by decide +kernel
theorem dX7_beside_112 : decode cX7_beside 112 = .ok (.goto 4, 3) := by decide +kernel
theorem dX7_beside_115 : decode cX7_beside 115 = .ok (.iconst (-1), 1) := by decide +kernel
theorem dX7_beside_116 : decode cX7_beside 116 = .ok (.ireturn, 1) := by decide +kernel
theorem cw_X7_beside : Cw yX7_beside cX7_beside 4 (some .int) 2 := ⟨aw_468, aw_49, ⟨by decide, by decide⟩, by decide +kernel, by decide⟩
def fX7_beside_b0 (x1 : Int32) (x2 : Int32) (σ : Sg) : Option (Int32 × Sg) :=
  if (rI σ 4 6) = 0 then (some ((-1 : Int32), σ)) else (if (rI σ 4 6) = 0 then none else if x2 = (0 : Int32) then (if x1 < (rI σ 4 6) then (some ((-1 : Int32), σ)) else (some ((x1 - (rI σ 4 6)), σ))) else (if x2 = (1 : Int32) then (if (rI σ 4 6) ≤ ((x1 - x1 / (rI σ 4 6) * (rI σ 4 6)) + (1 : Int32)) then (some ((-1 : Int32), σ)) else (some ((x1 + (1 : Int32)), σ))) else (if x2 = (2 : Int32) then (if (rI σ 4 5) ≤ (x1 + (rI σ 4 6)) then (some ((-1 : Int32), σ)) else (some ((x1 + (rI σ 4 6)), σ))) else (if (x1 - x1 / (rI σ 4 6) * (rI σ 4 6)) ≤ 0 then (some ((-1 : Int32), σ)) else (some ((x1 - (1 : Int32)), σ))))))
set_option maxRecDepth 4000 in
theorem bX7_beside_b0 {K : KT} {x1 : Int32} {x2 : Int32} {σ : Sg} {o : Int32 × Sg} (C : Cx K layC cX7_beside RX7 4 (1) (some .int))  (hQ : Rk K layC (okI o)) (h : fX7_beside_b0 x1 x2 σ = some o) : G K 0 [some (.ref (kad K 4)), some (.int x1), some (.int x2), none] [] (Wd K layC σ) := by
  unfold fX7_beside_b0 at h
  refine g_aload_n C.c dX7_beside_0 rfl (i := 0) rfl ?_
  refine gf_7_37 C dX7_beside_1 ?_
  refine g_if_ne C.c (tgt := 9) dX7_beside_4 (by decide) (fun c => ?_) (fun c => ?_)
  · replace h := ite_f c h
    refine g_iload_n C.c dX7_beside_9 rfl (i := 1) rfl ?_
    refine g_aload_n C.c dX7_beside_10 rfl (i := 0) rfl ?_
    refine gf_7_37 C dX7_beside_11 ?_
    obtain ⟨c1, h⟩ := chk0 h
    refine g_irem C.c dX7_beside_14 c1 ?_
    refine g_istore_n C.c (i := 3) (L' := [some (.ref (kad K 4)), some (.int x1), some (.int x2), some (.int (x1 - x1 / (rI σ 4 6) * (rI σ 4 6)))]) dX7_beside_15 rfl (Nat.le_of_ble_eq_true rfl) rfl ?_
    refine g_iload_n C.c dX7_beside_16 rfl (i := 2) rfl ?_
    by_cases c0 : x2 = (0 : Int32)
    · replace h := ite_t c0 h
      refine g_tblIn C.c (tgt := 44) (off := 27) c0 dX7_beside_17 (by decide) (by decide) (by decide) (by decide) ?_
      refine g_iload_n C.c dX7_beside_44 rfl (i := 1) rfl ?_
      refine g_aload_n C.c dX7_beside_45 rfl (i := 0) rfl ?_
      refine gf_7_37 C dX7_beside_46 ?_
      refine g_icmp_lt C.c (tgt := 61) dX7_beside_49 (by decide) (fun c => ?_) (fun c => ?_)
      · replace h := ite_t c h
        refine g_iconst C.c dX7_beside_61 (v := (-1 : Int32)) (by decide) ?_
        obtain rfl := Option.some.inj h
        exact g_iret C hQ dX7_beside_62 rfl ⟨rfl, rfl⟩
      · replace h := ite_f c h
        refine g_iload_n C.c dX7_beside_52 rfl (i := 1) rfl ?_
        refine g_aload_n C.c dX7_beside_53 rfl (i := 0) rfl ?_
        refine gf_7_37 C dX7_beside_54 ?_
        refine g_isub C.c dX7_beside_57 ?_
        refine g_goto C.c (tgt := 62) dX7_beside_58 (by decide) ?_
        obtain rfl := Option.some.inj h
        exact g_iret C hQ dX7_beside_62 rfl ⟨rfl, rfl⟩
    · replace h := ite_f c0 h
      by_cases c1 : x2 = (1 : Int32)
      · replace h := ite_t c1 h
        refine g_tblIn C.c (tgt := 63) (off := 46) c1 dX7_beside_17 (by decide) (by decide) (by decide) (by decide) ?_
        refine g_iload_n C.c dX7_beside_63 rfl (i := 3) rfl ?_
        refine g_iconst C.c dX7_beside_64 (v := (1 : Int32)) (by decide) ?_
        refine g_iadd C.c dX7_beside_65 ?_
        refine g_aload_n C.c dX7_beside_66 rfl (i := 0) rfl ?_
        refine gf_7_37 C dX7_beside_67 ?_
        refine g_icmp_ge C.c (tgt := 79) dX7_beside_70 (by decide) (fun c => ?_) (fun c => ?_)
        · replace h := ite_t c h
          refine g_iconst C.c dX7_beside_79 (v := (-1 : Int32)) (by decide) ?_
          obtain rfl := Option.some.inj h
          exact g_iret C hQ dX7_beside_80 rfl ⟨rfl, rfl⟩
        · replace h := ite_f c h
          refine g_iload_n C.c dX7_beside_73 rfl (i := 1) rfl ?_
          refine g_iconst C.c dX7_beside_74 (v := (1 : Int32)) (by decide) ?_
          refine g_iadd C.c dX7_beside_75 ?_
          refine g_goto C.c (tgt := 80) dX7_beside_76 (by decide) ?_
          obtain rfl := Option.some.inj h
          exact g_iret C hQ dX7_beside_80 rfl ⟨rfl, rfl⟩
      · replace h := ite_f c1 h
        by_cases c2 : x2 = (2 : Int32)
        · replace h := ite_t c2 h
          refine g_tblIn C.c (tgt := 81) (off := 64) c2 dX7_beside_17 (by decide) (by decide) (by decide) (by decide) ?_
          refine g_iload_n C.c dX7_beside_81 rfl (i := 1) rfl ?_
          refine g_aload_n C.c dX7_beside_82 rfl (i := 0) rfl ?_
          refine gf_7_37 C dX7_beside_83 ?_
          refine g_iadd C.c dX7_beside_86 ?_
          refine g_aload_n C.c dX7_beside_87 rfl (i := 0) rfl ?_
          refine gf_7_29 C dX7_beside_88 ?_
          refine g_icmp_ge C.c (tgt := 103) dX7_beside_91 (by decide) (fun c => ?_) (fun c => ?_)
          · replace h := ite_t c h
            refine g_iconst C.c dX7_beside_103 (v := (-1 : Int32)) (by decide) ?_
            obtain rfl := Option.some.inj h
            exact g_iret C hQ dX7_beside_104 rfl ⟨rfl, rfl⟩
          · replace h := ite_f c h
            refine g_iload_n C.c dX7_beside_94 rfl (i := 1) rfl ?_
            refine g_aload_n C.c dX7_beside_95 rfl (i := 0) rfl ?_
            refine gf_7_37 C dX7_beside_96 ?_
            refine g_iadd C.c dX7_beside_99 ?_
            refine g_goto C.c (tgt := 104) dX7_beside_100 (by decide) ?_
            obtain rfl := Option.some.inj h
            exact g_iret C hQ dX7_beside_104 rfl ⟨rfl, rfl⟩
        · replace h := ite_f c2 h
          refine g_tblOut C.c (tgt := 105) [(0 : Int32), (1 : Int32), (2 : Int32)] (by decide) ⟨c0, c1, c2, trivial⟩ dX7_beside_17 (by decide) ?_
          refine g_iload_n C.c dX7_beside_105 rfl (i := 3) rfl ?_
          refine g_if_le C.c (tgt := 115) dX7_beside_106 (by decide) (fun c => ?_) (fun c => ?_)
          · replace h := ite_t c h
            refine g_iconst C.c dX7_beside_115 (v := (-1 : Int32)) (by decide) ?_
            obtain rfl := Option.some.inj h
            exact g_iret C hQ dX7_beside_116 rfl ⟨rfl, rfl⟩
          · replace h := ite_f c h
            refine g_iload_n C.c dX7_beside_109 rfl (i := 1) rfl ?_
            refine g_iconst C.c dX7_beside_110 (v := (1 : Int32)) (by decide) ?_
            refine g_isub C.c dX7_beside_111 ?_
            refine g_goto C.c (tgt := 116) dX7_beside_112 (by decide) ?_
            obtain rfl := Option.some.inj h
            exact g_iret C hQ dX7_beside_116 rfl ⟨rfl, rfl⟩
  · replace h := ite_t c h
    refine g_iconst C.c dX7_beside_7 (v := (-1 : Int32)) (by decide) ?_
    obtain rfl := Option.some.inj h
    exact g_iret C hQ dX7_beside_8 rfl ⟨rfl, rfl⟩
def fX7_beside (a0 : Int32) (a1 : Int32) (σ : Sg) : Option (Int32 × Sg) := fX7_beside_b0 a0 a1 σ
theorem ct_X7_beside {a0 : Int32} {a1 : Int32} {σ : Sg} {p : Int32 × Sg} (h : fX7_beside a0 a1 σ = some p) : Ct layC yX7_beside cX7_beside 4 (some .int) 1 (fun ad => [.ref (ad 4), .int a0, .int a1]) σ (okI p) :=
 ct_of (L0 := fun ad => [some (.ref (ad 4)), some (.int a0), some (.int a1), none]) (by decide) (fun _ => Nat.le_of_ble_eq_true rfl) (fun _ => rfl) (fun K C hQ => g_mask [true, true, true, false] rfl (bX7_beside_b0 C hQ h))
-- X7_openWays
theorem dX7_openWays_0 : decode cX7_openWays 0 = .ok (.iconst 0, 1) := by decide +kernel
theorem dX7_openWays_1 : decode cX7_openWays 1 = .ok (.istore_n 2, 1) := by decide +kernel
theorem dX7_openWays_2 : decode cX7_openWays 2 = .ok (.iload_n 2, 1) := by decide +kernel
theorem dX7_openWays_3 : decode cX7_openWays 3 = .ok (.aload_n 0, 1) := by decide +kernel
theorem dX7_openWays_4 : decode cX7_openWays 4 = .ok (.getfield 29, 3) := by decide +kernel
theorem dX7_openWays_7 : decode cX7_openWays 7 = .ok (.if_icmp .ge 147, 3) := by decide +kernel
theorem dX7_openWays_10 : decode cX7_openWays 10 = .ok (.aload_n 0, 1) := by decide +kernel
theorem dX7_openWays_11 : decode cX7_openWays 11 = .ok (.getfield 18, 3) := by decide +kernel
theorem dX7_openWays_14 : decode cX7_openWays 14 = .ok (.iload_n 2, 1) := by decide +kernel
theorem dX7_openWays_15 : decode cX7_openWays 15 = .ok (.iaload, 1) := by decide +kernel
theorem dX7_openWays_16 : decode cX7_openWays 16 = .ok (.iload_n 1, 1) := by decide +kernel
theorem dX7_openWays_17 : decode cX7_openWays 17 = .ok (.if_icmp .eq 6, 3) := by decide +kernel
theorem dX7_openWays_20 : decode cX7_openWays 20 = .ok (.goto 128, 3) := by decide +kernel
theorem dX7_openWays_23 : decode cX7_openWays 23 = .ok (.aload_n 0, 1) := by decide +kernel
theorem dX7_openWays_24 : decode cX7_openWays 24 = .ok (.getfield 21, 3) := by decide +kernel
theorem dX7_openWays_27 : decode cX7_openWays 27 = .ok (.iload_n 2, 1) := by decide +kernel
theorem dX7_openWays_28 : decode cX7_openWays 28 = .ok (.iload_n 1, 1) := by decide +kernel
theorem dX7_openWays_29 : decode cX7_openWays 29 = .ok (.ifCond .ne 7, 3) := by decide +kernel
theorem dX7_openWays_32 : decode cX7_openWays 32 = .ok (.iconst 1, 1) := by decide +kernel
theorem dX7_openWays_33 : decode cX7_openWays 33 = .ok (.goto 4, 3) := by decide +kernel
theorem dX7_openWays_36 : decode cX7_openWays 36 = .ok (.iconst 0, 1) := by decide +kernel
theorem dX7_openWays_37 : decode cX7_openWays 37 = .ok (.iastore, 1) := by decide +kernel
theorem dX7_openWays_38 : decode cX7_openWays 38 = .ok (.iconst 0, 1) := by decide +kernel
theorem dX7_openWays_39 : decode cX7_openWays 39 = .ok (.istore_n 3, 1) := by decide +kernel
theorem dX7_openWays_40 : decode cX7_openWays 40 = .ok (.iload_n 3, 1) := by decide +kernel
theorem dX7_openWays_41 : decode cX7_openWays 41 = .ok (.iconst 4, 1) := by decide +kernel
theorem dX7_openWays_42 : decode cX7_openWays 42 = .ok (.if_icmp .ge 106, 3) := by decide +kernel
theorem dX7_openWays_45 : decode cX7_openWays 45 = .ok (.aload_n 0, 1) := by decide +kernel
theorem dX7_openWays_46 : decode cX7_openWays 46 = .ok (.iload_n 2, 1) := by decide +kernel
theorem dX7_openWays_47 : decode cX7_openWays 47 = .ok (.iload_n 3, 1) := by decide +kernel
theorem dX7_openWays_48 : decode cX7_openWays 48 = .ok (.invokevirtual 72, 3) := by decide +kernel
theorem dX7_openWays_51 : decode cX7_openWays 51 = .ok (.istore 4, 2) := by decide +kernel
theorem dX7_openWays_53 : decode cX7_openWays 53 = .ok (.iload 4, 2) := by decide +kernel
theorem dX7_openWays_55 : decode cX7_openWays 55 = .ok (.iconst (-1), 1) := by decide +kernel
theorem dX7_openWays_56 : decode cX7_openWays 56 = .ok (.if_icmp .eq 39, 3) := by decide +kernel
theorem dX7_openWays_59 : decode cX7_openWays 59 = .ok (.aload_n 0, 1) := by decide +kernel
theorem dX7_openWays_60 : decode cX7_openWays 60 = .ok (.getfield 11, 3) := by decide +kernel
theorem dX7_openWays_63 : decode cX7_openWays 63 = .ok (.iload_n 2, 1) := by decide +kernel
theorem dX7_openWays_64 : decode cX7_openWays 64 = .ok (.iaload, 1) := by decide +kernel
theorem dX7_openWays_65 : decode cX7_openWays 65 = .ok (.bipush 11, 2) := by decide +kernel
theorem dX7_openWays_67 : decode cX7_openWays 67 = .ok (.if_icmp .eq 28, 3) := by decide +kernel
theorem dX7_openWays_70 : decode cX7_openWays 70 = .ok (.aload_n 0, 1) := by decide +kernel
theorem dX7_openWays_71 : decode cX7_openWays 71 = .ok (.getfield 18, 3) := by decide +kernel
theorem dX7_openWays_74 : decode cX7_openWays 74 = .ok (.iload 4, 2) := by decide +kernel
theorem dX7_openWays_76 : decode cX7_openWays 76 = .ok (.iaload, 1) := by decide +kernel
theorem dX7_openWays_77 : decode cX7_openWays 77 = .ok (.iload_n 1, 1) := by decide +kernel
theorem dX7_openWays_78 : decode cX7_openWays 78 = .ok (.if_icmp .ge 17, 3) := by decide +kernel
theorem dX7_openWays_81 : decode cX7_openWays 81 = .ok (.aload_n 0, 1) := by decide +kernel
theorem dX7_openWays_82 : decode cX7_openWays 82 = .ok (.getfield 21, 3) := by decide +kernel
theorem dX7_openWays_85 : decode cX7_openWays 85 = .ok (.iload 4, 2) := by decide +kernel
theorem dX7_openWays_87 : decode cX7_openWays 87 = .ok (.iaload, 1) := by decide +kernel
theorem dX7_openWays_88 : decode cX7_openWays 88 = .ok (.ifCond .le 7, 3) := by decide +kernel
theorem dX7_openWays_91 : decode cX7_openWays 91 = .ok (.iconst 1, 1) := by decide +kernel
theorem dX7_openWays_92 : decode cX7_openWays 92 = .ok (.goto 4, 3) := by decide +kernel
theorem dX7_openWays_95 : decode cX7_openWays 95 = .ok (.iconst 0, 1) := by decide +kernel
theorem dX7_openWays_96 : decode cX7_openWays 96 = .ok (.istore 5, 2) := by decide +kernel
theorem dX7_openWays_98 : decode cX7_openWays 98 = .ok (.aload_n 0, 1) := by decide +kernel
theorem dX7_openWays_99 : decode cX7_openWays 99 = .ok (.getfield 26, 3) := by decide +kernel
theorem dX7_openWays_102 : decode cX7_openWays 102 = .ok (.iload_n 2, 1) := by decide +kernel
theorem dX7_openWays_103 : decode cX7_openWays 103 = .ok (.aaload, 1) := by decide +kernel
theorem dX7_openWays_104 : decode cX7_openWays 104 = .ok (.iload_n 3, 1) := by decide +kernel
theorem dX7_openWays_105 : decode cX7_openWays 105 = .ok (.iload 5, 2) := by decide +kernel
theorem dX7_openWays_107 : decode cX7_openWays 107 = .ok (.ifCond .eq 8, 3) := by decide +kernel
theorem dX7_openWays_110 : decode cX7_openWays 110 = .ok (.iload 4, 2) := by decide +kernel
theorem dX7_openWays_112 : decode cX7_openWays 112 = .ok (.goto 4, 3) := by decide +kernel
theorem dX7_openWays_115 : decode cX7_openWays 115 = .ok (.iconst (-1), 1) := by decide +kernel
theorem dX7_openWays_116 : decode cX7_openWays 116 = .ok (.iastore, 1) := by decide +kernel
theorem dX7_openWays_117 : decode cX7_openWays 117 = .ok (.aload_n 0, 1) := by decide +kernel
theorem dX7_openWays_118 : decode cX7_openWays 118 = .ok (.getfield 21, 3) := by decide +kernel
theorem dX7_openWays_121 : decode cX7_openWays 121 = .ok (.iload_n 2, 1) := by decide +kernel
theorem dX7_openWays_122 : decode cX7_openWays 122 = .ok (.dup2, 1) := by decide +kernel
theorem dX7_openWays_123 : decode cX7_openWays 123 = .ok (.iaload, 1) := by decide +kernel
theorem dX7_openWays_124 : decode cX7_openWays 124 = .ok (.iload 5, 2) := by decide +kernel
theorem dX7_openWays_126 : decode cX7_openWays 126 = .ok (.ifCond .eq 13, 3) := by decide +kernel
theorem dX7_openWays_129 : decode cX7_openWays 129 = .ok (.aload_n 0, 1) := by decide +kernel
theorem dX7_openWays_130 : decode cX7_openWays 130 = .ok (.getfield 21, 3) := by decide +kernel
theorem dX7_openWays_133 : decode cX7_openWays 133 = .ok (.iload 4, 2) := by decide +kernel
theorem dX7_openWays_135 : decode cX7_openWays 135 = .ok (.iaload, 1) := by decide +kernel
theorem dX7_openWays_136 : decode cX7_openWays 136 = .ok (.goto 4, 3) := by decide +kernel
theorem dX7_openWays_139 : decode cX7_openWays 139 = .ok (.iconst 0, 1) := by decide +kernel
theorem dX7_openWays_140 : decode cX7_openWays 140 = .ok (.iadd, 1) := by decide +kernel
theorem dX7_openWays_141 : decode cX7_openWays 141 = .ok (.iastore, 1) := by decide +kernel
theorem dX7_openWays_142 : decode cX7_openWays 142 = .ok (.iinc 3 1, 3) := by decide +kernel
theorem dX7_openWays_145 : decode cX7_openWays 145 = .ok (.goto (-105), 3) := by decide +kernel
theorem dX7_openWays_148 : decode cX7_openWays 148 = .ok (.iinc 2 1, 3) := by decide +kernel
theorem dX7_openWays_151 : decode cX7_openWays 151 = .ok (.goto (-149), 3) := by decide +kernel
theorem dX7_openWays_154 : decode cX7_openWays 154 = .ok (.return_, 1) := by decide +kernel
theorem cw_X7_openWays : Cw yX7_openWays cX7_openWays 6 none 1 := ⟨aw_464, aw_49, ⟨by decide, by decide⟩, by decide +kernel, by decide⟩
theorem gf_7_21 {K : KT} {cc : ByteArray} {nL d pc : Nat} {ret : Option FieldType} {L : List (Option Value)} {st : List Value} {σ : Sg} (C : Cx K layC cc RX7 nL d ret)  (hd : decode cc pc = .ok (.getfield 21, 3)) (k : G K (pc + 3) L (.ref (kad K 8) :: st) (Wd K layC σ)) : G K pc L (.ref (kad K 4) :: st) (Wd K layC σ) := g_get C (o := 4) (ci := 7) (k := 3) hd rfl rfl rfl (by decide) (Or.inl aw_120) inA7 rfl k
theorem kc_7_72 {K : KT} {cc : ByteArray} {nL d pc : Nat} {ret : Option FieldType} {L : List (Option Value)} {st : List Value} {σ : Sg} (C : Cx K layC cc RX7 nL d ret)  {a0 : Int32} {a1 : Int32}  {p : Int32 × Sg} (hd : decode cc pc = .ok (.invokevirtual 72, 3)) (e : fX7_beside a0 a1 σ = some p) (hdd : 1 + 1 ≤ d) (hLn : L.length = nL) (hr : (st.map fun v => v.category).sum ≤ 8) (k : G K (pc + 3) L (.int p.1 :: st) (Wd K layC p.2)) : G K pc L (.int a1 :: .int a0 :: .ref (kad K 4) :: st) (Wd K layC σ) :=
  g_callV C (As := [.int a0, .int a1]) (rest := st) (o := 4) (ci := 7) hd (ct_X7_beside e) cw_X7_beside (Or.inl aw_465) aw_467 aw_6 rfl rfl rfl hdd hLn rfl rfl hr (fun v τ q => by obtain ⟨rfl, rfl⟩ := q; exact k)
theorem gf_7_26 {K : KT} {cc : ByteArray} {nL d pc : Nat} {ret : Option FieldType} {L : List (Option Value)} {st : List Value} {σ : Sg} (C : Cx K layC cc RX7 nL d ret)  (hd : decode cc pc = .ok (.getfield 26, 3)) (k : G K (pc + 3) L (.ref (kad K 9) :: st) (Wd K layC σ)) : G K pc L (.ref (kad K 4) :: st) (Wd K layC σ) := g_get C (o := 4) (ci := 7) (k := 4) hd rfl rfl rfl (by decide) (Or.inl aw_122) inA7 rfl k
def fX7_openWays_b140 (x1 : Int32) (x2 : Int32) (x3 : Int32) (y0 : Int32) (y1 : Int32) (y2 : Int32) (σ : Sg) : Option ((Int32 × Sg) ⊕ ((Sg))) :=
  if inb y2 30 = true then (some (.inl ((x3 + (1 : Int32)), (wI σ 8 (y2).toNatClampNeg (y1 + y0))))) else none
def fX7_openWays_b116 (x1 : Int32) (x2 : Int32) (x3 : Int32) (x4 : Int32) (x5 : Int32) (y0 : Int32) (y1 : Int32) (u2 : Nat) (σ : Sg) : Option ((Int32 × Sg) ⊕ ((Sg))) :=
  if inb y1 4 = true then (if inb x2 30 = true then (if x5 = 0 then (fX7_openWays_b140 x1 x2 x3 (0 : Int32) (rI (wI σ u2 (y1).toNatClampNeg y0) 8 (x2).toNatClampNeg) x2 (wI σ u2 (y1).toNatClampNeg y0)) else (if inb x4 30 = true then (fX7_openWays_b140 x1 x2 x3 (rI (wI σ u2 (y1).toNatClampNeg y0) 8 (x4).toNatClampNeg) (rI (wI σ u2 (y1).toNatClampNeg y0) 8 (x2).toNatClampNeg) x2 (wI σ u2 (y1).toNatClampNeg y0)) else none)) else none) else none
def fX7_openWays_b96 (x1 : Int32) (x2 : Int32) (x3 : Int32) (x4 : Int32) (y0 : Int32) (σ : Sg) : Option ((Int32 × Sg) ⊕ ((Sg))) :=
  if inb x2 30 = true then (if y0 = 0 then (fX7_openWays_b116 x1 x2 x3 x4 y0 (-1 : Int32) x3 (40 + (x2).toNatClampNeg) σ) else (fX7_openWays_b116 x1 x2 x3 x4 y0 x4 x3 (40 + (x2).toNatClampNeg) σ)) else none
def fX7_openWays_b95 (x1 : Int32) (x2 : Int32) (x3 : Int32) (x4 : Int32) (σ : Sg) : Option ((Int32 × Sg) ⊕ ((Sg))) :=
  fX7_openWays_b96 x1 x2 x3 x4 (0 : Int32) σ
def fX7_openWays_b40 (x1 : Int32) (x2 : Int32) (x3 : Int32) (σ : Sg) : Option ((Int32 × Sg) ⊕ ((Sg))) :=
  if (4 : Int32) ≤ x3 then (some (.inr σ)) else (Option.bind (fX7_beside x2 x3 σ) fun p3 => (if p3.1 = (-1 : Int32) then (fX7_openWays_b95 x1 x2 x3 p3.1 p3.2) else (if inb x2 30 = true then (if (rI p3.2 5 (x2).toNatClampNeg) = (11 : Int32) then (fX7_openWays_b95 x1 x2 x3 p3.1 p3.2) else (if inb p3.1 30 = true then (if x1 ≤ (rI p3.2 7 (p3.1).toNatClampNeg) then (fX7_openWays_b95 x1 x2 x3 p3.1 p3.2) else (if inb p3.1 30 = true then (if (rI p3.2 8 (p3.1).toNatClampNeg) ≤ 0 then (fX7_openWays_b95 x1 x2 x3 p3.1 p3.2) else (fX7_openWays_b96 x1 x2 x3 p3.1 (1 : Int32) p3.2)) else none)) else none)) else none)))
def fX7_openWays_b148 (x1 : Int32) (x2 : Int32) (σ : Sg) : Option ((Int32 × Sg) ⊕ ((Sg))) :=
  some (.inl ((x2 + (1 : Int32)), σ))
def fX7_openWays_b37 (x1 : Int32) (x2 : Int32) (y0 : Int32) (y1 : Int32) (σ : Sg) : Option ((Int32 × Sg) ⊕ ((Sg))) :=
  if inb y1 30 = true then (Option.bind (lp (fun s => fX7_openWays_b40 x1 x2 s.1 s.2) FU ((0 : Int32), (wI σ 8 (y1).toNatClampNeg y0))) fun t14 => fX7_openWays_b148 x1 x2 t14) else none
def fX7_openWays_b2 (x1 : Int32) (x2 : Int32) (σ : Sg) : Option ((Int32 × Sg) ⊕ ((Sg))) :=
  if (rI σ 4 5) ≤ x2 then (some (.inr σ)) else (if inb x2 30 = true then (if (rI σ 7 (x2).toNatClampNeg) = x1 then (if x1 = 0 then (fX7_openWays_b37 x1 x2 (1 : Int32) x2 σ) else (fX7_openWays_b37 x1 x2 (0 : Int32) x2 σ)) else (fX7_openWays_b148 x1 x2 σ)) else none)
def fX7_openWays_b0 (x1 : Int32) (σ : Sg) : Option (Sg) :=
  Option.bind (lp (fun s => fX7_openWays_b2 x1 s.1 s.2) FU ((0 : Int32), σ)) fun t16 => some t16
set_option maxRecDepth 4000 in
theorem bX7_openWays_b140 {K : KT} {x1 : Int32} {x2 : Int32} {x3 : Int32} {y0 : Int32} {y1 : Int32} {y2 : Int32} {σ : Sg} {o : (Int32 × Sg) ⊕ ((Sg))} (C : Cx K layC cX7_openWays RX7 6 (2) none)  (hI : ∀ s' : Int32 × Sg, o = .inl s' → G K 40 [some (.ref (kad K 4)), some (.int x1), some (.int x2), some (.int s'.1), none, none] [] (Wd K layC s'.2)) (hE0 : ∀ t : Sg, o = .inr t → G K 148 [some (.ref (kad K 4)), some (.int x1), some (.int x2), none, none, none] [] (Wd K layC t)) (h : fX7_openWays_b140 x1 x2 x3 y0 y1 y2 σ = some o) : G K 140 [some (.ref (kad K 4)), some (.int x1), some (.int x2), some (.int x3), none, none] [.int y0, .int y1, .int y2, .ref (kad K 8)] (Wd K layC σ) := by
  unfold fX7_openWays_b140 at h
  refine g_iadd C.c dX7_openWays_140 ?_
  obtain ⟨c9, h⟩ := chk h
  refine g_iast C dX7_openWays_141 rfl c9 ?_
  refine g_iinc C.c (i := 3) (y := (1 : Int32)) (L' := [some (.ref (kad K 4)), some (.int x1), some (.int x2), some (.int (x3 + (1 : Int32))), none, none]) dX7_openWays_142 rfl (by decide) (Nat.le_of_ble_eq_true rfl) rfl ?_
  refine g_goto C.c (tgt := 40) dX7_openWays_145 (by decide) ?_
  exact g_mask [true, true, true, true, false, false] rfl (hI _ (Option.some.inj h).symm)
set_option maxRecDepth 4000 in
theorem bX7_openWays_b116 {K : KT} {x1 : Int32} {x2 : Int32} {x3 : Int32} {x4 : Int32} {x5 : Int32} {y0 : Int32} {y1 : Int32} {u2 : Nat} {σ : Sg} {o : (Int32 × Sg) ⊕ ((Sg))} (C : Cx K layC cX7_openWays RX7 6 (2) none) (hu2 : layC[u2]? = some (1, 4, [])) (hI : ∀ s' : Int32 × Sg, o = .inl s' → G K 40 [some (.ref (kad K 4)), some (.int x1), some (.int x2), some (.int s'.1), none, none] [] (Wd K layC s'.2)) (hE0 : ∀ t : Sg, o = .inr t → G K 148 [some (.ref (kad K 4)), some (.int x1), some (.int x2), none, none, none] [] (Wd K layC t)) (h : fX7_openWays_b116 x1 x2 x3 x4 x5 y0 y1 u2 σ = some o) : G K 116 [some (.ref (kad K 4)), some (.int x1), some (.int x2), some (.int x3), some (.int x4), some (.int x5)] [.int y0, .int y1, .ref (kad K u2)] (Wd K layC σ) := by
  unfold fX7_openWays_b116 at h
  obtain ⟨c7, h⟩ := chk h
  refine g_iast C dX7_openWays_116 hu2 c7 ?_
  refine g_aload_n C.c dX7_openWays_117 rfl (i := 0) rfl ?_
  refine gf_7_21 C dX7_openWays_118 ?_
  refine g_iload_n C.c dX7_openWays_121 rfl (i := 2) rfl ?_
  refine g_dup2 C.c dX7_openWays_122 rfl rfl ?_
  obtain ⟨c8, h⟩ := chk h
  refine g_iald C dX7_openWays_123 rfl c8 ?_
  refine g_iload C.c dX7_openWays_124 (i := 5) rfl ?_
  refine g_if_eq C.c (tgt := 139) dX7_openWays_126 (by decide) (fun c => ?_) (fun c => ?_)
  · replace h := ite_t c h
    refine g_iconst C.c dX7_openWays_139 (v := (0 : Int32)) (by decide) ?_
    exact g_mask [true, true, true, true, false, false] rfl (bX7_openWays_b140 C hI hE0 h)
  · replace h := ite_f c h
    refine g_aload_n C.c dX7_openWays_129 rfl (i := 0) rfl ?_
    refine gf_7_21 C dX7_openWays_130 ?_
    refine g_iload C.c dX7_openWays_133 (i := 4) rfl ?_
    obtain ⟨c10, h⟩ := chk h
    refine g_iald C dX7_openWays_135 rfl c10 ?_
    refine g_goto C.c (tgt := 140) dX7_openWays_136 (by decide) ?_
    exact g_mask [true, true, true, true, false, false] rfl (bX7_openWays_b140 C hI hE0 h)
set_option maxRecDepth 4000 in
theorem bX7_openWays_b96 {K : KT} {x1 : Int32} {x2 : Int32} {x3 : Int32} {x4 : Int32} {y0 : Int32} {σ : Sg} {o : (Int32 × Sg) ⊕ ((Sg))} (C : Cx K layC cX7_openWays RX7 6 (2) none)  (hI : ∀ s' : Int32 × Sg, o = .inl s' → G K 40 [some (.ref (kad K 4)), some (.int x1), some (.int x2), some (.int s'.1), none, none] [] (Wd K layC s'.2)) (hE0 : ∀ t : Sg, o = .inr t → G K 148 [some (.ref (kad K 4)), some (.int x1), some (.int x2), none, none, none] [] (Wd K layC t)) (h : fX7_openWays_b96 x1 x2 x3 x4 y0 σ = some o) : G K 96 [some (.ref (kad K 4)), some (.int x1), some (.int x2), some (.int x3), some (.int x4), none] [.int y0] (Wd K layC σ) := by
  unfold fX7_openWays_b96 at h
  refine g_istore C.c (i := 5) (L' := [some (.ref (kad K 4)), some (.int x1), some (.int x2), some (.int x3), some (.int x4), some (.int y0)]) dX7_openWays_96 (Nat.le_of_ble_eq_true rfl) rfl ?_
  refine g_aload_n C.c dX7_openWays_98 rfl (i := 0) rfl ?_
  refine gf_7_26 C dX7_openWays_99 ?_
  refine g_iload_n C.c dX7_openWays_102 rfl (i := 2) rfl ?_
  obtain ⟨c5, h⟩ := chk h
  have hs6 := rw_9 (inb_lt c5)
  refine g_aald5 C (b := 40) dX7_openWays_103 rfl c5 rfl ?_
  refine g_iload_n C.c dX7_openWays_104 rfl (i := 3) rfl ?_
  refine g_iload C.c dX7_openWays_105 (i := 5) rfl ?_
  refine g_if_eq C.c (tgt := 115) dX7_openWays_107 (by decide) (fun c => ?_) (fun c => ?_)
  · replace h := ite_t c h
    refine g_iconst C.c dX7_openWays_115 (v := (-1 : Int32)) (by decide) ?_
    exact g_mask [true, true, true, true, true, true] rfl (bX7_openWays_b116 C hs6 hI hE0 h)
  · replace h := ite_f c h
    refine g_iload C.c dX7_openWays_110 (i := 4) rfl ?_
    refine g_goto C.c (tgt := 116) dX7_openWays_112 (by decide) ?_
    exact g_mask [true, true, true, true, true, true] rfl (bX7_openWays_b116 C hs6 hI hE0 h)
set_option maxRecDepth 4000 in
theorem bX7_openWays_b95 {K : KT} {x1 : Int32} {x2 : Int32} {x3 : Int32} {x4 : Int32} {σ : Sg} {o : (Int32 × Sg) ⊕ ((Sg))} (C : Cx K layC cX7_openWays RX7 6 (2) none)  (hI : ∀ s' : Int32 × Sg, o = .inl s' → G K 40 [some (.ref (kad K 4)), some (.int x1), some (.int x2), some (.int s'.1), none, none] [] (Wd K layC s'.2)) (hE0 : ∀ t : Sg, o = .inr t → G K 148 [some (.ref (kad K 4)), some (.int x1), some (.int x2), none, none, none] [] (Wd K layC t)) (h : fX7_openWays_b95 x1 x2 x3 x4 σ = some o) : G K 95 [some (.ref (kad K 4)), some (.int x1), some (.int x2), some (.int x3), some (.int x4), none] [] (Wd K layC σ) := by
  unfold fX7_openWays_b95 at h
  refine g_iconst C.c dX7_openWays_95 (v := (0 : Int32)) (by decide) ?_
  exact g_mask [true, true, true, true, true, false] rfl (bX7_openWays_b96 C hI hE0 h)
set_option maxRecDepth 4000 in
theorem bX7_openWays_b40 {K : KT} {x1 : Int32} {x2 : Int32} {x3 : Int32} {σ : Sg} {o : (Int32 × Sg) ⊕ ((Sg))} (C : Cx K layC cX7_openWays RX7 6 (2) none)  (hI : ∀ s' : Int32 × Sg, o = .inl s' → G K 40 [some (.ref (kad K 4)), some (.int x1), some (.int x2), some (.int s'.1), none, none] [] (Wd K layC s'.2)) (hE0 : ∀ t : Sg, o = .inr t → G K 148 [some (.ref (kad K 4)), some (.int x1), some (.int x2), none, none, none] [] (Wd K layC t)) (h : fX7_openWays_b40 x1 x2 x3 σ = some o) : G K 40 [some (.ref (kad K 4)), some (.int x1), some (.int x2), some (.int x3), none, none] [] (Wd K layC σ) := by
  unfold fX7_openWays_b40 at h
  refine g_iload_n C.c dX7_openWays_40 rfl (i := 3) rfl ?_
  refine g_iconst C.c dX7_openWays_41 (v := (4 : Int32)) (by decide) ?_
  refine g_icmp_ge C.c (tgt := 148) dX7_openWays_42 (by decide) (fun c => ?_) (fun c => ?_)
  · replace h := ite_t c h
    exact g_mask [true, true, true, false, false, false] rfl (hE0 _ (Option.some.inj h).symm)
  · replace h := ite_f c h
    refine g_aload_n C.c dX7_openWays_45 rfl (i := 0) rfl ?_
    refine g_iload_n C.c dX7_openWays_46 rfl (i := 2) rfl ?_
    refine g_iload_n C.c dX7_openWays_47 rfl (i := 3) rfl ?_
    obtain ⟨p3, e4, h⟩ := Option.bind_eq_some_iff.mp h
    refine kc_7_72 C dX7_openWays_48 e4 (Nat.le_of_ble_eq_true rfl) rfl (Nat.le_of_ble_eq_true rfl) ?_
    refine g_istore C.c (i := 4) (L' := [some (.ref (kad K 4)), some (.int x1), some (.int x2), some (.int x3), some (.int p3.1), none]) dX7_openWays_51 (Nat.le_of_ble_eq_true rfl) rfl ?_
    refine g_iload C.c dX7_openWays_53 (i := 4) rfl ?_
    refine g_iconst C.c dX7_openWays_55 (v := (-1 : Int32)) (by decide) ?_
    refine g_icmp_eq C.c (tgt := 95) dX7_openWays_56 (by decide) (fun c => ?_) (fun c => ?_)
    · replace h := ite_t c h
      exact g_mask [true, true, true, true, true, false] rfl (bX7_openWays_b95 C hI hE0 h)
    · replace h := ite_f c h
      refine g_aload_n C.c dX7_openWays_59 rfl (i := 0) rfl ?_
      refine gf_7_11 C dX7_openWays_60 ?_
      refine g_iload_n C.c dX7_openWays_63 rfl (i := 2) rfl ?_
      obtain ⟨c11, h⟩ := chk h
      refine g_iald C dX7_openWays_64 rfl c11 ?_
      refine g_bipush C.c dX7_openWays_65 (v := (11 : Int32)) (by decide) ?_
      refine g_icmp_eq C.c (tgt := 95) dX7_openWays_67 (by decide) (fun c => ?_) (fun c => ?_)
      · replace h := ite_t c h
        exact g_mask [true, true, true, true, true, false] rfl (bX7_openWays_b95 C hI hE0 h)
      · replace h := ite_f c h
        refine g_aload_n C.c dX7_openWays_70 rfl (i := 0) rfl ?_
        refine gf_7_18 C dX7_openWays_71 ?_
        refine g_iload C.c dX7_openWays_74 (i := 4) rfl ?_
        obtain ⟨c12, h⟩ := chk h
        refine g_iald C dX7_openWays_76 rfl c12 ?_
        refine g_iload_n C.c dX7_openWays_77 rfl (i := 1) rfl ?_
        refine g_icmp_ge C.c (tgt := 95) dX7_openWays_78 (by decide) (fun c => ?_) (fun c => ?_)
        · replace h := ite_t c h
          exact g_mask [true, true, true, true, true, false] rfl (bX7_openWays_b95 C hI hE0 h)
        · replace h := ite_f c h
          refine g_aload_n C.c dX7_openWays_81 rfl (i := 0) rfl ?_
          refine gf_7_21 C dX7_openWays_82 ?_
          refine g_iload C.c dX7_openWays_85 (i := 4) rfl ?_
          obtain ⟨c13, h⟩ := chk h
          refine g_iald C dX7_openWays_87 rfl c13 ?_
          refine g_if_le C.c (tgt := 95) dX7_openWays_88 (by decide) (fun c => ?_) (fun c => ?_)
          · replace h := ite_t c h
            exact g_mask [true, true, true, true, true, false] rfl (bX7_openWays_b95 C hI hE0 h)
          · replace h := ite_f c h
            refine g_iconst C.c dX7_openWays_91 (v := (1 : Int32)) (by decide) ?_
            refine g_goto C.c (tgt := 96) dX7_openWays_92 (by decide) ?_
            exact g_mask [true, true, true, true, true, false] rfl (bX7_openWays_b96 C hI hE0 h)
set_option maxRecDepth 4000 in
theorem bX7_openWays_b148 {K : KT} {x1 : Int32} {x2 : Int32} {σ : Sg} {o : (Int32 × Sg) ⊕ ((Sg))} (C : Cx K layC cX7_openWays RX7 6 (2) none)  (hI : ∀ s' : Int32 × Sg, o = .inl s' → G K 2 [some (.ref (kad K 4)), some (.int x1), some (.int s'.1), none, none, none] [] (Wd K layC s'.2)) (hE0 : ∀ t : Sg, o = .inr t → G K 154 [none, none, none, none, none, none] [] (Wd K layC t)) (h : fX7_openWays_b148 x1 x2 σ = some o) : G K 148 [some (.ref (kad K 4)), some (.int x1), some (.int x2), none, none, none] [] (Wd K layC σ) := by
  unfold fX7_openWays_b148 at h
  refine g_iinc C.c (i := 2) (y := (1 : Int32)) (L' := [some (.ref (kad K 4)), some (.int x1), some (.int (x2 + (1 : Int32))), none, none, none]) dX7_openWays_148 rfl (by decide) (Nat.le_of_ble_eq_true rfl) rfl ?_
  refine g_goto C.c (tgt := 2) dX7_openWays_151 (by decide) ?_
  exact g_mask [true, true, true, false, false, false] rfl (hI _ (Option.some.inj h).symm)
set_option maxRecDepth 4000 in
theorem bX7_openWays_b37 {K : KT} {x1 : Int32} {x2 : Int32} {y0 : Int32} {y1 : Int32} {σ : Sg} {o : (Int32 × Sg) ⊕ ((Sg))} (C : Cx K layC cX7_openWays RX7 6 (2) none)  (hI : ∀ s' : Int32 × Sg, o = .inl s' → G K 2 [some (.ref (kad K 4)), some (.int x1), some (.int s'.1), none, none, none] [] (Wd K layC s'.2)) (hE0 : ∀ t : Sg, o = .inr t → G K 154 [none, none, none, none, none, none] [] (Wd K layC t)) (h : fX7_openWays_b37 x1 x2 y0 y1 σ = some o) : G K 37 [some (.ref (kad K 4)), some (.int x1), some (.int x2), none, none, none] [.int y0, .int y1, .ref (kad K 8)] (Wd K layC σ) := by
  unfold fX7_openWays_b37 at h
  obtain ⟨c2, h⟩ := chk h
  refine g_iast C dX7_openWays_37 rfl c2 ?_
  refine g_iconst C.c dX7_openWays_38 (v := (0 : Int32)) (by decide) ?_
  refine g_istore_n C.c (i := 3) (L' := [some (.ref (kad K 4)), some (.int x1), some (.int x2), some (.int (0 : Int32)), none, none]) dX7_openWays_39 rfl (Nat.le_of_ble_eq_true rfl) rfl ?_
  refine g_mask [true, true, true, true, false, false] rfl ?_
  refine lp_bind (Gh := fun s => G K 40 [some (.ref (kad K 4)), some (.int x1), some (.int x2), some (.int s.1), none, none] [] (Wd K layC s.2)) h (fun s o2 hf gI gE => ?_)
  refine bX7_openWays_b40 C gI (fun t14 e => ?_) hf
  · have h := gE _ e
    exact g_mask [true, true, true, false, false, false] rfl (bX7_openWays_b148 C hI hE0 h)
set_option maxRecDepth 4000 in
theorem bX7_openWays_b2 {K : KT} {x1 : Int32} {x2 : Int32} {σ : Sg} {o : (Int32 × Sg) ⊕ ((Sg))} (C : Cx K layC cX7_openWays RX7 6 (2) none)  (hI : ∀ s' : Int32 × Sg, o = .inl s' → G K 2 [some (.ref (kad K 4)), some (.int x1), some (.int s'.1), none, none, none] [] (Wd K layC s'.2)) (hE0 : ∀ t : Sg, o = .inr t → G K 154 [none, none, none, none, none, none] [] (Wd K layC t)) (h : fX7_openWays_b2 x1 x2 σ = some o) : G K 2 [some (.ref (kad K 4)), some (.int x1), some (.int x2), none, none, none] [] (Wd K layC σ) := by
  unfold fX7_openWays_b2 at h
  refine g_iload_n C.c dX7_openWays_2 rfl (i := 2) rfl ?_
  refine g_aload_n C.c dX7_openWays_3 rfl (i := 0) rfl ?_
  refine gf_7_29 C dX7_openWays_4 ?_
  refine g_icmp_ge C.c (tgt := 154) dX7_openWays_7 (by decide) (fun c => ?_) (fun c => ?_)
  · replace h := ite_t c h
    exact g_mask [false, false, false, false, false, false] rfl (hE0 _ (Option.some.inj h).symm)
  · replace h := ite_f c h
    refine g_aload_n C.c dX7_openWays_10 rfl (i := 0) rfl ?_
    refine gf_7_18 C dX7_openWays_11 ?_
    refine g_iload_n C.c dX7_openWays_14 rfl (i := 2) rfl ?_
    obtain ⟨c1, h⟩ := chk h
    refine g_iald C dX7_openWays_15 rfl c1 ?_
    refine g_iload_n C.c dX7_openWays_16 rfl (i := 1) rfl ?_
    refine g_icmp_eq C.c (tgt := 23) dX7_openWays_17 (by decide) (fun c => ?_) (fun c => ?_)
    · replace h := ite_t c h
      refine g_aload_n C.c dX7_openWays_23 rfl (i := 0) rfl ?_
      refine gf_7_21 C dX7_openWays_24 ?_
      refine g_iload_n C.c dX7_openWays_27 rfl (i := 2) rfl ?_
      refine g_iload_n C.c dX7_openWays_28 rfl (i := 1) rfl ?_
      refine g_if_ne C.c (tgt := 36) dX7_openWays_29 (by decide) (fun c => ?_) (fun c => ?_)
      · replace h := ite_f c h
        refine g_iconst C.c dX7_openWays_36 (v := (0 : Int32)) (by decide) ?_
        exact g_mask [true, true, true, false, false, false] rfl (bX7_openWays_b37 C hI hE0 h)
      · replace h := ite_t c h
        refine g_iconst C.c dX7_openWays_32 (v := (1 : Int32)) (by decide) ?_
        refine g_goto C.c (tgt := 37) dX7_openWays_33 (by decide) ?_
        exact g_mask [true, true, true, false, false, false] rfl (bX7_openWays_b37 C hI hE0 h)
    · replace h := ite_f c h
      refine g_goto C.c (tgt := 148) dX7_openWays_20 (by decide) ?_
      exact g_mask [true, true, true, false, false, false] rfl (bX7_openWays_b148 C hI hE0 h)
set_option maxRecDepth 4000 in
theorem bX7_openWays_b0 {K : KT} {x1 : Int32} {σ : Sg} {o : Sg} (C : Cx K layC cX7_openWays RX7 6 (2) none)  (hQ : Rk K layC (okV o)) (h : fX7_openWays_b0 x1 σ = some o) : G K 0 [some (.ref (kad K 4)), some (.int x1), none, none, none, none] [] (Wd K layC σ) := by
  unfold fX7_openWays_b0 at h
  refine g_iconst C.c dX7_openWays_0 (v := (0 : Int32)) (by decide) ?_
  refine g_istore_n C.c (i := 2) (L' := [some (.ref (kad K 4)), some (.int x1), some (.int (0 : Int32)), none, none, none]) dX7_openWays_1 rfl (Nat.le_of_ble_eq_true rfl) rfl ?_
  refine g_mask [true, true, true, false, false, false] rfl ?_
  refine lp_bind (Gh := fun s => G K 2 [some (.ref (kad K 4)), some (.int x1), some (.int s.1), none, none, none] [] (Wd K layC s.2)) h (fun s o2 hf gI gE => ?_)
  refine bX7_openWays_b2 C gI (fun t16 e => ?_) hf
  · have h := gE _ e
    obtain rfl := Option.some.inj h
    exact g_vret C hQ dX7_openWays_154 ⟨rfl, rfl⟩
def fX7_openWays (a0 : Int32) (σ : Sg) : Option (Sg) := fX7_openWays_b0 a0 σ
theorem ct_X7_openWays {a0 : Int32} {σ : Sg} {p : Sg} (h : fX7_openWays a0 σ = some p) : Ct layC yX7_openWays cX7_openWays 6 none 2 (fun ad => [.ref (ad 4), .int a0]) σ (okV p) :=
 ct_of (L0 := fun ad => [some (.ref (ad 4)), some (.int a0), none, none, none, none]) (by decide) (fun _ => Nat.le_of_ble_eq_true rfl) (fun _ => rfl) (fun K C hQ => g_mask [true, true, false, false, false, false] rfl (bX7_openWays_b0 C hQ h))
-- X7_lay
theorem dX7_lay_0 : decode cX7_lay 0 = .ok (.aload_n 0, 1) := by decide +kernel
theorem dX7_lay_1 : decode cX7_lay 1 = .ok (.iconst 0, 1) := by decide +kernel
theorem dX7_lay_2 : decode cX7_lay 2 = .ok (.putfield 29, 3) := by decide +kernel
theorem dX7_lay_5 : decode cX7_lay 5 = .ok (.aload_n 0, 1) := by decide +kernel
theorem dX7_lay_6 : decode cX7_lay 6 = .ok (.iconst 0, 1) := by decide +kernel
theorem dX7_lay_7 : decode cX7_lay 7 = .ok (.putfield 37, 3) := by decide +kernel
theorem dX7_lay_10 : decode cX7_lay 10 = .ok (.iconst 0, 1) := by decide +kernel
theorem dX7_lay_11 : decode cX7_lay 11 = .ok (.istore_n 2, 1) := by decide +kernel
theorem dX7_lay_12 : decode cX7_lay 12 = .ok (.iload_n 2, 1) := by decide +kernel
theorem dX7_lay_13 : decode cX7_lay 13 = .ok (.aload_n 1, 1) := by decide +kernel
theorem dX7_lay_14 : decode cX7_lay 14 = .ok (.getfield 40, 3) := by decide +kernel
theorem dX7_lay_17 : decode cX7_lay 17 = .ok (.if_icmp .ge 18, 3) := by decide +kernel
theorem dX7_lay_20 : decode cX7_lay 20 = .ok (.aload_n 0, 1) := by decide +kernel
theorem dX7_lay_21 : decode cX7_lay 21 = .ok (.aload_n 1, 1) := by decide +kernel
theorem dX7_lay_22 : decode cX7_lay 22 = .ok (.iload_n 2, 1) := by decide +kernel
theorem dX7_lay_23 : decode cX7_lay 23 = .ok (.invokevirtual 45, 3) := by decide +kernel
theorem dX7_lay_26 : decode cX7_lay 26 = .ok (.invokevirtual 49, 3) := by decide +kernel
theorem dX7_lay_29 : decode cX7_lay 29 = .ok (.iinc 2 1, 3) := by decide +kernel
theorem dX7_lay_32 : decode cX7_lay 32 = .ok (.goto (-20), 3) := by decide +kernel
theorem dX7_lay_35 : decode cX7_lay 35 = .ok (.aload_n 0, 1) := by decide +kernel
theorem dX7_lay_36 : decode cX7_lay 36 = .ok (.invokevirtual 53, 3) := by decide +kernel
theorem dX7_lay_39 : decode cX7_lay 39 = .ok (.iconst 0, 1) := by decide +kernel
theorem dX7_lay_40 : decode cX7_lay 40 = .ok (.istore_n 2, 1) := by decide +kernel
theorem dX7_lay_41 : decode cX7_lay 41 = .ok (.iload_n 2, 1) := by decide +kernel
theorem dX7_lay_42 : decode cX7_lay 42 = .ok (.bipush 9, 2) := by decide +kernel
theorem dX7_lay_44 : decode cX7_lay 44 = .ok (.if_icmp .gt 14, 3) := by decide +kernel
theorem dX7_lay_47 : decode cX7_lay 47 = .ok (.aload_n 0, 1) := by decide +kernel
theorem dX7_lay_48 : decode cX7_lay 48 = .ok (.iload_n 2, 1) := by decide +kernel
theorem dX7_lay_49 : decode cX7_lay 49 = .ok (.invokevirtual 58, 3) := by decide +kernel
theorem dX7_lay_52 : decode cX7_lay 52 = .ok (.iinc 2 1, 3) := by decide +kernel
theorem dX7_lay_55 : decode cX7_lay 55 = .ok (.goto (-14), 3) := by decide +kernel
theorem dX7_lay_58 : decode cX7_lay 58 = .ok (.return_, 1) := by decide +kernel
theorem cw_X7_lay : Cw yX7_lay cX7_lay 3 none 1 := ⟨aw_444, aw_49, ⟨by decide, by decide⟩, by decide +kernel, by decide⟩
theorem gf_7_40 {K : KT} {cc : ByteArray} {nL d pc : Nat} {ret : Option FieldType} {L : List (Option Value)} {st : List Value} {σ : Sg} (C : Cx K layC cc RX7 nL d ret)  (hd : decode cc pc = .ok (.getfield 40, 3)) (k : G K (pc + 3) L (.int (rI σ 1 1) :: st) (Wd K layC σ)) : G K pc L (.ref (kad K 1) :: st) (Wd K layC σ) := g_get C (o := 1) (ci := 6) (k := 1) hd rfl rfl rfl (by decide) (Or.inr ⟨_, aw_75⟩) inA6 rfl k
theorem kc_7_45 {K : KT} {cc : ByteArray} {nL d pc : Nat} {ret : Option FieldType} {L : List (Option Value)} {st : List Value} {σ : Sg} (C : Cx K layC cc RX7 nL d ret)  {a0 : Int32}  {p : Int32 × Sg} (hd : decode cc pc = .ok (.invokevirtual 45, 3)) (e : fX6_codeAt a0 σ = some p) (hdd : 1 + 1 ≤ d) (hLn : L.length = nL) (hr : (st.map fun v => v.category).sum ≤ 8) (k : G K (pc + 3) L (.int p.1 :: st) (Wd K layC p.2)) : G K pc L (.int a0 :: .ref (kad K 1) :: st) (Wd K layC σ) :=
  g_callV C (As := [.int a0]) (rest := st) (o := 1) (ci := 6) hd (ct_X6_codeAt e) cw_X6_codeAt (Or.inl aw_445) aw_446 aw_447 rfl rfl rfl hdd hLn rfl rfl hr (fun v τ q => by obtain ⟨rfl, rfl⟩ := q; exact k)
theorem kc_7_49 {K : KT} {cc : ByteArray} {nL d pc : Nat} {ret : Option FieldType} {L : List (Option Value)} {st : List Value} {σ : Sg} (C : Cx K layC cc RX7 nL d ret)  {a0 : Int32}  {p : Sg} (hd : decode cc pc = .ok (.invokevirtual 49, 3)) (e : fX7_layLetter a0 σ = some p) (hdd : 2 + 1 ≤ d) (hLn : L.length = nL) (hr : (st.map fun v => v.category).sum ≤ 8) (k : G K (pc + 3) L (st) (Wd K layC p)) : G K pc L (.int a0 :: .ref (kad K 4) :: st) (Wd K layC σ) :=
  g_callV C (As := [.int a0]) (rest := st) (o := 4) (ci := 7) hd (ct_X7_layLetter e) cw_X7_layLetter (Or.inl aw_449) aw_451 aw_3 rfl rfl rfl hdd hLn rfl rfl hr (fun v τ q => by obtain ⟨rfl, rfl⟩ := q; exact k)
theorem kc_7_53 {K : KT} {cc : ByteArray} {nL d pc : Nat} {ret : Option FieldType} {L : List (Option Value)} {st : List Value} {σ : Sg} (C : Cx K layC cc RX7 nL d ret)    {p : Sg} (hd : decode cc pc = .ok (.invokevirtual 53, 3)) (e : fX7_measure σ = some p) (hdd : 1 + 1 ≤ d) (hLn : L.length = nL) (hr : (st.map fun v => v.category).sum ≤ 8) (k : G K (pc + 3) L (st) (Wd K layC p)) : G K pc L (.ref (kad K 4) :: st) (Wd K layC σ) :=
  g_callV C (As := []) (rest := st) (o := 4) (ci := 7) hd (ct_X7_measure e) cw_X7_measure (Or.inl aw_454) aw_456 aw_4 rfl rfl rfl hdd hLn rfl rfl hr (fun v τ q => by obtain ⟨rfl, rfl⟩ := q; exact k)
theorem kc_7_58 {K : KT} {cc : ByteArray} {nL d pc : Nat} {ret : Option FieldType} {L : List (Option Value)} {st : List Value} {σ : Sg} (C : Cx K layC cc RX7 nL d ret)  {a0 : Int32}  {p : Sg} (hd : decode cc pc = .ok (.invokevirtual 58, 3)) (e : fX7_openWays a0 σ = some p) (hdd : 2 + 1 ≤ d) (hLn : L.length = nL) (hr : (st.map fun v => v.category).sum ≤ 8) (k : G K (pc + 3) L (st) (Wd K layC p)) : G K pc L (.int a0 :: .ref (kad K 4) :: st) (Wd K layC σ) :=
  g_callV C (As := [.int a0]) (rest := st) (o := 4) (ci := 7) hd (ct_X7_openWays e) cw_X7_openWays (Or.inl aw_461) aw_463 aw_5 rfl rfl rfl hdd hLn rfl rfl hr (fun v τ q => by obtain ⟨rfl, rfl⟩ := q; exact k)
def fX7_lay_b12 (x2 : Int32) (σ : Sg) : Option ((Int32 × Sg) ⊕ ((Sg))) :=
  if (rI σ 1 1) ≤ x2 then (some (.inr σ)) else (Option.bind (fX6_codeAt x2 σ) fun p1 => (Option.bind (fX7_layLetter p1.1 p1.2) fun p3 => (some (.inl ((x2 + (1 : Int32)), p3)))))
def fX7_lay_b41 (x2 : Int32) (σ : Sg) : Option ((Int32 × Sg) ⊕ ((Sg))) :=
  if (9 : Int32) < x2 then (some (.inr σ)) else (Option.bind (fX7_openWays x2 σ) fun p9 => (some (.inl ((x2 + (1 : Int32)), p9))))
def fX7_lay_b0  (σ : Sg) : Option (Sg) :=
  Option.bind (lp (fun s => fX7_lay_b12 s.1 s.2) FU ((0 : Int32), (wI (wI σ 4 5 (0 : Int32)) 4 6 (0 : Int32)))) fun t5 => Option.bind (fX7_measure t5) fun p7 => (Option.bind (lp (fun s => fX7_lay_b41 s.1 s.2) FU ((0 : Int32), p7)) fun t11 => some t11)
set_option maxRecDepth 4000 in
theorem bX7_lay_b12 {K : KT} {x2 : Int32} {σ : Sg} {o : (Int32 × Sg) ⊕ ((Sg))} (C : Cx K layC cX7_lay RX7 3 (3) none)  (hI : ∀ s' : Int32 × Sg, o = .inl s' → G K 12 [some (.ref (kad K 4)), some (.ref (kad K 1)), some (.int s'.1)] [] (Wd K layC s'.2)) (hE0 : ∀ t : Sg, o = .inr t → G K 35 [some (.ref (kad K 4)), none, none] [] (Wd K layC t)) (h : fX7_lay_b12 x2 σ = some o) : G K 12 [some (.ref (kad K 4)), some (.ref (kad K 1)), some (.int x2)] [] (Wd K layC σ) := by
  unfold fX7_lay_b12 at h
  refine g_iload_n C.c dX7_lay_12 rfl (i := 2) rfl ?_
  refine g_aload_n C.c dX7_lay_13 rfl (i := 1) rfl ?_
  refine gf_7_40 C dX7_lay_14 ?_
  refine g_icmp_ge C.c (tgt := 35) dX7_lay_17 (by decide) (fun c => ?_) (fun c => ?_)
  · replace h := ite_t c h
    exact g_mask [true, false, false] rfl (hE0 _ (Option.some.inj h).symm)
  · replace h := ite_f c h
    refine g_aload_n C.c dX7_lay_20 rfl (i := 0) rfl ?_
    refine g_aload_n C.c dX7_lay_21 rfl (i := 1) rfl ?_
    refine g_iload_n C.c dX7_lay_22 rfl (i := 2) rfl ?_
    obtain ⟨p1, e2, h⟩ := Option.bind_eq_some_iff.mp h
    refine kc_7_45 C dX7_lay_23 e2 (Nat.le_of_ble_eq_true rfl) rfl (Nat.le_of_ble_eq_true rfl) ?_
    obtain ⟨p3, e4, h⟩ := Option.bind_eq_some_iff.mp h
    refine kc_7_49 C dX7_lay_26 e4 (Nat.le_of_ble_eq_true rfl) rfl (Nat.le_of_ble_eq_true rfl) ?_
    refine g_iinc C.c (i := 2) (y := (1 : Int32)) (L' := [some (.ref (kad K 4)), some (.ref (kad K 1)), some (.int (x2 + (1 : Int32)))]) dX7_lay_29 rfl (by decide) (Nat.le_of_ble_eq_true rfl) rfl ?_
    refine g_goto C.c (tgt := 12) dX7_lay_32 (by decide) ?_
    exact g_mask [true, true, true] rfl (hI _ (Option.some.inj h).symm)
set_option maxRecDepth 4000 in
theorem bX7_lay_b41 {K : KT} {x2 : Int32} {σ : Sg} {o : (Int32 × Sg) ⊕ ((Sg))} (C : Cx K layC cX7_lay RX7 3 (3) none)  (hI : ∀ s' : Int32 × Sg, o = .inl s' → G K 41 [some (.ref (kad K 4)), none, some (.int s'.1)] [] (Wd K layC s'.2)) (hE0 : ∀ t : Sg, o = .inr t → G K 58 [none, none, none] [] (Wd K layC t)) (h : fX7_lay_b41 x2 σ = some o) : G K 41 [some (.ref (kad K 4)), none, some (.int x2)] [] (Wd K layC σ) := by
  unfold fX7_lay_b41 at h
  refine g_iload_n C.c dX7_lay_41 rfl (i := 2) rfl ?_
  refine g_bipush C.c dX7_lay_42 (v := (9 : Int32)) (by decide) ?_
  refine g_icmp_gt C.c (tgt := 58) dX7_lay_44 (by decide) (fun c => ?_) (fun c => ?_)
  · replace h := ite_t c h
    exact g_mask [false, false, false] rfl (hE0 _ (Option.some.inj h).symm)
  · replace h := ite_f c h
    refine g_aload_n C.c dX7_lay_47 rfl (i := 0) rfl ?_
    refine g_iload_n C.c dX7_lay_48 rfl (i := 2) rfl ?_
    obtain ⟨p9, e10, h⟩ := Option.bind_eq_some_iff.mp h
    refine kc_7_58 C dX7_lay_49 e10 (Nat.le_of_ble_eq_true rfl) rfl (Nat.le_of_ble_eq_true rfl) ?_
    refine g_iinc C.c (i := 2) (y := (1 : Int32)) (L' := [some (.ref (kad K 4)), none, some (.int (x2 + (1 : Int32)))]) dX7_lay_52 rfl (by decide) (Nat.le_of_ble_eq_true rfl) rfl ?_
    refine g_goto C.c (tgt := 41) dX7_lay_55 (by decide) ?_
    exact g_mask [true, false, true] rfl (hI _ (Option.some.inj h).symm)
set_option maxRecDepth 4000 in
theorem bX7_lay_b0 {K : KT}  {σ : Sg} {o : Sg} (C : Cx K layC cX7_lay RX7 3 (3) none)  (hQ : Rk K layC (okV o)) (h : fX7_lay_b0  σ = some o) : G K 0 [some (.ref (kad K 4)), some (.ref (kad K 1)), none] [] (Wd K layC σ) := by
  unfold fX7_lay_b0 at h
  refine g_aload_n C.c dX7_lay_0 rfl (i := 0) rfl ?_
  refine g_iconst C.c dX7_lay_1 (v := (0 : Int32)) (by decide) ?_
  refine pf_7_29 C dX7_lay_2 ?_
  refine g_aload_n C.c dX7_lay_5 rfl (i := 0) rfl ?_
  refine g_iconst C.c dX7_lay_6 (v := (0 : Int32)) (by decide) ?_
  refine pf_7_37 C dX7_lay_7 ?_
  refine g_iconst C.c dX7_lay_10 (v := (0 : Int32)) (by decide) ?_
  refine g_istore_n C.c (i := 2) (L' := [some (.ref (kad K 4)), some (.ref (kad K 1)), some (.int (0 : Int32))]) dX7_lay_11 rfl (Nat.le_of_ble_eq_true rfl) rfl ?_
  refine g_mask [true, true, true] rfl ?_
  refine lp_bind (Gh := fun s => G K 12 [some (.ref (kad K 4)), some (.ref (kad K 1)), some (.int s.1)] [] (Wd K layC s.2)) h (fun s o2 hf gI gE => ?_)
  refine bX7_lay_b12 C gI (fun t5 e => ?_) hf
  · have h := gE _ e
    refine g_aload_n C.c dX7_lay_35 rfl (i := 0) rfl ?_
    obtain ⟨p7, e8, h⟩ := Option.bind_eq_some_iff.mp h
    refine kc_7_53 C dX7_lay_36 e8 (Nat.le_of_ble_eq_true rfl) rfl (Nat.le_of_ble_eq_true rfl) ?_
    refine g_iconst C.c dX7_lay_39 (v := (0 : Int32)) (by decide) ?_
    refine g_istore_n C.c (i := 2) (L' := [some (.ref (kad K 4)), none, some (.int (0 : Int32))]) dX7_lay_40 rfl (Nat.le_of_ble_eq_true rfl) rfl ?_
    refine g_mask [true, false, true] rfl ?_
    refine lp_bind (Gh := fun s => G K 41 [some (.ref (kad K 4)), none, some (.int s.1)] [] (Wd K layC s.2)) h (fun s o2 hf gI gE => ?_)
    refine bX7_lay_b41 C gI (fun t11 e => ?_) hf
    · have h := gE _ e
      obtain rfl := Option.some.inj h
      exact g_vret C hQ dX7_lay_58 ⟨rfl, rfl⟩
def fX7_lay (σ : Sg) : Option (Sg) := fX7_lay_b0 σ
theorem ct_X7_lay {σ : Sg} {p : Sg} (h : fX7_lay σ = some p) : Ct layC yX7_lay cX7_lay 3 none 3 (fun ad => [.ref (ad 4), .ref (ad 1)]) σ (okV p) :=
 ct_of (L0 := fun ad => [some (.ref (ad 4)), some (.ref (ad 1)), none]) (by decide) (fun _ => Nat.le_of_ble_eq_true rfl) (fun _ => rfl) (fun K C hQ => g_mask [true, true, false] rfl (bX7_lay_b0 C hQ h))
end
