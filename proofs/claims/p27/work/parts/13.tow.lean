-- X8_isHopeless
theorem dX8_isHopeless_0 : decode cX8_isHopeless 0 = .ok (.aload_n 0, 1) := by decide +kernel
theorem dX8_isHopeless_1 : decode cX8_isHopeless 1 = .ok (.getfield 21, 3) := by decide +kernel
theorem dX8_isHopeless_4 : decode cX8_isHopeless 4 = .ok (.aload_n 0, 1) := by decide +kernel
theorem dX8_isHopeless_5 : decode cX8_isHopeless 5 = .ok (.getfield 25, 3) := by decide +kernel
theorem dX8_isHopeless_8 : decode cX8_isHopeless 8 = .ok (.iload_n 1, 1) := by decide +kernel
theorem dX8_isHopeless_9 : decode cX8_isHopeless 9 = .ok (.iaload, 1) := by decide +kernel
theorem dX8_isHopeless_10 : decode cX8_isHopeless 10 = .ok (.aload_n 0, 1) := by decide +kernel
theorem dX8_isHopeless_11 : decode cX8_isHopeless 11 = .ok (.getfield 48, 3) := by decide +kernel
theorem dX8_isHopeless_14 : decode cX8_isHopeless 14 = .ok (.aload_n 0, 1) := by decide +kernel
theorem dX8_isHopeless_15 : decode cX8_isHopeless 15 = .ok (.getfield 32, 3) := by decide +kernel
theorem dX8_isHopeless_18 : decode cX8_isHopeless 18 = .ok (.iload_n 1, 1) := by decide +kernel
theorem dX8_isHopeless_19 : decode cX8_isHopeless 19 = .ok (.iaload, 1) := by decide +kernel
theorem dX8_isHopeless_20 : decode cX8_isHopeless 20 = .ok (.aload_n 0, 1) := by decide +kernel
theorem dX8_isHopeless_21 : decode cX8_isHopeless 21 = .ok (.getfield 58, 3) := by decide +kernel
theorem dX8_isHopeless_24 : decode cX8_isHopeless 24 = .ok (.invokevirtual 110, 3) := by decide +kernel
theorem dX8_isHopeless_27 : decode cX8_isHopeless 27 = .ok (.istore_n 2, 1) := by decide +kernel
theorem dX8_isHopeless_28 : decode cX8_isHopeless 28 = .ok (.aload_n 0, 1) := by decide +kernel
theorem dX8_isHopeless_29 : decode cX8_isHopeless 29 = .ok (.getfield 62, 3) := by decide +kernel
theorem dX8_isHopeless_32 : decode cX8_isHopeless 32 = .ok (.ifCond .eq 36, 3) := by decide +kernel
theorem dX8_isHopeless_35 : decode cX8_isHopeless 35 = .ok (.iload_n 2, 1) := by decide +kernel
theorem dX8_isHopeless_36 : decode cX8_isHopeless 36 = .ok (.aload_n 0, 1) := by decide +kernel
theorem dX8_isHopeless_37 : decode cX8_isHopeless 37 = .ok (.getfield 114, 3) := by decide +kernel
theorem dX8_isHopeless_40 : decode cX8_isHopeless 40 = .ok (.if_icmp .lt 24, 3) := by decide +kernel
theorem dX8_isHopeless_43 : decode cX8_isHopeless 43 = .ok (.iload_n 2, 1) := by decide +kernel
theorem dX8_isHopeless_44 : decode cX8_isHopeless 44 = .ok (.aload_n 0, 1) := by decide +kernel
theorem dX8_isHopeless_45 : decode cX8_isHopeless 45 = .ok (.getfield 114, 3) := by decide +kernel
theorem dX8_isHopeless_48 : decode cX8_isHopeless 48 = .ok (.if_icmp .ne 20, 3) := by decide +kernel
theorem dX8_isHopeless_51 : decode cX8_isHopeless 51 = .ok (.aload_n 0, 1) := by decide +kernel
theorem dX8_isHopeless_52 : decode cX8_isHopeless 52 = .ok (.getfield 32, 3) := by decide +kernel
theorem dX8_isHopeless_55 : decode cX8_isHopeless 55 = .ok (.iload_n 1, 1) := by decide +kernel
theorem dX8_isHopeless_56 : decode cX8_isHopeless 56 = .ok (.iaload, 1) := by decide +kernel
theorem dX8_isHopeless_57 : decode cX8_isHopeless 57 = .ok (.aload_n 0, 1) := by decide +kernel
theorem dX8_isHopeless_58 : decode cX8_isHopeless 58 = .ok (.getfield 96, 3) := by decide +kernel
theorem dX8_isHopeless_61 : decode cX8_isHopeless 61 = .ok (.if_icmp .lt 7, 3) := by decide +kernel
theorem dX8_isHopeless_64 : decode cX8_isHopeless 64 = .ok (.iconst 1, 1) := by decide +kernel
theorem dX8_isHopeless_65 : decode cX8_isHopeless 65 = .ok (.goto 4, 3) := by decide +kernel
theorem dX8_isHopeless_68 : decode cX8_isHopeless 68 = .ok (.iconst 0, 1) := by decide +kernel
theorem dX8_isHopeless_69 : decode cX8_isHopeless 69 = .ok (.ireturn, 1) := by decide +kernel
theorem cw_X8_isHopeless : Cw yX8_isHopeless cX8_isHopeless 3 (some .boolean) 1 := ⟨aw_504, aw_21, ⟨by decide, by decide⟩, by decide +kernel, by decide⟩
theorem gf_8_21 {K : KT} {cc : ByteArray} {nL d pc : Nat} {ret : Option FieldType} {L : List (Option Value)} {st : List Value} {σ : Sg} (C : Cx K layC cc RX8 nL d ret)  (hd : decode cc pc = .ok (.getfield 21, 3)) (k : G K (pc + 3) L (.ref (kad K 40) :: st) (Wd K layC σ)) : G K pc L (.ref (kad K 3) :: st) (Wd K layC σ) := g_get C (o := 3) (ci := 8) (k := 1) hd rfl rfl rfl (by decide) (Or.inl aw_162) inA8 rfl k
theorem gf_8_25 {K : KT} {cc : ByteArray} {nL d pc : Nat} {ret : Option FieldType} {L : List (Option Value)} {st : List Value} {σ : Sg} (C : Cx K layC cc RX8 nL d ret)  (hd : decode cc pc = .ok (.getfield 25, 3)) (k : G K (pc + 3) L (.ref (kad K 42) :: st) (Wd K layC σ)) : G K pc L (.ref (kad K 3) :: st) (Wd K layC σ) := g_get C (o := 3) (ci := 8) (k := 2) hd rfl rfl rfl (by decide) (Or.inl aw_164) inA8 rfl k
theorem gf_8_48 {K : KT} {cc : ByteArray} {nL d pc : Nat} {ret : Option FieldType} {L : List (Option Value)} {st : List Value} {σ : Sg} (C : Cx K layC cc RX8 nL d ret)  (hd : decode cc pc = .ok (.getfield 48, 3)) (k : G K (pc + 3) L (.int (rI σ 3 8) :: st) (Wd K layC σ)) : G K pc L (.ref (kad K 3) :: st) (Wd K layC σ) := g_get C (o := 3) (ci := 8) (k := 8) hd rfl rfl rfl (by decide) (Or.inl aw_170) inA8 rfl k
theorem gf_8_32 {K : KT} {cc : ByteArray} {nL d pc : Nat} {ret : Option FieldType} {L : List (Option Value)} {st : List Value} {σ : Sg} (C : Cx K layC cc RX8 nL d ret)  (hd : decode cc pc = .ok (.getfield 32, 3)) (k : G K (pc + 3) L (.ref (kad K 44) :: st) (Wd K layC σ)) : G K pc L (.ref (kad K 3) :: st) (Wd K layC σ) := g_get C (o := 3) (ci := 8) (k := 4) hd rfl rfl rfl (by decide) (Or.inl aw_166) inA8 rfl k
theorem gf_8_58 {K : KT} {cc : ByteArray} {nL d pc : Nat} {ret : Option FieldType} {L : List (Option Value)} {st : List Value} {σ : Sg} (C : Cx K layC cc RX8 nL d ret)  (hd : decode cc pc = .ok (.getfield 58, 3)) (k : G K (pc + 3) L (.int (rI σ 3 9) :: st) (Wd K layC σ)) : G K pc L (.ref (kad K 3) :: st) (Wd K layC σ) := g_get C (o := 3) (ci := 8) (k := 9) hd rfl rfl rfl (by decide) (Or.inl aw_171) inA8 rfl k
theorem kc_8_110 {K : KT} {cc : ByteArray} {nL d pc : Nat} {ret : Option FieldType} {L : List (Option Value)} {st : List Value} {σ : Sg} (C : Cx K layC cc RX8 nL d ret)  {o0 : Nat} {a0 : Int32} {a1 : Int32} {a2 : Int32} {a3 : Int32} (hY0 : layC[o0]? = some (0, 1, slX1)) {p : Int32 × Sg} (hd : decode cc pc = .ok (.invokevirtual 110, 3)) (e : fX1_gainOf o0 a0 a1 a2 a3 σ = some p) (hdd : 1 + 1 ≤ d) (hLn : L.length = nL) (hr : (st.map fun v => v.category).sum ≤ 8) (k : G K (pc + 3) L (.int p.1 :: st) (Wd K layC p.2)) : G K pc L (.int a3 :: .int a2 :: .int a1 :: .int a0 :: .ref (kad K o0) :: st) (Wd K layC σ) :=
  g_callV C (As := [.int a0, .int a1, .int a2, .int a3]) (rest := st) (o := o0) (ci := 1) hd (ct_X1_gainOf hY0 e) cw_X1_gainOf (Or.inl aw_505) aw_506 aw_507 rfl rfl rfl hdd hLn hY0 rfl hr (fun v τ q => by obtain ⟨rfl, rfl⟩ := q; exact k)
theorem gf_8_62 {K : KT} {cc : ByteArray} {nL d pc : Nat} {ret : Option FieldType} {L : List (Option Value)} {st : List Value} {σ : Sg} (C : Cx K layC cc RX8 nL d ret)  (hd : decode cc pc = .ok (.getfield 62, 3)) (k : G K (pc + 3) L (.int (rI σ 3 10) :: st) (Wd K layC σ)) : G K pc L (.ref (kad K 3) :: st) (Wd K layC σ) := g_get C (o := 3) (ci := 8) (k := 10) hd rfl rfl rfl (by decide) (Or.inl aw_172) inA8 rfl k
theorem gf_8_114 {K : KT} {cc : ByteArray} {nL d pc : Nat} {ret : Option FieldType} {L : List (Option Value)} {st : List Value} {σ : Sg} (C : Cx K layC cc RX8 nL d ret)  (hd : decode cc pc = .ok (.getfield 114, 3)) (k : G K (pc + 3) L (.int (rI σ 3 13) :: st) (Wd K layC σ)) : G K pc L (.ref (kad K 3) :: st) (Wd K layC σ) := g_get C (o := 3) (ci := 8) (k := 13) hd rfl rfl rfl (by decide) (Or.inl aw_177) inA8 rfl k
theorem gf_8_96 {K : KT} {cc : ByteArray} {nL d pc : Nat} {ret : Option FieldType} {L : List (Option Value)} {st : List Value} {σ : Sg} (C : Cx K layC cc RX8 nL d ret)  (hd : decode cc pc = .ok (.getfield 96, 3)) (k : G K (pc + 3) L (.int (rI σ 3 12) :: st) (Wd K layC σ)) : G K pc L (.ref (kad K 3) :: st) (Wd K layC σ) := g_get C (o := 3) (ci := 8) (k := 12) hd rfl rfl rfl (by decide) (Or.inl aw_175) inA8 rfl k
def fX8_isHopeless_b64  (σ : Sg) : Option (Int32 × Sg) :=
  some ((1 : Int32), σ)
def fX8_isHopeless_b0 (x1 : Int32) (σ : Sg) : Option (Int32 × Sg) :=
  if inb x1 10 = true then (if inb x1 10 = true then (Option.bind (fX1_gainOf 40 (rI σ 42 (x1).toNatClampNeg) (rI σ 3 8) (rI σ 44 (x1).toNatClampNeg) (rI σ 3 9) σ) fun p3 => (if (rI p3.2 3 10) = 0 then (some ((0 : Int32), p3.2)) else (if p3.1 < (rI p3.2 3 13) then (fX8_isHopeless_b64 p3.2) else (if p3.1 = (rI p3.2 3 13) then (if inb x1 10 = true then (if (rI p3.2 44 (x1).toNatClampNeg) < (rI p3.2 3 12) then (some ((0 : Int32), p3.2)) else (fX8_isHopeless_b64 p3.2)) else none) else (some ((0 : Int32), p3.2)))))) else none) else none
set_option maxRecDepth 4000 in
theorem bX8_isHopeless_b64 {K : KT}  {σ : Sg} {o : Int32 × Sg} (C : Cx K layC cX8_isHopeless RX8 3 (2) (some .boolean))  (hQ : Rk K layC (okI o)) (h : fX8_isHopeless_b64  σ = some o) : G K 64 [none, none, none] [] (Wd K layC σ) := by
  unfold fX8_isHopeless_b64 at h
  refine g_iconst C.c dX8_isHopeless_64 (v := (1 : Int32)) (by decide) ?_
  refine g_goto C.c (tgt := 69) dX8_isHopeless_65 (by decide) ?_
  obtain rfl := Option.some.inj h
  exact g_iret C hQ dX8_isHopeless_69 rfl ⟨rfl, rfl⟩
set_option maxRecDepth 4000 in
theorem bX8_isHopeless_b0 {K : KT} {x1 : Int32} {σ : Sg} {o : Int32 × Sg} (C : Cx K layC cX8_isHopeless RX8 3 (2) (some .boolean))  (hQ : Rk K layC (okI o)) (h : fX8_isHopeless_b0 x1 σ = some o) : G K 0 [some (.ref (kad K 3)), some (.int x1), none] [] (Wd K layC σ) := by
  unfold fX8_isHopeless_b0 at h
  refine g_aload_n C.c dX8_isHopeless_0 rfl (i := 0) rfl ?_
  refine gf_8_21 C dX8_isHopeless_1 ?_
  refine g_aload_n C.c dX8_isHopeless_4 rfl (i := 0) rfl ?_
  refine gf_8_25 C dX8_isHopeless_5 ?_
  refine g_iload_n C.c dX8_isHopeless_8 rfl (i := 1) rfl ?_
  obtain ⟨c1, h⟩ := chk h
  refine g_iald C dX8_isHopeless_9 rfl c1 ?_
  refine g_aload_n C.c dX8_isHopeless_10 rfl (i := 0) rfl ?_
  refine gf_8_48 C dX8_isHopeless_11 ?_
  refine g_aload_n C.c dX8_isHopeless_14 rfl (i := 0) rfl ?_
  refine gf_8_32 C dX8_isHopeless_15 ?_
  refine g_iload_n C.c dX8_isHopeless_18 rfl (i := 1) rfl ?_
  obtain ⟨c2, h⟩ := chk h
  refine g_iald C dX8_isHopeless_19 rfl c2 ?_
  refine g_aload_n C.c dX8_isHopeless_20 rfl (i := 0) rfl ?_
  refine gf_8_58 C dX8_isHopeless_21 ?_
  obtain ⟨p3, e4, h⟩ := Option.bind_eq_some_iff.mp h
  refine kc_8_110 C rfl dX8_isHopeless_24 e4 (Nat.le_of_ble_eq_true rfl) rfl (Nat.le_of_ble_eq_true rfl) ?_
  refine g_istore_n C.c (i := 2) (L' := [some (.ref (kad K 3)), some (.int x1), some (.int p3.1)]) dX8_isHopeless_27 rfl (Nat.le_of_ble_eq_true rfl) rfl ?_
  refine g_aload_n C.c dX8_isHopeless_28 rfl (i := 0) rfl ?_
  refine gf_8_62 C dX8_isHopeless_29 ?_
  refine g_if_eq C.c (tgt := 68) dX8_isHopeless_32 (by decide) (fun c => ?_) (fun c => ?_)
  · replace h := ite_t c h
    refine g_iconst C.c dX8_isHopeless_68 (v := (0 : Int32)) (by decide) ?_
    obtain rfl := Option.some.inj h
    exact g_iret C hQ dX8_isHopeless_69 rfl ⟨rfl, rfl⟩
  · replace h := ite_f c h
    refine g_iload_n C.c dX8_isHopeless_35 rfl (i := 2) rfl ?_
    refine g_aload_n C.c dX8_isHopeless_36 rfl (i := 0) rfl ?_
    refine gf_8_114 C dX8_isHopeless_37 ?_
    refine g_icmp_lt C.c (tgt := 64) dX8_isHopeless_40 (by decide) (fun c => ?_) (fun c => ?_)
    · replace h := ite_t c h
      exact g_mask [false, false, false] rfl (bX8_isHopeless_b64 C hQ h)
    · replace h := ite_f c h
      refine g_iload_n C.c dX8_isHopeless_43 rfl (i := 2) rfl ?_
      refine g_aload_n C.c dX8_isHopeless_44 rfl (i := 0) rfl ?_
      refine gf_8_114 C dX8_isHopeless_45 ?_
      refine g_icmp_ne C.c (tgt := 68) dX8_isHopeless_48 (by decide) (fun c => ?_) (fun c => ?_)
      · replace h := ite_f c h
        refine g_iconst C.c dX8_isHopeless_68 (v := (0 : Int32)) (by decide) ?_
        obtain rfl := Option.some.inj h
        exact g_iret C hQ dX8_isHopeless_69 rfl ⟨rfl, rfl⟩
      · replace h := ite_t c h
        refine g_aload_n C.c dX8_isHopeless_51 rfl (i := 0) rfl ?_
        refine gf_8_32 C dX8_isHopeless_52 ?_
        refine g_iload_n C.c dX8_isHopeless_55 rfl (i := 1) rfl ?_
        obtain ⟨c5, h⟩ := chk h
        refine g_iald C dX8_isHopeless_56 rfl c5 ?_
        refine g_aload_n C.c dX8_isHopeless_57 rfl (i := 0) rfl ?_
        refine gf_8_96 C dX8_isHopeless_58 ?_
        refine g_icmp_lt C.c (tgt := 68) dX8_isHopeless_61 (by decide) (fun c => ?_) (fun c => ?_)
        · replace h := ite_t c h
          refine g_iconst C.c dX8_isHopeless_68 (v := (0 : Int32)) (by decide) ?_
          obtain rfl := Option.some.inj h
          exact g_iret C hQ dX8_isHopeless_69 rfl ⟨rfl, rfl⟩
        · replace h := ite_f c h
          exact g_mask [false, false, false] rfl (bX8_isHopeless_b64 C hQ h)
def fX8_isHopeless (a0 : Int32) (σ : Sg) : Option (Int32 × Sg) := fX8_isHopeless_b0 a0 σ
theorem ct_X8_isHopeless {a0 : Int32} {σ : Sg} {p : Int32 × Sg} (h : fX8_isHopeless a0 σ = some p) : Ct layC yX8_isHopeless cX8_isHopeless 3 (some .boolean) 2 (fun ad => [.ref (ad 3), .int a0]) σ (okI p) :=
 ct_of (L0 := fun ad => [some (.ref (ad 3)), some (.int a0), none]) (by decide) (fun _ => Nat.le_of_ble_eq_true rfl) (fun _ => rfl) (fun K C hQ => g_mask [true, true, false] rfl (bX8_isHopeless_b0 C hQ h))
-- X8_choose
theorem dX8_choose_0 : decode cX8_choose 0 = .ok (.aload_n 0, 1) := by decide +kernel
theorem dX8_choose_1 : decode cX8_choose 1 = .ok (.iconst 1, 1) := by decide +kernel
theorem dX8_choose_2 : decode cX8_choose 2 = .ok (.putfield 62, 3) := by decide +kernel
theorem dX8_choose_5 : decode cX8_choose 5 = .ok (.aload_n 0, 1) := by decide +kernel
theorem dX8_choose_6 : decode cX8_choose 6 = .ok (.aload_n 0, 1) := by decide +kernel
theorem dX8_choose_7 : decode cX8_choose 7 = .ok (.getfield 25, 3) := by decide +kernel
theorem dX8_choose_10 : decode cX8_choose 10 = .ok (.iload_n 1, 1) := by decide +kernel
theorem dX8_choose_11 : decode cX8_choose 11 = .ok (.iaload, 1) := by decide +kernel
theorem dX8_choose_12 : decode cX8_choose 12 = .ok (.putfield 93, 3) := by decide +kernel
theorem dX8_choose_15 : decode cX8_choose 15 = .ok (.aload_n 0, 1) := by decide +kernel
theorem dX8_choose_16 : decode cX8_choose 16 = .ok (.aload_n 0, 1) := by decide +kernel
theorem dX8_choose_17 : decode cX8_choose 17 = .ok (.getfield 32, 3) := by decide +kernel
theorem dX8_choose_20 : decode cX8_choose 20 = .ok (.iload_n 1, 1) := by decide +kernel
theorem dX8_choose_21 : decode cX8_choose 21 = .ok (.iaload, 1) := by decide +kernel
theorem dX8_choose_22 : decode cX8_choose 22 = .ok (.putfield 96, 3) := by decide +kernel
theorem dX8_choose_25 : decode cX8_choose 25 = .ok (.aload_n 0, 1) := by decide +kernel
theorem dX8_choose_26 : decode cX8_choose 26 = .ok (.aload_n 0, 1) := by decide +kernel
theorem dX8_choose_27 : decode cX8_choose 27 = .ok (.getfield 21, 3) := by decide +kernel
theorem dX8_choose_30 : decode cX8_choose 30 = .ok (.aload_n 0, 1) := by decide +kernel
theorem dX8_choose_31 : decode cX8_choose 31 = .ok (.getfield 93, 3) := by decide +kernel
theorem dX8_choose_34 : decode cX8_choose 34 = .ok (.aload_n 0, 1) := by decide +kernel
theorem dX8_choose_35 : decode cX8_choose 35 = .ok (.getfield 48, 3) := by decide +kernel
theorem dX8_choose_38 : decode cX8_choose 38 = .ok (.aload_n 0, 1) := by decide +kernel
theorem dX8_choose_39 : decode cX8_choose 39 = .ok (.getfield 96, 3) := by decide +kernel
theorem dX8_choose_42 : decode cX8_choose 42 = .ok (.aload_n 0, 1) := by decide +kernel
theorem dX8_choose_43 : decode cX8_choose 43 = .ok (.getfield 58, 3) := by decide +kernel
theorem dX8_choose_46 : decode cX8_choose 46 = .ok (.invokevirtual 110, 3) := by decide +kernel
theorem dX8_choose_49 : decode cX8_choose 49 = .ok (.putfield 114, 3) := by decide +kernel
theorem dX8_choose_52 : decode cX8_choose 52 = .ok (.aload_n 0, 1) := by decide +kernel
theorem dX8_choose_53 : decode cX8_choose 53 = .ok (.iload_n 1, 1) := by decide +kernel
theorem dX8_choose_54 : decode cX8_choose 54 = .ok (.putfield 82, 3) := by decide +kernel
theorem dX8_choose_57 : decode cX8_choose 57 = .ok (.aload_n 0, 1) := by decide +kernel
theorem dX8_choose_58 : decode cX8_choose 58 = .ok (.getfield 35, 3) := by decide +kernel
theorem dX8_choose_61 : decode cX8_choose 61 = .ok (.iconst 0, 1) := by decide +kernel
theorem dX8_choose_62 : decode cX8_choose 62 = .ok (.aload_n 0, 1) := by decide +kernel
theorem dX8_choose_63 : decode cX8_choose 63 = .ok (.getfield 38, 3) := by decide +kernel
theorem dX8_choose_66 : decode cX8_choose 66 = .ok (.iconst 0, 1) := by decide +kernel
theorem dX8_choose_67 : decode cX8_choose 67 = .ok (.iload_n 1, 1) := by decide +kernel
theorem dX8_choose_68 : decode cX8_choose 68 = .ok (.invokestatic 117, 3) := by decide +kernel
theorem dX8_choose_71 : decode cX8_choose 71 = .ok (.return_, 1) := by decide +kernel
theorem cw_X8_choose : Cw yX8_choose cX8_choose 2 none 1 := ⟨aw_512, aw_21, ⟨by decide, by decide⟩, by decide +kernel, by decide⟩
theorem pf_8_62 {K : KT} {cc : ByteArray} {nL d pc : Nat} {ret : Option FieldType} {L : List (Option Value)} {st : List Value} {σ : Sg} (C : Cx K layC cc RX8 nL d ret)  {v : Int32} (hb : isB v = true) (hd : decode cc pc = .ok (.putfield 62, 3)) (k : G K (pc + 3) L st (Wd K layC (wI σ 3 10 v))) : G K pc L (.int v :: .ref (kad K 3) :: st) (Wd K layC σ) := g_putI C (o := 3) (ci := 8) (k := 10) hd rfl rfl rfl (by decide) (Or.inl aw_172) inA8 tyX8_ok nmX8 rfl (isB_n hb) (isB_f hb) k
theorem pf_8_93 {K : KT} {cc : ByteArray} {nL d pc : Nat} {ret : Option FieldType} {L : List (Option Value)} {st : List Value} {σ : Sg} (C : Cx K layC cc RX8 nL d ret)  {v : Int32}  (hd : decode cc pc = .ok (.putfield 93, 3)) (k : G K (pc + 3) L st (Wd K layC (wI σ 3 11 v))) : G K pc L (.int v :: .ref (kad K 3) :: st) (Wd K layC σ) := g_putI C (o := 3) (ci := 8) (k := 11) hd rfl rfl rfl (by decide) (Or.inl aw_173) inA8 tyX8_ok nmX8 rfl rfl rfl k
theorem pf_8_96 {K : KT} {cc : ByteArray} {nL d pc : Nat} {ret : Option FieldType} {L : List (Option Value)} {st : List Value} {σ : Sg} (C : Cx K layC cc RX8 nL d ret)  {v : Int32}  (hd : decode cc pc = .ok (.putfield 96, 3)) (k : G K (pc + 3) L st (Wd K layC (wI σ 3 12 v))) : G K pc L (.int v :: .ref (kad K 3) :: st) (Wd K layC σ) := g_putI C (o := 3) (ci := 8) (k := 12) hd rfl rfl rfl (by decide) (Or.inl aw_175) inA8 tyX8_ok nmX8 rfl rfl rfl k
theorem gf_8_93 {K : KT} {cc : ByteArray} {nL d pc : Nat} {ret : Option FieldType} {L : List (Option Value)} {st : List Value} {σ : Sg} (C : Cx K layC cc RX8 nL d ret)  (hd : decode cc pc = .ok (.getfield 93, 3)) (k : G K (pc + 3) L (.int (rI σ 3 11) :: st) (Wd K layC σ)) : G K pc L (.ref (kad K 3) :: st) (Wd K layC σ) := g_get C (o := 3) (ci := 8) (k := 11) hd rfl rfl rfl (by decide) (Or.inl aw_173) inA8 rfl k
theorem pf_8_114 {K : KT} {cc : ByteArray} {nL d pc : Nat} {ret : Option FieldType} {L : List (Option Value)} {st : List Value} {σ : Sg} (C : Cx K layC cc RX8 nL d ret)  {v : Int32}  (hd : decode cc pc = .ok (.putfield 114, 3)) (k : G K (pc + 3) L st (Wd K layC (wI σ 3 13 v))) : G K pc L (.int v :: .ref (kad K 3) :: st) (Wd K layC σ) := g_putI C (o := 3) (ci := 8) (k := 13) hd rfl rfl rfl (by decide) (Or.inl aw_177) inA8 tyX8_ok nmX8 rfl rfl rfl k
theorem pf_8_82 {K : KT} {cc : ByteArray} {nL d pc : Nat} {ret : Option FieldType} {L : List (Option Value)} {st : List Value} {σ : Sg} (C : Cx K layC cc RX8 nL d ret)  {v : Int32}  (hd : decode cc pc = .ok (.putfield 82, 3)) (k : G K (pc + 3) L st (Wd K layC (wI σ 3 14 v))) : G K pc L (.int v :: .ref (kad K 3) :: st) (Wd K layC σ) := g_putI C (o := 3) (ci := 8) (k := 14) hd rfl rfl rfl (by decide) (Or.inl aw_179) inA8 tyX8_ok nmX8 rfl rfl rfl k
theorem gf_8_35 {K : KT} {cc : ByteArray} {nL d pc : Nat} {ret : Option FieldType} {L : List (Option Value)} {st : List Value} {σ : Sg} (C : Cx K layC cc RX8 nL d ret)  (hd : decode cc pc = .ok (.getfield 35, 3)) (k : G K (pc + 3) L (.ref (kad K 45) :: st) (Wd K layC σ)) : G K pc L (.ref (kad K 3) :: st) (Wd K layC σ) := g_get C (o := 3) (ci := 8) (k := 5) hd rfl rfl rfl (by decide) (Or.inl aw_167) inA8 rfl k
theorem gf_8_38 {K : KT} {cc : ByteArray} {nL d pc : Nat} {ret : Option FieldType} {L : List (Option Value)} {st : List Value} {σ : Sg} (C : Cx K layC cc RX8 nL d ret)  (hd : decode cc pc = .ok (.getfield 38, 3)) (k : G K (pc + 3) L (.ref (kad K 46) :: st) (Wd K layC σ)) : G K pc L (.ref (kad K 3) :: st) (Wd K layC σ) := g_get C (o := 3) (ci := 8) (k := 6) hd rfl rfl rfl (by decide) (Or.inl aw_168) inA8 rfl k
def fX8_choose_b0 (x1 : Int32) (σ : Sg) : Option (Sg) :=
  if inb x1 10 = true then (if inb x1 10 = true then (Option.bind (fX1_gainOf 40 (rI (wI (wI (wI σ 3 10 (1 : Int32)) 3 11 (rI (wI σ 3 10 (1 : Int32)) 42 (x1).toNatClampNeg)) 3 12 (rI (wI (wI σ 3 10 (1 : Int32)) 3 11 (rI (wI σ 3 10 (1 : Int32)) 42 (x1).toNatClampNeg)) 44 (x1).toNatClampNeg)) 3 11) (rI (wI (wI (wI σ 3 10 (1 : Int32)) 3 11 (rI (wI σ 3 10 (1 : Int32)) 42 (x1).toNatClampNeg)) 3 12 (rI (wI (wI σ 3 10 (1 : Int32)) 3 11 (rI (wI σ 3 10 (1 : Int32)) 42 (x1).toNatClampNeg)) 44 (x1).toNatClampNeg)) 3 8) (rI (wI (wI (wI σ 3 10 (1 : Int32)) 3 11 (rI (wI σ 3 10 (1 : Int32)) 42 (x1).toNatClampNeg)) 3 12 (rI (wI (wI σ 3 10 (1 : Int32)) 3 11 (rI (wI σ 3 10 (1 : Int32)) 42 (x1).toNatClampNeg)) 44 (x1).toNatClampNeg)) 3 12) (rI (wI (wI (wI σ 3 10 (1 : Int32)) 3 11 (rI (wI σ 3 10 (1 : Int32)) 42 (x1).toNatClampNeg)) 3 12 (rI (wI (wI σ 3 10 (1 : Int32)) 3 11 (rI (wI σ 3 10 (1 : Int32)) 42 (x1).toNatClampNeg)) 44 (x1).toNatClampNeg)) 3 9) (wI (wI (wI σ 3 10 (1 : Int32)) 3 11 (rI (wI σ 3 10 (1 : Int32)) 42 (x1).toNatClampNeg)) 3 12 (rI (wI (wI σ 3 10 (1 : Int32)) 3 11 (rI (wI σ 3 10 (1 : Int32)) 42 (x1).toNatClampNeg)) 44 (x1).toNatClampNeg))) fun p3 => (if cpB (0 : Int32) (0 : Int32) x1 9 9 = true then (some (wC (wI (wI p3.2 3 13 p3.1) 3 14 x1) 45 ((0 : Int32)).toNatClampNeg 46 ((0 : Int32)).toNatClampNeg (x1).toNatClampNeg)) else none)) else none) else none
set_option maxRecDepth 4000 in
theorem bX8_choose_b0 {K : KT} {x1 : Int32} {σ : Sg} {o : Sg} (C : Cx K layC cX8_choose RX8 2 (2) none)  (hQ : Rk K layC (okV o)) (h : fX8_choose_b0 x1 σ = some o) : G K 0 [some (.ref (kad K 3)), some (.int x1)] [] (Wd K layC σ) := by
  unfold fX8_choose_b0 at h
  refine g_aload_n C.c dX8_choose_0 rfl (i := 0) rfl ?_
  refine g_iconst C.c dX8_choose_1 (v := (1 : Int32)) (by decide) ?_
  refine pf_8_62 C (by decide) dX8_choose_2 ?_
  refine g_aload_n C.c dX8_choose_5 rfl (i := 0) rfl ?_
  refine g_aload_n C.c dX8_choose_6 rfl (i := 0) rfl ?_
  refine gf_8_25 C dX8_choose_7 ?_
  refine g_iload_n C.c dX8_choose_10 rfl (i := 1) rfl ?_
  obtain ⟨c1, h⟩ := chk h
  refine g_iald C dX8_choose_11 rfl c1 ?_
  refine pf_8_93 C dX8_choose_12 ?_
  refine g_aload_n C.c dX8_choose_15 rfl (i := 0) rfl ?_
  refine g_aload_n C.c dX8_choose_16 rfl (i := 0) rfl ?_
  refine gf_8_32 C dX8_choose_17 ?_
  refine g_iload_n C.c dX8_choose_20 rfl (i := 1) rfl ?_
  obtain ⟨c2, h⟩ := chk h
  refine g_iald C dX8_choose_21 rfl c2 ?_
  refine pf_8_96 C dX8_choose_22 ?_
  refine g_aload_n C.c dX8_choose_25 rfl (i := 0) rfl ?_
  refine g_aload_n C.c dX8_choose_26 rfl (i := 0) rfl ?_
  refine gf_8_21 C dX8_choose_27 ?_
  refine g_aload_n C.c dX8_choose_30 rfl (i := 0) rfl ?_
  refine gf_8_93 C dX8_choose_31 ?_
  refine g_aload_n C.c dX8_choose_34 rfl (i := 0) rfl ?_
  refine gf_8_48 C dX8_choose_35 ?_
  refine g_aload_n C.c dX8_choose_38 rfl (i := 0) rfl ?_
  refine gf_8_96 C dX8_choose_39 ?_
  refine g_aload_n C.c dX8_choose_42 rfl (i := 0) rfl ?_
  refine gf_8_58 C dX8_choose_43 ?_
  obtain ⟨p3, e4, h⟩ := Option.bind_eq_some_iff.mp h
  refine kc_8_110 C rfl dX8_choose_46 e4 (Nat.le_of_ble_eq_true rfl) rfl (Nat.le_of_ble_eq_true rfl) ?_
  refine pf_8_114 C dX8_choose_49 ?_
  refine g_aload_n C.c dX8_choose_52 rfl (i := 0) rfl ?_
  refine g_iload_n C.c dX8_choose_53 rfl (i := 1) rfl ?_
  refine pf_8_82 C dX8_choose_54 ?_
  refine g_aload_n C.c dX8_choose_57 rfl (i := 0) rfl ?_
  refine gf_8_35 C dX8_choose_58 ?_
  refine g_iconst C.c dX8_choose_61 (v := (0 : Int32)) (by decide) ?_
  refine g_aload_n C.c dX8_choose_62 rfl (i := 0) rfl ?_
  refine gf_8_38 C dX8_choose_63 ?_
  refine g_iconst C.c dX8_choose_66 (v := (0 : Int32)) (by decide) ?_
  refine g_iload_n C.c dX8_choose_67 rfl (i := 1) rfl ?_
  obtain ⟨c5, h⟩ := chk h
  refine g_copy C dX8_choose_68 aw_513 aw_515 aw_514 aw_30 rfl (Nat.le_of_ble_eq_true rfl) (Nat.le_of_ble_eq_true rfl) rfl rfl c5 ?_
  obtain rfl := Option.some.inj h
  exact g_vret C hQ dX8_choose_71 ⟨rfl, rfl⟩
def fX8_choose (a0 : Int32) (σ : Sg) : Option (Sg) := fX8_choose_b0 a0 σ
theorem ct_X8_choose {a0 : Int32} {σ : Sg} {p : Sg} (h : fX8_choose a0 σ = some p) : Ct layC yX8_choose cX8_choose 2 none 2 (fun ad => [.ref (ad 3), .int a0]) σ (okV p) :=
 ct_of (L0 := fun ad => [some (.ref (ad 3)), some (.int a0)]) (by decide) (fun _ => Nat.le_of_ble_eq_true rfl) (fun _ => rfl) (fun K C hQ => g_mask [true, true] rfl (bX8_choose_b0 C hQ h))
-- X8_daysOfStep
theorem dX8_daysOfStep_0 : decode cX8_daysOfStep 0 = .ok (.iconst 1, 1) := by decide +kernel
theorem dX8_daysOfStep_1 : decode cX8_daysOfStep 1 = .ok (.iload_n 3, 1) := by decide +kernel
theorem dX8_daysOfStep_2 : decode cX8_daysOfStep 2 = .ok (.bipush 20, 2) := by decide +kernel
theorem dX8_daysOfStep_4 : decode cX8_daysOfStep 4 = .ok (.aload_n 0, 1) := by decide +kernel
theorem dX8_daysOfStep_5 : decode cX8_daysOfStep 5 = .ok (.getfield 48, 3) := by decide +kernel
theorem dX8_daysOfStep_8 : decode cX8_daysOfStep 8 = .ok (.imul, 1) := by decide +kernel
theorem dX8_daysOfStep_9 : decode cX8_daysOfStep 9 = .ok (.idiv, 1) := by decide +kernel
theorem dX8_daysOfStep_10 : decode cX8_daysOfStep 10 = .ok (.iadd, 1) := by decide +kernel
theorem dX8_daysOfStep_11 : decode cX8_daysOfStep 11 = .ok (.istore 4, 2) := by decide +kernel
theorem dX8_daysOfStep_13 : decode cX8_daysOfStep 13 = .ok (.aload_n 0, 1) := by decide +kernel
theorem dX8_daysOfStep_14 : decode cX8_daysOfStep 14 = .ok (.getfield 12, 3) := by decide +kernel
theorem dX8_daysOfStep_17 : decode cX8_daysOfStep 17 = .ok (.getfield 143, 3) := by decide +kernel
theorem dX8_daysOfStep_20 : decode cX8_daysOfStep 20 = .ok (.iload_n 1, 1) := by decide +kernel
theorem dX8_daysOfStep_21 : decode cX8_daysOfStep 21 = .ok (.iaload, 1) := by decide +kernel
theorem dX8_daysOfStep_22 : decode cX8_daysOfStep 22 = .ok (.istore 5, 2) := by decide +kernel
theorem dX8_daysOfStep_24 : decode cX8_daysOfStep 24 = .ok (.iload 5, 2) := by decide +kernel
theorem dX8_daysOfStep_26 : decode cX8_daysOfStep 26 = .ok (.iload_n 2, 1) := by decide +kernel
theorem dX8_daysOfStep_27 : decode cX8_daysOfStep 27 = .ok (.if_icmp .ne 9, 3) := by decide +kernel
theorem dX8_daysOfStep_30 : decode cX8_daysOfStep 30 = .ok (.iinc 4 (-1), 3) := by decide +kernel
theorem dX8_daysOfStep_33 : decode cX8_daysOfStep 33 = .ok (.goto 22, 3) := by decide +kernel
theorem dX8_daysOfStep_36 : decode cX8_daysOfStep 36 = .ok (.iload 5, 2) := by decide +kernel
theorem dX8_daysOfStep_38 : decode cX8_daysOfStep 38 = .ok (.iconst (-1), 1) := by decide +kernel
theorem dX8_daysOfStep_39 : decode cX8_daysOfStep 39 = .ok (.if_icmp .eq 16, 3) := by decide +kernel
theorem dX8_daysOfStep_42 : decode cX8_daysOfStep 42 = .ok (.iload 5, 2) := by decide +kernel
theorem dX8_daysOfStep_44 : decode cX8_daysOfStep 44 = .ok (.iconst 2, 1) := by decide +kernel
theorem dX8_daysOfStep_45 : decode cX8_daysOfStep 45 = .ok (.iadd, 1) := by decide +kernel
theorem dX8_daysOfStep_46 : decode cX8_daysOfStep 46 = .ok (.iconst 4, 1) := by decide +kernel
theorem dX8_daysOfStep_47 : decode cX8_daysOfStep 47 = .ok (.irem, 1) := by decide +kernel
theorem dX8_daysOfStep_48 : decode cX8_daysOfStep 48 = .ok (.iload_n 2, 1) := by decide +kernel
theorem dX8_daysOfStep_49 : decode cX8_daysOfStep 49 = .ok (.if_icmp .ne 6, 3) := by decide +kernel
theorem dX8_daysOfStep_52 : decode cX8_daysOfStep 52 = .ok (.iinc 4 1, 3) := by decide +kernel
theorem dX8_daysOfStep_55 : decode cX8_daysOfStep 55 = .ok (.iconst 1, 1) := by decide +kernel
theorem dX8_daysOfStep_56 : decode cX8_daysOfStep 56 = .ok (.iload 4, 2) := by decide +kernel
theorem dX8_daysOfStep_58 : decode cX8_daysOfStep 58 = .ok (.invokestatic 52, 3) := by decide +kernel
theorem dX8_daysOfStep_61 : decode cX8_daysOfStep 61 = .ok (.ireturn, 1) := by decide +kernel
theorem cw_X8_daysOfStep : Cw yX8_daysOfStep cX8_daysOfStep 6 (some .int) 3 := ⟨aw_523, aw_21, ⟨by decide, by decide⟩, by decide +kernel, by decide⟩
theorem gf_8_12 {K : KT} {cc : ByteArray} {nL d pc : Nat} {ret : Option FieldType} {L : List (Option Value)} {st : List Value} {σ : Sg} (C : Cx K layC cc RX8 nL d ret)  (hd : decode cc pc = .ok (.getfield 12, 3)) (k : G K (pc + 3) L (.ref (kad K 4) :: st) (Wd K layC σ)) : G K pc L (.ref (kad K 3) :: st) (Wd K layC σ) := g_get C (o := 3) (ci := 8) (k := 0) hd rfl rfl rfl (by decide) (Or.inl aw_160) inA8 rfl k
theorem gf_8_143 {K : KT} {cc : ByteArray} {nL d pc : Nat} {ret : Option FieldType} {L : List (Option Value)} {st : List Value} {σ : Sg} (C : Cx K layC cc RX8 nL d ret)  (hd : decode cc pc = .ok (.getfield 143, 3)) (k : G K (pc + 3) L (.ref (kad K 6) :: st) (Wd K layC σ)) : G K pc L (.ref (kad K 4) :: st) (Wd K layC σ) := g_get C (o := 4) (ci := 7) (k := 1) hd rfl rfl rfl (by decide) (Or.inr ⟨_, aw_88⟩) inA7 rfl k
def fX8_daysOfStep_b55 (x4 : Int32) (σ : Sg) : Option (Int32 × Sg) :=
  some ((imax (1 : Int32) x4), σ)
def fX8_daysOfStep_b0 (x1 : Int32) (x2 : Int32) (x3 : Int32) (σ : Sg) : Option (Int32 × Sg) :=
  if ((20 : Int32) * (rI σ 3 8)) = 0 then none else if inb x1 30 = true then (if (rI σ 6 (x1).toNatClampNeg) = x2 then (fX8_daysOfStep_b55 (((1 : Int32) + (x3 / ((20 : Int32) * (rI σ 3 8)))) + (-1 : Int32)) σ) else (if (rI σ 6 (x1).toNatClampNeg) = (-1 : Int32) then (fX8_daysOfStep_b55 ((1 : Int32) + (x3 / ((20 : Int32) * (rI σ 3 8)))) σ) else (if (((rI σ 6 (x1).toNatClampNeg) + (2 : Int32)) - ((rI σ 6 (x1).toNatClampNeg) + (2 : Int32)) / (4 : Int32) * (4 : Int32)) = x2 then (fX8_daysOfStep_b55 (((1 : Int32) + (x3 / ((20 : Int32) * (rI σ 3 8)))) + (1 : Int32)) σ) else (fX8_daysOfStep_b55 ((1 : Int32) + (x3 / ((20 : Int32) * (rI σ 3 8)))) σ)))) else none
set_option maxRecDepth 4000 in
theorem bX8_daysOfStep_b55 {K : KT} {x4 : Int32} {σ : Sg} {o : Int32 × Sg} (C : Cx K layC cX8_daysOfStep RX8 6 (1) (some .int))  (hQ : Rk K layC (okI o)) (h : fX8_daysOfStep_b55 x4 σ = some o) : G K 55 [none, none, none, none, some (.int x4), none] [] (Wd K layC σ) := by
  unfold fX8_daysOfStep_b55 at h
  refine g_iconst C.c dX8_daysOfStep_55 (v := (1 : Int32)) (by decide) ?_
  refine g_iload C.c dX8_daysOfStep_56 (i := 4) rfl ?_
  refine g_max C.c dX8_daysOfStep_58 aw_497 aw_416 aw_29 aw_417 rfl (Nat.le_of_ble_eq_true rfl) (Nat.le_of_ble_eq_true rfl) ?_
  obtain rfl := Option.some.inj h
  exact g_iret C hQ dX8_daysOfStep_61 rfl ⟨rfl, rfl⟩
set_option maxRecDepth 4000 in
theorem bX8_daysOfStep_b0 {K : KT} {x1 : Int32} {x2 : Int32} {x3 : Int32} {σ : Sg} {o : Int32 × Sg} (C : Cx K layC cX8_daysOfStep RX8 6 (1) (some .int))  (hQ : Rk K layC (okI o)) (h : fX8_daysOfStep_b0 x1 x2 x3 σ = some o) : G K 0 [some (.ref (kad K 3)), some (.int x1), some (.int x2), some (.int x3), none, none] [] (Wd K layC σ) := by
  unfold fX8_daysOfStep_b0 at h
  refine g_iconst C.c dX8_daysOfStep_0 (v := (1 : Int32)) (by decide) ?_
  refine g_iload_n C.c dX8_daysOfStep_1 rfl (i := 3) rfl ?_
  refine g_bipush C.c dX8_daysOfStep_2 (v := (20 : Int32)) (by decide) ?_
  refine g_aload_n C.c dX8_daysOfStep_4 rfl (i := 0) rfl ?_
  refine gf_8_48 C dX8_daysOfStep_5 ?_
  refine g_imul C.c dX8_daysOfStep_8 ?_
  obtain ⟨c1, h⟩ := chk0 h
  refine g_idiv C.c dX8_daysOfStep_9 c1 ?_
  refine g_iadd C.c dX8_daysOfStep_10 ?_
  refine g_istore C.c (i := 4) (L' := [some (.ref (kad K 3)), some (.int x1), some (.int x2), some (.int x3), some (.int ((1 : Int32) + (x3 / ((20 : Int32) * (rI σ 3 8))))), none]) dX8_daysOfStep_11 (Nat.le_of_ble_eq_true rfl) rfl ?_
  refine g_aload_n C.c dX8_daysOfStep_13 rfl (i := 0) rfl ?_
  refine gf_8_12 C dX8_daysOfStep_14 ?_
  refine gf_8_143 C dX8_daysOfStep_17 ?_
  refine g_iload_n C.c dX8_daysOfStep_20 rfl (i := 1) rfl ?_
  obtain ⟨c2, h⟩ := chk h
  refine g_iald C dX8_daysOfStep_21 rfl c2 ?_
  refine g_istore C.c (i := 5) (L' := [some (.ref (kad K 3)), some (.int x1), some (.int x2), some (.int x3), some (.int ((1 : Int32) + (x3 / ((20 : Int32) * (rI σ 3 8))))), some (.int (rI σ 6 (x1).toNatClampNeg))]) dX8_daysOfStep_22 (Nat.le_of_ble_eq_true rfl) rfl ?_
  refine g_iload C.c dX8_daysOfStep_24 (i := 5) rfl ?_
  refine g_iload_n C.c dX8_daysOfStep_26 rfl (i := 2) rfl ?_
  refine g_icmp_ne C.c (tgt := 36) dX8_daysOfStep_27 (by decide) (fun c => ?_) (fun c => ?_)
  · replace h := ite_f c h
    refine g_iload C.c dX8_daysOfStep_36 (i := 5) rfl ?_
    refine g_iconst C.c dX8_daysOfStep_38 (v := (-1 : Int32)) (by decide) ?_
    refine g_icmp_eq C.c (tgt := 55) dX8_daysOfStep_39 (by decide) (fun c => ?_) (fun c => ?_)
    · replace h := ite_t c h
      exact g_mask [false, false, false, false, true, false] rfl (bX8_daysOfStep_b55 C hQ h)
    · replace h := ite_f c h
      refine g_iload C.c dX8_daysOfStep_42 (i := 5) rfl ?_
      refine g_iconst C.c dX8_daysOfStep_44 (v := (2 : Int32)) (by decide) ?_
      refine g_iadd C.c dX8_daysOfStep_45 ?_
      refine g_iconst C.c dX8_daysOfStep_46 (v := (4 : Int32)) (by decide) ?_
      refine g_irem C.c dX8_daysOfStep_47 (by decide) ?_
      refine g_iload_n C.c dX8_daysOfStep_48 rfl (i := 2) rfl ?_
      refine g_icmp_ne C.c (tgt := 55) dX8_daysOfStep_49 (by decide) (fun c => ?_) (fun c => ?_)
      · replace h := ite_f c h
        exact g_mask [false, false, false, false, true, false] rfl (bX8_daysOfStep_b55 C hQ h)
      · replace h := ite_t c h
        refine g_iinc C.c (i := 4) (y := (1 : Int32)) (L' := [some (.ref (kad K 3)), some (.int x1), some (.int x2), some (.int x3), some (.int (((1 : Int32) + (x3 / ((20 : Int32) * (rI σ 3 8)))) + (1 : Int32))), some (.int (rI σ 6 (x1).toNatClampNeg))]) dX8_daysOfStep_52 rfl (by decide) (Nat.le_of_ble_eq_true rfl) rfl ?_
        exact g_mask [false, false, false, false, true, false] rfl (bX8_daysOfStep_b55 C hQ h)
  · replace h := ite_t c h
    refine g_iinc C.c (i := 4) (y := (-1 : Int32)) (L' := [some (.ref (kad K 3)), some (.int x1), some (.int x2), some (.int x3), some (.int (((1 : Int32) + (x3 / ((20 : Int32) * (rI σ 3 8)))) + (-1 : Int32))), some (.int (rI σ 6 (x1).toNatClampNeg))]) dX8_daysOfStep_30 rfl (by decide) (Nat.le_of_ble_eq_true rfl) rfl ?_
    refine g_goto C.c (tgt := 55) dX8_daysOfStep_33 (by decide) ?_
    exact g_mask [false, false, false, false, true, false] rfl (bX8_daysOfStep_b55 C hQ h)
def fX8_daysOfStep (a0 : Int32) (a1 : Int32) (a2 : Int32) (σ : Sg) : Option (Int32 × Sg) := fX8_daysOfStep_b0 a0 a1 a2 σ
theorem ct_X8_daysOfStep {a0 : Int32} {a1 : Int32} {a2 : Int32} {σ : Sg} {p : Int32 × Sg} (h : fX8_daysOfStep a0 a1 a2 σ = some p) : Ct layC yX8_daysOfStep cX8_daysOfStep 6 (some .int) 1 (fun ad => [.ref (ad 3), .int a0, .int a1, .int a2]) σ (okI p) :=
 ct_of (L0 := fun ad => [some (.ref (ad 3)), some (.int a0), some (.int a1), some (.int a2), none, none]) (by decide) (fun _ => Nat.le_of_ble_eq_true rfl) (fun _ => rfl) (fun K C hQ => g_mask [true, true, true, true, false, false] rfl (bX8_daysOfStep_b0 C hQ h))
-- X8_drawnWarmth
theorem dX8_drawnWarmth_0 : decode cX8_drawnWarmth 0 = .ok (.aload_n 0, 1) := by decide +kernel
theorem dX8_drawnWarmth_1 : decode cX8_drawnWarmth 1 = .ok (.ldc2_w 146, 3) := by decide +kernel
theorem dX8_drawnWarmth_4 : decode cX8_drawnWarmth 4 = .ok (.aload_n 0, 1) := by decide +kernel
theorem dX8_drawnWarmth_5 : decode cX8_drawnWarmth 5 = .ok (.getfield 78, 3) := by decide +kernel
theorem dX8_drawnWarmth_8 : decode cX8_drawnWarmth 8 = .ok (.lmul, 1) := by decide +kernel
theorem dX8_drawnWarmth_9 : decode cX8_drawnWarmth 9 = .ok (.ldc2_w 148, 3) := by decide +kernel
theorem dX8_drawnWarmth_12 : decode cX8_drawnWarmth 12 = .ok (.ladd, 1) := by decide +kernel
theorem dX8_drawnWarmth_13 : decode cX8_drawnWarmth 13 = .ok (.ldc2_w 150, 3) := by decide +kernel
theorem dX8_drawnWarmth_16 : decode cX8_drawnWarmth 16 = .ok (.lrem, 1) := by decide +kernel
theorem dX8_drawnWarmth_17 : decode cX8_drawnWarmth 17 = .ok (.putfield 78, 3) := by decide +kernel
theorem dX8_drawnWarmth_20 : decode cX8_drawnWarmth 20 = .ok (.aload_n 0, 1) := by decide +kernel
theorem dX8_drawnWarmth_21 : decode cX8_drawnWarmth 21 = .ok (.getfield 78, 3) := by decide +kernel
theorem dX8_drawnWarmth_24 : decode cX8_drawnWarmth 24 = .ok (.ldc2_w 152, 3) := by decide +kernel
theorem dX8_drawnWarmth_27 : decode cX8_drawnWarmth 27 = .ok (.ldiv, 1) := by decide +kernel
theorem dX8_drawnWarmth_28 : decode cX8_drawnWarmth 28 = .ok (.ldc2_w 154, 3) := by decide +kernel
theorem dX8_drawnWarmth_31 : decode cX8_drawnWarmth 31 = .ok (.lrem, 1) := by decide +kernel
theorem dX8_drawnWarmth_32 : decode cX8_drawnWarmth 32 = .ok (.l2i, 1) := by decide +kernel
theorem dX8_drawnWarmth_33 : decode cX8_drawnWarmth 33 = .ok (.istore_n 2, 1) := by decide +kernel
theorem dX8_drawnWarmth_34 : decode cX8_drawnWarmth 34 = .ok (.iconst 0, 1) := by decide +kernel
theorem dX8_drawnWarmth_35 : decode cX8_drawnWarmth 35 = .ok (.iload_n 1, 1) := by decide +kernel
theorem dX8_drawnWarmth_36 : decode cX8_drawnWarmth 36 = .ok (.iload_n 2, 1) := by decide +kernel
theorem dX8_drawnWarmth_37 : decode cX8_drawnWarmth 37 = .ok (.iadd, 1) := by decide +kernel
theorem dX8_drawnWarmth_38 : decode cX8_drawnWarmth 38 = .ok (.iconst 1, 1) := by decide +kernel
theorem dX8_drawnWarmth_39 : decode cX8_drawnWarmth 39 = .ok (.isub, 1) := by decide +kernel
theorem dX8_drawnWarmth_40 : decode cX8_drawnWarmth 40 = .ok (.invokestatic 52, 3) := by decide +kernel
theorem dX8_drawnWarmth_43 : decode cX8_drawnWarmth 43 = .ok (.ireturn, 1) := by decide +kernel
theorem cw_X8_drawnWarmth : Cw yX8_drawnWarmth cX8_drawnWarmth 3 (some .int) 1 := ⟨aw_527, aw_21, ⟨by decide, by decide⟩, by decide +kernel, by decide⟩
theorem gf_8_78 {K : KT} {cc : ByteArray} {nL d pc : Nat} {ret : Option FieldType} {L : List (Option Value)} {st : List Value} {σ : Sg} (C : Cx K layC cc RX8 nL d ret)  (hd : decode cc pc = .ok (.getfield 78, 3)) (k : G K (pc + 3) L (.long (rJ σ 3 16) :: st) (Wd K layC σ)) : G K pc L (.ref (kad K 3) :: st) (Wd K layC σ) := g_get C (o := 3) (ci := 8) (k := 16) hd rfl rfl rfl (by decide) (Or.inl aw_182) inA8 rfl k
theorem pf_8_78 {K : KT} {cc : ByteArray} {nL d pc : Nat} {ret : Option FieldType} {L : List (Option Value)} {st : List Value} {σ : Sg} (C : Cx K layC cc RX8 nL d ret)  {v : Int64}  (hd : decode cc pc = .ok (.putfield 78, 3)) (k : G K (pc + 3) L st (Wd K layC (wJ σ 3 16 v))) : G K pc L (.long v :: .ref (kad K 3) :: st) (Wd K layC σ) := g_putJ C (o := 3) (ci := 8) (k := 16) hd rfl rfl rfl (by decide) (Or.inl aw_182) inA8 tyX8_ok nmX8 rfl rfl rfl k
def fX8_drawnWarmth_b0 (x1 : Int32) (σ : Sg) : Option (Int32 × Sg) :=
  some ((imax (0 : Int32) ((x1 + ((((rJ (wJ σ 3 16 ((((1103515245 : Int64) * (rJ σ 3 16)) + (12345 : Int64)) - (((1103515245 : Int64) * (rJ σ 3 16)) + (12345 : Int64)) / (2147483648 : Int64) * (2147483648 : Int64))) 3 16) / (65536 : Int64)) - ((rJ (wJ σ 3 16 ((((1103515245 : Int64) * (rJ σ 3 16)) + (12345 : Int64)) - (((1103515245 : Int64) * (rJ σ 3 16)) + (12345 : Int64)) / (2147483648 : Int64) * (2147483648 : Int64))) 3 16) / (65536 : Int64)) / (3 : Int64) * (3 : Int64))).toInt32) - (1 : Int32))), (wJ σ 3 16 ((((1103515245 : Int64) * (rJ σ 3 16)) + (12345 : Int64)) - (((1103515245 : Int64) * (rJ σ 3 16)) + (12345 : Int64)) / (2147483648 : Int64) * (2147483648 : Int64))))
set_option maxRecDepth 4000 in
theorem bX8_drawnWarmth_b0 {K : KT} {x1 : Int32} {σ : Sg} {o : Int32 × Sg} (C : Cx K layC cX8_drawnWarmth RX8 3 (1) (some .int))  (hQ : Rk K layC (okI o)) (h : fX8_drawnWarmth_b0 x1 σ = some o) : G K 0 [some (.ref (kad K 3)), some (.int x1), none] [] (Wd K layC σ) := by
  unfold fX8_drawnWarmth_b0 at h
  refine g_aload_n C.c dX8_drawnWarmth_0 rfl (i := 0) rfl ?_
  refine g_ldc2 C.c (v := (1103515245 : Int64)) aw_528 dX8_drawnWarmth_1 ?_
  refine g_aload_n C.c dX8_drawnWarmth_4 rfl (i := 0) rfl ?_
  refine gf_8_78 C dX8_drawnWarmth_5 ?_
  refine g_lmul C.c dX8_drawnWarmth_8 ?_
  refine g_ldc2 C.c (v := (12345 : Int64)) aw_529 dX8_drawnWarmth_9 ?_
  refine g_ladd C.c dX8_drawnWarmth_12 ?_
  refine g_ldc2 C.c (v := (2147483648 : Int64)) aw_530 dX8_drawnWarmth_13 ?_
  refine g_lrem C.c dX8_drawnWarmth_16 (by decide) ?_
  refine pf_8_78 C dX8_drawnWarmth_17 ?_
  refine g_aload_n C.c dX8_drawnWarmth_20 rfl (i := 0) rfl ?_
  refine gf_8_78 C dX8_drawnWarmth_21 ?_
  refine g_ldc2 C.c (v := (65536 : Int64)) aw_531 dX8_drawnWarmth_24 ?_
  refine g_ldiv C.c dX8_drawnWarmth_27 (by decide) ?_
  refine g_ldc2 C.c (v := (3 : Int64)) aw_532 dX8_drawnWarmth_28 ?_
  refine g_lrem C.c dX8_drawnWarmth_31 (by decide) ?_
  refine g_l2i C.c dX8_drawnWarmth_32 ?_
  refine g_istore_n C.c (i := 2) (L' := [some (.ref (kad K 3)), some (.int x1), some (.int ((((rJ (wJ σ 3 16 ((((1103515245 : Int64) * (rJ σ 3 16)) + (12345 : Int64)) - (((1103515245 : Int64) * (rJ σ 3 16)) + (12345 : Int64)) / (2147483648 : Int64) * (2147483648 : Int64))) 3 16) / (65536 : Int64)) - ((rJ (wJ σ 3 16 ((((1103515245 : Int64) * (rJ σ 3 16)) + (12345 : Int64)) - (((1103515245 : Int64) * (rJ σ 3 16)) + (12345 : Int64)) / (2147483648 : Int64) * (2147483648 : Int64))) 3 16) / (65536 : Int64)) / (3 : Int64) * (3 : Int64))).toInt32)]) dX8_drawnWarmth_33 rfl (Nat.le_of_ble_eq_true rfl) rfl ?_
  refine g_iconst C.c dX8_drawnWarmth_34 (v := (0 : Int32)) (by decide) ?_
  refine g_iload_n C.c dX8_drawnWarmth_35 rfl (i := 1) rfl ?_
  refine g_iload_n C.c dX8_drawnWarmth_36 rfl (i := 2) rfl ?_
  refine g_iadd C.c dX8_drawnWarmth_37 ?_
  refine g_iconst C.c dX8_drawnWarmth_38 (v := (1 : Int32)) (by decide) ?_
  refine g_isub C.c dX8_drawnWarmth_39 ?_
  refine g_max C.c dX8_drawnWarmth_40 aw_497 aw_416 aw_29 aw_417 rfl (Nat.le_of_ble_eq_true rfl) (Nat.le_of_ble_eq_true rfl) ?_
  obtain rfl := Option.some.inj h
  exact g_iret C hQ dX8_drawnWarmth_43 rfl ⟨rfl, rfl⟩
def fX8_drawnWarmth (a0 : Int32) (σ : Sg) : Option (Int32 × Sg) := fX8_drawnWarmth_b0 a0 σ
theorem ct_X8_drawnWarmth {a0 : Int32} {σ : Sg} {p : Int32 × Sg} (h : fX8_drawnWarmth a0 σ = some p) : Ct layC yX8_drawnWarmth cX8_drawnWarmth 3 (some .int) 1 (fun ad => [.ref (ad 3), .int a0]) σ (okI p) :=
 ct_of (L0 := fun ad => [some (.ref (ad 3)), some (.int a0), none]) (by decide) (fun _ => Nat.le_of_ble_eq_true rfl) (fun _ => rfl) (fun K C hQ => g_mask [true, true, false] rfl (bX8_drawnWarmth_b0 C hQ h))
-- X8_pass
theorem dX8_pass_0 : decode cX8_pass 0 = .ok (.aload_n 0, 1) := by decide +kernel
theorem dX8_pass_1 : decode cX8_pass 1 = .ok (.getfield 25, 3) := by decide +kernel
theorem dX8_pass_4 : decode cX8_pass 4 = .ok (.iload_n 1, 1) := by decide +kernel
theorem dX8_pass_5 : decode cX8_pass 5 = .ok (.iaload, 1) := by decide +kernel
theorem dX8_pass_6 : decode cX8_pass 6 = .ok (.istore 4, 2) := by decide +kernel
theorem dX8_pass_8 : decode cX8_pass 8 = .ok (.aload_n 0, 1) := by decide +kernel
theorem dX8_pass_9 : decode cX8_pass 9 = .ok (.getfield 29, 3) := by decide +kernel
theorem dX8_pass_12 : decode cX8_pass 12 = .ok (.iload_n 1, 1) := by decide +kernel
theorem dX8_pass_13 : decode cX8_pass 13 = .ok (.iaload, 1) := by decide +kernel
theorem dX8_pass_14 : decode cX8_pass 14 = .ok (.istore 5, 2) := by decide +kernel
theorem dX8_pass_16 : decode cX8_pass 16 = .ok (.aload_n 0, 1) := by decide +kernel
theorem dX8_pass_17 : decode cX8_pass 17 = .ok (.getfield 32, 3) := by decide +kernel
theorem dX8_pass_20 : decode cX8_pass 20 = .ok (.iload_n 1, 1) := by decide +kernel
theorem dX8_pass_21 : decode cX8_pass 21 = .ok (.iaload, 1) := by decide +kernel
theorem dX8_pass_22 : decode cX8_pass 22 = .ok (.istore 6, 2) := by decide +kernel
theorem dX8_pass_24 : decode cX8_pass 24 = .ok (.iload 6, 2) := by decide +kernel
theorem dX8_pass_26 : decode cX8_pass 26 = .ok (.aload_n 0, 1) := by decide +kernel
theorem dX8_pass_27 : decode cX8_pass 27 = .ok (.iload_n 2, 1) := by decide +kernel
theorem dX8_pass_28 : decode cX8_pass 28 = .ok (.iload_n 3, 1) := by decide +kernel
theorem dX8_pass_29 : decode cX8_pass 29 = .ok (.iload 4, 2) := by decide +kernel
theorem dX8_pass_31 : decode cX8_pass 31 = .ok (.invokevirtual 123, 3) := by decide +kernel
theorem dX8_pass_34 : decode cX8_pass 34 = .ok (.iadd, 1) := by decide +kernel
theorem dX8_pass_35 : decode cX8_pass 35 = .ok (.istore 7, 2) := by decide +kernel
theorem dX8_pass_37 : decode cX8_pass 37 = .ok (.iload 6, 2) := by decide +kernel
theorem dX8_pass_39 : decode cX8_pass 39 = .ok (.iload 7, 2) := by decide +kernel
theorem dX8_pass_41 : decode cX8_pass 41 = .ok (.if_icmp .ge 154, 3) := by decide +kernel
theorem dX8_pass_44 : decode cX8_pass 44 = .ok (.iload 4, 2) := by decide +kernel
theorem dX8_pass_46 : decode cX8_pass 46 = .ok (.ifCond .le 149, 3) := by decide +kernel
theorem dX8_pass_49 : decode cX8_pass 49 = .ok (.iinc 6 1, 3) := by decide +kernel
theorem dX8_pass_52 : decode cX8_pass 52 = .ok (.aload_n 0, 1) := by decide +kernel
theorem dX8_pass_53 : decode cX8_pass 53 = .ok (.getfield 65, 3) := by decide +kernel
theorem dX8_pass_56 : decode cX8_pass 56 = .ok (.ifCond .eq 19, 3) := by decide +kernel
theorem dX8_pass_59 : decode cX8_pass 59 = .ok (.aload_n 0, 1) := by decide +kernel
theorem dX8_pass_60 : decode cX8_pass 60 = .ok (.aload_n 0, 1) := by decide +kernel
theorem dX8_pass_61 : decode cX8_pass 61 = .ok (.getfield 12, 3) := by decide +kernel
theorem dX8_pass_64 : decode cX8_pass 64 = .ok (.getfield 127, 3) := by decide +kernel
theorem dX8_pass_67 : decode cX8_pass 67 = .ok (.iload_n 2, 1) := by decide +kernel
theorem dX8_pass_68 : decode cX8_pass 68 = .ok (.iaload, 1) := by decide +kernel
theorem dX8_pass_69 : decode cX8_pass 69 = .ok (.invokevirtual 130, 3) := by decide +kernel
theorem dX8_pass_72 : decode cX8_pass 72 = .ok (.goto 12, 3) := by decide +kernel
theorem dX8_pass_75 : decode cX8_pass 75 = .ok (.aload_n 0, 1) := by decide +kernel
theorem dX8_pass_76 : decode cX8_pass 76 = .ok (.getfield 12, 3) := by decide +kernel
theorem dX8_pass_79 : decode cX8_pass 79 = .ok (.getfield 127, 3) := by decide +kernel
theorem dX8_pass_82 : decode cX8_pass 82 = .ok (.iload_n 2, 1) := by decide +kernel
theorem dX8_pass_83 : decode cX8_pass 83 = .ok (.iaload, 1) := by decide +kernel
theorem dX8_pass_84 : decode cX8_pass 84 = .ok (.istore 8, 2) := by decide +kernel
theorem dX8_pass_86 : decode cX8_pass 86 = .ok (.aload_n 0, 1) := by decide +kernel
theorem dX8_pass_87 : decode cX8_pass 87 = .ok (.getfield 44, 3) := by decide +kernel
theorem dX8_pass_90 : decode cX8_pass 90 = .ok (.iload 8, 2) := by decide +kernel
theorem dX8_pass_92 : decode cX8_pass 92 = .ok (.iload 4, 2) := by decide +kernel
theorem dX8_pass_94 : decode cX8_pass 94 = .ok (.invokevirtual 134, 3) := by decide +kernel
theorem dX8_pass_97 : decode cX8_pass 97 = .ok (.istore 9, 2) := by decide +kernel
theorem dX8_pass_99 : decode cX8_pass 99 = .ok (.iconst 0, 1) := by decide +kernel
theorem dX8_pass_100 : decode cX8_pass 100 = .ok (.iload 4, 2) := by decide +kernel
theorem dX8_pass_102 : decode cX8_pass 102 = .ok (.aload_n 0, 1) := by decide +kernel
theorem dX8_pass_103 : decode cX8_pass 103 = .ok (.getfield 58, 3) := by decide +kernel
theorem dX8_pass_106 : decode cX8_pass 106 = .ok (.ifCond .eq 13, 3) := by decide +kernel
theorem dX8_pass_109 : decode cX8_pass 109 = .ok (.iload 9, 2) := by decide +kernel
theorem dX8_pass_111 : decode cX8_pass 111 = .ok (.iload 9, 2) := by decide +kernel
theorem dX8_pass_113 : decode cX8_pass 113 = .ok (.iconst 3, 1) := by decide +kernel
theorem dX8_pass_114 : decode cX8_pass 114 = .ok (.idiv, 1) := by decide +kernel
theorem dX8_pass_115 : decode cX8_pass 115 = .ok (.isub, 1) := by decide +kernel
theorem dX8_pass_116 : decode cX8_pass 116 = .ok (.goto 5, 3) := by decide +kernel
theorem dX8_pass_119 : decode cX8_pass 119 = .ok (.iload 9, 2) := by decide +kernel
theorem dX8_pass_121 : decode cX8_pass 121 = .ok (.isub, 1) := by decide +kernel
theorem dX8_pass_122 : decode cX8_pass 122 = .ok (.invokestatic 52, 3) := by decide +kernel
theorem dX8_pass_125 : decode cX8_pass 125 = .ok (.istore 4, 2) := by decide +kernel
theorem dX8_pass_127 : decode cX8_pass 127 = .ok (.iconst 0, 1) := by decide +kernel
theorem dX8_pass_128 : decode cX8_pass 128 = .ok (.iload 5, 2) := by decide +kernel
theorem dX8_pass_130 : decode cX8_pass 130 = .ok (.iload 8, 2) := by decide +kernel
theorem dX8_pass_132 : decode cX8_pass 132 = .ok (.isub, 1) := by decide +kernel
theorem dX8_pass_133 : decode cX8_pass 133 = .ok (.invokestatic 52, 3) := by decide +kernel
theorem dX8_pass_136 : decode cX8_pass 136 = .ok (.istore 5, 2) := by decide +kernel
theorem dX8_pass_138 : decode cX8_pass 138 = .ok (.iload 5, 2) := by decide +kernel
theorem dX8_pass_140 : decode cX8_pass 140 = .ok (.ifCond .ne 27, 3) := by decide +kernel
theorem dX8_pass_143 : decode cX8_pass 143 = .ok (.aload_n 0, 1) := by decide +kernel
theorem dX8_pass_144 : decode cX8_pass 144 = .ok (.getfield 44, 3) := by decide +kernel
theorem dX8_pass_147 : decode cX8_pass 147 = .ok (.getfield 137, 3) := by decide +kernel
theorem dX8_pass_150 : decode cX8_pass 150 = .ok (.iconst 4, 1) := by decide +kernel
theorem dX8_pass_151 : decode cX8_pass 151 = .ok (.if_icmp .eq 16, 3) := by decide +kernel
theorem dX8_pass_154 : decode cX8_pass 154 = .ok (.iload 4, 2) := by decide +kernel
theorem dX8_pass_156 : decode cX8_pass 156 = .ok (.iload 4, 2) := by decide +kernel
theorem dX8_pass_158 : decode cX8_pass 158 = .ok (.iconst 5, 1) := by decide +kernel
theorem dX8_pass_159 : decode cX8_pass 159 = .ok (.idiv, 1) := by decide +kernel
theorem dX8_pass_160 : decode cX8_pass 160 = .ok (.isub, 1) := by decide +kernel
theorem dX8_pass_161 : decode cX8_pass 161 = .ok (.istore 4, 2) := by decide +kernel
theorem dX8_pass_163 : decode cX8_pass 163 = .ok (.bipush 9, 2) := by decide +kernel
theorem dX8_pass_165 : decode cX8_pass 165 = .ok (.istore 5, 2) := by decide +kernel
theorem dX8_pass_167 : decode cX8_pass 167 = .ok (.aload_n 0, 1) := by decide +kernel
theorem dX8_pass_168 : decode cX8_pass 168 = .ok (.getfield 44, 3) := by decide +kernel
theorem dX8_pass_171 : decode cX8_pass 171 = .ok (.iload 6, 2) := by decide +kernel
theorem dX8_pass_173 : decode cX8_pass 173 = .ok (.invokevirtual 140, 3) := by decide +kernel
theorem dX8_pass_176 : decode cX8_pass 176 = .ok (.ifCond .eq 16, 3) := by decide +kernel
theorem dX8_pass_179 : decode cX8_pass 179 = .ok (.iload 4, 2) := by decide +kernel
theorem dX8_pass_181 : decode cX8_pass 181 = .ok (.iload 4, 2) := by decide +kernel
theorem dX8_pass_183 : decode cX8_pass 183 = .ok (.bipush 9, 2) := by decide +kernel
theorem dX8_pass_185 : decode cX8_pass 185 = .ok (.iadd, 1) := by decide +kernel
theorem dX8_pass_186 : decode cX8_pass 186 = .ok (.bipush 10, 2) := by decide +kernel
theorem dX8_pass_188 : decode cX8_pass 188 = .ok (.idiv, 1) := by decide +kernel
theorem dX8_pass_189 : decode cX8_pass 189 = .ok (.isub, 1) := by decide +kernel
theorem dX8_pass_190 : decode cX8_pass 190 = .ok (.istore 4, 2) := by decide +kernel
theorem dX8_pass_192 : decode cX8_pass 192 = .ok (.goto (-155), 3) := by decide +kernel
theorem dX8_pass_195 : decode cX8_pass 195 = .ok (.aload_n 0, 1) := by decide +kernel
theorem dX8_pass_196 : decode cX8_pass 196 = .ok (.getfield 25, 3) := by decide +kernel
theorem dX8_pass_199 : decode cX8_pass 199 = .ok (.iload_n 1, 1) := by decide +kernel
theorem dX8_pass_200 : decode cX8_pass 200 = .ok (.iconst 1, 1) := by decide +kernel
theorem dX8_pass_201 : decode cX8_pass 201 = .ok (.iadd, 1) := by decide +kernel
theorem dX8_pass_202 : decode cX8_pass 202 = .ok (.iload 4, 2) := by decide +kernel
theorem dX8_pass_204 : decode cX8_pass 204 = .ok (.iastore, 1) := by decide +kernel
theorem dX8_pass_205 : decode cX8_pass 205 = .ok (.aload_n 0, 1) := by decide +kernel
theorem dX8_pass_206 : decode cX8_pass 206 = .ok (.getfield 29, 3) := by decide +kernel
theorem dX8_pass_209 : decode cX8_pass 209 = .ok (.iload_n 1, 1) := by decide +kernel
theorem dX8_pass_210 : decode cX8_pass 210 = .ok (.iconst 1, 1) := by decide +kernel
theorem dX8_pass_211 : decode cX8_pass 211 = .ok (.iadd, 1) := by decide +kernel
theorem dX8_pass_212 : decode cX8_pass 212 = .ok (.iload 5, 2) := by decide +kernel
theorem dX8_pass_214 : decode cX8_pass 214 = .ok (.iastore, 1) := by decide +kernel
theorem dX8_pass_215 : decode cX8_pass 215 = .ok (.aload_n 0, 1) := by decide +kernel
theorem dX8_pass_216 : decode cX8_pass 216 = .ok (.getfield 32, 3) := by decide +kernel
theorem dX8_pass_219 : decode cX8_pass 219 = .ok (.iload_n 1, 1) := by decide +kernel
theorem dX8_pass_220 : decode cX8_pass 220 = .ok (.iconst 1, 1) := by decide +kernel
theorem dX8_pass_221 : decode cX8_pass 221 = .ok (.iadd, 1) := by decide +kernel
theorem dX8_pass_222 : decode cX8_pass 222 = .ok (.iload 6, 2) := by decide +kernel
theorem dX8_pass_224 : decode cX8_pass 224 = .ok (.iastore, 1) := by decide +kernel
theorem dX8_pass_225 : decode cX8_pass 225 = .ok (.return_, 1) := by decide +kernel
theorem cw_X8_pass : Cw yX8_pass cX8_pass 10 none 3 := ⟨aw_519, aw_21, ⟨by decide, by decide⟩, by decide +kernel, by decide⟩
theorem gf_8_29 {K : KT} {cc : ByteArray} {nL d pc : Nat} {ret : Option FieldType} {L : List (Option Value)} {st : List Value} {σ : Sg} (C : Cx K layC cc RX8 nL d ret)  (hd : decode cc pc = .ok (.getfield 29, 3)) (k : G K (pc + 3) L (.ref (kad K 43) :: st) (Wd K layC σ)) : G K pc L (.ref (kad K 3) :: st) (Wd K layC σ) := g_get C (o := 3) (ci := 8) (k := 3) hd rfl rfl rfl (by decide) (Or.inl aw_165) inA8 rfl k
theorem kc_8_123 {K : KT} {cc : ByteArray} {nL d pc : Nat} {ret : Option FieldType} {L : List (Option Value)} {st : List Value} {σ : Sg} (C : Cx K layC cc RX8 nL d ret)  {a0 : Int32} {a1 : Int32} {a2 : Int32}  {p : Int32 × Sg} (hd : decode cc pc = .ok (.invokevirtual 123, 3)) (e : fX8_daysOfStep a0 a1 a2 σ = some p) (hdd : 1 + 1 ≤ d) (hLn : L.length = nL) (hr : (st.map fun v => v.category).sum ≤ 8) (k : G K (pc + 3) L (.int p.1 :: st) (Wd K layC p.2)) : G K pc L (.int a2 :: .int a1 :: .int a0 :: .ref (kad K 3) :: st) (Wd K layC σ) :=
  g_callV C (As := [.int a0, .int a1, .int a2]) (rest := st) (o := 3) (ci := 8) hd (ct_X8_daysOfStep e) cw_X8_daysOfStep (Or.inl aw_520) aw_522 aw_12 rfl rfl rfl hdd hLn rfl rfl hr (fun v τ q => by obtain ⟨rfl, rfl⟩ := q; exact k)
theorem gf_8_65 {K : KT} {cc : ByteArray} {nL d pc : Nat} {ret : Option FieldType} {L : List (Option Value)} {st : List Value} {σ : Sg} (C : Cx K layC cc RX8 nL d ret)  (hd : decode cc pc = .ok (.getfield 65, 3)) (k : G K (pc + 3) L (.int (rI σ 3 15) :: st) (Wd K layC σ)) : G K pc L (.ref (kad K 3) :: st) (Wd K layC σ) := g_get C (o := 3) (ci := 8) (k := 15) hd rfl rfl rfl (by decide) (Or.inl aw_181) inA8 rfl k
theorem gf_8_127 {K : KT} {cc : ByteArray} {nL d pc : Nat} {ret : Option FieldType} {L : List (Option Value)} {st : List Value} {σ : Sg} (C : Cx K layC cc RX8 nL d ret)  (hd : decode cc pc = .ok (.getfield 127, 3)) (k : G K (pc + 3) L (.ref (kad K 5) :: st) (Wd K layC σ)) : G K pc L (.ref (kad K 4) :: st) (Wd K layC σ) := g_get C (o := 4) (ci := 7) (k := 0) hd rfl rfl rfl (by decide) (Or.inr ⟨_, aw_85⟩) inA7 rfl k
theorem gf_8_44 {K : KT} {cc : ByteArray} {nL d pc : Nat} {ret : Option FieldType} {L : List (Option Value)} {st : List Value} {σ : Sg} (C : Cx K layC cc RX8 nL d ret)  (hd : decode cc pc = .ok (.getfield 44, 3)) (k : G K (pc + 3) L (.ref (kad K (rR σ 3 7)) :: st) (Wd K layC σ)) : G K pc L (.ref (kad K 3) :: st) (Wd K layC σ) := g_get C (o := 3) (ci := 8) (k := 7) hd rfl rfl rfl (by decide) (Or.inl aw_169) inA8 rfl k
theorem kc_8_134 {K : KT} {cc : ByteArray} {nL d pc : Nat} {ret : Option FieldType} {L : List (Option Value)} {st : List Value} {σ : Sg} (C : Cx K layC cc RX8 nL d ret)  {o0 : Nat} {a0 : Int32} {a1 : Int32} (hY0 : layC[o0]? = some (0, 0, slX0)) {p : Int32 × Sg} (hd : decode cc pc = .ok (.invokevirtual 134, 3)) (e : fX0_meltOf o0 a0 a1 σ = some p) (hdd : 1 + 1 ≤ d) (hLn : L.length = nL) (hr : (st.map fun v => v.category).sum ≤ 8) (k : G K (pc + 3) L (.int p.1 :: st) (Wd K layC p.2)) : G K pc L (.int a1 :: .int a0 :: .ref (kad K o0) :: st) (Wd K layC σ) :=
  g_callV C (As := [.int a0, .int a1]) (rest := st) (o := o0) (ci := 0) hd (ct_X0_meltOf hY0 e) cw_X0_meltOf (Or.inl aw_533) aw_534 aw_535 rfl rfl rfl hdd hLn hY0 rfl hr (fun v τ q => by obtain ⟨rfl, rfl⟩ := q; exact k)
theorem kc_8_140 {K : KT} {cc : ByteArray} {nL d pc : Nat} {ret : Option FieldType} {L : List (Option Value)} {st : List Value} {σ : Sg} (C : Cx K layC cc RX8 nL d ret)  {o0 : Nat} {a0 : Int32} (hY0 : layC[o0]? = some (0, 0, slX0)) {p : Int32 × Sg} (hd : decode cc pc = .ok (.invokevirtual 140, 3)) (e : fX0_breaksOn o0 a0 σ = some p) (hdd : 1 + 1 ≤ d) (hLn : L.length = nL) (hr : (st.map fun v => v.category).sum ≤ 8) (k : G K (pc + 3) L (.int p.1 :: st) (Wd K layC p.2)) : G K pc L (.int a0 :: .ref (kad K o0) :: st) (Wd K layC σ) :=
  g_callV C (As := [.int a0]) (rest := st) (o := o0) (ci := 0) hd (ct_X0_breaksOn hY0 e) cw_X0_breaksOn (Or.inl aw_537) aw_538 aw_539 rfl rfl rfl hdd hLn hY0 rfl hr (fun v τ q => by obtain ⟨rfl, rfl⟩ := q; exact k)
theorem gf_8_137d {K : KT} {cc : ByteArray} {nL d pc : Nat} {ret : Option FieldType} {L : List (Option Value)} {st : List Value} {σ : Sg} (C : Cx K layC cc RX8 nL d ret) {o : Nat} (hY : layC[o]? = some (0, 0, slX0)) (hd : decode cc pc = .ok (.getfield 137, 3)) (k : G K (pc + 3) L (.int (rI σ o 0) :: st) (Wd K layC σ)) : G K pc L (.ref (kad K o) :: st) (Wd K layC σ) := g_get C (o := o) (ci := 0) (k := 0) hd hY rfl rfl (by decide) (Or.inr ⟨_, aw_134⟩) inA0 rfl k
theorem kc_8_130 {K : KT} {cc : ByteArray} {nL d pc : Nat} {ret : Option FieldType} {L : List (Option Value)} {st : List Value} {σ : Sg} (C : Cx K layC cc RX8 nL d ret)  {a0 : Int32}  {p : Int32 × Sg} (hd : decode cc pc = .ok (.invokevirtual 130, 3)) (e : fX8_drawnWarmth a0 σ = some p) (hdd : 1 + 1 ≤ d) (hLn : L.length = nL) (hr : (st.map fun v => v.category).sum ≤ 8) (k : G K (pc + 3) L (.int p.1 :: st) (Wd K layC p.2)) : G K pc L (.int a0 :: .ref (kad K 3) :: st) (Wd K layC σ) :=
  g_callV C (As := [.int a0]) (rest := st) (o := 3) (ci := 8) hd (ct_X8_drawnWarmth e) cw_X8_drawnWarmth (Or.inl aw_524) aw_526 aw_13 rfl rfl rfl hdd hLn rfl rfl hr (fun v τ q => by obtain ⟨rfl, rfl⟩ := q; exact k)
def fX8_pass_b192 (x1 : Int32) (x2 : Int32) (x4 : Int32) (x5 : Int32) (x6 : Int32) (x7 : Int32) (σ : Sg) : Option ((Int32 × Int32 × Int32 × Sg) ⊕ ((Int32 × Int32 × Int32 × Sg))) :=
  some (.inl (x4, x5, x6, σ))
def fX8_pass_b167 (x1 : Int32) (x2 : Int32) (x4 : Int32) (x5 : Int32) (x6 : Int32) (x7 : Int32) (σ : Sg) : Option ((Int32 × Int32 × Int32 × Sg) ⊕ ((Int32 × Int32 × Int32 × Sg))) :=
  if isSh layC (rR σ 3 7) (0, 0, slX0) = true then (Option.bind (fX0_breaksOn (rR σ 3 7) x6 σ) fun p11 => (if p11.1 = 0 then (fX8_pass_b192 x1 x2 x4 x5 x6 x7 p11.2) else (fX8_pass_b192 x1 x2 (x4 - ((x4 + (9 : Int32)) / (10 : Int32))) x5 x6 x7 p11.2))) else none
def fX8_pass_b121 (x1 : Int32) (x2 : Int32) (x5 : Int32) (x6 : Int32) (x7 : Int32) (x8 : Int32) (y0 : Int32) (y1 : Int32) (y2 : Int32) (σ : Sg) : Option ((Int32 × Int32 × Int32 × Sg) ⊕ ((Int32 × Int32 × Int32 × Sg))) :=
  if (imax (0 : Int32) (x5 - x8)) = 0 then (if isSh layC (rR σ 3 7) (0, 0, slX0) = true then (if (rI σ (rR σ 3 7) 0) = (4 : Int32) then (fX8_pass_b167 x1 x2 (imax y2 (y1 - y0)) (imax (0 : Int32) (x5 - x8)) x6 x7 σ) else (fX8_pass_b167 x1 x2 ((imax y2 (y1 - y0)) - ((imax y2 (y1 - y0)) / (5 : Int32))) (9 : Int32) x6 x7 σ)) else none) else (fX8_pass_b167 x1 x2 (imax y2 (y1 - y0)) (imax (0 : Int32) (x5 - x8)) x6 x7 σ)
def fX8_pass_b84 (x1 : Int32) (x2 : Int32) (x4 : Int32) (x5 : Int32) (x6 : Int32) (x7 : Int32) (y0 : Int32) (σ : Sg) : Option ((Int32 × Int32 × Int32 × Sg) ⊕ ((Int32 × Int32 × Int32 × Sg))) :=
  if isSh layC (rR σ 3 7) (0, 0, slX0) = true then (Option.bind (fX0_meltOf (rR σ 3 7) y0 x4 σ) fun p8 => (if (rI p8.2 3 9) = 0 then (fX8_pass_b121 x1 x2 x5 x6 x7 y0 p8.1 x4 (0 : Int32) p8.2) else (fX8_pass_b121 x1 x2 x5 x6 x7 y0 (p8.1 - (p8.1 / (3 : Int32))) x4 (0 : Int32) p8.2))) else none
def fX8_pass_b37 (x1 : Int32) (x2 : Int32) (x4 : Int32) (x5 : Int32) (x6 : Int32) (x7 : Int32) (σ : Sg) : Option ((Int32 × Int32 × Int32 × Sg) ⊕ ((Int32 × Int32 × Int32 × Sg))) :=
  if x7 ≤ x6 then (some (.inr (x4, x5, x6, σ))) else (if x4 ≤ 0 then (some (.inr (x4, x5, x6, σ))) else (if (rI σ 3 15) = 0 then (if inb x2 30 = true then (fX8_pass_b84 x1 x2 x4 x5 (x6 + (1 : Int32)) x7 (rI σ 5 (x2).toNatClampNeg) σ) else none) else (if inb x2 30 = true then (Option.bind (fX8_drawnWarmth (rI σ 5 (x2).toNatClampNeg) σ) fun p15 => (fX8_pass_b84 x1 x2 x4 x5 (x6 + (1 : Int32)) x7 p15.1 p15.2)) else none)))
def fX8_pass_b0 (x1 : Int32) (x2 : Int32) (x3 : Int32) (σ : Sg) : Option (Sg) :=
  if inb x1 10 = true then (if inb x1 10 = true then (if inb x1 10 = true then (Option.bind (fX8_daysOfStep x2 x3 (rI σ 42 (x1).toNatClampNeg) σ) fun p4 => (Option.bind (lp (fun s => fX8_pass_b37 x1 x2 s.1 s.2.1 s.2.2.1 ((rI σ 44 (x1).toNatClampNeg) + p4.1) s.2.2.2) FU ((rI σ 42 (x1).toNatClampNeg), (rI σ 43 (x1).toNatClampNeg), (rI σ 44 (x1).toNatClampNeg), p4.2)) fun t17 => if inb (x1 + (1 : Int32)) 10 = true then (if inb (x1 + (1 : Int32)) 10 = true then (if inb (x1 + (1 : Int32)) 10 = true then (some (wI (wI (wI t17.2.2.2 42 ((x1 + (1 : Int32))).toNatClampNeg t17.1) 43 ((x1 + (1 : Int32))).toNatClampNeg t17.2.1) 44 ((x1 + (1 : Int32))).toNatClampNeg t17.2.2.1)) else none) else none) else none)) else none) else none) else none
set_option maxRecDepth 4000 in
theorem bX8_pass_b192 {K : KT} {x1 : Int32} {x2 : Int32} {x4 : Int32} {x5 : Int32} {x6 : Int32} {x7 : Int32} {σ : Sg} {o : (Int32 × Int32 × Int32 × Sg) ⊕ ((Int32 × Int32 × Int32 × Sg))} (C : Cx K layC cX8_pass RX8 10 (2) none)  (hI : ∀ s' : Int32 × Int32 × Int32 × Sg, o = .inl s' → G K 37 [some (.ref (kad K 3)), some (.int x1), some (.int x2), none, some (.int s'.1), some (.int s'.2.1), some (.int s'.2.2.1), some (.int x7), none, none] [] (Wd K layC s'.2.2.2)) (hE0 : ∀ t : Int32 × Int32 × Int32 × Sg, o = .inr t → G K 195 [some (.ref (kad K 3)), some (.int x1), none, none, some (.int t.1), some (.int t.2.1), some (.int t.2.2.1), none, none, none] [] (Wd K layC t.2.2.2)) (h : fX8_pass_b192 x1 x2 x4 x5 x6 x7 σ = some o) : G K 192 [some (.ref (kad K 3)), some (.int x1), some (.int x2), none, some (.int x4), some (.int x5), some (.int x6), some (.int x7), none, none] [] (Wd K layC σ) := by
  unfold fX8_pass_b192 at h
  refine g_goto C.c (tgt := 37) dX8_pass_192 (by decide) ?_
  have g9 := hI _ (Option.some.inj h).symm
  exact g_mask [true, true, true, false, true, true, true, true, false, false] rfl g9
set_option maxRecDepth 4000 in
theorem bX8_pass_b167 {K : KT} {x1 : Int32} {x2 : Int32} {x4 : Int32} {x5 : Int32} {x6 : Int32} {x7 : Int32} {σ : Sg} {o : (Int32 × Int32 × Int32 × Sg) ⊕ ((Int32 × Int32 × Int32 × Sg))} (C : Cx K layC cX8_pass RX8 10 (2) none)  (hI : ∀ s' : Int32 × Int32 × Int32 × Sg, o = .inl s' → G K 37 [some (.ref (kad K 3)), some (.int x1), some (.int x2), none, some (.int s'.1), some (.int s'.2.1), some (.int s'.2.2.1), some (.int x7), none, none] [] (Wd K layC s'.2.2.2)) (hE0 : ∀ t : Int32 × Int32 × Int32 × Sg, o = .inr t → G K 195 [some (.ref (kad K 3)), some (.int x1), none, none, some (.int t.1), some (.int t.2.1), some (.int t.2.2.1), none, none, none] [] (Wd K layC t.2.2.2)) (h : fX8_pass_b167 x1 x2 x4 x5 x6 x7 σ = some o) : G K 167 [some (.ref (kad K 3)), some (.int x1), some (.int x2), none, some (.int x4), some (.int x5), some (.int x6), some (.int x7), none, none] [] (Wd K layC σ) := by
  unfold fX8_pass_b167 at h
  refine g_aload_n C.c dX8_pass_167 rfl (i := 0) rfl ?_
  refine gf_8_44 C dX8_pass_168 ?_
  obtain ⟨c10, h⟩ := chk h
  refine g_iload C.c dX8_pass_171 (i := 6) rfl ?_
  obtain ⟨p11, e12, h⟩ := Option.bind_eq_some_iff.mp h
  refine kc_8_140 C (isSh_e c10) dX8_pass_173 e12 (Nat.le_of_ble_eq_true rfl) rfl (Nat.le_of_ble_eq_true rfl) ?_
  refine g_if_eq C.c (tgt := 192) dX8_pass_176 (by decide) (fun c => ?_) (fun c => ?_)
  · replace h := ite_t c h
    exact g_mask [true, true, true, false, true, true, true, true, false, false] rfl (bX8_pass_b192 C hI hE0 h)
  · replace h := ite_f c h
    refine g_iload C.c dX8_pass_179 (i := 4) rfl ?_
    refine g_iload C.c dX8_pass_181 (i := 4) rfl ?_
    refine g_bipush C.c dX8_pass_183 (v := (9 : Int32)) (by decide) ?_
    refine g_iadd C.c dX8_pass_185 ?_
    refine g_bipush C.c dX8_pass_186 (v := (10 : Int32)) (by decide) ?_
    refine g_idiv C.c dX8_pass_188 (by decide) ?_
    refine g_isub C.c dX8_pass_189 ?_
    refine g_istore C.c (i := 4) (L' := [some (.ref (kad K 3)), some (.int x1), some (.int x2), none, some (.int (x4 - ((x4 + (9 : Int32)) / (10 : Int32)))), some (.int x5), some (.int x6), some (.int x7), none, none]) dX8_pass_190 (Nat.le_of_ble_eq_true rfl) rfl ?_
    exact g_mask [true, true, true, false, true, true, true, true, false, false] rfl (bX8_pass_b192 C hI hE0 h)
set_option maxRecDepth 4000 in
theorem bX8_pass_b121 {K : KT} {x1 : Int32} {x2 : Int32} {x5 : Int32} {x6 : Int32} {x7 : Int32} {x8 : Int32} {y0 : Int32} {y1 : Int32} {y2 : Int32} {σ : Sg} {o : (Int32 × Int32 × Int32 × Sg) ⊕ ((Int32 × Int32 × Int32 × Sg))} (C : Cx K layC cX8_pass RX8 10 (2) none)  (hI : ∀ s' : Int32 × Int32 × Int32 × Sg, o = .inl s' → G K 37 [some (.ref (kad K 3)), some (.int x1), some (.int x2), none, some (.int s'.1), some (.int s'.2.1), some (.int s'.2.2.1), some (.int x7), none, none] [] (Wd K layC s'.2.2.2)) (hE0 : ∀ t : Int32 × Int32 × Int32 × Sg, o = .inr t → G K 195 [some (.ref (kad K 3)), some (.int x1), none, none, some (.int t.1), some (.int t.2.1), some (.int t.2.2.1), none, none, none] [] (Wd K layC t.2.2.2)) (h : fX8_pass_b121 x1 x2 x5 x6 x7 x8 y0 y1 y2 σ = some o) : G K 121 [some (.ref (kad K 3)), some (.int x1), some (.int x2), none, none, some (.int x5), some (.int x6), some (.int x7), some (.int x8), none] [.int y0, .int y1, .int y2] (Wd K layC σ) := by
  unfold fX8_pass_b121 at h
  refine g_isub C.c dX8_pass_121 ?_
  refine g_max C.c dX8_pass_122 aw_497 aw_416 aw_29 aw_417 rfl (Nat.le_of_ble_eq_true rfl) (Nat.le_of_ble_eq_true rfl) ?_
  refine g_istore C.c (i := 4) (L' := [some (.ref (kad K 3)), some (.int x1), some (.int x2), none, some (.int (imax y2 (y1 - y0))), some (.int x5), some (.int x6), some (.int x7), some (.int x8), none]) dX8_pass_125 (Nat.le_of_ble_eq_true rfl) rfl ?_
  refine g_iconst C.c dX8_pass_127 (v := (0 : Int32)) (by decide) ?_
  refine g_iload C.c dX8_pass_128 (i := 5) rfl ?_
  refine g_iload C.c dX8_pass_130 (i := 8) rfl ?_
  refine g_isub C.c dX8_pass_132 ?_
  refine g_max C.c dX8_pass_133 aw_497 aw_416 aw_29 aw_417 rfl (Nat.le_of_ble_eq_true rfl) (Nat.le_of_ble_eq_true rfl) ?_
  refine g_istore C.c (i := 5) (L' := [some (.ref (kad K 3)), some (.int x1), some (.int x2), none, some (.int (imax y2 (y1 - y0))), some (.int (imax (0 : Int32) (x5 - x8))), some (.int x6), some (.int x7), some (.int x8), none]) dX8_pass_136 (Nat.le_of_ble_eq_true rfl) rfl ?_
  refine g_iload C.c dX8_pass_138 (i := 5) rfl ?_
  refine g_if_ne C.c (tgt := 167) dX8_pass_140 (by decide) (fun c => ?_) (fun c => ?_)
  · replace h := ite_f c h
    exact g_mask [true, true, true, false, true, true, true, true, false, false] rfl (bX8_pass_b167 C hI hE0 h)
  · replace h := ite_t c h
    refine g_aload_n C.c dX8_pass_143 rfl (i := 0) rfl ?_
    refine gf_8_44 C dX8_pass_144 ?_
    obtain ⟨c13, h⟩ := chk h
    refine gf_8_137d C (isSh_e c13) dX8_pass_147 ?_
    refine g_iconst C.c dX8_pass_150 (v := (4 : Int32)) (by decide) ?_
    refine g_icmp_eq C.c (tgt := 167) dX8_pass_151 (by decide) (fun c => ?_) (fun c => ?_)
    · replace h := ite_t c h
      exact g_mask [true, true, true, false, true, true, true, true, false, false] rfl (bX8_pass_b167 C hI hE0 h)
    · replace h := ite_f c h
      refine g_iload C.c dX8_pass_154 (i := 4) rfl ?_
      refine g_iload C.c dX8_pass_156 (i := 4) rfl ?_
      refine g_iconst C.c dX8_pass_158 (v := (5 : Int32)) (by decide) ?_
      refine g_idiv C.c dX8_pass_159 (by decide) ?_
      refine g_isub C.c dX8_pass_160 ?_
      refine g_istore C.c (i := 4) (L' := [some (.ref (kad K 3)), some (.int x1), some (.int x2), none, some (.int ((imax y2 (y1 - y0)) - ((imax y2 (y1 - y0)) / (5 : Int32)))), some (.int (imax (0 : Int32) (x5 - x8))), some (.int x6), some (.int x7), some (.int x8), none]) dX8_pass_161 (Nat.le_of_ble_eq_true rfl) rfl ?_
      refine g_bipush C.c dX8_pass_163 (v := (9 : Int32)) (by decide) ?_
      refine g_istore C.c (i := 5) (L' := [some (.ref (kad K 3)), some (.int x1), some (.int x2), none, some (.int ((imax y2 (y1 - y0)) - ((imax y2 (y1 - y0)) / (5 : Int32)))), some (.int (9 : Int32)), some (.int x6), some (.int x7), some (.int x8), none]) dX8_pass_165 (Nat.le_of_ble_eq_true rfl) rfl ?_
      exact g_mask [true, true, true, false, true, true, true, true, false, false] rfl (bX8_pass_b167 C hI hE0 h)
set_option maxRecDepth 4000 in
theorem bX8_pass_b84 {K : KT} {x1 : Int32} {x2 : Int32} {x4 : Int32} {x5 : Int32} {x6 : Int32} {x7 : Int32} {y0 : Int32} {σ : Sg} {o : (Int32 × Int32 × Int32 × Sg) ⊕ ((Int32 × Int32 × Int32 × Sg))} (C : Cx K layC cX8_pass RX8 10 (2) none)  (hI : ∀ s' : Int32 × Int32 × Int32 × Sg, o = .inl s' → G K 37 [some (.ref (kad K 3)), some (.int x1), some (.int x2), none, some (.int s'.1), some (.int s'.2.1), some (.int s'.2.2.1), some (.int x7), none, none] [] (Wd K layC s'.2.2.2)) (hE0 : ∀ t : Int32 × Int32 × Int32 × Sg, o = .inr t → G K 195 [some (.ref (kad K 3)), some (.int x1), none, none, some (.int t.1), some (.int t.2.1), some (.int t.2.2.1), none, none, none] [] (Wd K layC t.2.2.2)) (h : fX8_pass_b84 x1 x2 x4 x5 x6 x7 y0 σ = some o) : G K 84 [some (.ref (kad K 3)), some (.int x1), some (.int x2), none, some (.int x4), some (.int x5), some (.int x6), some (.int x7), none, none] [.int y0] (Wd K layC σ) := by
  unfold fX8_pass_b84 at h
  refine g_istore C.c (i := 8) (L' := [some (.ref (kad K 3)), some (.int x1), some (.int x2), none, some (.int x4), some (.int x5), some (.int x6), some (.int x7), some (.int y0), none]) dX8_pass_84 (Nat.le_of_ble_eq_true rfl) rfl ?_
  refine g_aload_n C.c dX8_pass_86 rfl (i := 0) rfl ?_
  refine gf_8_44 C dX8_pass_87 ?_
  obtain ⟨c7, h⟩ := chk h
  refine g_iload C.c dX8_pass_90 (i := 8) rfl ?_
  refine g_iload C.c dX8_pass_92 (i := 4) rfl ?_
  obtain ⟨p8, e9, h⟩ := Option.bind_eq_some_iff.mp h
  refine kc_8_134 C (isSh_e c7) dX8_pass_94 e9 (Nat.le_of_ble_eq_true rfl) rfl (Nat.le_of_ble_eq_true rfl) ?_
  refine g_istore C.c (i := 9) (L' := [some (.ref (kad K 3)), some (.int x1), some (.int x2), none, some (.int x4), some (.int x5), some (.int x6), some (.int x7), some (.int y0), some (.int p8.1)]) dX8_pass_97 (Nat.le_of_ble_eq_true rfl) rfl ?_
  refine g_iconst C.c dX8_pass_99 (v := (0 : Int32)) (by decide) ?_
  refine g_iload C.c dX8_pass_100 (i := 4) rfl ?_
  refine g_aload_n C.c dX8_pass_102 rfl (i := 0) rfl ?_
  refine gf_8_58 C dX8_pass_103 ?_
  refine g_if_eq C.c (tgt := 119) dX8_pass_106 (by decide) (fun c => ?_) (fun c => ?_)
  · replace h := ite_t c h
    refine g_iload C.c dX8_pass_119 (i := 9) rfl ?_
    exact g_mask [true, true, true, false, false, true, true, true, true, false] rfl (bX8_pass_b121 C hI hE0 h)
  · replace h := ite_f c h
    refine g_iload C.c dX8_pass_109 (i := 9) rfl ?_
    refine g_iload C.c dX8_pass_111 (i := 9) rfl ?_
    refine g_iconst C.c dX8_pass_113 (v := (3 : Int32)) (by decide) ?_
    refine g_idiv C.c dX8_pass_114 (by decide) ?_
    refine g_isub C.c dX8_pass_115 ?_
    refine g_goto C.c (tgt := 121) dX8_pass_116 (by decide) ?_
    exact g_mask [true, true, true, false, false, true, true, true, true, false] rfl (bX8_pass_b121 C hI hE0 h)
set_option maxRecDepth 4000 in
theorem bX8_pass_b37 {K : KT} {x1 : Int32} {x2 : Int32} {x4 : Int32} {x5 : Int32} {x6 : Int32} {x7 : Int32} {σ : Sg} {o : (Int32 × Int32 × Int32 × Sg) ⊕ ((Int32 × Int32 × Int32 × Sg))} (C : Cx K layC cX8_pass RX8 10 (2) none)  (hI : ∀ s' : Int32 × Int32 × Int32 × Sg, o = .inl s' → G K 37 [some (.ref (kad K 3)), some (.int x1), some (.int x2), none, some (.int s'.1), some (.int s'.2.1), some (.int s'.2.2.1), some (.int x7), none, none] [] (Wd K layC s'.2.2.2)) (hE0 : ∀ t : Int32 × Int32 × Int32 × Sg, o = .inr t → G K 195 [some (.ref (kad K 3)), some (.int x1), none, none, some (.int t.1), some (.int t.2.1), some (.int t.2.2.1), none, none, none] [] (Wd K layC t.2.2.2)) (h : fX8_pass_b37 x1 x2 x4 x5 x6 x7 σ = some o) : G K 37 [some (.ref (kad K 3)), some (.int x1), some (.int x2), none, some (.int x4), some (.int x5), some (.int x6), some (.int x7), none, none] [] (Wd K layC σ) := by
  unfold fX8_pass_b37 at h
  refine g_iload C.c dX8_pass_37 (i := 6) rfl ?_
  refine g_iload C.c dX8_pass_39 (i := 7) rfl ?_
  refine g_icmp_ge C.c (tgt := 195) dX8_pass_41 (by decide) (fun c => ?_) (fun c => ?_)
  · replace h := ite_t c h
    have g9 := hE0 _ (Option.some.inj h).symm
    exact g_mask [true, true, false, false, true, true, true, false, false, false] rfl g9
  · replace h := ite_f c h
    refine g_iload C.c dX8_pass_44 (i := 4) rfl ?_
    refine g_if_le C.c (tgt := 195) dX8_pass_46 (by decide) (fun c => ?_) (fun c => ?_)
    · replace h := ite_t c h
      have g9 := hE0 _ (Option.some.inj h).symm
      exact g_mask [true, true, false, false, true, true, true, false, false, false] rfl g9
    · replace h := ite_f c h
      refine g_iinc C.c (i := 6) (y := (1 : Int32)) (L' := [some (.ref (kad K 3)), some (.int x1), some (.int x2), none, some (.int x4), some (.int x5), some (.int (x6 + (1 : Int32))), some (.int x7), none, none]) dX8_pass_49 rfl (by decide) (Nat.le_of_ble_eq_true rfl) rfl ?_
      refine g_aload_n C.c dX8_pass_52 rfl (i := 0) rfl ?_
      refine gf_8_65 C dX8_pass_53 ?_
      refine g_if_eq C.c (tgt := 75) dX8_pass_56 (by decide) (fun c => ?_) (fun c => ?_)
      · replace h := ite_t c h
        refine g_aload_n C.c dX8_pass_75 rfl (i := 0) rfl ?_
        refine gf_8_12 C dX8_pass_76 ?_
        refine gf_8_127 C dX8_pass_79 ?_
        refine g_iload_n C.c dX8_pass_82 rfl (i := 2) rfl ?_
        obtain ⟨c6, h⟩ := chk h
        refine g_iald C dX8_pass_83 rfl c6 ?_
        exact g_mask [true, true, true, false, true, true, true, true, false, false] rfl (bX8_pass_b84 C hI hE0 h)
      · replace h := ite_f c h
        refine g_aload_n C.c dX8_pass_59 rfl (i := 0) rfl ?_
        refine g_aload_n C.c dX8_pass_60 rfl (i := 0) rfl ?_
        refine gf_8_12 C dX8_pass_61 ?_
        refine gf_8_127 C dX8_pass_64 ?_
        refine g_iload_n C.c dX8_pass_67 rfl (i := 2) rfl ?_
        obtain ⟨c14, h⟩ := chk h
        refine g_iald C dX8_pass_68 rfl c14 ?_
        obtain ⟨p15, e16, h⟩ := Option.bind_eq_some_iff.mp h
        refine kc_8_130 C dX8_pass_69 e16 (Nat.le_of_ble_eq_true rfl) rfl (Nat.le_of_ble_eq_true rfl) ?_
        refine g_goto C.c (tgt := 84) dX8_pass_72 (by decide) ?_
        exact g_mask [true, true, true, false, true, true, true, true, false, false] rfl (bX8_pass_b84 C hI hE0 h)
set_option maxRecDepth 4000 in
theorem bX8_pass_b0 {K : KT} {x1 : Int32} {x2 : Int32} {x3 : Int32} {σ : Sg} {o : Sg} (C : Cx K layC cX8_pass RX8 10 (2) none)  (hQ : Rk K layC (okV o)) (h : fX8_pass_b0 x1 x2 x3 σ = some o) : G K 0 [some (.ref (kad K 3)), some (.int x1), some (.int x2), some (.int x3), none, none, none, none, none, none] [] (Wd K layC σ) := by
  unfold fX8_pass_b0 at h
  refine g_aload_n C.c dX8_pass_0 rfl (i := 0) rfl ?_
  refine gf_8_25 C dX8_pass_1 ?_
  refine g_iload_n C.c dX8_pass_4 rfl (i := 1) rfl ?_
  obtain ⟨c1, h⟩ := chk h
  refine g_iald C dX8_pass_5 rfl c1 ?_
  refine g_istore C.c (i := 4) (L' := [some (.ref (kad K 3)), some (.int x1), some (.int x2), some (.int x3), some (.int (rI σ 42 (x1).toNatClampNeg)), none, none, none, none, none]) dX8_pass_6 (Nat.le_of_ble_eq_true rfl) rfl ?_
  refine g_aload_n C.c dX8_pass_8 rfl (i := 0) rfl ?_
  refine gf_8_29 C dX8_pass_9 ?_
  refine g_iload_n C.c dX8_pass_12 rfl (i := 1) rfl ?_
  obtain ⟨c2, h⟩ := chk h
  refine g_iald C dX8_pass_13 rfl c2 ?_
  refine g_istore C.c (i := 5) (L' := [some (.ref (kad K 3)), some (.int x1), some (.int x2), some (.int x3), some (.int (rI σ 42 (x1).toNatClampNeg)), some (.int (rI σ 43 (x1).toNatClampNeg)), none, none, none, none]) dX8_pass_14 (Nat.le_of_ble_eq_true rfl) rfl ?_
  refine g_aload_n C.c dX8_pass_16 rfl (i := 0) rfl ?_
  refine gf_8_32 C dX8_pass_17 ?_
  refine g_iload_n C.c dX8_pass_20 rfl (i := 1) rfl ?_
  obtain ⟨c3, h⟩ := chk h
  refine g_iald C dX8_pass_21 rfl c3 ?_
  refine g_istore C.c (i := 6) (L' := [some (.ref (kad K 3)), some (.int x1), some (.int x2), some (.int x3), some (.int (rI σ 42 (x1).toNatClampNeg)), some (.int (rI σ 43 (x1).toNatClampNeg)), some (.int (rI σ 44 (x1).toNatClampNeg)), none, none, none]) dX8_pass_22 (Nat.le_of_ble_eq_true rfl) rfl ?_
  refine g_iload C.c dX8_pass_24 (i := 6) rfl ?_
  refine g_aload_n C.c dX8_pass_26 rfl (i := 0) rfl ?_
  refine g_iload_n C.c dX8_pass_27 rfl (i := 2) rfl ?_
  refine g_iload_n C.c dX8_pass_28 rfl (i := 3) rfl ?_
  refine g_iload C.c dX8_pass_29 (i := 4) rfl ?_
  obtain ⟨p4, e5, h⟩ := Option.bind_eq_some_iff.mp h
  refine kc_8_123 C dX8_pass_31 e5 (Nat.le_of_ble_eq_true rfl) rfl (Nat.le_of_ble_eq_true rfl) ?_
  refine g_iadd C.c dX8_pass_34 ?_
  refine g_istore C.c (i := 7) (L' := [some (.ref (kad K 3)), some (.int x1), some (.int x2), some (.int x3), some (.int (rI σ 42 (x1).toNatClampNeg)), some (.int (rI σ 43 (x1).toNatClampNeg)), some (.int (rI σ 44 (x1).toNatClampNeg)), some (.int ((rI σ 44 (x1).toNatClampNeg) + p4.1)), none, none]) dX8_pass_35 (Nat.le_of_ble_eq_true rfl) rfl ?_
  refine g_mask [true, true, true, false, true, true, true, true, false, false] rfl ?_
  refine lp_bind (Gh := fun s => G K 37 [some (.ref (kad K 3)), some (.int x1), some (.int x2), none, some (.int s.1), some (.int s.2.1), some (.int s.2.2.1), some (.int ((rI σ 44 (x1).toNatClampNeg) + p4.1)), none, none] [] (Wd K layC s.2.2.2)) h (fun s o2 hf gI gE => ?_)
  refine bX8_pass_b37 C gI (fun t17 e => ?_) hf
  · have h := gE _ e
    refine g_aload_n C.c dX8_pass_195 rfl (i := 0) rfl ?_
    refine gf_8_25 C dX8_pass_196 ?_
    refine g_iload_n C.c dX8_pass_199 rfl (i := 1) rfl ?_
    refine g_iconst C.c dX8_pass_200 (v := (1 : Int32)) (by decide) ?_
    refine g_iadd C.c dX8_pass_201 ?_
    refine g_iload C.c dX8_pass_202 (i := 4) rfl ?_
    obtain ⟨c19, h⟩ := chk h
    refine g_iast C dX8_pass_204 rfl c19 ?_
    refine g_aload_n C.c dX8_pass_205 rfl (i := 0) rfl ?_
    refine gf_8_29 C dX8_pass_206 ?_
    refine g_iload_n C.c dX8_pass_209 rfl (i := 1) rfl ?_
    refine g_iconst C.c dX8_pass_210 (v := (1 : Int32)) (by decide) ?_
    refine g_iadd C.c dX8_pass_211 ?_
    refine g_iload C.c dX8_pass_212 (i := 5) rfl ?_
    obtain ⟨c20, h⟩ := chk h
    refine g_iast C dX8_pass_214 rfl c20 ?_
    refine g_aload_n C.c dX8_pass_215 rfl (i := 0) rfl ?_
    refine gf_8_32 C dX8_pass_216 ?_
    refine g_iload_n C.c dX8_pass_219 rfl (i := 1) rfl ?_
    refine g_iconst C.c dX8_pass_220 (v := (1 : Int32)) (by decide) ?_
    refine g_iadd C.c dX8_pass_221 ?_
    refine g_iload C.c dX8_pass_222 (i := 6) rfl ?_
    obtain ⟨c21, h⟩ := chk h
    refine g_iast C dX8_pass_224 rfl c21 ?_
    obtain rfl := Option.some.inj h
    exact g_vret C hQ dX8_pass_225 ⟨rfl, rfl⟩
def fX8_pass (a0 : Int32) (a1 : Int32) (a2 : Int32) (σ : Sg) : Option (Sg) := fX8_pass_b0 a0 a1 a2 σ
theorem ct_X8_pass {a0 : Int32} {a1 : Int32} {a2 : Int32} {σ : Sg} {p : Sg} (h : fX8_pass a0 a1 a2 σ = some p) : Ct layC yX8_pass cX8_pass 10 none 2 (fun ad => [.ref (ad 3), .int a0, .int a1, .int a2]) σ (okV p) :=
 ct_of (L0 := fun ad => [some (.ref (ad 3)), some (.int a0), some (.int a1), some (.int a2), none, none, none, none, none, none]) (by decide) (fun _ => Nat.le_of_ble_eq_true rfl) (fun _ => rfl) (fun K C hQ => g_mask [true, true, true, true, false, false, false, false, false, false] rfl (bX8_pass_b0 C hQ h))
-- X8_follow
theorem dX8_follow_0 : decode cX8_follow 0 = .ok (.aload_n 0, 1) := by decide +kernel
theorem dX8_follow_1 : decode cX8_follow 1 = .ok (.iload_n 2, 1) := by decide +kernel
theorem dX8_follow_2 : decode cX8_follow 2 = .ok (.invokevirtual 99, 3) := by decide +kernel
theorem dX8_follow_5 : decode cX8_follow 5 = .ok (.ifCond .eq 4, 3) := by decide +kernel
theorem dX8_follow_8 : decode cX8_follow 8 = .ok (.return_, 1) := by decide +kernel
theorem dX8_follow_9 : decode cX8_follow 9 = .ok (.iload_n 1, 1) := by decide +kernel
theorem dX8_follow_10 : decode cX8_follow 10 = .ok (.aload_n 0, 1) := by decide +kernel
theorem dX8_follow_11 : decode cX8_follow 11 = .ok (.getfield 12, 3) := by decide +kernel
theorem dX8_follow_14 : decode cX8_follow 14 = .ok (.getfield 103, 3) := by decide +kernel
theorem dX8_follow_17 : decode cX8_follow 17 = .ok (.if_icmp .ne 9, 3) := by decide +kernel
theorem dX8_follow_20 : decode cX8_follow 20 = .ok (.aload_n 0, 1) := by decide +kernel
theorem dX8_follow_21 : decode cX8_follow 21 = .ok (.iload_n 2, 1) := by decide +kernel
theorem dX8_follow_22 : decode cX8_follow 22 = .ok (.invokevirtual 106, 3) := by decide +kernel
theorem dX8_follow_25 : decode cX8_follow 25 = .ok (.return_, 1) := by decide +kernel
theorem dX8_follow_26 : decode cX8_follow 26 = .ok (.iload_n 2, 1) := by decide +kernel
theorem dX8_follow_27 : decode cX8_follow 27 = .ok (.bipush 9, 2) := by decide +kernel
theorem dX8_follow_29 : decode cX8_follow 29 = .ok (.if_icmp .lt 4, 3) := by decide +kernel
theorem dX8_follow_32 : decode cX8_follow 32 = .ok (.return_, 1) := by decide +kernel
theorem dX8_follow_33 : decode cX8_follow 33 = .ok (.iconst 0, 1) := by decide +kernel
theorem dX8_follow_34 : decode cX8_follow 34 = .ok (.istore_n 3, 1) := by decide +kernel
theorem dX8_follow_35 : decode cX8_follow 35 = .ok (.iload_n 3, 1) := by decide +kernel
theorem dX8_follow_36 : decode cX8_follow 36 = .ok (.iconst 4, 1) := by decide +kernel
theorem dX8_follow_37 : decode cX8_follow 37 = .ok (.if_icmp .ge 51, 3) := by decide +kernel
theorem dX8_follow_40 : decode cX8_follow 40 = .ok (.aload_n 0, 1) := by decide +kernel
theorem dX8_follow_41 : decode cX8_follow 41 = .ok (.getfield 12, 3) := by decide +kernel
theorem dX8_follow_44 : decode cX8_follow 44 = .ok (.getfield 89, 3) := by decide +kernel
theorem dX8_follow_47 : decode cX8_follow 47 = .ok (.iload_n 1, 1) := by decide +kernel
theorem dX8_follow_48 : decode cX8_follow 48 = .ok (.aaload, 1) := by decide +kernel
theorem dX8_follow_49 : decode cX8_follow 49 = .ok (.iload_n 3, 1) := by decide +kernel
theorem dX8_follow_50 : decode cX8_follow 50 = .ok (.iaload, 1) := by decide +kernel
theorem dX8_follow_51 : decode cX8_follow 51 = .ok (.istore 4, 2) := by decide +kernel
theorem dX8_follow_53 : decode cX8_follow 53 = .ok (.iload 4, 2) := by decide +kernel
theorem dX8_follow_55 : decode cX8_follow 55 = .ok (.iconst (-1), 1) := by decide +kernel
theorem dX8_follow_56 : decode cX8_follow 56 = .ok (.if_icmp .eq 26, 3) := by decide +kernel
theorem dX8_follow_59 : decode cX8_follow 59 = .ok (.aload_n 0, 1) := by decide +kernel
theorem dX8_follow_60 : decode cX8_follow 60 = .ok (.getfield 35, 3) := by decide +kernel
theorem dX8_follow_63 : decode cX8_follow 63 = .ok (.iload_n 2, 1) := by decide +kernel
theorem dX8_follow_64 : decode cX8_follow 64 = .ok (.iload_n 3, 1) := by decide +kernel
theorem dX8_follow_65 : decode cX8_follow 65 = .ok (.iastore, 1) := by decide +kernel
theorem dX8_follow_66 : decode cX8_follow 66 = .ok (.aload_n 0, 1) := by decide +kernel
theorem dX8_follow_67 : decode cX8_follow 67 = .ok (.iload_n 2, 1) := by decide +kernel
theorem dX8_follow_68 : decode cX8_follow 68 = .ok (.iload_n 1, 1) := by decide +kernel
theorem dX8_follow_69 : decode cX8_follow 69 = .ok (.iload_n 3, 1) := by decide +kernel
theorem dX8_follow_70 : decode cX8_follow 70 = .ok (.invokevirtual 85, 3) := by decide +kernel
theorem dX8_follow_73 : decode cX8_follow 73 = .ok (.aload_n 0, 1) := by decide +kernel
theorem dX8_follow_74 : decode cX8_follow 74 = .ok (.iload 4, 2) := by decide +kernel
theorem dX8_follow_76 : decode cX8_follow 76 = .ok (.iload_n 2, 1) := by decide +kernel
theorem dX8_follow_77 : decode cX8_follow 77 = .ok (.iconst 1, 1) := by decide +kernel
theorem dX8_follow_78 : decode cX8_follow 78 = .ok (.iadd, 1) := by decide +kernel
theorem dX8_follow_79 : decode cX8_follow 79 = .ok (.invokestatic 74, 3) := by decide +kernel
theorem dX8_follow_82 : decode cX8_follow 82 = .ok (.iinc 3 1, 3) := by decide +kernel
theorem dX8_follow_85 : decode cX8_follow 85 = .ok (.goto (-50), 3) := by decide +kernel
theorem dX8_follow_88 : decode cX8_follow 88 = .ok (.return_, 1) := by decide +kernel
theorem cw_X8_follow : Cw yX8_follow cX8_follow 5 none 3 := ⟨aw_500, aw_21, ⟨by decide, by decide⟩, by decide +kernel, by decide⟩
theorem kc_8_99 {K : KT} {cc : ByteArray} {nL d pc : Nat} {ret : Option FieldType} {L : List (Option Value)} {st : List Value} {σ : Sg} (C : Cx K layC cc RX8 nL d ret)  {a0 : Int32}  {p : Int32 × Sg} (hd : decode cc pc = .ok (.invokevirtual 99, 3)) (e : fX8_isHopeless a0 σ = some p) (hdd : 2 + 1 ≤ d) (hLn : L.length = nL) (hr : (st.map fun v => v.category).sum ≤ 8) (k : G K (pc + 3) L (.int p.1 :: st) (Wd K layC p.2)) : G K pc L (.int a0 :: .ref (kad K 3) :: st) (Wd K layC σ) :=
  g_callV C (As := [.int a0]) (rest := st) (o := 3) (ci := 8) hd (ct_X8_isHopeless e) cw_X8_isHopeless (Or.inl aw_501) aw_503 aw_9 rfl rfl rfl hdd hLn rfl rfl hr (fun v τ q => by obtain ⟨rfl, rfl⟩ := q; exact k)
theorem gf_8_103 {K : KT} {cc : ByteArray} {nL d pc : Nat} {ret : Option FieldType} {L : List (Option Value)} {st : List Value} {σ : Sg} (C : Cx K layC cc RX8 nL d ret)  (hd : decode cc pc = .ok (.getfield 103, 3)) (k : G K (pc + 3) L (.int (rI σ 4 7) :: st) (Wd K layC σ)) : G K pc L (.ref (kad K 4) :: st) (Wd K layC σ) := g_get C (o := 4) (ci := 7) (k := 7) hd rfl rfl rfl (by decide) (Or.inr ⟨_, aw_98⟩) inA7 rfl k
theorem gf_8_89 {K : KT} {cc : ByteArray} {nL d pc : Nat} {ret : Option FieldType} {L : List (Option Value)} {st : List Value} {σ : Sg} (C : Cx K layC cc RX8 nL d ret)  (hd : decode cc pc = .ok (.getfield 89, 3)) (k : G K (pc + 3) L (.ref (kad K 9) :: st) (Wd K layC σ)) : G K pc L (.ref (kad K 4) :: st) (Wd K layC σ) := g_get C (o := 4) (ci := 7) (k := 4) hd rfl rfl rfl (by decide) (Or.inr ⟨_, aw_94⟩) inA7 rfl k
theorem kc_8_85 {K : KT} {cc : ByteArray} {nL d pc : Nat} {ret : Option FieldType} {L : List (Option Value)} {st : List Value} {σ : Sg} (C : Cx K layC cc RX8 nL d ret)  {a0 : Int32} {a1 : Int32} {a2 : Int32}  {p : Sg} (hd : decode cc pc = .ok (.invokevirtual 85, 3)) (e : fX8_pass a0 a1 a2 σ = some p) (hdd : 2 + 1 ≤ d) (hLn : L.length = nL) (hr : (st.map fun v => v.category).sum ≤ 8) (k : G K (pc + 3) L (st) (Wd K layC p)) : G K pc L (.int a2 :: .int a1 :: .int a0 :: .ref (kad K 3) :: st) (Wd K layC σ) :=
  g_callV C (As := [.int a0, .int a1, .int a2]) (rest := st) (o := 3) (ci := 8) hd (ct_X8_pass e) cw_X8_pass (Or.inl aw_516) aw_518 aw_11 rfl rfl rfl hdd hLn rfl rfl hr (fun v τ q => by obtain ⟨rfl, rfl⟩ := q; exact k)
theorem kc_8_106 {K : KT} {cc : ByteArray} {nL d pc : Nat} {ret : Option FieldType} {L : List (Option Value)} {st : List Value} {σ : Sg} (C : Cx K layC cc RX8 nL d ret)  {a0 : Int32}  {p : Sg} (hd : decode cc pc = .ok (.invokevirtual 106, 3)) (e : fX8_choose a0 σ = some p) (hdd : 2 + 1 ≤ d) (hLn : L.length = nL) (hr : (st.map fun v => v.category).sum ≤ 8) (k : G K (pc + 3) L (st) (Wd K layC p)) : G K pc L (.int a0 :: .ref (kad K 3) :: st) (Wd K layC σ) :=
  g_callV C (As := [.int a0]) (rest := st) (o := 3) (ci := 8) hd (ct_X8_choose e) cw_X8_choose (Or.inl aw_509) aw_511 aw_10 rfl rfl rfl hdd hLn rfl rfl hr (fun v τ q => by obtain ⟨rfl, rfl⟩ := q; exact k)
def fX8_follow_b82 (rc : Int32 → Int32 → Sg → Option (Sg)) (x1 : Int32) (x2 : Int32) (x3 : Int32) (σ : Sg) : Option ((Int32 × Sg) ⊕ ((Sg))) :=
  some (.inl ((x3 + (1 : Int32)), σ))
def fX8_follow_b35 (rc : Int32 → Int32 → Sg → Option (Sg)) (x1 : Int32) (x2 : Int32) (x3 : Int32) (σ : Sg) : Option ((Int32 × Sg) ⊕ ((Sg))) :=
  if (4 : Int32) ≤ x3 then (some (.inr σ)) else (if inb x1 30 = true then (if inb x3 4 = true then (if (rI σ (10 + (x1).toNatClampNeg) (x3).toNatClampNeg) = (-1 : Int32) then (fX8_follow_b82 rc x1 x2 x3 σ) else (if inb x2 9 = true then (Option.bind (fX8_pass x2 x1 x3 (wI σ 45 (x2).toNatClampNeg x3)) fun p7 => (Option.bind (rc (rI σ (10 + (x1).toNatClampNeg) (x3).toNatClampNeg) (x2 + (1 : Int32)) p7) fun p9 => (fX8_follow_b82 rc x1 x2 x3 p9))) else none)) else none) else none)
def fX8_follow_b0 (rc : Int32 → Int32 → Sg → Option (Sg)) (x1 : Int32) (x2 : Int32) (σ : Sg) : Option (Sg) :=
  Option.bind (fX8_isHopeless x2 σ) fun p1 => (if p1.1 = 0 then (if x1 = (rI p1.2 4 7) then (Option.bind (fX8_choose x2 p1.2) fun p13 => (some p13)) else (if x2 < (9 : Int32) then (Option.bind (lp (fun s => fX8_follow_b35 rc x1 x2 s.1 s.2) FU ((0 : Int32), p1.2)) fun t11 => some t11) else (some p1.2))) else (some p1.2))
set_option maxRecDepth 4000 in
theorem bX8_follow_b82 {K : KT} {rc : Int32 → Int32 → Sg → Option (Sg)} {n : Nat} {x1 : Int32} {x2 : Int32} {x3 : Int32} {σ : Sg} {o : (Int32 × Sg) ⊕ ((Sg))} (C : Cx K layC cX8_follow RX8 5 (2 + n + 1) none) (hrc : ∀ (a1 : Int32) (a2 : Int32) (σ : Sg) (p : Sg), rc a1 a2 σ = some p → Ct layC yX8_follow cX8_follow 5 none (2 + n) (fun ad => [.ref (ad 3), .int a1, .int a2]) σ (okV p))  (hI : ∀ s' : Int32 × Sg, o = .inl s' → G K 35 [some (.ref (kad K 3)), some (.int x1), some (.int x2), some (.int s'.1), none] [] (Wd K layC s'.2)) (hE0 : ∀ t : Sg, o = .inr t → G K 88 [none, none, none, none, none] [] (Wd K layC t)) (h : fX8_follow_b82 rc x1 x2 x3 σ = some o) : G K 82 [some (.ref (kad K 3)), some (.int x1), some (.int x2), some (.int x3), none] [] (Wd K layC σ) := by
  unfold fX8_follow_b82 at h
  refine g_iinc C.c (i := 3) (y := (1 : Int32)) (L' := [some (.ref (kad K 3)), some (.int x1), some (.int x2), some (.int (x3 + (1 : Int32))), none]) dX8_follow_82 rfl (by decide) (Nat.le_of_ble_eq_true rfl) rfl ?_
  refine g_goto C.c (tgt := 35) dX8_follow_85 (by decide) ?_
  have g9 := hI _ (Option.some.inj h).symm
  exact g_mask [true, true, true, true, false] rfl g9
set_option maxRecDepth 4000 in
theorem bX8_follow_b35 {K : KT} {rc : Int32 → Int32 → Sg → Option (Sg)} {n : Nat} {x1 : Int32} {x2 : Int32} {x3 : Int32} {σ : Sg} {o : (Int32 × Sg) ⊕ ((Sg))} (C : Cx K layC cX8_follow RX8 5 (2 + n + 1) none) (hrc : ∀ (a1 : Int32) (a2 : Int32) (σ : Sg) (p : Sg), rc a1 a2 σ = some p → Ct layC yX8_follow cX8_follow 5 none (2 + n) (fun ad => [.ref (ad 3), .int a1, .int a2]) σ (okV p))  (hI : ∀ s' : Int32 × Sg, o = .inl s' → G K 35 [some (.ref (kad K 3)), some (.int x1), some (.int x2), some (.int s'.1), none] [] (Wd K layC s'.2)) (hE0 : ∀ t : Sg, o = .inr t → G K 88 [none, none, none, none, none] [] (Wd K layC t)) (h : fX8_follow_b35 rc x1 x2 x3 σ = some o) : G K 35 [some (.ref (kad K 3)), some (.int x1), some (.int x2), some (.int x3), none] [] (Wd K layC σ) := by
  unfold fX8_follow_b35 at h
  refine g_iload_n C.c dX8_follow_35 rfl (i := 3) rfl ?_
  refine g_iconst C.c dX8_follow_36 (v := (4 : Int32)) (by decide) ?_
  refine g_icmp_ge C.c (tgt := 88) dX8_follow_37 (by decide) (fun c => ?_) (fun c => ?_)
  · replace h := ite_t c h
    have g9 := hE0 _ (Option.some.inj h).symm
    exact g_mask [false, false, false, false, false] rfl g9
  · replace h := ite_f c h
    refine g_aload_n C.c dX8_follow_40 rfl (i := 0) rfl ?_
    refine gf_8_12 C dX8_follow_41 ?_
    refine gf_8_89 C dX8_follow_44 ?_
    refine g_iload_n C.c dX8_follow_47 rfl (i := 1) rfl ?_
    obtain ⟨c3, h⟩ := chk h
    have hs4 := rw_9 (inb_lt c3)
    refine g_aald5 C (b := 10) dX8_follow_48 rfl c3 rfl rfl ?_
    refine g_iload_n C.c dX8_follow_49 rfl (i := 3) rfl ?_
    obtain ⟨c5, h⟩ := chk h
    refine g_iald C dX8_follow_50 hs4 c5 ?_
    refine g_istore C.c (i := 4) (L' := [some (.ref (kad K 3)), some (.int x1), some (.int x2), some (.int x3), some (.int (rI σ (10 + (x1).toNatClampNeg) (x3).toNatClampNeg))]) dX8_follow_51 (Nat.le_of_ble_eq_true rfl) rfl ?_
    refine g_iload C.c dX8_follow_53 (i := 4) rfl ?_
    refine g_iconst C.c dX8_follow_55 (v := (-1 : Int32)) (by decide) ?_
    refine g_icmp_eq C.c (tgt := 82) dX8_follow_56 (by decide) (fun c => ?_) (fun c => ?_)
    · replace h := ite_t c h
      exact g_mask [true, true, true, true, false] rfl (bX8_follow_b82 C hrc hI hE0 h)
    · replace h := ite_f c h
      refine g_aload_n C.c dX8_follow_59 rfl (i := 0) rfl ?_
      refine gf_8_35 C dX8_follow_60 ?_
      refine g_iload_n C.c dX8_follow_63 rfl (i := 2) rfl ?_
      refine g_iload_n C.c dX8_follow_64 rfl (i := 3) rfl ?_
      obtain ⟨c6, h⟩ := chk h
      refine g_iast C dX8_follow_65 rfl c6 ?_
      refine g_aload_n C.c dX8_follow_66 rfl (i := 0) rfl ?_
      refine g_iload_n C.c dX8_follow_67 rfl (i := 2) rfl ?_
      refine g_iload_n C.c dX8_follow_68 rfl (i := 1) rfl ?_
      refine g_iload_n C.c dX8_follow_69 rfl (i := 3) rfl ?_
      obtain ⟨p7, e8, h⟩ := Option.bind_eq_some_iff.mp h
      refine kc_8_85 C dX8_follow_70 e8 (by omega) rfl (Nat.le_of_ble_eq_true rfl) ?_
      refine g_aload_n C.c dX8_follow_73 rfl (i := 0) rfl ?_
      refine g_iload C.c dX8_follow_74 (i := 4) rfl ?_
      refine g_iload_n C.c dX8_follow_76 rfl (i := 2) rfl ?_
      refine g_iconst C.c dX8_follow_77 (v := (1 : Int32)) (by decide) ?_
      refine g_iadd C.c dX8_follow_78 ?_
      obtain ⟨p9, e10, h⟩ := Option.bind_eq_some_iff.mp h
      refine g_callS C (As := [.ref (kad K 3), .int (rI σ (10 + (x1).toNatClampNeg) (x3).toNatClampNeg), .int (x2 + (1 : Int32))]) (rest := []) dX8_follow_79 (hrc _ _ _ _ e10) cw_X8_follow (Or.inl aw_498) aw_499 rfl rfl rfl (by omega) rfl (Nat.le_of_ble_eq_true rfl) (fun v τ q => ?_)
      obtain ⟨rfl, rfl⟩ := q
      exact g_mask [true, true, true, true, false] rfl (bX8_follow_b82 C hrc hI hE0 h)
set_option maxRecDepth 4000 in
theorem bX8_follow_b0 {K : KT} {rc : Int32 → Int32 → Sg → Option (Sg)} {n : Nat} {x1 : Int32} {x2 : Int32} {σ : Sg} {o : Sg} (C : Cx K layC cX8_follow RX8 5 (2 + n + 1) none) (hrc : ∀ (a1 : Int32) (a2 : Int32) (σ : Sg) (p : Sg), rc a1 a2 σ = some p → Ct layC yX8_follow cX8_follow 5 none (2 + n) (fun ad => [.ref (ad 3), .int a1, .int a2]) σ (okV p))  (hQ : Rk K layC (okV o)) (h : fX8_follow_b0 rc x1 x2 σ = some o) : G K 0 [some (.ref (kad K 3)), some (.int x1), some (.int x2), none, none] [] (Wd K layC σ) := by
  unfold fX8_follow_b0 at h
  refine g_aload_n C.c dX8_follow_0 rfl (i := 0) rfl ?_
  refine g_iload_n C.c dX8_follow_1 rfl (i := 2) rfl ?_
  obtain ⟨p1, e2, h⟩ := Option.bind_eq_some_iff.mp h
  refine kc_8_99 C dX8_follow_2 e2 (by omega) rfl (Nat.le_of_ble_eq_true rfl) ?_
  refine g_if_eq C.c (tgt := 9) dX8_follow_5 (by decide) (fun c => ?_) (fun c => ?_)
  · replace h := ite_t c h
    refine g_iload_n C.c dX8_follow_9 rfl (i := 1) rfl ?_
    refine g_aload_n C.c dX8_follow_10 rfl (i := 0) rfl ?_
    refine gf_8_12 C dX8_follow_11 ?_
    refine gf_8_103 C dX8_follow_14 ?_
    refine g_icmp_ne C.c (tgt := 26) dX8_follow_17 (by decide) (fun c => ?_) (fun c => ?_)
    · replace h := ite_f c h
      refine g_iload_n C.c dX8_follow_26 rfl (i := 2) rfl ?_
      refine g_bipush C.c dX8_follow_27 (v := (9 : Int32)) (by decide) ?_
      refine g_icmp_lt C.c (tgt := 33) dX8_follow_29 (by decide) (fun c => ?_) (fun c => ?_)
      · replace h := ite_t c h
        refine g_iconst C.c dX8_follow_33 (v := (0 : Int32)) (by decide) ?_
        refine g_istore_n C.c (i := 3) (L' := [some (.ref (kad K 3)), some (.int x1), some (.int x2), some (.int (0 : Int32)), none]) dX8_follow_34 rfl (Nat.le_of_ble_eq_true rfl) rfl ?_
        refine g_mask [true, true, true, true, false] rfl ?_
        refine lp_bind (Gh := fun s => G K 35 [some (.ref (kad K 3)), some (.int x1), some (.int x2), some (.int s.1), none] [] (Wd K layC s.2)) h (fun s o2 hf gI gE => ?_)
        refine bX8_follow_b35 C hrc gI (fun t11 e => ?_) hf
        · have h := gE _ e
          obtain rfl := Option.some.inj h
          exact g_vret C hQ dX8_follow_88 ⟨rfl, rfl⟩
      · replace h := ite_f c h
        obtain rfl := Option.some.inj h
        exact g_vret C hQ dX8_follow_32 ⟨rfl, rfl⟩
    · replace h := ite_t c h
      refine g_aload_n C.c dX8_follow_20 rfl (i := 0) rfl ?_
      refine g_iload_n C.c dX8_follow_21 rfl (i := 2) rfl ?_
      obtain ⟨p13, e14, h⟩ := Option.bind_eq_some_iff.mp h
      refine kc_8_106 C dX8_follow_22 e14 (by omega) rfl (Nat.le_of_ble_eq_true rfl) ?_
      obtain rfl := Option.some.inj h
      exact g_vret C hQ dX8_follow_25 ⟨rfl, rfl⟩
  · replace h := ite_f c h
    obtain rfl := Option.some.inj h
    exact g_vret C hQ dX8_follow_8 ⟨rfl, rfl⟩
def fX8_follow : Nat → Int32 → Int32 → Sg → Option (Sg)
  | 0 => fun _ _ _ => none
  | n + 1 => fun a1 a2 σ => fX8_follow_b0 (fX8_follow n) a1 a2 σ
theorem ct_X8_follow : ∀ (n : Nat) {a1 : Int32} {a2 : Int32} {σ : Sg} {p : Sg} (h : fX8_follow n a1 a2 σ = some p), Ct layC yX8_follow cX8_follow 5 none (2 + n) (fun ad => [.ref (ad 3), .int a1, .int a2]) σ (okV p)
  | 0, _, _, _, _, h => by cases h
  | n + 1, a1, a2, _, _, h => ct_of (L0 := fun ad => [some (.ref (ad 3)), some (.int a1), some (.int a2), none, none]) (by decide) (fun _ => Nat.le_of_ble_eq_true rfl) (fun _ => rfl) (fun K C hQ => g_mask [true, true, true, false, false] rfl (bX8_follow_b0 C (fun _ _ _ _ e => ct_X8_follow n e) hQ h))
-- X8_seek
theorem dX8_seek_0 : decode cX8_seek 0 = .ok (.aload_n 0, 1) := by decide +kernel
theorem dX8_seek_1 : decode cX8_seek 1 = .ok (.aload_n 1, 1) := by decide +kernel
theorem dX8_seek_2 : decode cX8_seek 2 = .ok (.putfield 44, 3) := by decide +kernel
theorem dX8_seek_5 : decode cX8_seek 5 = .ok (.aload_n 0, 1) := by decide +kernel
theorem dX8_seek_6 : decode cX8_seek 6 = .ok (.iconst 1, 1) := by decide +kernel
theorem dX8_seek_7 : decode cX8_seek 7 = .ok (.iload_n 3, 1) := by decide +kernel
theorem dX8_seek_8 : decode cX8_seek 8 = .ok (.invokestatic 52, 3) := by decide +kernel
theorem dX8_seek_11 : decode cX8_seek 11 = .ok (.putfield 48, 3) := by decide +kernel
theorem dX8_seek_14 : decode cX8_seek 14 = .ok (.aload_n 0, 1) := by decide +kernel
theorem dX8_seek_15 : decode cX8_seek 15 = .ok (.iload 4, 2) := by decide +kernel
theorem dX8_seek_17 : decode cX8_seek 17 = .ok (.putfield 58, 3) := by decide +kernel
theorem dX8_seek_20 : decode cX8_seek 20 = .ok (.aload_n 0, 1) := by decide +kernel
theorem dX8_seek_21 : decode cX8_seek 21 = .ok (.iconst 0, 1) := by decide +kernel
theorem dX8_seek_22 : decode cX8_seek 22 = .ok (.putfield 62, 3) := by decide +kernel
theorem dX8_seek_25 : decode cX8_seek 25 = .ok (.aload_n 0, 1) := by decide +kernel
theorem dX8_seek_26 : decode cX8_seek 26 = .ok (.iconst 0, 1) := by decide +kernel
theorem dX8_seek_27 : decode cX8_seek 27 = .ok (.putfield 65, 3) := by decide +kernel
theorem dX8_seek_30 : decode cX8_seek 30 = .ok (.aload_n 0, 1) := by decide +kernel
theorem dX8_seek_31 : decode cX8_seek 31 = .ok (.getfield 25, 3) := by decide +kernel
theorem dX8_seek_34 : decode cX8_seek 34 = .ok (.iconst 0, 1) := by decide +kernel
theorem dX8_seek_35 : decode cX8_seek 35 = .ok (.iload_n 2, 1) := by decide +kernel
theorem dX8_seek_36 : decode cX8_seek 36 = .ok (.iastore, 1) := by decide +kernel
theorem dX8_seek_37 : decode cX8_seek 37 = .ok (.aload_n 0, 1) := by decide +kernel
theorem dX8_seek_38 : decode cX8_seek 38 = .ok (.getfield 29, 3) := by decide +kernel
theorem dX8_seek_41 : decode cX8_seek 41 = .ok (.iconst 0, 1) := by decide +kernel
theorem dX8_seek_42 : decode cX8_seek 42 = .ok (.aload_n 1, 1) := by decide +kernel
theorem dX8_seek_43 : decode cX8_seek 43 = .ok (.getfield 68, 3) := by decide +kernel
theorem dX8_seek_46 : decode cX8_seek 46 = .ok (.iastore, 1) := by decide +kernel
theorem dX8_seek_47 : decode cX8_seek 47 = .ok (.aload_n 0, 1) := by decide +kernel
theorem dX8_seek_48 : decode cX8_seek 48 = .ok (.getfield 32, 3) := by decide +kernel
theorem dX8_seek_51 : decode cX8_seek 51 = .ok (.iconst 0, 1) := by decide +kernel
theorem dX8_seek_52 : decode cX8_seek 52 = .ok (.iconst 0, 1) := by decide +kernel
theorem dX8_seek_53 : decode cX8_seek 53 = .ok (.iastore, 1) := by decide +kernel
theorem dX8_seek_54 : decode cX8_seek 54 = .ok (.aload_n 0, 1) := by decide +kernel
theorem dX8_seek_55 : decode cX8_seek 55 = .ok (.aload_n 1, 1) := by decide +kernel
theorem dX8_seek_56 : decode cX8_seek 56 = .ok (.getfield 71, 3) := by decide +kernel
theorem dX8_seek_59 : decode cX8_seek 59 = .ok (.iconst 0, 1) := by decide +kernel
theorem dX8_seek_60 : decode cX8_seek 60 = .ok (.invokestatic 74, 3) := by decide +kernel
theorem dX8_seek_63 : decode cX8_seek 63 = .ok (.return_, 1) := by decide +kernel
theorem cw_X8_seek : Cw yX8_seek cX8_seek 5 none 4 := ⟨aw_496, aw_21, ⟨by decide, by decide⟩, by decide +kernel, by decide⟩
theorem pf_8_44 {K : KT} {cc : ByteArray} {nL d pc : Nat} {ret : Option FieldType} {L : List (Option Value)} {st : List Value} {σ : Sg} (C : Cx K layC cc RX8 nL d ret)  {v : Nat}  (hd : decode cc pc = .ok (.putfield 44, 3)) (k : G K (pc + 3) L st (Wd K layC (wR σ 3 7 v))) : G K pc L (.ref (kad K v) :: .ref (kad K 3) :: st) (Wd K layC σ) := g_putR C (o := 3) (ci := 8) (k := 7) hd rfl rfl rfl (by decide) (Or.inl aw_169) inA8 tyX8_ok nmX8 rfl (fun _ => rfl) (fun _ => rfl) k
theorem pf_8_48 {K : KT} {cc : ByteArray} {nL d pc : Nat} {ret : Option FieldType} {L : List (Option Value)} {st : List Value} {σ : Sg} (C : Cx K layC cc RX8 nL d ret)  {v : Int32}  (hd : decode cc pc = .ok (.putfield 48, 3)) (k : G K (pc + 3) L st (Wd K layC (wI σ 3 8 v))) : G K pc L (.int v :: .ref (kad K 3) :: st) (Wd K layC σ) := g_putI C (o := 3) (ci := 8) (k := 8) hd rfl rfl rfl (by decide) (Or.inl aw_170) inA8 tyX8_ok nmX8 rfl rfl rfl k
theorem pf_8_58 {K : KT} {cc : ByteArray} {nL d pc : Nat} {ret : Option FieldType} {L : List (Option Value)} {st : List Value} {σ : Sg} (C : Cx K layC cc RX8 nL d ret)  {v : Int32} (hb : isB v = true) (hd : decode cc pc = .ok (.putfield 58, 3)) (k : G K (pc + 3) L st (Wd K layC (wI σ 3 9 v))) : G K pc L (.int v :: .ref (kad K 3) :: st) (Wd K layC σ) := g_putI C (o := 3) (ci := 8) (k := 9) hd rfl rfl rfl (by decide) (Or.inl aw_171) inA8 tyX8_ok nmX8 rfl (isB_n hb) (isB_f hb) k
theorem pf_8_65 {K : KT} {cc : ByteArray} {nL d pc : Nat} {ret : Option FieldType} {L : List (Option Value)} {st : List Value} {σ : Sg} (C : Cx K layC cc RX8 nL d ret)  {v : Int32} (hb : isB v = true) (hd : decode cc pc = .ok (.putfield 65, 3)) (k : G K (pc + 3) L st (Wd K layC (wI σ 3 15 v))) : G K pc L (.int v :: .ref (kad K 3) :: st) (Wd K layC σ) := g_putI C (o := 3) (ci := 8) (k := 15) hd rfl rfl rfl (by decide) (Or.inl aw_181) inA8 tyX8_ok nmX8 rfl (isB_n hb) (isB_f hb) k
theorem gf_8_68d {K : KT} {cc : ByteArray} {nL d pc : Nat} {ret : Option FieldType} {L : List (Option Value)} {st : List Value} {σ : Sg} (C : Cx K layC cc RX8 nL d ret) {o : Nat} (hY : layC[o]? = some (0, 0, slX0)) (hd : decode cc pc = .ok (.getfield 68, 3)) (k : G K (pc + 3) L (.int (rI σ o 3) :: st) (Wd K layC σ)) : G K pc L (.ref (kad K o) :: st) (Wd K layC σ) := g_get C (o := o) (ci := 0) (k := 3) hd hY rfl rfl (by decide) (Or.inr ⟨_, aw_141⟩) inA0 rfl k
theorem gf_8_71d {K : KT} {cc : ByteArray} {nL d pc : Nat} {ret : Option FieldType} {L : List (Option Value)} {st : List Value} {σ : Sg} (C : Cx K layC cc RX8 nL d ret) {o : Nat} (hY : layC[o]? = some (0, 0, slX0)) (hd : decode cc pc = .ok (.getfield 71, 3)) (k : G K (pc + 3) L (.int (rI σ o 1) :: st) (Wd K layC σ)) : G K pc L (.ref (kad K o) :: st) (Wd K layC σ) := g_get C (o := o) (ci := 0) (k := 1) hd hY rfl rfl (by decide) (Or.inr ⟨_, aw_136⟩) inA0 rfl k
theorem kc_8_74 {K : KT} {cc : ByteArray} {nL d pc : Nat} {ret : Option FieldType} {L : List (Option Value)} {st : List Value} {σ : Sg} (C : Cx K layC cc RX8 nL d ret) {n : Nat} {a1 : Int32} {a2 : Int32}  {p : Sg} (hd : decode cc pc = .ok (.invokestatic 74, 3)) (e : fX8_follow n a1 a2 σ = some p) (hdd : 2 + n + 1 ≤ d) (hLn : L.length = nL) (hr : (st.map fun v => v.category).sum ≤ 8) (k : G K (pc + 3) L (st) (Wd K layC p)) : G K pc L (.int a2 :: .int a1 :: .ref (kad K 3) :: st) (Wd K layC σ) :=
  g_callS C (As := [.ref (kad K 3), .int a1, .int a2]) (rest := st) hd (ct_X8_follow n e) cw_X8_follow (Or.inl aw_498) aw_499 rfl rfl rfl hdd hLn hr (fun v τ q => by obtain ⟨rfl, rfl⟩ := q; exact k)
def fX8_seek_b0 (w1 : Nat) (x2 : Int32) (x3 : Int32) (x4 : Int32) (σ : Sg) : Option (Sg) :=
  if isB x4 = true then (Option.bind (fX8_follow FD (rI (wI (wI (wI (wI (wI (wI (wI (wR σ 3 7 w1) 3 8 (imax (1 : Int32) x3)) 3 9 x4) 3 10 (0 : Int32)) 3 15 (0 : Int32)) 42 ((0 : Int32)).toNatClampNeg x2) 43 ((0 : Int32)).toNatClampNeg (rI (wI (wI (wI (wI (wI (wR σ 3 7 w1) 3 8 (imax (1 : Int32) x3)) 3 9 x4) 3 10 (0 : Int32)) 3 15 (0 : Int32)) 42 ((0 : Int32)).toNatClampNeg x2) w1 3)) 44 ((0 : Int32)).toNatClampNeg (0 : Int32)) w1 1) (0 : Int32) (wI (wI (wI (wI (wI (wI (wI (wR σ 3 7 w1) 3 8 (imax (1 : Int32) x3)) 3 9 x4) 3 10 (0 : Int32)) 3 15 (0 : Int32)) 42 ((0 : Int32)).toNatClampNeg x2) 43 ((0 : Int32)).toNatClampNeg (rI (wI (wI (wI (wI (wI (wR σ 3 7 w1) 3 8 (imax (1 : Int32) x3)) 3 9 x4) 3 10 (0 : Int32)) 3 15 (0 : Int32)) 42 ((0 : Int32)).toNatClampNeg x2) w1 3)) 44 ((0 : Int32)).toNatClampNeg (0 : Int32))) fun p2 => (some p2)) else none
set_option maxRecDepth 4000 in
theorem bX8_seek_b0 {K : KT} {w1 : Nat} {x2 : Int32} {x3 : Int32} {x4 : Int32} {σ : Sg} {o : Sg} (C : Cx K layC cX8_seek RX8 5 (15) none) (hw1 : layC[w1]? = some (0, 0, slX0)) (hQ : Rk K layC (okV o)) (h : fX8_seek_b0 w1 x2 x3 x4 σ = some o) : G K 0 [some (.ref (kad K 3)), some (.ref (kad K w1)), some (.int x2), some (.int x3), some (.int x4)] [] (Wd K layC σ) := by
  unfold fX8_seek_b0 at h
  refine g_aload_n C.c dX8_seek_0 rfl (i := 0) rfl ?_
  refine g_aload_n C.c dX8_seek_1 rfl (i := 1) rfl ?_
  refine pf_8_44 C dX8_seek_2 ?_
  refine g_aload_n C.c dX8_seek_5 rfl (i := 0) rfl ?_
  refine g_iconst C.c dX8_seek_6 (v := (1 : Int32)) (by decide) ?_
  refine g_iload_n C.c dX8_seek_7 rfl (i := 3) rfl ?_
  refine g_max C.c dX8_seek_8 aw_497 aw_416 aw_29 aw_417 rfl (Nat.le_of_ble_eq_true rfl) (Nat.le_of_ble_eq_true rfl) ?_
  refine pf_8_48 C dX8_seek_11 ?_
  refine g_aload_n C.c dX8_seek_14 rfl (i := 0) rfl ?_
  refine g_iload C.c dX8_seek_15 (i := 4) rfl ?_
  obtain ⟨c1, h⟩ := chk h
  refine pf_8_58 C c1 dX8_seek_17 ?_
  refine g_aload_n C.c dX8_seek_20 rfl (i := 0) rfl ?_
  refine g_iconst C.c dX8_seek_21 (v := (0 : Int32)) (by decide) ?_
  refine pf_8_62 C (by decide) dX8_seek_22 ?_
  refine g_aload_n C.c dX8_seek_25 rfl (i := 0) rfl ?_
  refine g_iconst C.c dX8_seek_26 (v := (0 : Int32)) (by decide) ?_
  refine pf_8_65 C (by decide) dX8_seek_27 ?_
  refine g_aload_n C.c dX8_seek_30 rfl (i := 0) rfl ?_
  refine gf_8_25 C dX8_seek_31 ?_
  refine g_iconst C.c dX8_seek_34 (v := (0 : Int32)) (by decide) ?_
  refine g_iload_n C.c dX8_seek_35 rfl (i := 2) rfl ?_
  refine g_iast C dX8_seek_36 rfl (by decide) ?_
  refine g_aload_n C.c dX8_seek_37 rfl (i := 0) rfl ?_
  refine gf_8_29 C dX8_seek_38 ?_
  refine g_iconst C.c dX8_seek_41 (v := (0 : Int32)) (by decide) ?_
  refine g_aload_n C.c dX8_seek_42 rfl (i := 1) rfl ?_
  refine gf_8_68d C hw1 dX8_seek_43 ?_
  refine g_iast C dX8_seek_46 rfl (by decide) ?_
  refine g_aload_n C.c dX8_seek_47 rfl (i := 0) rfl ?_
  refine gf_8_32 C dX8_seek_48 ?_
  refine g_iconst C.c dX8_seek_51 (v := (0 : Int32)) (by decide) ?_
  refine g_iconst C.c dX8_seek_52 (v := (0 : Int32)) (by decide) ?_
  refine g_iast C dX8_seek_53 rfl (by decide) ?_
  refine g_aload_n C.c dX8_seek_54 rfl (i := 0) rfl ?_
  refine g_aload_n C.c dX8_seek_55 rfl (i := 1) rfl ?_
  refine gf_8_71d C hw1 dX8_seek_56 ?_
  refine g_iconst C.c dX8_seek_59 (v := (0 : Int32)) (by decide) ?_
  obtain ⟨p2, e3, h⟩ := Option.bind_eq_some_iff.mp h
  refine kc_8_74 C dX8_seek_60 e3 (Nat.le_of_ble_eq_true rfl) rfl (Nat.le_of_ble_eq_true rfl) ?_
  obtain rfl := Option.some.inj h
  exact g_vret C hQ dX8_seek_63 ⟨rfl, rfl⟩
def fX8_seek (q0 : Nat) (a1 : Int32) (a2 : Int32) (a3 : Int32) (σ : Sg) : Option (Sg) := fX8_seek_b0 q0 a1 a2 a3 σ
theorem ct_X8_seek {q0 : Nat} {a1 : Int32} {a2 : Int32} {a3 : Int32} {σ : Sg} {p : Sg} (hYq0 : layC[q0]? = some (0, 0, slX0)) (h : fX8_seek q0 a1 a2 a3 σ = some p) : Ct layC yX8_seek cX8_seek 5 none 15 (fun ad => [.ref (ad 3), .ref (ad q0), .int a1, .int a2, .int a3]) σ (okV p) :=
 ct_of (L0 := fun ad => [some (.ref (ad 3)), some (.ref (ad q0)), some (.int a1), some (.int a2), some (.int a3)]) (by decide) (fun _ => Nat.le_of_ble_eq_true rfl) (fun _ => rfl) (fun K C hQ => g_mask [true, true, true, true, true] rfl (bX8_seek_b0 C hYq0 hQ h))
-- X8_towAgain
theorem dX8_towAgain_0 : decode cX8_towAgain 0 = .ok (.aload_n 0, 1) := by decide +kernel
theorem dX8_towAgain_1 : decode cX8_towAgain 1 = .ok (.iconst 1, 1) := by decide +kernel
theorem dX8_towAgain_2 : decode cX8_towAgain 2 = .ok (.putfield 65, 3) := by decide +kernel
theorem dX8_towAgain_5 : decode cX8_towAgain 5 = .ok (.aload_n 0, 1) := by decide +kernel
theorem dX8_towAgain_6 : decode cX8_towAgain 6 = .ok (.iload_n 1, 1) := by decide +kernel
theorem dX8_towAgain_7 : decode cX8_towAgain 7 = .ok (.i2l, 1) := by decide +kernel
theorem dX8_towAgain_8 : decode cX8_towAgain 8 = .ok (.putfield 78, 3) := by decide +kernel
theorem dX8_towAgain_11 : decode cX8_towAgain 11 = .ok (.aload_n 0, 1) := by decide +kernel
theorem dX8_towAgain_12 : decode cX8_towAgain 12 = .ok (.getfield 44, 3) := by decide +kernel
theorem dX8_towAgain_15 : decode cX8_towAgain 15 = .ok (.getfield 71, 3) := by decide +kernel
theorem dX8_towAgain_18 : decode cX8_towAgain 18 = .ok (.istore_n 2, 1) := by decide +kernel
theorem dX8_towAgain_19 : decode cX8_towAgain 19 = .ok (.iconst 0, 1) := by decide +kernel
theorem dX8_towAgain_20 : decode cX8_towAgain 20 = .ok (.istore_n 3, 1) := by decide +kernel
theorem dX8_towAgain_21 : decode cX8_towAgain 21 = .ok (.iload_n 3, 1) := by decide +kernel
theorem dX8_towAgain_22 : decode cX8_towAgain 22 = .ok (.aload_n 0, 1) := by decide +kernel
theorem dX8_towAgain_23 : decode cX8_towAgain 23 = .ok (.getfield 82, 3) := by decide +kernel
theorem dX8_towAgain_26 : decode cX8_towAgain 26 = .ok (.if_icmp .ge 43, 3) := by decide +kernel
theorem dX8_towAgain_29 : decode cX8_towAgain 29 = .ok (.iload_n 2, 1) := by decide +kernel
theorem dX8_towAgain_30 : decode cX8_towAgain 30 = .ok (.iconst (-1), 1) := by decide +kernel
theorem dX8_towAgain_31 : decode cX8_towAgain 31 = .ok (.if_icmp .eq 38, 3) := by decide +kernel
theorem dX8_towAgain_34 : decode cX8_towAgain 34 = .ok (.aload_n 0, 1) := by decide +kernel
theorem dX8_towAgain_35 : decode cX8_towAgain 35 = .ok (.iload_n 3, 1) := by decide +kernel
theorem dX8_towAgain_36 : decode cX8_towAgain 36 = .ok (.iload_n 2, 1) := by decide +kernel
theorem dX8_towAgain_37 : decode cX8_towAgain 37 = .ok (.aload_n 0, 1) := by decide +kernel
theorem dX8_towAgain_38 : decode cX8_towAgain 38 = .ok (.getfield 38, 3) := by decide +kernel
theorem dX8_towAgain_41 : decode cX8_towAgain 41 = .ok (.iload_n 3, 1) := by decide +kernel
theorem dX8_towAgain_42 : decode cX8_towAgain 42 = .ok (.iaload, 1) := by decide +kernel
theorem dX8_towAgain_43 : decode cX8_towAgain 43 = .ok (.invokevirtual 85, 3) := by decide +kernel
theorem dX8_towAgain_46 : decode cX8_towAgain 46 = .ok (.aload_n 0, 1) := by decide +kernel
theorem dX8_towAgain_47 : decode cX8_towAgain 47 = .ok (.getfield 12, 3) := by decide +kernel
theorem dX8_towAgain_50 : decode cX8_towAgain 50 = .ok (.getfield 89, 3) := by decide +kernel
theorem dX8_towAgain_53 : decode cX8_towAgain 53 = .ok (.iload_n 2, 1) := by decide +kernel
theorem dX8_towAgain_54 : decode cX8_towAgain 54 = .ok (.aaload, 1) := by decide +kernel
theorem dX8_towAgain_55 : decode cX8_towAgain 55 = .ok (.aload_n 0, 1) := by decide +kernel
theorem dX8_towAgain_56 : decode cX8_towAgain 56 = .ok (.getfield 38, 3) := by decide +kernel
theorem dX8_towAgain_59 : decode cX8_towAgain 59 = .ok (.iload_n 3, 1) := by decide +kernel
theorem dX8_towAgain_60 : decode cX8_towAgain 60 = .ok (.iaload, 1) := by decide +kernel
theorem dX8_towAgain_61 : decode cX8_towAgain 61 = .ok (.iaload, 1) := by decide +kernel
theorem dX8_towAgain_62 : decode cX8_towAgain 62 = .ok (.istore_n 2, 1) := by decide +kernel
theorem dX8_towAgain_63 : decode cX8_towAgain 63 = .ok (.iinc 3 1, 3) := by decide +kernel
theorem dX8_towAgain_66 : decode cX8_towAgain 66 = .ok (.goto (-45), 3) := by decide +kernel
theorem dX8_towAgain_69 : decode cX8_towAgain 69 = .ok (.aload_n 0, 1) := by decide +kernel
theorem dX8_towAgain_70 : decode cX8_towAgain 70 = .ok (.aload_n 0, 1) := by decide +kernel
theorem dX8_towAgain_71 : decode cX8_towAgain 71 = .ok (.getfield 25, 3) := by decide +kernel
theorem dX8_towAgain_74 : decode cX8_towAgain 74 = .ok (.aload_n 0, 1) := by decide +kernel
theorem dX8_towAgain_75 : decode cX8_towAgain 75 = .ok (.getfield 82, 3) := by decide +kernel
theorem dX8_towAgain_78 : decode cX8_towAgain 78 = .ok (.iaload, 1) := by decide +kernel
theorem dX8_towAgain_79 : decode cX8_towAgain 79 = .ok (.putfield 93, 3) := by decide +kernel
theorem dX8_towAgain_82 : decode cX8_towAgain 82 = .ok (.aload_n 0, 1) := by decide +kernel
theorem dX8_towAgain_83 : decode cX8_towAgain 83 = .ok (.aload_n 0, 1) := by decide +kernel
theorem dX8_towAgain_84 : decode cX8_towAgain 84 = .ok (.getfield 32, 3) := by decide +kernel
theorem dX8_towAgain_87 : decode cX8_towAgain 87 = .ok (.aload_n 0, 1) := by decide +kernel
theorem dX8_towAgain_88 : decode cX8_towAgain 88 = .ok (.getfield 82, 3) := by decide +kernel
theorem dX8_towAgain_91 : decode cX8_towAgain 91 = .ok (.iaload, 1) := by decide +kernel
theorem dX8_towAgain_92 : decode cX8_towAgain 92 = .ok (.putfield 96, 3) := by decide +kernel
theorem dX8_towAgain_95 : decode cX8_towAgain 95 = .ok (.return_, 1) := by decide +kernel
theorem cw_X8_towAgain : Cw yX8_towAgain cX8_towAgain 4 none 1 := ⟨aw_604, aw_21, ⟨by decide, by decide⟩, by decide +kernel, by decide⟩
theorem gf_8_82 {K : KT} {cc : ByteArray} {nL d pc : Nat} {ret : Option FieldType} {L : List (Option Value)} {st : List Value} {σ : Sg} (C : Cx K layC cc RX8 nL d ret)  (hd : decode cc pc = .ok (.getfield 82, 3)) (k : G K (pc + 3) L (.int (rI σ 3 14) :: st) (Wd K layC σ)) : G K pc L (.ref (kad K 3) :: st) (Wd K layC σ) := g_get C (o := 3) (ci := 8) (k := 14) hd rfl rfl rfl (by decide) (Or.inl aw_179) inA8 rfl k
def fX8_towAgain_b21 (x2 : Int32) (x3 : Int32) (σ : Sg) : Option ((Int32 × Int32 × Sg) ⊕ ((Sg))) :=
  if (rI σ 3 14) ≤ x3 then (some (.inr σ)) else (if x2 = (-1 : Int32) then (some (.inr σ)) else (if inb x3 9 = true then (Option.bind (fX8_pass x3 x2 (rI σ 46 (x3).toNatClampNeg) σ) fun p3 => (if inb x2 30 = true then (if inb x3 9 = true then (if inb (rI p3 46 (x3).toNatClampNeg) 4 = true then (some (.inl ((rI p3 (10 + (x2).toNatClampNeg) ((rI p3 46 (x3).toNatClampNeg)).toNatClampNeg), (x3 + (1 : Int32)), p3))) else none) else none) else none)) else none))
def fX8_towAgain_b0 (x1 : Int32) (σ : Sg) : Option (Sg) :=
  if isSh layC (rR (wJ (wI σ 3 15 (1 : Int32)) 3 16 ((x1).toInt64)) 3 7) (0, 0, slX0) = true then (Option.bind (lp (fun s => fX8_towAgain_b21 s.1 s.2.1 s.2.2) FU ((rI (wJ (wI σ 3 15 (1 : Int32)) 3 16 ((x1).toInt64)) (rR (wJ (wI σ 3 15 (1 : Int32)) 3 16 ((x1).toInt64)) 3 7) 1), (0 : Int32), (wJ (wI σ 3 15 (1 : Int32)) 3 16 ((x1).toInt64)))) fun t9 => if inb (rI t9 3 14) 10 = true then (if inb (rI (wI t9 3 11 (rI t9 42 ((rI t9 3 14)).toNatClampNeg)) 3 14) 10 = true then (some (wI (wI t9 3 11 (rI t9 42 ((rI t9 3 14)).toNatClampNeg)) 3 12 (rI (wI t9 3 11 (rI t9 42 ((rI t9 3 14)).toNatClampNeg)) 44 ((rI (wI t9 3 11 (rI t9 42 ((rI t9 3 14)).toNatClampNeg)) 3 14)).toNatClampNeg))) else none) else none) else none
set_option maxRecDepth 4000 in
theorem bX8_towAgain_b21 {K : KT} {x2 : Int32} {x3 : Int32} {σ : Sg} {o : (Int32 × Int32 × Sg) ⊕ ((Sg))} (C : Cx K layC cX8_towAgain RX8 4 (3) none)  (hI : ∀ s' : Int32 × Int32 × Sg, o = .inl s' → G K 21 [some (.ref (kad K 3)), none, some (.int s'.1), some (.int s'.2.1)] [] (Wd K layC s'.2.2)) (hE0 : ∀ t : Sg, o = .inr t → G K 69 [some (.ref (kad K 3)), none, none, none] [] (Wd K layC t)) (h : fX8_towAgain_b21 x2 x3 σ = some o) : G K 21 [some (.ref (kad K 3)), none, some (.int x2), some (.int x3)] [] (Wd K layC σ) := by
  unfold fX8_towAgain_b21 at h
  refine g_iload_n C.c dX8_towAgain_21 rfl (i := 3) rfl ?_
  refine g_aload_n C.c dX8_towAgain_22 rfl (i := 0) rfl ?_
  refine gf_8_82 C dX8_towAgain_23 ?_
  refine g_icmp_ge C.c (tgt := 69) dX8_towAgain_26 (by decide) (fun c => ?_) (fun c => ?_)
  · replace h := ite_t c h
    have g9 := hE0 _ (Option.some.inj h).symm
    exact g_mask [true, false, false, false] rfl g9
  · replace h := ite_f c h
    refine g_iload_n C.c dX8_towAgain_29 rfl (i := 2) rfl ?_
    refine g_iconst C.c dX8_towAgain_30 (v := (-1 : Int32)) (by decide) ?_
    refine g_icmp_eq C.c (tgt := 69) dX8_towAgain_31 (by decide) (fun c => ?_) (fun c => ?_)
    · replace h := ite_t c h
      have g9 := hE0 _ (Option.some.inj h).symm
      exact g_mask [true, false, false, false] rfl g9
    · replace h := ite_f c h
      refine g_aload_n C.c dX8_towAgain_34 rfl (i := 0) rfl ?_
      refine g_iload_n C.c dX8_towAgain_35 rfl (i := 3) rfl ?_
      refine g_iload_n C.c dX8_towAgain_36 rfl (i := 2) rfl ?_
      refine g_aload_n C.c dX8_towAgain_37 rfl (i := 0) rfl ?_
      refine gf_8_38 C dX8_towAgain_38 ?_
      refine g_iload_n C.c dX8_towAgain_41 rfl (i := 3) rfl ?_
      obtain ⟨c2, h⟩ := chk h
      refine g_iald C dX8_towAgain_42 rfl c2 ?_
      obtain ⟨p3, e4, h⟩ := Option.bind_eq_some_iff.mp h
      refine kc_8_85 C dX8_towAgain_43 e4 (Nat.le_of_ble_eq_true rfl) rfl (Nat.le_of_ble_eq_true rfl) ?_
      refine g_aload_n C.c dX8_towAgain_46 rfl (i := 0) rfl ?_
      refine gf_8_12 C dX8_towAgain_47 ?_
      refine gf_8_89 C dX8_towAgain_50 ?_
      refine g_iload_n C.c dX8_towAgain_53 rfl (i := 2) rfl ?_
      obtain ⟨c5, h⟩ := chk h
      have hs6 := rw_9 (inb_lt c5)
      refine g_aald5 C (b := 10) dX8_towAgain_54 rfl c5 rfl rfl ?_
      refine g_aload_n C.c dX8_towAgain_55 rfl (i := 0) rfl ?_
      refine gf_8_38 C dX8_towAgain_56 ?_
      refine g_iload_n C.c dX8_towAgain_59 rfl (i := 3) rfl ?_
      obtain ⟨c7, h⟩ := chk h
      refine g_iald C dX8_towAgain_60 rfl c7 ?_
      obtain ⟨c8, h⟩ := chk h
      refine g_iald C dX8_towAgain_61 hs6 c8 ?_
      refine g_istore_n C.c (i := 2) (L' := [some (.ref (kad K 3)), none, some (.int (rI p3 (10 + (x2).toNatClampNeg) ((rI p3 46 (x3).toNatClampNeg)).toNatClampNeg)), some (.int x3)]) dX8_towAgain_62 rfl (Nat.le_of_ble_eq_true rfl) rfl ?_
      refine g_iinc C.c (i := 3) (y := (1 : Int32)) (L' := [some (.ref (kad K 3)), none, some (.int (rI p3 (10 + (x2).toNatClampNeg) ((rI p3 46 (x3).toNatClampNeg)).toNatClampNeg)), some (.int (x3 + (1 : Int32)))]) dX8_towAgain_63 rfl (by decide) (Nat.le_of_ble_eq_true rfl) rfl ?_
      refine g_goto C.c (tgt := 21) dX8_towAgain_66 (by decide) ?_
      have g9 := hI _ (Option.some.inj h).symm
      exact g_mask [true, false, true, true] rfl g9
set_option maxRecDepth 4000 in
theorem bX8_towAgain_b0 {K : KT} {x1 : Int32} {σ : Sg} {o : Sg} (C : Cx K layC cX8_towAgain RX8 4 (3) none)  (hQ : Rk K layC (okV o)) (h : fX8_towAgain_b0 x1 σ = some o) : G K 0 [some (.ref (kad K 3)), some (.int x1), none, none] [] (Wd K layC σ) := by
  unfold fX8_towAgain_b0 at h
  refine g_aload_n C.c dX8_towAgain_0 rfl (i := 0) rfl ?_
  refine g_iconst C.c dX8_towAgain_1 (v := (1 : Int32)) (by decide) ?_
  refine pf_8_65 C (by decide) dX8_towAgain_2 ?_
  refine g_aload_n C.c dX8_towAgain_5 rfl (i := 0) rfl ?_
  refine g_iload_n C.c dX8_towAgain_6 rfl (i := 1) rfl ?_
  refine g_i2l C.c dX8_towAgain_7 ?_
  refine pf_8_78 C dX8_towAgain_8 ?_
  refine g_aload_n C.c dX8_towAgain_11 rfl (i := 0) rfl ?_
  refine gf_8_44 C dX8_towAgain_12 ?_
  obtain ⟨c1, h⟩ := chk h
  refine gf_8_71d C (isSh_e c1) dX8_towAgain_15 ?_
  refine g_istore_n C.c (i := 2) (L' := [some (.ref (kad K 3)), some (.int x1), some (.int (rI (wJ (wI σ 3 15 (1 : Int32)) 3 16 ((x1).toInt64)) (rR (wJ (wI σ 3 15 (1 : Int32)) 3 16 ((x1).toInt64)) 3 7) 1)), none]) dX8_towAgain_18 rfl (Nat.le_of_ble_eq_true rfl) rfl ?_
  refine g_iconst C.c dX8_towAgain_19 (v := (0 : Int32)) (by decide) ?_
  refine g_istore_n C.c (i := 3) (L' := [some (.ref (kad K 3)), some (.int x1), some (.int (rI (wJ (wI σ 3 15 (1 : Int32)) 3 16 ((x1).toInt64)) (rR (wJ (wI σ 3 15 (1 : Int32)) 3 16 ((x1).toInt64)) 3 7) 1)), some (.int (0 : Int32))]) dX8_towAgain_20 rfl (Nat.le_of_ble_eq_true rfl) rfl ?_
  refine g_mask [true, false, true, true] rfl ?_
  refine lp_bind (Gh := fun s => G K 21 [some (.ref (kad K 3)), none, some (.int s.1), some (.int s.2.1)] [] (Wd K layC s.2.2)) h (fun s o2 hf gI gE => ?_)
  refine bX8_towAgain_b21 C gI (fun t9 e => ?_) hf
  · have h := gE _ e
    refine g_aload_n C.c dX8_towAgain_69 rfl (i := 0) rfl ?_
    refine g_aload_n C.c dX8_towAgain_70 rfl (i := 0) rfl ?_
    refine gf_8_25 C dX8_towAgain_71 ?_
    refine g_aload_n C.c dX8_towAgain_74 rfl (i := 0) rfl ?_
    refine gf_8_82 C dX8_towAgain_75 ?_
    obtain ⟨c11, h⟩ := chk h
    refine g_iald C dX8_towAgain_78 rfl c11 ?_
    refine pf_8_93 C dX8_towAgain_79 ?_
    refine g_aload_n C.c dX8_towAgain_82 rfl (i := 0) rfl ?_
    refine g_aload_n C.c dX8_towAgain_83 rfl (i := 0) rfl ?_
    refine gf_8_32 C dX8_towAgain_84 ?_
    refine g_aload_n C.c dX8_towAgain_87 rfl (i := 0) rfl ?_
    refine gf_8_82 C dX8_towAgain_88 ?_
    obtain ⟨c12, h⟩ := chk h
    refine g_iald C dX8_towAgain_91 rfl c12 ?_
    refine pf_8_96 C dX8_towAgain_92 ?_
    obtain rfl := Option.some.inj h
    exact g_vret C hQ dX8_towAgain_95 ⟨rfl, rfl⟩
def fX8_towAgain (a0 : Int32) (σ : Sg) : Option (Sg) := fX8_towAgain_b0 a0 σ
theorem ct_X8_towAgain {a0 : Int32} {σ : Sg} {p : Sg} (h : fX8_towAgain a0 σ = some p) : Ct layC yX8_towAgain cX8_towAgain 4 none 3 (fun ad => [.ref (ad 3), .int a0]) σ (okV p) :=
 ct_of (L0 := fun ad => [some (.ref (ad 3)), some (.int a0), none, none]) (by decide) (fun _ => Nat.le_of_ble_eq_true rfl) (fun _ => rfl) (fun K C hQ => g_mask [true, true, false, false] rfl (bX8_towAgain_b0 C hQ h))
-- X8_stepAt
theorem dX8_stepAt_0 : decode cX8_stepAt 0 = .ok (.iload_n 1, 1) := by decide +kernel
theorem dX8_stepAt_1 : decode cX8_stepAt 1 = .ok (.ifCond .lt 20, 3) := by decide +kernel
theorem dX8_stepAt_4 : decode cX8_stepAt 4 = .ok (.iload_n 1, 1) := by decide +kernel
theorem dX8_stepAt_5 : decode cX8_stepAt 5 = .ok (.aload_n 0, 1) := by decide +kernel
theorem dX8_stepAt_6 : decode cX8_stepAt 6 = .ok (.getfield 82, 3) := by decide +kernel
theorem dX8_stepAt_9 : decode cX8_stepAt 9 = .ok (.if_icmp .ge 12, 3) := by decide +kernel
theorem dX8_stepAt_12 : decode cX8_stepAt 12 = .ok (.aload_n 0, 1) := by decide +kernel
theorem dX8_stepAt_13 : decode cX8_stepAt 13 = .ok (.getfield 38, 3) := by decide +kernel
theorem dX8_stepAt_16 : decode cX8_stepAt 16 = .ok (.iload_n 1, 1) := by decide +kernel
theorem dX8_stepAt_17 : decode cX8_stepAt 17 = .ok (.iaload, 1) := by decide +kernel
theorem dX8_stepAt_18 : decode cX8_stepAt 18 = .ok (.goto 4, 3) := by decide +kernel
theorem dX8_stepAt_21 : decode cX8_stepAt 21 = .ok (.iconst (-1), 1) := by decide +kernel
theorem dX8_stepAt_22 : decode cX8_stepAt 22 = .ok (.ireturn, 1) := by decide +kernel
theorem cw_X8_stepAt : Cw yX8_stepAt cX8_stepAt 2 (some .int) 1 := ⟨aw_544, aw_21, ⟨by decide, by decide⟩, by decide +kernel, by decide⟩
def fX8_stepAt_b0 (x1 : Int32) (σ : Sg) : Option (Int32 × Sg) :=
  if x1 < 0 then (some ((-1 : Int32), σ)) else (if (rI σ 3 14) ≤ x1 then (some ((-1 : Int32), σ)) else (if inb x1 9 = true then (some ((rI σ 46 (x1).toNatClampNeg), σ)) else none))
set_option maxRecDepth 4000 in
theorem bX8_stepAt_b0 {K : KT} {x1 : Int32} {σ : Sg} {o : Int32 × Sg} (C : Cx K layC cX8_stepAt RX8 2 (1) (some .int))  (hQ : Rk K layC (okI o)) (h : fX8_stepAt_b0 x1 σ = some o) : G K 0 [some (.ref (kad K 3)), some (.int x1)] [] (Wd K layC σ) := by
  unfold fX8_stepAt_b0 at h
  refine g_iload_n C.c dX8_stepAt_0 rfl (i := 1) rfl ?_
  refine g_if_lt C.c (tgt := 21) dX8_stepAt_1 (by decide) (fun c => ?_) (fun c => ?_)
  · replace h := ite_t c h
    refine g_iconst C.c dX8_stepAt_21 (v := (-1 : Int32)) (by decide) ?_
    obtain rfl := Option.some.inj h
    exact g_iret C hQ dX8_stepAt_22 rfl ⟨rfl, rfl⟩
  · replace h := ite_f c h
    refine g_iload_n C.c dX8_stepAt_4 rfl (i := 1) rfl ?_
    refine g_aload_n C.c dX8_stepAt_5 rfl (i := 0) rfl ?_
    refine gf_8_82 C dX8_stepAt_6 ?_
    refine g_icmp_ge C.c (tgt := 21) dX8_stepAt_9 (by decide) (fun c => ?_) (fun c => ?_)
    · replace h := ite_t c h
      refine g_iconst C.c dX8_stepAt_21 (v := (-1 : Int32)) (by decide) ?_
      obtain rfl := Option.some.inj h
      exact g_iret C hQ dX8_stepAt_22 rfl ⟨rfl, rfl⟩
    · replace h := ite_f c h
      refine g_aload_n C.c dX8_stepAt_12 rfl (i := 0) rfl ?_
      refine gf_8_38 C dX8_stepAt_13 ?_
      refine g_iload_n C.c dX8_stepAt_16 rfl (i := 1) rfl ?_
      obtain ⟨c1, h⟩ := chk h
      refine g_iald C dX8_stepAt_17 rfl c1 ?_
      refine g_goto C.c (tgt := 22) dX8_stepAt_18 (by decide) ?_
      obtain rfl := Option.some.inj h
      exact g_iret C hQ dX8_stepAt_22 rfl ⟨rfl, rfl⟩
def fX8_stepAt (a0 : Int32) (σ : Sg) : Option (Int32 × Sg) := fX8_stepAt_b0 a0 σ
theorem ct_X8_stepAt {a0 : Int32} {σ : Sg} {p : Int32 × Sg} (h : fX8_stepAt a0 σ = some p) : Ct layC yX8_stepAt cX8_stepAt 2 (some .int) 1 (fun ad => [.ref (ad 3), .int a0]) σ (okI p) :=
 ct_of (L0 := fun ad => [some (.ref (ad 3)), some (.int a0)]) (by decide) (fun _ => Nat.le_of_ble_eq_true rfl) (fun _ => rfl) (fun K C hQ => g_mask [true, true] rfl (bX8_stepAt_b0 C hQ h))
