-- X6_byteOf
theorem dX6_byteOf_0 : decode cX6_byteOf 0 = .ok (.lload_n 0, 1) := by decide +kernel
theorem dX6_byteOf_1 : decode cX6_byteOf 1 = .ok (.bipush 8, 2) := by decide +kernel
theorem dX6_byteOf_3 : decode cX6_byteOf 3 = .ok (.iload_n 2, 1) := by decide +kernel
theorem dX6_byteOf_4 : decode cX6_byteOf 4 = .ok (.imul, 1) := by decide +kernel
theorem dX6_byteOf_5 : decode cX6_byteOf 5 = .ok (.lushr, 1) := by decide +kernel
theorem dX6_byteOf_6 : decode cX6_byteOf 6 = .ok (.l2i, 1) := by decide +kernel
theorem dX6_byteOf_7 : decode cX6_byteOf 7 = .ok (.sipush 255, 3) := by decide +kernel
theorem dX6_byteOf_10 : decode cX6_byteOf 10 = .ok (.iand, 1) := by decide +kernel
theorem dX6_byteOf_11 : decode cX6_byteOf 11 = .ok (.ireturn, 1) := by decide +kernel
theorem cw_X6_byteOf : Cw yX6_byteOf cX6_byteOf 3 (some .int) 2 := ⟨aw_632, aw_20, ⟨by decide, by decide⟩, by decide +kernel, by decide⟩
def fX6_byteOf_b0 (x0 : Int64) (x2 : Int32) (σ : Sg) : Option (Int32 × Sg) :=
  some ((((lushr x0 ((8 : Int32) * x2))).toInt32 &&& (255 : Int32)), σ)
set_option maxRecDepth 4000 in
theorem bX6_byteOf_b0 {K : KT} {x0 : Int64} {x2 : Int32} {σ : Sg} {o : Int32 × Sg} (C : Cx K layC cX6_byteOf RX6 3 (1) (some .int))  (hQ : Rk K layC (okI o)) (h : fX6_byteOf_b0 x0 x2 σ = some o) : G K 0 [some (.long x0), none, some (.int x2)] [] (Wd K layC σ) := by
  unfold fX6_byteOf_b0 at h
  refine g_lload_n C.c dX6_byteOf_0 rfl (i := 0) rfl ?_
  refine g_bipush C.c dX6_byteOf_1 (v := (8 : Int32)) (by decide) ?_
  refine g_iload_n C.c dX6_byteOf_3 rfl (i := 2) rfl ?_
  refine g_imul C.c dX6_byteOf_4 ?_
  refine g_lushr C.c dX6_byteOf_5 ?_
  refine g_l2i C.c dX6_byteOf_6 ?_
  refine g_sipush C.c dX6_byteOf_7 (v := (255 : Int32)) (by decide) ?_
  refine g_iand C.c dX6_byteOf_10 ?_
  obtain rfl := Option.some.inj h
  exact g_iret C hQ dX6_byteOf_11 rfl ⟨rfl, rfl⟩
def fX6_byteOf (a0 : Int64) (a1 : Int32) (σ : Sg) : Option (Int32 × Sg) := fX6_byteOf_b0 a0 a1 σ
theorem ct_X6_byteOf {a0 : Int64} {a1 : Int32} {σ : Sg} {p : Int32 × Sg} (h : fX6_byteOf a0 a1 σ = some p) : Ct layC yX6_byteOf cX6_byteOf 3 (some .int) 1 (fun ad => [.long a0, .int a1]) σ (okI p) :=
 ct_of (L0 := fun ad => [some (.long a0), none, some (.int a1)]) (by decide) (fun _ => Nat.le_of_ble_eq_true rfl) (fun _ => rfl) (fun K C hQ => g_mask [true, false, true] rfl (bX6_byteOf_b0 C hQ h))
-- X6_append
theorem dX6_append_0 : decode cX6_append 0 = .ok (.iconst 0, 1) := by decide +kernel
theorem dX6_append_1 : decode cX6_append 1 = .ok (.istore_n 3, 1) := by decide +kernel
theorem dX6_append_2 : decode cX6_append 2 = .ok (.iconst 0, 1) := by decide +kernel
theorem dX6_append_3 : decode cX6_append 3 = .ok (.istore 4, 2) := by decide +kernel
theorem dX6_append_5 : decode cX6_append 5 = .ok (.iconst 0, 1) := by decide +kernel
theorem dX6_append_6 : decode cX6_append 6 = .ok (.istore 5, 2) := by decide +kernel
theorem dX6_append_8 : decode cX6_append 8 = .ok (.iload 5, 2) := by decide +kernel
theorem dX6_append_10 : decode cX6_append 10 = .ok (.bipush 8, 2) := by decide +kernel
theorem dX6_append_12 : decode cX6_append 12 = .ok (.if_icmp .ge 62, 3) := by decide +kernel
theorem dX6_append_15 : decode cX6_append 15 = .ok (.lload_n 1, 1) := by decide +kernel
theorem dX6_append_16 : decode cX6_append 16 = .ok (.iload 5, 2) := by decide +kernel
theorem dX6_append_18 : decode cX6_append 18 = .ok (.invokestatic 15, 3) := by decide +kernel
theorem dX6_append_21 : decode cX6_append 21 = .ok (.istore 6, 2) := by decide +kernel
theorem dX6_append_23 : decode cX6_append 23 = .ok (.iload 6, 2) := by decide +kernel
theorem dX6_append_25 : decode cX6_append 25 = .ok (.bipush 126, 2) := by decide +kernel
theorem dX6_append_27 : decode cX6_append 27 = .ok (.if_icmp .gt 13, 3) := by decide +kernel
theorem dX6_append_30 : decode cX6_append 30 = .ok (.iload 4, 2) := by decide +kernel
theorem dX6_append_32 : decode cX6_append 32 = .ok (.ifCond .eq 11, 3) := by decide +kernel
theorem dX6_append_35 : decode cX6_append 35 = .ok (.iload 6, 2) := by decide +kernel
theorem dX6_append_37 : decode cX6_append 37 = .ok (.ifCond .eq 6, 3) := by decide +kernel
theorem dX6_append_40 : decode cX6_append 40 = .ok (.bipush (-102), 2) := by decide +kernel
theorem dX6_append_42 : decode cX6_append 42 = .ok (.ireturn, 1) := by decide +kernel
theorem dX6_append_43 : decode cX6_append 43 = .ok (.iload 6, 2) := by decide +kernel
theorem dX6_append_45 : decode cX6_append 45 = .ok (.ifCond .ne 7, 3) := by decide +kernel
theorem dX6_append_48 : decode cX6_append 48 = .ok (.iconst 1, 1) := by decide +kernel
theorem dX6_append_49 : decode cX6_append 49 = .ok (.goto 4, 3) := by decide +kernel
theorem dX6_append_52 : decode cX6_append 52 = .ok (.iconst 0, 1) := by decide +kernel
theorem dX6_append_53 : decode cX6_append 53 = .ok (.istore 4, 2) := by decide +kernel
theorem dX6_append_55 : decode cX6_append 55 = .ok (.iload_n 3, 1) := by decide +kernel
theorem dX6_append_56 : decode cX6_append 56 = .ok (.iload 4, 2) := by decide +kernel
theorem dX6_append_58 : decode cX6_append 58 = .ok (.ifCond .eq 7, 3) := by decide +kernel
theorem dX6_append_61 : decode cX6_append 61 = .ok (.iconst 0, 1) := by decide +kernel
theorem dX6_append_62 : decode cX6_append 62 = .ok (.goto 4, 3) := by decide +kernel
theorem dX6_append_65 : decode cX6_append 65 = .ok (.iconst 1, 1) := by decide +kernel
theorem dX6_append_66 : decode cX6_append 66 = .ok (.iadd, 1) := by decide +kernel
theorem dX6_append_67 : decode cX6_append 67 = .ok (.istore_n 3, 1) := by decide +kernel
theorem dX6_append_68 : decode cX6_append 68 = .ok (.iinc 5 1, 3) := by decide +kernel
theorem dX6_append_71 : decode cX6_append 71 = .ok (.goto (-63), 3) := by decide +kernel
theorem dX6_append_74 : decode cX6_append 74 = .ok (.aload_n 0, 1) := by decide +kernel
theorem dX6_append_75 : decode cX6_append 75 = .ok (.getfield 19, 3) := by decide +kernel
theorem dX6_append_78 : decode cX6_append 78 = .ok (.iload_n 3, 1) := by decide +kernel
theorem dX6_append_79 : decode cX6_append 79 = .ok (.iadd, 1) := by decide +kernel
theorem dX6_append_80 : decode cX6_append 80 = .ok (.bipush 64, 2) := by decide +kernel
theorem dX6_append_82 : decode cX6_append 82 = .ok (.if_icmp .le 6, 3) := by decide +kernel
theorem dX6_append_85 : decode cX6_append 85 = .ok (.bipush (-104), 2) := by decide +kernel
theorem dX6_append_87 : decode cX6_append 87 = .ok (.ireturn, 1) := by decide +kernel
theorem dX6_append_88 : decode cX6_append 88 = .ok (.iconst 0, 1) := by decide +kernel
theorem dX6_append_89 : decode cX6_append 89 = .ok (.istore 5, 2) := by decide +kernel
theorem dX6_append_91 : decode cX6_append 91 = .ok (.iload 5, 2) := by decide +kernel
theorem dX6_append_93 : decode cX6_append 93 = .ok (.iload_n 3, 1) := by decide +kernel
theorem dX6_append_94 : decode cX6_append 94 = .ok (.if_icmp .ge 34, 3) := by decide +kernel
theorem dX6_append_97 : decode cX6_append 97 = .ok (.aload_n 0, 1) := by decide +kernel
theorem dX6_append_98 : decode cX6_append 98 = .ok (.getfield 11, 3) := by decide +kernel
theorem dX6_append_101 : decode cX6_append 101 = .ok (.aload_n 0, 1) := by decide +kernel
theorem dX6_append_102 : decode cX6_append 102 = .ok (.getfield 19, 3) := by decide +kernel
theorem dX6_append_105 : decode cX6_append 105 = .ok (.lload_n 1, 1) := by decide +kernel
theorem dX6_append_106 : decode cX6_append 106 = .ok (.iload 5, 2) := by decide +kernel
theorem dX6_append_108 : decode cX6_append 108 = .ok (.invokestatic 15, 3) := by decide +kernel
theorem dX6_append_111 : decode cX6_append 111 = .ok (.iastore, 1) := by decide +kernel
theorem dX6_append_112 : decode cX6_append 112 = .ok (.aload_n 0, 1) := by decide +kernel
theorem dX6_append_113 : decode cX6_append 113 = .ok (.dup, 1) := by decide +kernel
theorem dX6_append_114 : decode cX6_append 114 = .ok (.getfield 19, 3) := by decide +kernel
theorem dX6_append_117 : decode cX6_append 117 = .ok (.iconst 1, 1) := by decide +kernel
theorem dX6_append_118 : decode cX6_append 118 = .ok (.iadd, 1) := by decide +kernel
theorem dX6_append_119 : decode cX6_append 119 = .ok (.putfield 19, 3) := by decide +kernel
theorem dX6_append_122 : decode cX6_append 122 = .ok (.iinc 5 1, 3) := by decide +kernel
theorem dX6_append_125 : decode cX6_append 125 = .ok (.goto (-34), 3) := by decide +kernel
theorem dX6_append_128 : decode cX6_append 128 = .ok (.aload_n 0, 1) := by decide +kernel
theorem dX6_append_129 : decode cX6_append 129 = .ok (.getfield 19, 3) := by decide +kernel
theorem dX6_append_132 : decode cX6_append 132 = .ok (.ireturn, 1) := by decide +kernel
theorem cw_X6_append : Cw yX6_append cX6_append 7 (some .int) 1 := ⟨aw_629, aw_20, ⟨by decide, by decide⟩, by decide +kernel, by decide⟩
theorem kc_6_15 {K : KT} {cc : ByteArray} {nL d pc : Nat} {ret : Option FieldType} {L : List (Option Value)} {st : List Value} {σ : Sg} (C : Cx K layC cc RX6 nL d ret)  {a0 : Int64} {a1 : Int32}  {p : Int32 × Sg} (hd : decode cc pc = .ok (.invokestatic 15, 3)) (e : fX6_byteOf a0 a1 σ = some p) (hdd : 1 + 1 ≤ d) (hLn : L.length = nL) (hr : (st.map fun v => v.category).sum ≤ 8) (k : G K (pc + 3) L (.int p.1 :: st) (Wd K layC p.2)) : G K pc L (.int a1 :: .long a0 :: st) (Wd K layC σ) :=
  g_callS C (As := [.long a0, .int a1]) (rest := st) hd (ct_X6_byteOf e) cw_X6_byteOf (Or.inl aw_630) aw_631 rfl rfl rfl hdd hLn hr (fun v τ q => by obtain ⟨rfl, rfl⟩ := q; exact k)
theorem gf_6_19 {K : KT} {cc : ByteArray} {nL d pc : Nat} {ret : Option FieldType} {L : List (Option Value)} {st : List Value} {σ : Sg} (C : Cx K layC cc RX6 nL d ret)  (hd : decode cc pc = .ok (.getfield 19, 3)) (k : G K (pc + 3) L (.int (rI σ 1 1) :: st) (Wd K layC σ)) : G K pc L (.ref (kad K 1) :: st) (Wd K layC σ) := g_get C (o := 1) (ci := 6) (k := 1) hd rfl rfl rfl (by decide) (Or.inl aw_46) inA6 rfl k
theorem gf_6_11 {K : KT} {cc : ByteArray} {nL d pc : Nat} {ret : Option FieldType} {L : List (Option Value)} {st : List Value} {σ : Sg} (C : Cx K layC cc RX6 nL d ret)  (hd : decode cc pc = .ok (.getfield 11, 3)) (k : G K (pc + 3) L (.ref (kad K 2) :: st) (Wd K layC σ)) : G K pc L (.ref (kad K 1) :: st) (Wd K layC σ) := g_get C (o := 1) (ci := 6) (k := 0) hd rfl rfl rfl (by decide) (Or.inl aw_45) inA6 rfl k
theorem pf_6_19 {K : KT} {cc : ByteArray} {nL d pc : Nat} {ret : Option FieldType} {L : List (Option Value)} {st : List Value} {σ : Sg} (C : Cx K layC cc RX6 nL d ret)  {v : Int32}  (hd : decode cc pc = .ok (.putfield 19, 3)) (k : G K (pc + 3) L st (Wd K layC (wI σ 1 1 v))) : G K pc L (.int v :: .ref (kad K 1) :: st) (Wd K layC σ) := g_putI C (o := 1) (ci := 6) (k := 1) hd rfl rfl rfl (by decide) (Or.inl aw_46) inA6 tyX6_ok nmX6 rfl rfl rfl k
def fX6_append_b66 (x1 : Int64) (x4 : Int32) (x5 : Int32) (y0 : Int32) (y1 : Int32) (σ : Sg) : Option ((Int32 × Int32 × Int32 × Sg) ⊕ (((Sg) ⊕ (Int32 × Sg)))) :=
  some (.inl ((y1 + y0), x4, (x5 + (1 : Int32)), σ))
def fX6_append_b53 (x1 : Int64) (x3 : Int32) (x5 : Int32) (y0 : Int32) (σ : Sg) : Option ((Int32 × Int32 × Int32 × Sg) ⊕ (((Sg) ⊕ (Int32 × Sg)))) :=
  if y0 = 0 then (fX6_append_b66 x1 y0 x5 (1 : Int32) x3 σ) else (fX6_append_b66 x1 y0 x5 (0 : Int32) x3 σ)
def fX6_append_b43 (x1 : Int64) (x3 : Int32) (x5 : Int32) (x6 : Int32) (σ : Sg) : Option ((Int32 × Int32 × Int32 × Sg) ⊕ (((Sg) ⊕ (Int32 × Sg)))) :=
  if x6 = 0 then (fX6_append_b53 x1 x3 x5 (1 : Int32) σ) else (fX6_append_b53 x1 x3 x5 (0 : Int32) σ)
def fX6_append_b8 (x1 : Int64) (x3 : Int32) (x4 : Int32) (x5 : Int32) (σ : Sg) : Option ((Int32 × Int32 × Int32 × Sg) ⊕ (((Sg) ⊕ (Int32 × Sg)))) :=
  if (8 : Int32) ≤ x5 then (some (.inr (.inr (x3, σ)))) else (Option.bind (fX6_byteOf x1 x5 σ) fun p1 => (if (126 : Int32) < p1.1 then (some (.inr (.inl p1.2))) else (if x4 = 0 then (fX6_append_b43 x1 x3 x5 p1.1 p1.2) else (if p1.1 = 0 then (fX6_append_b43 x1 x3 x5 p1.1 p1.2) else (some (.inr (.inl p1.2)))))))
def fX6_append_b91 (x1 : Int64) (x3 : Int32) (x5 : Int32) (σ : Sg) : Option ((Int32 × Sg) ⊕ ((Sg))) :=
  if x3 ≤ x5 then (some (.inr σ)) else (Option.bind (fX6_byteOf x1 x5 σ) fun p5 => (if inb (rI σ 1 1) 64 = true then (some (.inl ((x5 + (1 : Int32)), (wI (wI p5.2 2 ((rI σ 1 1)).toNatClampNeg p5.1) 1 1 ((rI (wI p5.2 2 ((rI σ 1 1)).toNatClampNeg p5.1) 1 1) + (1 : Int32)))))) else none))
def fX6_append_b0 (x1 : Int64) (σ : Sg) : Option (Int32 × Sg) :=
  Option.bind (lp (fun s => fX6_append_b8 x1 s.1 s.2.1 s.2.2.1 s.2.2.2) FU ((0 : Int32), (0 : Int32), (0 : Int32), σ)) (el (fun t3 => some ((-102 : Int32), t3)) (fun t3 => if ((rI t3.2 1 1) + t3.1) ≤ (64 : Int32) then (Option.bind (lp (fun s => fX6_append_b91 x1 t3.1 s.1 s.2) FU ((0 : Int32), t3.2)) fun t8 => some ((rI t8 1 1), t8)) else (some ((-104 : Int32), t3.2))))
set_option maxRecDepth 4000 in
theorem bX6_append_b66 {K : KT} {x1 : Int64} {x4 : Int32} {x5 : Int32} {y0 : Int32} {y1 : Int32} {σ : Sg} {o : (Int32 × Int32 × Int32 × Sg) ⊕ (((Sg) ⊕ (Int32 × Sg)))} (C : Cx K layC cX6_append RX6 7 (2) (some .int))  (hI : ∀ s' : Int32 × Int32 × Int32 × Sg, o = .inl s' → G K 8 [some (.ref (kad K 1)), some (.long x1), none, some (.int s'.1), some (.int s'.2.1), some (.int s'.2.2.1), none] [] (Wd K layC s'.2.2.2)) (hE0 : ∀ t : Sg, o = .inr (.inl t) → G K 40 [none, none, none, none, none, none, none] [] (Wd K layC t)) (hE1 : ∀ t : Int32 × Sg, o = .inr (.inr t) → G K 74 [some (.ref (kad K 1)), some (.long x1), none, some (.int t.1), none, none, none] [] (Wd K layC t.2)) (h : fX6_append_b66 x1 x4 x5 y0 y1 σ = some o) : G K 66 [some (.ref (kad K 1)), some (.long x1), none, none, some (.int x4), some (.int x5), none] [.int y0, .int y1] (Wd K layC σ) := by
  unfold fX6_append_b66 at h
  refine g_iadd C.c dX6_append_66 ?_
  refine g_istore_n C.c (i := 3) (L' := [some (.ref (kad K 1)), some (.long x1), none, some (.int (y1 + y0)), some (.int x4), some (.int x5), none]) dX6_append_67 rfl (Nat.le_of_ble_eq_true rfl) rfl ?_
  refine g_iinc C.c (i := 5) (y := (1 : Int32)) (L' := [some (.ref (kad K 1)), some (.long x1), none, some (.int (y1 + y0)), some (.int x4), some (.int (x5 + (1 : Int32))), none]) dX6_append_68 rfl (by decide) (Nat.le_of_ble_eq_true rfl) rfl ?_
  refine g_goto C.c (tgt := 8) dX6_append_71 (by decide) ?_
  have g9 := hI _ (Option.some.inj h).symm
  exact g_mask [true, true, false, true, true, true, false] rfl g9
set_option maxRecDepth 4000 in
theorem bX6_append_b53 {K : KT} {x1 : Int64} {x3 : Int32} {x5 : Int32} {y0 : Int32} {σ : Sg} {o : (Int32 × Int32 × Int32 × Sg) ⊕ (((Sg) ⊕ (Int32 × Sg)))} (C : Cx K layC cX6_append RX6 7 (2) (some .int))  (hI : ∀ s' : Int32 × Int32 × Int32 × Sg, o = .inl s' → G K 8 [some (.ref (kad K 1)), some (.long x1), none, some (.int s'.1), some (.int s'.2.1), some (.int s'.2.2.1), none] [] (Wd K layC s'.2.2.2)) (hE0 : ∀ t : Sg, o = .inr (.inl t) → G K 40 [none, none, none, none, none, none, none] [] (Wd K layC t)) (hE1 : ∀ t : Int32 × Sg, o = .inr (.inr t) → G K 74 [some (.ref (kad K 1)), some (.long x1), none, some (.int t.1), none, none, none] [] (Wd K layC t.2)) (h : fX6_append_b53 x1 x3 x5 y0 σ = some o) : G K 53 [some (.ref (kad K 1)), some (.long x1), none, some (.int x3), none, some (.int x5), none] [.int y0] (Wd K layC σ) := by
  unfold fX6_append_b53 at h
  refine g_istore C.c (i := 4) (L' := [some (.ref (kad K 1)), some (.long x1), none, some (.int x3), some (.int y0), some (.int x5), none]) dX6_append_53 (Nat.le_of_ble_eq_true rfl) rfl ?_
  refine g_iload_n C.c dX6_append_55 rfl (i := 3) rfl ?_
  refine g_iload C.c dX6_append_56 (i := 4) rfl ?_
  refine g_if_eq C.c (tgt := 65) dX6_append_58 (by decide) (fun c => ?_) (fun c => ?_)
  · replace h := ite_t c h
    refine g_iconst C.c dX6_append_65 (v := (1 : Int32)) (by decide) ?_
    exact g_mask [true, true, false, false, true, true, false] rfl (bX6_append_b66 C hI hE0 hE1 h)
  · replace h := ite_f c h
    refine g_iconst C.c dX6_append_61 (v := (0 : Int32)) (by decide) ?_
    refine g_goto C.c (tgt := 66) dX6_append_62 (by decide) ?_
    exact g_mask [true, true, false, false, true, true, false] rfl (bX6_append_b66 C hI hE0 hE1 h)
set_option maxRecDepth 4000 in
theorem bX6_append_b43 {K : KT} {x1 : Int64} {x3 : Int32} {x5 : Int32} {x6 : Int32} {σ : Sg} {o : (Int32 × Int32 × Int32 × Sg) ⊕ (((Sg) ⊕ (Int32 × Sg)))} (C : Cx K layC cX6_append RX6 7 (2) (some .int))  (hI : ∀ s' : Int32 × Int32 × Int32 × Sg, o = .inl s' → G K 8 [some (.ref (kad K 1)), some (.long x1), none, some (.int s'.1), some (.int s'.2.1), some (.int s'.2.2.1), none] [] (Wd K layC s'.2.2.2)) (hE0 : ∀ t : Sg, o = .inr (.inl t) → G K 40 [none, none, none, none, none, none, none] [] (Wd K layC t)) (hE1 : ∀ t : Int32 × Sg, o = .inr (.inr t) → G K 74 [some (.ref (kad K 1)), some (.long x1), none, some (.int t.1), none, none, none] [] (Wd K layC t.2)) (h : fX6_append_b43 x1 x3 x5 x6 σ = some o) : G K 43 [some (.ref (kad K 1)), some (.long x1), none, some (.int x3), none, some (.int x5), some (.int x6)] [] (Wd K layC σ) := by
  unfold fX6_append_b43 at h
  refine g_iload C.c dX6_append_43 (i := 6) rfl ?_
  refine g_if_ne C.c (tgt := 52) dX6_append_45 (by decide) (fun c => ?_) (fun c => ?_)
  · replace h := ite_f c h
    refine g_iconst C.c dX6_append_52 (v := (0 : Int32)) (by decide) ?_
    exact g_mask [true, true, false, true, false, true, false] rfl (bX6_append_b53 C hI hE0 hE1 h)
  · replace h := ite_t c h
    refine g_iconst C.c dX6_append_48 (v := (1 : Int32)) (by decide) ?_
    refine g_goto C.c (tgt := 53) dX6_append_49 (by decide) ?_
    exact g_mask [true, true, false, true, false, true, false] rfl (bX6_append_b53 C hI hE0 hE1 h)
set_option maxRecDepth 4000 in
theorem bX6_append_b8 {K : KT} {x1 : Int64} {x3 : Int32} {x4 : Int32} {x5 : Int32} {σ : Sg} {o : (Int32 × Int32 × Int32 × Sg) ⊕ (((Sg) ⊕ (Int32 × Sg)))} (C : Cx K layC cX6_append RX6 7 (2) (some .int))  (hI : ∀ s' : Int32 × Int32 × Int32 × Sg, o = .inl s' → G K 8 [some (.ref (kad K 1)), some (.long x1), none, some (.int s'.1), some (.int s'.2.1), some (.int s'.2.2.1), none] [] (Wd K layC s'.2.2.2)) (hE0 : ∀ t : Sg, o = .inr (.inl t) → G K 40 [none, none, none, none, none, none, none] [] (Wd K layC t)) (hE1 : ∀ t : Int32 × Sg, o = .inr (.inr t) → G K 74 [some (.ref (kad K 1)), some (.long x1), none, some (.int t.1), none, none, none] [] (Wd K layC t.2)) (h : fX6_append_b8 x1 x3 x4 x5 σ = some o) : G K 8 [some (.ref (kad K 1)), some (.long x1), none, some (.int x3), some (.int x4), some (.int x5), none] [] (Wd K layC σ) := by
  unfold fX6_append_b8 at h
  refine g_iload C.c dX6_append_8 (i := 5) rfl ?_
  refine g_bipush C.c dX6_append_10 (v := (8 : Int32)) (by decide) ?_
  refine g_icmp_ge C.c (tgt := 74) dX6_append_12 (by decide) (fun c => ?_) (fun c => ?_)
  · replace h := ite_t c h
    have g9 := hE1 _ (Option.some.inj h).symm
    exact g_mask [true, true, false, true, false, false, false] rfl g9
  · replace h := ite_f c h
    refine g_lload_n C.c dX6_append_15 rfl (i := 1) rfl ?_
    refine g_iload C.c dX6_append_16 (i := 5) rfl ?_
    obtain ⟨p1, e2, h⟩ := Option.bind_eq_some_iff.mp h
    refine kc_6_15 C dX6_append_18 e2 (Nat.le_of_ble_eq_true rfl) rfl (Nat.le_of_ble_eq_true rfl) ?_
    refine g_istore C.c (i := 6) (L' := [some (.ref (kad K 1)), some (.long x1), none, some (.int x3), some (.int x4), some (.int x5), some (.int p1.1)]) dX6_append_21 (Nat.le_of_ble_eq_true rfl) rfl ?_
    refine g_iload C.c dX6_append_23 (i := 6) rfl ?_
    refine g_bipush C.c dX6_append_25 (v := (126 : Int32)) (by decide) ?_
    refine g_icmp_gt C.c (tgt := 40) dX6_append_27 (by decide) (fun c => ?_) (fun c => ?_)
    · replace h := ite_t c h
      have g9 := hE0 _ (Option.some.inj h).symm
      exact g_mask [false, false, false, false, false, false, false] rfl g9
    · replace h := ite_f c h
      refine g_iload C.c dX6_append_30 (i := 4) rfl ?_
      refine g_if_eq C.c (tgt := 43) dX6_append_32 (by decide) (fun c => ?_) (fun c => ?_)
      · replace h := ite_t c h
        exact g_mask [true, true, false, true, false, true, true] rfl (bX6_append_b43 C hI hE0 hE1 h)
      · replace h := ite_f c h
        refine g_iload C.c dX6_append_35 (i := 6) rfl ?_
        refine g_if_eq C.c (tgt := 43) dX6_append_37 (by decide) (fun c => ?_) (fun c => ?_)
        · replace h := ite_t c h
          exact g_mask [true, true, false, true, false, true, true] rfl (bX6_append_b43 C hI hE0 hE1 h)
        · replace h := ite_f c h
          have g9 := hE0 _ (Option.some.inj h).symm
          exact g_mask [false, false, false, false, false, false, false] rfl g9
set_option maxRecDepth 4000 in
theorem bX6_append_b91 {K : KT} {x1 : Int64} {x3 : Int32} {x5 : Int32} {σ : Sg} {o : (Int32 × Sg) ⊕ ((Sg))} (C : Cx K layC cX6_append RX6 7 (2) (some .int))  (hI : ∀ s' : Int32 × Sg, o = .inl s' → G K 91 [some (.ref (kad K 1)), some (.long x1), none, some (.int x3), none, some (.int s'.1), none] [] (Wd K layC s'.2)) (hE0 : ∀ t : Sg, o = .inr t → G K 128 [some (.ref (kad K 1)), none, none, none, none, none, none] [] (Wd K layC t)) (h : fX6_append_b91 x1 x3 x5 σ = some o) : G K 91 [some (.ref (kad K 1)), some (.long x1), none, some (.int x3), none, some (.int x5), none] [] (Wd K layC σ) := by
  unfold fX6_append_b91 at h
  refine g_iload C.c dX6_append_91 (i := 5) rfl ?_
  refine g_iload_n C.c dX6_append_93 rfl (i := 3) rfl ?_
  refine g_icmp_ge C.c (tgt := 128) dX6_append_94 (by decide) (fun c => ?_) (fun c => ?_)
  · replace h := ite_t c h
    have g9 := hE0 _ (Option.some.inj h).symm
    exact g_mask [true, false, false, false, false, false, false] rfl g9
  · replace h := ite_f c h
    refine g_aload_n C.c dX6_append_97 rfl (i := 0) rfl ?_
    refine gf_6_11 C dX6_append_98 ?_
    refine g_aload_n C.c dX6_append_101 rfl (i := 0) rfl ?_
    refine gf_6_19 C dX6_append_102 ?_
    refine g_lload_n C.c dX6_append_105 rfl (i := 1) rfl ?_
    refine g_iload C.c dX6_append_106 (i := 5) rfl ?_
    obtain ⟨p5, e6, h⟩ := Option.bind_eq_some_iff.mp h
    refine kc_6_15 C dX6_append_108 e6 (Nat.le_of_ble_eq_true rfl) rfl (Nat.le_of_ble_eq_true rfl) ?_
    obtain ⟨c7, h⟩ := chk h
    refine g_iast C dX6_append_111 rfl c7 ?_
    refine g_aload_n C.c dX6_append_112 rfl (i := 0) rfl ?_
    refine g_dup C.c dX6_append_113 rfl ?_
    refine gf_6_19 C dX6_append_114 ?_
    refine g_iconst C.c dX6_append_117 (v := (1 : Int32)) (by decide) ?_
    refine g_iadd C.c dX6_append_118 ?_
    refine pf_6_19 C dX6_append_119 ?_
    refine g_iinc C.c (i := 5) (y := (1 : Int32)) (L' := [some (.ref (kad K 1)), some (.long x1), none, some (.int x3), none, some (.int (x5 + (1 : Int32))), none]) dX6_append_122 rfl (by decide) (Nat.le_of_ble_eq_true rfl) rfl ?_
    refine g_goto C.c (tgt := 91) dX6_append_125 (by decide) ?_
    have g9 := hI _ (Option.some.inj h).symm
    exact g_mask [true, true, false, true, false, true, false] rfl g9
set_option maxRecDepth 4000 in
theorem bX6_append_b0 {K : KT} {x1 : Int64} {σ : Sg} {o : Int32 × Sg} (C : Cx K layC cX6_append RX6 7 (2) (some .int))  (hQ : Rk K layC (okI o)) (h : fX6_append_b0 x1 σ = some o) : G K 0 [some (.ref (kad K 1)), some (.long x1), none, none, none, none, none] [] (Wd K layC σ) := by
  unfold fX6_append_b0 at h
  refine g_iconst C.c dX6_append_0 (v := (0 : Int32)) (by decide) ?_
  refine g_istore_n C.c (i := 3) (L' := [some (.ref (kad K 1)), some (.long x1), none, some (.int (0 : Int32)), none, none, none]) dX6_append_1 rfl (Nat.le_of_ble_eq_true rfl) rfl ?_
  refine g_iconst C.c dX6_append_2 (v := (0 : Int32)) (by decide) ?_
  refine g_istore C.c (i := 4) (L' := [some (.ref (kad K 1)), some (.long x1), none, some (.int (0 : Int32)), some (.int (0 : Int32)), none, none]) dX6_append_3 (Nat.le_of_ble_eq_true rfl) rfl ?_
  refine g_iconst C.c dX6_append_5 (v := (0 : Int32)) (by decide) ?_
  refine g_istore C.c (i := 5) (L' := [some (.ref (kad K 1)), some (.long x1), none, some (.int (0 : Int32)), some (.int (0 : Int32)), some (.int (0 : Int32)), none]) dX6_append_6 (Nat.le_of_ble_eq_true rfl) rfl ?_
  refine g_mask [true, true, false, true, true, true, false] rfl ?_
  refine lp_bind (Gh := fun s => G K 8 [some (.ref (kad K 1)), some (.long x1), none, some (.int s.1), some (.int s.2.1), some (.int s.2.2.1), none] [] (Wd K layC s.2.2.2)) h (fun s o2 hf gI gE => ?_)
  refine bX6_append_b8 C gI (fun t3 e => ?_) (fun t3 e => ?_) hf
  · have h := el_l (gE _ e)
    refine g_bipush C.c dX6_append_40 (v := (-102 : Int32)) (by decide) ?_
    obtain rfl := Option.some.inj h
    exact g_iret C hQ dX6_append_42 rfl ⟨rfl, rfl⟩
  · have h := el_r (gE _ e)
    refine g_aload_n C.c dX6_append_74 rfl (i := 0) rfl ?_
    refine gf_6_19 C dX6_append_75 ?_
    refine g_iload_n C.c dX6_append_78 rfl (i := 3) rfl ?_
    refine g_iadd C.c dX6_append_79 ?_
    refine g_bipush C.c dX6_append_80 (v := (64 : Int32)) (by decide) ?_
    refine g_icmp_le C.c (tgt := 88) dX6_append_82 (by decide) (fun c => ?_) (fun c => ?_)
    · replace h := ite_t c h
      refine g_iconst C.c dX6_append_88 (v := (0 : Int32)) (by decide) ?_
      refine g_istore C.c (i := 5) (L' := [some (.ref (kad K 1)), some (.long x1), none, some (.int t3.1), none, some (.int (0 : Int32)), none]) dX6_append_89 (Nat.le_of_ble_eq_true rfl) rfl ?_
      refine g_mask [true, true, false, true, false, true, false] rfl ?_
      refine lp_bind (Gh := fun s => G K 91 [some (.ref (kad K 1)), some (.long x1), none, some (.int t3.1), none, some (.int s.1), none] [] (Wd K layC s.2)) h (fun s o2 hf gI gE => ?_)
      refine bX6_append_b91 C gI (fun t8 e => ?_) hf
      · have h := gE _ e
        refine g_aload_n C.c dX6_append_128 rfl (i := 0) rfl ?_
        refine gf_6_19 C dX6_append_129 ?_
        obtain rfl := Option.some.inj h
        exact g_iret C hQ dX6_append_132 rfl ⟨rfl, rfl⟩
    · replace h := ite_f c h
      refine g_bipush C.c dX6_append_85 (v := (-104 : Int32)) (by decide) ?_
      obtain rfl := Option.some.inj h
      exact g_iret C hQ dX6_append_87 rfl ⟨rfl, rfl⟩
def fX6_append (a0 : Int64) (σ : Sg) : Option (Int32 × Sg) := fX6_append_b0 a0 σ
theorem ct_X6_append {a0 : Int64} {σ : Sg} {p : Int32 × Sg} (h : fX6_append a0 σ = some p) : Ct layC yX6_append cX6_append 7 (some .int) 2 (fun ad => [.ref (ad 1), .long a0]) σ (okI p) :=
 ct_of (L0 := fun ad => [some (.ref (ad 1)), some (.long a0), none, none, none, none, none]) (by decide) (fun _ => Nat.le_of_ble_eq_true rfl) (fun _ => rfl) (fun K C hQ => g_mask [true, true, false, false, false, false, false] rfl (bX6_append_b0 C hQ h))
-- X6_clear
theorem dX6_clear_0 : decode cX6_clear 0 = .ok (.aload_n 0, 1) := by decide +kernel
theorem dX6_clear_1 : decode cX6_clear 1 = .ok (.getfield 19, 3) := by decide +kernel
theorem dX6_clear_4 : decode cX6_clear 4 = .ok (.istore_n 1, 1) := by decide +kernel
theorem dX6_clear_5 : decode cX6_clear 5 = .ok (.aload_n 0, 1) := by decide +kernel
theorem dX6_clear_6 : decode cX6_clear 6 = .ok (.iconst 0, 1) := by decide +kernel
theorem dX6_clear_7 : decode cX6_clear 7 = .ok (.putfield 19, 3) := by decide +kernel
theorem dX6_clear_10 : decode cX6_clear 10 = .ok (.iload_n 1, 1) := by decide +kernel
theorem dX6_clear_11 : decode cX6_clear 11 = .ok (.ireturn, 1) := by decide +kernel
theorem cw_X6_clear : Cw yX6_clear cX6_clear 2 (some .int) 0 := ⟨aw_407, aw_20, ⟨by decide, by decide⟩, by decide +kernel, by decide⟩
def fX6_clear_b0  (σ : Sg) : Option (Int32 × Sg) :=
  some ((rI σ 1 1), (wI σ 1 1 (0 : Int32)))
set_option maxRecDepth 4000 in
theorem bX6_clear_b0 {K : KT}  {σ : Sg} {o : Int32 × Sg} (C : Cx K layC cX6_clear RX6 2 (1) (some .int))  (hQ : Rk K layC (okI o)) (h : fX6_clear_b0  σ = some o) : G K 0 [some (.ref (kad K 1)), none] [] (Wd K layC σ) := by
  unfold fX6_clear_b0 at h
  refine g_aload_n C.c dX6_clear_0 rfl (i := 0) rfl ?_
  refine gf_6_19 C dX6_clear_1 ?_
  refine g_istore_n C.c (i := 1) (L' := [some (.ref (kad K 1)), some (.int (rI σ 1 1))]) dX6_clear_4 rfl (Nat.le_of_ble_eq_true rfl) rfl ?_
  refine g_aload_n C.c dX6_clear_5 rfl (i := 0) rfl ?_
  refine g_iconst C.c dX6_clear_6 (v := (0 : Int32)) (by decide) ?_
  refine pf_6_19 C dX6_clear_7 ?_
  refine g_iload_n C.c dX6_clear_10 rfl (i := 1) rfl ?_
  obtain rfl := Option.some.inj h
  exact g_iret C hQ dX6_clear_11 rfl ⟨rfl, rfl⟩
def fX6_clear (σ : Sg) : Option (Int32 × Sg) := fX6_clear_b0 σ
theorem ct_X6_clear {σ : Sg} {p : Int32 × Sg} (h : fX6_clear σ = some p) : Ct layC yX6_clear cX6_clear 2 (some .int) 1 (fun ad => [.ref (ad 1)]) σ (okI p) :=
 ct_of (L0 := fun ad => [some (.ref (ad 1)), none]) (by decide) (fun _ => Nat.le_of_ble_eq_true rfl) (fun _ => rfl) (fun K C hQ => g_mask [true, false] rfl (bX6_clear_b0 C hQ h))
-- X6_codeAt
theorem dX6_codeAt_0 : decode cX6_codeAt 0 = .ok (.iload_n 1, 1) := by decide +kernel
theorem dX6_codeAt_1 : decode cX6_codeAt 1 = .ok (.ifCond .lt 20, 3) := by decide +kernel
theorem dX6_codeAt_4 : decode cX6_codeAt 4 = .ok (.iload_n 1, 1) := by decide +kernel
theorem dX6_codeAt_5 : decode cX6_codeAt 5 = .ok (.aload_n 0, 1) := by decide +kernel
theorem dX6_codeAt_6 : decode cX6_codeAt 6 = .ok (.getfield 19, 3) := by decide +kernel
theorem dX6_codeAt_9 : decode cX6_codeAt 9 = .ok (.if_icmp .ge 12, 3) := by decide +kernel
theorem dX6_codeAt_12 : decode cX6_codeAt 12 = .ok (.aload_n 0, 1) := by decide +kernel
theorem dX6_codeAt_13 : decode cX6_codeAt 13 = .ok (.getfield 11, 3) := by decide +kernel
theorem dX6_codeAt_16 : decode cX6_codeAt 16 = .ok (.iload_n 1, 1) := by decide +kernel
theorem dX6_codeAt_17 : decode cX6_codeAt 17 = .ok (.iaload, 1) := by decide +kernel
theorem dX6_codeAt_18 : decode cX6_codeAt 18 = .ok (.goto 4, 3) := by decide +kernel
theorem dX6_codeAt_21 : decode cX6_codeAt 21 = .ok (.iconst 0, 1) := by decide +kernel
theorem dX6_codeAt_22 : decode cX6_codeAt 22 = .ok (.ireturn, 1) := by decide +kernel
theorem cw_X6_codeAt : Cw yX6_codeAt cX6_codeAt 2 (some .int) 1 := ⟨aw_383, aw_20, ⟨by decide, by decide⟩, by decide +kernel, by decide⟩
def fX6_codeAt_b0 (x1 : Int32) (σ : Sg) : Option (Int32 × Sg) :=
  if x1 < 0 then (some ((0 : Int32), σ)) else (if (rI σ 1 1) ≤ x1 then (some ((0 : Int32), σ)) else (if inb x1 64 = true then (some ((rI σ 2 (x1).toNatClampNeg), σ)) else none))
set_option maxRecDepth 4000 in
theorem bX6_codeAt_b0 {K : KT} {x1 : Int32} {σ : Sg} {o : Int32 × Sg} (C : Cx K layC cX6_codeAt RX6 2 (1) (some .int))  (hQ : Rk K layC (okI o)) (h : fX6_codeAt_b0 x1 σ = some o) : G K 0 [some (.ref (kad K 1)), some (.int x1)] [] (Wd K layC σ) := by
  unfold fX6_codeAt_b0 at h
  refine g_iload_n C.c dX6_codeAt_0 rfl (i := 1) rfl ?_
  refine g_if_lt C.c (tgt := 21) dX6_codeAt_1 (by decide) (fun c => ?_) (fun c => ?_)
  · replace h := ite_t c h
    refine g_iconst C.c dX6_codeAt_21 (v := (0 : Int32)) (by decide) ?_
    obtain rfl := Option.some.inj h
    exact g_iret C hQ dX6_codeAt_22 rfl ⟨rfl, rfl⟩
  · replace h := ite_f c h
    refine g_iload_n C.c dX6_codeAt_4 rfl (i := 1) rfl ?_
    refine g_aload_n C.c dX6_codeAt_5 rfl (i := 0) rfl ?_
    refine gf_6_19 C dX6_codeAt_6 ?_
    refine g_icmp_ge C.c (tgt := 21) dX6_codeAt_9 (by decide) (fun c => ?_) (fun c => ?_)
    · replace h := ite_t c h
      refine g_iconst C.c dX6_codeAt_21 (v := (0 : Int32)) (by decide) ?_
      obtain rfl := Option.some.inj h
      exact g_iret C hQ dX6_codeAt_22 rfl ⟨rfl, rfl⟩
    · replace h := ite_f c h
      refine g_aload_n C.c dX6_codeAt_12 rfl (i := 0) rfl ?_
      refine gf_6_11 C dX6_codeAt_13 ?_
      refine g_iload_n C.c dX6_codeAt_16 rfl (i := 1) rfl ?_
      obtain ⟨c1, h⟩ := chk h
      refine g_iald C dX6_codeAt_17 rfl c1 ?_
      refine g_goto C.c (tgt := 22) dX6_codeAt_18 (by decide) ?_
      obtain rfl := Option.some.inj h
      exact g_iret C hQ dX6_codeAt_22 rfl ⟨rfl, rfl⟩
def fX6_codeAt (a0 : Int32) (σ : Sg) : Option (Int32 × Sg) := fX6_codeAt_b0 a0 σ
theorem ct_X6_codeAt {a0 : Int32} {σ : Sg} {p : Int32 × Sg} (h : fX6_codeAt a0 σ = some p) : Ct layC yX6_codeAt cX6_codeAt 2 (some .int) 1 (fun ad => [.ref (ad 1), .int a0]) σ (okI p) :=
 ct_of (L0 := fun ad => [some (.ref (ad 1)), some (.int a0)]) (by decide) (fun _ => Nat.le_of_ble_eq_true rfl) (fun _ => rfl) (fun K C hQ => g_mask [true, true] rfl (bX6_codeAt_b0 C hQ h))
-- X6_takesRowEnd
theorem dX6_takesRowEnd_0 : decode cX6_takesRowEnd 0 = .ok (.aload_n 0, 1) := by decide +kernel
theorem dX6_takesRowEnd_1 : decode cX6_takesRowEnd 1 = .ok (.getfield 23, 3) := by decide +kernel
theorem dX6_takesRowEnd_4 : decode cX6_takesRowEnd 4 = .ok (.ifCond .ne 19, 3) := by decide +kernel
theorem dX6_takesRowEnd_7 : decode cX6_takesRowEnd 7 = .ok (.aload_n 0, 1) := by decide +kernel
theorem dX6_takesRowEnd_8 : decode cX6_takesRowEnd 8 = .ok (.getfield 26, 3) := by decide +kernel
theorem dX6_takesRowEnd_11 : decode cX6_takesRowEnd 11 = .ok (.iconst 2, 1) := by decide +kernel
theorem dX6_takesRowEnd_12 : decode cX6_takesRowEnd 12 = .ok (.if_icmp .lt 7, 3) := by decide +kernel
theorem dX6_takesRowEnd_15 : decode cX6_takesRowEnd 15 = .ok (.iconst 1, 1) := by decide +kernel
theorem dX6_takesRowEnd_16 : decode cX6_takesRowEnd 16 = .ok (.goto 23, 3) := by decide +kernel
theorem dX6_takesRowEnd_19 : decode cX6_takesRowEnd 19 = .ok (.iconst 0, 1) := by decide +kernel
theorem dX6_takesRowEnd_20 : decode cX6_takesRowEnd 20 = .ok (.goto 19, 3) := by decide +kernel
theorem dX6_takesRowEnd_23 : decode cX6_takesRowEnd 23 = .ok (.aload_n 0, 1) := by decide +kernel
theorem dX6_takesRowEnd_24 : decode cX6_takesRowEnd 24 = .ok (.getfield 26, 3) := by decide +kernel
theorem dX6_takesRowEnd_27 : decode cX6_takesRowEnd 27 = .ok (.aload_n 0, 1) := by decide +kernel
theorem dX6_takesRowEnd_28 : decode cX6_takesRowEnd 28 = .ok (.getfield 29, 3) := by decide +kernel
theorem dX6_takesRowEnd_31 : decode cX6_takesRowEnd 31 = .ok (.if_icmp .ne 7, 3) := by decide +kernel
theorem dX6_takesRowEnd_34 : decode cX6_takesRowEnd 34 = .ok (.iconst 1, 1) := by decide +kernel
theorem dX6_takesRowEnd_35 : decode cX6_takesRowEnd 35 = .ok (.goto 4, 3) := by decide +kernel
theorem dX6_takesRowEnd_38 : decode cX6_takesRowEnd 38 = .ok (.iconst 0, 1) := by decide +kernel
theorem dX6_takesRowEnd_39 : decode cX6_takesRowEnd 39 = .ok (.istore_n 1, 1) := by decide +kernel
theorem dX6_takesRowEnd_40 : decode cX6_takesRowEnd 40 = .ok (.iload_n 1, 1) := by decide +kernel
theorem dX6_takesRowEnd_41 : decode cX6_takesRowEnd 41 = .ok (.ifCond .eq 13, 3) := by decide +kernel
theorem dX6_takesRowEnd_44 : decode cX6_takesRowEnd 44 = .ok (.aload_n 0, 1) := by decide +kernel
theorem dX6_takesRowEnd_45 : decode cX6_takesRowEnd 45 = .ok (.getfield 23, 3) := by decide +kernel
theorem dX6_takesRowEnd_48 : decode cX6_takesRowEnd 48 = .ok (.iconst 1, 1) := by decide +kernel
theorem dX6_takesRowEnd_49 : decode cX6_takesRowEnd 49 = .ok (.iadd, 1) := by decide +kernel
theorem dX6_takesRowEnd_50 : decode cX6_takesRowEnd 50 = .ok (.iconst 5, 1) := by decide +kernel
theorem dX6_takesRowEnd_51 : decode cX6_takesRowEnd 51 = .ok (.if_icmp .lt 5, 3) := by decide +kernel
theorem dX6_takesRowEnd_54 : decode cX6_takesRowEnd 54 = .ok (.iconst 0, 1) := by decide +kernel
theorem dX6_takesRowEnd_55 : decode cX6_takesRowEnd 55 = .ok (.ireturn, 1) := by decide +kernel
theorem dX6_takesRowEnd_56 : decode cX6_takesRowEnd 56 = .ok (.aload_n 0, 1) := by decide +kernel
theorem dX6_takesRowEnd_57 : decode cX6_takesRowEnd 57 = .ok (.aload_n 0, 1) := by decide +kernel
theorem dX6_takesRowEnd_58 : decode cX6_takesRowEnd 58 = .ok (.getfield 26, 3) := by decide +kernel
theorem dX6_takesRowEnd_61 : decode cX6_takesRowEnd 61 = .ok (.putfield 29, 3) := by decide +kernel
theorem dX6_takesRowEnd_64 : decode cX6_takesRowEnd 64 = .ok (.aload_n 0, 1) := by decide +kernel
theorem dX6_takesRowEnd_65 : decode cX6_takesRowEnd 65 = .ok (.dup, 1) := by decide +kernel
theorem dX6_takesRowEnd_66 : decode cX6_takesRowEnd 66 = .ok (.getfield 23, 3) := by decide +kernel
theorem dX6_takesRowEnd_69 : decode cX6_takesRowEnd 69 = .ok (.iconst 1, 1) := by decide +kernel
theorem dX6_takesRowEnd_70 : decode cX6_takesRowEnd 70 = .ok (.iadd, 1) := by decide +kernel
theorem dX6_takesRowEnd_71 : decode cX6_takesRowEnd 71 = .ok (.putfield 23, 3) := by decide +kernel
theorem dX6_takesRowEnd_74 : decode cX6_takesRowEnd 74 = .ok (.aload_n 0, 1) := by decide +kernel
theorem dX6_takesRowEnd_75 : decode cX6_takesRowEnd 75 = .ok (.iconst 0, 1) := by decide +kernel
theorem dX6_takesRowEnd_76 : decode cX6_takesRowEnd 76 = .ok (.putfield 26, 3) := by decide +kernel
theorem dX6_takesRowEnd_79 : decode cX6_takesRowEnd 79 = .ok (.aload_n 0, 1) := by decide +kernel
theorem dX6_takesRowEnd_80 : decode cX6_takesRowEnd 80 = .ok (.iconst 0, 1) := by decide +kernel
theorem dX6_takesRowEnd_81 : decode cX6_takesRowEnd 81 = .ok (.putfield 35, 3) := by decide +kernel
theorem dX6_takesRowEnd_84 : decode cX6_takesRowEnd 84 = .ok (.iconst 1, 1) := by decide +kernel
theorem dX6_takesRowEnd_85 : decode cX6_takesRowEnd 85 = .ok (.ireturn, 1) := by decide +kernel
theorem cw_X6_takesRowEnd : Cw yX6_takesRowEnd cX6_takesRowEnd 2 (some .boolean) 0 := ⟨aw_359, aw_20, ⟨by decide, by decide⟩, by decide +kernel, by decide⟩
theorem gf_6_23 {K : KT} {cc : ByteArray} {nL d pc : Nat} {ret : Option FieldType} {L : List (Option Value)} {st : List Value} {σ : Sg} (C : Cx K layC cc RX6 nL d ret)  (hd : decode cc pc = .ok (.getfield 23, 3)) (k : G K (pc + 3) L (.int (rI σ 1 2) :: st) (Wd K layC σ)) : G K pc L (.ref (kad K 1) :: st) (Wd K layC σ) := g_get C (o := 1) (ci := 6) (k := 2) hd rfl rfl rfl (by decide) (Or.inl aw_48) inA6 rfl k
theorem gf_6_26 {K : KT} {cc : ByteArray} {nL d pc : Nat} {ret : Option FieldType} {L : List (Option Value)} {st : List Value} {σ : Sg} (C : Cx K layC cc RX6 nL d ret)  (hd : decode cc pc = .ok (.getfield 26, 3)) (k : G K (pc + 3) L (.int (rI σ 1 3) :: st) (Wd K layC σ)) : G K pc L (.ref (kad K 1) :: st) (Wd K layC σ) := g_get C (o := 1) (ci := 6) (k := 3) hd rfl rfl rfl (by decide) (Or.inl aw_49) inA6 rfl k
theorem gf_6_29 {K : KT} {cc : ByteArray} {nL d pc : Nat} {ret : Option FieldType} {L : List (Option Value)} {st : List Value} {σ : Sg} (C : Cx K layC cc RX6 nL d ret)  (hd : decode cc pc = .ok (.getfield 29, 3)) (k : G K (pc + 3) L (.int (rI σ 1 4) :: st) (Wd K layC σ)) : G K pc L (.ref (kad K 1) :: st) (Wd K layC σ) := g_get C (o := 1) (ci := 6) (k := 4) hd rfl rfl rfl (by decide) (Or.inl aw_50) inA6 rfl k
theorem pf_6_29 {K : KT} {cc : ByteArray} {nL d pc : Nat} {ret : Option FieldType} {L : List (Option Value)} {st : List Value} {σ : Sg} (C : Cx K layC cc RX6 nL d ret)  {v : Int32}  (hd : decode cc pc = .ok (.putfield 29, 3)) (k : G K (pc + 3) L st (Wd K layC (wI σ 1 4 v))) : G K pc L (.int v :: .ref (kad K 1) :: st) (Wd K layC σ) := g_putI C (o := 1) (ci := 6) (k := 4) hd rfl rfl rfl (by decide) (Or.inl aw_50) inA6 tyX6_ok nmX6 rfl rfl rfl k
theorem pf_6_23 {K : KT} {cc : ByteArray} {nL d pc : Nat} {ret : Option FieldType} {L : List (Option Value)} {st : List Value} {σ : Sg} (C : Cx K layC cc RX6 nL d ret)  {v : Int32}  (hd : decode cc pc = .ok (.putfield 23, 3)) (k : G K (pc + 3) L st (Wd K layC (wI σ 1 2 v))) : G K pc L (.int v :: .ref (kad K 1) :: st) (Wd K layC σ) := g_putI C (o := 1) (ci := 6) (k := 2) hd rfl rfl rfl (by decide) (Or.inl aw_48) inA6 tyX6_ok nmX6 rfl rfl rfl k
theorem pf_6_26 {K : KT} {cc : ByteArray} {nL d pc : Nat} {ret : Option FieldType} {L : List (Option Value)} {st : List Value} {σ : Sg} (C : Cx K layC cc RX6 nL d ret)  {v : Int32}  (hd : decode cc pc = .ok (.putfield 26, 3)) (k : G K (pc + 3) L st (Wd K layC (wI σ 1 3 v))) : G K pc L (.int v :: .ref (kad K 1) :: st) (Wd K layC σ) := g_putI C (o := 1) (ci := 6) (k := 3) hd rfl rfl rfl (by decide) (Or.inl aw_49) inA6 tyX6_ok nmX6 rfl rfl rfl k
theorem pf_6_35 {K : KT} {cc : ByteArray} {nL d pc : Nat} {ret : Option FieldType} {L : List (Option Value)} {st : List Value} {σ : Sg} (C : Cx K layC cc RX6 nL d ret)  {v : Int32} (hb : isB v = true) (hd : decode cc pc = .ok (.putfield 35, 3)) (k : G K (pc + 3) L st (Wd K layC (wI σ 1 6 v))) : G K pc L (.int v :: .ref (kad K 1) :: st) (Wd K layC σ) := g_putI C (o := 1) (ci := 6) (k := 6) hd rfl rfl rfl (by decide) (Or.inl aw_52) inA6 tyX6_ok nmX6 rfl (isB_n hb) (isB_f hb) k
def fX6_takesRowEnd_b39 (y0 : Int32) (σ : Sg) : Option (Int32 × Sg) :=
  if y0 = 0 then (some ((0 : Int32), σ)) else (if ((rI σ 1 2) + (1 : Int32)) < (5 : Int32) then (some ((1 : Int32), (wI (wI (wI (wI σ 1 4 (rI σ 1 3)) 1 2 ((rI (wI σ 1 4 (rI σ 1 3)) 1 2) + (1 : Int32))) 1 3 (0 : Int32)) 1 6 (0 : Int32)))) else (some ((0 : Int32), σ)))
def fX6_takesRowEnd_b0  (σ : Sg) : Option (Int32 × Sg) :=
  if (rI σ 1 2) = 0 then (if (rI σ 1 3) < (2 : Int32) then (fX6_takesRowEnd_b39 (0 : Int32) σ) else (fX6_takesRowEnd_b39 (1 : Int32) σ)) else (if (rI σ 1 3) = (rI σ 1 4) then (fX6_takesRowEnd_b39 (1 : Int32) σ) else (fX6_takesRowEnd_b39 (0 : Int32) σ))
set_option maxRecDepth 4000 in
theorem bX6_takesRowEnd_b39 {K : KT} {y0 : Int32} {σ : Sg} {o : Int32 × Sg} (C : Cx K layC cX6_takesRowEnd RX6 2 (1) (some .boolean))  (hQ : Rk K layC (okI o)) (h : fX6_takesRowEnd_b39 y0 σ = some o) : G K 39 [some (.ref (kad K 1)), none] [.int y0] (Wd K layC σ) := by
  unfold fX6_takesRowEnd_b39 at h
  refine g_istore_n C.c (i := 1) (L' := [some (.ref (kad K 1)), some (.int y0)]) dX6_takesRowEnd_39 rfl (Nat.le_of_ble_eq_true rfl) rfl ?_
  refine g_iload_n C.c dX6_takesRowEnd_40 rfl (i := 1) rfl ?_
  refine g_if_eq C.c (tgt := 54) dX6_takesRowEnd_41 (by decide) (fun c => ?_) (fun c => ?_)
  · replace h := ite_t c h
    refine g_iconst C.c dX6_takesRowEnd_54 (v := (0 : Int32)) (by decide) ?_
    obtain rfl := Option.some.inj h
    exact g_iret C hQ dX6_takesRowEnd_55 rfl ⟨rfl, rfl⟩
  · replace h := ite_f c h
    refine g_aload_n C.c dX6_takesRowEnd_44 rfl (i := 0) rfl ?_
    refine gf_6_23 C dX6_takesRowEnd_45 ?_
    refine g_iconst C.c dX6_takesRowEnd_48 (v := (1 : Int32)) (by decide) ?_
    refine g_iadd C.c dX6_takesRowEnd_49 ?_
    refine g_iconst C.c dX6_takesRowEnd_50 (v := (5 : Int32)) (by decide) ?_
    refine g_icmp_lt C.c (tgt := 56) dX6_takesRowEnd_51 (by decide) (fun c => ?_) (fun c => ?_)
    · replace h := ite_t c h
      refine g_aload_n C.c dX6_takesRowEnd_56 rfl (i := 0) rfl ?_
      refine g_aload_n C.c dX6_takesRowEnd_57 rfl (i := 0) rfl ?_
      refine gf_6_26 C dX6_takesRowEnd_58 ?_
      refine pf_6_29 C dX6_takesRowEnd_61 ?_
      refine g_aload_n C.c dX6_takesRowEnd_64 rfl (i := 0) rfl ?_
      refine g_dup C.c dX6_takesRowEnd_65 rfl ?_
      refine gf_6_23 C dX6_takesRowEnd_66 ?_
      refine g_iconst C.c dX6_takesRowEnd_69 (v := (1 : Int32)) (by decide) ?_
      refine g_iadd C.c dX6_takesRowEnd_70 ?_
      refine pf_6_23 C dX6_takesRowEnd_71 ?_
      refine g_aload_n C.c dX6_takesRowEnd_74 rfl (i := 0) rfl ?_
      refine g_iconst C.c dX6_takesRowEnd_75 (v := (0 : Int32)) (by decide) ?_
      refine pf_6_26 C dX6_takesRowEnd_76 ?_
      refine g_aload_n C.c dX6_takesRowEnd_79 rfl (i := 0) rfl ?_
      refine g_iconst C.c dX6_takesRowEnd_80 (v := (0 : Int32)) (by decide) ?_
      refine pf_6_35 C (by decide) dX6_takesRowEnd_81 ?_
      refine g_iconst C.c dX6_takesRowEnd_84 (v := (1 : Int32)) (by decide) ?_
      obtain rfl := Option.some.inj h
      exact g_iret C hQ dX6_takesRowEnd_85 rfl ⟨rfl, rfl⟩
    · replace h := ite_f c h
      refine g_iconst C.c dX6_takesRowEnd_54 (v := (0 : Int32)) (by decide) ?_
      obtain rfl := Option.some.inj h
      exact g_iret C hQ dX6_takesRowEnd_55 rfl ⟨rfl, rfl⟩
set_option maxRecDepth 4000 in
theorem bX6_takesRowEnd_b0 {K : KT}  {σ : Sg} {o : Int32 × Sg} (C : Cx K layC cX6_takesRowEnd RX6 2 (1) (some .boolean))  (hQ : Rk K layC (okI o)) (h : fX6_takesRowEnd_b0  σ = some o) : G K 0 [some (.ref (kad K 1)), none] [] (Wd K layC σ) := by
  unfold fX6_takesRowEnd_b0 at h
  refine g_aload_n C.c dX6_takesRowEnd_0 rfl (i := 0) rfl ?_
  refine gf_6_23 C dX6_takesRowEnd_1 ?_
  refine g_if_ne C.c (tgt := 23) dX6_takesRowEnd_4 (by decide) (fun c => ?_) (fun c => ?_)
  · replace h := ite_f c h
    refine g_aload_n C.c dX6_takesRowEnd_23 rfl (i := 0) rfl ?_
    refine gf_6_26 C dX6_takesRowEnd_24 ?_
    refine g_aload_n C.c dX6_takesRowEnd_27 rfl (i := 0) rfl ?_
    refine gf_6_29 C dX6_takesRowEnd_28 ?_
    refine g_icmp_ne C.c (tgt := 38) dX6_takesRowEnd_31 (by decide) (fun c => ?_) (fun c => ?_)
    · replace h := ite_f c h
      refine g_iconst C.c dX6_takesRowEnd_38 (v := (0 : Int32)) (by decide) ?_
      exact g_mask [true, false] rfl (bX6_takesRowEnd_b39 C hQ h)
    · replace h := ite_t c h
      refine g_iconst C.c dX6_takesRowEnd_34 (v := (1 : Int32)) (by decide) ?_
      refine g_goto C.c (tgt := 39) dX6_takesRowEnd_35 (by decide) ?_
      exact g_mask [true, false] rfl (bX6_takesRowEnd_b39 C hQ h)
  · replace h := ite_t c h
    refine g_aload_n C.c dX6_takesRowEnd_7 rfl (i := 0) rfl ?_
    refine gf_6_26 C dX6_takesRowEnd_8 ?_
    refine g_iconst C.c dX6_takesRowEnd_11 (v := (2 : Int32)) (by decide) ?_
    refine g_icmp_lt C.c (tgt := 19) dX6_takesRowEnd_12 (by decide) (fun c => ?_) (fun c => ?_)
    · replace h := ite_t c h
      refine g_iconst C.c dX6_takesRowEnd_19 (v := (0 : Int32)) (by decide) ?_
      refine g_goto C.c (tgt := 39) dX6_takesRowEnd_20 (by decide) ?_
      exact g_mask [true, false] rfl (bX6_takesRowEnd_b39 C hQ h)
    · replace h := ite_f c h
      refine g_iconst C.c dX6_takesRowEnd_15 (v := (1 : Int32)) (by decide) ?_
      refine g_goto C.c (tgt := 39) dX6_takesRowEnd_16 (by decide) ?_
      exact g_mask [true, false] rfl (bX6_takesRowEnd_b39 C hQ h)
def fX6_takesRowEnd (σ : Sg) : Option (Int32 × Sg) := fX6_takesRowEnd_b0 σ
theorem ct_X6_takesRowEnd {σ : Sg} {p : Int32 × Sg} (h : fX6_takesRowEnd σ = some p) : Ct layC yX6_takesRowEnd cX6_takesRowEnd 2 (some .boolean) 1 (fun ad => [.ref (ad 1)]) σ (okI p) :=
 ct_of (L0 := fun ad => [some (.ref (ad 1)), none]) (by decide) (fun _ => Nat.le_of_ble_eq_true rfl) (fun _ => rfl) (fun K C hQ => g_mask [true, false] rfl (bX6_takesRowEnd_b0 C hQ h))
-- X7_wayOf
theorem dX7_wayOf_0 : decode cX7_wayOf 0 = .ok (.iload_n 0, 1) := by decide +kernel
theorem dX7_wayOf_1 : decode cX7_wayOf 1 = .ok (.lookupswitch 51 #[(101, 45), (110, 43), (115, 47), (119, 49)], 43) := by decide +kernel
theorem dX7_wayOf_44 : decode cX7_wayOf 44 = .ok (.iconst 0, 1) := by decide +kernel
theorem dX7_wayOf_45 : decode cX7_wayOf 45 = .ok (.ireturn, 1) := by decide +kernel
theorem dX7_wayOf_46 : decode cX7_wayOf 46 = .ok (.iconst 1, 1) := by decide +kernel
theorem dX7_wayOf_47 : decode cX7_wayOf 47 = .ok (.ireturn, 1) := by decide +kernel
theorem dX7_wayOf_48 : decode cX7_wayOf 48 = .ok (.iconst 2, 1) := by decide +kernel
theorem dX7_wayOf_49 : decode cX7_wayOf 49 = .ok (.ireturn, 1) := by decide +kernel
theorem dX7_wayOf_50 : decode cX7_wayOf 50 = .ok (.iconst 3, 1) := by decide +kernel
theorem dX7_wayOf_51 : decode cX7_wayOf 51 = .ok (.ireturn, 1) := by decide +kernel
theorem dX7_wayOf_52 : decode cX7_wayOf 52 = .ok (.iconst (-1), 1) := by decide +kernel
theorem dX7_wayOf_53 : decode cX7_wayOf 53 = .ok (.ireturn, 1) := by decide +kernel
theorem cw_X7_wayOf : Cw yX7_wayOf cX7_wayOf 1 (some .int) 1 := ⟨aw_362, aw_22, ⟨by decide, by decide⟩, by decide +kernel, by decide⟩
def fX7_wayOf_b0 (x0 : Int32) (σ : Sg) : Option (Int32 × Sg) :=
  if x0 = (101 : Int32) then (some ((1 : Int32), σ)) else (if x0 = (110 : Int32) then (some ((0 : Int32), σ)) else (if x0 = (115 : Int32) then (some ((2 : Int32), σ)) else (if x0 = (119 : Int32) then (some ((3 : Int32), σ)) else (some ((-1 : Int32), σ)))))
set_option maxRecDepth 4000 in
theorem bX7_wayOf_b0 {K : KT} {x0 : Int32} {σ : Sg} {o : Int32 × Sg} (C : Cx K layC cX7_wayOf RX7 1 (1) (some .int))  (hQ : Rk K layC (okI o)) (h : fX7_wayOf_b0 x0 σ = some o) : G K 0 [some (.int x0)] [] (Wd K layC σ) := by
  unfold fX7_wayOf_b0 at h
  refine g_iload_n C.c dX7_wayOf_0 rfl (i := 0) rfl ?_
  by_cases c0 : x0 = (101 : Int32)
  · replace h := ite_t c0 h
    refine g_lkIn C.c (tgt := 46) (off := 45) c0 dX7_wayOf_1 (by decide) (by decide) (by decide) ?_
    refine g_iconst C.c dX7_wayOf_46 (v := (1 : Int32)) (by decide) ?_
    obtain rfl := Option.some.inj h
    exact g_iret C hQ dX7_wayOf_47 rfl ⟨rfl, rfl⟩
  · replace h := ite_f c0 h
    by_cases c1 : x0 = (110 : Int32)
    · replace h := ite_t c1 h
      refine g_lkIn C.c (tgt := 44) (off := 43) c1 dX7_wayOf_1 (by decide) (by decide) (by decide) ?_
      refine g_iconst C.c dX7_wayOf_44 (v := (0 : Int32)) (by decide) ?_
      obtain rfl := Option.some.inj h
      exact g_iret C hQ dX7_wayOf_45 rfl ⟨rfl, rfl⟩
    · replace h := ite_f c1 h
      by_cases c2 : x0 = (115 : Int32)
      · replace h := ite_t c2 h
        refine g_lkIn C.c (tgt := 48) (off := 47) c2 dX7_wayOf_1 (by decide) (by decide) (by decide) ?_
        refine g_iconst C.c dX7_wayOf_48 (v := (2 : Int32)) (by decide) ?_
        obtain rfl := Option.some.inj h
        exact g_iret C hQ dX7_wayOf_49 rfl ⟨rfl, rfl⟩
      · replace h := ite_f c2 h
        by_cases c3 : x0 = (119 : Int32)
        · replace h := ite_t c3 h
          refine g_lkIn C.c (tgt := 50) (off := 49) c3 dX7_wayOf_1 (by decide) (by decide) (by decide) ?_
          refine g_iconst C.c dX7_wayOf_50 (v := (3 : Int32)) (by decide) ?_
          obtain rfl := Option.some.inj h
          exact g_iret C hQ dX7_wayOf_51 rfl ⟨rfl, rfl⟩
        · replace h := ite_f c3 h
          refine g_lkOut C.c (tgt := 52) [(101 : Int32), (110 : Int32), (115 : Int32), (119 : Int32)] (by decide) ⟨c0, c1, c2, c3, trivial⟩ dX7_wayOf_1 (by decide) (by decide) ?_
          refine g_iconst C.c dX7_wayOf_52 (v := (-1 : Int32)) (by decide) ?_
          obtain rfl := Option.some.inj h
          exact g_iret C hQ dX7_wayOf_53 rfl ⟨rfl, rfl⟩
def fX7_wayOf (a0 : Int32) (σ : Sg) : Option (Int32 × Sg) := fX7_wayOf_b0 a0 σ
theorem ct_X7_wayOf {a0 : Int32} {σ : Sg} {p : Int32 × Sg} (h : fX7_wayOf a0 σ = some p) : Ct layC yX7_wayOf cX7_wayOf 1 (some .int) 1 (fun ad => [.int a0]) σ (okI p) :=
 ct_of (L0 := fun ad => [some (.int a0)]) (by decide) (fun _ => Nat.le_of_ble_eq_true rfl) (fun _ => rfl) (fun K C hQ => g_mask [true] rfl (bX7_wayOf_b0 C hQ h))
-- X6_takesSquare
theorem dX6_takesSquare_0 : decode cX6_takesSquare 0 = .ok (.iload_n 1, 1) := by decide +kernel
theorem dX6_takesSquare_1 : decode cX6_takesSquare 1 = .ok (.bipush 48, 2) := by decide +kernel
theorem dX6_takesSquare_3 : decode cX6_takesSquare 3 = .ok (.if_icmp .lt 13, 3) := by decide +kernel
theorem dX6_takesSquare_6 : decode cX6_takesSquare 6 = .ok (.iload_n 1, 1) := by decide +kernel
theorem dX6_takesSquare_7 : decode cX6_takesSquare 7 = .ok (.bipush 57, 2) := by decide +kernel
theorem dX6_takesSquare_9 : decode cX6_takesSquare 9 = .ok (.if_icmp .gt 7, 3) := by decide +kernel
theorem dX6_takesSquare_12 : decode cX6_takesSquare 12 = .ok (.iconst 1, 1) := by decide +kernel
theorem dX6_takesSquare_13 : decode cX6_takesSquare 13 = .ok (.goto 4, 3) := by decide +kernel
theorem dX6_takesSquare_16 : decode cX6_takesSquare 16 = .ok (.iconst 0, 1) := by decide +kernel
theorem dX6_takesSquare_17 : decode cX6_takesSquare 17 = .ok (.istore_n 2, 1) := by decide +kernel
theorem dX6_takesSquare_18 : decode cX6_takesSquare 18 = .ok (.iload_n 1, 1) := by decide +kernel
theorem dX6_takesSquare_19 : decode cX6_takesSquare 19 = .ok (.bipush 104, 2) := by decide +kernel
theorem dX6_takesSquare_21 : decode cX6_takesSquare 21 = .ok (.if_icmp .ne 14, 3) := by decide +kernel
theorem dX6_takesSquare_24 : decode cX6_takesSquare 24 = .ok (.aload_n 0, 1) := by decide +kernel
theorem dX6_takesSquare_25 : decode cX6_takesSquare 25 = .ok (.getfield 32, 3) := by decide +kernel
theorem dX6_takesSquare_28 : decode cX6_takesSquare 28 = .ok (.ifCond .le 7, 3) := by decide +kernel
theorem dX6_takesSquare_31 : decode cX6_takesSquare 31 = .ok (.iconst 1, 1) := by decide +kernel
theorem dX6_takesSquare_32 : decode cX6_takesSquare 32 = .ok (.goto 4, 3) := by decide +kernel
theorem dX6_takesSquare_35 : decode cX6_takesSquare 35 = .ok (.iconst 0, 1) := by decide +kernel
theorem dX6_takesSquare_36 : decode cX6_takesSquare 36 = .ok (.istore_n 3, 1) := by decide +kernel
theorem dX6_takesSquare_37 : decode cX6_takesSquare 37 = .ok (.iload_n 2, 1) := by decide +kernel
theorem dX6_takesSquare_38 : decode cX6_takesSquare 38 = .ok (.ifCond .ne 15, 3) := by decide +kernel
theorem dX6_takesSquare_41 : decode cX6_takesSquare 41 = .ok (.iload_n 1, 1) := by decide +kernel
theorem dX6_takesSquare_42 : decode cX6_takesSquare 42 = .ok (.bipush 35, 2) := by decide +kernel
theorem dX6_takesSquare_44 : decode cX6_takesSquare 44 = .ok (.if_icmp .eq 9, 3) := by decide +kernel
theorem dX6_takesSquare_47 : decode cX6_takesSquare 47 = .ok (.iload_n 1, 1) := by decide +kernel
theorem dX6_takesSquare_48 : decode cX6_takesSquare 48 = .ok (.bipush 104, 2) := by decide +kernel
theorem dX6_takesSquare_50 : decode cX6_takesSquare 50 = .ok (.if_icmp .ne 7, 3) := by decide +kernel
theorem dX6_takesSquare_53 : decode cX6_takesSquare 53 = .ok (.iload_n 3, 1) := by decide +kernel
theorem dX6_takesSquare_54 : decode cX6_takesSquare 54 = .ok (.ifCond .eq 5, 3) := by decide +kernel
theorem dX6_takesSquare_57 : decode cX6_takesSquare 57 = .ok (.iconst 0, 1) := by decide +kernel
theorem dX6_takesSquare_58 : decode cX6_takesSquare 58 = .ok (.ireturn, 1) := by decide +kernel
theorem dX6_takesSquare_59 : decode cX6_takesSquare 59 = .ok (.aload_n 0, 1) := by decide +kernel
theorem dX6_takesSquare_60 : decode cX6_takesSquare 60 = .ok (.getfield 26, 3) := by decide +kernel
theorem dX6_takesSquare_63 : decode cX6_takesSquare 63 = .ok (.aload_n 0, 1) := by decide +kernel
theorem dX6_takesSquare_64 : decode cX6_takesSquare 64 = .ok (.getfield 23, 3) := by decide +kernel
theorem dX6_takesSquare_67 : decode cX6_takesSquare 67 = .ok (.ifCond .ne 8, 3) := by decide +kernel
theorem dX6_takesSquare_70 : decode cX6_takesSquare 70 = .ok (.bipush 6, 2) := by decide +kernel
theorem dX6_takesSquare_72 : decode cX6_takesSquare 72 = .ok (.goto 7, 3) := by decide +kernel
theorem dX6_takesSquare_75 : decode cX6_takesSquare 75 = .ok (.aload_n 0, 1) := by decide +kernel
theorem dX6_takesSquare_76 : decode cX6_takesSquare 76 = .ok (.getfield 29, 3) := by decide +kernel
theorem dX6_takesSquare_79 : decode cX6_takesSquare 79 = .ok (.if_icmp .lt 5, 3) := by decide +kernel
theorem dX6_takesSquare_82 : decode cX6_takesSquare 82 = .ok (.iconst 0, 1) := by decide +kernel
theorem dX6_takesSquare_83 : decode cX6_takesSquare 83 = .ok (.ireturn, 1) := by decide +kernel
theorem dX6_takesSquare_84 : decode cX6_takesSquare 84 = .ok (.aload_n 0, 1) := by decide +kernel
theorem dX6_takesSquare_85 : decode cX6_takesSquare 85 = .ok (.dup, 1) := by decide +kernel
theorem dX6_takesSquare_86 : decode cX6_takesSquare 86 = .ok (.getfield 32, 3) := by decide +kernel
theorem dX6_takesSquare_89 : decode cX6_takesSquare 89 = .ok (.iload_n 1, 1) := by decide +kernel
theorem dX6_takesSquare_90 : decode cX6_takesSquare 90 = .ok (.bipush 104, 2) := by decide +kernel
theorem dX6_takesSquare_92 : decode cX6_takesSquare 92 = .ok (.if_icmp .ne 7, 3) := by decide +kernel
theorem dX6_takesSquare_95 : decode cX6_takesSquare 95 = .ok (.iconst 1, 1) := by decide +kernel
theorem dX6_takesSquare_96 : decode cX6_takesSquare 96 = .ok (.goto 4, 3) := by decide +kernel
theorem dX6_takesSquare_99 : decode cX6_takesSquare 99 = .ok (.iconst 0, 1) := by decide +kernel
theorem dX6_takesSquare_100 : decode cX6_takesSquare 100 = .ok (.iadd, 1) := by decide +kernel
theorem dX6_takesSquare_101 : decode cX6_takesSquare 101 = .ok (.putfield 32, 3) := by decide +kernel
theorem dX6_takesSquare_104 : decode cX6_takesSquare 104 = .ok (.aload_n 0, 1) := by decide +kernel
theorem dX6_takesSquare_105 : decode cX6_takesSquare 105 = .ok (.dup, 1) := by decide +kernel
theorem dX6_takesSquare_106 : decode cX6_takesSquare 106 = .ok (.getfield 26, 3) := by decide +kernel
theorem dX6_takesSquare_109 : decode cX6_takesSquare 109 = .ok (.iconst 1, 1) := by decide +kernel
theorem dX6_takesSquare_110 : decode cX6_takesSquare 110 = .ok (.iadd, 1) := by decide +kernel
theorem dX6_takesSquare_111 : decode cX6_takesSquare 111 = .ok (.putfield 26, 3) := by decide +kernel
theorem dX6_takesSquare_114 : decode cX6_takesSquare 114 = .ok (.aload_n 0, 1) := by decide +kernel
theorem dX6_takesSquare_115 : decode cX6_takesSquare 115 = .ok (.iload_n 2, 1) := by decide +kernel
theorem dX6_takesSquare_116 : decode cX6_takesSquare 116 = .ok (.putfield 35, 3) := by decide +kernel
theorem dX6_takesSquare_119 : decode cX6_takesSquare 119 = .ok (.iconst 1, 1) := by decide +kernel
theorem dX6_takesSquare_120 : decode cX6_takesSquare 120 = .ok (.ireturn, 1) := by decide +kernel
theorem cw_X6_takesSquare : Cw yX6_takesSquare cX6_takesSquare 4 (some .boolean) 1 := ⟨aw_366, aw_20, ⟨by decide, by decide⟩, by decide +kernel, by decide⟩
theorem gf_6_32 {K : KT} {cc : ByteArray} {nL d pc : Nat} {ret : Option FieldType} {L : List (Option Value)} {st : List Value} {σ : Sg} (C : Cx K layC cc RX6 nL d ret)  (hd : decode cc pc = .ok (.getfield 32, 3)) (k : G K (pc + 3) L (.int (rI σ 1 5) :: st) (Wd K layC σ)) : G K pc L (.ref (kad K 1) :: st) (Wd K layC σ) := g_get C (o := 1) (ci := 6) (k := 5) hd rfl rfl rfl (by decide) (Or.inl aw_51) inA6 rfl k
theorem pf_6_32 {K : KT} {cc : ByteArray} {nL d pc : Nat} {ret : Option FieldType} {L : List (Option Value)} {st : List Value} {σ : Sg} (C : Cx K layC cc RX6 nL d ret)  {v : Int32}  (hd : decode cc pc = .ok (.putfield 32, 3)) (k : G K (pc + 3) L st (Wd K layC (wI σ 1 5 v))) : G K pc L (.int v :: .ref (kad K 1) :: st) (Wd K layC σ) := g_putI C (o := 1) (ci := 6) (k := 5) hd rfl rfl rfl (by decide) (Or.inl aw_51) inA6 tyX6_ok nmX6 rfl rfl rfl k
def fX6_takesSquare_b100 (x2 : Int32) (y0 : Int32) (y1 : Int32) (σ : Sg) : Option (Int32 × Sg) :=
  if isB x2 = true then (some ((1 : Int32), (wI (wI (wI σ 1 5 (y1 + y0)) 1 3 ((rI (wI σ 1 5 (y1 + y0)) 1 3) + (1 : Int32))) 1 6 x2))) else none
def fX6_takesSquare_b79 (x1 : Int32) (x2 : Int32) (y0 : Int32) (y1 : Int32) (σ : Sg) : Option (Int32 × Sg) :=
  if y1 < y0 then (if x1 = (104 : Int32) then (fX6_takesSquare_b100 x2 (1 : Int32) (rI σ 1 5) σ) else (fX6_takesSquare_b100 x2 (0 : Int32) (rI σ 1 5) σ)) else (some ((0 : Int32), σ))
def fX6_takesSquare_b53 (x1 : Int32) (x2 : Int32) (x3 : Int32) (σ : Sg) : Option (Int32 × Sg) :=
  if x3 = 0 then (if (rI σ 1 2) = 0 then (fX6_takesSquare_b79 x1 x2 (6 : Int32) (rI σ 1 3) σ) else (fX6_takesSquare_b79 x1 x2 (rI σ 1 4) (rI σ 1 3) σ)) else (some ((0 : Int32), σ))
def fX6_takesSquare_b36 (x1 : Int32) (x2 : Int32) (y0 : Int32) (σ : Sg) : Option (Int32 × Sg) :=
  if x2 = 0 then (if x1 = (35 : Int32) then (fX6_takesSquare_b53 x1 x2 y0 σ) else (if x1 = (104 : Int32) then (fX6_takesSquare_b53 x1 x2 y0 σ) else (some ((0 : Int32), σ)))) else (fX6_takesSquare_b53 x1 x2 y0 σ)
def fX6_takesSquare_b35 (x1 : Int32) (x2 : Int32) (σ : Sg) : Option (Int32 × Sg) :=
  fX6_takesSquare_b36 x1 x2 (0 : Int32) σ
def fX6_takesSquare_b17 (x1 : Int32) (y0 : Int32) (σ : Sg) : Option (Int32 × Sg) :=
  if x1 = (104 : Int32) then (if (rI σ 1 5) ≤ 0 then (fX6_takesSquare_b35 x1 y0 σ) else (fX6_takesSquare_b36 x1 y0 (1 : Int32) σ)) else (fX6_takesSquare_b35 x1 y0 σ)
def fX6_takesSquare_b16 (x1 : Int32) (σ : Sg) : Option (Int32 × Sg) :=
  fX6_takesSquare_b17 x1 (0 : Int32) σ
def fX6_takesSquare_b0 (x1 : Int32) (σ : Sg) : Option (Int32 × Sg) :=
  if x1 < (48 : Int32) then (fX6_takesSquare_b16 x1 σ) else (if (57 : Int32) < x1 then (fX6_takesSquare_b16 x1 σ) else (fX6_takesSquare_b17 x1 (1 : Int32) σ))
set_option maxRecDepth 4000 in
theorem bX6_takesSquare_b100 {K : KT} {x2 : Int32} {y0 : Int32} {y1 : Int32} {σ : Sg} {o : Int32 × Sg} (C : Cx K layC cX6_takesSquare RX6 4 (1) (some .boolean))  (hQ : Rk K layC (okI o)) (h : fX6_takesSquare_b100 x2 y0 y1 σ = some o) : G K 100 [some (.ref (kad K 1)), none, some (.int x2), none] [.int y0, .int y1, .ref (kad K 1)] (Wd K layC σ) := by
  unfold fX6_takesSquare_b100 at h
  refine g_iadd C.c dX6_takesSquare_100 ?_
  refine pf_6_32 C dX6_takesSquare_101 ?_
  refine g_aload_n C.c dX6_takesSquare_104 rfl (i := 0) rfl ?_
  refine g_dup C.c dX6_takesSquare_105 rfl ?_
  refine gf_6_26 C dX6_takesSquare_106 ?_
  refine g_iconst C.c dX6_takesSquare_109 (v := (1 : Int32)) (by decide) ?_
  refine g_iadd C.c dX6_takesSquare_110 ?_
  refine pf_6_26 C dX6_takesSquare_111 ?_
  refine g_aload_n C.c dX6_takesSquare_114 rfl (i := 0) rfl ?_
  refine g_iload_n C.c dX6_takesSquare_115 rfl (i := 2) rfl ?_
  obtain ⟨c1, h⟩ := chk h
  refine pf_6_35 C c1 dX6_takesSquare_116 ?_
  refine g_iconst C.c dX6_takesSquare_119 (v := (1 : Int32)) (by decide) ?_
  obtain rfl := Option.some.inj h
  exact g_iret C hQ dX6_takesSquare_120 rfl ⟨rfl, rfl⟩
set_option maxRecDepth 4000 in
theorem bX6_takesSquare_b79 {K : KT} {x1 : Int32} {x2 : Int32} {y0 : Int32} {y1 : Int32} {σ : Sg} {o : Int32 × Sg} (C : Cx K layC cX6_takesSquare RX6 4 (1) (some .boolean))  (hQ : Rk K layC (okI o)) (h : fX6_takesSquare_b79 x1 x2 y0 y1 σ = some o) : G K 79 [some (.ref (kad K 1)), some (.int x1), some (.int x2), none] [.int y0, .int y1] (Wd K layC σ) := by
  unfold fX6_takesSquare_b79 at h
  refine g_icmp_lt C.c (tgt := 84) dX6_takesSquare_79 (by decide) (fun c => ?_) (fun c => ?_)
  · replace h := ite_t c h
    refine g_aload_n C.c dX6_takesSquare_84 rfl (i := 0) rfl ?_
    refine g_dup C.c dX6_takesSquare_85 rfl ?_
    refine gf_6_32 C dX6_takesSquare_86 ?_
    refine g_iload_n C.c dX6_takesSquare_89 rfl (i := 1) rfl ?_
    refine g_bipush C.c dX6_takesSquare_90 (v := (104 : Int32)) (by decide) ?_
    refine g_icmp_ne C.c (tgt := 99) dX6_takesSquare_92 (by decide) (fun c => ?_) (fun c => ?_)
    · replace h := ite_f c h
      refine g_iconst C.c dX6_takesSquare_99 (v := (0 : Int32)) (by decide) ?_
      exact g_mask [true, false, true, false] rfl (bX6_takesSquare_b100 C hQ h)
    · replace h := ite_t c h
      refine g_iconst C.c dX6_takesSquare_95 (v := (1 : Int32)) (by decide) ?_
      refine g_goto C.c (tgt := 100) dX6_takesSquare_96 (by decide) ?_
      exact g_mask [true, false, true, false] rfl (bX6_takesSquare_b100 C hQ h)
  · replace h := ite_f c h
    refine g_iconst C.c dX6_takesSquare_82 (v := (0 : Int32)) (by decide) ?_
    obtain rfl := Option.some.inj h
    exact g_iret C hQ dX6_takesSquare_83 rfl ⟨rfl, rfl⟩
set_option maxRecDepth 4000 in
theorem bX6_takesSquare_b53 {K : KT} {x1 : Int32} {x2 : Int32} {x3 : Int32} {σ : Sg} {o : Int32 × Sg} (C : Cx K layC cX6_takesSquare RX6 4 (1) (some .boolean))  (hQ : Rk K layC (okI o)) (h : fX6_takesSquare_b53 x1 x2 x3 σ = some o) : G K 53 [some (.ref (kad K 1)), some (.int x1), some (.int x2), some (.int x3)] [] (Wd K layC σ) := by
  unfold fX6_takesSquare_b53 at h
  refine g_iload_n C.c dX6_takesSquare_53 rfl (i := 3) rfl ?_
  refine g_if_eq C.c (tgt := 59) dX6_takesSquare_54 (by decide) (fun c => ?_) (fun c => ?_)
  · replace h := ite_t c h
    refine g_aload_n C.c dX6_takesSquare_59 rfl (i := 0) rfl ?_
    refine gf_6_26 C dX6_takesSquare_60 ?_
    refine g_aload_n C.c dX6_takesSquare_63 rfl (i := 0) rfl ?_
    refine gf_6_23 C dX6_takesSquare_64 ?_
    refine g_if_ne C.c (tgt := 75) dX6_takesSquare_67 (by decide) (fun c => ?_) (fun c => ?_)
    · replace h := ite_f c h
      refine g_aload_n C.c dX6_takesSquare_75 rfl (i := 0) rfl ?_
      refine gf_6_29 C dX6_takesSquare_76 ?_
      exact g_mask [true, true, true, false] rfl (bX6_takesSquare_b79 C hQ h)
    · replace h := ite_t c h
      refine g_bipush C.c dX6_takesSquare_70 (v := (6 : Int32)) (by decide) ?_
      refine g_goto C.c (tgt := 79) dX6_takesSquare_72 (by decide) ?_
      exact g_mask [true, true, true, false] rfl (bX6_takesSquare_b79 C hQ h)
  · replace h := ite_f c h
    refine g_iconst C.c dX6_takesSquare_57 (v := (0 : Int32)) (by decide) ?_
    obtain rfl := Option.some.inj h
    exact g_iret C hQ dX6_takesSquare_58 rfl ⟨rfl, rfl⟩
set_option maxRecDepth 4000 in
theorem bX6_takesSquare_b36 {K : KT} {x1 : Int32} {x2 : Int32} {y0 : Int32} {σ : Sg} {o : Int32 × Sg} (C : Cx K layC cX6_takesSquare RX6 4 (1) (some .boolean))  (hQ : Rk K layC (okI o)) (h : fX6_takesSquare_b36 x1 x2 y0 σ = some o) : G K 36 [some (.ref (kad K 1)), some (.int x1), some (.int x2), none] [.int y0] (Wd K layC σ) := by
  unfold fX6_takesSquare_b36 at h
  refine g_istore_n C.c (i := 3) (L' := [some (.ref (kad K 1)), some (.int x1), some (.int x2), some (.int y0)]) dX6_takesSquare_36 rfl (Nat.le_of_ble_eq_true rfl) rfl ?_
  refine g_iload_n C.c dX6_takesSquare_37 rfl (i := 2) rfl ?_
  refine g_if_ne C.c (tgt := 53) dX6_takesSquare_38 (by decide) (fun c => ?_) (fun c => ?_)
  · replace h := ite_f c h
    exact g_mask [true, true, true, true] rfl (bX6_takesSquare_b53 C hQ h)
  · replace h := ite_t c h
    refine g_iload_n C.c dX6_takesSquare_41 rfl (i := 1) rfl ?_
    refine g_bipush C.c dX6_takesSquare_42 (v := (35 : Int32)) (by decide) ?_
    refine g_icmp_eq C.c (tgt := 53) dX6_takesSquare_44 (by decide) (fun c => ?_) (fun c => ?_)
    · replace h := ite_t c h
      exact g_mask [true, true, true, true] rfl (bX6_takesSquare_b53 C hQ h)
    · replace h := ite_f c h
      refine g_iload_n C.c dX6_takesSquare_47 rfl (i := 1) rfl ?_
      refine g_bipush C.c dX6_takesSquare_48 (v := (104 : Int32)) (by decide) ?_
      refine g_icmp_ne C.c (tgt := 57) dX6_takesSquare_50 (by decide) (fun c => ?_) (fun c => ?_)
      · replace h := ite_f c h
        refine g_iconst C.c dX6_takesSquare_57 (v := (0 : Int32)) (by decide) ?_
        obtain rfl := Option.some.inj h
        exact g_iret C hQ dX6_takesSquare_58 rfl ⟨rfl, rfl⟩
      · replace h := ite_t c h
        exact g_mask [true, true, true, true] rfl (bX6_takesSquare_b53 C hQ h)
set_option maxRecDepth 4000 in
theorem bX6_takesSquare_b35 {K : KT} {x1 : Int32} {x2 : Int32} {σ : Sg} {o : Int32 × Sg} (C : Cx K layC cX6_takesSquare RX6 4 (1) (some .boolean))  (hQ : Rk K layC (okI o)) (h : fX6_takesSquare_b35 x1 x2 σ = some o) : G K 35 [some (.ref (kad K 1)), some (.int x1), some (.int x2), none] [] (Wd K layC σ) := by
  unfold fX6_takesSquare_b35 at h
  refine g_iconst C.c dX6_takesSquare_35 (v := (0 : Int32)) (by decide) ?_
  exact g_mask [true, true, true, false] rfl (bX6_takesSquare_b36 C hQ h)
set_option maxRecDepth 4000 in
theorem bX6_takesSquare_b17 {K : KT} {x1 : Int32} {y0 : Int32} {σ : Sg} {o : Int32 × Sg} (C : Cx K layC cX6_takesSquare RX6 4 (1) (some .boolean))  (hQ : Rk K layC (okI o)) (h : fX6_takesSquare_b17 x1 y0 σ = some o) : G K 17 [some (.ref (kad K 1)), some (.int x1), none, none] [.int y0] (Wd K layC σ) := by
  unfold fX6_takesSquare_b17 at h
  refine g_istore_n C.c (i := 2) (L' := [some (.ref (kad K 1)), some (.int x1), some (.int y0), none]) dX6_takesSquare_17 rfl (Nat.le_of_ble_eq_true rfl) rfl ?_
  refine g_iload_n C.c dX6_takesSquare_18 rfl (i := 1) rfl ?_
  refine g_bipush C.c dX6_takesSquare_19 (v := (104 : Int32)) (by decide) ?_
  refine g_icmp_ne C.c (tgt := 35) dX6_takesSquare_21 (by decide) (fun c => ?_) (fun c => ?_)
  · replace h := ite_f c h
    exact g_mask [true, true, true, false] rfl (bX6_takesSquare_b35 C hQ h)
  · replace h := ite_t c h
    refine g_aload_n C.c dX6_takesSquare_24 rfl (i := 0) rfl ?_
    refine gf_6_32 C dX6_takesSquare_25 ?_
    refine g_if_le C.c (tgt := 35) dX6_takesSquare_28 (by decide) (fun c => ?_) (fun c => ?_)
    · replace h := ite_t c h
      exact g_mask [true, true, true, false] rfl (bX6_takesSquare_b35 C hQ h)
    · replace h := ite_f c h
      refine g_iconst C.c dX6_takesSquare_31 (v := (1 : Int32)) (by decide) ?_
      refine g_goto C.c (tgt := 36) dX6_takesSquare_32 (by decide) ?_
      exact g_mask [true, true, true, false] rfl (bX6_takesSquare_b36 C hQ h)
set_option maxRecDepth 4000 in
theorem bX6_takesSquare_b16 {K : KT} {x1 : Int32} {σ : Sg} {o : Int32 × Sg} (C : Cx K layC cX6_takesSquare RX6 4 (1) (some .boolean))  (hQ : Rk K layC (okI o)) (h : fX6_takesSquare_b16 x1 σ = some o) : G K 16 [some (.ref (kad K 1)), some (.int x1), none, none] [] (Wd K layC σ) := by
  unfold fX6_takesSquare_b16 at h
  refine g_iconst C.c dX6_takesSquare_16 (v := (0 : Int32)) (by decide) ?_
  exact g_mask [true, true, false, false] rfl (bX6_takesSquare_b17 C hQ h)
set_option maxRecDepth 4000 in
theorem bX6_takesSquare_b0 {K : KT} {x1 : Int32} {σ : Sg} {o : Int32 × Sg} (C : Cx K layC cX6_takesSquare RX6 4 (1) (some .boolean))  (hQ : Rk K layC (okI o)) (h : fX6_takesSquare_b0 x1 σ = some o) : G K 0 [some (.ref (kad K 1)), some (.int x1), none, none] [] (Wd K layC σ) := by
  unfold fX6_takesSquare_b0 at h
  refine g_iload_n C.c dX6_takesSquare_0 rfl (i := 1) rfl ?_
  refine g_bipush C.c dX6_takesSquare_1 (v := (48 : Int32)) (by decide) ?_
  refine g_icmp_lt C.c (tgt := 16) dX6_takesSquare_3 (by decide) (fun c => ?_) (fun c => ?_)
  · replace h := ite_t c h
    exact g_mask [true, true, false, false] rfl (bX6_takesSquare_b16 C hQ h)
  · replace h := ite_f c h
    refine g_iload_n C.c dX6_takesSquare_6 rfl (i := 1) rfl ?_
    refine g_bipush C.c dX6_takesSquare_7 (v := (57 : Int32)) (by decide) ?_
    refine g_icmp_gt C.c (tgt := 16) dX6_takesSquare_9 (by decide) (fun c => ?_) (fun c => ?_)
    · replace h := ite_t c h
      exact g_mask [true, true, false, false] rfl (bX6_takesSquare_b16 C hQ h)
    · replace h := ite_f c h
      refine g_iconst C.c dX6_takesSquare_12 (v := (1 : Int32)) (by decide) ?_
      refine g_goto C.c (tgt := 17) dX6_takesSquare_13 (by decide) ?_
      exact g_mask [true, true, false, false] rfl (bX6_takesSquare_b17 C hQ h)
def fX6_takesSquare (a0 : Int32) (σ : Sg) : Option (Int32 × Sg) := fX6_takesSquare_b0 a0 σ
theorem ct_X6_takesSquare {a0 : Int32} {σ : Sg} {p : Int32 × Sg} (h : fX6_takesSquare a0 σ = some p) : Ct layC yX6_takesSquare cX6_takesSquare 4 (some .boolean) 1 (fun ad => [.ref (ad 1), .int a0]) σ (okI p) :=
 ct_of (L0 := fun ad => [some (.ref (ad 1)), some (.int a0), none, none]) (by decide) (fun _ => Nat.le_of_ble_eq_true rfl) (fun _ => rfl) (fun K C hQ => g_mask [true, true, false, false] rfl (bX6_takesSquare_b0 C hQ h))
-- X6_takes
theorem dX6_takes_0 : decode cX6_takes 0 = .ok (.iload_n 1, 1) := by decide +kernel
theorem dX6_takes_1 : decode cX6_takes 1 = .ok (.bipush 47, 2) := by decide +kernel
theorem dX6_takes_3 : decode cX6_takes 3 = .ok (.if_icmp .ne 8, 3) := by decide +kernel
theorem dX6_takes_6 : decode cX6_takes 6 = .ok (.aload_n 0, 1) := by decide +kernel
theorem dX6_takes_7 : decode cX6_takes 7 = .ok (.invokevirtual 47, 3) := by decide +kernel
theorem dX6_takes_10 : decode cX6_takes 10 = .ok (.ireturn, 1) := by decide +kernel
theorem dX6_takes_11 : decode cX6_takes 11 = .ok (.iload_n 1, 1) := by decide +kernel
theorem dX6_takes_12 : decode cX6_takes 12 = .ok (.invokestatic 51, 3) := by decide +kernel
theorem dX6_takes_15 : decode cX6_takes 15 = .ok (.iconst (-1), 1) := by decide +kernel
theorem dX6_takes_16 : decode cX6_takes 16 = .ok (.if_icmp .eq 15, 3) := by decide +kernel
theorem dX6_takes_19 : decode cX6_takes 19 = .ok (.aload_n 0, 1) := by decide +kernel
theorem dX6_takes_20 : decode cX6_takes 20 = .ok (.getfield 35, 3) := by decide +kernel
theorem dX6_takes_23 : decode cX6_takes 23 = .ok (.istore_n 2, 1) := by decide +kernel
theorem dX6_takes_24 : decode cX6_takes 24 = .ok (.aload_n 0, 1) := by decide +kernel
theorem dX6_takes_25 : decode cX6_takes 25 = .ok (.iconst 0, 1) := by decide +kernel
theorem dX6_takes_26 : decode cX6_takes 26 = .ok (.putfield 35, 3) := by decide +kernel
theorem dX6_takes_29 : decode cX6_takes 29 = .ok (.iload_n 2, 1) := by decide +kernel
theorem dX6_takes_30 : decode cX6_takes 30 = .ok (.ireturn, 1) := by decide +kernel
theorem dX6_takes_31 : decode cX6_takes 31 = .ok (.aload_n 0, 1) := by decide +kernel
theorem dX6_takes_32 : decode cX6_takes 32 = .ok (.iload_n 1, 1) := by decide +kernel
theorem dX6_takes_33 : decode cX6_takes 33 = .ok (.invokevirtual 57, 3) := by decide +kernel
theorem dX6_takes_36 : decode cX6_takes 36 = .ok (.ireturn, 1) := by decide +kernel
theorem cw_X6_takes : Cw yX6_takes cX6_takes 3 (some .boolean) 1 := ⟨aw_355, aw_20, ⟨by decide, by decide⟩, by decide +kernel, by decide⟩
theorem kc_6_51 {K : KT} {cc : ByteArray} {nL d pc : Nat} {ret : Option FieldType} {L : List (Option Value)} {st : List Value} {σ : Sg} (C : Cx K layC cc RX6 nL d ret)  {a0 : Int32}  {p : Int32 × Sg} (hd : decode cc pc = .ok (.invokestatic 51, 3)) (e : fX7_wayOf a0 σ = some p) (hdd : 1 + 1 ≤ d) (hLn : L.length = nL) (hr : (st.map fun v => v.category).sum ≤ 8) (k : G K (pc + 3) L (.int p.1 :: st) (Wd K layC p.2)) : G K pc L (.int a0 :: st) (Wd K layC σ) :=
  g_callS C (As := [.int a0]) (rest := st) hd (ct_X7_wayOf e) cw_X7_wayOf (Or.inl aw_360) aw_361 rfl rfl rfl hdd hLn hr (fun v τ q => by obtain ⟨rfl, rfl⟩ := q; exact k)
theorem kc_6_57 {K : KT} {cc : ByteArray} {nL d pc : Nat} {ret : Option FieldType} {L : List (Option Value)} {st : List Value} {σ : Sg} (C : Cx K layC cc RX6 nL d ret)  {a0 : Int32}  {p : Int32 × Sg} (hd : decode cc pc = .ok (.invokevirtual 57, 3)) (e : fX6_takesSquare a0 σ = some p) (hdd : 1 + 1 ≤ d) (hLn : L.length = nL) (hr : (st.map fun v => v.category).sum ≤ 8) (k : G K (pc + 3) L (.int p.1 :: st) (Wd K layC p.2)) : G K pc L (.int a0 :: .ref (kad K 1) :: st) (Wd K layC σ) :=
  g_callV C (As := [.int a0]) (rest := st) (o := 1) (ci := 6) hd (ct_X6_takesSquare e) cw_X6_takesSquare (Or.inl aw_363) aw_365 aw_2 rfl rfl rfl hdd hLn rfl rfl hr (fun v τ q => by obtain ⟨rfl, rfl⟩ := q; exact k)
theorem gf_6_35 {K : KT} {cc : ByteArray} {nL d pc : Nat} {ret : Option FieldType} {L : List (Option Value)} {st : List Value} {σ : Sg} (C : Cx K layC cc RX6 nL d ret)  (hd : decode cc pc = .ok (.getfield 35, 3)) (k : G K (pc + 3) L (.int (rI σ 1 6) :: st) (Wd K layC σ)) : G K pc L (.ref (kad K 1) :: st) (Wd K layC σ) := g_get C (o := 1) (ci := 6) (k := 6) hd rfl rfl rfl (by decide) (Or.inl aw_52) inA6 rfl k
theorem kc_6_47 {K : KT} {cc : ByteArray} {nL d pc : Nat} {ret : Option FieldType} {L : List (Option Value)} {st : List Value} {σ : Sg} (C : Cx K layC cc RX6 nL d ret)    {p : Int32 × Sg} (hd : decode cc pc = .ok (.invokevirtual 47, 3)) (e : fX6_takesRowEnd σ = some p) (hdd : 1 + 1 ≤ d) (hLn : L.length = nL) (hr : (st.map fun v => v.category).sum ≤ 8) (k : G K (pc + 3) L (.int p.1 :: st) (Wd K layC p.2)) : G K pc L (.ref (kad K 1) :: st) (Wd K layC σ) :=
  g_callV C (As := []) (rest := st) (o := 1) (ci := 6) hd (ct_X6_takesRowEnd e) cw_X6_takesRowEnd (Or.inl aw_356) aw_358 aw_1 rfl rfl rfl hdd hLn rfl rfl hr (fun v τ q => by obtain ⟨rfl, rfl⟩ := q; exact k)
def fX6_takes_b0 (x1 : Int32) (σ : Sg) : Option (Int32 × Sg) :=
  if x1 = (47 : Int32) then (Option.bind (fX6_takesRowEnd σ) fun p7 => (if isB p7.1 = true then (some (p7.1, p7.2)) else none)) else (Option.bind (fX7_wayOf x1 σ) fun p1 => (if p1.1 = (-1 : Int32) then (Option.bind (fX6_takesSquare x1 p1.2) fun p3 => (if isB p3.1 = true then (some (p3.1, p3.2)) else none)) else (if isB (rI p1.2 1 6) = true then (some ((rI p1.2 1 6), (wI p1.2 1 6 (0 : Int32)))) else none)))
set_option maxRecDepth 4000 in
theorem bX6_takes_b0 {K : KT} {x1 : Int32} {σ : Sg} {o : Int32 × Sg} (C : Cx K layC cX6_takes RX6 3 (2) (some .boolean))  (hQ : Rk K layC (okI o)) (h : fX6_takes_b0 x1 σ = some o) : G K 0 [some (.ref (kad K 1)), some (.int x1), none] [] (Wd K layC σ) := by
  unfold fX6_takes_b0 at h
  refine g_iload_n C.c dX6_takes_0 rfl (i := 1) rfl ?_
  refine g_bipush C.c dX6_takes_1 (v := (47 : Int32)) (by decide) ?_
  refine g_icmp_ne C.c (tgt := 11) dX6_takes_3 (by decide) (fun c => ?_) (fun c => ?_)
  · replace h := ite_f c h
    refine g_iload_n C.c dX6_takes_11 rfl (i := 1) rfl ?_
    obtain ⟨p1, e2, h⟩ := Option.bind_eq_some_iff.mp h
    refine kc_6_51 C dX6_takes_12 e2 (Nat.le_of_ble_eq_true rfl) rfl (Nat.le_of_ble_eq_true rfl) ?_
    refine g_iconst C.c dX6_takes_15 (v := (-1 : Int32)) (by decide) ?_
    refine g_icmp_eq C.c (tgt := 31) dX6_takes_16 (by decide) (fun c => ?_) (fun c => ?_)
    · replace h := ite_t c h
      refine g_aload_n C.c dX6_takes_31 rfl (i := 0) rfl ?_
      refine g_iload_n C.c dX6_takes_32 rfl (i := 1) rfl ?_
      obtain ⟨p3, e4, h⟩ := Option.bind_eq_some_iff.mp h
      refine kc_6_57 C dX6_takes_33 e4 (Nat.le_of_ble_eq_true rfl) rfl (Nat.le_of_ble_eq_true rfl) ?_
      obtain ⟨c5, h⟩ := chk h
      obtain rfl := Option.some.inj h
      exact g_iret C hQ dX6_takes_36 (isB_n c5) ⟨rfl, rfl⟩
    · replace h := ite_f c h
      refine g_aload_n C.c dX6_takes_19 rfl (i := 0) rfl ?_
      refine gf_6_35 C dX6_takes_20 ?_
      refine g_istore_n C.c (i := 2) (L' := [some (.ref (kad K 1)), some (.int x1), some (.int (rI p1.2 1 6))]) dX6_takes_23 rfl (Nat.le_of_ble_eq_true rfl) rfl ?_
      refine g_aload_n C.c dX6_takes_24 rfl (i := 0) rfl ?_
      refine g_iconst C.c dX6_takes_25 (v := (0 : Int32)) (by decide) ?_
      refine pf_6_35 C (by decide) dX6_takes_26 ?_
      refine g_iload_n C.c dX6_takes_29 rfl (i := 2) rfl ?_
      obtain ⟨c6, h⟩ := chk h
      obtain rfl := Option.some.inj h
      exact g_iret C hQ dX6_takes_30 (isB_n c6) ⟨rfl, rfl⟩
  · replace h := ite_t c h
    refine g_aload_n C.c dX6_takes_6 rfl (i := 0) rfl ?_
    obtain ⟨p7, e8, h⟩ := Option.bind_eq_some_iff.mp h
    refine kc_6_47 C dX6_takes_7 e8 (Nat.le_of_ble_eq_true rfl) rfl (Nat.le_of_ble_eq_true rfl) ?_
    obtain ⟨c9, h⟩ := chk h
    obtain rfl := Option.some.inj h
    exact g_iret C hQ dX6_takes_10 (isB_n c9) ⟨rfl, rfl⟩
def fX6_takes (a0 : Int32) (σ : Sg) : Option (Int32 × Sg) := fX6_takes_b0 a0 σ
theorem ct_X6_takes {a0 : Int32} {σ : Sg} {p : Int32 × Sg} (h : fX6_takes a0 σ = some p) : Ct layC yX6_takes cX6_takes 3 (some .boolean) 2 (fun ad => [.ref (ad 1), .int a0]) σ (okI p) :=
 ct_of (L0 := fun ad => [some (.ref (ad 1)), some (.int a0), none]) (by decide) (fun _ => Nat.le_of_ble_eq_true rfl) (fun _ => rfl) (fun K C hQ => g_mask [true, true, false] rfl (bX6_takes_b0 C hQ h))
-- X6_firstWrong
theorem dX6_firstWrong_0 : decode cX6_firstWrong 0 = .ok (.aload_n 0, 1) := by decide +kernel
theorem dX6_firstWrong_1 : decode cX6_firstWrong 1 = .ok (.iconst 0, 1) := by decide +kernel
theorem dX6_firstWrong_2 : decode cX6_firstWrong 2 = .ok (.putfield 23, 3) := by decide +kernel
theorem dX6_firstWrong_5 : decode cX6_firstWrong 5 = .ok (.aload_n 0, 1) := by decide +kernel
theorem dX6_firstWrong_6 : decode cX6_firstWrong 6 = .ok (.iconst 0, 1) := by decide +kernel
theorem dX6_firstWrong_7 : decode cX6_firstWrong 7 = .ok (.putfield 26, 3) := by decide +kernel
theorem dX6_firstWrong_10 : decode cX6_firstWrong 10 = .ok (.aload_n 0, 1) := by decide +kernel
theorem dX6_firstWrong_11 : decode cX6_firstWrong 11 = .ok (.iconst 0, 1) := by decide +kernel
theorem dX6_firstWrong_12 : decode cX6_firstWrong 12 = .ok (.putfield 29, 3) := by decide +kernel
theorem dX6_firstWrong_15 : decode cX6_firstWrong 15 = .ok (.aload_n 0, 1) := by decide +kernel
theorem dX6_firstWrong_16 : decode cX6_firstWrong 16 = .ok (.iconst 0, 1) := by decide +kernel
theorem dX6_firstWrong_17 : decode cX6_firstWrong 17 = .ok (.putfield 32, 3) := by decide +kernel
theorem dX6_firstWrong_20 : decode cX6_firstWrong 20 = .ok (.aload_n 0, 1) := by decide +kernel
theorem dX6_firstWrong_21 : decode cX6_firstWrong 21 = .ok (.iconst 0, 1) := by decide +kernel
theorem dX6_firstWrong_22 : decode cX6_firstWrong 22 = .ok (.putfield 35, 3) := by decide +kernel
theorem dX6_firstWrong_25 : decode cX6_firstWrong 25 = .ok (.iconst 0, 1) := by decide +kernel
theorem dX6_firstWrong_26 : decode cX6_firstWrong 26 = .ok (.istore_n 1, 1) := by decide +kernel
theorem dX6_firstWrong_27 : decode cX6_firstWrong 27 = .ok (.iload_n 1, 1) := by decide +kernel
theorem dX6_firstWrong_28 : decode cX6_firstWrong 28 = .ok (.aload_n 0, 1) := by decide +kernel
theorem dX6_firstWrong_29 : decode cX6_firstWrong 29 = .ok (.getfield 19, 3) := by decide +kernel
theorem dX6_firstWrong_32 : decode cX6_firstWrong 32 = .ok (.if_icmp .ge 24, 3) := by decide +kernel
theorem dX6_firstWrong_35 : decode cX6_firstWrong 35 = .ok (.aload_n 0, 1) := by decide +kernel
theorem dX6_firstWrong_36 : decode cX6_firstWrong 36 = .ok (.aload_n 0, 1) := by decide +kernel
theorem dX6_firstWrong_37 : decode cX6_firstWrong 37 = .ok (.getfield 11, 3) := by decide +kernel
theorem dX6_firstWrong_40 : decode cX6_firstWrong 40 = .ok (.iload_n 1, 1) := by decide +kernel
theorem dX6_firstWrong_41 : decode cX6_firstWrong 41 = .ok (.iaload, 1) := by decide +kernel
theorem dX6_firstWrong_42 : decode cX6_firstWrong 42 = .ok (.invokevirtual 39, 3) := by decide +kernel
theorem dX6_firstWrong_45 : decode cX6_firstWrong 45 = .ok (.ifCond .ne 5, 3) := by decide +kernel
theorem dX6_firstWrong_48 : decode cX6_firstWrong 48 = .ok (.iload_n 1, 1) := by decide +kernel
theorem dX6_firstWrong_49 : decode cX6_firstWrong 49 = .ok (.ireturn, 1) := by decide +kernel
theorem dX6_firstWrong_50 : decode cX6_firstWrong 50 = .ok (.iinc 1 1, 3) := by decide +kernel
theorem dX6_firstWrong_53 : decode cX6_firstWrong 53 = .ok (.goto (-26), 3) := by decide +kernel
theorem dX6_firstWrong_56 : decode cX6_firstWrong 56 = .ok (.aload_n 0, 1) := by decide +kernel
theorem dX6_firstWrong_57 : decode cX6_firstWrong 57 = .ok (.getfield 19, 3) := by decide +kernel
theorem dX6_firstWrong_60 : decode cX6_firstWrong 60 = .ok (.ireturn, 1) := by decide +kernel
theorem cw_X6_firstWrong : Cw yX6_firstWrong cX6_firstWrong 2 (some .int) 0 := ⟨aw_351, aw_20, ⟨by decide, by decide⟩, by decide +kernel, by decide⟩
theorem kc_6_39 {K : KT} {cc : ByteArray} {nL d pc : Nat} {ret : Option FieldType} {L : List (Option Value)} {st : List Value} {σ : Sg} (C : Cx K layC cc RX6 nL d ret)  {a0 : Int32}  {p : Int32 × Sg} (hd : decode cc pc = .ok (.invokevirtual 39, 3)) (e : fX6_takes a0 σ = some p) (hdd : 2 + 1 ≤ d) (hLn : L.length = nL) (hr : (st.map fun v => v.category).sum ≤ 8) (k : G K (pc + 3) L (.int p.1 :: st) (Wd K layC p.2)) : G K pc L (.int a0 :: .ref (kad K 1) :: st) (Wd K layC σ) :=
  g_callV C (As := [.int a0]) (rest := st) (o := 1) (ci := 6) hd (ct_X6_takes e) cw_X6_takes (Or.inl aw_352) aw_354 aw_0 rfl rfl rfl hdd hLn rfl rfl hr (fun v τ q => by obtain ⟨rfl, rfl⟩ := q; exact k)
def fX6_firstWrong_b27 (x1 : Int32) (σ : Sg) : Option ((Int32 × Sg) ⊕ (((Int32 × Sg) ⊕ (Sg)))) :=
  if (rI σ 1 1) ≤ x1 then (some (.inr (.inr σ))) else (if inb x1 64 = true then (Option.bind (fX6_takes (rI σ 2 (x1).toNatClampNeg) σ) fun p2 => (if p2.1 = 0 then (some (.inr (.inl (x1, p2.2)))) else (some (.inl ((x1 + (1 : Int32)), p2.2))))) else none)
def fX6_firstWrong_b0  (σ : Sg) : Option (Int32 × Sg) :=
  Option.bind (lp (fun s => fX6_firstWrong_b27 s.1 s.2) FU ((0 : Int32), (wI (wI (wI (wI (wI σ 1 2 (0 : Int32)) 1 3 (0 : Int32)) 1 4 (0 : Int32)) 1 5 (0 : Int32)) 1 6 (0 : Int32)))) (el (fun t4 => some (t4.1, t4.2)) (fun t4 => some ((rI t4 1 1), t4)))
set_option maxRecDepth 4000 in
theorem bX6_firstWrong_b27 {K : KT} {x1 : Int32} {σ : Sg} {o : (Int32 × Sg) ⊕ (((Int32 × Sg) ⊕ (Sg)))} (C : Cx K layC cX6_firstWrong RX6 2 (3) (some .int))  (hI : ∀ s' : Int32 × Sg, o = .inl s' → G K 27 [some (.ref (kad K 1)), some (.int s'.1)] [] (Wd K layC s'.2)) (hE0 : ∀ t : Int32 × Sg, o = .inr (.inl t) → G K 48 [none, some (.int t.1)] [] (Wd K layC t.2)) (hE1 : ∀ t : Sg, o = .inr (.inr t) → G K 56 [some (.ref (kad K 1)), none] [] (Wd K layC t)) (h : fX6_firstWrong_b27 x1 σ = some o) : G K 27 [some (.ref (kad K 1)), some (.int x1)] [] (Wd K layC σ) := by
  unfold fX6_firstWrong_b27 at h
  refine g_iload_n C.c dX6_firstWrong_27 rfl (i := 1) rfl ?_
  refine g_aload_n C.c dX6_firstWrong_28 rfl (i := 0) rfl ?_
  refine gf_6_19 C dX6_firstWrong_29 ?_
  refine g_icmp_ge C.c (tgt := 56) dX6_firstWrong_32 (by decide) (fun c => ?_) (fun c => ?_)
  · replace h := ite_t c h
    have g9 := hE1 _ (Option.some.inj h).symm
    exact g_mask [true, false] rfl g9
  · replace h := ite_f c h
    refine g_aload_n C.c dX6_firstWrong_35 rfl (i := 0) rfl ?_
    refine g_aload_n C.c dX6_firstWrong_36 rfl (i := 0) rfl ?_
    refine gf_6_11 C dX6_firstWrong_37 ?_
    refine g_iload_n C.c dX6_firstWrong_40 rfl (i := 1) rfl ?_
    obtain ⟨c1, h⟩ := chk h
    refine g_iald C dX6_firstWrong_41 rfl c1 ?_
    obtain ⟨p2, e3, h⟩ := Option.bind_eq_some_iff.mp h
    refine kc_6_39 C dX6_firstWrong_42 e3 (Nat.le_of_ble_eq_true rfl) rfl (Nat.le_of_ble_eq_true rfl) ?_
    refine g_if_ne C.c (tgt := 50) dX6_firstWrong_45 (by decide) (fun c => ?_) (fun c => ?_)
    · replace h := ite_f c h
      refine g_iinc C.c (i := 1) (y := (1 : Int32)) (L' := [some (.ref (kad K 1)), some (.int (x1 + (1 : Int32)))]) dX6_firstWrong_50 rfl (by decide) (Nat.le_of_ble_eq_true rfl) rfl ?_
      refine g_goto C.c (tgt := 27) dX6_firstWrong_53 (by decide) ?_
      have g9 := hI _ (Option.some.inj h).symm
      exact g_mask [true, true] rfl g9
    · replace h := ite_t c h
      have g9 := hE0 _ (Option.some.inj h).symm
      exact g_mask [false, true] rfl g9
set_option maxRecDepth 4000 in
theorem bX6_firstWrong_b0 {K : KT}  {σ : Sg} {o : Int32 × Sg} (C : Cx K layC cX6_firstWrong RX6 2 (3) (some .int))  (hQ : Rk K layC (okI o)) (h : fX6_firstWrong_b0  σ = some o) : G K 0 [some (.ref (kad K 1)), none] [] (Wd K layC σ) := by
  unfold fX6_firstWrong_b0 at h
  refine g_aload_n C.c dX6_firstWrong_0 rfl (i := 0) rfl ?_
  refine g_iconst C.c dX6_firstWrong_1 (v := (0 : Int32)) (by decide) ?_
  refine pf_6_23 C dX6_firstWrong_2 ?_
  refine g_aload_n C.c dX6_firstWrong_5 rfl (i := 0) rfl ?_
  refine g_iconst C.c dX6_firstWrong_6 (v := (0 : Int32)) (by decide) ?_
  refine pf_6_26 C dX6_firstWrong_7 ?_
  refine g_aload_n C.c dX6_firstWrong_10 rfl (i := 0) rfl ?_
  refine g_iconst C.c dX6_firstWrong_11 (v := (0 : Int32)) (by decide) ?_
  refine pf_6_29 C dX6_firstWrong_12 ?_
  refine g_aload_n C.c dX6_firstWrong_15 rfl (i := 0) rfl ?_
  refine g_iconst C.c dX6_firstWrong_16 (v := (0 : Int32)) (by decide) ?_
  refine pf_6_32 C dX6_firstWrong_17 ?_
  refine g_aload_n C.c dX6_firstWrong_20 rfl (i := 0) rfl ?_
  refine g_iconst C.c dX6_firstWrong_21 (v := (0 : Int32)) (by decide) ?_
  refine pf_6_35 C (by decide) dX6_firstWrong_22 ?_
  refine g_iconst C.c dX6_firstWrong_25 (v := (0 : Int32)) (by decide) ?_
  refine g_istore_n C.c (i := 1) (L' := [some (.ref (kad K 1)), some (.int (0 : Int32))]) dX6_firstWrong_26 rfl (Nat.le_of_ble_eq_true rfl) rfl ?_
  refine g_mask [true, true] rfl ?_
  refine lp_bind (Gh := fun s => G K 27 [some (.ref (kad K 1)), some (.int s.1)] [] (Wd K layC s.2)) h (fun s o2 hf gI gE => ?_)
  refine bX6_firstWrong_b27 C gI (fun t4 e => ?_) (fun t4 e => ?_) hf
  · have h := el_l (gE _ e)
    refine g_iload_n C.c dX6_firstWrong_48 rfl (i := 1) rfl ?_
    obtain rfl := Option.some.inj h
    exact g_iret C hQ dX6_firstWrong_49 rfl ⟨rfl, rfl⟩
  · have h := el_r (gE _ e)
    refine g_aload_n C.c dX6_firstWrong_56 rfl (i := 0) rfl ?_
    refine gf_6_19 C dX6_firstWrong_57 ?_
    obtain rfl := Option.some.inj h
    exact g_iret C hQ dX6_firstWrong_60 rfl ⟨rfl, rfl⟩
def fX6_firstWrong (σ : Sg) : Option (Int32 × Sg) := fX6_firstWrong_b0 σ
theorem ct_X6_firstWrong {σ : Sg} {p : Int32 × Sg} (h : fX6_firstWrong σ = some p) : Ct layC yX6_firstWrong cX6_firstWrong 2 (some .int) 3 (fun ad => [.ref (ad 1)]) σ (okI p) :=
 ct_of (L0 := fun ad => [some (.ref (ad 1)), none]) (by decide) (fun _ => Nat.le_of_ble_eq_true rfl) (fun _ => rfl) (fun K C hQ => g_mask [true, false] rfl (bX6_firstWrong_b0 C hQ h))
-- X6_isSea
theorem dX6_isSea_0 : decode cX6_isSea 0 = .ok (.aload_n 0, 1) := by decide +kernel
theorem dX6_isSea_1 : decode cX6_isSea 1 = .ok (.invokevirtual 43, 3) := by decide +kernel
theorem dX6_isSea_4 : decode cX6_isSea 4 = .ok (.aload_n 0, 1) := by decide +kernel
theorem dX6_isSea_5 : decode cX6_isSea 5 = .ok (.getfield 19, 3) := by decide +kernel
theorem dX6_isSea_8 : decode cX6_isSea 8 = .ok (.if_icmp .ne 34, 3) := by decide +kernel
theorem dX6_isSea_11 : decode cX6_isSea 11 = .ok (.aload_n 0, 1) := by decide +kernel
theorem dX6_isSea_12 : decode cX6_isSea 12 = .ok (.getfield 23, 3) := by decide +kernel
theorem dX6_isSea_15 : decode cX6_isSea 15 = .ok (.iconst 1, 1) := by decide +kernel
theorem dX6_isSea_16 : decode cX6_isSea 16 = .ok (.if_icmp .lt 26, 3) := by decide +kernel
theorem dX6_isSea_19 : decode cX6_isSea 19 = .ok (.aload_n 0, 1) := by decide +kernel
theorem dX6_isSea_20 : decode cX6_isSea 20 = .ok (.getfield 26, 3) := by decide +kernel
theorem dX6_isSea_23 : decode cX6_isSea 23 = .ok (.aload_n 0, 1) := by decide +kernel
theorem dX6_isSea_24 : decode cX6_isSea 24 = .ok (.getfield 29, 3) := by decide +kernel
theorem dX6_isSea_27 : decode cX6_isSea 27 = .ok (.if_icmp .ne 15, 3) := by decide +kernel
theorem dX6_isSea_30 : decode cX6_isSea 30 = .ok (.aload_n 0, 1) := by decide +kernel
theorem dX6_isSea_31 : decode cX6_isSea 31 = .ok (.getfield 32, 3) := by decide +kernel
theorem dX6_isSea_34 : decode cX6_isSea 34 = .ok (.iconst 1, 1) := by decide +kernel
theorem dX6_isSea_35 : decode cX6_isSea 35 = .ok (.if_icmp .ne 7, 3) := by decide +kernel
theorem dX6_isSea_38 : decode cX6_isSea 38 = .ok (.iconst 1, 1) := by decide +kernel
theorem dX6_isSea_39 : decode cX6_isSea 39 = .ok (.goto 4, 3) := by decide +kernel
theorem dX6_isSea_42 : decode cX6_isSea 42 = .ok (.iconst 0, 1) := by decide +kernel
theorem dX6_isSea_43 : decode cX6_isSea 43 = .ok (.ireturn, 1) := by decide +kernel
theorem cw_X6_isSea : Cw yX6_isSea cX6_isSea 1 (some .boolean) 0 := ⟨aw_374, aw_20, ⟨by decide, by decide⟩, by decide +kernel, by decide⟩
theorem kc_6_43 {K : KT} {cc : ByteArray} {nL d pc : Nat} {ret : Option FieldType} {L : List (Option Value)} {st : List Value} {σ : Sg} (C : Cx K layC cc RX6 nL d ret)    {p : Int32 × Sg} (hd : decode cc pc = .ok (.invokevirtual 43, 3)) (e : fX6_firstWrong σ = some p) (hdd : 3 + 1 ≤ d) (hLn : L.length = nL) (hr : (st.map fun v => v.category).sum ≤ 8) (k : G K (pc + 3) L (.int p.1 :: st) (Wd K layC p.2)) : G K pc L (.ref (kad K 1) :: st) (Wd K layC σ) :=
  g_callV C (As := []) (rest := st) (o := 1) (ci := 6) hd (ct_X6_firstWrong e) cw_X6_firstWrong (Or.inl aw_375) aw_349 aw_350 rfl rfl rfl hdd hLn rfl rfl hr (fun v τ q => by obtain ⟨rfl, rfl⟩ := q; exact k)
def fX6_isSea_b0  (σ : Sg) : Option (Int32 × Sg) :=
  Option.bind (fX6_firstWrong σ) fun p1 => (if p1.1 = (rI p1.2 1 1) then (if (rI p1.2 1 2) < (1 : Int32) then (some ((0 : Int32), p1.2)) else (if (rI p1.2 1 3) = (rI p1.2 1 4) then (if (rI p1.2 1 5) = (1 : Int32) then (some ((1 : Int32), p1.2)) else (some ((0 : Int32), p1.2))) else (some ((0 : Int32), p1.2)))) else (some ((0 : Int32), p1.2)))
set_option maxRecDepth 4000 in
theorem bX6_isSea_b0 {K : KT}  {σ : Sg} {o : Int32 × Sg} (C : Cx K layC cX6_isSea RX6 1 (4) (some .boolean))  (hQ : Rk K layC (okI o)) (h : fX6_isSea_b0  σ = some o) : G K 0 [some (.ref (kad K 1))] [] (Wd K layC σ) := by
  unfold fX6_isSea_b0 at h
  refine g_aload_n C.c dX6_isSea_0 rfl (i := 0) rfl ?_
  obtain ⟨p1, e2, h⟩ := Option.bind_eq_some_iff.mp h
  refine kc_6_43 C dX6_isSea_1 e2 (Nat.le_of_ble_eq_true rfl) rfl (Nat.le_of_ble_eq_true rfl) ?_
  refine g_aload_n C.c dX6_isSea_4 rfl (i := 0) rfl ?_
  refine gf_6_19 C dX6_isSea_5 ?_
  refine g_icmp_ne C.c (tgt := 42) dX6_isSea_8 (by decide) (fun c => ?_) (fun c => ?_)
  · replace h := ite_f c h
    refine g_iconst C.c dX6_isSea_42 (v := (0 : Int32)) (by decide) ?_
    obtain rfl := Option.some.inj h
    exact g_iret C hQ dX6_isSea_43 rfl ⟨rfl, rfl⟩
  · replace h := ite_t c h
    refine g_aload_n C.c dX6_isSea_11 rfl (i := 0) rfl ?_
    refine gf_6_23 C dX6_isSea_12 ?_
    refine g_iconst C.c dX6_isSea_15 (v := (1 : Int32)) (by decide) ?_
    refine g_icmp_lt C.c (tgt := 42) dX6_isSea_16 (by decide) (fun c => ?_) (fun c => ?_)
    · replace h := ite_t c h
      refine g_iconst C.c dX6_isSea_42 (v := (0 : Int32)) (by decide) ?_
      obtain rfl := Option.some.inj h
      exact g_iret C hQ dX6_isSea_43 rfl ⟨rfl, rfl⟩
    · replace h := ite_f c h
      refine g_aload_n C.c dX6_isSea_19 rfl (i := 0) rfl ?_
      refine gf_6_26 C dX6_isSea_20 ?_
      refine g_aload_n C.c dX6_isSea_23 rfl (i := 0) rfl ?_
      refine gf_6_29 C dX6_isSea_24 ?_
      refine g_icmp_ne C.c (tgt := 42) dX6_isSea_27 (by decide) (fun c => ?_) (fun c => ?_)
      · replace h := ite_f c h
        refine g_iconst C.c dX6_isSea_42 (v := (0 : Int32)) (by decide) ?_
        obtain rfl := Option.some.inj h
        exact g_iret C hQ dX6_isSea_43 rfl ⟨rfl, rfl⟩
      · replace h := ite_t c h
        refine g_aload_n C.c dX6_isSea_30 rfl (i := 0) rfl ?_
        refine gf_6_32 C dX6_isSea_31 ?_
        refine g_iconst C.c dX6_isSea_34 (v := (1 : Int32)) (by decide) ?_
        refine g_icmp_ne C.c (tgt := 42) dX6_isSea_35 (by decide) (fun c => ?_) (fun c => ?_)
        · replace h := ite_f c h
          refine g_iconst C.c dX6_isSea_42 (v := (0 : Int32)) (by decide) ?_
          obtain rfl := Option.some.inj h
          exact g_iret C hQ dX6_isSea_43 rfl ⟨rfl, rfl⟩
        · replace h := ite_t c h
          refine g_iconst C.c dX6_isSea_38 (v := (1 : Int32)) (by decide) ?_
          refine g_goto C.c (tgt := 43) dX6_isSea_39 (by decide) ?_
          obtain rfl := Option.some.inj h
          exact g_iret C hQ dX6_isSea_43 rfl ⟨rfl, rfl⟩
def fX6_isSea (σ : Sg) : Option (Int32 × Sg) := fX6_isSea_b0 σ
theorem ct_X6_isSea {σ : Sg} {p : Int32 × Sg} (h : fX6_isSea σ = some p) : Ct layC yX6_isSea cX6_isSea 1 (some .boolean) 4 (fun ad => [.ref (ad 1)]) σ (okI p) :=
 ct_of (L0 := fun ad => [some (.ref (ad 1))]) (by decide) (fun _ => Nat.le_of_ble_eq_true rfl) (fun _ => rfl) (fun K C hQ => g_mask [true] rfl (bX6_isSea_b0 C hQ h))
-- X7_has
theorem dX7_has_0 : decode cX7_has 0 = .ok (.iload_n 1, 1) := by decide +kernel
theorem dX7_has_1 : decode cX7_has 1 = .ok (.ifCond .lt 15, 3) := by decide +kernel
theorem dX7_has_4 : decode cX7_has 4 = .ok (.iload_n 1, 1) := by decide +kernel
theorem dX7_has_5 : decode cX7_has 5 = .ok (.aload_n 0, 1) := by decide +kernel
theorem dX7_has_6 : decode cX7_has 6 = .ok (.getfield 29, 3) := by decide +kernel
theorem dX7_has_9 : decode cX7_has 9 = .ok (.if_icmp .ge 7, 3) := by decide +kernel
theorem dX7_has_12 : decode cX7_has 12 = .ok (.iconst 1, 1) := by decide +kernel
theorem dX7_has_13 : decode cX7_has 13 = .ok (.goto 4, 3) := by decide +kernel
theorem dX7_has_16 : decode cX7_has 16 = .ok (.iconst 0, 1) := by decide +kernel
theorem dX7_has_17 : decode cX7_has 17 = .ok (.ireturn, 1) := by decide +kernel
theorem cw_X7_has : Cw yX7_has cX7_has 2 (some .boolean) 1 := ⟨aw_425, aw_22, ⟨by decide, by decide⟩, by decide +kernel, by decide⟩
theorem gf_7_29 {K : KT} {cc : ByteArray} {nL d pc : Nat} {ret : Option FieldType} {L : List (Option Value)} {st : List Value} {σ : Sg} (C : Cx K layC cc RX7 nL d ret)  (hd : decode cc pc = .ok (.getfield 29, 3)) (k : G K (pc + 3) L (.int (rI σ 4 5) :: st) (Wd K layC σ)) : G K pc L (.ref (kad K 4) :: st) (Wd K layC σ) := g_get C (o := 4) (ci := 7) (k := 5) hd rfl rfl rfl (by decide) (Or.inl aw_95) inA7 rfl k
def fX7_has_b0 (x1 : Int32) (σ : Sg) : Option (Int32 × Sg) :=
  if x1 < 0 then (some ((0 : Int32), σ)) else (if (rI σ 4 5) ≤ x1 then (some ((0 : Int32), σ)) else (some ((1 : Int32), σ)))
set_option maxRecDepth 4000 in
theorem bX7_has_b0 {K : KT} {x1 : Int32} {σ : Sg} {o : Int32 × Sg} (C : Cx K layC cX7_has RX7 2 (1) (some .boolean))  (hQ : Rk K layC (okI o)) (h : fX7_has_b0 x1 σ = some o) : G K 0 [some (.ref (kad K 4)), some (.int x1)] [] (Wd K layC σ) := by
  unfold fX7_has_b0 at h
  refine g_iload_n C.c dX7_has_0 rfl (i := 1) rfl ?_
  refine g_if_lt C.c (tgt := 16) dX7_has_1 (by decide) (fun c => ?_) (fun c => ?_)
  · replace h := ite_t c h
    refine g_iconst C.c dX7_has_16 (v := (0 : Int32)) (by decide) ?_
    obtain rfl := Option.some.inj h
    exact g_iret C hQ dX7_has_17 rfl ⟨rfl, rfl⟩
  · replace h := ite_f c h
    refine g_iload_n C.c dX7_has_4 rfl (i := 1) rfl ?_
    refine g_aload_n C.c dX7_has_5 rfl (i := 0) rfl ?_
    refine gf_7_29 C dX7_has_6 ?_
    refine g_icmp_ge C.c (tgt := 16) dX7_has_9 (by decide) (fun c => ?_) (fun c => ?_)
    · replace h := ite_t c h
      refine g_iconst C.c dX7_has_16 (v := (0 : Int32)) (by decide) ?_
      obtain rfl := Option.some.inj h
      exact g_iret C hQ dX7_has_17 rfl ⟨rfl, rfl⟩
    · replace h := ite_f c h
      refine g_iconst C.c dX7_has_12 (v := (1 : Int32)) (by decide) ?_
      refine g_goto C.c (tgt := 17) dX7_has_13 (by decide) ?_
      obtain rfl := Option.some.inj h
      exact g_iret C hQ dX7_has_17 rfl ⟨rfl, rfl⟩
def fX7_has (a0 : Int32) (σ : Sg) : Option (Int32 × Sg) := fX7_has_b0 a0 σ
theorem ct_X7_has {a0 : Int32} {σ : Sg} {p : Int32 × Sg} (h : fX7_has a0 σ = some p) : Ct layC yX7_has cX7_has 2 (some .boolean) 1 (fun ad => [.ref (ad 4), .int a0]) σ (okI p) :=
 ct_of (L0 := fun ad => [some (.ref (ad 4)), some (.int a0)]) (by decide) (fun _ => Nat.le_of_ble_eq_true rfl) (fun _ => rfl) (fun K C hQ => g_mask [true, true] rfl (bX7_has_b0 C hQ h))
-- X7_hasWarmth
theorem dX7_hasWarmth_0 : decode cX7_hasWarmth 0 = .ok (.aload_n 0, 1) := by decide +kernel
theorem dX7_hasWarmth_1 : decode cX7_hasWarmth 1 = .ok (.iload_n 1, 1) := by decide +kernel
theorem dX7_hasWarmth_2 : decode cX7_hasWarmth 2 = .ok (.invokevirtual 33, 3) := by decide +kernel
theorem dX7_hasWarmth_5 : decode cX7_hasWarmth 5 = .ok (.ifCond .eq 18, 3) := by decide +kernel
theorem dX7_hasWarmth_8 : decode cX7_hasWarmth 8 = .ok (.aload_n 0, 1) := by decide +kernel
theorem dX7_hasWarmth_9 : decode cX7_hasWarmth 9 = .ok (.getfield 11, 3) := by decide +kernel
theorem dX7_hasWarmth_12 : decode cX7_hasWarmth 12 = .ok (.iload_n 1, 1) := by decide +kernel
theorem dX7_hasWarmth_13 : decode cX7_hasWarmth 13 = .ok (.iaload, 1) := by decide +kernel
theorem dX7_hasWarmth_14 : decode cX7_hasWarmth 14 = .ok (.bipush 10, 2) := by decide +kernel
theorem dX7_hasWarmth_16 : decode cX7_hasWarmth 16 = .ok (.if_icmp .ge 7, 3) := by decide +kernel
theorem dX7_hasWarmth_19 : decode cX7_hasWarmth 19 = .ok (.iconst 1, 1) := by decide +kernel
theorem dX7_hasWarmth_20 : decode cX7_hasWarmth 20 = .ok (.goto 4, 3) := by decide +kernel
theorem dX7_hasWarmth_23 : decode cX7_hasWarmth 23 = .ok (.iconst 0, 1) := by decide +kernel
theorem dX7_hasWarmth_24 : decode cX7_hasWarmth 24 = .ok (.ireturn, 1) := by decide +kernel
theorem cw_X7_hasWarmth : Cw yX7_hasWarmth cX7_hasWarmth 2 (some .boolean) 1 := ⟨aw_646, aw_22, ⟨by decide, by decide⟩, by decide +kernel, by decide⟩
theorem kc_7_33 {K : KT} {cc : ByteArray} {nL d pc : Nat} {ret : Option FieldType} {L : List (Option Value)} {st : List Value} {σ : Sg} (C : Cx K layC cc RX7 nL d ret)  {a0 : Int32}  {p : Int32 × Sg} (hd : decode cc pc = .ok (.invokevirtual 33, 3)) (e : fX7_has a0 σ = some p) (hdd : 1 + 1 ≤ d) (hLn : L.length = nL) (hr : (st.map fun v => v.category).sum ≤ 8) (k : G K (pc + 3) L (.int p.1 :: st) (Wd K layC p.2)) : G K pc L (.int a0 :: .ref (kad K 4) :: st) (Wd K layC σ) :=
  g_callV C (As := [.int a0]) (rest := st) (o := 4) (ci := 7) hd (ct_X7_has e) cw_X7_has (Or.inl aw_647) aw_423 aw_424 rfl rfl rfl hdd hLn rfl rfl hr (fun v τ q => by obtain ⟨rfl, rfl⟩ := q; exact k)
theorem gf_7_11 {K : KT} {cc : ByteArray} {nL d pc : Nat} {ret : Option FieldType} {L : List (Option Value)} {st : List Value} {σ : Sg} (C : Cx K layC cc RX7 nL d ret)  (hd : decode cc pc = .ok (.getfield 11, 3)) (k : G K (pc + 3) L (.ref (kad K 5) :: st) (Wd K layC σ)) : G K pc L (.ref (kad K 4) :: st) (Wd K layC σ) := g_get C (o := 4) (ci := 7) (k := 0) hd rfl rfl rfl (by decide) (Or.inl aw_83) inA7 rfl k
def fX7_hasWarmth_b0 (x1 : Int32) (σ : Sg) : Option (Int32 × Sg) :=
  Option.bind (fX7_has x1 σ) fun p1 => (if p1.1 = 0 then (some ((0 : Int32), p1.2)) else (if inb x1 30 = true then (if (10 : Int32) ≤ (rI p1.2 5 (x1).toNatClampNeg) then (some ((0 : Int32), p1.2)) else (some ((1 : Int32), p1.2))) else none))
set_option maxRecDepth 4000 in
theorem bX7_hasWarmth_b0 {K : KT} {x1 : Int32} {σ : Sg} {o : Int32 × Sg} (C : Cx K layC cX7_hasWarmth RX7 2 (2) (some .boolean))  (hQ : Rk K layC (okI o)) (h : fX7_hasWarmth_b0 x1 σ = some o) : G K 0 [some (.ref (kad K 4)), some (.int x1)] [] (Wd K layC σ) := by
  unfold fX7_hasWarmth_b0 at h
  refine g_aload_n C.c dX7_hasWarmth_0 rfl (i := 0) rfl ?_
  refine g_iload_n C.c dX7_hasWarmth_1 rfl (i := 1) rfl ?_
  obtain ⟨p1, e2, h⟩ := Option.bind_eq_some_iff.mp h
  refine kc_7_33 C dX7_hasWarmth_2 e2 (Nat.le_of_ble_eq_true rfl) rfl (Nat.le_of_ble_eq_true rfl) ?_
  refine g_if_eq C.c (tgt := 23) dX7_hasWarmth_5 (by decide) (fun c => ?_) (fun c => ?_)
  · replace h := ite_t c h
    refine g_iconst C.c dX7_hasWarmth_23 (v := (0 : Int32)) (by decide) ?_
    obtain rfl := Option.some.inj h
    exact g_iret C hQ dX7_hasWarmth_24 rfl ⟨rfl, rfl⟩
  · replace h := ite_f c h
    refine g_aload_n C.c dX7_hasWarmth_8 rfl (i := 0) rfl ?_
    refine gf_7_11 C dX7_hasWarmth_9 ?_
    refine g_iload_n C.c dX7_hasWarmth_12 rfl (i := 1) rfl ?_
    obtain ⟨c3, h⟩ := chk h
    refine g_iald C dX7_hasWarmth_13 rfl c3 ?_
    refine g_bipush C.c dX7_hasWarmth_14 (v := (10 : Int32)) (by decide) ?_
    refine g_icmp_ge C.c (tgt := 23) dX7_hasWarmth_16 (by decide) (fun c => ?_) (fun c => ?_)
    · replace h := ite_t c h
      refine g_iconst C.c dX7_hasWarmth_23 (v := (0 : Int32)) (by decide) ?_
      obtain rfl := Option.some.inj h
      exact g_iret C hQ dX7_hasWarmth_24 rfl ⟨rfl, rfl⟩
    · replace h := ite_f c h
      refine g_iconst C.c dX7_hasWarmth_19 (v := (1 : Int32)) (by decide) ?_
      refine g_goto C.c (tgt := 24) dX7_hasWarmth_20 (by decide) ?_
      obtain rfl := Option.some.inj h
      exact g_iret C hQ dX7_hasWarmth_24 rfl ⟨rfl, rfl⟩
def fX7_hasWarmth (a0 : Int32) (σ : Sg) : Option (Int32 × Sg) := fX7_hasWarmth_b0 a0 σ
theorem ct_X7_hasWarmth {a0 : Int32} {σ : Sg} {p : Int32 × Sg} (h : fX7_hasWarmth a0 σ = some p) : Ct layC yX7_hasWarmth cX7_hasWarmth 2 (some .boolean) 2 (fun ad => [.ref (ad 4), .int a0]) σ (okI p) :=
 ct_of (L0 := fun ad => [some (.ref (ad 4)), some (.int a0)]) (by decide) (fun _ => Nat.le_of_ble_eq_true rfl) (fun _ => rfl) (fun K C hQ => g_mask [true, true] rfl (bX7_hasWarmth_b0 C hQ h))
-- X7_layLetter
theorem dX7_layLetter_0 : decode cX7_layLetter 0 = .ok (.iload_n 1, 1) := by decide +kernel
theorem dX7_layLetter_1 : decode cX7_layLetter 1 = .ok (.invokestatic 61, 3) := by decide +kernel
theorem dX7_layLetter_4 : decode cX7_layLetter 4 = .ok (.istore_n 2, 1) := by decide +kernel
theorem dX7_layLetter_5 : decode cX7_layLetter 5 = .ok (.iload_n 1, 1) := by decide +kernel
theorem dX7_layLetter_6 : decode cX7_layLetter 6 = .ok (.bipush 47, 2) := by decide +kernel
theorem dX7_layLetter_8 : decode cX7_layLetter 8 = .ok (.if_icmp .ne 28, 3) := by decide +kernel
theorem dX7_layLetter_11 : decode cX7_layLetter 11 = .ok (.aload_n 0, 1) := by decide +kernel
theorem dX7_layLetter_12 : decode cX7_layLetter 12 = .ok (.aload_n 0, 1) := by decide +kernel
theorem dX7_layLetter_13 : decode cX7_layLetter 13 = .ok (.getfield 37, 3) := by decide +kernel
theorem dX7_layLetter_16 : decode cX7_layLetter 16 = .ok (.ifCond .ne 10, 3) := by decide +kernel
theorem dX7_layLetter_19 : decode cX7_layLetter 19 = .ok (.aload_n 0, 1) := by decide +kernel
theorem dX7_layLetter_20 : decode cX7_layLetter 20 = .ok (.getfield 29, 3) := by decide +kernel
theorem dX7_layLetter_23 : decode cX7_layLetter 23 = .ok (.goto 7, 3) := by decide +kernel
theorem dX7_layLetter_26 : decode cX7_layLetter 26 = .ok (.aload_n 0, 1) := by decide +kernel
theorem dX7_layLetter_27 : decode cX7_layLetter 27 = .ok (.getfield 37, 3) := by decide +kernel
theorem dX7_layLetter_30 : decode cX7_layLetter 30 = .ok (.putfield 37, 3) := by decide +kernel
theorem dX7_layLetter_33 : decode cX7_layLetter 33 = .ok (.goto 115, 3) := by decide +kernel
theorem dX7_layLetter_36 : decode cX7_layLetter 36 = .ok (.iload_n 2, 1) := by decide +kernel
theorem dX7_layLetter_37 : decode cX7_layLetter 37 = .ok (.iconst (-1), 1) := by decide +kernel
theorem dX7_layLetter_38 : decode cX7_layLetter 38 = .ok (.if_icmp .eq 25, 3) := by decide +kernel
theorem dX7_layLetter_41 : decode cX7_layLetter 41 = .ok (.aload_n 0, 1) := by decide +kernel
theorem dX7_layLetter_42 : decode cX7_layLetter 42 = .ok (.getfield 29, 3) := by decide +kernel
theorem dX7_layLetter_45 : decode cX7_layLetter 45 = .ok (.ifCond .le 103, 3) := by decide +kernel
theorem dX7_layLetter_48 : decode cX7_layLetter 48 = .ok (.aload_n 0, 1) := by decide +kernel
theorem dX7_layLetter_49 : decode cX7_layLetter 49 = .ok (.getfield 15, 3) := by decide +kernel
theorem dX7_layLetter_52 : decode cX7_layLetter 52 = .ok (.aload_n 0, 1) := by decide +kernel
theorem dX7_layLetter_53 : decode cX7_layLetter 53 = .ok (.getfield 29, 3) := by decide +kernel
theorem dX7_layLetter_56 : decode cX7_layLetter 56 = .ok (.iconst 1, 1) := by decide +kernel
theorem dX7_layLetter_57 : decode cX7_layLetter 57 = .ok (.isub, 1) := by decide +kernel
theorem dX7_layLetter_58 : decode cX7_layLetter 58 = .ok (.iload_n 2, 1) := by decide +kernel
theorem dX7_layLetter_59 : decode cX7_layLetter 59 = .ok (.iastore, 1) := by decide +kernel
theorem dX7_layLetter_60 : decode cX7_layLetter 60 = .ok (.goto 88, 3) := by decide +kernel
theorem dX7_layLetter_63 : decode cX7_layLetter 63 = .ok (.aload_n 0, 1) := by decide +kernel
theorem dX7_layLetter_64 : decode cX7_layLetter 64 = .ok (.getfield 29, 3) := by decide +kernel
theorem dX7_layLetter_67 : decode cX7_layLetter 67 = .ok (.bipush 30, 2) := by decide +kernel
theorem dX7_layLetter_69 : decode cX7_layLetter 69 = .ok (.if_icmp .ge 79, 3) := by decide +kernel
theorem dX7_layLetter_72 : decode cX7_layLetter 72 = .ok (.aload_n 0, 1) := by decide +kernel
theorem dX7_layLetter_73 : decode cX7_layLetter 73 = .ok (.getfield 11, 3) := by decide +kernel
theorem dX7_layLetter_76 : decode cX7_layLetter 76 = .ok (.aload_n 0, 1) := by decide +kernel
theorem dX7_layLetter_77 : decode cX7_layLetter 77 = .ok (.getfield 29, 3) := by decide +kernel
theorem dX7_layLetter_80 : decode cX7_layLetter 80 = .ok (.iload_n 1, 1) := by decide +kernel
theorem dX7_layLetter_81 : decode cX7_layLetter 81 = .ok (.bipush 35, 2) := by decide +kernel
theorem dX7_layLetter_83 : decode cX7_layLetter 83 = .ok (.if_icmp .ne 8, 3) := by decide +kernel
theorem dX7_layLetter_86 : decode cX7_layLetter 86 = .ok (.bipush 11, 2) := by decide +kernel
theorem dX7_layLetter_88 : decode cX7_layLetter 88 = .ok (.goto 18, 3) := by decide +kernel
theorem dX7_layLetter_91 : decode cX7_layLetter 91 = .ok (.iload_n 1, 1) := by decide +kernel
theorem dX7_layLetter_92 : decode cX7_layLetter 92 = .ok (.bipush 104, 2) := by decide +kernel
theorem dX7_layLetter_94 : decode cX7_layLetter 94 = .ok (.if_icmp .ne 8, 3) := by decide +kernel
theorem dX7_layLetter_97 : decode cX7_layLetter 97 = .ok (.bipush 10, 2) := by decide +kernel
theorem dX7_layLetter_99 : decode cX7_layLetter 99 = .ok (.goto 7, 3) := by decide +kernel
theorem dX7_layLetter_102 : decode cX7_layLetter 102 = .ok (.iload_n 1, 1) := by decide +kernel
theorem dX7_layLetter_103 : decode cX7_layLetter 103 = .ok (.bipush 48, 2) := by decide +kernel
theorem dX7_layLetter_105 : decode cX7_layLetter 105 = .ok (.isub, 1) := by decide +kernel
theorem dX7_layLetter_106 : decode cX7_layLetter 106 = .ok (.iastore, 1) := by decide +kernel
theorem dX7_layLetter_107 : decode cX7_layLetter 107 = .ok (.aload_n 0, 1) := by decide +kernel
theorem dX7_layLetter_108 : decode cX7_layLetter 108 = .ok (.getfield 15, 3) := by decide +kernel
theorem dX7_layLetter_111 : decode cX7_layLetter 111 = .ok (.aload_n 0, 1) := by decide +kernel
theorem dX7_layLetter_112 : decode cX7_layLetter 112 = .ok (.getfield 29, 3) := by decide +kernel
theorem dX7_layLetter_115 : decode cX7_layLetter 115 = .ok (.iconst (-1), 1) := by decide +kernel
theorem dX7_layLetter_116 : decode cX7_layLetter 116 = .ok (.iastore, 1) := by decide +kernel
theorem dX7_layLetter_117 : decode cX7_layLetter 117 = .ok (.aload_n 0, 1) := by decide +kernel
theorem dX7_layLetter_118 : decode cX7_layLetter 118 = .ok (.iload_n 1, 1) := by decide +kernel
theorem dX7_layLetter_119 : decode cX7_layLetter 119 = .ok (.bipush 104, 2) := by decide +kernel
theorem dX7_layLetter_121 : decode cX7_layLetter 121 = .ok (.if_icmp .ne 10, 3) := by decide +kernel
theorem dX7_layLetter_124 : decode cX7_layLetter 124 = .ok (.aload_n 0, 1) := by decide +kernel
theorem dX7_layLetter_125 : decode cX7_layLetter 125 = .ok (.getfield 29, 3) := by decide +kernel
theorem dX7_layLetter_128 : decode cX7_layLetter 128 = .ok (.goto 7, 3) := by decide +kernel
theorem dX7_layLetter_131 : decode cX7_layLetter 131 = .ok (.aload_n 0, 1) := by decide +kernel
theorem dX7_layLetter_132 : decode cX7_layLetter 132 = .ok (.getfield 64, 3) := by decide +kernel
theorem dX7_layLetter_135 : decode cX7_layLetter 135 = .ok (.putfield 64, 3) := by decide +kernel
theorem dX7_layLetter_138 : decode cX7_layLetter 138 = .ok (.aload_n 0, 1) := by decide +kernel
theorem dX7_layLetter_139 : decode cX7_layLetter 139 = .ok (.dup, 1) := by decide +kernel
theorem dX7_layLetter_140 : decode cX7_layLetter 140 = .ok (.getfield 29, 3) := by decide +kernel
theorem dX7_layLetter_143 : decode cX7_layLetter 143 = .ok (.iconst 1, 1) := by decide +kernel
theorem dX7_layLetter_144 : decode cX7_layLetter 144 = .ok (.iadd, 1) := by decide +kernel
theorem dX7_layLetter_145 : decode cX7_layLetter 145 = .ok (.putfield 29, 3) := by decide +kernel
theorem dX7_layLetter_148 : decode cX7_layLetter 148 = .ok (.return_, 1) := by decide +kernel
theorem cw_X7_layLetter : Cw yX7_layLetter cX7_layLetter 3 none 1 := ⟨aw_387, aw_22, ⟨by decide, by decide⟩, by decide +kernel, by decide⟩
theorem kc_7_61 {K : KT} {cc : ByteArray} {nL d pc : Nat} {ret : Option FieldType} {L : List (Option Value)} {st : List Value} {σ : Sg} (C : Cx K layC cc RX7 nL d ret)  {a0 : Int32}  {p : Int32 × Sg} (hd : decode cc pc = .ok (.invokestatic 61, 3)) (e : fX7_wayOf a0 σ = some p) (hdd : 1 + 1 ≤ d) (hLn : L.length = nL) (hr : (st.map fun v => v.category).sum ≤ 8) (k : G K (pc + 3) L (.int p.1 :: st) (Wd K layC p.2)) : G K pc L (.int a0 :: st) (Wd K layC σ) :=
  g_callS C (As := [.int a0]) (rest := st) hd (ct_X7_wayOf e) cw_X7_wayOf (Or.inl aw_388) aw_361 rfl rfl rfl hdd hLn hr (fun v τ q => by obtain ⟨rfl, rfl⟩ := q; exact k)
theorem gf_7_15 {K : KT} {cc : ByteArray} {nL d pc : Nat} {ret : Option FieldType} {L : List (Option Value)} {st : List Value} {σ : Sg} (C : Cx K layC cc RX7 nL d ret)  (hd : decode cc pc = .ok (.getfield 15, 3)) (k : G K (pc + 3) L (.ref (kad K 6) :: st) (Wd K layC σ)) : G K pc L (.ref (kad K 4) :: st) (Wd K layC σ) := g_get C (o := 4) (ci := 7) (k := 1) hd rfl rfl rfl (by decide) (Or.inl aw_86) inA7 rfl k
theorem gf_7_64 {K : KT} {cc : ByteArray} {nL d pc : Nat} {ret : Option FieldType} {L : List (Option Value)} {st : List Value} {σ : Sg} (C : Cx K layC cc RX7 nL d ret)  (hd : decode cc pc = .ok (.getfield 64, 3)) (k : G K (pc + 3) L (.int (rI σ 4 7) :: st) (Wd K layC σ)) : G K pc L (.ref (kad K 4) :: st) (Wd K layC σ) := g_get C (o := 4) (ci := 7) (k := 7) hd rfl rfl rfl (by decide) (Or.inl aw_99) inA7 rfl k
theorem pf_7_64 {K : KT} {cc : ByteArray} {nL d pc : Nat} {ret : Option FieldType} {L : List (Option Value)} {st : List Value} {σ : Sg} (C : Cx K layC cc RX7 nL d ret)  {v : Int32}  (hd : decode cc pc = .ok (.putfield 64, 3)) (k : G K (pc + 3) L st (Wd K layC (wI σ 4 7 v))) : G K pc L (.int v :: .ref (kad K 4) :: st) (Wd K layC σ) := g_putI C (o := 4) (ci := 7) (k := 7) hd rfl rfl rfl (by decide) (Or.inl aw_99) inA7 tyX7_ok nmX7 rfl rfl rfl k
theorem pf_7_29 {K : KT} {cc : ByteArray} {nL d pc : Nat} {ret : Option FieldType} {L : List (Option Value)} {st : List Value} {σ : Sg} (C : Cx K layC cc RX7 nL d ret)  {v : Int32}  (hd : decode cc pc = .ok (.putfield 29, 3)) (k : G K (pc + 3) L st (Wd K layC (wI σ 4 5 v))) : G K pc L (.int v :: .ref (kad K 4) :: st) (Wd K layC σ) := g_putI C (o := 4) (ci := 7) (k := 5) hd rfl rfl rfl (by decide) (Or.inl aw_95) inA7 tyX7_ok nmX7 rfl rfl rfl k
theorem gf_7_37 {K : KT} {cc : ByteArray} {nL d pc : Nat} {ret : Option FieldType} {L : List (Option Value)} {st : List Value} {σ : Sg} (C : Cx K layC cc RX7 nL d ret)  (hd : decode cc pc = .ok (.getfield 37, 3)) (k : G K (pc + 3) L (.int (rI σ 4 6) :: st) (Wd K layC σ)) : G K pc L (.ref (kad K 4) :: st) (Wd K layC σ) := g_get C (o := 4) (ci := 7) (k := 6) hd rfl rfl rfl (by decide) (Or.inl aw_97) inA7 rfl k
theorem pf_7_37 {K : KT} {cc : ByteArray} {nL d pc : Nat} {ret : Option FieldType} {L : List (Option Value)} {st : List Value} {σ : Sg} (C : Cx K layC cc RX7 nL d ret)  {v : Int32}  (hd : decode cc pc = .ok (.putfield 37, 3)) (k : G K (pc + 3) L st (Wd K layC (wI σ 4 6 v))) : G K pc L (.int v :: .ref (kad K 4) :: st) (Wd K layC σ) := g_putI C (o := 4) (ci := 7) (k := 6) hd rfl rfl rfl (by decide) (Or.inl aw_97) inA7 tyX7_ok nmX7 rfl rfl rfl k
def fX7_layLetter_b135 (y0 : Int32) (σ : Sg) : Option (Sg) :=
  some (wI (wI σ 4 7 y0) 4 5 ((rI (wI σ 4 7 y0) 4 5) + (1 : Int32)))
def fX7_layLetter_b106 (x1 : Int32) (y0 : Int32) (y1 : Int32) (σ : Sg) : Option (Sg) :=
  if inb y1 30 = true then (if inb (rI (wI σ 5 (y1).toNatClampNeg y0) 4 5) 30 = true then (if x1 = (104 : Int32) then (fX7_layLetter_b135 (rI (wI (wI σ 5 (y1).toNatClampNeg y0) 6 ((rI (wI σ 5 (y1).toNatClampNeg y0) 4 5)).toNatClampNeg (-1 : Int32)) 4 5) (wI (wI σ 5 (y1).toNatClampNeg y0) 6 ((rI (wI σ 5 (y1).toNatClampNeg y0) 4 5)).toNatClampNeg (-1 : Int32))) else (fX7_layLetter_b135 (rI (wI (wI σ 5 (y1).toNatClampNeg y0) 6 ((rI (wI σ 5 (y1).toNatClampNeg y0) 4 5)).toNatClampNeg (-1 : Int32)) 4 7) (wI (wI σ 5 (y1).toNatClampNeg y0) 6 ((rI (wI σ 5 (y1).toNatClampNeg y0) 4 5)).toNatClampNeg (-1 : Int32)))) else none) else none
def fX7_layLetter_b30 (y0 : Int32) (σ : Sg) : Option (Sg) :=
  some (wI σ 4 6 y0)
def fX7_layLetter_b0 (x1 : Int32) (σ : Sg) : Option (Sg) :=
  Option.bind (fX7_wayOf x1 σ) fun p1 => (if x1 = (47 : Int32) then (if (rI p1.2 4 6) = 0 then (fX7_layLetter_b30 (rI p1.2 4 5) p1.2) else (fX7_layLetter_b30 (rI p1.2 4 6) p1.2)) else (if p1.1 = (-1 : Int32) then (if (30 : Int32) ≤ (rI p1.2 4 5) then (some p1.2) else (if x1 = (35 : Int32) then (fX7_layLetter_b106 x1 (11 : Int32) (rI p1.2 4 5) p1.2) else (if x1 = (104 : Int32) then (fX7_layLetter_b106 x1 (10 : Int32) (rI p1.2 4 5) p1.2) else (fX7_layLetter_b106 x1 (x1 - (48 : Int32)) (rI p1.2 4 5) p1.2)))) else (if (rI p1.2 4 5) ≤ 0 then (some p1.2) else (if inb ((rI p1.2 4 5) - (1 : Int32)) 30 = true then (some (wI p1.2 6 (((rI p1.2 4 5) - (1 : Int32))).toNatClampNeg p1.1)) else none))))
set_option maxRecDepth 4000 in
theorem bX7_layLetter_b135 {K : KT} {y0 : Int32} {σ : Sg} {o : Sg} (C : Cx K layC cX7_layLetter RX7 3 (2) none)  (hQ : Rk K layC (okV o)) (h : fX7_layLetter_b135 y0 σ = some o) : G K 135 [some (.ref (kad K 4)), none, none] [.int y0, .ref (kad K 4)] (Wd K layC σ) := by
  unfold fX7_layLetter_b135 at h
  refine pf_7_64 C dX7_layLetter_135 ?_
  refine g_aload_n C.c dX7_layLetter_138 rfl (i := 0) rfl ?_
  refine g_dup C.c dX7_layLetter_139 rfl ?_
  refine gf_7_29 C dX7_layLetter_140 ?_
  refine g_iconst C.c dX7_layLetter_143 (v := (1 : Int32)) (by decide) ?_
  refine g_iadd C.c dX7_layLetter_144 ?_
  refine pf_7_29 C dX7_layLetter_145 ?_
  obtain rfl := Option.some.inj h
  exact g_vret C hQ dX7_layLetter_148 ⟨rfl, rfl⟩
set_option maxRecDepth 4000 in
theorem bX7_layLetter_b106 {K : KT} {x1 : Int32} {y0 : Int32} {y1 : Int32} {σ : Sg} {o : Sg} (C : Cx K layC cX7_layLetter RX7 3 (2) none)  (hQ : Rk K layC (okV o)) (h : fX7_layLetter_b106 x1 y0 y1 σ = some o) : G K 106 [some (.ref (kad K 4)), some (.int x1), none] [.int y0, .int y1, .ref (kad K 5)] (Wd K layC σ) := by
  unfold fX7_layLetter_b106 at h
  obtain ⟨c3, h⟩ := chk h
  refine g_iast C dX7_layLetter_106 rfl c3 ?_
  refine g_aload_n C.c dX7_layLetter_107 rfl (i := 0) rfl ?_
  refine gf_7_15 C dX7_layLetter_108 ?_
  refine g_aload_n C.c dX7_layLetter_111 rfl (i := 0) rfl ?_
  refine gf_7_29 C dX7_layLetter_112 ?_
  refine g_iconst C.c dX7_layLetter_115 (v := (-1 : Int32)) (by decide) ?_
  obtain ⟨c4, h⟩ := chk h
  refine g_iast C dX7_layLetter_116 rfl c4 ?_
  refine g_aload_n C.c dX7_layLetter_117 rfl (i := 0) rfl ?_
  refine g_iload_n C.c dX7_layLetter_118 rfl (i := 1) rfl ?_
  refine g_bipush C.c dX7_layLetter_119 (v := (104 : Int32)) (by decide) ?_
  refine g_icmp_ne C.c (tgt := 131) dX7_layLetter_121 (by decide) (fun c => ?_) (fun c => ?_)
  · replace h := ite_f c h
    refine g_aload_n C.c dX7_layLetter_131 rfl (i := 0) rfl ?_
    refine gf_7_64 C dX7_layLetter_132 ?_
    exact g_mask [true, false, false] rfl (bX7_layLetter_b135 C hQ h)
  · replace h := ite_t c h
    refine g_aload_n C.c dX7_layLetter_124 rfl (i := 0) rfl ?_
    refine gf_7_29 C dX7_layLetter_125 ?_
    refine g_goto C.c (tgt := 135) dX7_layLetter_128 (by decide) ?_
    exact g_mask [true, false, false] rfl (bX7_layLetter_b135 C hQ h)
set_option maxRecDepth 4000 in
theorem bX7_layLetter_b30 {K : KT} {y0 : Int32} {σ : Sg} {o : Sg} (C : Cx K layC cX7_layLetter RX7 3 (2) none)  (hQ : Rk K layC (okV o)) (h : fX7_layLetter_b30 y0 σ = some o) : G K 30 [none, none, none] [.int y0, .ref (kad K 4)] (Wd K layC σ) := by
  unfold fX7_layLetter_b30 at h
  refine pf_7_37 C dX7_layLetter_30 ?_
  refine g_goto C.c (tgt := 148) dX7_layLetter_33 (by decide) ?_
  obtain rfl := Option.some.inj h
  exact g_vret C hQ dX7_layLetter_148 ⟨rfl, rfl⟩
set_option maxRecDepth 4000 in
theorem bX7_layLetter_b0 {K : KT} {x1 : Int32} {σ : Sg} {o : Sg} (C : Cx K layC cX7_layLetter RX7 3 (2) none)  (hQ : Rk K layC (okV o)) (h : fX7_layLetter_b0 x1 σ = some o) : G K 0 [some (.ref (kad K 4)), some (.int x1), none] [] (Wd K layC σ) := by
  unfold fX7_layLetter_b0 at h
  refine g_iload_n C.c dX7_layLetter_0 rfl (i := 1) rfl ?_
  obtain ⟨p1, e2, h⟩ := Option.bind_eq_some_iff.mp h
  refine kc_7_61 C dX7_layLetter_1 e2 (Nat.le_of_ble_eq_true rfl) rfl (Nat.le_of_ble_eq_true rfl) ?_
  refine g_istore_n C.c (i := 2) (L' := [some (.ref (kad K 4)), some (.int x1), some (.int p1.1)]) dX7_layLetter_4 rfl (Nat.le_of_ble_eq_true rfl) rfl ?_
  refine g_iload_n C.c dX7_layLetter_5 rfl (i := 1) rfl ?_
  refine g_bipush C.c dX7_layLetter_6 (v := (47 : Int32)) (by decide) ?_
  refine g_icmp_ne C.c (tgt := 36) dX7_layLetter_8 (by decide) (fun c => ?_) (fun c => ?_)
  · replace h := ite_f c h
    refine g_iload_n C.c dX7_layLetter_36 rfl (i := 2) rfl ?_
    refine g_iconst C.c dX7_layLetter_37 (v := (-1 : Int32)) (by decide) ?_
    refine g_icmp_eq C.c (tgt := 63) dX7_layLetter_38 (by decide) (fun c => ?_) (fun c => ?_)
    · replace h := ite_t c h
      refine g_aload_n C.c dX7_layLetter_63 rfl (i := 0) rfl ?_
      refine gf_7_29 C dX7_layLetter_64 ?_
      refine g_bipush C.c dX7_layLetter_67 (v := (30 : Int32)) (by decide) ?_
      refine g_icmp_ge C.c (tgt := 148) dX7_layLetter_69 (by decide) (fun c => ?_) (fun c => ?_)
      · replace h := ite_t c h
        obtain rfl := Option.some.inj h
        exact g_vret C hQ dX7_layLetter_148 ⟨rfl, rfl⟩
      · replace h := ite_f c h
        refine g_aload_n C.c dX7_layLetter_72 rfl (i := 0) rfl ?_
        refine gf_7_11 C dX7_layLetter_73 ?_
        refine g_aload_n C.c dX7_layLetter_76 rfl (i := 0) rfl ?_
        refine gf_7_29 C dX7_layLetter_77 ?_
        refine g_iload_n C.c dX7_layLetter_80 rfl (i := 1) rfl ?_
        refine g_bipush C.c dX7_layLetter_81 (v := (35 : Int32)) (by decide) ?_
        refine g_icmp_ne C.c (tgt := 91) dX7_layLetter_83 (by decide) (fun c => ?_) (fun c => ?_)
        · replace h := ite_f c h
          refine g_iload_n C.c dX7_layLetter_91 rfl (i := 1) rfl ?_
          refine g_bipush C.c dX7_layLetter_92 (v := (104 : Int32)) (by decide) ?_
          refine g_icmp_ne C.c (tgt := 102) dX7_layLetter_94 (by decide) (fun c => ?_) (fun c => ?_)
          · replace h := ite_f c h
            refine g_iload_n C.c dX7_layLetter_102 rfl (i := 1) rfl ?_
            refine g_bipush C.c dX7_layLetter_103 (v := (48 : Int32)) (by decide) ?_
            refine g_isub C.c dX7_layLetter_105 ?_
            exact g_mask [true, true, false] rfl (bX7_layLetter_b106 C hQ h)
          · replace h := ite_t c h
            refine g_bipush C.c dX7_layLetter_97 (v := (10 : Int32)) (by decide) ?_
            refine g_goto C.c (tgt := 106) dX7_layLetter_99 (by decide) ?_
            exact g_mask [true, true, false] rfl (bX7_layLetter_b106 C hQ h)
        · replace h := ite_t c h
          refine g_bipush C.c dX7_layLetter_86 (v := (11 : Int32)) (by decide) ?_
          refine g_goto C.c (tgt := 106) dX7_layLetter_88 (by decide) ?_
          exact g_mask [true, true, false] rfl (bX7_layLetter_b106 C hQ h)
    · replace h := ite_f c h
      refine g_aload_n C.c dX7_layLetter_41 rfl (i := 0) rfl ?_
      refine gf_7_29 C dX7_layLetter_42 ?_
      refine g_if_le C.c (tgt := 148) dX7_layLetter_45 (by decide) (fun c => ?_) (fun c => ?_)
      · replace h := ite_t c h
        obtain rfl := Option.some.inj h
        exact g_vret C hQ dX7_layLetter_148 ⟨rfl, rfl⟩
      · replace h := ite_f c h
        refine g_aload_n C.c dX7_layLetter_48 rfl (i := 0) rfl ?_
        refine gf_7_15 C dX7_layLetter_49 ?_
        refine g_aload_n C.c dX7_layLetter_52 rfl (i := 0) rfl ?_
        refine gf_7_29 C dX7_layLetter_53 ?_
        refine g_iconst C.c dX7_layLetter_56 (v := (1 : Int32)) (by decide) ?_
        refine g_isub C.c dX7_layLetter_57 ?_
        refine g_iload_n C.c dX7_layLetter_58 rfl (i := 2) rfl ?_
        obtain ⟨c5, h⟩ := chk h
        refine g_iast C dX7_layLetter_59 rfl c5 ?_
        refine g_goto C.c (tgt := 148) dX7_layLetter_60 (by decide) ?_
        obtain rfl := Option.some.inj h
        exact g_vret C hQ dX7_layLetter_148 ⟨rfl, rfl⟩
  · replace h := ite_t c h
    refine g_aload_n C.c dX7_layLetter_11 rfl (i := 0) rfl ?_
    refine g_aload_n C.c dX7_layLetter_12 rfl (i := 0) rfl ?_
    refine gf_7_37 C dX7_layLetter_13 ?_
    refine g_if_ne C.c (tgt := 26) dX7_layLetter_16 (by decide) (fun c => ?_) (fun c => ?_)
    · replace h := ite_f c h
      refine g_aload_n C.c dX7_layLetter_26 rfl (i := 0) rfl ?_
      refine gf_7_37 C dX7_layLetter_27 ?_
      exact g_mask [false, false, false] rfl (bX7_layLetter_b30 C hQ h)
    · replace h := ite_t c h
      refine g_aload_n C.c dX7_layLetter_19 rfl (i := 0) rfl ?_
      refine gf_7_29 C dX7_layLetter_20 ?_
      refine g_goto C.c (tgt := 30) dX7_layLetter_23 (by decide) ?_
      exact g_mask [false, false, false] rfl (bX7_layLetter_b30 C hQ h)
def fX7_layLetter (a0 : Int32) (σ : Sg) : Option (Sg) := fX7_layLetter_b0 a0 σ
theorem ct_X7_layLetter {a0 : Int32} {σ : Sg} {p : Sg} (h : fX7_layLetter a0 σ = some p) : Ct layC yX7_layLetter cX7_layLetter 3 none 2 (fun ad => [.ref (ad 4), .int a0]) σ (okV p) :=
 ct_of (L0 := fun ad => [some (.ref (ad 4)), some (.int a0), none]) (by decide) (fun _ => Nat.le_of_ble_eq_true rfl) (fun _ => rfl) (fun K C hQ => g_mask [true, true, false] rfl (bX7_layLetter_b0 C hQ h))
-- X7_measure
theorem dX7_measure_0 : decode cX7_measure 0 = .ok (.aload_n 0, 1) := by decide +kernel
theorem dX7_measure_1 : decode cX7_measure 1 = .ok (.getfield 37, 3) := by decide +kernel
theorem dX7_measure_4 : decode cX7_measure 4 = .ok (.ifCond .ne 4, 3) := by decide +kernel
theorem dX7_measure_7 : decode cX7_measure 7 = .ok (.return_, 1) := by decide +kernel
theorem dX7_measure_8 : decode cX7_measure 8 = .ok (.iconst 0, 1) := by decide +kernel
theorem dX7_measure_9 : decode cX7_measure 9 = .ok (.istore_n 1, 1) := by decide +kernel
theorem dX7_measure_10 : decode cX7_measure 10 = .ok (.iload_n 1, 1) := by decide +kernel
theorem dX7_measure_11 : decode cX7_measure 11 = .ok (.aload_n 0, 1) := by decide +kernel
theorem dX7_measure_12 : decode cX7_measure 12 = .ok (.getfield 29, 3) := by decide +kernel
theorem dX7_measure_15 : decode cX7_measure 15 = .ok (.if_icmp .ge 58, 3) := by decide +kernel
theorem dX7_measure_18 : decode cX7_measure 18 = .ok (.iload_n 1, 1) := by decide +kernel
theorem dX7_measure_19 : decode cX7_measure 19 = .ok (.aload_n 0, 1) := by decide +kernel
theorem dX7_measure_20 : decode cX7_measure 20 = .ok (.getfield 37, 3) := by decide +kernel
theorem dX7_measure_23 : decode cX7_measure 23 = .ok (.idiv, 1) := by decide +kernel
theorem dX7_measure_24 : decode cX7_measure 24 = .ok (.aload_n 0, 1) := by decide +kernel
theorem dX7_measure_25 : decode cX7_measure 25 = .ok (.getfield 64, 3) := by decide +kernel
theorem dX7_measure_28 : decode cX7_measure 28 = .ok (.aload_n 0, 1) := by decide +kernel
theorem dX7_measure_29 : decode cX7_measure 29 = .ok (.getfield 37, 3) := by decide +kernel
theorem dX7_measure_32 : decode cX7_measure 32 = .ok (.idiv, 1) := by decide +kernel
theorem dX7_measure_33 : decode cX7_measure 33 = .ok (.isub, 1) := by decide +kernel
theorem dX7_measure_34 : decode cX7_measure 34 = .ok (.invokestatic 67, 3) := by decide +kernel
theorem dX7_measure_37 : decode cX7_measure 37 = .ok (.istore_n 2, 1) := by decide +kernel
theorem dX7_measure_38 : decode cX7_measure 38 = .ok (.iload_n 1, 1) := by decide +kernel
theorem dX7_measure_39 : decode cX7_measure 39 = .ok (.aload_n 0, 1) := by decide +kernel
theorem dX7_measure_40 : decode cX7_measure 40 = .ok (.getfield 37, 3) := by decide +kernel
theorem dX7_measure_43 : decode cX7_measure 43 = .ok (.irem, 1) := by decide +kernel
theorem dX7_measure_44 : decode cX7_measure 44 = .ok (.aload_n 0, 1) := by decide +kernel
theorem dX7_measure_45 : decode cX7_measure 45 = .ok (.getfield 64, 3) := by decide +kernel
theorem dX7_measure_48 : decode cX7_measure 48 = .ok (.aload_n 0, 1) := by decide +kernel
theorem dX7_measure_49 : decode cX7_measure 49 = .ok (.getfield 37, 3) := by decide +kernel
theorem dX7_measure_52 : decode cX7_measure 52 = .ok (.irem, 1) := by decide +kernel
theorem dX7_measure_53 : decode cX7_measure 53 = .ok (.isub, 1) := by decide +kernel
theorem dX7_measure_54 : decode cX7_measure 54 = .ok (.invokestatic 67, 3) := by decide +kernel
theorem dX7_measure_57 : decode cX7_measure 57 = .ok (.istore_n 3, 1) := by decide +kernel
theorem dX7_measure_58 : decode cX7_measure 58 = .ok (.aload_n 0, 1) := by decide +kernel
theorem dX7_measure_59 : decode cX7_measure 59 = .ok (.getfield 18, 3) := by decide +kernel
theorem dX7_measure_62 : decode cX7_measure 62 = .ok (.iload_n 1, 1) := by decide +kernel
theorem dX7_measure_63 : decode cX7_measure 63 = .ok (.iload_n 2, 1) := by decide +kernel
theorem dX7_measure_64 : decode cX7_measure 64 = .ok (.iload_n 3, 1) := by decide +kernel
theorem dX7_measure_65 : decode cX7_measure 65 = .ok (.iadd, 1) := by decide +kernel
theorem dX7_measure_66 : decode cX7_measure 66 = .ok (.iastore, 1) := by decide +kernel
theorem dX7_measure_67 : decode cX7_measure 67 = .ok (.iinc 1 1, 3) := by decide +kernel
theorem dX7_measure_70 : decode cX7_measure 70 = .ok (.goto (-60), 3) := by decide +kernel
theorem dX7_measure_73 : decode cX7_measure 73 = .ok (.return_, 1) := by decide +kernel
theorem cw_X7_measure : Cw yX7_measure cX7_measure 4 none 0 := ⟨aw_392, aw_22, ⟨by decide, by decide⟩, by decide +kernel, by decide⟩
theorem gf_7_18 {K : KT} {cc : ByteArray} {nL d pc : Nat} {ret : Option FieldType} {L : List (Option Value)} {st : List Value} {σ : Sg} (C : Cx K layC cc RX7 nL d ret)  (hd : decode cc pc = .ok (.getfield 18, 3)) (k : G K (pc + 3) L (.ref (kad K 7) :: st) (Wd K layC σ)) : G K pc L (.ref (kad K 4) :: st) (Wd K layC σ) := g_get C (o := 4) (ci := 7) (k := 2) hd rfl rfl rfl (by decide) (Or.inl aw_89) inA7 rfl k
def fX7_measure_b10 (x1 : Int32) (σ : Sg) : Option ((Int32 × Sg) ⊕ ((Sg))) :=
  if (rI σ 4 5) ≤ x1 then (some (.inr σ)) else (if (rI σ 4 6) = 0 then none else if (rI σ 4 6) = 0 then none else if (rI σ 4 6) = 0 then none else if (rI σ 4 6) = 0 then none else if inb x1 30 = true then (some (.inl ((x1 + (1 : Int32)), (wI σ 7 (x1).toNatClampNeg ((iabs ((x1 / (rI σ 4 6)) - ((rI σ 4 7) / (rI σ 4 6)))) + (iabs ((x1 - x1 / (rI σ 4 6) * (rI σ 4 6)) - ((rI σ 4 7) - (rI σ 4 7) / (rI σ 4 6) * (rI σ 4 6))))))))) else none)
def fX7_measure_b0  (σ : Sg) : Option (Sg) :=
  if (rI σ 4 6) = 0 then (some σ) else (Option.bind (lp (fun s => fX7_measure_b10 s.1 s.2) FU ((0 : Int32), σ)) fun t6 => some t6)
set_option maxRecDepth 4000 in
theorem bX7_measure_b10 {K : KT} {x1 : Int32} {σ : Sg} {o : (Int32 × Sg) ⊕ ((Sg))} (C : Cx K layC cX7_measure RX7 4 (1) none)  (hI : ∀ s' : Int32 × Sg, o = .inl s' → G K 10 [some (.ref (kad K 4)), some (.int s'.1), none, none] [] (Wd K layC s'.2)) (hE0 : ∀ t : Sg, o = .inr t → G K 73 [none, none, none, none] [] (Wd K layC t)) (h : fX7_measure_b10 x1 σ = some o) : G K 10 [some (.ref (kad K 4)), some (.int x1), none, none] [] (Wd K layC σ) := by
  unfold fX7_measure_b10 at h
  refine g_iload_n C.c dX7_measure_10 rfl (i := 1) rfl ?_
  refine g_aload_n C.c dX7_measure_11 rfl (i := 0) rfl ?_
  refine gf_7_29 C dX7_measure_12 ?_
  refine g_icmp_ge C.c (tgt := 73) dX7_measure_15 (by decide) (fun c => ?_) (fun c => ?_)
  · replace h := ite_t c h
    have g9 := hE0 _ (Option.some.inj h).symm
    exact g_mask [false, false, false, false] rfl g9
  · replace h := ite_f c h
    refine g_iload_n C.c dX7_measure_18 rfl (i := 1) rfl ?_
    refine g_aload_n C.c dX7_measure_19 rfl (i := 0) rfl ?_
    refine gf_7_37 C dX7_measure_20 ?_
    obtain ⟨c1, h⟩ := chk0 h
    refine g_idiv C.c dX7_measure_23 c1 ?_
    refine g_aload_n C.c dX7_measure_24 rfl (i := 0) rfl ?_
    refine gf_7_64 C dX7_measure_25 ?_
    refine g_aload_n C.c dX7_measure_28 rfl (i := 0) rfl ?_
    refine gf_7_37 C dX7_measure_29 ?_
    obtain ⟨c2, h⟩ := chk0 h
    refine g_idiv C.c dX7_measure_32 c2 ?_
    refine g_isub C.c dX7_measure_33 ?_
    refine g_abs C.c dX7_measure_34 aw_393 aw_394 aw_29 aw_395 rfl (Nat.le_of_ble_eq_true rfl) (Nat.le_of_ble_eq_true rfl) ?_
    refine g_istore_n C.c (i := 2) (L' := [some (.ref (kad K 4)), some (.int x1), some (.int (iabs ((x1 / (rI σ 4 6)) - ((rI σ 4 7) / (rI σ 4 6))))), none]) dX7_measure_37 rfl (Nat.le_of_ble_eq_true rfl) rfl ?_
    refine g_iload_n C.c dX7_measure_38 rfl (i := 1) rfl ?_
    refine g_aload_n C.c dX7_measure_39 rfl (i := 0) rfl ?_
    refine gf_7_37 C dX7_measure_40 ?_
    obtain ⟨c3, h⟩ := chk0 h
    refine g_irem C.c dX7_measure_43 c3 ?_
    refine g_aload_n C.c dX7_measure_44 rfl (i := 0) rfl ?_
    refine gf_7_64 C dX7_measure_45 ?_
    refine g_aload_n C.c dX7_measure_48 rfl (i := 0) rfl ?_
    refine gf_7_37 C dX7_measure_49 ?_
    obtain ⟨c4, h⟩ := chk0 h
    refine g_irem C.c dX7_measure_52 c4 ?_
    refine g_isub C.c dX7_measure_53 ?_
    refine g_abs C.c dX7_measure_54 aw_393 aw_394 aw_29 aw_395 rfl (Nat.le_of_ble_eq_true rfl) (Nat.le_of_ble_eq_true rfl) ?_
    refine g_istore_n C.c (i := 3) (L' := [some (.ref (kad K 4)), some (.int x1), some (.int (iabs ((x1 / (rI σ 4 6)) - ((rI σ 4 7) / (rI σ 4 6))))), some (.int (iabs ((x1 - x1 / (rI σ 4 6) * (rI σ 4 6)) - ((rI σ 4 7) - (rI σ 4 7) / (rI σ 4 6) * (rI σ 4 6)))))]) dX7_measure_57 rfl (Nat.le_of_ble_eq_true rfl) rfl ?_
    refine g_aload_n C.c dX7_measure_58 rfl (i := 0) rfl ?_
    refine gf_7_18 C dX7_measure_59 ?_
    refine g_iload_n C.c dX7_measure_62 rfl (i := 1) rfl ?_
    refine g_iload_n C.c dX7_measure_63 rfl (i := 2) rfl ?_
    refine g_iload_n C.c dX7_measure_64 rfl (i := 3) rfl ?_
    refine g_iadd C.c dX7_measure_65 ?_
    obtain ⟨c5, h⟩ := chk h
    refine g_iast C dX7_measure_66 rfl c5 ?_
    refine g_iinc C.c (i := 1) (y := (1 : Int32)) (L' := [some (.ref (kad K 4)), some (.int (x1 + (1 : Int32))), some (.int (iabs ((x1 / (rI σ 4 6)) - ((rI σ 4 7) / (rI σ 4 6))))), some (.int (iabs ((x1 - x1 / (rI σ 4 6) * (rI σ 4 6)) - ((rI σ 4 7) - (rI σ 4 7) / (rI σ 4 6) * (rI σ 4 6)))))]) dX7_measure_67 rfl (by decide) (Nat.le_of_ble_eq_true rfl) rfl ?_
    refine g_goto C.c (tgt := 10) dX7_measure_70 (by decide) ?_
    have g9 := hI _ (Option.some.inj h).symm
    exact g_mask [true, true, false, false] rfl g9
set_option maxRecDepth 4000 in
theorem bX7_measure_b0 {K : KT}  {σ : Sg} {o : Sg} (C : Cx K layC cX7_measure RX7 4 (1) none)  (hQ : Rk K layC (okV o)) (h : fX7_measure_b0  σ = some o) : G K 0 [some (.ref (kad K 4)), none, none, none] [] (Wd K layC σ) := by
  unfold fX7_measure_b0 at h
  refine g_aload_n C.c dX7_measure_0 rfl (i := 0) rfl ?_
  refine gf_7_37 C dX7_measure_1 ?_
  refine g_if_ne C.c (tgt := 8) dX7_measure_4 (by decide) (fun c => ?_) (fun c => ?_)
  · replace h := ite_f c h
    refine g_iconst C.c dX7_measure_8 (v := (0 : Int32)) (by decide) ?_
    refine g_istore_n C.c (i := 1) (L' := [some (.ref (kad K 4)), some (.int (0 : Int32)), none, none]) dX7_measure_9 rfl (Nat.le_of_ble_eq_true rfl) rfl ?_
    refine g_mask [true, true, false, false] rfl ?_
    refine lp_bind (Gh := fun s => G K 10 [some (.ref (kad K 4)), some (.int s.1), none, none] [] (Wd K layC s.2)) h (fun s o2 hf gI gE => ?_)
    refine bX7_measure_b10 C gI (fun t6 e => ?_) hf
    · have h := gE _ e
      obtain rfl := Option.some.inj h
      exact g_vret C hQ dX7_measure_73 ⟨rfl, rfl⟩
  · replace h := ite_t c h
    obtain rfl := Option.some.inj h
    exact g_vret C hQ dX7_measure_7 ⟨rfl, rfl⟩
def fX7_measure (σ : Sg) : Option (Sg) := fX7_measure_b0 σ
theorem ct_X7_measure {σ : Sg} {p : Sg} (h : fX7_measure σ = some p) : Ct layC yX7_measure cX7_measure 4 none 1 (fun ad => [.ref (ad 4)]) σ (okV p) :=
 ct_of (L0 := fun ad => [some (.ref (ad 4)), none, none, none]) (by decide) (fun _ => Nat.le_of_ble_eq_true rfl) (fun _ => rfl) (fun K C hQ => g_mask [true, false, false, false] rfl (bX7_measure_b0 C hQ h))
-- X7_beside
theorem dX7_beside_0 : decode cX7_beside 0 = .ok (.aload_n 0, 1) := by decide +kernel
theorem dX7_beside_1 : decode cX7_beside 1 = .ok (.getfield 37, 3) := by decide +kernel
theorem dX7_beside_4 : decode cX7_beside 4 = .ok (.ifCond .ne 5, 3) := by decide +kernel
theorem dX7_beside_7 : decode cX7_beside 7 = .ok (.iconst (-1), 1) := by decide +kernel
theorem dX7_beside_8 : decode cX7_beside 8 = .ok (.ireturn, 1) := by decide +kernel
theorem dX7_beside_9 : decode cX7_beside 9 = .ok (.iload_n 1, 1) := by decide +kernel
theorem dX7_beside_10 : decode cX7_beside 10 = .ok (.aload_n 0, 1) := by decide +kernel
theorem dX7_beside_11 : decode cX7_beside 11 = .ok (.getfield 37, 3) := by decide +kernel
theorem dX7_beside_14 : decode cX7_beside 14 = .ok (.irem, 1) := by decide +kernel
theorem dX7_beside_15 : decode cX7_beside 15 = .ok (.istore_n 3, 1) := by decide +kernel
theorem dX7_beside_16 : decode cX7_beside 16 = .ok (.iload_n 2, 1) := by decide +kernel
theorem dX7_beside_17 : decode cX7_beside 17 = .ok (.tableswitch 88 0 2 #[27, 46, 64], 27) := by decide +kernel
theorem dX7_beside_44 : decode cX7_beside 44 = .ok (.iload_n 1, 1) := by decide +kernel
theorem dX7_beside_45 : decode cX7_beside 45 = .ok (.aload_n 0, 1) := by decide +kernel
theorem dX7_beside_46 : decode cX7_beside 46 = .ok (.getfield 37, 3) := by decide +kernel
theorem dX7_beside_49 : decode cX7_beside 49 = .ok (.if_icmp .lt 12, 3) := by decide +kernel
theorem dX7_beside_52 : decode cX7_beside 52 = .ok (.iload_n 1, 1) := by decide +kernel
theorem dX7_beside_53 : decode cX7_beside 53 = .ok (.aload_n 0, 1) := by decide +kernel
theorem dX7_beside_54 : decode cX7_beside 54 = .ok (.getfield 37, 3) := by decide +kernel
theorem dX7_beside_57 : decode cX7_beside 57 = .ok (.isub, 1) := by decide +kernel
theorem dX7_beside_58 : decode cX7_beside 58 = .ok (.goto 4, 3) := by decide +kernel
theorem dX7_beside_61 : decode cX7_beside 61 = .ok (.iconst (-1), 1) := by decide +kernel
theorem dX7_beside_62 : decode cX7_beside 62 = .ok (.ireturn, 1) := by decide +kernel
theorem dX7_beside_63 : decode cX7_beside 63 = .ok (.iload_n 3, 1) := by decide +kernel
theorem dX7_beside_64 : decode cX7_beside 64 = .ok (.iconst 1, 1) := by decide +kernel
theorem dX7_beside_65 : decode cX7_beside 65 = .ok (.iadd, 1) := by decide +kernel
theorem dX7_beside_66 : decode cX7_beside 66 = .ok (.aload_n 0, 1) := by decide +kernel
theorem dX7_beside_67 : decode cX7_beside 67 = .ok (.getfield 37, 3) := by decide +kernel
theorem dX7_beside_70 : decode cX7_beside 70 = .ok (.if_icmp .ge 9, 3) := by decide +kernel
theorem dX7_beside_73 : decode cX7_beside 73 = .ok (.iload_n 1, 1) := by decide +kernel
theorem dX7_beside_74 : decode cX7_beside 74 = .ok (.iconst 1, 1) := by decide +kernel
theorem dX7_beside_75 : decode cX7_beside 75 = .ok (.iadd, 1) := by decide +kernel
theorem dX7_beside_76 : decode cX7_beside 76 = .ok (.goto 4, 3) := by decide +kernel
theorem dX7_beside_79 : decode cX7_beside 79 = .ok (.iconst (-1), 1) := by decide +kernel
theorem dX7_beside_80 : decode cX7_beside 80 = .ok (.ireturn, 1) := by decide +kernel
theorem dX7_beside_81 : decode cX7_beside 81 = .ok (.iload_n 1, 1) := by decide +kernel
theorem dX7_beside_82 : decode cX7_beside 82 = .ok (.aload_n 0, 1) := by decide +kernel
theorem dX7_beside_83 : decode cX7_beside 83 = .ok (.getfield 37, 3) := by decide +kernel
theorem dX7_beside_86 : decode cX7_beside 86 = .ok (.iadd, 1) := by decide +kernel
theorem dX7_beside_87 : decode cX7_beside 87 = .ok (.aload_n 0, 1) := by decide +kernel
theorem dX7_beside_88 : decode cX7_beside 88 = .ok (.getfield 29, 3) := by decide +kernel
theorem dX7_beside_91 : decode cX7_beside 91 = .ok (.if_icmp .ge 12, 3) := by decide +kernel
theorem dX7_beside_94 : decode cX7_beside 94 = .ok (.iload_n 1, 1) := by decide +kernel
theorem dX7_beside_95 : decode cX7_beside 95 = .ok (.aload_n 0, 1) := by decide +kernel
theorem dX7_beside_96 : decode cX7_beside 96 = .ok (.getfield 37, 3) := by decide +kernel
theorem dX7_beside_99 : decode cX7_beside 99 = .ok (.iadd, 1) := by decide +kernel
theorem dX7_beside_100 : decode cX7_beside 100 = .ok (.goto 4, 3) := by decide +kernel
theorem dX7_beside_103 : decode cX7_beside 103 = .ok (.iconst (-1), 1) := by decide +kernel
theorem dX7_beside_104 : decode cX7_beside 104 = .ok (.ireturn, 1) := by decide +kernel
theorem dX7_beside_105 : decode cX7_beside 105 = .ok (.iload_n 3, 1) := by decide +kernel
theorem dX7_beside_106 : decode cX7_beside 106 = .ok (.ifCond .le 9, 3) := by decide +kernel
theorem dX7_beside_109 : decode cX7_beside 109 = .ok (.iload_n 1, 1) := by decide +kernel
theorem dX7_beside_110 : decode cX7_beside 110 = .ok (.iconst 1, 1) := by decide +kernel
theorem dX7_beside_111 : decode cX7_beside 111 = .ok (.isub, 1) := by decide +kernel
theorem dX7_beside_112 : decode cX7_beside 112 = .ok (.goto 4, 3) := by decide +kernel
theorem dX7_beside_115 : decode cX7_beside 115 = .ok (.iconst (-1), 1) := by decide +kernel
theorem dX7_beside_116 : decode cX7_beside 116 = .ok (.ireturn, 1) := by decide +kernel
theorem cw_X7_beside : Cw yX7_beside cX7_beside 4 (some .int) 2 := ⟨aw_403, aw_22, ⟨by decide, by decide⟩, by decide +kernel, by decide⟩
def fX7_beside_b0 (x1 : Int32) (x2 : Int32) (σ : Sg) : Option (Int32 × Sg) :=
  if (rI σ 4 6) = 0 then (some ((-1 : Int32), σ)) else (if (rI σ 4 6) = 0 then none else if x2 = (0 : Int32) then (if x1 < (rI σ 4 6) then (some ((-1 : Int32), σ)) else (some ((x1 - (rI σ 4 6)), σ))) else (if x2 = (1 : Int32) then (if (rI σ 4 6) ≤ ((x1 - x1 / (rI σ 4 6) * (rI σ 4 6)) + (1 : Int32)) then (some ((-1 : Int32), σ)) else (some ((x1 + (1 : Int32)), σ))) else (if x2 = (2 : Int32) then (if (rI σ 4 5) ≤ (x1 + (rI σ 4 6)) then (some ((-1 : Int32), σ)) else (some ((x1 + (rI σ 4 6)), σ))) else (if (x1 - x1 / (rI σ 4 6) * (rI σ 4 6)) ≤ 0 then (some ((-1 : Int32), σ)) else (some ((x1 - (1 : Int32)), σ))))))
set_option maxRecDepth 4000 in
theorem bX7_beside_b0 {K : KT} {x1 : Int32} {x2 : Int32} {σ : Sg} {o : Int32 × Sg} (C : Cx K layC cX7_beside RX7 4 (1) (some .int))  (hQ : Rk K layC (okI o)) (h : fX7_beside_b0 x1 x2 σ = some o) : G K 0 [some (.ref (kad K 4)), some (.int x1), some (.int x2), none] [] (Wd K layC σ) := by
  unfold fX7_beside_b0 at h
  refine g_aload_n C.c dX7_beside_0 rfl (i := 0) rfl ?_
  refine gf_7_37 C dX7_beside_1 ?_
  refine g_if_ne C.c (tgt := 9) dX7_beside_4 (by decide) (fun c => ?_) (fun c => ?_)
  · replace h := ite_f c h
    refine g_iload_n C.c dX7_beside_9 rfl (i := 1) rfl ?_
    refine g_aload_n C.c dX7_beside_10 rfl (i := 0) rfl ?_
    refine gf_7_37 C dX7_beside_11 ?_
    obtain ⟨c1, h⟩ := chk0 h
    refine g_irem C.c dX7_beside_14 c1 ?_
    refine g_istore_n C.c (i := 3) (L' := [some (.ref (kad K 4)), some (.int x1), some (.int x2), some (.int (x1 - x1 / (rI σ 4 6) * (rI σ 4 6)))]) dX7_beside_15 rfl (Nat.le_of_ble_eq_true rfl) rfl ?_
    refine g_iload_n C.c dX7_beside_16 rfl (i := 2) rfl ?_
    by_cases c0 : x2 = (0 : Int32)
    · replace h := ite_t c0 h
      refine g_tblIn C.c (tgt := 44) (off := 27) c0 dX7_beside_17 (by decide) (by decide) (by decide) (by decide) ?_
      refine g_iload_n C.c dX7_beside_44 rfl (i := 1) rfl ?_
      refine g_aload_n C.c dX7_beside_45 rfl (i := 0) rfl ?_
      refine gf_7_37 C dX7_beside_46 ?_
      refine g_icmp_lt C.c (tgt := 61) dX7_beside_49 (by decide) (fun c => ?_) (fun c => ?_)
      · replace h := ite_t c h
        refine g_iconst C.c dX7_beside_61 (v := (-1 : Int32)) (by decide) ?_
        obtain rfl := Option.some.inj h
        exact g_iret C hQ dX7_beside_62 rfl ⟨rfl, rfl⟩
      · replace h := ite_f c h
        refine g_iload_n C.c dX7_beside_52 rfl (i := 1) rfl ?_
        refine g_aload_n C.c dX7_beside_53 rfl (i := 0) rfl ?_
        refine gf_7_37 C dX7_beside_54 ?_
        refine g_isub C.c dX7_beside_57 ?_
        refine g_goto C.c (tgt := 62) dX7_beside_58 (by decide) ?_
        obtain rfl := Option.some.inj h
        exact g_iret C hQ dX7_beside_62 rfl ⟨rfl, rfl⟩
    · replace h := ite_f c0 h
      by_cases c1 : x2 = (1 : Int32)
      · replace h := ite_t c1 h
        refine g_tblIn C.c (tgt := 63) (off := 46) c1 dX7_beside_17 (by decide) (by decide) (by decide) (by decide) ?_
        refine g_iload_n C.c dX7_beside_63 rfl (i := 3) rfl ?_
        refine g_iconst C.c dX7_beside_64 (v := (1 : Int32)) (by decide) ?_
        refine g_iadd C.c dX7_beside_65 ?_
        refine g_aload_n C.c dX7_beside_66 rfl (i := 0) rfl ?_
        refine gf_7_37 C dX7_beside_67 ?_
        refine g_icmp_ge C.c (tgt := 79) dX7_beside_70 (by decide) (fun c => ?_) (fun c => ?_)
        · replace h := ite_t c h
          refine g_iconst C.c dX7_beside_79 (v := (-1 : Int32)) (by decide) ?_
          obtain rfl := Option.some.inj h
          exact g_iret C hQ dX7_beside_80 rfl ⟨rfl, rfl⟩
        · replace h := ite_f c h
          refine g_iload_n C.c dX7_beside_73 rfl (i := 1) rfl ?_
          refine g_iconst C.c dX7_beside_74 (v := (1 : Int32)) (by decide) ?_
          refine g_iadd C.c dX7_beside_75 ?_
          refine g_goto C.c (tgt := 80) dX7_beside_76 (by decide) ?_
          obtain rfl := Option.some.inj h
          exact g_iret C hQ dX7_beside_80 rfl ⟨rfl, rfl⟩
      · replace h := ite_f c1 h
        by_cases c2 : x2 = (2 : Int32)
        · replace h := ite_t c2 h
          refine g_tblIn C.c (tgt := 81) (off := 64) c2 dX7_beside_17 (by decide) (by decide) (by decide) (by decide) ?_
          refine g_iload_n C.c dX7_beside_81 rfl (i := 1) rfl ?_
          refine g_aload_n C.c dX7_beside_82 rfl (i := 0) rfl ?_
          refine gf_7_37 C dX7_beside_83 ?_
          refine g_iadd C.c dX7_beside_86 ?_
          refine g_aload_n C.c dX7_beside_87 rfl (i := 0) rfl ?_
          refine gf_7_29 C dX7_beside_88 ?_
          refine g_icmp_ge C.c (tgt := 103) dX7_beside_91 (by decide) (fun c => ?_) (fun c => ?_)
          · replace h := ite_t c h
            refine g_iconst C.c dX7_beside_103 (v := (-1 : Int32)) (by decide) ?_
            obtain rfl := Option.some.inj h
            exact g_iret C hQ dX7_beside_104 rfl ⟨rfl, rfl⟩
          · replace h := ite_f c h
            refine g_iload_n C.c dX7_beside_94 rfl (i := 1) rfl ?_
            refine g_aload_n C.c dX7_beside_95 rfl (i := 0) rfl ?_
            refine gf_7_37 C dX7_beside_96 ?_
            refine g_iadd C.c dX7_beside_99 ?_
            refine g_goto C.c (tgt := 104) dX7_beside_100 (by decide) ?_
            obtain rfl := Option.some.inj h
            exact g_iret C hQ dX7_beside_104 rfl ⟨rfl, rfl⟩
        · replace h := ite_f c2 h
          refine g_tblOut C.c (tgt := 105) [(0 : Int32), (1 : Int32), (2 : Int32)] (by decide) ⟨c0, c1, c2, trivial⟩ dX7_beside_17 (by decide) ?_
          refine g_iload_n C.c dX7_beside_105 rfl (i := 3) rfl ?_
          refine g_if_le C.c (tgt := 115) dX7_beside_106 (by decide) (fun c => ?_) (fun c => ?_)
          · replace h := ite_t c h
            refine g_iconst C.c dX7_beside_115 (v := (-1 : Int32)) (by decide) ?_
            obtain rfl := Option.some.inj h
            exact g_iret C hQ dX7_beside_116 rfl ⟨rfl, rfl⟩
          · replace h := ite_f c h
            refine g_iload_n C.c dX7_beside_109 rfl (i := 1) rfl ?_
            refine g_iconst C.c dX7_beside_110 (v := (1 : Int32)) (by decide) ?_
            refine g_isub C.c dX7_beside_111 ?_
            refine g_goto C.c (tgt := 116) dX7_beside_112 (by decide) ?_
            obtain rfl := Option.some.inj h
            exact g_iret C hQ dX7_beside_116 rfl ⟨rfl, rfl⟩
  · replace h := ite_t c h
    refine g_iconst C.c dX7_beside_7 (v := (-1 : Int32)) (by decide) ?_
    obtain rfl := Option.some.inj h
    exact g_iret C hQ dX7_beside_8 rfl ⟨rfl, rfl⟩
def fX7_beside (a0 : Int32) (a1 : Int32) (σ : Sg) : Option (Int32 × Sg) := fX7_beside_b0 a0 a1 σ
theorem ct_X7_beside {a0 : Int32} {a1 : Int32} {σ : Sg} {p : Int32 × Sg} (h : fX7_beside a0 a1 σ = some p) : Ct layC yX7_beside cX7_beside 4 (some .int) 1 (fun ad => [.ref (ad 4), .int a0, .int a1]) σ (okI p) :=
 ct_of (L0 := fun ad => [some (.ref (ad 4)), some (.int a0), some (.int a1), none]) (by decide) (fun _ => Nat.le_of_ble_eq_true rfl) (fun _ => rfl) (fun K C hQ => g_mask [true, true, true, false] rfl (bX7_beside_b0 C hQ h))
-- X7_openWays
theorem dX7_openWays_0 : decode cX7_openWays 0 = .ok (.iconst 0, 1) := by decide +kernel
theorem dX7_openWays_1 : decode cX7_openWays 1 = .ok (.istore_n 2, 1) := by decide +kernel
theorem dX7_openWays_2 : decode cX7_openWays 2 = .ok (.iload_n 2, 1) := by decide +kernel
theorem dX7_openWays_3 : decode cX7_openWays 3 = .ok (.aload_n 0, 1) := by decide +kernel
theorem dX7_openWays_4 : decode cX7_openWays 4 = .ok (.getfield 29, 3) := by decide +kernel
theorem dX7_openWays_7 : decode cX7_openWays 7 = .ok (.if_icmp .ge 147, 3) := by decide +kernel
theorem dX7_openWays_10 : decode cX7_openWays 10 = .ok (.aload_n 0, 1) := by decide +kernel
theorem dX7_openWays_11 : decode cX7_openWays 11 = .ok (.getfield 18, 3) := by decide +kernel
theorem dX7_openWays_14 : decode cX7_openWays 14 = .ok (.iload_n 2, 1) := by decide +kernel
theorem dX7_openWays_15 : decode cX7_openWays 15 = .ok (.iaload, 1) := by decide +kernel
theorem dX7_openWays_16 : decode cX7_openWays 16 = .ok (.iload_n 1, 1) := by decide +kernel
theorem dX7_openWays_17 : decode cX7_openWays 17 = .ok (.if_icmp .eq 6, 3) := by decide +kernel
theorem dX7_openWays_20 : decode cX7_openWays 20 = .ok (.goto 128, 3) := by decide +kernel
theorem dX7_openWays_23 : decode cX7_openWays 23 = .ok (.aload_n 0, 1) := by decide +kernel
theorem dX7_openWays_24 : decode cX7_openWays 24 = .ok (.getfield 21, 3) := by decide +kernel
theorem dX7_openWays_27 : decode cX7_openWays 27 = .ok (.iload_n 2, 1) := by decide +kernel
theorem dX7_openWays_28 : decode cX7_openWays 28 = .ok (.iload_n 1, 1) := by decide +kernel
theorem dX7_openWays_29 : decode cX7_openWays 29 = .ok (.ifCond .ne 7, 3) := by decide +kernel
theorem dX7_openWays_32 : decode cX7_openWays 32 = .ok (.iconst 1, 1) := by decide +kernel
theorem dX7_openWays_33 : decode cX7_openWays 33 = .ok (.goto 4, 3) := by decide +kernel
theorem dX7_openWays_36 : decode cX7_openWays 36 = .ok (.iconst 0, 1) := by decide +kernel
theorem dX7_openWays_37 : decode cX7_openWays 37 = .ok (.iastore, 1) := by decide +kernel
theorem dX7_openWays_38 : decode cX7_openWays 38 = .ok (.iconst 0, 1) := by decide +kernel
theorem dX7_openWays_39 : decode cX7_openWays 39 = .ok (.istore_n 3, 1) := by decide +kernel
theorem dX7_openWays_40 : decode cX7_openWays 40 = .ok (.iload_n 3, 1) := by decide +kernel
theorem dX7_openWays_41 : decode cX7_openWays 41 = .ok (.iconst 4, 1) := by decide +kernel
theorem dX7_openWays_42 : decode cX7_openWays 42 = .ok (.if_icmp .ge 106, 3) := by decide +kernel
theorem dX7_openWays_45 : decode cX7_openWays 45 = .ok (.aload_n 0, 1) := by decide +kernel
theorem dX7_openWays_46 : decode cX7_openWays 46 = .ok (.iload_n 2, 1) := by decide +kernel
theorem dX7_openWays_47 : decode cX7_openWays 47 = .ok (.iload_n 3, 1) := by decide +kernel
theorem dX7_openWays_48 : decode cX7_openWays 48 = .ok (.invokevirtual 72, 3) := by decide +kernel
theorem dX7_openWays_51 : decode cX7_openWays 51 = .ok (.istore 4, 2) := by decide +kernel
theorem dX7_openWays_53 : decode cX7_openWays 53 = .ok (.iload 4, 2) := by decide +kernel
theorem dX7_openWays_55 : decode cX7_openWays 55 = .ok (.iconst (-1), 1) := by decide +kernel
theorem dX7_openWays_56 : decode cX7_openWays 56 = .ok (.if_icmp .eq 39, 3) := by decide +kernel
theorem dX7_openWays_59 : decode cX7_openWays 59 = .ok (.aload_n 0, 1) := by decide +kernel
theorem dX7_openWays_60 : decode cX7_openWays 60 = .ok (.getfield 11, 3) := by decide +kernel
theorem dX7_openWays_63 : decode cX7_openWays 63 = .ok (.iload_n 2, 1) := by decide +kernel
theorem dX7_openWays_64 : decode cX7_openWays 64 = .ok (.iaload, 1) := by decide +kernel
theorem dX7_openWays_65 : decode cX7_openWays 65 = .ok (.bipush 11, 2) := by decide +kernel
theorem dX7_openWays_67 : decode cX7_openWays 67 = .ok (.if_icmp .eq 28, 3) := by decide +kernel
theorem dX7_openWays_70 : decode cX7_openWays 70 = .ok (.aload_n 0, 1) := by decide +kernel
theorem dX7_openWays_71 : decode cX7_openWays 71 = .ok (.getfield 18, 3) := by decide +kernel
theorem dX7_openWays_74 : decode cX7_openWays 74 = .ok (.iload 4, 2) := by decide +kernel
theorem dX7_openWays_76 : decode cX7_openWays 76 = .ok (.iaload, 1) := by decide +kernel
theorem dX7_openWays_77 : decode cX7_openWays 77 = .ok (.iload_n 1, 1) := by decide +kernel
theorem dX7_openWays_78 : decode cX7_openWays 78 = .ok (.if_icmp .ge 17, 3) := by decide +kernel
theorem dX7_openWays_81 : decode cX7_openWays 81 = .ok (.aload_n 0, 1) := by decide +kernel
theorem dX7_openWays_82 : decode cX7_openWays 82 = .ok (.getfield 21, 3) := by decide +kernel
theorem dX7_openWays_85 : decode cX7_openWays 85 = .ok (.iload 4, 2) := by decide +kernel
theorem dX7_openWays_87 : decode cX7_openWays 87 = .ok (.iaload, 1) := by decide +kernel
theorem dX7_openWays_88 : decode cX7_openWays 88 = .ok (.ifCond .le 7, 3) := by decide +kernel
theorem dX7_openWays_91 : decode cX7_openWays 91 = .ok (.iconst 1, 1) := by decide +kernel
theorem dX7_openWays_92 : decode cX7_openWays 92 = .ok (.goto 4, 3) := by decide +kernel
theorem dX7_openWays_95 : decode cX7_openWays 95 = .ok (.iconst 0, 1) := by decide +kernel
theorem dX7_openWays_96 : decode cX7_openWays 96 = .ok (.istore 5, 2) := by decide +kernel
theorem dX7_openWays_98 : decode cX7_openWays 98 = .ok (.aload_n 0, 1) := by decide +kernel
theorem dX7_openWays_99 : decode cX7_openWays 99 = .ok (.getfield 26, 3) := by decide +kernel
theorem dX7_openWays_102 : decode cX7_openWays 102 = .ok (.iload_n 2, 1) := by decide +kernel
theorem dX7_openWays_103 : decode cX7_openWays 103 = .ok (.aaload, 1) := by decide +kernel
theorem dX7_openWays_104 : decode cX7_openWays 104 = .ok (.iload_n 3, 1) := by decide +kernel
theorem dX7_openWays_105 : decode cX7_openWays 105 = .ok (.iload 5, 2) := by decide +kernel
theorem dX7_openWays_107 : decode cX7_openWays 107 = .ok (.ifCond .eq 8, 3) := by decide +kernel
theorem dX7_openWays_110 : decode cX7_openWays 110 = .ok (.iload 4, 2) := by decide +kernel
theorem dX7_openWays_112 : decode cX7_openWays 112 = .ok (.goto 4, 3) := by decide +kernel
theorem dX7_openWays_115 : decode cX7_openWays 115 = .ok (.iconst (-1), 1) := by decide +kernel
theorem dX7_openWays_116 : decode cX7_openWays 116 = .ok (.iastore, 1) := by decide +kernel
theorem dX7_openWays_117 : decode cX7_openWays 117 = .ok (.aload_n 0, 1) := by decide +kernel
theorem dX7_openWays_118 : decode cX7_openWays 118 = .ok (.getfield 21, 3) := by decide +kernel
theorem dX7_openWays_121 : decode cX7_openWays 121 = .ok (.iload_n 2, 1) := by decide +kernel
theorem dX7_openWays_122 : decode cX7_openWays 122 = .ok (.dup2, 1) := by decide +kernel
theorem dX7_openWays_123 : decode cX7_openWays 123 = .ok (.iaload, 1) := by decide +kernel
theorem dX7_openWays_124 : decode cX7_openWays 124 = .ok (.iload 5, 2) := by decide +kernel
theorem dX7_openWays_126 : decode cX7_openWays 126 = .ok (.ifCond .eq 13, 3) := by decide +kernel
theorem dX7_openWays_129 : decode cX7_openWays 129 = .ok (.aload_n 0, 1) := by decide +kernel
theorem dX7_openWays_130 : decode cX7_openWays 130 = .ok (.getfield 21, 3) := by decide +kernel
theorem dX7_openWays_133 : decode cX7_openWays 133 = .ok (.iload 4, 2) := by decide +kernel
theorem dX7_openWays_135 : decode cX7_openWays 135 = .ok (.iaload, 1) := by decide +kernel
theorem dX7_openWays_136 : decode cX7_openWays 136 = .ok (.goto 4, 3) := by decide +kernel
theorem dX7_openWays_139 : decode cX7_openWays 139 = .ok (.iconst 0, 1) := by decide +kernel
theorem dX7_openWays_140 : decode cX7_openWays 140 = .ok (.iadd, 1) := by decide +kernel
theorem dX7_openWays_141 : decode cX7_openWays 141 = .ok (.iastore, 1) := by decide +kernel
theorem dX7_openWays_142 : decode cX7_openWays 142 = .ok (.iinc 3 1, 3) := by decide +kernel
theorem dX7_openWays_145 : decode cX7_openWays 145 = .ok (.goto (-105), 3) := by decide +kernel
theorem dX7_openWays_148 : decode cX7_openWays 148 = .ok (.iinc 2 1, 3) := by decide +kernel
theorem dX7_openWays_151 : decode cX7_openWays 151 = .ok (.goto (-149), 3) := by decide +kernel
theorem dX7_openWays_154 : decode cX7_openWays 154 = .ok (.return_, 1) := by decide +kernel
theorem cw_X7_openWays : Cw yX7_openWays cX7_openWays 6 none 1 := ⟨aw_399, aw_22, ⟨by decide, by decide⟩, by decide +kernel, by decide⟩
theorem gf_7_21 {K : KT} {cc : ByteArray} {nL d pc : Nat} {ret : Option FieldType} {L : List (Option Value)} {st : List Value} {σ : Sg} (C : Cx K layC cc RX7 nL d ret)  (hd : decode cc pc = .ok (.getfield 21, 3)) (k : G K (pc + 3) L (.ref (kad K 8) :: st) (Wd K layC σ)) : G K pc L (.ref (kad K 4) :: st) (Wd K layC σ) := g_get C (o := 4) (ci := 7) (k := 3) hd rfl rfl rfl (by decide) (Or.inl aw_91) inA7 rfl k
theorem kc_7_72 {K : KT} {cc : ByteArray} {nL d pc : Nat} {ret : Option FieldType} {L : List (Option Value)} {st : List Value} {σ : Sg} (C : Cx K layC cc RX7 nL d ret)  {a0 : Int32} {a1 : Int32}  {p : Int32 × Sg} (hd : decode cc pc = .ok (.invokevirtual 72, 3)) (e : fX7_beside a0 a1 σ = some p) (hdd : 1 + 1 ≤ d) (hLn : L.length = nL) (hr : (st.map fun v => v.category).sum ≤ 8) (k : G K (pc + 3) L (.int p.1 :: st) (Wd K layC p.2)) : G K pc L (.int a1 :: .int a0 :: .ref (kad K 4) :: st) (Wd K layC σ) :=
  g_callV C (As := [.int a0, .int a1]) (rest := st) (o := 4) (ci := 7) hd (ct_X7_beside e) cw_X7_beside (Or.inl aw_400) aw_402 aw_6 rfl rfl rfl hdd hLn rfl rfl hr (fun v τ q => by obtain ⟨rfl, rfl⟩ := q; exact k)
theorem gf_7_26 {K : KT} {cc : ByteArray} {nL d pc : Nat} {ret : Option FieldType} {L : List (Option Value)} {st : List Value} {σ : Sg} (C : Cx K layC cc RX7 nL d ret)  (hd : decode cc pc = .ok (.getfield 26, 3)) (k : G K (pc + 3) L (.ref (kad K 9) :: st) (Wd K layC σ)) : G K pc L (.ref (kad K 4) :: st) (Wd K layC σ) := g_get C (o := 4) (ci := 7) (k := 4) hd rfl rfl rfl (by decide) (Or.inl aw_93) inA7 rfl k
def fX7_openWays_b140 (x1 : Int32) (x2 : Int32) (x3 : Int32) (y0 : Int32) (y1 : Int32) (y2 : Int32) (σ : Sg) : Option ((Int32 × Sg) ⊕ ((Sg))) :=
  if inb y2 30 = true then (some (.inl ((x3 + (1 : Int32)), (wI σ 8 (y2).toNatClampNeg (y1 + y0))))) else none
def fX7_openWays_b116 (x1 : Int32) (x2 : Int32) (x3 : Int32) (x4 : Int32) (x5 : Int32) (y0 : Int32) (y1 : Int32) (u2 : Nat) (σ : Sg) : Option ((Int32 × Sg) ⊕ ((Sg))) :=
  if inb y1 4 = true then (if inb x2 30 = true then (if x5 = 0 then (fX7_openWays_b140 x1 x2 x3 (0 : Int32) (rI (wI σ u2 (y1).toNatClampNeg y0) 8 (x2).toNatClampNeg) x2 (wI σ u2 (y1).toNatClampNeg y0)) else (if inb x4 30 = true then (fX7_openWays_b140 x1 x2 x3 (rI (wI σ u2 (y1).toNatClampNeg y0) 8 (x4).toNatClampNeg) (rI (wI σ u2 (y1).toNatClampNeg y0) 8 (x2).toNatClampNeg) x2 (wI σ u2 (y1).toNatClampNeg y0)) else none)) else none) else none
def fX7_openWays_b96 (x1 : Int32) (x2 : Int32) (x3 : Int32) (x4 : Int32) (y0 : Int32) (σ : Sg) : Option ((Int32 × Sg) ⊕ ((Sg))) :=
  if inb x2 30 = true then (if y0 = 0 then (fX7_openWays_b116 x1 x2 x3 x4 y0 (-1 : Int32) x3 (10 + (x2).toNatClampNeg) σ) else (fX7_openWays_b116 x1 x2 x3 x4 y0 x4 x3 (10 + (x2).toNatClampNeg) σ)) else none
def fX7_openWays_b95 (x1 : Int32) (x2 : Int32) (x3 : Int32) (x4 : Int32) (σ : Sg) : Option ((Int32 × Sg) ⊕ ((Sg))) :=
  fX7_openWays_b96 x1 x2 x3 x4 (0 : Int32) σ
def fX7_openWays_b40 (x1 : Int32) (x2 : Int32) (x3 : Int32) (σ : Sg) : Option ((Int32 × Sg) ⊕ ((Sg))) :=
  if (4 : Int32) ≤ x3 then (some (.inr σ)) else (Option.bind (fX7_beside x2 x3 σ) fun p3 => (if p3.1 = (-1 : Int32) then (fX7_openWays_b95 x1 x2 x3 p3.1 p3.2) else (if inb x2 30 = true then (if (rI p3.2 5 (x2).toNatClampNeg) = (11 : Int32) then (fX7_openWays_b95 x1 x2 x3 p3.1 p3.2) else (if inb p3.1 30 = true then (if x1 ≤ (rI p3.2 7 (p3.1).toNatClampNeg) then (fX7_openWays_b95 x1 x2 x3 p3.1 p3.2) else (if inb p3.1 30 = true then (if (rI p3.2 8 (p3.1).toNatClampNeg) ≤ 0 then (fX7_openWays_b95 x1 x2 x3 p3.1 p3.2) else (fX7_openWays_b96 x1 x2 x3 p3.1 (1 : Int32) p3.2)) else none)) else none)) else none)))
def fX7_openWays_b148 (x1 : Int32) (x2 : Int32) (σ : Sg) : Option ((Int32 × Sg) ⊕ ((Sg))) :=
  some (.inl ((x2 + (1 : Int32)), σ))
def fX7_openWays_b37 (x1 : Int32) (x2 : Int32) (y0 : Int32) (y1 : Int32) (σ : Sg) : Option ((Int32 × Sg) ⊕ ((Sg))) :=
  if inb y1 30 = true then (Option.bind (lp (fun s => fX7_openWays_b40 x1 x2 s.1 s.2) FU ((0 : Int32), (wI σ 8 (y1).toNatClampNeg y0))) fun t14 => fX7_openWays_b148 x1 x2 t14) else none
def fX7_openWays_b2 (x1 : Int32) (x2 : Int32) (σ : Sg) : Option ((Int32 × Sg) ⊕ ((Sg))) :=
  if (rI σ 4 5) ≤ x2 then (some (.inr σ)) else (if inb x2 30 = true then (if (rI σ 7 (x2).toNatClampNeg) = x1 then (if x1 = 0 then (fX7_openWays_b37 x1 x2 (1 : Int32) x2 σ) else (fX7_openWays_b37 x1 x2 (0 : Int32) x2 σ)) else (fX7_openWays_b148 x1 x2 σ)) else none)
def fX7_openWays_b0 (x1 : Int32) (σ : Sg) : Option (Sg) :=
  Option.bind (lp (fun s => fX7_openWays_b2 x1 s.1 s.2) FU ((0 : Int32), σ)) fun t16 => some t16
set_option maxRecDepth 4000 in
theorem bX7_openWays_b140 {K : KT} {x1 : Int32} {x2 : Int32} {x3 : Int32} {y0 : Int32} {y1 : Int32} {y2 : Int32} {σ : Sg} {o : (Int32 × Sg) ⊕ ((Sg))} (C : Cx K layC cX7_openWays RX7 6 (2) none)  (hI : ∀ s' : Int32 × Sg, o = .inl s' → G K 40 [some (.ref (kad K 4)), some (.int x1), some (.int x2), some (.int s'.1), none, none] [] (Wd K layC s'.2)) (hE0 : ∀ t : Sg, o = .inr t → G K 148 [some (.ref (kad K 4)), some (.int x1), some (.int x2), none, none, none] [] (Wd K layC t)) (h : fX7_openWays_b140 x1 x2 x3 y0 y1 y2 σ = some o) : G K 140 [some (.ref (kad K 4)), some (.int x1), some (.int x2), some (.int x3), none, none] [.int y0, .int y1, .int y2, .ref (kad K 8)] (Wd K layC σ) := by
  unfold fX7_openWays_b140 at h
  refine g_iadd C.c dX7_openWays_140 ?_
  obtain ⟨c9, h⟩ := chk h
  refine g_iast C dX7_openWays_141 rfl c9 ?_
  refine g_iinc C.c (i := 3) (y := (1 : Int32)) (L' := [some (.ref (kad K 4)), some (.int x1), some (.int x2), some (.int (x3 + (1 : Int32))), none, none]) dX7_openWays_142 rfl (by decide) (Nat.le_of_ble_eq_true rfl) rfl ?_
  refine g_goto C.c (tgt := 40) dX7_openWays_145 (by decide) ?_
  have g9 := hI _ (Option.some.inj h).symm
  exact g_mask [true, true, true, true, false, false] rfl g9
set_option maxRecDepth 4000 in
theorem bX7_openWays_b116 {K : KT} {x1 : Int32} {x2 : Int32} {x3 : Int32} {x4 : Int32} {x5 : Int32} {y0 : Int32} {y1 : Int32} {u2 : Nat} {σ : Sg} {o : (Int32 × Sg) ⊕ ((Sg))} (C : Cx K layC cX7_openWays RX7 6 (2) none) (hu2 : layC[u2]? = some (1, 4, [])) (hI : ∀ s' : Int32 × Sg, o = .inl s' → G K 40 [some (.ref (kad K 4)), some (.int x1), some (.int x2), some (.int s'.1), none, none] [] (Wd K layC s'.2)) (hE0 : ∀ t : Sg, o = .inr t → G K 148 [some (.ref (kad K 4)), some (.int x1), some (.int x2), none, none, none] [] (Wd K layC t)) (h : fX7_openWays_b116 x1 x2 x3 x4 x5 y0 y1 u2 σ = some o) : G K 116 [some (.ref (kad K 4)), some (.int x1), some (.int x2), some (.int x3), some (.int x4), some (.int x5)] [.int y0, .int y1, .ref (kad K u2)] (Wd K layC σ) := by
  unfold fX7_openWays_b116 at h
  obtain ⟨c7, h⟩ := chk h
  refine g_iast C dX7_openWays_116 hu2 c7 ?_
  refine g_aload_n C.c dX7_openWays_117 rfl (i := 0) rfl ?_
  refine gf_7_21 C dX7_openWays_118 ?_
  refine g_iload_n C.c dX7_openWays_121 rfl (i := 2) rfl ?_
  refine g_dup2 C.c dX7_openWays_122 rfl rfl ?_
  obtain ⟨c8, h⟩ := chk h
  refine g_iald C dX7_openWays_123 rfl c8 ?_
  refine g_iload C.c dX7_openWays_124 (i := 5) rfl ?_
  refine g_if_eq C.c (tgt := 139) dX7_openWays_126 (by decide) (fun c => ?_) (fun c => ?_)
  · replace h := ite_t c h
    refine g_iconst C.c dX7_openWays_139 (v := (0 : Int32)) (by decide) ?_
    exact g_mask [true, true, true, true, false, false] rfl (bX7_openWays_b140 C hI hE0 h)
  · replace h := ite_f c h
    refine g_aload_n C.c dX7_openWays_129 rfl (i := 0) rfl ?_
    refine gf_7_21 C dX7_openWays_130 ?_
    refine g_iload C.c dX7_openWays_133 (i := 4) rfl ?_
    obtain ⟨c10, h⟩ := chk h
    refine g_iald C dX7_openWays_135 rfl c10 ?_
    refine g_goto C.c (tgt := 140) dX7_openWays_136 (by decide) ?_
    exact g_mask [true, true, true, true, false, false] rfl (bX7_openWays_b140 C hI hE0 h)
set_option maxRecDepth 4000 in
theorem bX7_openWays_b96 {K : KT} {x1 : Int32} {x2 : Int32} {x3 : Int32} {x4 : Int32} {y0 : Int32} {σ : Sg} {o : (Int32 × Sg) ⊕ ((Sg))} (C : Cx K layC cX7_openWays RX7 6 (2) none)  (hI : ∀ s' : Int32 × Sg, o = .inl s' → G K 40 [some (.ref (kad K 4)), some (.int x1), some (.int x2), some (.int s'.1), none, none] [] (Wd K layC s'.2)) (hE0 : ∀ t : Sg, o = .inr t → G K 148 [some (.ref (kad K 4)), some (.int x1), some (.int x2), none, none, none] [] (Wd K layC t)) (h : fX7_openWays_b96 x1 x2 x3 x4 y0 σ = some o) : G K 96 [some (.ref (kad K 4)), some (.int x1), some (.int x2), some (.int x3), some (.int x4), none] [.int y0] (Wd K layC σ) := by
  unfold fX7_openWays_b96 at h
  refine g_istore C.c (i := 5) (L' := [some (.ref (kad K 4)), some (.int x1), some (.int x2), some (.int x3), some (.int x4), some (.int y0)]) dX7_openWays_96 (Nat.le_of_ble_eq_true rfl) rfl ?_
  refine g_aload_n C.c dX7_openWays_98 rfl (i := 0) rfl ?_
  refine gf_7_26 C dX7_openWays_99 ?_
  refine g_iload_n C.c dX7_openWays_102 rfl (i := 2) rfl ?_
  obtain ⟨c5, h⟩ := chk h
  have hs6 := rw_9 (inb_lt c5)
  refine g_aald5 C (b := 10) dX7_openWays_103 rfl c5 rfl rfl ?_
  refine g_iload_n C.c dX7_openWays_104 rfl (i := 3) rfl ?_
  refine g_iload C.c dX7_openWays_105 (i := 5) rfl ?_
  refine g_if_eq C.c (tgt := 115) dX7_openWays_107 (by decide) (fun c => ?_) (fun c => ?_)
  · replace h := ite_t c h
    refine g_iconst C.c dX7_openWays_115 (v := (-1 : Int32)) (by decide) ?_
    exact g_mask [true, true, true, true, true, true] rfl (bX7_openWays_b116 C hs6 hI hE0 h)
  · replace h := ite_f c h
    refine g_iload C.c dX7_openWays_110 (i := 4) rfl ?_
    refine g_goto C.c (tgt := 116) dX7_openWays_112 (by decide) ?_
    exact g_mask [true, true, true, true, true, true] rfl (bX7_openWays_b116 C hs6 hI hE0 h)
set_option maxRecDepth 4000 in
theorem bX7_openWays_b95 {K : KT} {x1 : Int32} {x2 : Int32} {x3 : Int32} {x4 : Int32} {σ : Sg} {o : (Int32 × Sg) ⊕ ((Sg))} (C : Cx K layC cX7_openWays RX7 6 (2) none)  (hI : ∀ s' : Int32 × Sg, o = .inl s' → G K 40 [some (.ref (kad K 4)), some (.int x1), some (.int x2), some (.int s'.1), none, none] [] (Wd K layC s'.2)) (hE0 : ∀ t : Sg, o = .inr t → G K 148 [some (.ref (kad K 4)), some (.int x1), some (.int x2), none, none, none] [] (Wd K layC t)) (h : fX7_openWays_b95 x1 x2 x3 x4 σ = some o) : G K 95 [some (.ref (kad K 4)), some (.int x1), some (.int x2), some (.int x3), some (.int x4), none] [] (Wd K layC σ) := by
  unfold fX7_openWays_b95 at h
  refine g_iconst C.c dX7_openWays_95 (v := (0 : Int32)) (by decide) ?_
  exact g_mask [true, true, true, true, true, false] rfl (bX7_openWays_b96 C hI hE0 h)
set_option maxRecDepth 4000 in
theorem bX7_openWays_b40 {K : KT} {x1 : Int32} {x2 : Int32} {x3 : Int32} {σ : Sg} {o : (Int32 × Sg) ⊕ ((Sg))} (C : Cx K layC cX7_openWays RX7 6 (2) none)  (hI : ∀ s' : Int32 × Sg, o = .inl s' → G K 40 [some (.ref (kad K 4)), some (.int x1), some (.int x2), some (.int s'.1), none, none] [] (Wd K layC s'.2)) (hE0 : ∀ t : Sg, o = .inr t → G K 148 [some (.ref (kad K 4)), some (.int x1), some (.int x2), none, none, none] [] (Wd K layC t)) (h : fX7_openWays_b40 x1 x2 x3 σ = some o) : G K 40 [some (.ref (kad K 4)), some (.int x1), some (.int x2), some (.int x3), none, none] [] (Wd K layC σ) := by
  unfold fX7_openWays_b40 at h
  refine g_iload_n C.c dX7_openWays_40 rfl (i := 3) rfl ?_
  refine g_iconst C.c dX7_openWays_41 (v := (4 : Int32)) (by decide) ?_
  refine g_icmp_ge C.c (tgt := 148) dX7_openWays_42 (by decide) (fun c => ?_) (fun c => ?_)
  · replace h := ite_t c h
    have g9 := hE0 _ (Option.some.inj h).symm
    exact g_mask [true, true, true, false, false, false] rfl g9
  · replace h := ite_f c h
    refine g_aload_n C.c dX7_openWays_45 rfl (i := 0) rfl ?_
    refine g_iload_n C.c dX7_openWays_46 rfl (i := 2) rfl ?_
    refine g_iload_n C.c dX7_openWays_47 rfl (i := 3) rfl ?_
    obtain ⟨p3, e4, h⟩ := Option.bind_eq_some_iff.mp h
    refine kc_7_72 C dX7_openWays_48 e4 (Nat.le_of_ble_eq_true rfl) rfl (Nat.le_of_ble_eq_true rfl) ?_
    refine g_istore C.c (i := 4) (L' := [some (.ref (kad K 4)), some (.int x1), some (.int x2), some (.int x3), some (.int p3.1), none]) dX7_openWays_51 (Nat.le_of_ble_eq_true rfl) rfl ?_
    refine g_iload C.c dX7_openWays_53 (i := 4) rfl ?_
    refine g_iconst C.c dX7_openWays_55 (v := (-1 : Int32)) (by decide) ?_
    refine g_icmp_eq C.c (tgt := 95) dX7_openWays_56 (by decide) (fun c => ?_) (fun c => ?_)
    · replace h := ite_t c h
      exact g_mask [true, true, true, true, true, false] rfl (bX7_openWays_b95 C hI hE0 h)
    · replace h := ite_f c h
      refine g_aload_n C.c dX7_openWays_59 rfl (i := 0) rfl ?_
      refine gf_7_11 C dX7_openWays_60 ?_
      refine g_iload_n C.c dX7_openWays_63 rfl (i := 2) rfl ?_
      obtain ⟨c11, h⟩ := chk h
      refine g_iald C dX7_openWays_64 rfl c11 ?_
      refine g_bipush C.c dX7_openWays_65 (v := (11 : Int32)) (by decide) ?_
      refine g_icmp_eq C.c (tgt := 95) dX7_openWays_67 (by decide) (fun c => ?_) (fun c => ?_)
      · replace h := ite_t c h
        exact g_mask [true, true, true, true, true, false] rfl (bX7_openWays_b95 C hI hE0 h)
      · replace h := ite_f c h
        refine g_aload_n C.c dX7_openWays_70 rfl (i := 0) rfl ?_
        refine gf_7_18 C dX7_openWays_71 ?_
        refine g_iload C.c dX7_openWays_74 (i := 4) rfl ?_
        obtain ⟨c12, h⟩ := chk h
        refine g_iald C dX7_openWays_76 rfl c12 ?_
        refine g_iload_n C.c dX7_openWays_77 rfl (i := 1) rfl ?_
        refine g_icmp_ge C.c (tgt := 95) dX7_openWays_78 (by decide) (fun c => ?_) (fun c => ?_)
        · replace h := ite_t c h
          exact g_mask [true, true, true, true, true, false] rfl (bX7_openWays_b95 C hI hE0 h)
        · replace h := ite_f c h
          refine g_aload_n C.c dX7_openWays_81 rfl (i := 0) rfl ?_
          refine gf_7_21 C dX7_openWays_82 ?_
          refine g_iload C.c dX7_openWays_85 (i := 4) rfl ?_
          obtain ⟨c13, h⟩ := chk h
          refine g_iald C dX7_openWays_87 rfl c13 ?_
          refine g_if_le C.c (tgt := 95) dX7_openWays_88 (by decide) (fun c => ?_) (fun c => ?_)
          · replace h := ite_t c h
            exact g_mask [true, true, true, true, true, false] rfl (bX7_openWays_b95 C hI hE0 h)
          · replace h := ite_f c h
            refine g_iconst C.c dX7_openWays_91 (v := (1 : Int32)) (by decide) ?_
            refine g_goto C.c (tgt := 96) dX7_openWays_92 (by decide) ?_
            exact g_mask [true, true, true, true, true, false] rfl (bX7_openWays_b96 C hI hE0 h)
set_option maxRecDepth 4000 in
theorem bX7_openWays_b148 {K : KT} {x1 : Int32} {x2 : Int32} {σ : Sg} {o : (Int32 × Sg) ⊕ ((Sg))} (C : Cx K layC cX7_openWays RX7 6 (2) none)  (hI : ∀ s' : Int32 × Sg, o = .inl s' → G K 2 [some (.ref (kad K 4)), some (.int x1), some (.int s'.1), none, none, none] [] (Wd K layC s'.2)) (hE0 : ∀ t : Sg, o = .inr t → G K 154 [none, none, none, none, none, none] [] (Wd K layC t)) (h : fX7_openWays_b148 x1 x2 σ = some o) : G K 148 [some (.ref (kad K 4)), some (.int x1), some (.int x2), none, none, none] [] (Wd K layC σ) := by
  unfold fX7_openWays_b148 at h
  refine g_iinc C.c (i := 2) (y := (1 : Int32)) (L' := [some (.ref (kad K 4)), some (.int x1), some (.int (x2 + (1 : Int32))), none, none, none]) dX7_openWays_148 rfl (by decide) (Nat.le_of_ble_eq_true rfl) rfl ?_
  refine g_goto C.c (tgt := 2) dX7_openWays_151 (by decide) ?_
  have g9 := hI _ (Option.some.inj h).symm
  exact g_mask [true, true, true, false, false, false] rfl g9
set_option maxRecDepth 4000 in
theorem bX7_openWays_b37 {K : KT} {x1 : Int32} {x2 : Int32} {y0 : Int32} {y1 : Int32} {σ : Sg} {o : (Int32 × Sg) ⊕ ((Sg))} (C : Cx K layC cX7_openWays RX7 6 (2) none)  (hI : ∀ s' : Int32 × Sg, o = .inl s' → G K 2 [some (.ref (kad K 4)), some (.int x1), some (.int s'.1), none, none, none] [] (Wd K layC s'.2)) (hE0 : ∀ t : Sg, o = .inr t → G K 154 [none, none, none, none, none, none] [] (Wd K layC t)) (h : fX7_openWays_b37 x1 x2 y0 y1 σ = some o) : G K 37 [some (.ref (kad K 4)), some (.int x1), some (.int x2), none, none, none] [.int y0, .int y1, .ref (kad K 8)] (Wd K layC σ) := by
  unfold fX7_openWays_b37 at h
  obtain ⟨c2, h⟩ := chk h
  refine g_iast C dX7_openWays_37 rfl c2 ?_
  refine g_iconst C.c dX7_openWays_38 (v := (0 : Int32)) (by decide) ?_
  refine g_istore_n C.c (i := 3) (L' := [some (.ref (kad K 4)), some (.int x1), some (.int x2), some (.int (0 : Int32)), none, none]) dX7_openWays_39 rfl (Nat.le_of_ble_eq_true rfl) rfl ?_
  refine g_mask [true, true, true, true, false, false] rfl ?_
  refine lp_bind (Gh := fun s => G K 40 [some (.ref (kad K 4)), some (.int x1), some (.int x2), some (.int s.1), none, none] [] (Wd K layC s.2)) h (fun s o2 hf gI gE => ?_)
  refine bX7_openWays_b40 C gI (fun t14 e => ?_) hf
  · have h := gE _ e
    exact g_mask [true, true, true, false, false, false] rfl (bX7_openWays_b148 C hI hE0 h)
set_option maxRecDepth 4000 in
theorem bX7_openWays_b2 {K : KT} {x1 : Int32} {x2 : Int32} {σ : Sg} {o : (Int32 × Sg) ⊕ ((Sg))} (C : Cx K layC cX7_openWays RX7 6 (2) none)  (hI : ∀ s' : Int32 × Sg, o = .inl s' → G K 2 [some (.ref (kad K 4)), some (.int x1), some (.int s'.1), none, none, none] [] (Wd K layC s'.2)) (hE0 : ∀ t : Sg, o = .inr t → G K 154 [none, none, none, none, none, none] [] (Wd K layC t)) (h : fX7_openWays_b2 x1 x2 σ = some o) : G K 2 [some (.ref (kad K 4)), some (.int x1), some (.int x2), none, none, none] [] (Wd K layC σ) := by
  unfold fX7_openWays_b2 at h
  refine g_iload_n C.c dX7_openWays_2 rfl (i := 2) rfl ?_
  refine g_aload_n C.c dX7_openWays_3 rfl (i := 0) rfl ?_
  refine gf_7_29 C dX7_openWays_4 ?_
  refine g_icmp_ge C.c (tgt := 154) dX7_openWays_7 (by decide) (fun c => ?_) (fun c => ?_)
  · replace h := ite_t c h
    have g9 := hE0 _ (Option.some.inj h).symm
    exact g_mask [false, false, false, false, false, false] rfl g9
  · replace h := ite_f c h
    refine g_aload_n C.c dX7_openWays_10 rfl (i := 0) rfl ?_
    refine gf_7_18 C dX7_openWays_11 ?_
    refine g_iload_n C.c dX7_openWays_14 rfl (i := 2) rfl ?_
    obtain ⟨c1, h⟩ := chk h
    refine g_iald C dX7_openWays_15 rfl c1 ?_
    refine g_iload_n C.c dX7_openWays_16 rfl (i := 1) rfl ?_
    refine g_icmp_eq C.c (tgt := 23) dX7_openWays_17 (by decide) (fun c => ?_) (fun c => ?_)
    · replace h := ite_t c h
      refine g_aload_n C.c dX7_openWays_23 rfl (i := 0) rfl ?_
      refine gf_7_21 C dX7_openWays_24 ?_
      refine g_iload_n C.c dX7_openWays_27 rfl (i := 2) rfl ?_
      refine g_iload_n C.c dX7_openWays_28 rfl (i := 1) rfl ?_
      refine g_if_ne C.c (tgt := 36) dX7_openWays_29 (by decide) (fun c => ?_) (fun c => ?_)
      · replace h := ite_f c h
        refine g_iconst C.c dX7_openWays_36 (v := (0 : Int32)) (by decide) ?_
        exact g_mask [true, true, true, false, false, false] rfl (bX7_openWays_b37 C hI hE0 h)
      · replace h := ite_t c h
        refine g_iconst C.c dX7_openWays_32 (v := (1 : Int32)) (by decide) ?_
        refine g_goto C.c (tgt := 37) dX7_openWays_33 (by decide) ?_
        exact g_mask [true, true, true, false, false, false] rfl (bX7_openWays_b37 C hI hE0 h)
    · replace h := ite_f c h
      refine g_goto C.c (tgt := 148) dX7_openWays_20 (by decide) ?_
      exact g_mask [true, true, true, false, false, false] rfl (bX7_openWays_b148 C hI hE0 h)
set_option maxRecDepth 4000 in
theorem bX7_openWays_b0 {K : KT} {x1 : Int32} {σ : Sg} {o : Sg} (C : Cx K layC cX7_openWays RX7 6 (2) none)  (hQ : Rk K layC (okV o)) (h : fX7_openWays_b0 x1 σ = some o) : G K 0 [some (.ref (kad K 4)), some (.int x1), none, none, none, none] [] (Wd K layC σ) := by
  unfold fX7_openWays_b0 at h
  refine g_iconst C.c dX7_openWays_0 (v := (0 : Int32)) (by decide) ?_
  refine g_istore_n C.c (i := 2) (L' := [some (.ref (kad K 4)), some (.int x1), some (.int (0 : Int32)), none, none, none]) dX7_openWays_1 rfl (Nat.le_of_ble_eq_true rfl) rfl ?_
  refine g_mask [true, true, true, false, false, false] rfl ?_
  refine lp_bind (Gh := fun s => G K 2 [some (.ref (kad K 4)), some (.int x1), some (.int s.1), none, none, none] [] (Wd K layC s.2)) h (fun s o2 hf gI gE => ?_)
  refine bX7_openWays_b2 C gI (fun t16 e => ?_) hf
  · have h := gE _ e
    obtain rfl := Option.some.inj h
    exact g_vret C hQ dX7_openWays_154 ⟨rfl, rfl⟩
def fX7_openWays (a0 : Int32) (σ : Sg) : Option (Sg) := fX7_openWays_b0 a0 σ
theorem ct_X7_openWays {a0 : Int32} {σ : Sg} {p : Sg} (h : fX7_openWays a0 σ = some p) : Ct layC yX7_openWays cX7_openWays 6 none 2 (fun ad => [.ref (ad 4), .int a0]) σ (okV p) :=
 ct_of (L0 := fun ad => [some (.ref (ad 4)), some (.int a0), none, none, none, none]) (by decide) (fun _ => Nat.le_of_ble_eq_true rfl) (fun _ => rfl) (fun K C hQ => g_mask [true, true, false, false, false, false] rfl (bX7_openWays_b0 C hQ h))
-- X7_lay
theorem dX7_lay_0 : decode cX7_lay 0 = .ok (.aload_n 0, 1) := by decide +kernel
theorem dX7_lay_1 : decode cX7_lay 1 = .ok (.iconst 0, 1) := by decide +kernel
theorem dX7_lay_2 : decode cX7_lay 2 = .ok (.putfield 29, 3) := by decide +kernel
theorem dX7_lay_5 : decode cX7_lay 5 = .ok (.aload_n 0, 1) := by decide +kernel
theorem dX7_lay_6 : decode cX7_lay 6 = .ok (.iconst 0, 1) := by decide +kernel
theorem dX7_lay_7 : decode cX7_lay 7 = .ok (.putfield 37, 3) := by decide +kernel
theorem dX7_lay_10 : decode cX7_lay 10 = .ok (.iconst 0, 1) := by decide +kernel
theorem dX7_lay_11 : decode cX7_lay 11 = .ok (.istore_n 2, 1) := by decide +kernel
theorem dX7_lay_12 : decode cX7_lay 12 = .ok (.iload_n 2, 1) := by decide +kernel
theorem dX7_lay_13 : decode cX7_lay 13 = .ok (.aload_n 1, 1) := by decide +kernel
theorem dX7_lay_14 : decode cX7_lay 14 = .ok (.getfield 40, 3) := by decide +kernel
theorem dX7_lay_17 : decode cX7_lay 17 = .ok (.if_icmp .ge 18, 3) := by decide +kernel
theorem dX7_lay_20 : decode cX7_lay 20 = .ok (.aload_n 0, 1) := by decide +kernel
theorem dX7_lay_21 : decode cX7_lay 21 = .ok (.aload_n 1, 1) := by decide +kernel
theorem dX7_lay_22 : decode cX7_lay 22 = .ok (.iload_n 2, 1) := by decide +kernel
theorem dX7_lay_23 : decode cX7_lay 23 = .ok (.invokevirtual 45, 3) := by decide +kernel
theorem dX7_lay_26 : decode cX7_lay 26 = .ok (.invokevirtual 49, 3) := by decide +kernel
theorem dX7_lay_29 : decode cX7_lay 29 = .ok (.iinc 2 1, 3) := by decide +kernel
theorem dX7_lay_32 : decode cX7_lay 32 = .ok (.goto (-20), 3) := by decide +kernel
theorem dX7_lay_35 : decode cX7_lay 35 = .ok (.aload_n 0, 1) := by decide +kernel
theorem dX7_lay_36 : decode cX7_lay 36 = .ok (.invokevirtual 53, 3) := by decide +kernel
theorem dX7_lay_39 : decode cX7_lay 39 = .ok (.iconst 0, 1) := by decide +kernel
theorem dX7_lay_40 : decode cX7_lay 40 = .ok (.istore_n 2, 1) := by decide +kernel
theorem dX7_lay_41 : decode cX7_lay 41 = .ok (.iload_n 2, 1) := by decide +kernel
theorem dX7_lay_42 : decode cX7_lay 42 = .ok (.bipush 9, 2) := by decide +kernel
theorem dX7_lay_44 : decode cX7_lay 44 = .ok (.if_icmp .gt 14, 3) := by decide +kernel
theorem dX7_lay_47 : decode cX7_lay 47 = .ok (.aload_n 0, 1) := by decide +kernel
theorem dX7_lay_48 : decode cX7_lay 48 = .ok (.iload_n 2, 1) := by decide +kernel
theorem dX7_lay_49 : decode cX7_lay 49 = .ok (.invokevirtual 58, 3) := by decide +kernel
theorem dX7_lay_52 : decode cX7_lay 52 = .ok (.iinc 2 1, 3) := by decide +kernel
theorem dX7_lay_55 : decode cX7_lay 55 = .ok (.goto (-14), 3) := by decide +kernel
theorem dX7_lay_58 : decode cX7_lay 58 = .ok (.return_, 1) := by decide +kernel
theorem cw_X7_lay : Cw yX7_lay cX7_lay 3 none 1 := ⟨aw_379, aw_22, ⟨by decide, by decide⟩, by decide +kernel, by decide⟩
theorem gf_7_40 {K : KT} {cc : ByteArray} {nL d pc : Nat} {ret : Option FieldType} {L : List (Option Value)} {st : List Value} {σ : Sg} (C : Cx K layC cc RX7 nL d ret)  (hd : decode cc pc = .ok (.getfield 40, 3)) (k : G K (pc + 3) L (.int (rI σ 1 1) :: st) (Wd K layC σ)) : G K pc L (.ref (kad K 1) :: st) (Wd K layC σ) := g_get C (o := 1) (ci := 6) (k := 1) hd rfl rfl rfl (by decide) (Or.inr ⟨_, aw_47⟩) inA6 rfl k
theorem kc_7_45 {K : KT} {cc : ByteArray} {nL d pc : Nat} {ret : Option FieldType} {L : List (Option Value)} {st : List Value} {σ : Sg} (C : Cx K layC cc RX7 nL d ret)  {a0 : Int32}  {p : Int32 × Sg} (hd : decode cc pc = .ok (.invokevirtual 45, 3)) (e : fX6_codeAt a0 σ = some p) (hdd : 1 + 1 ≤ d) (hLn : L.length = nL) (hr : (st.map fun v => v.category).sum ≤ 8) (k : G K (pc + 3) L (.int p.1 :: st) (Wd K layC p.2)) : G K pc L (.int a0 :: .ref (kad K 1) :: st) (Wd K layC σ) :=
  g_callV C (As := [.int a0]) (rest := st) (o := 1) (ci := 6) hd (ct_X6_codeAt e) cw_X6_codeAt (Or.inl aw_380) aw_381 aw_382 rfl rfl rfl hdd hLn rfl rfl hr (fun v τ q => by obtain ⟨rfl, rfl⟩ := q; exact k)
theorem kc_7_49 {K : KT} {cc : ByteArray} {nL d pc : Nat} {ret : Option FieldType} {L : List (Option Value)} {st : List Value} {σ : Sg} (C : Cx K layC cc RX7 nL d ret)  {a0 : Int32}  {p : Sg} (hd : decode cc pc = .ok (.invokevirtual 49, 3)) (e : fX7_layLetter a0 σ = some p) (hdd : 2 + 1 ≤ d) (hLn : L.length = nL) (hr : (st.map fun v => v.category).sum ≤ 8) (k : G K (pc + 3) L (st) (Wd K layC p)) : G K pc L (.int a0 :: .ref (kad K 4) :: st) (Wd K layC σ) :=
  g_callV C (As := [.int a0]) (rest := st) (o := 4) (ci := 7) hd (ct_X7_layLetter e) cw_X7_layLetter (Or.inl aw_384) aw_386 aw_3 rfl rfl rfl hdd hLn rfl rfl hr (fun v τ q => by obtain ⟨rfl, rfl⟩ := q; exact k)
theorem kc_7_53 {K : KT} {cc : ByteArray} {nL d pc : Nat} {ret : Option FieldType} {L : List (Option Value)} {st : List Value} {σ : Sg} (C : Cx K layC cc RX7 nL d ret)    {p : Sg} (hd : decode cc pc = .ok (.invokevirtual 53, 3)) (e : fX7_measure σ = some p) (hdd : 1 + 1 ≤ d) (hLn : L.length = nL) (hr : (st.map fun v => v.category).sum ≤ 8) (k : G K (pc + 3) L (st) (Wd K layC p)) : G K pc L (.ref (kad K 4) :: st) (Wd K layC σ) :=
  g_callV C (As := []) (rest := st) (o := 4) (ci := 7) hd (ct_X7_measure e) cw_X7_measure (Or.inl aw_389) aw_391 aw_4 rfl rfl rfl hdd hLn rfl rfl hr (fun v τ q => by obtain ⟨rfl, rfl⟩ := q; exact k)
theorem kc_7_58 {K : KT} {cc : ByteArray} {nL d pc : Nat} {ret : Option FieldType} {L : List (Option Value)} {st : List Value} {σ : Sg} (C : Cx K layC cc RX7 nL d ret)  {a0 : Int32}  {p : Sg} (hd : decode cc pc = .ok (.invokevirtual 58, 3)) (e : fX7_openWays a0 σ = some p) (hdd : 2 + 1 ≤ d) (hLn : L.length = nL) (hr : (st.map fun v => v.category).sum ≤ 8) (k : G K (pc + 3) L (st) (Wd K layC p)) : G K pc L (.int a0 :: .ref (kad K 4) :: st) (Wd K layC σ) :=
  g_callV C (As := [.int a0]) (rest := st) (o := 4) (ci := 7) hd (ct_X7_openWays e) cw_X7_openWays (Or.inl aw_396) aw_398 aw_5 rfl rfl rfl hdd hLn rfl rfl hr (fun v τ q => by obtain ⟨rfl, rfl⟩ := q; exact k)
def fX7_lay_b12 (x2 : Int32) (σ : Sg) : Option ((Int32 × Sg) ⊕ ((Sg))) :=
  if (rI σ 1 1) ≤ x2 then (some (.inr σ)) else (Option.bind (fX6_codeAt x2 σ) fun p1 => (Option.bind (fX7_layLetter p1.1 p1.2) fun p3 => (some (.inl ((x2 + (1 : Int32)), p3)))))
def fX7_lay_b41 (x2 : Int32) (σ : Sg) : Option ((Int32 × Sg) ⊕ ((Sg))) :=
  if (9 : Int32) < x2 then (some (.inr σ)) else (Option.bind (fX7_openWays x2 σ) fun p9 => (some (.inl ((x2 + (1 : Int32)), p9))))
def fX7_lay_b0  (σ : Sg) : Option (Sg) :=
  Option.bind (lp (fun s => fX7_lay_b12 s.1 s.2) FU ((0 : Int32), (wI (wI σ 4 5 (0 : Int32)) 4 6 (0 : Int32)))) fun t5 => Option.bind (fX7_measure t5) fun p7 => (Option.bind (lp (fun s => fX7_lay_b41 s.1 s.2) FU ((0 : Int32), p7)) fun t11 => some t11)
set_option maxRecDepth 4000 in
theorem bX7_lay_b12 {K : KT} {x2 : Int32} {σ : Sg} {o : (Int32 × Sg) ⊕ ((Sg))} (C : Cx K layC cX7_lay RX7 3 (3) none)  (hI : ∀ s' : Int32 × Sg, o = .inl s' → G K 12 [some (.ref (kad K 4)), some (.ref (kad K 1)), some (.int s'.1)] [] (Wd K layC s'.2)) (hE0 : ∀ t : Sg, o = .inr t → G K 35 [some (.ref (kad K 4)), none, none] [] (Wd K layC t)) (h : fX7_lay_b12 x2 σ = some o) : G K 12 [some (.ref (kad K 4)), some (.ref (kad K 1)), some (.int x2)] [] (Wd K layC σ) := by
  unfold fX7_lay_b12 at h
  refine g_iload_n C.c dX7_lay_12 rfl (i := 2) rfl ?_
  refine g_aload_n C.c dX7_lay_13 rfl (i := 1) rfl ?_
  refine gf_7_40 C dX7_lay_14 ?_
  refine g_icmp_ge C.c (tgt := 35) dX7_lay_17 (by decide) (fun c => ?_) (fun c => ?_)
  · replace h := ite_t c h
    have g9 := hE0 _ (Option.some.inj h).symm
    exact g_mask [true, false, false] rfl g9
  · replace h := ite_f c h
    refine g_aload_n C.c dX7_lay_20 rfl (i := 0) rfl ?_
    refine g_aload_n C.c dX7_lay_21 rfl (i := 1) rfl ?_
    refine g_iload_n C.c dX7_lay_22 rfl (i := 2) rfl ?_
    obtain ⟨p1, e2, h⟩ := Option.bind_eq_some_iff.mp h
    refine kc_7_45 C dX7_lay_23 e2 (Nat.le_of_ble_eq_true rfl) rfl (Nat.le_of_ble_eq_true rfl) ?_
    obtain ⟨p3, e4, h⟩ := Option.bind_eq_some_iff.mp h
    refine kc_7_49 C dX7_lay_26 e4 (Nat.le_of_ble_eq_true rfl) rfl (Nat.le_of_ble_eq_true rfl) ?_
    refine g_iinc C.c (i := 2) (y := (1 : Int32)) (L' := [some (.ref (kad K 4)), some (.ref (kad K 1)), some (.int (x2 + (1 : Int32)))]) dX7_lay_29 rfl (by decide) (Nat.le_of_ble_eq_true rfl) rfl ?_
    refine g_goto C.c (tgt := 12) dX7_lay_32 (by decide) ?_
    have g9 := hI _ (Option.some.inj h).symm
    exact g_mask [true, true, true] rfl g9
set_option maxRecDepth 4000 in
theorem bX7_lay_b41 {K : KT} {x2 : Int32} {σ : Sg} {o : (Int32 × Sg) ⊕ ((Sg))} (C : Cx K layC cX7_lay RX7 3 (3) none)  (hI : ∀ s' : Int32 × Sg, o = .inl s' → G K 41 [some (.ref (kad K 4)), none, some (.int s'.1)] [] (Wd K layC s'.2)) (hE0 : ∀ t : Sg, o = .inr t → G K 58 [none, none, none] [] (Wd K layC t)) (h : fX7_lay_b41 x2 σ = some o) : G K 41 [some (.ref (kad K 4)), none, some (.int x2)] [] (Wd K layC σ) := by
  unfold fX7_lay_b41 at h
  refine g_iload_n C.c dX7_lay_41 rfl (i := 2) rfl ?_
  refine g_bipush C.c dX7_lay_42 (v := (9 : Int32)) (by decide) ?_
  refine g_icmp_gt C.c (tgt := 58) dX7_lay_44 (by decide) (fun c => ?_) (fun c => ?_)
  · replace h := ite_t c h
    have g9 := hE0 _ (Option.some.inj h).symm
    exact g_mask [false, false, false] rfl g9
  · replace h := ite_f c h
    refine g_aload_n C.c dX7_lay_47 rfl (i := 0) rfl ?_
    refine g_iload_n C.c dX7_lay_48 rfl (i := 2) rfl ?_
    obtain ⟨p9, e10, h⟩ := Option.bind_eq_some_iff.mp h
    refine kc_7_58 C dX7_lay_49 e10 (Nat.le_of_ble_eq_true rfl) rfl (Nat.le_of_ble_eq_true rfl) ?_
    refine g_iinc C.c (i := 2) (y := (1 : Int32)) (L' := [some (.ref (kad K 4)), none, some (.int (x2 + (1 : Int32)))]) dX7_lay_52 rfl (by decide) (Nat.le_of_ble_eq_true rfl) rfl ?_
    refine g_goto C.c (tgt := 41) dX7_lay_55 (by decide) ?_
    have g9 := hI _ (Option.some.inj h).symm
    exact g_mask [true, false, true] rfl g9
set_option maxRecDepth 4000 in
theorem bX7_lay_b0 {K : KT}  {σ : Sg} {o : Sg} (C : Cx K layC cX7_lay RX7 3 (3) none)  (hQ : Rk K layC (okV o)) (h : fX7_lay_b0  σ = some o) : G K 0 [some (.ref (kad K 4)), some (.ref (kad K 1)), none] [] (Wd K layC σ) := by
  unfold fX7_lay_b0 at h
  refine g_aload_n C.c dX7_lay_0 rfl (i := 0) rfl ?_
  refine g_iconst C.c dX7_lay_1 (v := (0 : Int32)) (by decide) ?_
  refine pf_7_29 C dX7_lay_2 ?_
  refine g_aload_n C.c dX7_lay_5 rfl (i := 0) rfl ?_
  refine g_iconst C.c dX7_lay_6 (v := (0 : Int32)) (by decide) ?_
  refine pf_7_37 C dX7_lay_7 ?_
  refine g_iconst C.c dX7_lay_10 (v := (0 : Int32)) (by decide) ?_
  refine g_istore_n C.c (i := 2) (L' := [some (.ref (kad K 4)), some (.ref (kad K 1)), some (.int (0 : Int32))]) dX7_lay_11 rfl (Nat.le_of_ble_eq_true rfl) rfl ?_
  refine g_mask [true, true, true] rfl ?_
  refine lp_bind (Gh := fun s => G K 12 [some (.ref (kad K 4)), some (.ref (kad K 1)), some (.int s.1)] [] (Wd K layC s.2)) h (fun s o2 hf gI gE => ?_)
  refine bX7_lay_b12 C gI (fun t5 e => ?_) hf
  · have h := gE _ e
    refine g_aload_n C.c dX7_lay_35 rfl (i := 0) rfl ?_
    obtain ⟨p7, e8, h⟩ := Option.bind_eq_some_iff.mp h
    refine kc_7_53 C dX7_lay_36 e8 (Nat.le_of_ble_eq_true rfl) rfl (Nat.le_of_ble_eq_true rfl) ?_
    refine g_iconst C.c dX7_lay_39 (v := (0 : Int32)) (by decide) ?_
    refine g_istore_n C.c (i := 2) (L' := [some (.ref (kad K 4)), none, some (.int (0 : Int32))]) dX7_lay_40 rfl (Nat.le_of_ble_eq_true rfl) rfl ?_
    refine g_mask [true, false, true] rfl ?_
    refine lp_bind (Gh := fun s => G K 41 [some (.ref (kad K 4)), none, some (.int s.1)] [] (Wd K layC s.2)) h (fun s o2 hf gI gE => ?_)
    refine bX7_lay_b41 C gI (fun t11 e => ?_) hf
    · have h := gE _ e
      obtain rfl := Option.some.inj h
      exact g_vret C hQ dX7_lay_58 ⟨rfl, rfl⟩
def fX7_lay (σ : Sg) : Option (Sg) := fX7_lay_b0 σ
theorem ct_X7_lay {σ : Sg} {p : Sg} (h : fX7_lay σ = some p) : Ct layC yX7_lay cX7_lay 3 none 3 (fun ad => [.ref (ad 4), .ref (ad 1)]) σ (okV p) :=
 ct_of (L0 := fun ad => [some (.ref (ad 4)), some (.ref (ad 1)), none]) (by decide) (fun _ => Nat.le_of_ble_eq_true rfl) (fun _ => rfl) (fun K C hQ => g_mask [true, true, false] rfl (bX7_lay_b0 C hQ h))
