-- X10_in
theorem dX10_in_0 : decode cX10_in 0 = .ok (.lload_n 0, 1) := by decide +kernel
theorem dX10_in_1 : decode cX10_in 1 = .ok (.lload_n 2, 1) := by decide +kernel
theorem dX10_in_2 : decode cX10_in 2 = .ok (.lcmp, 1) := by decide +kernel
theorem dX10_in_3 : decode cX10_in 3 = .ok (.ifCond .lt 14, 3) := by decide +kernel
theorem dX10_in_6 : decode cX10_in 6 = .ok (.lload_n 0, 1) := by decide +kernel
theorem dX10_in_7 : decode cX10_in 7 = .ok (.lload 4, 2) := by decide +kernel
theorem dX10_in_9 : decode cX10_in 9 = .ok (.lcmp, 1) := by decide +kernel
theorem dX10_in_10 : decode cX10_in 10 = .ok (.ifCond .gt 7, 3) := by decide +kernel
theorem dX10_in_13 : decode cX10_in 13 = .ok (.iconst 1, 1) := by decide +kernel
theorem dX10_in_14 : decode cX10_in 14 = .ok (.goto 4, 3) := by decide +kernel
theorem dX10_in_17 : decode cX10_in 17 = .ok (.iconst 0, 1) := by decide +kernel
theorem dX10_in_18 : decode cX10_in 18 = .ok (.ireturn, 1) := by decide +kernel
theorem cw_X10_in : Cw yX10_in cX10_in 6 (some .boolean) 3 := ⟨aw_978, aw_56, ⟨by decide, by decide⟩, by decide +kernel, by decide⟩
def fX10_in_b0 (x0 : Int64) (x2 : Int64) (x4 : Int64) (σ : Sg) : Option (Int32 × Sg) :=
  if (lg_cmp x0 x2) < 0 then (some ((0 : Int32), σ)) else (if 0 < (lg_cmp x0 x4) then (some ((0 : Int32), σ)) else (some ((1 : Int32), σ)))
set_option maxRecDepth 4000 in
theorem bX10_in_b0 {K : KT} {x0 : Int64} {x2 : Int64} {x4 : Int64} {σ : Sg} {o : Int32 × Sg} (C : Cx K layM cX10_in RX10 6 (1) (some .boolean))  (hQ : Rk K layM (okI o)) (h : fX10_in_b0 x0 x2 x4 σ = some o) : G K 0 [some (.long x0), none, some (.long x2), none, some (.long x4), none] [] (Wd K layM σ) := by
  unfold fX10_in_b0 at h
  refine g_lload_n C.c dX10_in_0 rfl (i := 0) rfl ?_
  refine g_lload_n C.c dX10_in_1 rfl (i := 2) rfl ?_
  refine g_lcmp C.c dX10_in_2 ?_
  refine g_if_lt C.c (tgt := 17) dX10_in_3 (by decide) (fun c => ?_) (fun c => ?_)
  · replace h := ite_t c h
    refine g_iconst C.c dX10_in_17 (v := (0 : Int32)) (by decide) ?_
    obtain rfl := Option.some.inj h
    exact g_iret C hQ dX10_in_18 rfl ⟨rfl, rfl⟩
  · replace h := ite_f c h
    refine g_lload_n C.c dX10_in_6 rfl (i := 0) rfl ?_
    refine g_lload C.c dX10_in_7 (i := 4) rfl ?_
    refine g_lcmp C.c dX10_in_9 ?_
    refine g_if_gt C.c (tgt := 17) dX10_in_10 (by decide) (fun c => ?_) (fun c => ?_)
    · replace h := ite_t c h
      refine g_iconst C.c dX10_in_17 (v := (0 : Int32)) (by decide) ?_
      obtain rfl := Option.some.inj h
      exact g_iret C hQ dX10_in_18 rfl ⟨rfl, rfl⟩
    · replace h := ite_f c h
      refine g_iconst C.c dX10_in_13 (v := (1 : Int32)) (by decide) ?_
      refine g_goto C.c (tgt := 18) dX10_in_14 (by decide) ?_
      obtain rfl := Option.some.inj h
      exact g_iret C hQ dX10_in_18 rfl ⟨rfl, rfl⟩
def fX10_in (a0 : Int64) (a1 : Int64) (a2 : Int64) (σ : Sg) : Option (Int32 × Sg) := fX10_in_b0 a0 a1 a2 σ
theorem ct_X10_in {a0 : Int64} {a1 : Int64} {a2 : Int64} {σ : Sg} {p : Int32 × Sg} (h : fX10_in a0 a1 a2 σ = some p) : Ct layM yX10_in cX10_in 6 (some .boolean) 1 (fun ad => [.long a0, .long a1, .long a2]) σ (okI p) :=
 ct_of (L0 := fun ad => [some (.long a0), none, some (.long a1), none, some (.long a2), none]) (by decide) (fun _ => Nat.le_of_ble_eq_true rfl) (fun _ => rfl) (fun K C hQ => g_mask [true, false, true, false, true, false] rfl (bX10_in_b0 C hQ h))
-- X10_letters
theorem dX10_letters_0 : decode cX10_letters 0 = .ok (.iconst 0, 1) := by decide +kernel
theorem dX10_letters_1 : decode cX10_letters 1 = .ok (.istore_n 3, 1) := by decide +kernel
theorem dX10_letters_2 : decode cX10_letters 2 = .ok (.iconst 1, 1) := by decide +kernel
theorem dX10_letters_3 : decode cX10_letters 3 = .ok (.istore 4, 2) := by decide +kernel
theorem dX10_letters_5 : decode cX10_letters 5 = .ok (.lload_n 1, 1) := by decide +kernel
theorem dX10_letters_6 : decode cX10_letters 6 = .ok (.lstore 5, 2) := by decide +kernel
theorem dX10_letters_8 : decode cX10_letters 8 = .ok (.iconst 0, 1) := by decide +kernel
theorem dX10_letters_9 : decode cX10_letters 9 = .ok (.istore 7, 2) := by decide +kernel
theorem dX10_letters_11 : decode cX10_letters 11 = .ok (.iload 7, 2) := by decide +kernel
theorem dX10_letters_13 : decode cX10_letters 13 = .ok (.bipush 8, 2) := by decide +kernel
theorem dX10_letters_15 : decode cX10_letters 15 = .ok (.if_icmp .ge 68, 3) := by decide +kernel
theorem dX10_letters_18 : decode cX10_letters 18 = .ok (.lload 5, 2) := by decide +kernel
theorem dX10_letters_20 : decode cX10_letters 20 = .ok (.ldc2_w 72, 3) := by decide +kernel
theorem dX10_letters_23 : decode cX10_letters 23 = .ok (.land, 1) := by decide +kernel
theorem dX10_letters_24 : decode cX10_letters 24 = .ok (.l2i, 1) := by decide +kernel
theorem dX10_letters_25 : decode cX10_letters 25 = .ok (.istore 8, 2) := by decide +kernel
theorem dX10_letters_27 : decode cX10_letters 27 = .ok (.lload 5, 2) := by decide +kernel
theorem dX10_letters_29 : decode cX10_letters 29 = .ok (.bipush 8, 2) := by decide +kernel
theorem dX10_letters_31 : decode cX10_letters 31 = .ok (.lushr, 1) := by decide +kernel
theorem dX10_letters_32 : decode cX10_letters 32 = .ok (.lstore 5, 2) := by decide +kernel
theorem dX10_letters_34 : decode cX10_letters 34 = .ok (.iload 4, 2) := by decide +kernel
theorem dX10_letters_36 : decode cX10_letters 36 = .ok (.ifCond .eq 25, 3) := by decide +kernel
theorem dX10_letters_39 : decode cX10_letters 39 = .ok (.iload 8, 2) := by decide +kernel
theorem dX10_letters_41 : decode cX10_letters 41 = .ok (.bipush 126, 2) := by decide +kernel
theorem dX10_letters_43 : decode cX10_letters 43 = .ok (.if_icmp .gt 18, 3) := by decide +kernel
theorem dX10_letters_46 : decode cX10_letters 46 = .ok (.iload 8, 2) := by decide +kernel
theorem dX10_letters_48 : decode cX10_letters 48 = .ok (.ifCond .eq 9, 3) := by decide +kernel
theorem dX10_letters_51 : decode cX10_letters 51 = .ok (.iload_n 3, 1) := by decide +kernel
theorem dX10_letters_52 : decode cX10_letters 52 = .ok (.iload 7, 2) := by decide +kernel
theorem dX10_letters_54 : decode cX10_letters 54 = .ok (.if_icmp .ne 7, 3) := by decide +kernel
theorem dX10_letters_57 : decode cX10_letters 57 = .ok (.iconst 1, 1) := by decide +kernel
theorem dX10_letters_58 : decode cX10_letters 58 = .ok (.goto 4, 3) := by decide +kernel
theorem dX10_letters_61 : decode cX10_letters 61 = .ok (.iconst 0, 1) := by decide +kernel
theorem dX10_letters_62 : decode cX10_letters 62 = .ok (.istore 4, 2) := by decide +kernel
theorem dX10_letters_64 : decode cX10_letters 64 = .ok (.iload_n 3, 1) := by decide +kernel
theorem dX10_letters_65 : decode cX10_letters 65 = .ok (.iload 8, 2) := by decide +kernel
theorem dX10_letters_67 : decode cX10_letters 67 = .ok (.ifCond .le 7, 3) := by decide +kernel
theorem dX10_letters_70 : decode cX10_letters 70 = .ok (.iconst 1, 1) := by decide +kernel
theorem dX10_letters_71 : decode cX10_letters 71 = .ok (.goto 4, 3) := by decide +kernel
theorem dX10_letters_74 : decode cX10_letters 74 = .ok (.iconst 0, 1) := by decide +kernel
theorem dX10_letters_75 : decode cX10_letters 75 = .ok (.iadd, 1) := by decide +kernel
theorem dX10_letters_76 : decode cX10_letters 76 = .ok (.istore_n 3, 1) := by decide +kernel
theorem dX10_letters_77 : decode cX10_letters 77 = .ok (.iinc 7 1, 3) := by decide +kernel
theorem dX10_letters_80 : decode cX10_letters 80 = .ok (.goto (-69), 3) := by decide +kernel
theorem dX10_letters_83 : decode cX10_letters 83 = .ok (.iload 4, 2) := by decide +kernel
theorem dX10_letters_85 : decode cX10_letters 85 = .ok (.ifCond .ne 6, 3) := by decide +kernel
theorem dX10_letters_88 : decode cX10_letters 88 = .ok (.bipush (-102), 2) := by decide +kernel
theorem dX10_letters_90 : decode cX10_letters 90 = .ok (.ireturn, 1) := by decide +kernel
theorem dX10_letters_91 : decode cX10_letters 91 = .ok (.aload_n 0, 1) := by decide +kernel
theorem dX10_letters_92 : decode cX10_letters 92 = .ok (.getfield 74, 3) := by decide +kernel
theorem dX10_letters_95 : decode cX10_letters 95 = .ok (.iload_n 3, 1) := by decide +kernel
theorem dX10_letters_96 : decode cX10_letters 96 = .ok (.iadd, 1) := by decide +kernel
theorem dX10_letters_97 : decode cX10_letters 97 = .ok (.bipush 64, 2) := by decide +kernel
theorem dX10_letters_99 : decode cX10_letters 99 = .ok (.if_icmp .le 6, 3) := by decide +kernel
theorem dX10_letters_102 : decode cX10_letters 102 = .ok (.bipush (-104), 2) := by decide +kernel
theorem dX10_letters_104 : decode cX10_letters 104 = .ok (.ireturn, 1) := by decide +kernel
theorem dX10_letters_105 : decode cX10_letters 105 = .ok (.iconst 0, 1) := by decide +kernel
theorem dX10_letters_106 : decode cX10_letters 106 = .ok (.istore 7, 2) := by decide +kernel
theorem dX10_letters_108 : decode cX10_letters 108 = .ok (.iload 7, 2) := by decide +kernel
theorem dX10_letters_110 : decode cX10_letters 110 = .ok (.iload_n 3, 1) := by decide +kernel
theorem dX10_letters_111 : decode cX10_letters 111 = .ok (.if_icmp .ge 40, 3) := by decide +kernel
theorem dX10_letters_114 : decode cX10_letters 114 = .ok (.aload_n 0, 1) := by decide +kernel
theorem dX10_letters_115 : decode cX10_letters 115 = .ok (.getfield 7, 3) := by decide +kernel
theorem dX10_letters_118 : decode cX10_letters 118 = .ok (.aload_n 0, 1) := by decide +kernel
theorem dX10_letters_119 : decode cX10_letters 119 = .ok (.getfield 74, 3) := by decide +kernel
theorem dX10_letters_122 : decode cX10_letters 122 = .ok (.lload_n 1, 1) := by decide +kernel
theorem dX10_letters_123 : decode cX10_letters 123 = .ok (.bipush 8, 2) := by decide +kernel
theorem dX10_letters_125 : decode cX10_letters 125 = .ok (.iload 7, 2) := by decide +kernel
theorem dX10_letters_127 : decode cX10_letters 127 = .ok (.imul, 1) := by decide +kernel
theorem dX10_letters_128 : decode cX10_letters 128 = .ok (.lushr, 1) := by decide +kernel
theorem dX10_letters_129 : decode cX10_letters 129 = .ok (.ldc2_w 72, 3) := by decide +kernel
theorem dX10_letters_132 : decode cX10_letters 132 = .ok (.land, 1) := by decide +kernel
theorem dX10_letters_133 : decode cX10_letters 133 = .ok (.l2i, 1) := by decide +kernel
theorem dX10_letters_134 : decode cX10_letters 134 = .ok (.iastore, 1) := by decide +kernel
theorem dX10_letters_135 : decode cX10_letters 135 = .ok (.aload_n 0, 1) := by decide +kernel
theorem dX10_letters_136 : decode cX10_letters 136 = .ok (.dup, 1) := by decide +kernel
theorem dX10_letters_137 : decode cX10_letters 137 = .ok (.getfield 74, 3) := by decide +kernel
theorem dX10_letters_140 : decode cX10_letters 140 = .ok (.iconst 1, 1) := by decide +kernel
theorem dX10_letters_141 : decode cX10_letters 141 = .ok (.iadd, 1) := by decide +kernel
theorem dX10_letters_142 : decode cX10_letters 142 = .ok (.putfield 74, 3) := by decide +kernel
theorem dX10_letters_145 : decode cX10_letters 145 = .ok (.iinc 7 1, 3) := by decide +kernel
theorem dX10_letters_148 : decode cX10_letters 148 = .ok (.goto (-40), 3) := by decide +kernel
theorem dX10_letters_151 : decode cX10_letters 151 = .ok (.aload_n 0, 1) := by decide +kernel
theorem dX10_letters_152 : decode cX10_letters 152 = .ok (.getfield 74, 3) := by decide +kernel
theorem dX10_letters_155 : decode cX10_letters 155 = .ok (.ireturn, 1) := by decide +kernel
theorem cw_X10_letters : Cw yX10_letters cX10_letters 9 (some .int) 1 := ⟨aw_949, aw_56, ⟨by decide, by decide⟩, by decide +kernel, by decide⟩
theorem gf_10_74 {K : KT} {cc : ByteArray} {nL d pc : Nat} {ret : Option FieldType} {L : List (Option Value)} {st : List Value} {σ : Sg} (C : Cx K layM cc RX10 nL d ret)  (hd : decode cc pc = .ok (.getfield 74, 3)) (k : G K (pc + 3) L (.int (rI σ 0 1) :: st) (Wd K layM σ)) : G K pc L (.ref (kad K 0) :: st) (Wd K layM σ) := g_get C (o := 0) (ci := 10) (k := 1) hd rfl rfl rfl (by decide) (Or.inl aw_790) inA10 rfl k
theorem gf_10_7 {K : KT} {cc : ByteArray} {nL d pc : Nat} {ret : Option FieldType} {L : List (Option Value)} {st : List Value} {σ : Sg} (C : Cx K layM cc RX10 nL d ret)  (hd : decode cc pc = .ok (.getfield 7, 3)) (k : G K (pc + 3) L (.ref (kad K 1) :: st) (Wd K layM σ)) : G K pc L (.ref (kad K 0) :: st) (Wd K layM σ) := g_get C (o := 0) (ci := 10) (k := 0) hd rfl rfl rfl (by decide) (Or.inl aw_789) inA10 rfl k
theorem pf_10_74 {K : KT} {cc : ByteArray} {nL d pc : Nat} {ret : Option FieldType} {L : List (Option Value)} {st : List Value} {σ : Sg} (C : Cx K layM cc RX10 nL d ret)  {v : Int32}  (hd : decode cc pc = .ok (.putfield 74, 3)) (k : G K (pc + 3) L st (Wd K layM (wI σ 0 1 v))) : G K pc L (.int v :: .ref (kad K 0) :: st) (Wd K layM σ) := g_putI C (o := 0) (ci := 10) (k := 1) hd rfl rfl rfl (by decide) (Or.inl aw_790) inA10 tyX10_ok nmX10 rfl rfl rfl k
def fX10_letters_b75 (x1 : Int64) (x4 : Int32) (x5 : Int64) (x7 : Int32) (y0 : Int32) (y1 : Int32) (σ : Sg) : Option ((Int32 × Int32 × Int64 × Int32 × Sg) ⊕ ((Int32 × Int32 × Sg))) :=
  some (.inl ((y1 + y0), x4, x5, (x7 + (1 : Int32)), σ))
def fX10_letters_b62 (x1 : Int64) (x3 : Int32) (x5 : Int64) (x7 : Int32) (x8 : Int32) (y0 : Int32) (σ : Sg) : Option ((Int32 × Int32 × Int64 × Int32 × Sg) ⊕ ((Int32 × Int32 × Sg))) :=
  if x8 ≤ 0 then (fX10_letters_b75 x1 y0 x5 x7 (0 : Int32) x3 σ) else (fX10_letters_b75 x1 y0 x5 x7 (1 : Int32) x3 σ)
def fX10_letters_b61 (x1 : Int64) (x3 : Int32) (x5 : Int64) (x7 : Int32) (x8 : Int32) (σ : Sg) : Option ((Int32 × Int32 × Int64 × Int32 × Sg) ⊕ ((Int32 × Int32 × Sg))) :=
  fX10_letters_b62 x1 x3 x5 x7 x8 (0 : Int32) σ
def fX10_letters_b57 (x1 : Int64) (x3 : Int32) (x5 : Int64) (x7 : Int32) (x8 : Int32) (σ : Sg) : Option ((Int32 × Int32 × Int64 × Int32 × Sg) ⊕ ((Int32 × Int32 × Sg))) :=
  fX10_letters_b62 x1 x3 x5 x7 x8 (1 : Int32) σ
def fX10_letters_b11 (x1 : Int64) (x3 : Int32) (x4 : Int32) (x5 : Int64) (x7 : Int32) (σ : Sg) : Option ((Int32 × Int32 × Int64 × Int32 × Sg) ⊕ ((Int32 × Int32 × Sg))) :=
  if (8 : Int32) ≤ x7 then (some (.inr (x3, x4, σ))) else (if x4 = 0 then (fX10_letters_b61 x1 x3 (lushr x5 (8 : Int32)) x7 (((x5 &&& (255 : Int64))).toInt32) σ) else (if (126 : Int32) < ((x5 &&& (255 : Int64))).toInt32 then (fX10_letters_b61 x1 x3 (lushr x5 (8 : Int32)) x7 (((x5 &&& (255 : Int64))).toInt32) σ) else (if ((x5 &&& (255 : Int64))).toInt32 = 0 then (fX10_letters_b57 x1 x3 (lushr x5 (8 : Int32)) x7 (((x5 &&& (255 : Int64))).toInt32) σ) else (if x3 = x7 then (fX10_letters_b57 x1 x3 (lushr x5 (8 : Int32)) x7 (((x5 &&& (255 : Int64))).toInt32) σ) else (fX10_letters_b61 x1 x3 (lushr x5 (8 : Int32)) x7 (((x5 &&& (255 : Int64))).toInt32) σ)))))
def fX10_letters_b108 (x1 : Int64) (x3 : Int32) (x7 : Int32) (σ : Sg) : Option ((Int32 × Sg) ⊕ ((Sg))) :=
  if x3 ≤ x7 then (some (.inr σ)) else (if inb (rI σ 0 1) 64 = true then (some (.inl ((x7 + (1 : Int32)), (wI (wI σ 1 ((rI σ 0 1)).toNatClampNeg ((((lushr x1 ((8 : Int32) * x7)) &&& (255 : Int64))).toInt32)) 0 1 ((rI (wI σ 1 ((rI σ 0 1)).toNatClampNeg ((((lushr x1 ((8 : Int32) * x7)) &&& (255 : Int64))).toInt32)) 0 1) + (1 : Int32)))))) else none)
def fX10_letters_b0 (x1 : Int64) (σ : Sg) : Option (Int32 × Sg) :=
  Option.bind (lp (fun s => fX10_letters_b11 x1 s.1 s.2.1 s.2.2.1 s.2.2.2.1 s.2.2.2.2) FU ((0 : Int32), (1 : Int32), x1, (0 : Int32), σ)) fun t1 => if t1.2.1 = 0 then (some ((-102 : Int32), t1.2.2)) else (if ((rI t1.2.2 0 1) + t1.1) ≤ (64 : Int32) then (Option.bind (lp (fun s => fX10_letters_b108 x1 t1.1 s.1 s.2) FU ((0 : Int32), t1.2.2)) fun t4 => some ((rI t4 0 1), t4)) else (some ((-104 : Int32), t1.2.2)))
set_option maxRecDepth 4000 in
theorem bX10_letters_b75 {K : KT} {x1 : Int64} {x4 : Int32} {x5 : Int64} {x7 : Int32} {y0 : Int32} {y1 : Int32} {σ : Sg} {o : (Int32 × Int32 × Int64 × Int32 × Sg) ⊕ ((Int32 × Int32 × Sg))} (C : Cx K layM cX10_letters RX10 9 (1) (some .int))  (hI : ∀ s' : Int32 × Int32 × Int64 × Int32 × Sg, o = .inl s' → G K 11 [some (.ref (kad K 0)), some (.long x1), none, some (.int s'.1), some (.int s'.2.1), some (.long s'.2.2.1), none, some (.int s'.2.2.2.1), none] [] (Wd K layM s'.2.2.2.2)) (hE0 : ∀ t : Int32 × Int32 × Sg, o = .inr t → G K 83 [some (.ref (kad K 0)), some (.long x1), none, some (.int t.1), some (.int t.2.1), none, none, none, none] [] (Wd K layM t.2.2)) (h : fX10_letters_b75 x1 x4 x5 x7 y0 y1 σ = some o) : G K 75 [some (.ref (kad K 0)), some (.long x1), none, none, some (.int x4), some (.long x5), none, some (.int x7), none] [.int y0, .int y1] (Wd K layM σ) := by
  unfold fX10_letters_b75 at h
  refine g_iadd C.c dX10_letters_75 ?_
  refine g_istore_n C.c (i := 3) (L' := [some (.ref (kad K 0)), some (.long x1), none, some (.int (y1 + y0)), some (.int x4), some (.long x5), none, some (.int x7), none]) dX10_letters_76 rfl (Nat.le_of_ble_eq_true rfl) rfl ?_
  refine g_iinc C.c (i := 7) (y := (1 : Int32)) (L' := [some (.ref (kad K 0)), some (.long x1), none, some (.int (y1 + y0)), some (.int x4), some (.long x5), none, some (.int (x7 + (1 : Int32))), none]) dX10_letters_77 rfl (by decide) (Nat.le_of_ble_eq_true rfl) rfl ?_
  refine g_goto C.c (tgt := 11) dX10_letters_80 (by decide) ?_
  have g9 := hI _ (Option.some.inj h).symm
  exact g_mask [true, true, false, true, true, true, false, true, false] rfl g9
set_option maxRecDepth 4000 in
theorem bX10_letters_b62 {K : KT} {x1 : Int64} {x3 : Int32} {x5 : Int64} {x7 : Int32} {x8 : Int32} {y0 : Int32} {σ : Sg} {o : (Int32 × Int32 × Int64 × Int32 × Sg) ⊕ ((Int32 × Int32 × Sg))} (C : Cx K layM cX10_letters RX10 9 (1) (some .int))  (hI : ∀ s' : Int32 × Int32 × Int64 × Int32 × Sg, o = .inl s' → G K 11 [some (.ref (kad K 0)), some (.long x1), none, some (.int s'.1), some (.int s'.2.1), some (.long s'.2.2.1), none, some (.int s'.2.2.2.1), none] [] (Wd K layM s'.2.2.2.2)) (hE0 : ∀ t : Int32 × Int32 × Sg, o = .inr t → G K 83 [some (.ref (kad K 0)), some (.long x1), none, some (.int t.1), some (.int t.2.1), none, none, none, none] [] (Wd K layM t.2.2)) (h : fX10_letters_b62 x1 x3 x5 x7 x8 y0 σ = some o) : G K 62 [some (.ref (kad K 0)), some (.long x1), none, some (.int x3), none, some (.long x5), none, some (.int x7), some (.int x8)] [.int y0] (Wd K layM σ) := by
  unfold fX10_letters_b62 at h
  refine g_istore C.c (i := 4) (L' := [some (.ref (kad K 0)), some (.long x1), none, some (.int x3), some (.int y0), some (.long x5), none, some (.int x7), some (.int x8)]) dX10_letters_62 (Nat.le_of_ble_eq_true rfl) rfl ?_
  refine g_iload_n C.c dX10_letters_64 rfl (i := 3) rfl ?_
  refine g_iload C.c dX10_letters_65 (i := 8) rfl ?_
  refine g_if_le C.c (tgt := 74) dX10_letters_67 (by decide) (fun c => ?_) (fun c => ?_)
  · replace h := ite_t c h
    refine g_iconst C.c dX10_letters_74 (v := (0 : Int32)) (by decide) ?_
    exact g_mask [true, true, false, false, true, true, false, true, false] rfl (bX10_letters_b75 C hI hE0 h)
  · replace h := ite_f c h
    refine g_iconst C.c dX10_letters_70 (v := (1 : Int32)) (by decide) ?_
    refine g_goto C.c (tgt := 75) dX10_letters_71 (by decide) ?_
    exact g_mask [true, true, false, false, true, true, false, true, false] rfl (bX10_letters_b75 C hI hE0 h)
set_option maxRecDepth 4000 in
theorem bX10_letters_b61 {K : KT} {x1 : Int64} {x3 : Int32} {x5 : Int64} {x7 : Int32} {x8 : Int32} {σ : Sg} {o : (Int32 × Int32 × Int64 × Int32 × Sg) ⊕ ((Int32 × Int32 × Sg))} (C : Cx K layM cX10_letters RX10 9 (1) (some .int))  (hI : ∀ s' : Int32 × Int32 × Int64 × Int32 × Sg, o = .inl s' → G K 11 [some (.ref (kad K 0)), some (.long x1), none, some (.int s'.1), some (.int s'.2.1), some (.long s'.2.2.1), none, some (.int s'.2.2.2.1), none] [] (Wd K layM s'.2.2.2.2)) (hE0 : ∀ t : Int32 × Int32 × Sg, o = .inr t → G K 83 [some (.ref (kad K 0)), some (.long x1), none, some (.int t.1), some (.int t.2.1), none, none, none, none] [] (Wd K layM t.2.2)) (h : fX10_letters_b61 x1 x3 x5 x7 x8 σ = some o) : G K 61 [some (.ref (kad K 0)), some (.long x1), none, some (.int x3), none, some (.long x5), none, some (.int x7), some (.int x8)] [] (Wd K layM σ) := by
  unfold fX10_letters_b61 at h
  refine g_iconst C.c dX10_letters_61 (v := (0 : Int32)) (by decide) ?_
  exact g_mask [true, true, false, true, false, true, false, true, true] rfl (bX10_letters_b62 C hI hE0 h)
set_option maxRecDepth 4000 in
theorem bX10_letters_b57 {K : KT} {x1 : Int64} {x3 : Int32} {x5 : Int64} {x7 : Int32} {x8 : Int32} {σ : Sg} {o : (Int32 × Int32 × Int64 × Int32 × Sg) ⊕ ((Int32 × Int32 × Sg))} (C : Cx K layM cX10_letters RX10 9 (1) (some .int))  (hI : ∀ s' : Int32 × Int32 × Int64 × Int32 × Sg, o = .inl s' → G K 11 [some (.ref (kad K 0)), some (.long x1), none, some (.int s'.1), some (.int s'.2.1), some (.long s'.2.2.1), none, some (.int s'.2.2.2.1), none] [] (Wd K layM s'.2.2.2.2)) (hE0 : ∀ t : Int32 × Int32 × Sg, o = .inr t → G K 83 [some (.ref (kad K 0)), some (.long x1), none, some (.int t.1), some (.int t.2.1), none, none, none, none] [] (Wd K layM t.2.2)) (h : fX10_letters_b57 x1 x3 x5 x7 x8 σ = some o) : G K 57 [some (.ref (kad K 0)), some (.long x1), none, some (.int x3), none, some (.long x5), none, some (.int x7), some (.int x8)] [] (Wd K layM σ) := by
  unfold fX10_letters_b57 at h
  refine g_iconst C.c dX10_letters_57 (v := (1 : Int32)) (by decide) ?_
  refine g_goto C.c (tgt := 62) dX10_letters_58 (by decide) ?_
  exact g_mask [true, true, false, true, false, true, false, true, true] rfl (bX10_letters_b62 C hI hE0 h)
set_option maxRecDepth 4000 in
theorem bX10_letters_b11 {K : KT} {x1 : Int64} {x3 : Int32} {x4 : Int32} {x5 : Int64} {x7 : Int32} {σ : Sg} {o : (Int32 × Int32 × Int64 × Int32 × Sg) ⊕ ((Int32 × Int32 × Sg))} (C : Cx K layM cX10_letters RX10 9 (1) (some .int))  (hI : ∀ s' : Int32 × Int32 × Int64 × Int32 × Sg, o = .inl s' → G K 11 [some (.ref (kad K 0)), some (.long x1), none, some (.int s'.1), some (.int s'.2.1), some (.long s'.2.2.1), none, some (.int s'.2.2.2.1), none] [] (Wd K layM s'.2.2.2.2)) (hE0 : ∀ t : Int32 × Int32 × Sg, o = .inr t → G K 83 [some (.ref (kad K 0)), some (.long x1), none, some (.int t.1), some (.int t.2.1), none, none, none, none] [] (Wd K layM t.2.2)) (h : fX10_letters_b11 x1 x3 x4 x5 x7 σ = some o) : G K 11 [some (.ref (kad K 0)), some (.long x1), none, some (.int x3), some (.int x4), some (.long x5), none, some (.int x7), none] [] (Wd K layM σ) := by
  unfold fX10_letters_b11 at h
  refine g_iload C.c dX10_letters_11 (i := 7) rfl ?_
  refine g_bipush C.c dX10_letters_13 (v := (8 : Int32)) (by decide) ?_
  refine g_icmp_ge C.c (tgt := 83) dX10_letters_15 (by decide) (fun c => ?_) (fun c => ?_)
  · replace h := ite_t c h
    have g9 := hE0 _ (Option.some.inj h).symm
    exact g_mask [true, true, false, true, true, false, false, false, false] rfl g9
  · replace h := ite_f c h
    refine g_lload C.c dX10_letters_18 (i := 5) rfl ?_
    refine g_ldc2 C.c (v := (255 : Int64)) aw_950 dX10_letters_20 ?_
    refine g_land C.c dX10_letters_23 ?_
    refine g_l2i C.c dX10_letters_24 ?_
    refine g_istore C.c (i := 8) (L' := [some (.ref (kad K 0)), some (.long x1), none, some (.int x3), some (.int x4), some (.long x5), none, some (.int x7), some (.int ((x5 &&& (255 : Int64))).toInt32)]) dX10_letters_25 (Nat.le_of_ble_eq_true rfl) rfl ?_
    refine g_lload C.c dX10_letters_27 (i := 5) rfl ?_
    refine g_bipush C.c dX10_letters_29 (v := (8 : Int32)) (by decide) ?_
    refine g_lushr C.c dX10_letters_31 ?_
    refine g_lstore C.c (i := 5) (L' := [some (.ref (kad K 0)), some (.long x1), none, some (.int x3), some (.int x4), some (.long (lushr x5 (8 : Int32))), none, some (.int x7), some (.int ((x5 &&& (255 : Int64))).toInt32)]) dX10_letters_32 (Nat.le_of_ble_eq_true rfl) rfl ?_
    refine g_iload C.c dX10_letters_34 (i := 4) rfl ?_
    refine g_if_eq C.c (tgt := 61) dX10_letters_36 (by decide) (fun c => ?_) (fun c => ?_)
    · replace h := ite_t c h
      exact g_mask [true, true, false, true, false, true, false, true, true] rfl (bX10_letters_b61 C hI hE0 h)
    · replace h := ite_f c h
      refine g_iload C.c dX10_letters_39 (i := 8) rfl ?_
      refine g_bipush C.c dX10_letters_41 (v := (126 : Int32)) (by decide) ?_
      refine g_icmp_gt C.c (tgt := 61) dX10_letters_43 (by decide) (fun c => ?_) (fun c => ?_)
      · replace h := ite_t c h
        exact g_mask [true, true, false, true, false, true, false, true, true] rfl (bX10_letters_b61 C hI hE0 h)
      · replace h := ite_f c h
        refine g_iload C.c dX10_letters_46 (i := 8) rfl ?_
        refine g_if_eq C.c (tgt := 57) dX10_letters_48 (by decide) (fun c => ?_) (fun c => ?_)
        · replace h := ite_t c h
          exact g_mask [true, true, false, true, false, true, false, true, true] rfl (bX10_letters_b57 C hI hE0 h)
        · replace h := ite_f c h
          refine g_iload_n C.c dX10_letters_51 rfl (i := 3) rfl ?_
          refine g_iload C.c dX10_letters_52 (i := 7) rfl ?_
          refine g_icmp_ne C.c (tgt := 61) dX10_letters_54 (by decide) (fun c => ?_) (fun c => ?_)
          · replace h := ite_f c h
            exact g_mask [true, true, false, true, false, true, false, true, true] rfl (bX10_letters_b61 C hI hE0 h)
          · replace h := ite_t c h
            exact g_mask [true, true, false, true, false, true, false, true, true] rfl (bX10_letters_b57 C hI hE0 h)
set_option maxRecDepth 4000 in
theorem bX10_letters_b108 {K : KT} {x1 : Int64} {x3 : Int32} {x7 : Int32} {σ : Sg} {o : (Int32 × Sg) ⊕ ((Sg))} (C : Cx K layM cX10_letters RX10 9 (1) (some .int))  (hI : ∀ s' : Int32 × Sg, o = .inl s' → G K 108 [some (.ref (kad K 0)), some (.long x1), none, some (.int x3), none, none, none, some (.int s'.1), none] [] (Wd K layM s'.2)) (hE0 : ∀ t : Sg, o = .inr t → G K 151 [some (.ref (kad K 0)), none, none, none, none, none, none, none, none] [] (Wd K layM t)) (h : fX10_letters_b108 x1 x3 x7 σ = some o) : G K 108 [some (.ref (kad K 0)), some (.long x1), none, some (.int x3), none, none, none, some (.int x7), none] [] (Wd K layM σ) := by
  unfold fX10_letters_b108 at h
  refine g_iload C.c dX10_letters_108 (i := 7) rfl ?_
  refine g_iload_n C.c dX10_letters_110 rfl (i := 3) rfl ?_
  refine g_icmp_ge C.c (tgt := 151) dX10_letters_111 (by decide) (fun c => ?_) (fun c => ?_)
  · replace h := ite_t c h
    have g9 := hE0 _ (Option.some.inj h).symm
    exact g_mask [true, false, false, false, false, false, false, false, false] rfl g9
  · replace h := ite_f c h
    refine g_aload_n C.c dX10_letters_114 rfl (i := 0) rfl ?_
    refine gf_10_7 C dX10_letters_115 ?_
    refine g_aload_n C.c dX10_letters_118 rfl (i := 0) rfl ?_
    refine gf_10_74 C dX10_letters_119 ?_
    refine g_lload_n C.c dX10_letters_122 rfl (i := 1) rfl ?_
    refine g_bipush C.c dX10_letters_123 (v := (8 : Int32)) (by decide) ?_
    refine g_iload C.c dX10_letters_125 (i := 7) rfl ?_
    refine g_imul C.c dX10_letters_127 ?_
    refine g_lushr C.c dX10_letters_128 ?_
    refine g_ldc2 C.c (v := (255 : Int64)) aw_950 dX10_letters_129 ?_
    refine g_land C.c dX10_letters_132 ?_
    refine g_l2i C.c dX10_letters_133 ?_
    obtain ⟨c3, h⟩ := chk h
    refine g_iast C dX10_letters_134 rfl c3 ?_
    refine g_aload_n C.c dX10_letters_135 rfl (i := 0) rfl ?_
    refine g_dup C.c dX10_letters_136 rfl ?_
    refine gf_10_74 C dX10_letters_137 ?_
    refine g_iconst C.c dX10_letters_140 (v := (1 : Int32)) (by decide) ?_
    refine g_iadd C.c dX10_letters_141 ?_
    refine pf_10_74 C dX10_letters_142 ?_
    refine g_iinc C.c (i := 7) (y := (1 : Int32)) (L' := [some (.ref (kad K 0)), some (.long x1), none, some (.int x3), none, none, none, some (.int (x7 + (1 : Int32))), none]) dX10_letters_145 rfl (by decide) (Nat.le_of_ble_eq_true rfl) rfl ?_
    refine g_goto C.c (tgt := 108) dX10_letters_148 (by decide) ?_
    have g9 := hI _ (Option.some.inj h).symm
    exact g_mask [true, true, false, true, false, false, false, true, false] rfl g9
set_option maxRecDepth 4000 in
theorem bX10_letters_b0 {K : KT} {x1 : Int64} {σ : Sg} {o : Int32 × Sg} (C : Cx K layM cX10_letters RX10 9 (1) (some .int))  (hQ : Rk K layM (okI o)) (h : fX10_letters_b0 x1 σ = some o) : G K 0 [some (.ref (kad K 0)), some (.long x1), none, none, none, none, none, none, none] [] (Wd K layM σ) := by
  unfold fX10_letters_b0 at h
  refine g_iconst C.c dX10_letters_0 (v := (0 : Int32)) (by decide) ?_
  refine g_istore_n C.c (i := 3) (L' := [some (.ref (kad K 0)), some (.long x1), none, some (.int (0 : Int32)), none, none, none, none, none]) dX10_letters_1 rfl (Nat.le_of_ble_eq_true rfl) rfl ?_
  refine g_iconst C.c dX10_letters_2 (v := (1 : Int32)) (by decide) ?_
  refine g_istore C.c (i := 4) (L' := [some (.ref (kad K 0)), some (.long x1), none, some (.int (0 : Int32)), some (.int (1 : Int32)), none, none, none, none]) dX10_letters_3 (Nat.le_of_ble_eq_true rfl) rfl ?_
  refine g_lload_n C.c dX10_letters_5 rfl (i := 1) rfl ?_
  refine g_lstore C.c (i := 5) (L' := [some (.ref (kad K 0)), some (.long x1), none, some (.int (0 : Int32)), some (.int (1 : Int32)), some (.long x1), none, none, none]) dX10_letters_6 (Nat.le_of_ble_eq_true rfl) rfl ?_
  refine g_iconst C.c dX10_letters_8 (v := (0 : Int32)) (by decide) ?_
  refine g_istore C.c (i := 7) (L' := [some (.ref (kad K 0)), some (.long x1), none, some (.int (0 : Int32)), some (.int (1 : Int32)), some (.long x1), none, some (.int (0 : Int32)), none]) dX10_letters_9 (Nat.le_of_ble_eq_true rfl) rfl ?_
  refine g_mask [true, true, false, true, true, true, false, true, false] rfl ?_
  refine lp_bind (Gh := fun s => G K 11 [some (.ref (kad K 0)), some (.long x1), none, some (.int s.1), some (.int s.2.1), some (.long s.2.2.1), none, some (.int s.2.2.2.1), none] [] (Wd K layM s.2.2.2.2)) h (fun s o2 hf gI gE => ?_)
  refine bX10_letters_b11 C gI (fun t1 e => ?_) hf
  · have h := gE _ e
    refine g_iload C.c dX10_letters_83 (i := 4) rfl ?_
    refine g_if_ne C.c (tgt := 91) dX10_letters_85 (by decide) (fun c => ?_) (fun c => ?_)
    · replace h := ite_f c h
      refine g_aload_n C.c dX10_letters_91 rfl (i := 0) rfl ?_
      refine gf_10_74 C dX10_letters_92 ?_
      refine g_iload_n C.c dX10_letters_95 rfl (i := 3) rfl ?_
      refine g_iadd C.c dX10_letters_96 ?_
      refine g_bipush C.c dX10_letters_97 (v := (64 : Int32)) (by decide) ?_
      refine g_icmp_le C.c (tgt := 105) dX10_letters_99 (by decide) (fun c => ?_) (fun c => ?_)
      · replace h := ite_t c h
        refine g_iconst C.c dX10_letters_105 (v := (0 : Int32)) (by decide) ?_
        refine g_istore C.c (i := 7) (L' := [some (.ref (kad K 0)), some (.long x1), none, some (.int t1.1), some (.int t1.2.1), none, none, some (.int (0 : Int32)), none]) dX10_letters_106 (Nat.le_of_ble_eq_true rfl) rfl ?_
        refine g_mask [true, true, false, true, false, false, false, true, false] rfl ?_
        refine lp_bind (Gh := fun s => G K 108 [some (.ref (kad K 0)), some (.long x1), none, some (.int t1.1), none, none, none, some (.int s.1), none] [] (Wd K layM s.2)) h (fun s o2 hf gI gE => ?_)
        refine bX10_letters_b108 C gI (fun t4 e => ?_) hf
        · have h := gE _ e
          refine g_aload_n C.c dX10_letters_151 rfl (i := 0) rfl ?_
          refine gf_10_74 C dX10_letters_152 ?_
          obtain rfl := Option.some.inj h
          exact g_iret C hQ dX10_letters_155 rfl ⟨rfl, rfl⟩
      · replace h := ite_f c h
        refine g_bipush C.c dX10_letters_102 (v := (-104 : Int32)) (by decide) ?_
        obtain rfl := Option.some.inj h
        exact g_iret C hQ dX10_letters_104 rfl ⟨rfl, rfl⟩
    · replace h := ite_t c h
      refine g_bipush C.c dX10_letters_88 (v := (-102 : Int32)) (by decide) ?_
      obtain rfl := Option.some.inj h
      exact g_iret C hQ dX10_letters_90 rfl ⟨rfl, rfl⟩
def fX10_letters (a0 : Int64) (σ : Sg) : Option (Int32 × Sg) := fX10_letters_b0 a0 σ
theorem ct_X10_letters {a0 : Int64} {σ : Sg} {p : Int32 × Sg} (h : fX10_letters a0 σ = some p) : Ct layM yX10_letters cX10_letters 9 (some .int) 1 (fun ad => [.ref (ad 0), .long a0]) σ (okI p) :=
 ct_of (L0 := fun ad => [some (.ref (ad 0)), some (.long a0), none, none, none, none, none, none, none]) (by decide) (fun _ => Nat.le_of_ble_eq_true rfl) (fun _ => rfl) (fun K C hQ => g_mask [true, true, false, false, false, false, false, false, false] rfl (bX10_letters_b0 C hQ h))
-- X10_blank
theorem dX10_blank_0 : decode cX10_blank 0 = .ok (.aload_n 0, 1) := by decide +kernel
theorem dX10_blank_1 : decode cX10_blank 1 = .ok (.getfield 74, 3) := by decide +kernel
theorem dX10_blank_4 : decode cX10_blank 4 = .ok (.istore_n 1, 1) := by decide +kernel
theorem dX10_blank_5 : decode cX10_blank 5 = .ok (.aload_n 0, 1) := by decide +kernel
theorem dX10_blank_6 : decode cX10_blank 6 = .ok (.iconst 0, 1) := by decide +kernel
theorem dX10_blank_7 : decode cX10_blank 7 = .ok (.putfield 74, 3) := by decide +kernel
theorem dX10_blank_10 : decode cX10_blank 10 = .ok (.iload_n 1, 1) := by decide +kernel
theorem dX10_blank_11 : decode cX10_blank 11 = .ok (.ireturn, 1) := by decide +kernel
theorem cw_X10_blank : Cw yX10_blank cX10_blank 2 (some .int) 0 := ⟨aw_954, aw_56, ⟨by decide, by decide⟩, by decide +kernel, by decide⟩
def fX10_blank_b0  (σ : Sg) : Option (Int32 × Sg) :=
  some ((rI σ 0 1), (wI σ 0 1 (0 : Int32)))
set_option maxRecDepth 4000 in
theorem bX10_blank_b0 {K : KT}  {σ : Sg} {o : Int32 × Sg} (C : Cx K layM cX10_blank RX10 2 (1) (some .int))  (hQ : Rk K layM (okI o)) (h : fX10_blank_b0  σ = some o) : G K 0 [some (.ref (kad K 0)), none] [] (Wd K layM σ) := by
  unfold fX10_blank_b0 at h
  refine g_aload_n C.c dX10_blank_0 rfl (i := 0) rfl ?_
  refine gf_10_74 C dX10_blank_1 ?_
  refine g_istore_n C.c (i := 1) (L' := [some (.ref (kad K 0)), some (.int (rI σ 0 1))]) dX10_blank_4 rfl (Nat.le_of_ble_eq_true rfl) rfl ?_
  refine g_aload_n C.c dX10_blank_5 rfl (i := 0) rfl ?_
  refine g_iconst C.c dX10_blank_6 (v := (0 : Int32)) (by decide) ?_
  refine pf_10_74 C dX10_blank_7 ?_
  refine g_iload_n C.c dX10_blank_10 rfl (i := 1) rfl ?_
  obtain rfl := Option.some.inj h
  exact g_iret C hQ dX10_blank_11 rfl ⟨rfl, rfl⟩
def fX10_blank (σ : Sg) : Option (Int32 × Sg) := fX10_blank_b0 σ
theorem ct_X10_blank {σ : Sg} {p : Int32 × Sg} (h : fX10_blank σ = some p) : Ct layM yX10_blank cX10_blank 2 (some .int) 1 (fun ad => [.ref (ad 0)]) σ (okI p) :=
 ct_of (L0 := fun ad => [some (.ref (ad 0)), none]) (by decide) (fun _ => Nat.le_of_ble_eq_true rfl) (fun _ => rfl) (fun K C hQ => g_mask [true, false] rfl (bX10_blank_b0 C hQ h))
-- X10_flowOf
theorem dX10_flowOf_0 : decode cX10_flowOf 0 = .ok (.iload_n 0, 1) := by decide +kernel
theorem dX10_flowOf_1 : decode cX10_flowOf 1 = .ok (.bipush 110, 2) := by decide +kernel
theorem dX10_flowOf_3 : decode cX10_flowOf 3 = .ok (.if_icmp .ne 7, 3) := by decide +kernel
theorem dX10_flowOf_6 : decode cX10_flowOf 6 = .ok (.iconst 0, 1) := by decide +kernel
theorem dX10_flowOf_7 : decode cX10_flowOf 7 = .ok (.goto 34, 3) := by decide +kernel
theorem dX10_flowOf_10 : decode cX10_flowOf 10 = .ok (.iload_n 0, 1) := by decide +kernel
theorem dX10_flowOf_11 : decode cX10_flowOf 11 = .ok (.bipush 101, 2) := by decide +kernel
theorem dX10_flowOf_13 : decode cX10_flowOf 13 = .ok (.if_icmp .ne 7, 3) := by decide +kernel
theorem dX10_flowOf_16 : decode cX10_flowOf 16 = .ok (.iconst 1, 1) := by decide +kernel
theorem dX10_flowOf_17 : decode cX10_flowOf 17 = .ok (.goto 24, 3) := by decide +kernel
theorem dX10_flowOf_20 : decode cX10_flowOf 20 = .ok (.iload_n 0, 1) := by decide +kernel
theorem dX10_flowOf_21 : decode cX10_flowOf 21 = .ok (.bipush 115, 2) := by decide +kernel
theorem dX10_flowOf_23 : decode cX10_flowOf 23 = .ok (.if_icmp .ne 7, 3) := by decide +kernel
theorem dX10_flowOf_26 : decode cX10_flowOf 26 = .ok (.iconst 2, 1) := by decide +kernel
theorem dX10_flowOf_27 : decode cX10_flowOf 27 = .ok (.goto 14, 3) := by decide +kernel
theorem dX10_flowOf_30 : decode cX10_flowOf 30 = .ok (.iload_n 0, 1) := by decide +kernel
theorem dX10_flowOf_31 : decode cX10_flowOf 31 = .ok (.bipush 119, 2) := by decide +kernel
theorem dX10_flowOf_33 : decode cX10_flowOf 33 = .ok (.if_icmp .ne 7, 3) := by decide +kernel
theorem dX10_flowOf_36 : decode cX10_flowOf 36 = .ok (.iconst 3, 1) := by decide +kernel
theorem dX10_flowOf_37 : decode cX10_flowOf 37 = .ok (.goto 4, 3) := by decide +kernel
theorem dX10_flowOf_40 : decode cX10_flowOf 40 = .ok (.iconst (-1), 1) := by decide +kernel
theorem dX10_flowOf_41 : decode cX10_flowOf 41 = .ok (.ireturn, 1) := by decide +kernel
theorem cw_X10_flowOf : Cw yX10_flowOf cX10_flowOf 1 (some .int) 1 := ⟨aw_969, aw_56, ⟨by decide, by decide⟩, by decide +kernel, by decide⟩
def fX10_flowOf_b0 (x0 : Int32) (σ : Sg) : Option (Int32 × Sg) :=
  if x0 = (110 : Int32) then (some ((0 : Int32), σ)) else (if x0 = (101 : Int32) then (some ((1 : Int32), σ)) else (if x0 = (115 : Int32) then (some ((2 : Int32), σ)) else (if x0 = (119 : Int32) then (some ((3 : Int32), σ)) else (some ((-1 : Int32), σ)))))
set_option maxRecDepth 4000 in
theorem bX10_flowOf_b0 {K : KT} {x0 : Int32} {σ : Sg} {o : Int32 × Sg} (C : Cx K layM cX10_flowOf RX10 1 (1) (some .int))  (hQ : Rk K layM (okI o)) (h : fX10_flowOf_b0 x0 σ = some o) : G K 0 [some (.int x0)] [] (Wd K layM σ) := by
  unfold fX10_flowOf_b0 at h
  refine g_iload_n C.c dX10_flowOf_0 rfl (i := 0) rfl ?_
  refine g_bipush C.c dX10_flowOf_1 (v := (110 : Int32)) (by decide) ?_
  refine g_icmp_ne C.c (tgt := 10) dX10_flowOf_3 (by decide) (fun c => ?_) (fun c => ?_)
  · replace h := ite_f c h
    refine g_iload_n C.c dX10_flowOf_10 rfl (i := 0) rfl ?_
    refine g_bipush C.c dX10_flowOf_11 (v := (101 : Int32)) (by decide) ?_
    refine g_icmp_ne C.c (tgt := 20) dX10_flowOf_13 (by decide) (fun c => ?_) (fun c => ?_)
    · replace h := ite_f c h
      refine g_iload_n C.c dX10_flowOf_20 rfl (i := 0) rfl ?_
      refine g_bipush C.c dX10_flowOf_21 (v := (115 : Int32)) (by decide) ?_
      refine g_icmp_ne C.c (tgt := 30) dX10_flowOf_23 (by decide) (fun c => ?_) (fun c => ?_)
      · replace h := ite_f c h
        refine g_iload_n C.c dX10_flowOf_30 rfl (i := 0) rfl ?_
        refine g_bipush C.c dX10_flowOf_31 (v := (119 : Int32)) (by decide) ?_
        refine g_icmp_ne C.c (tgt := 40) dX10_flowOf_33 (by decide) (fun c => ?_) (fun c => ?_)
        · replace h := ite_f c h
          refine g_iconst C.c dX10_flowOf_40 (v := (-1 : Int32)) (by decide) ?_
          obtain rfl := Option.some.inj h
          exact g_iret C hQ dX10_flowOf_41 rfl ⟨rfl, rfl⟩
        · replace h := ite_t c h
          refine g_iconst C.c dX10_flowOf_36 (v := (3 : Int32)) (by decide) ?_
          refine g_goto C.c (tgt := 41) dX10_flowOf_37 (by decide) ?_
          obtain rfl := Option.some.inj h
          exact g_iret C hQ dX10_flowOf_41 rfl ⟨rfl, rfl⟩
      · replace h := ite_t c h
        refine g_iconst C.c dX10_flowOf_26 (v := (2 : Int32)) (by decide) ?_
        refine g_goto C.c (tgt := 41) dX10_flowOf_27 (by decide) ?_
        obtain rfl := Option.some.inj h
        exact g_iret C hQ dX10_flowOf_41 rfl ⟨rfl, rfl⟩
    · replace h := ite_t c h
      refine g_iconst C.c dX10_flowOf_16 (v := (1 : Int32)) (by decide) ?_
      refine g_goto C.c (tgt := 41) dX10_flowOf_17 (by decide) ?_
      obtain rfl := Option.some.inj h
      exact g_iret C hQ dX10_flowOf_41 rfl ⟨rfl, rfl⟩
  · replace h := ite_t c h
    refine g_iconst C.c dX10_flowOf_6 (v := (0 : Int32)) (by decide) ?_
    refine g_goto C.c (tgt := 41) dX10_flowOf_7 (by decide) ?_
    obtain rfl := Option.some.inj h
    exact g_iret C hQ dX10_flowOf_41 rfl ⟨rfl, rfl⟩
def fX10_flowOf (a0 : Int32) (σ : Sg) : Option (Int32 × Sg) := fX10_flowOf_b0 a0 σ
theorem ct_X10_flowOf {a0 : Int32} {σ : Sg} {p : Int32 × Sg} (h : fX10_flowOf a0 σ = some p) : Ct layM yX10_flowOf cX10_flowOf 1 (some .int) 1 (fun ad => [.int a0]) σ (okI p) :=
 ct_of (L0 := fun ad => [some (.int a0)]) (by decide) (fun _ => Nat.le_of_ble_eq_true rfl) (fun _ => rfl) (fun K C hQ => g_mask [true] rfl (bX10_flowOf_b0 C hQ h))
-- X10_readAt
theorem dX10_readAt_0 : decode cX10_readAt 0 = .ok (.aload_n 0, 1) := by decide +kernel
theorem dX10_readAt_1 : decode cX10_readAt 1 = .ok (.getfield 92, 3) := by decide +kernel
theorem dX10_readAt_4 : decode cX10_readAt 4 = .ok (.ifCond .ne 10, 3) := by decide +kernel
theorem dX10_readAt_7 : decode cX10_readAt 7 = .ok (.aload_n 0, 1) := by decide +kernel
theorem dX10_readAt_8 : decode cX10_readAt 8 = .ok (.getfield 89, 3) := by decide +kernel
theorem dX10_readAt_11 : decode cX10_readAt 11 = .ok (.goto 17, 3) := by decide +kernel
theorem dX10_readAt_14 : decode cX10_readAt 14 = .ok (.aload_n 0, 1) := by decide +kernel
theorem dX10_readAt_15 : decode cX10_readAt 15 = .ok (.getfield 95, 3) := by decide +kernel
theorem dX10_readAt_18 : decode cX10_readAt 18 = .ok (.aload_n 0, 1) := by decide +kernel
theorem dX10_readAt_19 : decode cX10_readAt 19 = .ok (.getfield 92, 3) := by decide +kernel
theorem dX10_readAt_22 : decode cX10_readAt 22 = .ok (.imul, 1) := by decide +kernel
theorem dX10_readAt_23 : decode cX10_readAt 23 = .ok (.aload_n 0, 1) := by decide +kernel
theorem dX10_readAt_24 : decode cX10_readAt 24 = .ok (.getfield 89, 3) := by decide +kernel
theorem dX10_readAt_27 : decode cX10_readAt 27 = .ok (.iadd, 1) := by decide +kernel
theorem dX10_readAt_28 : decode cX10_readAt 28 = .ok (.ireturn, 1) := by decide +kernel
theorem cw_X10_readAt : Cw yX10_readAt cX10_readAt 1 (some .int) 0 := ⟨aw_973, aw_56, ⟨by decide, by decide⟩, by decide +kernel, by decide⟩
theorem gf_10_92 {K : KT} {cc : ByteArray} {nL d pc : Nat} {ret : Option FieldType} {L : List (Option Value)} {st : List Value} {σ : Sg} (C : Cx K layM cc RX10 nL d ret)  (hd : decode cc pc = .ok (.getfield 92, 3)) (k : G K (pc + 3) L (.int (rI σ 0 2) :: st) (Wd K layM σ)) : G K pc L (.ref (kad K 0) :: st) (Wd K layM σ) := g_get C (o := 0) (ci := 10) (k := 2) hd rfl rfl rfl (by decide) (Or.inl aw_791) inA10 rfl k
theorem gf_10_95 {K : KT} {cc : ByteArray} {nL d pc : Nat} {ret : Option FieldType} {L : List (Option Value)} {st : List Value} {σ : Sg} (C : Cx K layM cc RX10 nL d ret)  (hd : decode cc pc = .ok (.getfield 95, 3)) (k : G K (pc + 3) L (.int (rI σ 0 3) :: st) (Wd K layM σ)) : G K pc L (.ref (kad K 0) :: st) (Wd K layM σ) := g_get C (o := 0) (ci := 10) (k := 3) hd rfl rfl rfl (by decide) (Or.inl aw_792) inA10 rfl k
theorem gf_10_89 {K : KT} {cc : ByteArray} {nL d pc : Nat} {ret : Option FieldType} {L : List (Option Value)} {st : List Value} {σ : Sg} (C : Cx K layM cc RX10 nL d ret)  (hd : decode cc pc = .ok (.getfield 89, 3)) (k : G K (pc + 3) L (.int (rI σ 0 4) :: st) (Wd K layM σ)) : G K pc L (.ref (kad K 0) :: st) (Wd K layM σ) := g_get C (o := 0) (ci := 10) (k := 4) hd rfl rfl rfl (by decide) (Or.inl aw_793) inA10 rfl k
def fX10_readAt_b0  (σ : Sg) : Option (Int32 × Sg) :=
  if (rI σ 0 2) = 0 then (some ((rI σ 0 4), σ)) else (some ((((rI σ 0 3) * (rI σ 0 2)) + (rI σ 0 4)), σ))
set_option maxRecDepth 4000 in
theorem bX10_readAt_b0 {K : KT}  {σ : Sg} {o : Int32 × Sg} (C : Cx K layM cX10_readAt RX10 1 (1) (some .int))  (hQ : Rk K layM (okI o)) (h : fX10_readAt_b0  σ = some o) : G K 0 [some (.ref (kad K 0))] [] (Wd K layM σ) := by
  unfold fX10_readAt_b0 at h
  refine g_aload_n C.c dX10_readAt_0 rfl (i := 0) rfl ?_
  refine gf_10_92 C dX10_readAt_1 ?_
  refine g_if_ne C.c (tgt := 14) dX10_readAt_4 (by decide) (fun c => ?_) (fun c => ?_)
  · replace h := ite_f c h
    refine g_aload_n C.c dX10_readAt_14 rfl (i := 0) rfl ?_
    refine gf_10_95 C dX10_readAt_15 ?_
    refine g_aload_n C.c dX10_readAt_18 rfl (i := 0) rfl ?_
    refine gf_10_92 C dX10_readAt_19 ?_
    refine g_imul C.c dX10_readAt_22 ?_
    refine g_aload_n C.c dX10_readAt_23 rfl (i := 0) rfl ?_
    refine gf_10_89 C dX10_readAt_24 ?_
    refine g_iadd C.c dX10_readAt_27 ?_
    obtain rfl := Option.some.inj h
    exact g_iret C hQ dX10_readAt_28 rfl ⟨rfl, rfl⟩
  · replace h := ite_t c h
    refine g_aload_n C.c dX10_readAt_7 rfl (i := 0) rfl ?_
    refine gf_10_89 C dX10_readAt_8 ?_
    refine g_goto C.c (tgt := 28) dX10_readAt_11 (by decide) ?_
    obtain rfl := Option.some.inj h
    exact g_iret C hQ dX10_readAt_28 rfl ⟨rfl, rfl⟩
def fX10_readAt (σ : Sg) : Option (Int32 × Sg) := fX10_readAt_b0 σ
theorem ct_X10_readAt {σ : Sg} {p : Int32 × Sg} (h : fX10_readAt σ = some p) : Ct layM yX10_readAt cX10_readAt 1 (some .int) 1 (fun ad => [.ref (ad 0)]) σ (okI p) :=
 ct_of (L0 := fun ad => [some (.ref (ad 0))]) (by decide) (fun _ => Nat.le_of_ble_eq_true rfl) (fun _ => rfl) (fun K C hQ => g_mask [true] rfl (bX10_readAt_b0 C hQ h))
-- X10_go
theorem dX10_go_0 : decode cX10_go 0 = .ok (.aload_n 0, 1) := by decide +kernel
theorem dX10_go_1 : decode cX10_go 1 = .ok (.getfield 77, 3) := by decide +kernel
theorem dX10_go_4 : decode cX10_go 4 = .ok (.ifCond .eq 33, 3) := by decide +kernel
theorem dX10_go_7 : decode cX10_go 7 = .ok (.iload_n 1, 1) := by decide +kernel
theorem dX10_go_8 : decode cX10_go 8 = .ok (.invokestatic 81, 3) := by decide +kernel
theorem dX10_go_11 : decode cX10_go 11 = .ok (.iconst (-1), 1) := by decide +kernel
theorem dX10_go_12 : decode cX10_go 12 = .ok (.if_icmp .eq 25, 3) := by decide +kernel
theorem dX10_go_15 : decode cX10_go 15 = .ok (.aload_n 0, 1) := by decide +kernel
theorem dX10_go_16 : decode cX10_go 16 = .ok (.getfield 16, 3) := by decide +kernel
theorem dX10_go_19 : decode cX10_go 19 = .ok (.aload_n 0, 1) := by decide +kernel
theorem dX10_go_20 : decode cX10_go 20 = .ok (.invokevirtual 85, 3) := by decide +kernel
theorem dX10_go_23 : decode cX10_go 23 = .ok (.iconst 1, 1) := by decide +kernel
theorem dX10_go_24 : decode cX10_go 24 = .ok (.isub, 1) := by decide +kernel
theorem dX10_go_25 : decode cX10_go 25 = .ok (.iload_n 1, 1) := by decide +kernel
theorem dX10_go_26 : decode cX10_go 26 = .ok (.invokestatic 81, 3) := by decide +kernel
theorem dX10_go_29 : decode cX10_go 29 = .ok (.iastore, 1) := by decide +kernel
theorem dX10_go_30 : decode cX10_go 30 = .ok (.aload_n 0, 1) := by decide +kernel
theorem dX10_go_31 : decode cX10_go 31 = .ok (.iconst 0, 1) := by decide +kernel
theorem dX10_go_32 : decode cX10_go 32 = .ok (.putfield 77, 3) := by decide +kernel
theorem dX10_go_35 : decode cX10_go 35 = .ok (.iconst 1, 1) := by decide +kernel
theorem dX10_go_36 : decode cX10_go 36 = .ok (.ireturn, 1) := by decide +kernel
theorem dX10_go_37 : decode cX10_go 37 = .ok (.iload_n 1, 1) := by decide +kernel
theorem dX10_go_38 : decode cX10_go 38 = .ok (.bipush 47, 2) := by decide +kernel
theorem dX10_go_40 : decode cX10_go 40 = .ok (.if_icmp .ne 106, 3) := by decide +kernel
theorem dX10_go_43 : decode cX10_go 43 = .ok (.aload_n 0, 1) := by decide +kernel
theorem dX10_go_44 : decode cX10_go 44 = .ok (.getfield 89, 3) := by decide +kernel
theorem dX10_go_47 : decode cX10_go 47 = .ok (.iconst 1, 1) := by decide +kernel
theorem dX10_go_48 : decode cX10_go 48 = .ok (.if_icmp .le 33, 3) := by decide +kernel
theorem dX10_go_51 : decode cX10_go 51 = .ok (.aload_n 0, 1) := by decide +kernel
theorem dX10_go_52 : decode cX10_go 52 = .ok (.getfield 92, 3) := by decide +kernel
theorem dX10_go_55 : decode cX10_go 55 = .ok (.ifCond .eq 14, 3) := by decide +kernel
theorem dX10_go_58 : decode cX10_go 58 = .ok (.aload_n 0, 1) := by decide +kernel
theorem dX10_go_59 : decode cX10_go 59 = .ok (.getfield 89, 3) := by decide +kernel
theorem dX10_go_62 : decode cX10_go 62 = .ok (.aload_n 0, 1) := by decide +kernel
theorem dX10_go_63 : decode cX10_go 63 = .ok (.getfield 95, 3) := by decide +kernel
theorem dX10_go_66 : decode cX10_go 66 = .ok (.if_icmp .ne 15, 3) := by decide +kernel
theorem dX10_go_69 : decode cX10_go 69 = .ok (.aload_n 0, 1) := by decide +kernel
theorem dX10_go_70 : decode cX10_go 70 = .ok (.getfield 92, 3) := by decide +kernel
theorem dX10_go_73 : decode cX10_go 73 = .ok (.iconst 4, 1) := by decide +kernel
theorem dX10_go_74 : decode cX10_go 74 = .ok (.if_icmp .ge 7, 3) := by decide +kernel
theorem dX10_go_77 : decode cX10_go 77 = .ok (.iconst 1, 1) := by decide +kernel
theorem dX10_go_78 : decode cX10_go 78 = .ok (.goto 4, 3) := by decide +kernel
theorem dX10_go_81 : decode cX10_go 81 = .ok (.iconst 0, 1) := by decide +kernel
theorem dX10_go_82 : decode cX10_go 82 = .ok (.istore_n 2, 1) := by decide +kernel
theorem dX10_go_83 : decode cX10_go 83 = .ok (.aload_n 0, 1) := by decide +kernel
theorem dX10_go_84 : decode cX10_go 84 = .ok (.aload_n 0, 1) := by decide +kernel
theorem dX10_go_85 : decode cX10_go 85 = .ok (.getfield 92, 3) := by decide +kernel
theorem dX10_go_88 : decode cX10_go 88 = .ok (.ifCond .ne 10, 3) := by decide +kernel
theorem dX10_go_91 : decode cX10_go 91 = .ok (.aload_n 0, 1) := by decide +kernel
theorem dX10_go_92 : decode cX10_go 92 = .ok (.getfield 89, 3) := by decide +kernel
theorem dX10_go_95 : decode cX10_go 95 = .ok (.goto 7, 3) := by decide +kernel
theorem dX10_go_98 : decode cX10_go 98 = .ok (.aload_n 0, 1) := by decide +kernel
theorem dX10_go_99 : decode cX10_go 99 = .ok (.getfield 95, 3) := by decide +kernel
theorem dX10_go_102 : decode cX10_go 102 = .ok (.putfield 95, 3) := by decide +kernel
theorem dX10_go_105 : decode cX10_go 105 = .ok (.aload_n 0, 1) := by decide +kernel
theorem dX10_go_106 : decode cX10_go 106 = .ok (.dup, 1) := by decide +kernel
theorem dX10_go_107 : decode cX10_go 107 = .ok (.getfield 92, 3) := by decide +kernel
theorem dX10_go_110 : decode cX10_go 110 = .ok (.iload_n 2, 1) := by decide +kernel
theorem dX10_go_111 : decode cX10_go 111 = .ok (.ifCond .eq 7, 3) := by decide +kernel
theorem dX10_go_114 : decode cX10_go 114 = .ok (.iconst 1, 1) := by decide +kernel
theorem dX10_go_115 : decode cX10_go 115 = .ok (.goto 4, 3) := by decide +kernel
theorem dX10_go_118 : decode cX10_go 118 = .ok (.iconst 0, 1) := by decide +kernel
theorem dX10_go_119 : decode cX10_go 119 = .ok (.iadd, 1) := by decide +kernel
theorem dX10_go_120 : decode cX10_go 120 = .ok (.putfield 92, 3) := by decide +kernel
theorem dX10_go_123 : decode cX10_go 123 = .ok (.aload_n 0, 1) := by decide +kernel
theorem dX10_go_124 : decode cX10_go 124 = .ok (.iload_n 2, 1) := by decide +kernel
theorem dX10_go_125 : decode cX10_go 125 = .ok (.ifCond .eq 7, 3) := by decide +kernel
theorem dX10_go_128 : decode cX10_go 128 = .ok (.iconst 0, 1) := by decide +kernel
theorem dX10_go_129 : decode cX10_go 129 = .ok (.goto 7, 3) := by decide +kernel
theorem dX10_go_132 : decode cX10_go 132 = .ok (.aload_n 0, 1) := by decide +kernel
theorem dX10_go_133 : decode cX10_go 133 = .ok (.getfield 89, 3) := by decide +kernel
theorem dX10_go_136 : decode cX10_go 136 = .ok (.putfield 89, 3) := by decide +kernel
theorem dX10_go_139 : decode cX10_go 139 = .ok (.aload_n 0, 1) := by decide +kernel
theorem dX10_go_140 : decode cX10_go 140 = .ok (.iconst 0, 1) := by decide +kernel
theorem dX10_go_141 : decode cX10_go 141 = .ok (.putfield 77, 3) := by decide +kernel
theorem dX10_go_144 : decode cX10_go 144 = .ok (.iload_n 2, 1) := by decide +kernel
theorem dX10_go_145 : decode cX10_go 145 = .ok (.ireturn, 1) := by decide +kernel
theorem dX10_go_146 : decode cX10_go 146 = .ok (.aload_n 0, 1) := by decide +kernel
theorem dX10_go_147 : decode cX10_go 147 = .ok (.getfield 89, 3) := by decide +kernel
theorem dX10_go_150 : decode cX10_go 150 = .ok (.aload_n 0, 1) := by decide +kernel
theorem dX10_go_151 : decode cX10_go 151 = .ok (.getfield 92, 3) := by decide +kernel
theorem dX10_go_154 : decode cX10_go 154 = .ok (.ifCond .ne 8, 3) := by decide +kernel
theorem dX10_go_157 : decode cX10_go 157 = .ok (.bipush 6, 2) := by decide +kernel
theorem dX10_go_159 : decode cX10_go 159 = .ok (.goto 7, 3) := by decide +kernel
theorem dX10_go_162 : decode cX10_go 162 = .ok (.aload_n 0, 1) := by decide +kernel
theorem dX10_go_163 : decode cX10_go 163 = .ok (.getfield 95, 3) := by decide +kernel
theorem dX10_go_166 : decode cX10_go 166 = .ok (.if_icmp .ge 7, 3) := by decide +kernel
theorem dX10_go_169 : decode cX10_go 169 = .ok (.iconst 1, 1) := by decide +kernel
theorem dX10_go_170 : decode cX10_go 170 = .ok (.goto 4, 3) := by decide +kernel
theorem dX10_go_173 : decode cX10_go 173 = .ok (.iconst 0, 1) := by decide +kernel
theorem dX10_go_174 : decode cX10_go 174 = .ok (.istore_n 2, 1) := by decide +kernel
theorem dX10_go_175 : decode cX10_go 175 = .ok (.iload_n 1, 1) := by decide +kernel
theorem dX10_go_176 : decode cX10_go 176 = .ok (.i2l, 1) := by decide +kernel
theorem dX10_go_177 : decode cX10_go 177 = .ok (.ldc2_w 98, 3) := by decide +kernel
theorem dX10_go_180 : decode cX10_go 180 = .ok (.ldc2_w 100, 3) := by decide +kernel
theorem dX10_go_183 : decode cX10_go 183 = .ok (.invokestatic 102, 3) := by decide +kernel
theorem dX10_go_186 : decode cX10_go 186 = .ok (.ifCond .ne 23, 3) := by decide +kernel
theorem dX10_go_189 : decode cX10_go 189 = .ok (.iload_n 1, 1) := by decide +kernel
theorem dX10_go_190 : decode cX10_go 190 = .ok (.bipush 35, 2) := by decide +kernel
theorem dX10_go_192 : decode cX10_go 192 = .ok (.if_icmp .eq 17, 3) := by decide +kernel
theorem dX10_go_195 : decode cX10_go 195 = .ok (.iload_n 1, 1) := by decide +kernel
theorem dX10_go_196 : decode cX10_go 196 = .ok (.bipush 104, 2) := by decide +kernel
theorem dX10_go_198 : decode cX10_go 198 = .ok (.if_icmp .ne 15, 3) := by decide +kernel
theorem dX10_go_201 : decode cX10_go 201 = .ok (.aload_n 0, 1) := by decide +kernel
theorem dX10_go_202 : decode cX10_go 202 = .ok (.getfield 106, 3) := by decide +kernel
theorem dX10_go_205 : decode cX10_go 205 = .ok (.iconst (-1), 1) := by decide +kernel
theorem dX10_go_206 : decode cX10_go 206 = .ok (.if_icmp .ne 7, 3) := by decide +kernel
theorem dX10_go_209 : decode cX10_go 209 = .ok (.iconst 1, 1) := by decide +kernel
theorem dX10_go_210 : decode cX10_go 210 = .ok (.goto 4, 3) := by decide +kernel
theorem dX10_go_213 : decode cX10_go 213 = .ok (.iconst 0, 1) := by decide +kernel
theorem dX10_go_214 : decode cX10_go 214 = .ok (.istore_n 3, 1) := by decide +kernel
theorem dX10_go_215 : decode cX10_go 215 = .ok (.iload_n 2, 1) := by decide +kernel
theorem dX10_go_216 : decode cX10_go 216 = .ok (.ifCond .eq 7, 3) := by decide +kernel
theorem dX10_go_219 : decode cX10_go 219 = .ok (.iload_n 3, 1) := by decide +kernel
theorem dX10_go_220 : decode cX10_go 220 = .ok (.ifCond .ne 5, 3) := by decide +kernel
theorem dX10_go_223 : decode cX10_go 223 = .ok (.iconst 0, 1) := by decide +kernel
theorem dX10_go_224 : decode cX10_go 224 = .ok (.ireturn, 1) := by decide +kernel
theorem dX10_go_225 : decode cX10_go 225 = .ok (.aload_n 0, 1) := by decide +kernel
theorem dX10_go_226 : decode cX10_go 226 = .ok (.iload_n 1, 1) := by decide +kernel
theorem dX10_go_227 : decode cX10_go 227 = .ok (.bipush 104, 2) := by decide +kernel
theorem dX10_go_229 : decode cX10_go 229 = .ok (.if_icmp .ne 10, 3) := by decide +kernel
theorem dX10_go_232 : decode cX10_go 232 = .ok (.aload_n 0, 1) := by decide +kernel
theorem dX10_go_233 : decode cX10_go 233 = .ok (.invokevirtual 85, 3) := by decide +kernel
theorem dX10_go_236 : decode cX10_go 236 = .ok (.goto 7, 3) := by decide +kernel
theorem dX10_go_239 : decode cX10_go 239 = .ok (.aload_n 0, 1) := by decide +kernel
theorem dX10_go_240 : decode cX10_go 240 = .ok (.getfield 106, 3) := by decide +kernel
theorem dX10_go_243 : decode cX10_go 243 = .ok (.putfield 106, 3) := by decide +kernel
theorem dX10_go_246 : decode cX10_go 246 = .ok (.aload_n 0, 1) := by decide +kernel
theorem dX10_go_247 : decode cX10_go 247 = .ok (.getfield 13, 3) := by decide +kernel
theorem dX10_go_250 : decode cX10_go 250 = .ok (.aload_n 0, 1) := by decide +kernel
theorem dX10_go_251 : decode cX10_go 251 = .ok (.invokevirtual 85, 3) := by decide +kernel
theorem dX10_go_254 : decode cX10_go 254 = .ok (.iload_n 1, 1) := by decide +kernel
theorem dX10_go_255 : decode cX10_go 255 = .ok (.bipush 104, 2) := by decide +kernel
theorem dX10_go_257 : decode cX10_go 257 = .ok (.if_icmp .ne 8, 3) := by decide +kernel
theorem dX10_go_260 : decode cX10_go 260 = .ok (.bipush 10, 2) := by decide +kernel
theorem dX10_go_262 : decode cX10_go 262 = .ok (.goto 18, 3) := by decide +kernel
theorem dX10_go_265 : decode cX10_go 265 = .ok (.iload_n 1, 1) := by decide +kernel
theorem dX10_go_266 : decode cX10_go 266 = .ok (.bipush 35, 2) := by decide +kernel
theorem dX10_go_268 : decode cX10_go 268 = .ok (.if_icmp .ne 8, 3) := by decide +kernel
theorem dX10_go_271 : decode cX10_go 271 = .ok (.bipush 11, 2) := by decide +kernel
theorem dX10_go_273 : decode cX10_go 273 = .ok (.goto 7, 3) := by decide +kernel
theorem dX10_go_276 : decode cX10_go 276 = .ok (.iload_n 1, 1) := by decide +kernel
theorem dX10_go_277 : decode cX10_go 277 = .ok (.bipush 48, 2) := by decide +kernel
theorem dX10_go_279 : decode cX10_go 279 = .ok (.isub, 1) := by decide +kernel
theorem dX10_go_280 : decode cX10_go 280 = .ok (.iastore, 1) := by decide +kernel
theorem dX10_go_281 : decode cX10_go 281 = .ok (.aload_n 0, 1) := by decide +kernel
theorem dX10_go_282 : decode cX10_go 282 = .ok (.getfield 16, 3) := by decide +kernel
theorem dX10_go_285 : decode cX10_go 285 = .ok (.aload_n 0, 1) := by decide +kernel
theorem dX10_go_286 : decode cX10_go 286 = .ok (.invokevirtual 85, 3) := by decide +kernel
theorem dX10_go_289 : decode cX10_go 289 = .ok (.iconst (-1), 1) := by decide +kernel
theorem dX10_go_290 : decode cX10_go 290 = .ok (.iastore, 1) := by decide +kernel
theorem dX10_go_291 : decode cX10_go 291 = .ok (.aload_n 0, 1) := by decide +kernel
theorem dX10_go_292 : decode cX10_go 292 = .ok (.iload_n 1, 1) := by decide +kernel
theorem dX10_go_293 : decode cX10_go 293 = .ok (.i2l, 1) := by decide +kernel
theorem dX10_go_294 : decode cX10_go 294 = .ok (.ldc2_w 98, 3) := by decide +kernel
theorem dX10_go_297 : decode cX10_go 297 = .ok (.ldc2_w 100, 3) := by decide +kernel
theorem dX10_go_300 : decode cX10_go 300 = .ok (.invokestatic 102, 3) := by decide +kernel
theorem dX10_go_303 : decode cX10_go 303 = .ok (.putfield 77, 3) := by decide +kernel
theorem dX10_go_306 : decode cX10_go 306 = .ok (.aload_n 0, 1) := by decide +kernel
theorem dX10_go_307 : decode cX10_go 307 = .ok (.dup, 1) := by decide +kernel
theorem dX10_go_308 : decode cX10_go 308 = .ok (.getfield 89, 3) := by decide +kernel
theorem dX10_go_311 : decode cX10_go 311 = .ok (.iconst 1, 1) := by decide +kernel
theorem dX10_go_312 : decode cX10_go 312 = .ok (.iadd, 1) := by decide +kernel
theorem dX10_go_313 : decode cX10_go 313 = .ok (.putfield 89, 3) := by decide +kernel
theorem dX10_go_316 : decode cX10_go 316 = .ok (.iconst 1, 1) := by decide +kernel
theorem dX10_go_317 : decode cX10_go 317 = .ok (.ireturn, 1) := by decide +kernel
theorem cw_X10_go : Cw yX10_go cX10_go 4 (some .boolean) 1 := ⟨aw_966, aw_56, ⟨by decide, by decide⟩, by decide +kernel, by decide⟩
theorem gf_10_77 {K : KT} {cc : ByteArray} {nL d pc : Nat} {ret : Option FieldType} {L : List (Option Value)} {st : List Value} {σ : Sg} (C : Cx K layM cc RX10 nL d ret)  (hd : decode cc pc = .ok (.getfield 77, 3)) (k : G K (pc + 3) L (.int (rI σ 0 6) :: st) (Wd K layM σ)) : G K pc L (.ref (kad K 0) :: st) (Wd K layM σ) := g_get C (o := 0) (ci := 10) (k := 6) hd rfl rfl rfl (by decide) (Or.inl aw_795) inA10 rfl k
theorem kc_10_102 {K : KT} {cc : ByteArray} {nL d pc : Nat} {ret : Option FieldType} {L : List (Option Value)} {st : List Value} {σ : Sg} (C : Cx K layM cc RX10 nL d ret)  {a0 : Int64} {a1 : Int64} {a2 : Int64}  {p : Int32 × Sg} (hd : decode cc pc = .ok (.invokestatic 102, 3)) (e : fX10_in a0 a1 a2 σ = some p) (hdd : 1 + 1 ≤ d) (hLn : L.length = nL) (hr : (st.map fun v => v.category).sum ≤ 8) (k : G K (pc + 3) L (.int p.1 :: st) (Wd K layM p.2)) : G K pc L (.long a2 :: .long a1 :: .long a0 :: st) (Wd K layM σ) :=
  g_callS C (As := [.long a0, .long a1, .long a2]) (rest := st) hd (ct_X10_in e) cw_X10_in (Or.inl aw_976) aw_977 rfl rfl rfl hdd hLn hr (fun v τ q => by obtain ⟨rfl, rfl⟩ := q; exact k)
theorem gf_10_106 {K : KT} {cc : ByteArray} {nL d pc : Nat} {ret : Option FieldType} {L : List (Option Value)} {st : List Value} {σ : Sg} (C : Cx K layM cc RX10 nL d ret)  (hd : decode cc pc = .ok (.getfield 106, 3)) (k : G K (pc + 3) L (.int (rI σ 0 5) :: st) (Wd K layM σ)) : G K pc L (.ref (kad K 0) :: st) (Wd K layM σ) := g_get C (o := 0) (ci := 10) (k := 5) hd rfl rfl rfl (by decide) (Or.inl aw_794) inA10 rfl k
theorem pf_10_106 {K : KT} {cc : ByteArray} {nL d pc : Nat} {ret : Option FieldType} {L : List (Option Value)} {st : List Value} {σ : Sg} (C : Cx K layM cc RX10 nL d ret)  {v : Int32}  (hd : decode cc pc = .ok (.putfield 106, 3)) (k : G K (pc + 3) L st (Wd K layM (wI σ 0 5 v))) : G K pc L (.int v :: .ref (kad K 0) :: st) (Wd K layM σ) := g_putI C (o := 0) (ci := 10) (k := 5) hd rfl rfl rfl (by decide) (Or.inl aw_794) inA10 tyX10_ok nmX10 rfl rfl rfl k
theorem gf_10_13 {K : KT} {cc : ByteArray} {nL d pc : Nat} {ret : Option FieldType} {L : List (Option Value)} {st : List Value} {σ : Sg} (C : Cx K layM cc RX10 nL d ret)  (hd : decode cc pc = .ok (.getfield 13, 3)) (k : G K (pc + 3) L (.ref (kad K 2) :: st) (Wd K layM σ)) : G K pc L (.ref (kad K 0) :: st) (Wd K layM σ) := g_get C (o := 0) (ci := 10) (k := 7) hd rfl rfl rfl (by decide) (Or.inl aw_796) inA10 rfl k
theorem kc_10_85 {K : KT} {cc : ByteArray} {nL d pc : Nat} {ret : Option FieldType} {L : List (Option Value)} {st : List Value} {σ : Sg} (C : Cx K layM cc RX10 nL d ret)    {p : Int32 × Sg} (hd : decode cc pc = .ok (.invokevirtual 85, 3)) (e : fX10_readAt σ = some p) (hdd : 1 + 1 ≤ d) (hLn : L.length = nL) (hr : (st.map fun v => v.category).sum ≤ 8) (k : G K (pc + 3) L (.int p.1 :: st) (Wd K layM p.2)) : G K pc L (.ref (kad K 0) :: st) (Wd K layM σ) :=
  g_callV C (As := []) (rest := st) (o := 0) (ci := 10) hd (ct_X10_readAt e) cw_X10_readAt (Or.inl aw_970) aw_972 aw_23 rfl rfl rfl hdd hLn rfl rfl hr (fun v τ q => by obtain ⟨rfl, rfl⟩ := q; exact k)
theorem gf_10_16 {K : KT} {cc : ByteArray} {nL d pc : Nat} {ret : Option FieldType} {L : List (Option Value)} {st : List Value} {σ : Sg} (C : Cx K layM cc RX10 nL d ret)  (hd : decode cc pc = .ok (.getfield 16, 3)) (k : G K (pc + 3) L (.ref (kad K 3) :: st) (Wd K layM σ)) : G K pc L (.ref (kad K 0) :: st) (Wd K layM σ) := g_get C (o := 0) (ci := 10) (k := 8) hd rfl rfl rfl (by decide) (Or.inl aw_797) inA10 rfl k
theorem pf_10_77 {K : KT} {cc : ByteArray} {nL d pc : Nat} {ret : Option FieldType} {L : List (Option Value)} {st : List Value} {σ : Sg} (C : Cx K layM cc RX10 nL d ret)  {v : Int32} (hb : isB v = true) (hd : decode cc pc = .ok (.putfield 77, 3)) (k : G K (pc + 3) L st (Wd K layM (wI σ 0 6 v))) : G K pc L (.int v :: .ref (kad K 0) :: st) (Wd K layM σ) := g_putI C (o := 0) (ci := 10) (k := 6) hd rfl rfl rfl (by decide) (Or.inl aw_795) inA10 tyX10_ok nmX10 rfl (isB_n hb) (isB_f hb) k
theorem pf_10_89 {K : KT} {cc : ByteArray} {nL d pc : Nat} {ret : Option FieldType} {L : List (Option Value)} {st : List Value} {σ : Sg} (C : Cx K layM cc RX10 nL d ret)  {v : Int32}  (hd : decode cc pc = .ok (.putfield 89, 3)) (k : G K (pc + 3) L st (Wd K layM (wI σ 0 4 v))) : G K pc L (.int v :: .ref (kad K 0) :: st) (Wd K layM σ) := g_putI C (o := 0) (ci := 10) (k := 4) hd rfl rfl rfl (by decide) (Or.inl aw_793) inA10 tyX10_ok nmX10 rfl rfl rfl k
theorem pf_10_95 {K : KT} {cc : ByteArray} {nL d pc : Nat} {ret : Option FieldType} {L : List (Option Value)} {st : List Value} {σ : Sg} (C : Cx K layM cc RX10 nL d ret)  {v : Int32}  (hd : decode cc pc = .ok (.putfield 95, 3)) (k : G K (pc + 3) L st (Wd K layM (wI σ 0 3 v))) : G K pc L (.int v :: .ref (kad K 0) :: st) (Wd K layM σ) := g_putI C (o := 0) (ci := 10) (k := 3) hd rfl rfl rfl (by decide) (Or.inl aw_792) inA10 tyX10_ok nmX10 rfl rfl rfl k
theorem pf_10_92 {K : KT} {cc : ByteArray} {nL d pc : Nat} {ret : Option FieldType} {L : List (Option Value)} {st : List Value} {σ : Sg} (C : Cx K layM cc RX10 nL d ret)  {v : Int32}  (hd : decode cc pc = .ok (.putfield 92, 3)) (k : G K (pc + 3) L st (Wd K layM (wI σ 0 2 v))) : G K pc L (.int v :: .ref (kad K 0) :: st) (Wd K layM σ) := g_putI C (o := 0) (ci := 10) (k := 2) hd rfl rfl rfl (by decide) (Or.inl aw_791) inA10 tyX10_ok nmX10 rfl rfl rfl k
theorem kc_10_81 {K : KT} {cc : ByteArray} {nL d pc : Nat} {ret : Option FieldType} {L : List (Option Value)} {st : List Value} {σ : Sg} (C : Cx K layM cc RX10 nL d ret)  {a0 : Int32}  {p : Int32 × Sg} (hd : decode cc pc = .ok (.invokestatic 81, 3)) (e : fX10_flowOf a0 σ = some p) (hdd : 1 + 1 ≤ d) (hLn : L.length = nL) (hr : (st.map fun v => v.category).sum ≤ 8) (k : G K (pc + 3) L (.int p.1 :: st) (Wd K layM p.2)) : G K pc L (.int a0 :: st) (Wd K layM σ) :=
  g_callS C (As := [.int a0]) (rest := st) hd (ct_X10_flowOf e) cw_X10_flowOf (Or.inl aw_967) aw_968 rfl rfl rfl hdd hLn hr (fun v τ q => by obtain ⟨rfl, rfl⟩ := q; exact k)
def fX10_go_b280 (x1 : Int32) (y0 : Int32) (y1 : Int32) (σ : Sg) : Option (Int32 × Sg) :=
  if inb y1 30 = true then (Option.bind (fX10_readAt (wI σ 2 (y1).toNatClampNeg y0)) fun p6 => (if inb p6.1 30 = true then (Option.bind (fX10_in ((x1).toInt64) (48 : Int64) (57 : Int64) (wI p6.2 3 (p6.1).toNatClampNeg (-1 : Int32))) fun p9 => (if isB p9.1 = true then (some ((1 : Int32), (wI (wI p9.2 0 6 p9.1) 0 4 ((rI (wI p9.2 0 6 p9.1) 0 4) + (1 : Int32))))) else none)) else none)) else none
def fX10_go_b243 (x1 : Int32) (y0 : Int32) (σ : Sg) : Option (Int32 × Sg) :=
  Option.bind (fX10_readAt (wI σ 0 5 y0)) fun p3 => (if x1 = (104 : Int32) then (fX10_go_b280 x1 (10 : Int32) p3.1 p3.2) else (if x1 = (35 : Int32) then (fX10_go_b280 x1 (11 : Int32) p3.1 p3.2) else (fX10_go_b280 x1 (x1 - (48 : Int32)) p3.1 p3.2)))
def fX10_go_b214 (x1 : Int32) (x2 : Int32) (y0 : Int32) (σ : Sg) : Option (Int32 × Sg) :=
  if x2 = 0 then (some ((0 : Int32), σ)) else (if y0 = 0 then (some ((0 : Int32), σ)) else (if x1 = (104 : Int32) then (Option.bind (fX10_readAt σ) fun p12 => (fX10_go_b243 x1 p12.1 p12.2)) else (fX10_go_b243 x1 (rI σ 0 5) σ)))
def fX10_go_b209 (x1 : Int32) (x2 : Int32) (σ : Sg) : Option (Int32 × Sg) :=
  fX10_go_b214 x1 x2 (1 : Int32) σ
def fX10_go_b213 (x1 : Int32) (x2 : Int32) (σ : Sg) : Option (Int32 × Sg) :=
  fX10_go_b214 x1 x2 (0 : Int32) σ
def fX10_go_b174 (x1 : Int32) (y0 : Int32) (σ : Sg) : Option (Int32 × Sg) :=
  Option.bind (fX10_in ((x1).toInt64) (48 : Int64) (57 : Int64) σ) fun p1 => (if p1.1 = 0 then (if x1 = (35 : Int32) then (fX10_go_b209 x1 y0 p1.2) else (if x1 = (104 : Int32) then (if (rI p1.2 0 5) = (-1 : Int32) then (fX10_go_b209 x1 y0 p1.2) else (fX10_go_b213 x1 y0 p1.2)) else (fX10_go_b213 x1 y0 p1.2))) else (fX10_go_b209 x1 y0 p1.2))
def fX10_go_b166 (x1 : Int32) (y0 : Int32) (y1 : Int32) (σ : Sg) : Option (Int32 × Sg) :=
  if y0 ≤ y1 then (fX10_go_b174 x1 (0 : Int32) σ) else (fX10_go_b174 x1 (1 : Int32) σ)
def fX10_go_b136 (x2 : Int32) (y0 : Int32) (σ : Sg) : Option (Int32 × Sg) :=
  if isB x2 = true then (some (x2, (wI (wI σ 0 4 y0) 0 6 (0 : Int32)))) else none
def fX10_go_b119 (x2 : Int32) (y0 : Int32) (y1 : Int32) (σ : Sg) : Option (Int32 × Sg) :=
  if x2 = 0 then (fX10_go_b136 x2 (rI (wI σ 0 2 (y1 + y0)) 0 4) (wI σ 0 2 (y1 + y0))) else (fX10_go_b136 x2 (0 : Int32) (wI σ 0 2 (y1 + y0)))
def fX10_go_b102 (x2 : Int32) (y0 : Int32) (σ : Sg) : Option (Int32 × Sg) :=
  if x2 = 0 then (fX10_go_b119 x2 (0 : Int32) (rI (wI σ 0 3 y0) 0 2) (wI σ 0 3 y0)) else (fX10_go_b119 x2 (1 : Int32) (rI (wI σ 0 3 y0) 0 2) (wI σ 0 3 y0))
def fX10_go_b82 (y0 : Int32) (σ : Sg) : Option (Int32 × Sg) :=
  if (rI σ 0 2) = 0 then (fX10_go_b102 y0 (rI σ 0 4) σ) else (fX10_go_b102 y0 (rI σ 0 3) σ)
def fX10_go_b81  (σ : Sg) : Option (Int32 × Sg) :=
  fX10_go_b82 (0 : Int32) σ
def fX10_go_b69  (σ : Sg) : Option (Int32 × Sg) :=
  if (4 : Int32) ≤ (rI σ 0 2) then (fX10_go_b81 σ) else (fX10_go_b82 (1 : Int32) σ)
def fX10_go_b37 (x1 : Int32) (σ : Sg) : Option (Int32 × Sg) :=
  if x1 = (47 : Int32) then (if (rI σ 0 4) ≤ (1 : Int32) then (fX10_go_b81 σ) else (if (rI σ 0 2) = 0 then (fX10_go_b69 σ) else (if (rI σ 0 4) = (rI σ 0 3) then (fX10_go_b69 σ) else (fX10_go_b81 σ)))) else (if (rI σ 0 2) = 0 then (fX10_go_b166 x1 (6 : Int32) (rI σ 0 4) σ) else (fX10_go_b166 x1 (rI σ 0 3) (rI σ 0 4) σ))
def fX10_go_b0 (x1 : Int32) (σ : Sg) : Option (Int32 × Sg) :=
  if (rI σ 0 6) = 0 then (fX10_go_b37 x1 σ) else (Option.bind (fX10_flowOf x1 σ) fun p15 => (if p15.1 = (-1 : Int32) then (fX10_go_b37 x1 p15.2) else (Option.bind (fX10_readAt p15.2) fun p17 => (Option.bind (fX10_flowOf x1 p17.2) fun p19 => (if inb (p17.1 - (1 : Int32)) 30 = true then (some ((1 : Int32), (wI (wI p19.2 3 ((p17.1 - (1 : Int32))).toNatClampNeg p19.1) 0 6 (0 : Int32)))) else none)))))
set_option maxRecDepth 4000 in
theorem bX10_go_b280 {K : KT} {x1 : Int32} {y0 : Int32} {y1 : Int32} {σ : Sg} {o : Int32 × Sg} (C : Cx K layM cX10_go RX10 4 (2) (some .boolean))  (hQ : Rk K layM (okI o)) (h : fX10_go_b280 x1 y0 y1 σ = some o) : G K 280 [some (.ref (kad K 0)), some (.int x1), none, none] [.int y0, .int y1, .ref (kad K 2)] (Wd K layM σ) := by
  unfold fX10_go_b280 at h
  obtain ⟨c5, h⟩ := chk h
  refine g_iast C dX10_go_280 rfl c5 ?_
  refine g_aload_n C.c dX10_go_281 rfl (i := 0) rfl ?_
  refine gf_10_16 C dX10_go_282 ?_
  refine g_aload_n C.c dX10_go_285 rfl (i := 0) rfl ?_
  obtain ⟨p6, e7, h⟩ := Option.bind_eq_some_iff.mp h
  refine kc_10_85 C dX10_go_286 e7 (Nat.le_of_ble_eq_true rfl) rfl (Nat.le_of_ble_eq_true rfl) ?_
  refine g_iconst C.c dX10_go_289 (v := (-1 : Int32)) (by decide) ?_
  obtain ⟨c8, h⟩ := chk h
  refine g_iast C dX10_go_290 rfl c8 ?_
  refine g_aload_n C.c dX10_go_291 rfl (i := 0) rfl ?_
  refine g_iload_n C.c dX10_go_292 rfl (i := 1) rfl ?_
  refine g_i2l C.c dX10_go_293 ?_
  refine g_ldc2 C.c (v := (48 : Int64)) aw_974 dX10_go_294 ?_
  refine g_ldc2 C.c (v := (57 : Int64)) aw_975 dX10_go_297 ?_
  obtain ⟨p9, e10, h⟩ := Option.bind_eq_some_iff.mp h
  refine kc_10_102 C dX10_go_300 e10 (Nat.le_of_ble_eq_true rfl) rfl (Nat.le_of_ble_eq_true rfl) ?_
  obtain ⟨c11, h⟩ := chk h
  refine pf_10_77 C c11 dX10_go_303 ?_
  refine g_aload_n C.c dX10_go_306 rfl (i := 0) rfl ?_
  refine g_dup C.c dX10_go_307 rfl ?_
  refine gf_10_89 C dX10_go_308 ?_
  refine g_iconst C.c dX10_go_311 (v := (1 : Int32)) (by decide) ?_
  refine g_iadd C.c dX10_go_312 ?_
  refine pf_10_89 C dX10_go_313 ?_
  refine g_iconst C.c dX10_go_316 (v := (1 : Int32)) (by decide) ?_
  obtain rfl := Option.some.inj h
  exact g_iret C hQ dX10_go_317 rfl ⟨rfl, rfl⟩
set_option maxRecDepth 4000 in
theorem bX10_go_b243 {K : KT} {x1 : Int32} {y0 : Int32} {σ : Sg} {o : Int32 × Sg} (C : Cx K layM cX10_go RX10 4 (2) (some .boolean))  (hQ : Rk K layM (okI o)) (h : fX10_go_b243 x1 y0 σ = some o) : G K 243 [some (.ref (kad K 0)), some (.int x1), none, none] [.int y0, .ref (kad K 0)] (Wd K layM σ) := by
  unfold fX10_go_b243 at h
  refine pf_10_106 C dX10_go_243 ?_
  refine g_aload_n C.c dX10_go_246 rfl (i := 0) rfl ?_
  refine gf_10_13 C dX10_go_247 ?_
  refine g_aload_n C.c dX10_go_250 rfl (i := 0) rfl ?_
  obtain ⟨p3, e4, h⟩ := Option.bind_eq_some_iff.mp h
  refine kc_10_85 C dX10_go_251 e4 (Nat.le_of_ble_eq_true rfl) rfl (Nat.le_of_ble_eq_true rfl) ?_
  refine g_iload_n C.c dX10_go_254 rfl (i := 1) rfl ?_
  refine g_bipush C.c dX10_go_255 (v := (104 : Int32)) (by decide) ?_
  refine g_icmp_ne C.c (tgt := 265) dX10_go_257 (by decide) (fun c => ?_) (fun c => ?_)
  · replace h := ite_f c h
    refine g_iload_n C.c dX10_go_265 rfl (i := 1) rfl ?_
    refine g_bipush C.c dX10_go_266 (v := (35 : Int32)) (by decide) ?_
    refine g_icmp_ne C.c (tgt := 276) dX10_go_268 (by decide) (fun c => ?_) (fun c => ?_)
    · replace h := ite_f c h
      refine g_iload_n C.c dX10_go_276 rfl (i := 1) rfl ?_
      refine g_bipush C.c dX10_go_277 (v := (48 : Int32)) (by decide) ?_
      refine g_isub C.c dX10_go_279 ?_
      exact g_mask [true, true, false, false] rfl (bX10_go_b280 C hQ h)
    · replace h := ite_t c h
      refine g_bipush C.c dX10_go_271 (v := (11 : Int32)) (by decide) ?_
      refine g_goto C.c (tgt := 280) dX10_go_273 (by decide) ?_
      exact g_mask [true, true, false, false] rfl (bX10_go_b280 C hQ h)
  · replace h := ite_t c h
    refine g_bipush C.c dX10_go_260 (v := (10 : Int32)) (by decide) ?_
    refine g_goto C.c (tgt := 280) dX10_go_262 (by decide) ?_
    exact g_mask [true, true, false, false] rfl (bX10_go_b280 C hQ h)
set_option maxRecDepth 4000 in
theorem bX10_go_b214 {K : KT} {x1 : Int32} {x2 : Int32} {y0 : Int32} {σ : Sg} {o : Int32 × Sg} (C : Cx K layM cX10_go RX10 4 (2) (some .boolean))  (hQ : Rk K layM (okI o)) (h : fX10_go_b214 x1 x2 y0 σ = some o) : G K 214 [some (.ref (kad K 0)), some (.int x1), some (.int x2), none] [.int y0] (Wd K layM σ) := by
  unfold fX10_go_b214 at h
  refine g_istore_n C.c (i := 3) (L' := [some (.ref (kad K 0)), some (.int x1), some (.int x2), some (.int y0)]) dX10_go_214 rfl (Nat.le_of_ble_eq_true rfl) rfl ?_
  refine g_iload_n C.c dX10_go_215 rfl (i := 2) rfl ?_
  refine g_if_eq C.c (tgt := 223) dX10_go_216 (by decide) (fun c => ?_) (fun c => ?_)
  · replace h := ite_t c h
    refine g_iconst C.c dX10_go_223 (v := (0 : Int32)) (by decide) ?_
    obtain rfl := Option.some.inj h
    exact g_iret C hQ dX10_go_224 rfl ⟨rfl, rfl⟩
  · replace h := ite_f c h
    refine g_iload_n C.c dX10_go_219 rfl (i := 3) rfl ?_
    refine g_if_ne C.c (tgt := 225) dX10_go_220 (by decide) (fun c => ?_) (fun c => ?_)
    · replace h := ite_f c h
      refine g_aload_n C.c dX10_go_225 rfl (i := 0) rfl ?_
      refine g_iload_n C.c dX10_go_226 rfl (i := 1) rfl ?_
      refine g_bipush C.c dX10_go_227 (v := (104 : Int32)) (by decide) ?_
      refine g_icmp_ne C.c (tgt := 239) dX10_go_229 (by decide) (fun c => ?_) (fun c => ?_)
      · replace h := ite_f c h
        refine g_aload_n C.c dX10_go_239 rfl (i := 0) rfl ?_
        refine gf_10_106 C dX10_go_240 ?_
        exact g_mask [true, true, false, false] rfl (bX10_go_b243 C hQ h)
      · replace h := ite_t c h
        refine g_aload_n C.c dX10_go_232 rfl (i := 0) rfl ?_
        obtain ⟨p12, e13, h⟩ := Option.bind_eq_some_iff.mp h
        refine kc_10_85 C dX10_go_233 e13 (Nat.le_of_ble_eq_true rfl) rfl (Nat.le_of_ble_eq_true rfl) ?_
        refine g_goto C.c (tgt := 243) dX10_go_236 (by decide) ?_
        exact g_mask [true, true, false, false] rfl (bX10_go_b243 C hQ h)
    · replace h := ite_t c h
      refine g_iconst C.c dX10_go_223 (v := (0 : Int32)) (by decide) ?_
      obtain rfl := Option.some.inj h
      exact g_iret C hQ dX10_go_224 rfl ⟨rfl, rfl⟩
set_option maxRecDepth 4000 in
theorem bX10_go_b209 {K : KT} {x1 : Int32} {x2 : Int32} {σ : Sg} {o : Int32 × Sg} (C : Cx K layM cX10_go RX10 4 (2) (some .boolean))  (hQ : Rk K layM (okI o)) (h : fX10_go_b209 x1 x2 σ = some o) : G K 209 [some (.ref (kad K 0)), some (.int x1), some (.int x2), none] [] (Wd K layM σ) := by
  unfold fX10_go_b209 at h
  refine g_iconst C.c dX10_go_209 (v := (1 : Int32)) (by decide) ?_
  refine g_goto C.c (tgt := 214) dX10_go_210 (by decide) ?_
  exact g_mask [true, true, true, false] rfl (bX10_go_b214 C hQ h)
set_option maxRecDepth 4000 in
theorem bX10_go_b213 {K : KT} {x1 : Int32} {x2 : Int32} {σ : Sg} {o : Int32 × Sg} (C : Cx K layM cX10_go RX10 4 (2) (some .boolean))  (hQ : Rk K layM (okI o)) (h : fX10_go_b213 x1 x2 σ = some o) : G K 213 [some (.ref (kad K 0)), some (.int x1), some (.int x2), none] [] (Wd K layM σ) := by
  unfold fX10_go_b213 at h
  refine g_iconst C.c dX10_go_213 (v := (0 : Int32)) (by decide) ?_
  exact g_mask [true, true, true, false] rfl (bX10_go_b214 C hQ h)
set_option maxRecDepth 4000 in
theorem bX10_go_b174 {K : KT} {x1 : Int32} {y0 : Int32} {σ : Sg} {o : Int32 × Sg} (C : Cx K layM cX10_go RX10 4 (2) (some .boolean))  (hQ : Rk K layM (okI o)) (h : fX10_go_b174 x1 y0 σ = some o) : G K 174 [some (.ref (kad K 0)), some (.int x1), none, none] [.int y0] (Wd K layM σ) := by
  unfold fX10_go_b174 at h
  refine g_istore_n C.c (i := 2) (L' := [some (.ref (kad K 0)), some (.int x1), some (.int y0), none]) dX10_go_174 rfl (Nat.le_of_ble_eq_true rfl) rfl ?_
  refine g_iload_n C.c dX10_go_175 rfl (i := 1) rfl ?_
  refine g_i2l C.c dX10_go_176 ?_
  refine g_ldc2 C.c (v := (48 : Int64)) aw_974 dX10_go_177 ?_
  refine g_ldc2 C.c (v := (57 : Int64)) aw_975 dX10_go_180 ?_
  obtain ⟨p1, e2, h⟩ := Option.bind_eq_some_iff.mp h
  refine kc_10_102 C dX10_go_183 e2 (Nat.le_of_ble_eq_true rfl) rfl (Nat.le_of_ble_eq_true rfl) ?_
  refine g_if_ne C.c (tgt := 209) dX10_go_186 (by decide) (fun c => ?_) (fun c => ?_)
  · replace h := ite_f c h
    exact g_mask [true, true, true, false] rfl (bX10_go_b209 C hQ h)
  · replace h := ite_t c h
    refine g_iload_n C.c dX10_go_189 rfl (i := 1) rfl ?_
    refine g_bipush C.c dX10_go_190 (v := (35 : Int32)) (by decide) ?_
    refine g_icmp_eq C.c (tgt := 209) dX10_go_192 (by decide) (fun c => ?_) (fun c => ?_)
    · replace h := ite_t c h
      exact g_mask [true, true, true, false] rfl (bX10_go_b209 C hQ h)
    · replace h := ite_f c h
      refine g_iload_n C.c dX10_go_195 rfl (i := 1) rfl ?_
      refine g_bipush C.c dX10_go_196 (v := (104 : Int32)) (by decide) ?_
      refine g_icmp_ne C.c (tgt := 213) dX10_go_198 (by decide) (fun c => ?_) (fun c => ?_)
      · replace h := ite_f c h
        exact g_mask [true, true, true, false] rfl (bX10_go_b213 C hQ h)
      · replace h := ite_t c h
        refine g_aload_n C.c dX10_go_201 rfl (i := 0) rfl ?_
        refine gf_10_106 C dX10_go_202 ?_
        refine g_iconst C.c dX10_go_205 (v := (-1 : Int32)) (by decide) ?_
        refine g_icmp_ne C.c (tgt := 213) dX10_go_206 (by decide) (fun c => ?_) (fun c => ?_)
        · replace h := ite_f c h
          exact g_mask [true, true, true, false] rfl (bX10_go_b213 C hQ h)
        · replace h := ite_t c h
          exact g_mask [true, true, true, false] rfl (bX10_go_b209 C hQ h)
set_option maxRecDepth 4000 in
theorem bX10_go_b166 {K : KT} {x1 : Int32} {y0 : Int32} {y1 : Int32} {σ : Sg} {o : Int32 × Sg} (C : Cx K layM cX10_go RX10 4 (2) (some .boolean))  (hQ : Rk K layM (okI o)) (h : fX10_go_b166 x1 y0 y1 σ = some o) : G K 166 [some (.ref (kad K 0)), some (.int x1), none, none] [.int y0, .int y1] (Wd K layM σ) := by
  unfold fX10_go_b166 at h
  refine g_icmp_ge C.c (tgt := 173) dX10_go_166 (by decide) (fun c => ?_) (fun c => ?_)
  · replace h := ite_t c h
    refine g_iconst C.c dX10_go_173 (v := (0 : Int32)) (by decide) ?_
    exact g_mask [true, true, false, false] rfl (bX10_go_b174 C hQ h)
  · replace h := ite_f c h
    refine g_iconst C.c dX10_go_169 (v := (1 : Int32)) (by decide) ?_
    refine g_goto C.c (tgt := 174) dX10_go_170 (by decide) ?_
    exact g_mask [true, true, false, false] rfl (bX10_go_b174 C hQ h)
set_option maxRecDepth 4000 in
theorem bX10_go_b136 {K : KT} {x2 : Int32} {y0 : Int32} {σ : Sg} {o : Int32 × Sg} (C : Cx K layM cX10_go RX10 4 (2) (some .boolean))  (hQ : Rk K layM (okI o)) (h : fX10_go_b136 x2 y0 σ = some o) : G K 136 [some (.ref (kad K 0)), none, some (.int x2), none] [.int y0, .ref (kad K 0)] (Wd K layM σ) := by
  unfold fX10_go_b136 at h
  refine pf_10_89 C dX10_go_136 ?_
  refine g_aload_n C.c dX10_go_139 rfl (i := 0) rfl ?_
  refine g_iconst C.c dX10_go_140 (v := (0 : Int32)) (by decide) ?_
  refine pf_10_77 C (by decide) dX10_go_141 ?_
  refine g_iload_n C.c dX10_go_144 rfl (i := 2) rfl ?_
  obtain ⟨c14, h⟩ := chk h
  obtain rfl := Option.some.inj h
  exact g_iret C hQ dX10_go_145 (isB_n c14) ⟨rfl, rfl⟩
set_option maxRecDepth 4000 in
theorem bX10_go_b119 {K : KT} {x2 : Int32} {y0 : Int32} {y1 : Int32} {σ : Sg} {o : Int32 × Sg} (C : Cx K layM cX10_go RX10 4 (2) (some .boolean))  (hQ : Rk K layM (okI o)) (h : fX10_go_b119 x2 y0 y1 σ = some o) : G K 119 [some (.ref (kad K 0)), none, some (.int x2), none] [.int y0, .int y1, .ref (kad K 0)] (Wd K layM σ) := by
  unfold fX10_go_b119 at h
  refine g_iadd C.c dX10_go_119 ?_
  refine pf_10_92 C dX10_go_120 ?_
  refine g_aload_n C.c dX10_go_123 rfl (i := 0) rfl ?_
  refine g_iload_n C.c dX10_go_124 rfl (i := 2) rfl ?_
  refine g_if_eq C.c (tgt := 132) dX10_go_125 (by decide) (fun c => ?_) (fun c => ?_)
  · replace h := ite_t c h
    refine g_aload_n C.c dX10_go_132 rfl (i := 0) rfl ?_
    refine gf_10_89 C dX10_go_133 ?_
    exact g_mask [true, false, true, false] rfl (bX10_go_b136 C hQ h)
  · replace h := ite_f c h
    refine g_iconst C.c dX10_go_128 (v := (0 : Int32)) (by decide) ?_
    refine g_goto C.c (tgt := 136) dX10_go_129 (by decide) ?_
    exact g_mask [true, false, true, false] rfl (bX10_go_b136 C hQ h)
set_option maxRecDepth 4000 in
theorem bX10_go_b102 {K : KT} {x2 : Int32} {y0 : Int32} {σ : Sg} {o : Int32 × Sg} (C : Cx K layM cX10_go RX10 4 (2) (some .boolean))  (hQ : Rk K layM (okI o)) (h : fX10_go_b102 x2 y0 σ = some o) : G K 102 [some (.ref (kad K 0)), none, some (.int x2), none] [.int y0, .ref (kad K 0)] (Wd K layM σ) := by
  unfold fX10_go_b102 at h
  refine pf_10_95 C dX10_go_102 ?_
  refine g_aload_n C.c dX10_go_105 rfl (i := 0) rfl ?_
  refine g_dup C.c dX10_go_106 rfl ?_
  refine gf_10_92 C dX10_go_107 ?_
  refine g_iload_n C.c dX10_go_110 rfl (i := 2) rfl ?_
  refine g_if_eq C.c (tgt := 118) dX10_go_111 (by decide) (fun c => ?_) (fun c => ?_)
  · replace h := ite_t c h
    refine g_iconst C.c dX10_go_118 (v := (0 : Int32)) (by decide) ?_
    exact g_mask [true, false, true, false] rfl (bX10_go_b119 C hQ h)
  · replace h := ite_f c h
    refine g_iconst C.c dX10_go_114 (v := (1 : Int32)) (by decide) ?_
    refine g_goto C.c (tgt := 119) dX10_go_115 (by decide) ?_
    exact g_mask [true, false, true, false] rfl (bX10_go_b119 C hQ h)
set_option maxRecDepth 4000 in
theorem bX10_go_b82 {K : KT} {y0 : Int32} {σ : Sg} {o : Int32 × Sg} (C : Cx K layM cX10_go RX10 4 (2) (some .boolean))  (hQ : Rk K layM (okI o)) (h : fX10_go_b82 y0 σ = some o) : G K 82 [some (.ref (kad K 0)), none, none, none] [.int y0] (Wd K layM σ) := by
  unfold fX10_go_b82 at h
  refine g_istore_n C.c (i := 2) (L' := [some (.ref (kad K 0)), none, some (.int y0), none]) dX10_go_82 rfl (Nat.le_of_ble_eq_true rfl) rfl ?_
  refine g_aload_n C.c dX10_go_83 rfl (i := 0) rfl ?_
  refine g_aload_n C.c dX10_go_84 rfl (i := 0) rfl ?_
  refine gf_10_92 C dX10_go_85 ?_
  refine g_if_ne C.c (tgt := 98) dX10_go_88 (by decide) (fun c => ?_) (fun c => ?_)
  · replace h := ite_f c h
    refine g_aload_n C.c dX10_go_98 rfl (i := 0) rfl ?_
    refine gf_10_95 C dX10_go_99 ?_
    exact g_mask [true, false, true, false] rfl (bX10_go_b102 C hQ h)
  · replace h := ite_t c h
    refine g_aload_n C.c dX10_go_91 rfl (i := 0) rfl ?_
    refine gf_10_89 C dX10_go_92 ?_
    refine g_goto C.c (tgt := 102) dX10_go_95 (by decide) ?_
    exact g_mask [true, false, true, false] rfl (bX10_go_b102 C hQ h)
set_option maxRecDepth 4000 in
theorem bX10_go_b81 {K : KT}  {σ : Sg} {o : Int32 × Sg} (C : Cx K layM cX10_go RX10 4 (2) (some .boolean))  (hQ : Rk K layM (okI o)) (h : fX10_go_b81  σ = some o) : G K 81 [some (.ref (kad K 0)), none, none, none] [] (Wd K layM σ) := by
  unfold fX10_go_b81 at h
  refine g_iconst C.c dX10_go_81 (v := (0 : Int32)) (by decide) ?_
  exact g_mask [true, false, false, false] rfl (bX10_go_b82 C hQ h)
set_option maxRecDepth 4000 in
theorem bX10_go_b69 {K : KT}  {σ : Sg} {o : Int32 × Sg} (C : Cx K layM cX10_go RX10 4 (2) (some .boolean))  (hQ : Rk K layM (okI o)) (h : fX10_go_b69  σ = some o) : G K 69 [some (.ref (kad K 0)), none, none, none] [] (Wd K layM σ) := by
  unfold fX10_go_b69 at h
  refine g_aload_n C.c dX10_go_69 rfl (i := 0) rfl ?_
  refine gf_10_92 C dX10_go_70 ?_
  refine g_iconst C.c dX10_go_73 (v := (4 : Int32)) (by decide) ?_
  refine g_icmp_ge C.c (tgt := 81) dX10_go_74 (by decide) (fun c => ?_) (fun c => ?_)
  · replace h := ite_t c h
    exact g_mask [true, false, false, false] rfl (bX10_go_b81 C hQ h)
  · replace h := ite_f c h
    refine g_iconst C.c dX10_go_77 (v := (1 : Int32)) (by decide) ?_
    refine g_goto C.c (tgt := 82) dX10_go_78 (by decide) ?_
    exact g_mask [true, false, false, false] rfl (bX10_go_b82 C hQ h)
set_option maxRecDepth 4000 in
theorem bX10_go_b37 {K : KT} {x1 : Int32} {σ : Sg} {o : Int32 × Sg} (C : Cx K layM cX10_go RX10 4 (2) (some .boolean))  (hQ : Rk K layM (okI o)) (h : fX10_go_b37 x1 σ = some o) : G K 37 [some (.ref (kad K 0)), some (.int x1), none, none] [] (Wd K layM σ) := by
  unfold fX10_go_b37 at h
  refine g_iload_n C.c dX10_go_37 rfl (i := 1) rfl ?_
  refine g_bipush C.c dX10_go_38 (v := (47 : Int32)) (by decide) ?_
  refine g_icmp_ne C.c (tgt := 146) dX10_go_40 (by decide) (fun c => ?_) (fun c => ?_)
  · replace h := ite_f c h
    refine g_aload_n C.c dX10_go_146 rfl (i := 0) rfl ?_
    refine gf_10_89 C dX10_go_147 ?_
    refine g_aload_n C.c dX10_go_150 rfl (i := 0) rfl ?_
    refine gf_10_92 C dX10_go_151 ?_
    refine g_if_ne C.c (tgt := 162) dX10_go_154 (by decide) (fun c => ?_) (fun c => ?_)
    · replace h := ite_f c h
      refine g_aload_n C.c dX10_go_162 rfl (i := 0) rfl ?_
      refine gf_10_95 C dX10_go_163 ?_
      exact g_mask [true, true, false, false] rfl (bX10_go_b166 C hQ h)
    · replace h := ite_t c h
      refine g_bipush C.c dX10_go_157 (v := (6 : Int32)) (by decide) ?_
      refine g_goto C.c (tgt := 166) dX10_go_159 (by decide) ?_
      exact g_mask [true, true, false, false] rfl (bX10_go_b166 C hQ h)
  · replace h := ite_t c h
    refine g_aload_n C.c dX10_go_43 rfl (i := 0) rfl ?_
    refine gf_10_89 C dX10_go_44 ?_
    refine g_iconst C.c dX10_go_47 (v := (1 : Int32)) (by decide) ?_
    refine g_icmp_le C.c (tgt := 81) dX10_go_48 (by decide) (fun c => ?_) (fun c => ?_)
    · replace h := ite_t c h
      exact g_mask [true, false, false, false] rfl (bX10_go_b81 C hQ h)
    · replace h := ite_f c h
      refine g_aload_n C.c dX10_go_51 rfl (i := 0) rfl ?_
      refine gf_10_92 C dX10_go_52 ?_
      refine g_if_eq C.c (tgt := 69) dX10_go_55 (by decide) (fun c => ?_) (fun c => ?_)
      · replace h := ite_t c h
        exact g_mask [true, false, false, false] rfl (bX10_go_b69 C hQ h)
      · replace h := ite_f c h
        refine g_aload_n C.c dX10_go_58 rfl (i := 0) rfl ?_
        refine gf_10_89 C dX10_go_59 ?_
        refine g_aload_n C.c dX10_go_62 rfl (i := 0) rfl ?_
        refine gf_10_95 C dX10_go_63 ?_
        refine g_icmp_ne C.c (tgt := 81) dX10_go_66 (by decide) (fun c => ?_) (fun c => ?_)
        · replace h := ite_f c h
          exact g_mask [true, false, false, false] rfl (bX10_go_b81 C hQ h)
        · replace h := ite_t c h
          exact g_mask [true, false, false, false] rfl (bX10_go_b69 C hQ h)
set_option maxRecDepth 4000 in
theorem bX10_go_b0 {K : KT} {x1 : Int32} {σ : Sg} {o : Int32 × Sg} (C : Cx K layM cX10_go RX10 4 (2) (some .boolean))  (hQ : Rk K layM (okI o)) (h : fX10_go_b0 x1 σ = some o) : G K 0 [some (.ref (kad K 0)), some (.int x1), none, none] [] (Wd K layM σ) := by
  unfold fX10_go_b0 at h
  refine g_aload_n C.c dX10_go_0 rfl (i := 0) rfl ?_
  refine gf_10_77 C dX10_go_1 ?_
  refine g_if_eq C.c (tgt := 37) dX10_go_4 (by decide) (fun c => ?_) (fun c => ?_)
  · replace h := ite_t c h
    exact g_mask [true, true, false, false] rfl (bX10_go_b37 C hQ h)
  · replace h := ite_f c h
    refine g_iload_n C.c dX10_go_7 rfl (i := 1) rfl ?_
    obtain ⟨p15, e16, h⟩ := Option.bind_eq_some_iff.mp h
    refine kc_10_81 C dX10_go_8 e16 (Nat.le_of_ble_eq_true rfl) rfl (Nat.le_of_ble_eq_true rfl) ?_
    refine g_iconst C.c dX10_go_11 (v := (-1 : Int32)) (by decide) ?_
    refine g_icmp_eq C.c (tgt := 37) dX10_go_12 (by decide) (fun c => ?_) (fun c => ?_)
    · replace h := ite_t c h
      exact g_mask [true, true, false, false] rfl (bX10_go_b37 C hQ h)
    · replace h := ite_f c h
      refine g_aload_n C.c dX10_go_15 rfl (i := 0) rfl ?_
      refine gf_10_16 C dX10_go_16 ?_
      refine g_aload_n C.c dX10_go_19 rfl (i := 0) rfl ?_
      obtain ⟨p17, e18, h⟩ := Option.bind_eq_some_iff.mp h
      refine kc_10_85 C dX10_go_20 e18 (Nat.le_of_ble_eq_true rfl) rfl (Nat.le_of_ble_eq_true rfl) ?_
      refine g_iconst C.c dX10_go_23 (v := (1 : Int32)) (by decide) ?_
      refine g_isub C.c dX10_go_24 ?_
      refine g_iload_n C.c dX10_go_25 rfl (i := 1) rfl ?_
      obtain ⟨p19, e20, h⟩ := Option.bind_eq_some_iff.mp h
      refine kc_10_81 C dX10_go_26 e20 (Nat.le_of_ble_eq_true rfl) rfl (Nat.le_of_ble_eq_true rfl) ?_
      obtain ⟨c21, h⟩ := chk h
      refine g_iast C dX10_go_29 rfl c21 ?_
      refine g_aload_n C.c dX10_go_30 rfl (i := 0) rfl ?_
      refine g_iconst C.c dX10_go_31 (v := (0 : Int32)) (by decide) ?_
      refine pf_10_77 C (by decide) dX10_go_32 ?_
      refine g_iconst C.c dX10_go_35 (v := (1 : Int32)) (by decide) ?_
      obtain rfl := Option.some.inj h
      exact g_iret C hQ dX10_go_36 rfl ⟨rfl, rfl⟩
def fX10_go (a0 : Int32) (σ : Sg) : Option (Int32 × Sg) := fX10_go_b0 a0 σ
theorem ct_X10_go {a0 : Int32} {σ : Sg} {p : Int32 × Sg} (h : fX10_go a0 σ = some p) : Ct layM yX10_go cX10_go 4 (some .boolean) 2 (fun ad => [.ref (ad 0), .int a0]) σ (okI p) :=
 ct_of (L0 := fun ad => [some (.ref (ad 0)), some (.int a0), none, none]) (by decide) (fun _ => Nat.le_of_ble_eq_true rfl) (fun _ => rfl) (fun K C hQ => g_mask [true, true, false, false] rfl (bX10_go_b0 C hQ h))
-- X10_faultOf
theorem dX10_faultOf_0 : decode cX10_faultOf 0 = .ok (.aload_n 0, 1) := by decide +kernel
theorem dX10_faultOf_1 : decode cX10_faultOf 1 = .ok (.iconst 0, 1) := by decide +kernel
theorem dX10_faultOf_2 : decode cX10_faultOf 2 = .ok (.putfield 92, 3) := by decide +kernel
theorem dX10_faultOf_5 : decode cX10_faultOf 5 = .ok (.aload_n 0, 1) := by decide +kernel
theorem dX10_faultOf_6 : decode cX10_faultOf 6 = .ok (.iconst 0, 1) := by decide +kernel
theorem dX10_faultOf_7 : decode cX10_faultOf 7 = .ok (.putfield 95, 3) := by decide +kernel
theorem dX10_faultOf_10 : decode cX10_faultOf 10 = .ok (.aload_n 0, 1) := by decide +kernel
theorem dX10_faultOf_11 : decode cX10_faultOf 11 = .ok (.iconst 0, 1) := by decide +kernel
theorem dX10_faultOf_12 : decode cX10_faultOf 12 = .ok (.putfield 89, 3) := by decide +kernel
theorem dX10_faultOf_15 : decode cX10_faultOf 15 = .ok (.aload_n 0, 1) := by decide +kernel
theorem dX10_faultOf_16 : decode cX10_faultOf 16 = .ok (.iconst (-1), 1) := by decide +kernel
theorem dX10_faultOf_17 : decode cX10_faultOf 17 = .ok (.putfield 106, 3) := by decide +kernel
theorem dX10_faultOf_20 : decode cX10_faultOf 20 = .ok (.aload_n 0, 1) := by decide +kernel
theorem dX10_faultOf_21 : decode cX10_faultOf 21 = .ok (.iconst 0, 1) := by decide +kernel
theorem dX10_faultOf_22 : decode cX10_faultOf 22 = .ok (.putfield 77, 3) := by decide +kernel
theorem dX10_faultOf_25 : decode cX10_faultOf 25 = .ok (.iconst 0, 1) := by decide +kernel
theorem dX10_faultOf_26 : decode cX10_faultOf 26 = .ok (.istore_n 1, 1) := by decide +kernel
theorem dX10_faultOf_27 : decode cX10_faultOf 27 = .ok (.iload_n 1, 1) := by decide +kernel
theorem dX10_faultOf_28 : decode cX10_faultOf 28 = .ok (.aload_n 0, 1) := by decide +kernel
theorem dX10_faultOf_29 : decode cX10_faultOf 29 = .ok (.getfield 74, 3) := by decide +kernel
theorem dX10_faultOf_32 : decode cX10_faultOf 32 = .ok (.if_icmp .ge 22, 3) := by decide +kernel
theorem dX10_faultOf_35 : decode cX10_faultOf 35 = .ok (.aload_n 0, 1) := by decide +kernel
theorem dX10_faultOf_36 : decode cX10_faultOf 36 = .ok (.aload_n 0, 1) := by decide +kernel
theorem dX10_faultOf_37 : decode cX10_faultOf 37 = .ok (.getfield 7, 3) := by decide +kernel
theorem dX10_faultOf_40 : decode cX10_faultOf 40 = .ok (.iload_n 1, 1) := by decide +kernel
theorem dX10_faultOf_41 : decode cX10_faultOf 41 = .ok (.iaload, 1) := by decide +kernel
theorem dX10_faultOf_42 : decode cX10_faultOf 42 = .ok (.invokevirtual 109, 3) := by decide +kernel
theorem dX10_faultOf_45 : decode cX10_faultOf 45 = .ok (.ifCond .eq 9, 3) := by decide +kernel
theorem dX10_faultOf_48 : decode cX10_faultOf 48 = .ok (.iinc 1 1, 3) := by decide +kernel
theorem dX10_faultOf_51 : decode cX10_faultOf 51 = .ok (.goto (-24), 3) := by decide +kernel
theorem dX10_faultOf_54 : decode cX10_faultOf 54 = .ok (.iload_n 1, 1) := by decide +kernel
theorem dX10_faultOf_55 : decode cX10_faultOf 55 = .ok (.ireturn, 1) := by decide +kernel
theorem cw_X10_faultOf : Cw yX10_faultOf cX10_faultOf 2 (some .int) 0 := ⟨aw_962, aw_56, ⟨by decide, by decide⟩, by decide +kernel, by decide⟩
theorem kc_10_109 {K : KT} {cc : ByteArray} {nL d pc : Nat} {ret : Option FieldType} {L : List (Option Value)} {st : List Value} {σ : Sg} (C : Cx K layM cc RX10 nL d ret)  {a0 : Int32}  {p : Int32 × Sg} (hd : decode cc pc = .ok (.invokevirtual 109, 3)) (e : fX10_go a0 σ = some p) (hdd : 2 + 1 ≤ d) (hLn : L.length = nL) (hr : (st.map fun v => v.category).sum ≤ 8) (k : G K (pc + 3) L (.int p.1 :: st) (Wd K layM p.2)) : G K pc L (.int a0 :: .ref (kad K 0) :: st) (Wd K layM σ) :=
  g_callV C (As := [.int a0]) (rest := st) (o := 0) (ci := 10) hd (ct_X10_go e) cw_X10_go (Or.inl aw_963) aw_965 aw_22 rfl rfl rfl hdd hLn rfl rfl hr (fun v τ q => by obtain ⟨rfl, rfl⟩ := q; exact k)
def fX10_faultOf_b27 (x1 : Int32) (σ : Sg) : Option ((Int32 × Sg) ⊕ ((Int32 × Sg))) :=
  if (rI σ 0 1) ≤ x1 then (some (.inr (x1, σ))) else (if inb x1 64 = true then (Option.bind (fX10_go (rI σ 1 (x1).toNatClampNeg) σ) fun p2 => (if p2.1 = 0 then (some (.inr (x1, p2.2))) else (some (.inl ((x1 + (1 : Int32)), p2.2))))) else none)
def fX10_faultOf_b0  (σ : Sg) : Option (Int32 × Sg) :=
  Option.bind (lp (fun s => fX10_faultOf_b27 s.1 s.2) FU ((0 : Int32), (wI (wI (wI (wI (wI σ 0 2 (0 : Int32)) 0 3 (0 : Int32)) 0 4 (0 : Int32)) 0 5 (-1 : Int32)) 0 6 (0 : Int32)))) fun t4 => some (t4.1, t4.2)
set_option maxRecDepth 4000 in
theorem bX10_faultOf_b27 {K : KT} {x1 : Int32} {σ : Sg} {o : (Int32 × Sg) ⊕ ((Int32 × Sg))} (C : Cx K layM cX10_faultOf RX10 2 (3) (some .int))  (hI : ∀ s' : Int32 × Sg, o = .inl s' → G K 27 [some (.ref (kad K 0)), some (.int s'.1)] [] (Wd K layM s'.2)) (hE0 : ∀ t : Int32 × Sg, o = .inr t → G K 54 [none, some (.int t.1)] [] (Wd K layM t.2)) (h : fX10_faultOf_b27 x1 σ = some o) : G K 27 [some (.ref (kad K 0)), some (.int x1)] [] (Wd K layM σ) := by
  unfold fX10_faultOf_b27 at h
  refine g_iload_n C.c dX10_faultOf_27 rfl (i := 1) rfl ?_
  refine g_aload_n C.c dX10_faultOf_28 rfl (i := 0) rfl ?_
  refine gf_10_74 C dX10_faultOf_29 ?_
  refine g_icmp_ge C.c (tgt := 54) dX10_faultOf_32 (by decide) (fun c => ?_) (fun c => ?_)
  · replace h := ite_t c h
    have g9 := hE0 _ (Option.some.inj h).symm
    exact g_mask [false, true] rfl g9
  · replace h := ite_f c h
    refine g_aload_n C.c dX10_faultOf_35 rfl (i := 0) rfl ?_
    refine g_aload_n C.c dX10_faultOf_36 rfl (i := 0) rfl ?_
    refine gf_10_7 C dX10_faultOf_37 ?_
    refine g_iload_n C.c dX10_faultOf_40 rfl (i := 1) rfl ?_
    obtain ⟨c1, h⟩ := chk h
    refine g_iald C dX10_faultOf_41 rfl c1 ?_
    obtain ⟨p2, e3, h⟩ := Option.bind_eq_some_iff.mp h
    refine kc_10_109 C dX10_faultOf_42 e3 (Nat.le_of_ble_eq_true rfl) rfl (Nat.le_of_ble_eq_true rfl) ?_
    refine g_if_eq C.c (tgt := 54) dX10_faultOf_45 (by decide) (fun c => ?_) (fun c => ?_)
    · replace h := ite_t c h
      have g9 := hE0 _ (Option.some.inj h).symm
      exact g_mask [false, true] rfl g9
    · replace h := ite_f c h
      refine g_iinc C.c (i := 1) (y := (1 : Int32)) (L' := [some (.ref (kad K 0)), some (.int (x1 + (1 : Int32)))]) dX10_faultOf_48 rfl (by decide) (Nat.le_of_ble_eq_true rfl) rfl ?_
      refine g_goto C.c (tgt := 27) dX10_faultOf_51 (by decide) ?_
      have g9 := hI _ (Option.some.inj h).symm
      exact g_mask [true, true] rfl g9
set_option maxRecDepth 4000 in
theorem bX10_faultOf_b0 {K : KT}  {σ : Sg} {o : Int32 × Sg} (C : Cx K layM cX10_faultOf RX10 2 (3) (some .int))  (hQ : Rk K layM (okI o)) (h : fX10_faultOf_b0  σ = some o) : G K 0 [some (.ref (kad K 0)), none] [] (Wd K layM σ) := by
  unfold fX10_faultOf_b0 at h
  refine g_aload_n C.c dX10_faultOf_0 rfl (i := 0) rfl ?_
  refine g_iconst C.c dX10_faultOf_1 (v := (0 : Int32)) (by decide) ?_
  refine pf_10_92 C dX10_faultOf_2 ?_
  refine g_aload_n C.c dX10_faultOf_5 rfl (i := 0) rfl ?_
  refine g_iconst C.c dX10_faultOf_6 (v := (0 : Int32)) (by decide) ?_
  refine pf_10_95 C dX10_faultOf_7 ?_
  refine g_aload_n C.c dX10_faultOf_10 rfl (i := 0) rfl ?_
  refine g_iconst C.c dX10_faultOf_11 (v := (0 : Int32)) (by decide) ?_
  refine pf_10_89 C dX10_faultOf_12 ?_
  refine g_aload_n C.c dX10_faultOf_15 rfl (i := 0) rfl ?_
  refine g_iconst C.c dX10_faultOf_16 (v := (-1 : Int32)) (by decide) ?_
  refine pf_10_106 C dX10_faultOf_17 ?_
  refine g_aload_n C.c dX10_faultOf_20 rfl (i := 0) rfl ?_
  refine g_iconst C.c dX10_faultOf_21 (v := (0 : Int32)) (by decide) ?_
  refine pf_10_77 C (by decide) dX10_faultOf_22 ?_
  refine g_iconst C.c dX10_faultOf_25 (v := (0 : Int32)) (by decide) ?_
  refine g_istore_n C.c (i := 1) (L' := [some (.ref (kad K 0)), some (.int (0 : Int32))]) dX10_faultOf_26 rfl (Nat.le_of_ble_eq_true rfl) rfl ?_
  refine g_mask [true, true] rfl ?_
  refine lp_bind (Gh := fun s => G K 27 [some (.ref (kad K 0)), some (.int s.1)] [] (Wd K layM s.2)) h (fun s o2 hf gI gE => ?_)
  refine bX10_faultOf_b27 C gI (fun t4 e => ?_) hf
  · have h := gE _ e
    refine g_iload_n C.c dX10_faultOf_54 rfl (i := 1) rfl ?_
    obtain rfl := Option.some.inj h
    exact g_iret C hQ dX10_faultOf_55 rfl ⟨rfl, rfl⟩
def fX10_faultOf (σ : Sg) : Option (Int32 × Sg) := fX10_faultOf_b0 σ
theorem ct_X10_faultOf {σ : Sg} {p : Int32 × Sg} (h : fX10_faultOf σ = some p) : Ct layM yX10_faultOf cX10_faultOf 2 (some .int) 3 (fun ad => [.ref (ad 0)]) σ (okI p) :=
 ct_of (L0 := fun ad => [some (.ref (ad 0)), none]) (by decide) (fun _ => Nat.le_of_ble_eq_true rfl) (fun _ => rfl) (fun K C hQ => g_mask [true, false] rfl (bX10_faultOf_b0 C hQ h))
-- X10_fault
theorem dX10_fault_0 : decode cX10_fault 0 = .ok (.aload_n 0, 1) := by decide +kernel
theorem dX10_fault_1 : decode cX10_fault 1 = .ok (.invokevirtual 113, 3) := by decide +kernel
theorem dX10_fault_4 : decode cX10_fault 4 = .ok (.ireturn, 1) := by decide +kernel
theorem cw_X10_fault : Cw yX10_fault cX10_fault 1 (some .int) 0 := ⟨aw_958, aw_56, ⟨by decide, by decide⟩, by decide +kernel, by decide⟩
theorem kc_10_113 {K : KT} {cc : ByteArray} {nL d pc : Nat} {ret : Option FieldType} {L : List (Option Value)} {st : List Value} {σ : Sg} (C : Cx K layM cc RX10 nL d ret)    {p : Int32 × Sg} (hd : decode cc pc = .ok (.invokevirtual 113, 3)) (e : fX10_faultOf σ = some p) (hdd : 3 + 1 ≤ d) (hLn : L.length = nL) (hr : (st.map fun v => v.category).sum ≤ 8) (k : G K (pc + 3) L (.int p.1 :: st) (Wd K layM p.2)) : G K pc L (.ref (kad K 0) :: st) (Wd K layM σ) :=
  g_callV C (As := []) (rest := st) (o := 0) (ci := 10) hd (ct_X10_faultOf e) cw_X10_faultOf (Or.inl aw_959) aw_961 aw_21 rfl rfl rfl hdd hLn rfl rfl hr (fun v τ q => by obtain ⟨rfl, rfl⟩ := q; exact k)
def fX10_fault_b0  (σ : Sg) : Option (Int32 × Sg) :=
  Option.bind (fX10_faultOf σ) fun p1 => (some (p1.1, p1.2))
set_option maxRecDepth 4000 in
theorem bX10_fault_b0 {K : KT}  {σ : Sg} {o : Int32 × Sg} (C : Cx K layM cX10_fault RX10 1 (4) (some .int))  (hQ : Rk K layM (okI o)) (h : fX10_fault_b0  σ = some o) : G K 0 [some (.ref (kad K 0))] [] (Wd K layM σ) := by
  unfold fX10_fault_b0 at h
  refine g_aload_n C.c dX10_fault_0 rfl (i := 0) rfl ?_
  obtain ⟨p1, e2, h⟩ := Option.bind_eq_some_iff.mp h
  refine kc_10_113 C dX10_fault_1 e2 (Nat.le_of_ble_eq_true rfl) rfl (Nat.le_of_ble_eq_true rfl) ?_
  obtain rfl := Option.some.inj h
  exact g_iret C hQ dX10_fault_4 rfl ⟨rfl, rfl⟩
def fX10_fault (σ : Sg) : Option (Int32 × Sg) := fX10_fault_b0 σ
theorem ct_X10_fault {σ : Sg} {p : Int32 × Sg} (h : fX10_fault σ = some p) : Ct layM yX10_fault cX10_fault 1 (some .int) 4 (fun ad => [.ref (ad 0)]) σ (okI p) :=
 ct_of (L0 := fun ad => [some (.ref (ad 0))]) (by decide) (fun _ => Nat.le_of_ble_eq_true rfl) (fun _ => rfl) (fun K C hQ => g_mask [true] rfl (bX10_fault_b0 C hQ h))
-- X10_sea
theorem dX10_sea_0 : decode cX10_sea 0 = .ok (.aload_n 0, 1) := by decide +kernel
theorem dX10_sea_1 : decode cX10_sea 1 = .ok (.invokevirtual 113, 3) := by decide +kernel
theorem dX10_sea_4 : decode cX10_sea 4 = .ok (.aload_n 0, 1) := by decide +kernel
theorem dX10_sea_5 : decode cX10_sea 5 = .ok (.getfield 74, 3) := by decide +kernel
theorem dX10_sea_8 : decode cX10_sea 8 = .ok (.if_icmp .lt 29, 3) := by decide +kernel
theorem dX10_sea_11 : decode cX10_sea 11 = .ok (.aload_n 0, 1) := by decide +kernel
theorem dX10_sea_12 : decode cX10_sea 12 = .ok (.getfield 92, 3) := by decide +kernel
theorem dX10_sea_15 : decode cX10_sea 15 = .ok (.ifCond .eq 22, 3) := by decide +kernel
theorem dX10_sea_18 : decode cX10_sea 18 = .ok (.aload_n 0, 1) := by decide +kernel
theorem dX10_sea_19 : decode cX10_sea 19 = .ok (.getfield 89, 3) := by decide +kernel
theorem dX10_sea_22 : decode cX10_sea 22 = .ok (.aload_n 0, 1) := by decide +kernel
theorem dX10_sea_23 : decode cX10_sea 23 = .ok (.getfield 95, 3) := by decide +kernel
theorem dX10_sea_26 : decode cX10_sea 26 = .ok (.if_icmp .ne 11, 3) := by decide +kernel
theorem dX10_sea_29 : decode cX10_sea 29 = .ok (.aload_n 0, 1) := by decide +kernel
theorem dX10_sea_30 : decode cX10_sea 30 = .ok (.getfield 106, 3) := by decide +kernel
theorem dX10_sea_33 : decode cX10_sea 33 = .ok (.iconst (-1), 1) := by decide +kernel
theorem dX10_sea_34 : decode cX10_sea 34 = .ok (.if_icmp .ne 6, 3) := by decide +kernel
theorem dX10_sea_37 : decode cX10_sea 37 = .ok (.bipush (-103), 2) := by decide +kernel
theorem dX10_sea_39 : decode cX10_sea 39 = .ok (.ireturn, 1) := by decide +kernel
theorem dX10_sea_40 : decode cX10_sea 40 = .ok (.aload_n 0, 1) := by decide +kernel
theorem dX10_sea_41 : decode cX10_sea 41 = .ok (.aload_n 0, 1) := by decide +kernel
theorem dX10_sea_42 : decode cX10_sea 42 = .ok (.getfield 92, 3) := by decide +kernel
theorem dX10_sea_45 : decode cX10_sea 45 = .ok (.iconst 1, 1) := by decide +kernel
theorem dX10_sea_46 : decode cX10_sea 46 = .ok (.iadd, 1) := by decide +kernel
theorem dX10_sea_47 : decode cX10_sea 47 = .ok (.putfield 116, 3) := by decide +kernel
theorem dX10_sea_50 : decode cX10_sea 50 = .ok (.aload_n 0, 1) := by decide +kernel
theorem dX10_sea_51 : decode cX10_sea 51 = .ok (.aload_n 0, 1) := by decide +kernel
theorem dX10_sea_52 : decode cX10_sea 52 = .ok (.getfield 95, 3) := by decide +kernel
theorem dX10_sea_55 : decode cX10_sea 55 = .ok (.putfield 119, 3) := by decide +kernel
theorem dX10_sea_58 : decode cX10_sea 58 = .ok (.aload_n 0, 1) := by decide +kernel
theorem dX10_sea_59 : decode cX10_sea 59 = .ok (.aload_n 0, 1) := by decide +kernel
theorem dX10_sea_60 : decode cX10_sea 60 = .ok (.getfield 106, 3) := by decide +kernel
theorem dX10_sea_63 : decode cX10_sea 63 = .ok (.putfield 122, 3) := by decide +kernel
theorem dX10_sea_66 : decode cX10_sea 66 = .ok (.iconst 0, 1) := by decide +kernel
theorem dX10_sea_67 : decode cX10_sea 67 = .ok (.istore_n 1, 1) := by decide +kernel
theorem dX10_sea_68 : decode cX10_sea 68 = .ok (.iload_n 1, 1) := by decide +kernel
theorem dX10_sea_69 : decode cX10_sea 69 = .ok (.bipush 30, 2) := by decide +kernel
theorem dX10_sea_71 : decode cX10_sea 71 = .ok (.if_icmp .ge 33, 3) := by decide +kernel
theorem dX10_sea_74 : decode cX10_sea 74 = .ok (.aload_n 0, 1) := by decide +kernel
theorem dX10_sea_75 : decode cX10_sea 75 = .ok (.getfield 19, 3) := by decide +kernel
theorem dX10_sea_78 : decode cX10_sea 78 = .ok (.iload_n 1, 1) := by decide +kernel
theorem dX10_sea_79 : decode cX10_sea 79 = .ok (.aload_n 0, 1) := by decide +kernel
theorem dX10_sea_80 : decode cX10_sea 80 = .ok (.getfield 13, 3) := by decide +kernel
theorem dX10_sea_83 : decode cX10_sea 83 = .ok (.iload_n 1, 1) := by decide +kernel
theorem dX10_sea_84 : decode cX10_sea 84 = .ok (.iaload, 1) := by decide +kernel
theorem dX10_sea_85 : decode cX10_sea 85 = .ok (.iastore, 1) := by decide +kernel
theorem dX10_sea_86 : decode cX10_sea 86 = .ok (.aload_n 0, 1) := by decide +kernel
theorem dX10_sea_87 : decode cX10_sea 87 = .ok (.getfield 22, 3) := by decide +kernel
theorem dX10_sea_90 : decode cX10_sea 90 = .ok (.iload_n 1, 1) := by decide +kernel
theorem dX10_sea_91 : decode cX10_sea 91 = .ok (.aload_n 0, 1) := by decide +kernel
theorem dX10_sea_92 : decode cX10_sea 92 = .ok (.getfield 16, 3) := by decide +kernel
theorem dX10_sea_95 : decode cX10_sea 95 = .ok (.iload_n 1, 1) := by decide +kernel
theorem dX10_sea_96 : decode cX10_sea 96 = .ok (.iaload, 1) := by decide +kernel
theorem dX10_sea_97 : decode cX10_sea 97 = .ok (.iastore, 1) := by decide +kernel
theorem dX10_sea_98 : decode cX10_sea 98 = .ok (.iinc 1 1, 3) := by decide +kernel
theorem dX10_sea_101 : decode cX10_sea 101 = .ok (.goto (-33), 3) := by decide +kernel
theorem dX10_sea_104 : decode cX10_sea 104 = .ok (.aload_n 0, 1) := by decide +kernel
theorem dX10_sea_105 : decode cX10_sea 105 = .ok (.iconst 0, 1) := by decide +kernel
theorem dX10_sea_106 : decode cX10_sea 106 = .ok (.putfield 125, 3) := by decide +kernel
theorem dX10_sea_109 : decode cX10_sea 109 = .ok (.aload_n 0, 1) := by decide +kernel
theorem dX10_sea_110 : decode cX10_sea 110 = .ok (.iconst 0, 1) := by decide +kernel
theorem dX10_sea_111 : decode cX10_sea 111 = .ok (.putfield 128, 3) := by decide +kernel
theorem dX10_sea_114 : decode cX10_sea 114 = .ok (.aload_n 0, 1) := by decide +kernel
theorem dX10_sea_115 : decode cX10_sea 115 = .ok (.dup, 1) := by decide +kernel
theorem dX10_sea_116 : decode cX10_sea 116 = .ok (.getfield 131, 3) := by decide +kernel
theorem dX10_sea_119 : decode cX10_sea 119 = .ok (.iconst 1, 1) := by decide +kernel
theorem dX10_sea_120 : decode cX10_sea 120 = .ok (.iadd, 1) := by decide +kernel
theorem dX10_sea_121 : decode cX10_sea 121 = .ok (.putfield 131, 3) := by decide +kernel
theorem dX10_sea_124 : decode cX10_sea 124 = .ok (.aload_n 0, 1) := by decide +kernel
theorem dX10_sea_125 : decode cX10_sea 125 = .ok (.iconst 0, 1) := by decide +kernel
theorem dX10_sea_126 : decode cX10_sea 126 = .ok (.putfield 74, 3) := by decide +kernel
theorem dX10_sea_129 : decode cX10_sea 129 = .ok (.aload_n 0, 1) := by decide +kernel
theorem dX10_sea_130 : decode cX10_sea 130 = .ok (.getfield 116, 3) := by decide +kernel
theorem dX10_sea_133 : decode cX10_sea 133 = .ok (.aload_n 0, 1) := by decide +kernel
theorem dX10_sea_134 : decode cX10_sea 134 = .ok (.getfield 119, 3) := by decide +kernel
theorem dX10_sea_137 : decode cX10_sea 137 = .ok (.imul, 1) := by decide +kernel
theorem dX10_sea_138 : decode cX10_sea 138 = .ok (.ireturn, 1) := by decide +kernel
theorem cw_X10_sea : Cw yX10_sea cX10_sea 2 (some .int) 0 := ⟨aw_982, aw_56, ⟨by decide, by decide⟩, by decide +kernel, by decide⟩
theorem pf_10_116 {K : KT} {cc : ByteArray} {nL d pc : Nat} {ret : Option FieldType} {L : List (Option Value)} {st : List Value} {σ : Sg} (C : Cx K layM cc RX10 nL d ret)  {v : Int32}  (hd : decode cc pc = .ok (.putfield 116, 3)) (k : G K (pc + 3) L st (Wd K layM (wI σ 0 9 v))) : G K pc L (.int v :: .ref (kad K 0) :: st) (Wd K layM σ) := g_putI C (o := 0) (ci := 10) (k := 9) hd rfl rfl rfl (by decide) (Or.inl aw_798) inA10 tyX10_ok nmX10 rfl rfl rfl k
theorem pf_10_119 {K : KT} {cc : ByteArray} {nL d pc : Nat} {ret : Option FieldType} {L : List (Option Value)} {st : List Value} {σ : Sg} (C : Cx K layM cc RX10 nL d ret)  {v : Int32}  (hd : decode cc pc = .ok (.putfield 119, 3)) (k : G K (pc + 3) L st (Wd K layM (wI σ 0 10 v))) : G K pc L (.int v :: .ref (kad K 0) :: st) (Wd K layM σ) := g_putI C (o := 0) (ci := 10) (k := 10) hd rfl rfl rfl (by decide) (Or.inl aw_799) inA10 tyX10_ok nmX10 rfl rfl rfl k
theorem pf_10_122 {K : KT} {cc : ByteArray} {nL d pc : Nat} {ret : Option FieldType} {L : List (Option Value)} {st : List Value} {σ : Sg} (C : Cx K layM cc RX10 nL d ret)  {v : Int32}  (hd : decode cc pc = .ok (.putfield 122, 3)) (k : G K (pc + 3) L st (Wd K layM (wI σ 0 11 v))) : G K pc L (.int v :: .ref (kad K 0) :: st) (Wd K layM σ) := g_putI C (o := 0) (ci := 10) (k := 11) hd rfl rfl rfl (by decide) (Or.inl aw_800) inA10 tyX10_ok nmX10 rfl rfl rfl k
theorem gf_10_19 {K : KT} {cc : ByteArray} {nL d pc : Nat} {ret : Option FieldType} {L : List (Option Value)} {st : List Value} {σ : Sg} (C : Cx K layM cc RX10 nL d ret)  (hd : decode cc pc = .ok (.getfield 19, 3)) (k : G K (pc + 3) L (.ref (kad K 4) :: st) (Wd K layM σ)) : G K pc L (.ref (kad K 0) :: st) (Wd K layM σ) := g_get C (o := 0) (ci := 10) (k := 13) hd rfl rfl rfl (by decide) (Or.inl aw_802) inA10 rfl k
theorem gf_10_22 {K : KT} {cc : ByteArray} {nL d pc : Nat} {ret : Option FieldType} {L : List (Option Value)} {st : List Value} {σ : Sg} (C : Cx K layM cc RX10 nL d ret)  (hd : decode cc pc = .ok (.getfield 22, 3)) (k : G K (pc + 3) L (.ref (kad K 5) :: st) (Wd K layM σ)) : G K pc L (.ref (kad K 0) :: st) (Wd K layM σ) := g_get C (o := 0) (ci := 10) (k := 14) hd rfl rfl rfl (by decide) (Or.inl aw_803) inA10 rfl k
theorem pf_10_125 {K : KT} {cc : ByteArray} {nL d pc : Nat} {ret : Option FieldType} {L : List (Option Value)} {st : List Value} {σ : Sg} (C : Cx K layM cc RX10 nL d ret)  {v : Int32}  (hd : decode cc pc = .ok (.putfield 125, 3)) (k : G K (pc + 3) L st (Wd K layM (wI σ 0 15 v))) : G K pc L (.int v :: .ref (kad K 0) :: st) (Wd K layM σ) := g_putI C (o := 0) (ci := 10) (k := 15) hd rfl rfl rfl (by decide) (Or.inl aw_804) inA10 tyX10_ok nmX10 rfl rfl rfl k
theorem pf_10_128 {K : KT} {cc : ByteArray} {nL d pc : Nat} {ret : Option FieldType} {L : List (Option Value)} {st : List Value} {σ : Sg} (C : Cx K layM cc RX10 nL d ret)  {v : Int32}  (hd : decode cc pc = .ok (.putfield 128, 3)) (k : G K (pc + 3) L st (Wd K layM (wI σ 0 20 v))) : G K pc L (.int v :: .ref (kad K 0) :: st) (Wd K layM σ) := g_putI C (o := 0) (ci := 10) (k := 20) hd rfl rfl rfl (by decide) (Or.inl aw_809) inA10 tyX10_ok nmX10 rfl rfl rfl k
theorem gf_10_131 {K : KT} {cc : ByteArray} {nL d pc : Nat} {ret : Option FieldType} {L : List (Option Value)} {st : List Value} {σ : Sg} (C : Cx K layM cc RX10 nL d ret)  (hd : decode cc pc = .ok (.getfield 131, 3)) (k : G K (pc + 3) L (.int (rI σ 0 12) :: st) (Wd K layM σ)) : G K pc L (.ref (kad K 0) :: st) (Wd K layM σ) := g_get C (o := 0) (ci := 10) (k := 12) hd rfl rfl rfl (by decide) (Or.inl aw_801) inA10 rfl k
theorem pf_10_131 {K : KT} {cc : ByteArray} {nL d pc : Nat} {ret : Option FieldType} {L : List (Option Value)} {st : List Value} {σ : Sg} (C : Cx K layM cc RX10 nL d ret)  {v : Int32}  (hd : decode cc pc = .ok (.putfield 131, 3)) (k : G K (pc + 3) L st (Wd K layM (wI σ 0 12 v))) : G K pc L (.int v :: .ref (kad K 0) :: st) (Wd K layM σ) := g_putI C (o := 0) (ci := 10) (k := 12) hd rfl rfl rfl (by decide) (Or.inl aw_801) inA10 tyX10_ok nmX10 rfl rfl rfl k
theorem gf_10_116 {K : KT} {cc : ByteArray} {nL d pc : Nat} {ret : Option FieldType} {L : List (Option Value)} {st : List Value} {σ : Sg} (C : Cx K layM cc RX10 nL d ret)  (hd : decode cc pc = .ok (.getfield 116, 3)) (k : G K (pc + 3) L (.int (rI σ 0 9) :: st) (Wd K layM σ)) : G K pc L (.ref (kad K 0) :: st) (Wd K layM σ) := g_get C (o := 0) (ci := 10) (k := 9) hd rfl rfl rfl (by decide) (Or.inl aw_798) inA10 rfl k
theorem gf_10_119 {K : KT} {cc : ByteArray} {nL d pc : Nat} {ret : Option FieldType} {L : List (Option Value)} {st : List Value} {σ : Sg} (C : Cx K layM cc RX10 nL d ret)  (hd : decode cc pc = .ok (.getfield 119, 3)) (k : G K (pc + 3) L (.int (rI σ 0 10) :: st) (Wd K layM σ)) : G K pc L (.ref (kad K 0) :: st) (Wd K layM σ) := g_get C (o := 0) (ci := 10) (k := 10) hd rfl rfl rfl (by decide) (Or.inl aw_799) inA10 rfl k
def fX10_sea_b68 (x1 : Int32) (σ : Sg) : Option ((Int32 × Sg) ⊕ ((Sg))) :=
  if (30 : Int32) ≤ x1 then (some (.inr σ)) else (if inb x1 30 = true then (if inb x1 30 = true then (if inb x1 30 = true then (if inb x1 30 = true then (some (.inl ((x1 + (1 : Int32)), (wI (wI σ 4 (x1).toNatClampNeg (rI σ 2 (x1).toNatClampNeg)) 5 (x1).toNatClampNeg (rI (wI σ 4 (x1).toNatClampNeg (rI σ 2 (x1).toNatClampNeg)) 3 (x1).toNatClampNeg))))) else none) else none) else none) else none)
def fX10_sea_b0  (σ : Sg) : Option (Int32 × Sg) :=
  Option.bind (fX10_faultOf σ) fun p1 => (if p1.1 < (rI p1.2 0 1) then (some ((-103 : Int32), p1.2)) else (if (rI p1.2 0 2) = 0 then (some ((-103 : Int32), p1.2)) else (if (rI p1.2 0 4) = (rI p1.2 0 3) then (if (rI p1.2 0 5) = (-1 : Int32) then (some ((-103 : Int32), p1.2)) else (Option.bind (lp (fun s => fX10_sea_b68 s.1 s.2) FU ((0 : Int32), (wI (wI (wI p1.2 0 9 ((rI p1.2 0 2) + (1 : Int32))) 0 10 (rI (wI p1.2 0 9 ((rI p1.2 0 2) + (1 : Int32))) 0 3)) 0 11 (rI (wI (wI p1.2 0 9 ((rI p1.2 0 2) + (1 : Int32))) 0 10 (rI (wI p1.2 0 9 ((rI p1.2 0 2) + (1 : Int32))) 0 3)) 0 5)))) fun t7 => some (((rI (wI (wI (wI (wI t7 0 15 (0 : Int32)) 0 20 (0 : Int32)) 0 12 ((rI (wI (wI t7 0 15 (0 : Int32)) 0 20 (0 : Int32)) 0 12) + (1 : Int32))) 0 1 (0 : Int32)) 0 9) * (rI (wI (wI (wI (wI t7 0 15 (0 : Int32)) 0 20 (0 : Int32)) 0 12 ((rI (wI (wI t7 0 15 (0 : Int32)) 0 20 (0 : Int32)) 0 12) + (1 : Int32))) 0 1 (0 : Int32)) 0 10)), (wI (wI (wI (wI t7 0 15 (0 : Int32)) 0 20 (0 : Int32)) 0 12 ((rI (wI (wI t7 0 15 (0 : Int32)) 0 20 (0 : Int32)) 0 12) + (1 : Int32))) 0 1 (0 : Int32))))) else (some ((-103 : Int32), p1.2)))))
set_option maxRecDepth 4000 in
theorem bX10_sea_b68 {K : KT} {x1 : Int32} {σ : Sg} {o : (Int32 × Sg) ⊕ ((Sg))} (C : Cx K layM cX10_sea RX10 2 (4) (some .int))  (hI : ∀ s' : Int32 × Sg, o = .inl s' → G K 68 [some (.ref (kad K 0)), some (.int s'.1)] [] (Wd K layM s'.2)) (hE0 : ∀ t : Sg, o = .inr t → G K 104 [some (.ref (kad K 0)), none] [] (Wd K layM t)) (h : fX10_sea_b68 x1 σ = some o) : G K 68 [some (.ref (kad K 0)), some (.int x1)] [] (Wd K layM σ) := by
  unfold fX10_sea_b68 at h
  refine g_iload_n C.c dX10_sea_68 rfl (i := 1) rfl ?_
  refine g_bipush C.c dX10_sea_69 (v := (30 : Int32)) (by decide) ?_
  refine g_icmp_ge C.c (tgt := 104) dX10_sea_71 (by decide) (fun c => ?_) (fun c => ?_)
  · replace h := ite_t c h
    have g9 := hE0 _ (Option.some.inj h).symm
    exact g_mask [true, false] rfl g9
  · replace h := ite_f c h
    refine g_aload_n C.c dX10_sea_74 rfl (i := 0) rfl ?_
    refine gf_10_19 C dX10_sea_75 ?_
    refine g_iload_n C.c dX10_sea_78 rfl (i := 1) rfl ?_
    refine g_aload_n C.c dX10_sea_79 rfl (i := 0) rfl ?_
    refine gf_10_13 C dX10_sea_80 ?_
    refine g_iload_n C.c dX10_sea_83 rfl (i := 1) rfl ?_
    obtain ⟨c3, h⟩ := chk h
    refine g_iald C dX10_sea_84 rfl c3 ?_
    obtain ⟨c4, h⟩ := chk h
    refine g_iast C dX10_sea_85 rfl c4 ?_
    refine g_aload_n C.c dX10_sea_86 rfl (i := 0) rfl ?_
    refine gf_10_22 C dX10_sea_87 ?_
    refine g_iload_n C.c dX10_sea_90 rfl (i := 1) rfl ?_
    refine g_aload_n C.c dX10_sea_91 rfl (i := 0) rfl ?_
    refine gf_10_16 C dX10_sea_92 ?_
    refine g_iload_n C.c dX10_sea_95 rfl (i := 1) rfl ?_
    obtain ⟨c5, h⟩ := chk h
    refine g_iald C dX10_sea_96 rfl c5 ?_
    obtain ⟨c6, h⟩ := chk h
    refine g_iast C dX10_sea_97 rfl c6 ?_
    refine g_iinc C.c (i := 1) (y := (1 : Int32)) (L' := [some (.ref (kad K 0)), some (.int (x1 + (1 : Int32)))]) dX10_sea_98 rfl (by decide) (Nat.le_of_ble_eq_true rfl) rfl ?_
    refine g_goto C.c (tgt := 68) dX10_sea_101 (by decide) ?_
    have g9 := hI _ (Option.some.inj h).symm
    exact g_mask [true, true] rfl g9
set_option maxRecDepth 4000 in
theorem bX10_sea_b0 {K : KT}  {σ : Sg} {o : Int32 × Sg} (C : Cx K layM cX10_sea RX10 2 (4) (some .int))  (hQ : Rk K layM (okI o)) (h : fX10_sea_b0  σ = some o) : G K 0 [some (.ref (kad K 0)), none] [] (Wd K layM σ) := by
  unfold fX10_sea_b0 at h
  refine g_aload_n C.c dX10_sea_0 rfl (i := 0) rfl ?_
  obtain ⟨p1, e2, h⟩ := Option.bind_eq_some_iff.mp h
  refine kc_10_113 C dX10_sea_1 e2 (Nat.le_of_ble_eq_true rfl) rfl (Nat.le_of_ble_eq_true rfl) ?_
  refine g_aload_n C.c dX10_sea_4 rfl (i := 0) rfl ?_
  refine gf_10_74 C dX10_sea_5 ?_
  refine g_icmp_lt C.c (tgt := 37) dX10_sea_8 (by decide) (fun c => ?_) (fun c => ?_)
  · replace h := ite_t c h
    refine g_bipush C.c dX10_sea_37 (v := (-103 : Int32)) (by decide) ?_
    obtain rfl := Option.some.inj h
    exact g_iret C hQ dX10_sea_39 rfl ⟨rfl, rfl⟩
  · replace h := ite_f c h
    refine g_aload_n C.c dX10_sea_11 rfl (i := 0) rfl ?_
    refine gf_10_92 C dX10_sea_12 ?_
    refine g_if_eq C.c (tgt := 37) dX10_sea_15 (by decide) (fun c => ?_) (fun c => ?_)
    · replace h := ite_t c h
      refine g_bipush C.c dX10_sea_37 (v := (-103 : Int32)) (by decide) ?_
      obtain rfl := Option.some.inj h
      exact g_iret C hQ dX10_sea_39 rfl ⟨rfl, rfl⟩
    · replace h := ite_f c h
      refine g_aload_n C.c dX10_sea_18 rfl (i := 0) rfl ?_
      refine gf_10_89 C dX10_sea_19 ?_
      refine g_aload_n C.c dX10_sea_22 rfl (i := 0) rfl ?_
      refine gf_10_95 C dX10_sea_23 ?_
      refine g_icmp_ne C.c (tgt := 37) dX10_sea_26 (by decide) (fun c => ?_) (fun c => ?_)
      · replace h := ite_f c h
        refine g_bipush C.c dX10_sea_37 (v := (-103 : Int32)) (by decide) ?_
        obtain rfl := Option.some.inj h
        exact g_iret C hQ dX10_sea_39 rfl ⟨rfl, rfl⟩
      · replace h := ite_t c h
        refine g_aload_n C.c dX10_sea_29 rfl (i := 0) rfl ?_
        refine gf_10_106 C dX10_sea_30 ?_
        refine g_iconst C.c dX10_sea_33 (v := (-1 : Int32)) (by decide) ?_
        refine g_icmp_ne C.c (tgt := 40) dX10_sea_34 (by decide) (fun c => ?_) (fun c => ?_)
        · replace h := ite_f c h
          refine g_aload_n C.c dX10_sea_40 rfl (i := 0) rfl ?_
          refine g_aload_n C.c dX10_sea_41 rfl (i := 0) rfl ?_
          refine gf_10_92 C dX10_sea_42 ?_
          refine g_iconst C.c dX10_sea_45 (v := (1 : Int32)) (by decide) ?_
          refine g_iadd C.c dX10_sea_46 ?_
          refine pf_10_116 C dX10_sea_47 ?_
          refine g_aload_n C.c dX10_sea_50 rfl (i := 0) rfl ?_
          refine g_aload_n C.c dX10_sea_51 rfl (i := 0) rfl ?_
          refine gf_10_95 C dX10_sea_52 ?_
          refine pf_10_119 C dX10_sea_55 ?_
          refine g_aload_n C.c dX10_sea_58 rfl (i := 0) rfl ?_
          refine g_aload_n C.c dX10_sea_59 rfl (i := 0) rfl ?_
          refine gf_10_106 C dX10_sea_60 ?_
          refine pf_10_122 C dX10_sea_63 ?_
          refine g_iconst C.c dX10_sea_66 (v := (0 : Int32)) (by decide) ?_
          refine g_istore_n C.c (i := 1) (L' := [some (.ref (kad K 0)), some (.int (0 : Int32))]) dX10_sea_67 rfl (Nat.le_of_ble_eq_true rfl) rfl ?_
          refine g_mask [true, true] rfl ?_
          refine lp_bind (Gh := fun s => G K 68 [some (.ref (kad K 0)), some (.int s.1)] [] (Wd K layM s.2)) h (fun s o2 hf gI gE => ?_)
          refine bX10_sea_b68 C gI (fun t7 e => ?_) hf
          · have h := gE _ e
            refine g_aload_n C.c dX10_sea_104 rfl (i := 0) rfl ?_
            refine g_iconst C.c dX10_sea_105 (v := (0 : Int32)) (by decide) ?_
            refine pf_10_125 C dX10_sea_106 ?_
            refine g_aload_n C.c dX10_sea_109 rfl (i := 0) rfl ?_
            refine g_iconst C.c dX10_sea_110 (v := (0 : Int32)) (by decide) ?_
            refine pf_10_128 C dX10_sea_111 ?_
            refine g_aload_n C.c dX10_sea_114 rfl (i := 0) rfl ?_
            refine g_dup C.c dX10_sea_115 rfl ?_
            refine gf_10_131 C dX10_sea_116 ?_
            refine g_iconst C.c dX10_sea_119 (v := (1 : Int32)) (by decide) ?_
            refine g_iadd C.c dX10_sea_120 ?_
            refine pf_10_131 C dX10_sea_121 ?_
            refine g_aload_n C.c dX10_sea_124 rfl (i := 0) rfl ?_
            refine g_iconst C.c dX10_sea_125 (v := (0 : Int32)) (by decide) ?_
            refine pf_10_74 C dX10_sea_126 ?_
            refine g_aload_n C.c dX10_sea_129 rfl (i := 0) rfl ?_
            refine gf_10_116 C dX10_sea_130 ?_
            refine g_aload_n C.c dX10_sea_133 rfl (i := 0) rfl ?_
            refine gf_10_119 C dX10_sea_134 ?_
            refine g_imul C.c dX10_sea_137 ?_
            obtain rfl := Option.some.inj h
            exact g_iret C hQ dX10_sea_138 rfl ⟨rfl, rfl⟩
        · replace h := ite_t c h
          refine g_bipush C.c dX10_sea_37 (v := (-103 : Int32)) (by decide) ?_
          obtain rfl := Option.some.inj h
          exact g_iret C hQ dX10_sea_39 rfl ⟨rfl, rfl⟩
def fX10_sea (σ : Sg) : Option (Int32 × Sg) := fX10_sea_b0 σ
theorem ct_X10_sea {σ : Sg} {p : Int32 × Sg} (h : fX10_sea σ = some p) : Ct layM yX10_sea cX10_sea 2 (some .int) 4 (fun ad => [.ref (ad 0)]) σ (okI p) :=
 ct_of (L0 := fun ad => [some (.ref (ad 0)), none]) (by decide) (fun _ => Nat.le_of_ble_eq_true rfl) (fun _ => rfl) (fun K C hQ => g_mask [true, false] rfl (bX10_sea_b0 C hQ h))
-- X10_lacks
theorem dX10_lacks_0 : decode cX10_lacks 0 = .ok (.aload_n 0, 1) := by decide +kernel
theorem dX10_lacks_1 : decode cX10_lacks 1 = .ok (.getfield 116, 3) := by decide +kernel
theorem dX10_lacks_4 : decode cX10_lacks 4 = .ok (.ifCond .ne 7, 3) := by decide +kernel
theorem dX10_lacks_7 : decode cX10_lacks 7 = .ok (.iconst 1, 1) := by decide +kernel
theorem dX10_lacks_8 : decode cX10_lacks 8 = .ok (.goto 4, 3) := by decide +kernel
theorem dX10_lacks_11 : decode cX10_lacks 11 = .ok (.iconst 0, 1) := by decide +kernel
theorem dX10_lacks_12 : decode cX10_lacks 12 = .ok (.ireturn, 1) := by decide +kernel
theorem cw_X10_lacks : Cw yX10_lacks cX10_lacks 1 (some .boolean) 0 := ⟨aw_1113, aw_56, ⟨by decide, by decide⟩, by decide +kernel, by decide⟩
def fX10_lacks_b0  (σ : Sg) : Option (Int32 × Sg) :=
  if (rI σ 0 9) = 0 then (some ((1 : Int32), σ)) else (some ((0 : Int32), σ))
set_option maxRecDepth 4000 in
theorem bX10_lacks_b0 {K : KT}  {σ : Sg} {o : Int32 × Sg} (C : Cx K layM cX10_lacks RX10 1 (1) (some .boolean))  (hQ : Rk K layM (okI o)) (h : fX10_lacks_b0  σ = some o) : G K 0 [some (.ref (kad K 0))] [] (Wd K layM σ) := by
  unfold fX10_lacks_b0 at h
  refine g_aload_n C.c dX10_lacks_0 rfl (i := 0) rfl ?_
  refine gf_10_116 C dX10_lacks_1 ?_
  refine g_if_ne C.c (tgt := 11) dX10_lacks_4 (by decide) (fun c => ?_) (fun c => ?_)
  · replace h := ite_f c h
    refine g_iconst C.c dX10_lacks_11 (v := (0 : Int32)) (by decide) ?_
    obtain rfl := Option.some.inj h
    exact g_iret C hQ dX10_lacks_12 rfl ⟨rfl, rfl⟩
  · replace h := ite_t c h
    refine g_iconst C.c dX10_lacks_7 (v := (1 : Int32)) (by decide) ?_
    refine g_goto C.c (tgt := 12) dX10_lacks_8 (by decide) ?_
    obtain rfl := Option.some.inj h
    exact g_iret C hQ dX10_lacks_12 rfl ⟨rfl, rfl⟩
def fX10_lacks (σ : Sg) : Option (Int32 × Sg) := fX10_lacks_b0 σ
theorem ct_X10_lacks {σ : Sg} {p : Int32 × Sg} (h : fX10_lacks σ = some p) : Ct layM yX10_lacks cX10_lacks 1 (some .boolean) 1 (fun ad => [.ref (ad 0)]) σ (okI p) :=
 ct_of (L0 := fun ad => [some (.ref (ad 0))]) (by decide) (fun _ => Nat.le_of_ble_eq_true rfl) (fun _ => rfl) (fun K C hQ => g_mask [true] rfl (bX10_lacks_b0 C hQ h))
-- X10_isSquare
theorem dX10_isSquare_0 : decode cX10_isSquare 0 = .ok (.iload_n 1, 1) := by decide +kernel
theorem dX10_isSquare_1 : decode cX10_isSquare 1 = .ok (.i2l, 1) := by decide +kernel
theorem dX10_isSquare_2 : decode cX10_isSquare 2 = .ok (.lconst 0, 1) := by decide +kernel
theorem dX10_isSquare_3 : decode cX10_isSquare 3 = .ok (.aload_n 0, 1) := by decide +kernel
theorem dX10_isSquare_4 : decode cX10_isSquare 4 = .ok (.getfield 116, 3) := by decide +kernel
theorem dX10_isSquare_7 : decode cX10_isSquare 7 = .ok (.aload_n 0, 1) := by decide +kernel
theorem dX10_isSquare_8 : decode cX10_isSquare 8 = .ok (.getfield 119, 3) := by decide +kernel
theorem dX10_isSquare_11 : decode cX10_isSquare 11 = .ok (.imul, 1) := by decide +kernel
theorem dX10_isSquare_12 : decode cX10_isSquare 12 = .ok (.iconst 1, 1) := by decide +kernel
theorem dX10_isSquare_13 : decode cX10_isSquare 13 = .ok (.isub, 1) := by decide +kernel
theorem dX10_isSquare_14 : decode cX10_isSquare 14 = .ok (.i2l, 1) := by decide +kernel
theorem dX10_isSquare_15 : decode cX10_isSquare 15 = .ok (.invokestatic 102, 3) := by decide +kernel
theorem dX10_isSquare_18 : decode cX10_isSquare 18 = .ok (.ireturn, 1) := by decide +kernel
theorem cw_X10_isSquare : Cw yX10_isSquare cX10_isSquare 2 (some .boolean) 1 := ⟨aw_990, aw_56, ⟨by decide, by decide⟩, by decide +kernel, by decide⟩
def fX10_isSquare_b0 (x1 : Int32) (σ : Sg) : Option (Int32 × Sg) :=
  Option.bind (fX10_in ((x1).toInt64) (0 : Int64) (((((rI σ 0 9) * (rI σ 0 10)) - (1 : Int32))).toInt64) σ) fun p1 => (if isB p1.1 = true then (some (p1.1, p1.2)) else none)
set_option maxRecDepth 4000 in
theorem bX10_isSquare_b0 {K : KT} {x1 : Int32} {σ : Sg} {o : Int32 × Sg} (C : Cx K layM cX10_isSquare RX10 2 (2) (some .boolean))  (hQ : Rk K layM (okI o)) (h : fX10_isSquare_b0 x1 σ = some o) : G K 0 [some (.ref (kad K 0)), some (.int x1)] [] (Wd K layM σ) := by
  unfold fX10_isSquare_b0 at h
  refine g_iload_n C.c dX10_isSquare_0 rfl (i := 1) rfl ?_
  refine g_i2l C.c dX10_isSquare_1 ?_
  refine g_lconst C.c dX10_isSquare_2 (v := (0 : Int64)) (by decide) ?_
  refine g_aload_n C.c dX10_isSquare_3 rfl (i := 0) rfl ?_
  refine gf_10_116 C dX10_isSquare_4 ?_
  refine g_aload_n C.c dX10_isSquare_7 rfl (i := 0) rfl ?_
  refine gf_10_119 C dX10_isSquare_8 ?_
  refine g_imul C.c dX10_isSquare_11 ?_
  refine g_iconst C.c dX10_isSquare_12 (v := (1 : Int32)) (by decide) ?_
  refine g_isub C.c dX10_isSquare_13 ?_
  refine g_i2l C.c dX10_isSquare_14 ?_
  obtain ⟨p1, e2, h⟩ := Option.bind_eq_some_iff.mp h
  refine kc_10_102 C dX10_isSquare_15 e2 (Nat.le_of_ble_eq_true rfl) rfl (Nat.le_of_ble_eq_true rfl) ?_
  obtain ⟨c3, h⟩ := chk h
  obtain rfl := Option.some.inj h
  exact g_iret C hQ dX10_isSquare_18 (isB_n c3) ⟨rfl, rfl⟩
def fX10_isSquare (a0 : Int32) (σ : Sg) : Option (Int32 × Sg) := fX10_isSquare_b0 a0 σ
theorem ct_X10_isSquare {a0 : Int32} {σ : Sg} {p : Int32 × Sg} (h : fX10_isSquare a0 σ = some p) : Ct layM yX10_isSquare cX10_isSquare 2 (some .boolean) 2 (fun ad => [.ref (ad 0), .int a0]) σ (okI p) :=
 ct_of (L0 := fun ad => [some (.ref (ad 0)), some (.int a0)]) (by decide) (fun _ => Nat.le_of_ble_eq_true rfl) (fun _ => rfl) (fun K C hQ => g_mask [true, true] rfl (bX10_isSquare_b0 C hQ h))
-- X10_size
theorem dX10_size_0 : decode cX10_size 0 = .ok (.iload_n 0, 1) := by decide +kernel
theorem dX10_size_1 : decode cX10_size 1 = .ok (.ifCond .ge 8, 3) := by decide +kernel
theorem dX10_size_4 : decode cX10_size 4 = .ok (.iload_n 0, 1) := by decide +kernel
theorem dX10_size_5 : decode cX10_size 5 = .ok (.ineg, 1) := by decide +kernel
theorem dX10_size_6 : decode cX10_size 6 = .ok (.goto 4, 3) := by decide +kernel
theorem dX10_size_9 : decode cX10_size 9 = .ok (.iload_n 0, 1) := by decide +kernel
theorem dX10_size_10 : decode cX10_size 10 = .ok (.ireturn, 1) := by decide +kernel
theorem cw_X10_size : Cw yX10_size cX10_size 1 (some .int) 1 := ⟨aw_1001, aw_56, ⟨by decide, by decide⟩, by decide +kernel, by decide⟩
def fX10_size_b0 (x0 : Int32) (σ : Sg) : Option (Int32 × Sg) :=
  if 0 ≤ x0 then (some (x0, σ)) else (some ((-x0), σ))
set_option maxRecDepth 4000 in
theorem bX10_size_b0 {K : KT} {x0 : Int32} {σ : Sg} {o : Int32 × Sg} (C : Cx K layM cX10_size RX10 1 (1) (some .int))  (hQ : Rk K layM (okI o)) (h : fX10_size_b0 x0 σ = some o) : G K 0 [some (.int x0)] [] (Wd K layM σ) := by
  unfold fX10_size_b0 at h
  refine g_iload_n C.c dX10_size_0 rfl (i := 0) rfl ?_
  refine g_if_ge C.c (tgt := 9) dX10_size_1 (by decide) (fun c => ?_) (fun c => ?_)
  · replace h := ite_t c h
    refine g_iload_n C.c dX10_size_9 rfl (i := 0) rfl ?_
    obtain rfl := Option.some.inj h
    exact g_iret C hQ dX10_size_10 rfl ⟨rfl, rfl⟩
  · replace h := ite_f c h
    refine g_iload_n C.c dX10_size_4 rfl (i := 0) rfl ?_
    refine g_ineg C.c dX10_size_5 ?_
    refine g_goto C.c (tgt := 10) dX10_size_6 (by decide) ?_
    obtain rfl := Option.some.inj h
    exact g_iret C hQ dX10_size_10 rfl ⟨rfl, rfl⟩
def fX10_size (a0 : Int32) (σ : Sg) : Option (Int32 × Sg) := fX10_size_b0 a0 σ
theorem ct_X10_size {a0 : Int32} {σ : Sg} {p : Int32 × Sg} (h : fX10_size a0 σ = some p) : Ct layM yX10_size cX10_size 1 (some .int) 1 (fun ad => [.int a0]) σ (okI p) :=
 ct_of (L0 := fun ad => [some (.int a0)]) (by decide) (fun _ => Nat.le_of_ble_eq_true rfl) (fun _ => rfl) (fun K C hQ => g_mask [true] rfl (bX10_size_b0 C hQ h))
-- X10_farOf
theorem dX10_farOf_0 : decode cX10_farOf 0 = .ok (.iload_n 1, 1) := by decide +kernel
theorem dX10_farOf_1 : decode cX10_farOf 1 = .ok (.aload_n 0, 1) := by decide +kernel
theorem dX10_farOf_2 : decode cX10_farOf 2 = .ok (.getfield 119, 3) := by decide +kernel
theorem dX10_farOf_5 : decode cX10_farOf 5 = .ok (.idiv, 1) := by decide +kernel
theorem dX10_farOf_6 : decode cX10_farOf 6 = .ok (.aload_n 0, 1) := by decide +kernel
theorem dX10_farOf_7 : decode cX10_farOf 7 = .ok (.getfield 122, 3) := by decide +kernel
theorem dX10_farOf_10 : decode cX10_farOf 10 = .ok (.aload_n 0, 1) := by decide +kernel
theorem dX10_farOf_11 : decode cX10_farOf 11 = .ok (.getfield 119, 3) := by decide +kernel
theorem dX10_farOf_14 : decode cX10_farOf 14 = .ok (.idiv, 1) := by decide +kernel
theorem dX10_farOf_15 : decode cX10_farOf 15 = .ok (.isub, 1) := by decide +kernel
theorem dX10_farOf_16 : decode cX10_farOf 16 = .ok (.invokestatic 134, 3) := by decide +kernel
theorem dX10_farOf_19 : decode cX10_farOf 19 = .ok (.iload_n 1, 1) := by decide +kernel
theorem dX10_farOf_20 : decode cX10_farOf 20 = .ok (.aload_n 0, 1) := by decide +kernel
theorem dX10_farOf_21 : decode cX10_farOf 21 = .ok (.getfield 119, 3) := by decide +kernel
theorem dX10_farOf_24 : decode cX10_farOf 24 = .ok (.irem, 1) := by decide +kernel
theorem dX10_farOf_25 : decode cX10_farOf 25 = .ok (.aload_n 0, 1) := by decide +kernel
theorem dX10_farOf_26 : decode cX10_farOf 26 = .ok (.getfield 122, 3) := by decide +kernel
theorem dX10_farOf_29 : decode cX10_farOf 29 = .ok (.aload_n 0, 1) := by decide +kernel
theorem dX10_farOf_30 : decode cX10_farOf 30 = .ok (.getfield 119, 3) := by decide +kernel
theorem dX10_farOf_33 : decode cX10_farOf 33 = .ok (.irem, 1) := by decide +kernel
theorem dX10_farOf_34 : decode cX10_farOf 34 = .ok (.isub, 1) := by decide +kernel
theorem dX10_farOf_35 : decode cX10_farOf 35 = .ok (.invokestatic 134, 3) := by decide +kernel
theorem dX10_farOf_38 : decode cX10_farOf 38 = .ok (.iadd, 1) := by decide +kernel
theorem dX10_farOf_39 : decode cX10_farOf 39 = .ok (.ireturn, 1) := by decide +kernel
theorem cw_X10_farOf : Cw yX10_farOf cX10_farOf 2 (some .int) 1 := ⟨aw_998, aw_56, ⟨by decide, by decide⟩, by decide +kernel, by decide⟩
theorem gf_10_122 {K : KT} {cc : ByteArray} {nL d pc : Nat} {ret : Option FieldType} {L : List (Option Value)} {st : List Value} {σ : Sg} (C : Cx K layM cc RX10 nL d ret)  (hd : decode cc pc = .ok (.getfield 122, 3)) (k : G K (pc + 3) L (.int (rI σ 0 11) :: st) (Wd K layM σ)) : G K pc L (.ref (kad K 0) :: st) (Wd K layM σ) := g_get C (o := 0) (ci := 10) (k := 11) hd rfl rfl rfl (by decide) (Or.inl aw_800) inA10 rfl k
theorem kc_10_134 {K : KT} {cc : ByteArray} {nL d pc : Nat} {ret : Option FieldType} {L : List (Option Value)} {st : List Value} {σ : Sg} (C : Cx K layM cc RX10 nL d ret)  {a0 : Int32}  {p : Int32 × Sg} (hd : decode cc pc = .ok (.invokestatic 134, 3)) (e : fX10_size a0 σ = some p) (hdd : 1 + 1 ≤ d) (hLn : L.length = nL) (hr : (st.map fun v => v.category).sum ≤ 8) (k : G K (pc + 3) L (.int p.1 :: st) (Wd K layM p.2)) : G K pc L (.int a0 :: st) (Wd K layM σ) :=
  g_callS C (As := [.int a0]) (rest := st) hd (ct_X10_size e) cw_X10_size (Or.inl aw_999) aw_1000 rfl rfl rfl hdd hLn hr (fun v τ q => by obtain ⟨rfl, rfl⟩ := q; exact k)
def fX10_farOf_b0 (x1 : Int32) (σ : Sg) : Option (Int32 × Sg) :=
  if (rI σ 0 10) = 0 then none else if (rI σ 0 10) = 0 then none else Option.bind (fX10_size ((x1 / (rI σ 0 10)) - ((rI σ 0 11) / (rI σ 0 10))) σ) fun p3 => (if (rI p3.2 0 10) = 0 then none else if (rI p3.2 0 10) = 0 then none else Option.bind (fX10_size ((x1 - x1 / (rI p3.2 0 10) * (rI p3.2 0 10)) - ((rI p3.2 0 11) - (rI p3.2 0 11) / (rI p3.2 0 10) * (rI p3.2 0 10))) p3.2) fun p7 => (some ((p3.1 + p7.1), p7.2)))
set_option maxRecDepth 4000 in
theorem bX10_farOf_b0 {K : KT} {x1 : Int32} {σ : Sg} {o : Int32 × Sg} (C : Cx K layM cX10_farOf RX10 2 (2) (some .int))  (hQ : Rk K layM (okI o)) (h : fX10_farOf_b0 x1 σ = some o) : G K 0 [some (.ref (kad K 0)), some (.int x1)] [] (Wd K layM σ) := by
  unfold fX10_farOf_b0 at h
  refine g_iload_n C.c dX10_farOf_0 rfl (i := 1) rfl ?_
  refine g_aload_n C.c dX10_farOf_1 rfl (i := 0) rfl ?_
  refine gf_10_119 C dX10_farOf_2 ?_
  obtain ⟨c1, h⟩ := chk0 h
  refine g_idiv C.c dX10_farOf_5 c1 ?_
  refine g_aload_n C.c dX10_farOf_6 rfl (i := 0) rfl ?_
  refine gf_10_122 C dX10_farOf_7 ?_
  refine g_aload_n C.c dX10_farOf_10 rfl (i := 0) rfl ?_
  refine gf_10_119 C dX10_farOf_11 ?_
  obtain ⟨c2, h⟩ := chk0 h
  refine g_idiv C.c dX10_farOf_14 c2 ?_
  refine g_isub C.c dX10_farOf_15 ?_
  obtain ⟨p3, e4, h⟩ := Option.bind_eq_some_iff.mp h
  refine kc_10_134 C dX10_farOf_16 e4 (Nat.le_of_ble_eq_true rfl) rfl (Nat.le_of_ble_eq_true rfl) ?_
  refine g_iload_n C.c dX10_farOf_19 rfl (i := 1) rfl ?_
  refine g_aload_n C.c dX10_farOf_20 rfl (i := 0) rfl ?_
  refine gf_10_119 C dX10_farOf_21 ?_
  obtain ⟨c5, h⟩ := chk0 h
  refine g_irem C.c dX10_farOf_24 c5 ?_
  refine g_aload_n C.c dX10_farOf_25 rfl (i := 0) rfl ?_
  refine gf_10_122 C dX10_farOf_26 ?_
  refine g_aload_n C.c dX10_farOf_29 rfl (i := 0) rfl ?_
  refine gf_10_119 C dX10_farOf_30 ?_
  obtain ⟨c6, h⟩ := chk0 h
  refine g_irem C.c dX10_farOf_33 c6 ?_
  refine g_isub C.c dX10_farOf_34 ?_
  obtain ⟨p7, e8, h⟩ := Option.bind_eq_some_iff.mp h
  refine kc_10_134 C dX10_farOf_35 e8 (Nat.le_of_ble_eq_true rfl) rfl (Nat.le_of_ble_eq_true rfl) ?_
  refine g_iadd C.c dX10_farOf_38 ?_
  obtain rfl := Option.some.inj h
  exact g_iret C hQ dX10_farOf_39 rfl ⟨rfl, rfl⟩
def fX10_farOf (a0 : Int32) (σ : Sg) : Option (Int32 × Sg) := fX10_farOf_b0 a0 σ
theorem ct_X10_farOf {a0 : Int32} {σ : Sg} {p : Int32 × Sg} (h : fX10_farOf a0 σ = some p) : Ct layM yX10_farOf cX10_farOf 2 (some .int) 2 (fun ad => [.ref (ad 0), .int a0]) σ (okI p) :=
 ct_of (L0 := fun ad => [some (.ref (ad 0)), some (.int a0)]) (by decide) (fun _ => Nat.le_of_ble_eq_true rfl) (fun _ => rfl) (fun K C hQ => g_mask [true, true] rfl (bX10_farOf_b0 C hQ h))
-- X10_tellSquare
theorem dX10_tellSquare_0 : decode cX10_tellSquare 0 = .ok (.iload_n 2, 1) := by decide +kernel
theorem dX10_tellSquare_1 : decode cX10_tellSquare 1 = .ok (.ifCond .ne 12, 3) := by decide +kernel
theorem dX10_tellSquare_4 : decode cX10_tellSquare 4 = .ok (.aload_n 0, 1) := by decide +kernel
theorem dX10_tellSquare_5 : decode cX10_tellSquare 5 = .ok (.getfield 19, 3) := by decide +kernel
theorem dX10_tellSquare_8 : decode cX10_tellSquare 8 = .ok (.iload_n 1, 1) := by decide +kernel
theorem dX10_tellSquare_9 : decode cX10_tellSquare 9 = .ok (.iaload, 1) := by decide +kernel
theorem dX10_tellSquare_10 : decode cX10_tellSquare 10 = .ok (.goto 32, 3) := by decide +kernel
theorem dX10_tellSquare_13 : decode cX10_tellSquare 13 = .ok (.iload_n 2, 1) := by decide +kernel
theorem dX10_tellSquare_14 : decode cX10_tellSquare 14 = .ok (.iconst 1, 1) := by decide +kernel
theorem dX10_tellSquare_15 : decode cX10_tellSquare 15 = .ok (.if_icmp .ne 12, 3) := by decide +kernel
theorem dX10_tellSquare_18 : decode cX10_tellSquare 18 = .ok (.aload_n 0, 1) := by decide +kernel
theorem dX10_tellSquare_19 : decode cX10_tellSquare 19 = .ok (.getfield 22, 3) := by decide +kernel
theorem dX10_tellSquare_22 : decode cX10_tellSquare 22 = .ok (.iload_n 1, 1) := by decide +kernel
theorem dX10_tellSquare_23 : decode cX10_tellSquare 23 = .ok (.iaload, 1) := by decide +kernel
theorem dX10_tellSquare_24 : decode cX10_tellSquare 24 = .ok (.goto 18, 3) := by decide +kernel
theorem dX10_tellSquare_27 : decode cX10_tellSquare 27 = .ok (.iload_n 2, 1) := by decide +kernel
theorem dX10_tellSquare_28 : decode cX10_tellSquare 28 = .ok (.iconst 2, 1) := by decide +kernel
theorem dX10_tellSquare_29 : decode cX10_tellSquare 29 = .ok (.if_icmp .ne 11, 3) := by decide +kernel
theorem dX10_tellSquare_32 : decode cX10_tellSquare 32 = .ok (.aload_n 0, 1) := by decide +kernel
theorem dX10_tellSquare_33 : decode cX10_tellSquare 33 = .ok (.iload_n 1, 1) := by decide +kernel
theorem dX10_tellSquare_34 : decode cX10_tellSquare 34 = .ok (.invokevirtual 137, 3) := by decide +kernel
theorem dX10_tellSquare_37 : decode cX10_tellSquare 37 = .ok (.goto 5, 3) := by decide +kernel
theorem dX10_tellSquare_40 : decode cX10_tellSquare 40 = .ok (.bipush (-102), 2) := by decide +kernel
theorem dX10_tellSquare_42 : decode cX10_tellSquare 42 = .ok (.ireturn, 1) := by decide +kernel
theorem cw_X10_tellSquare : Cw yX10_tellSquare cX10_tellSquare 3 (some .int) 2 := ⟨aw_994, aw_56, ⟨by decide, by decide⟩, by decide +kernel, by decide⟩
theorem kc_10_137 {K : KT} {cc : ByteArray} {nL d pc : Nat} {ret : Option FieldType} {L : List (Option Value)} {st : List Value} {σ : Sg} (C : Cx K layM cc RX10 nL d ret)  {a0 : Int32}  {p : Int32 × Sg} (hd : decode cc pc = .ok (.invokevirtual 137, 3)) (e : fX10_farOf a0 σ = some p) (hdd : 2 + 1 ≤ d) (hLn : L.length = nL) (hr : (st.map fun v => v.category).sum ≤ 8) (k : G K (pc + 3) L (.int p.1 :: st) (Wd K layM p.2)) : G K pc L (.int a0 :: .ref (kad K 0) :: st) (Wd K layM σ) :=
  g_callV C (As := [.int a0]) (rest := st) (o := 0) (ci := 10) hd (ct_X10_farOf e) cw_X10_farOf (Or.inl aw_995) aw_997 aw_26 rfl rfl rfl hdd hLn rfl rfl hr (fun v τ q => by obtain ⟨rfl, rfl⟩ := q; exact k)
def fX10_tellSquare_b0 (x1 : Int32) (x2 : Int32) (σ : Sg) : Option (Int32 × Sg) :=
  if x2 = 0 then (if inb x1 30 = true then (some ((rI σ 4 (x1).toNatClampNeg), σ)) else none) else (if x2 = (1 : Int32) then (if inb x1 30 = true then (some ((rI σ 5 (x1).toNatClampNeg), σ)) else none) else (if x2 = (2 : Int32) then (Option.bind (fX10_farOf x1 σ) fun p1 => (some (p1.1, p1.2))) else (some ((-102 : Int32), σ))))
set_option maxRecDepth 4000 in
theorem bX10_tellSquare_b0 {K : KT} {x1 : Int32} {x2 : Int32} {σ : Sg} {o : Int32 × Sg} (C : Cx K layM cX10_tellSquare RX10 3 (3) (some .int))  (hQ : Rk K layM (okI o)) (h : fX10_tellSquare_b0 x1 x2 σ = some o) : G K 0 [some (.ref (kad K 0)), some (.int x1), some (.int x2)] [] (Wd K layM σ) := by
  unfold fX10_tellSquare_b0 at h
  refine g_iload_n C.c dX10_tellSquare_0 rfl (i := 2) rfl ?_
  refine g_if_ne C.c (tgt := 13) dX10_tellSquare_1 (by decide) (fun c => ?_) (fun c => ?_)
  · replace h := ite_f c h
    refine g_iload_n C.c dX10_tellSquare_13 rfl (i := 2) rfl ?_
    refine g_iconst C.c dX10_tellSquare_14 (v := (1 : Int32)) (by decide) ?_
    refine g_icmp_ne C.c (tgt := 27) dX10_tellSquare_15 (by decide) (fun c => ?_) (fun c => ?_)
    · replace h := ite_f c h
      refine g_iload_n C.c dX10_tellSquare_27 rfl (i := 2) rfl ?_
      refine g_iconst C.c dX10_tellSquare_28 (v := (2 : Int32)) (by decide) ?_
      refine g_icmp_ne C.c (tgt := 40) dX10_tellSquare_29 (by decide) (fun c => ?_) (fun c => ?_)
      · replace h := ite_f c h
        refine g_bipush C.c dX10_tellSquare_40 (v := (-102 : Int32)) (by decide) ?_
        obtain rfl := Option.some.inj h
        exact g_iret C hQ dX10_tellSquare_42 rfl ⟨rfl, rfl⟩
      · replace h := ite_t c h
        refine g_aload_n C.c dX10_tellSquare_32 rfl (i := 0) rfl ?_
        refine g_iload_n C.c dX10_tellSquare_33 rfl (i := 1) rfl ?_
        obtain ⟨p1, e2, h⟩ := Option.bind_eq_some_iff.mp h
        refine kc_10_137 C dX10_tellSquare_34 e2 (Nat.le_of_ble_eq_true rfl) rfl (Nat.le_of_ble_eq_true rfl) ?_
        refine g_goto C.c (tgt := 42) dX10_tellSquare_37 (by decide) ?_
        obtain rfl := Option.some.inj h
        exact g_iret C hQ dX10_tellSquare_42 rfl ⟨rfl, rfl⟩
    · replace h := ite_t c h
      refine g_aload_n C.c dX10_tellSquare_18 rfl (i := 0) rfl ?_
      refine gf_10_22 C dX10_tellSquare_19 ?_
      refine g_iload_n C.c dX10_tellSquare_22 rfl (i := 1) rfl ?_
      obtain ⟨c3, h⟩ := chk h
      refine g_iald C dX10_tellSquare_23 rfl c3 ?_
      refine g_goto C.c (tgt := 42) dX10_tellSquare_24 (by decide) ?_
      obtain rfl := Option.some.inj h
      exact g_iret C hQ dX10_tellSquare_42 rfl ⟨rfl, rfl⟩
  · replace h := ite_t c h
    refine g_aload_n C.c dX10_tellSquare_4 rfl (i := 0) rfl ?_
    refine gf_10_19 C dX10_tellSquare_5 ?_
    refine g_iload_n C.c dX10_tellSquare_8 rfl (i := 1) rfl ?_
    obtain ⟨c4, h⟩ := chk h
    refine g_iald C dX10_tellSquare_9 rfl c4 ?_
    refine g_goto C.c (tgt := 42) dX10_tellSquare_10 (by decide) ?_
    obtain rfl := Option.some.inj h
    exact g_iret C hQ dX10_tellSquare_42 rfl ⟨rfl, rfl⟩
def fX10_tellSquare (a0 : Int32) (a1 : Int32) (σ : Sg) : Option (Int32 × Sg) := fX10_tellSquare_b0 a0 a1 σ
theorem ct_X10_tellSquare {a0 : Int32} {a1 : Int32} {σ : Sg} {p : Int32 × Sg} (h : fX10_tellSquare a0 a1 σ = some p) : Ct layM yX10_tellSquare cX10_tellSquare 3 (some .int) 3 (fun ad => [.ref (ad 0), .int a0, .int a1]) σ (okI p) :=
 ct_of (L0 := fun ad => [some (.ref (ad 0)), some (.int a0), some (.int a1)]) (by decide) (fun _ => Nat.le_of_ble_eq_true rfl) (fun _ => rfl) (fun K C hQ => g_mask [true, true, true] rfl (bX10_tellSquare_b0 C hQ h))
-- X10_square
theorem dX10_square_0 : decode cX10_square 0 = .ok (.aload_n 0, 1) := by decide +kernel
theorem dX10_square_1 : decode cX10_square 1 = .ok (.iload_n 1, 1) := by decide +kernel
theorem dX10_square_2 : decode cX10_square 2 = .ok (.invokevirtual 140, 3) := by decide +kernel
theorem dX10_square_5 : decode cX10_square 5 = .ok (.ifCond .eq 12, 3) := by decide +kernel
theorem dX10_square_8 : decode cX10_square 8 = .ok (.aload_n 0, 1) := by decide +kernel
theorem dX10_square_9 : decode cX10_square 9 = .ok (.iload_n 1, 1) := by decide +kernel
theorem dX10_square_10 : decode cX10_square 10 = .ok (.iload_n 2, 1) := by decide +kernel
theorem dX10_square_11 : decode cX10_square 11 = .ok (.invokevirtual 143, 3) := by decide +kernel
theorem dX10_square_14 : decode cX10_square 14 = .ok (.goto 5, 3) := by decide +kernel
theorem dX10_square_17 : decode cX10_square 17 = .ok (.bipush (-101), 2) := by decide +kernel
theorem dX10_square_19 : decode cX10_square 19 = .ok (.ireturn, 1) := by decide +kernel
theorem cw_X10_square : Cw yX10_square cX10_square 3 (some .int) 2 := ⟨aw_986, aw_56, ⟨by decide, by decide⟩, by decide +kernel, by decide⟩
theorem kc_10_140 {K : KT} {cc : ByteArray} {nL d pc : Nat} {ret : Option FieldType} {L : List (Option Value)} {st : List Value} {σ : Sg} (C : Cx K layM cc RX10 nL d ret)  {a0 : Int32}  {p : Int32 × Sg} (hd : decode cc pc = .ok (.invokevirtual 140, 3)) (e : fX10_isSquare a0 σ = some p) (hdd : 2 + 1 ≤ d) (hLn : L.length = nL) (hr : (st.map fun v => v.category).sum ≤ 8) (k : G K (pc + 3) L (.int p.1 :: st) (Wd K layM p.2)) : G K pc L (.int a0 :: .ref (kad K 0) :: st) (Wd K layM σ) :=
  g_callV C (As := [.int a0]) (rest := st) (o := 0) (ci := 10) hd (ct_X10_isSquare e) cw_X10_isSquare (Or.inl aw_987) aw_989 aw_24 rfl rfl rfl hdd hLn rfl rfl hr (fun v τ q => by obtain ⟨rfl, rfl⟩ := q; exact k)
theorem kc_10_143 {K : KT} {cc : ByteArray} {nL d pc : Nat} {ret : Option FieldType} {L : List (Option Value)} {st : List Value} {σ : Sg} (C : Cx K layM cc RX10 nL d ret)  {a0 : Int32} {a1 : Int32}  {p : Int32 × Sg} (hd : decode cc pc = .ok (.invokevirtual 143, 3)) (e : fX10_tellSquare a0 a1 σ = some p) (hdd : 3 + 1 ≤ d) (hLn : L.length = nL) (hr : (st.map fun v => v.category).sum ≤ 8) (k : G K (pc + 3) L (.int p.1 :: st) (Wd K layM p.2)) : G K pc L (.int a1 :: .int a0 :: .ref (kad K 0) :: st) (Wd K layM σ) :=
  g_callV C (As := [.int a0, .int a1]) (rest := st) (o := 0) (ci := 10) hd (ct_X10_tellSquare e) cw_X10_tellSquare (Or.inl aw_991) aw_993 aw_25 rfl rfl rfl hdd hLn rfl rfl hr (fun v τ q => by obtain ⟨rfl, rfl⟩ := q; exact k)
def fX10_square_b0 (x1 : Int32) (x2 : Int32) (σ : Sg) : Option (Int32 × Sg) :=
  Option.bind (fX10_isSquare x1 σ) fun p1 => (if p1.1 = 0 then (some ((-101 : Int32), p1.2)) else (Option.bind (fX10_tellSquare x1 x2 p1.2) fun p3 => (some (p3.1, p3.2))))
set_option maxRecDepth 4000 in
theorem bX10_square_b0 {K : KT} {x1 : Int32} {x2 : Int32} {σ : Sg} {o : Int32 × Sg} (C : Cx K layM cX10_square RX10 3 (4) (some .int))  (hQ : Rk K layM (okI o)) (h : fX10_square_b0 x1 x2 σ = some o) : G K 0 [some (.ref (kad K 0)), some (.int x1), some (.int x2)] [] (Wd K layM σ) := by
  unfold fX10_square_b0 at h
  refine g_aload_n C.c dX10_square_0 rfl (i := 0) rfl ?_
  refine g_iload_n C.c dX10_square_1 rfl (i := 1) rfl ?_
  obtain ⟨p1, e2, h⟩ := Option.bind_eq_some_iff.mp h
  refine kc_10_140 C dX10_square_2 e2 (Nat.le_of_ble_eq_true rfl) rfl (Nat.le_of_ble_eq_true rfl) ?_
  refine g_if_eq C.c (tgt := 17) dX10_square_5 (by decide) (fun c => ?_) (fun c => ?_)
  · replace h := ite_t c h
    refine g_bipush C.c dX10_square_17 (v := (-101 : Int32)) (by decide) ?_
    obtain rfl := Option.some.inj h
    exact g_iret C hQ dX10_square_19 rfl ⟨rfl, rfl⟩
  · replace h := ite_f c h
    refine g_aload_n C.c dX10_square_8 rfl (i := 0) rfl ?_
    refine g_iload_n C.c dX10_square_9 rfl (i := 1) rfl ?_
    refine g_iload_n C.c dX10_square_10 rfl (i := 2) rfl ?_
    obtain ⟨p3, e4, h⟩ := Option.bind_eq_some_iff.mp h
    refine kc_10_143 C dX10_square_11 e4 (Nat.le_of_ble_eq_true rfl) rfl (Nat.le_of_ble_eq_true rfl) ?_
    refine g_goto C.c (tgt := 19) dX10_square_14 (by decide) ?_
    obtain rfl := Option.some.inj h
    exact g_iret C hQ dX10_square_19 rfl ⟨rfl, rfl⟩
def fX10_square (a0 : Int32) (a1 : Int32) (σ : Sg) : Option (Int32 × Sg) := fX10_square_b0 a0 a1 σ
theorem ct_X10_square {a0 : Int32} {a1 : Int32} {σ : Sg} {p : Int32 × Sg} (h : fX10_square a0 a1 σ = some p) : Ct layM yX10_square cX10_square 3 (some .int) 4 (fun ad => [.ref (ad 0), .int a0, .int a1]) σ (okI p) :=
 ct_of (L0 := fun ad => [some (.ref (ad 0)), some (.int a0), some (.int a1)]) (by decide) (fun _ => Nat.le_of_ble_eq_true rfl) (fun _ => rfl) (fun K C hQ => g_mask [true, true, true] rfl (bX10_square_b0 C hQ h))
-- X10_berg
theorem dX10_berg_0 : decode cX10_berg 0 = .ok (.iload_n 1, 1) := by decide +kernel
theorem dX10_berg_1 : decode cX10_berg 1 = .ok (.i2l, 1) := by decide +kernel
theorem dX10_berg_2 : decode cX10_berg 2 = .ok (.lconst 0, 1) := by decide +kernel
theorem dX10_berg_3 : decode cX10_berg 3 = .ok (.ldc2_w 147, 3) := by decide +kernel
theorem dX10_berg_6 : decode cX10_berg 6 = .ok (.invokestatic 102, 3) := by decide +kernel
theorem dX10_berg_9 : decode cX10_berg 9 = .ok (.ifCond .ne 6, 3) := by decide +kernel
theorem dX10_berg_12 : decode cX10_berg 12 = .ok (.bipush (-102), 2) := by decide +kernel
theorem dX10_berg_14 : decode cX10_berg 14 = .ok (.ireturn, 1) := by decide +kernel
theorem dX10_berg_15 : decode cX10_berg 15 = .ok (.aload_n 0, 1) := by decide +kernel
theorem dX10_berg_16 : decode cX10_berg 16 = .ok (.iload_n 2, 1) := by decide +kernel
theorem dX10_berg_17 : decode cX10_berg 17 = .ok (.invokevirtual 140, 3) := by decide +kernel
theorem dX10_berg_20 : decode cX10_berg 20 = .ok (.ifCond .eq 14, 3) := by decide +kernel
theorem dX10_berg_23 : decode cX10_berg 23 = .ok (.aload_n 0, 1) := by decide +kernel
theorem dX10_berg_24 : decode cX10_berg 24 = .ok (.getfield 19, 3) := by decide +kernel
theorem dX10_berg_27 : decode cX10_berg 27 = .ok (.iload_n 2, 1) := by decide +kernel
theorem dX10_berg_28 : decode cX10_berg 28 = .ok (.iaload, 1) := by decide +kernel
theorem dX10_berg_29 : decode cX10_berg 29 = .ok (.bipush 9, 2) := by decide +kernel
theorem dX10_berg_31 : decode cX10_berg 31 = .ok (.if_icmp .le 6, 3) := by decide +kernel
theorem dX10_berg_34 : decode cX10_berg 34 = .ok (.bipush (-101), 2) := by decide +kernel
theorem dX10_berg_36 : decode cX10_berg 36 = .ok (.ireturn, 1) := by decide +kernel
theorem dX10_berg_37 : decode cX10_berg 37 = .ok (.iload_n 3, 1) := by decide +kernel
theorem dX10_berg_38 : decode cX10_berg 38 = .ok (.i2l, 1) := by decide +kernel
theorem dX10_berg_39 : decode cX10_berg 39 = .ok (.ldc2_w 149, 3) := by decide +kernel
theorem dX10_berg_42 : decode cX10_berg 42 = .ok (.ldc2_w 151, 3) := by decide +kernel
theorem dX10_berg_45 : decode cX10_berg 45 = .ok (.invokestatic 102, 3) := by decide +kernel
theorem dX10_berg_48 : decode cX10_berg 48 = .ok (.ifCond .eq 44, 3) := by decide +kernel
theorem dX10_berg_51 : decode cX10_berg 51 = .ok (.iload 4, 2) := by decide +kernel
theorem dX10_berg_53 : decode cX10_berg 53 = .ok (.i2l, 1) := by decide +kernel
theorem dX10_berg_54 : decode cX10_berg 54 = .ok (.lconst 0, 1) := by decide +kernel
theorem dX10_berg_55 : decode cX10_berg 55 = .ok (.ldc2_w 153, 3) := by decide +kernel
theorem dX10_berg_58 : decode cX10_berg 58 = .ok (.invokestatic 102, 3) := by decide +kernel
theorem dX10_berg_61 : decode cX10_berg 61 = .ok (.ifCond .eq 31, 3) := by decide +kernel
theorem dX10_berg_64 : decode cX10_berg 64 = .ok (.iload_n 1, 1) := by decide +kernel
theorem dX10_berg_65 : decode cX10_berg 65 = .ok (.iconst 2, 1) := by decide +kernel
theorem dX10_berg_66 : decode cX10_berg 66 = .ok (.if_icmp .ne 21, 3) := by decide +kernel
theorem dX10_berg_69 : decode cX10_berg 69 = .ok (.iload 5, 2) := by decide +kernel
theorem dX10_berg_71 : decode cX10_berg 71 = .ok (.i2l, 1) := by decide +kernel
theorem dX10_berg_72 : decode cX10_berg 72 = .ok (.ldc2_w 155, 3) := by decide +kernel
theorem dX10_berg_75 : decode cX10_berg 75 = .ok (.ldc2_w 157, 3) := by decide +kernel
theorem dX10_berg_78 : decode cX10_berg 78 = .ok (.invokestatic 102, 3) := by decide +kernel
theorem dX10_berg_81 : decode cX10_berg 81 = .ok (.ifCond .eq 11, 3) := by decide +kernel
theorem dX10_berg_84 : decode cX10_berg 84 = .ok (.goto 11, 3) := by decide +kernel
theorem dX10_berg_87 : decode cX10_berg 87 = .ok (.iload 5, 2) := by decide +kernel
theorem dX10_berg_89 : decode cX10_berg 89 = .ok (.ifCond .eq 6, 3) := by decide +kernel
theorem dX10_berg_92 : decode cX10_berg 92 = .ok (.bipush (-102), 2) := by decide +kernel
theorem dX10_berg_94 : decode cX10_berg 94 = .ok (.ireturn, 1) := by decide +kernel
theorem dX10_berg_95 : decode cX10_berg 95 = .ok (.aload_n 0, 1) := by decide +kernel
theorem dX10_berg_96 : decode cX10_berg 96 = .ok (.getfield 125, 3) := by decide +kernel
theorem dX10_berg_99 : decode cX10_berg 99 = .ok (.iconst 5, 1) := by decide +kernel
theorem dX10_berg_100 : decode cX10_berg 100 = .ok (.if_icmp .ne 6, 3) := by decide +kernel
theorem dX10_berg_103 : decode cX10_berg 103 = .ok (.bipush (-104), 2) := by decide +kernel
theorem dX10_berg_105 : decode cX10_berg 105 = .ok (.ireturn, 1) := by decide +kernel
theorem dX10_berg_106 : decode cX10_berg 106 = .ok (.aload_n 0, 1) := by decide +kernel
theorem dX10_berg_107 : decode cX10_berg 107 = .ok (.getfield 25, 3) := by decide +kernel
theorem dX10_berg_110 : decode cX10_berg 110 = .ok (.iconst 5, 1) := by decide +kernel
theorem dX10_berg_111 : decode cX10_berg 111 = .ok (.aload_n 0, 1) := by decide +kernel
theorem dX10_berg_112 : decode cX10_berg 112 = .ok (.getfield 125, 3) := by decide +kernel
theorem dX10_berg_115 : decode cX10_berg 115 = .ok (.imul, 1) := by decide +kernel
theorem dX10_berg_116 : decode cX10_berg 116 = .ok (.iload_n 1, 1) := by decide +kernel
theorem dX10_berg_117 : decode cX10_berg 117 = .ok (.iastore, 1) := by decide +kernel
theorem dX10_berg_118 : decode cX10_berg 118 = .ok (.aload_n 0, 1) := by decide +kernel
theorem dX10_berg_119 : decode cX10_berg 119 = .ok (.getfield 25, 3) := by decide +kernel
theorem dX10_berg_122 : decode cX10_berg 122 = .ok (.iconst 5, 1) := by decide +kernel
theorem dX10_berg_123 : decode cX10_berg 123 = .ok (.aload_n 0, 1) := by decide +kernel
theorem dX10_berg_124 : decode cX10_berg 124 = .ok (.getfield 125, 3) := by decide +kernel
theorem dX10_berg_127 : decode cX10_berg 127 = .ok (.imul, 1) := by decide +kernel
theorem dX10_berg_128 : decode cX10_berg 128 = .ok (.iconst 1, 1) := by decide +kernel
theorem dX10_berg_129 : decode cX10_berg 129 = .ok (.iadd, 1) := by decide +kernel
theorem dX10_berg_130 : decode cX10_berg 130 = .ok (.iload_n 2, 1) := by decide +kernel
theorem dX10_berg_131 : decode cX10_berg 131 = .ok (.iastore, 1) := by decide +kernel
theorem dX10_berg_132 : decode cX10_berg 132 = .ok (.aload_n 0, 1) := by decide +kernel
theorem dX10_berg_133 : decode cX10_berg 133 = .ok (.getfield 25, 3) := by decide +kernel
theorem dX10_berg_136 : decode cX10_berg 136 = .ok (.iconst 5, 1) := by decide +kernel
theorem dX10_berg_137 : decode cX10_berg 137 = .ok (.aload_n 0, 1) := by decide +kernel
theorem dX10_berg_138 : decode cX10_berg 138 = .ok (.getfield 125, 3) := by decide +kernel
theorem dX10_berg_141 : decode cX10_berg 141 = .ok (.imul, 1) := by decide +kernel
theorem dX10_berg_142 : decode cX10_berg 142 = .ok (.iconst 2, 1) := by decide +kernel
theorem dX10_berg_143 : decode cX10_berg 143 = .ok (.iadd, 1) := by decide +kernel
theorem dX10_berg_144 : decode cX10_berg 144 = .ok (.iload_n 3, 1) := by decide +kernel
theorem dX10_berg_145 : decode cX10_berg 145 = .ok (.iastore, 1) := by decide +kernel
theorem dX10_berg_146 : decode cX10_berg 146 = .ok (.aload_n 0, 1) := by decide +kernel
theorem dX10_berg_147 : decode cX10_berg 147 = .ok (.getfield 25, 3) := by decide +kernel
theorem dX10_berg_150 : decode cX10_berg 150 = .ok (.iconst 5, 1) := by decide +kernel
theorem dX10_berg_151 : decode cX10_berg 151 = .ok (.aload_n 0, 1) := by decide +kernel
theorem dX10_berg_152 : decode cX10_berg 152 = .ok (.getfield 125, 3) := by decide +kernel
theorem dX10_berg_155 : decode cX10_berg 155 = .ok (.imul, 1) := by decide +kernel
theorem dX10_berg_156 : decode cX10_berg 156 = .ok (.iconst 3, 1) := by decide +kernel
theorem dX10_berg_157 : decode cX10_berg 157 = .ok (.iadd, 1) := by decide +kernel
theorem dX10_berg_158 : decode cX10_berg 158 = .ok (.iload 4, 2) := by decide +kernel
theorem dX10_berg_160 : decode cX10_berg 160 = .ok (.iastore, 1) := by decide +kernel
theorem dX10_berg_161 : decode cX10_berg 161 = .ok (.aload_n 0, 1) := by decide +kernel
theorem dX10_berg_162 : decode cX10_berg 162 = .ok (.getfield 25, 3) := by decide +kernel
theorem dX10_berg_165 : decode cX10_berg 165 = .ok (.iconst 5, 1) := by decide +kernel
theorem dX10_berg_166 : decode cX10_berg 166 = .ok (.aload_n 0, 1) := by decide +kernel
theorem dX10_berg_167 : decode cX10_berg 167 = .ok (.getfield 125, 3) := by decide +kernel
theorem dX10_berg_170 : decode cX10_berg 170 = .ok (.imul, 1) := by decide +kernel
theorem dX10_berg_171 : decode cX10_berg 171 = .ok (.iconst 4, 1) := by decide +kernel
theorem dX10_berg_172 : decode cX10_berg 172 = .ok (.iadd, 1) := by decide +kernel
theorem dX10_berg_173 : decode cX10_berg 173 = .ok (.iload 5, 2) := by decide +kernel
theorem dX10_berg_175 : decode cX10_berg 175 = .ok (.iastore, 1) := by decide +kernel
theorem dX10_berg_176 : decode cX10_berg 176 = .ok (.aload_n 0, 1) := by decide +kernel
theorem dX10_berg_177 : decode cX10_berg 177 = .ok (.dup, 1) := by decide +kernel
theorem dX10_berg_178 : decode cX10_berg 178 = .ok (.getfield 125, 3) := by decide +kernel
theorem dX10_berg_181 : decode cX10_berg 181 = .ok (.iconst 1, 1) := by decide +kernel
theorem dX10_berg_182 : decode cX10_berg 182 = .ok (.iadd, 1) := by decide +kernel
theorem dX10_berg_183 : decode cX10_berg 183 = .ok (.putfield 125, 3) := by decide +kernel
theorem dX10_berg_186 : decode cX10_berg 186 = .ok (.aload_n 0, 1) := by decide +kernel
theorem dX10_berg_187 : decode cX10_berg 187 = .ok (.getfield 125, 3) := by decide +kernel
theorem dX10_berg_190 : decode cX10_berg 190 = .ok (.iconst 1, 1) := by decide +kernel
theorem dX10_berg_191 : decode cX10_berg 191 = .ok (.isub, 1) := by decide +kernel
theorem dX10_berg_192 : decode cX10_berg 192 = .ok (.ireturn, 1) := by decide +kernel
theorem cw_X10_berg : Cw yX10_berg cX10_berg 6 (some .int) 5 := ⟨aw_1005, aw_56, ⟨by decide, by decide⟩, by decide +kernel, by decide⟩
theorem gf_10_125 {K : KT} {cc : ByteArray} {nL d pc : Nat} {ret : Option FieldType} {L : List (Option Value)} {st : List Value} {σ : Sg} (C : Cx K layM cc RX10 nL d ret)  (hd : decode cc pc = .ok (.getfield 125, 3)) (k : G K (pc + 3) L (.int (rI σ 0 15) :: st) (Wd K layM σ)) : G K pc L (.ref (kad K 0) :: st) (Wd K layM σ) := g_get C (o := 0) (ci := 10) (k := 15) hd rfl rfl rfl (by decide) (Or.inl aw_804) inA10 rfl k
theorem gf_10_25 {K : KT} {cc : ByteArray} {nL d pc : Nat} {ret : Option FieldType} {L : List (Option Value)} {st : List Value} {σ : Sg} (C : Cx K layM cc RX10 nL d ret)  (hd : decode cc pc = .ok (.getfield 25, 3)) (k : G K (pc + 3) L (.ref (kad K 6) :: st) (Wd K layM σ)) : G K pc L (.ref (kad K 0) :: st) (Wd K layM σ) := g_get C (o := 0) (ci := 10) (k := 16) hd rfl rfl rfl (by decide) (Or.inl aw_805) inA10 rfl k
def fX10_berg_b95 (x1 : Int32) (x2 : Int32) (x3 : Int32) (x4 : Int32) (x5 : Int32) (σ : Sg) : Option (Int32 × Sg) :=
  if (rI σ 0 15) = (5 : Int32) then (some ((-104 : Int32), σ)) else (if inb ((5 : Int32) * (rI σ 0 15)) 25 = true then (if inb (((5 : Int32) * (rI (wI σ 6 (((5 : Int32) * (rI σ 0 15))).toNatClampNeg x1) 0 15)) + (1 : Int32)) 25 = true then (if inb (((5 : Int32) * (rI (wI (wI σ 6 (((5 : Int32) * (rI σ 0 15))).toNatClampNeg x1) 6 ((((5 : Int32) * (rI (wI σ 6 (((5 : Int32) * (rI σ 0 15))).toNatClampNeg x1) 0 15)) + (1 : Int32))).toNatClampNeg x2) 0 15)) + (2 : Int32)) 25 = true then (if inb (((5 : Int32) * (rI (wI (wI (wI σ 6 (((5 : Int32) * (rI σ 0 15))).toNatClampNeg x1) 6 ((((5 : Int32) * (rI (wI σ 6 (((5 : Int32) * (rI σ 0 15))).toNatClampNeg x1) 0 15)) + (1 : Int32))).toNatClampNeg x2) 6 ((((5 : Int32) * (rI (wI (wI σ 6 (((5 : Int32) * (rI σ 0 15))).toNatClampNeg x1) 6 ((((5 : Int32) * (rI (wI σ 6 (((5 : Int32) * (rI σ 0 15))).toNatClampNeg x1) 0 15)) + (1 : Int32))).toNatClampNeg x2) 0 15)) + (2 : Int32))).toNatClampNeg x3) 0 15)) + (3 : Int32)) 25 = true then (if inb (((5 : Int32) * (rI (wI (wI (wI (wI σ 6 (((5 : Int32) * (rI σ 0 15))).toNatClampNeg x1) 6 ((((5 : Int32) * (rI (wI σ 6 (((5 : Int32) * (rI σ 0 15))).toNatClampNeg x1) 0 15)) + (1 : Int32))).toNatClampNeg x2) 6 ((((5 : Int32) * (rI (wI (wI σ 6 (((5 : Int32) * (rI σ 0 15))).toNatClampNeg x1) 6 ((((5 : Int32) * (rI (wI σ 6 (((5 : Int32) * (rI σ 0 15))).toNatClampNeg x1) 0 15)) + (1 : Int32))).toNatClampNeg x2) 0 15)) + (2 : Int32))).toNatClampNeg x3) 6 ((((5 : Int32) * (rI (wI (wI (wI σ 6 (((5 : Int32) * (rI σ 0 15))).toNatClampNeg x1) 6 ((((5 : Int32) * (rI (wI σ 6 (((5 : Int32) * (rI σ 0 15))).toNatClampNeg x1) 0 15)) + (1 : Int32))).toNatClampNeg x2) 6 ((((5 : Int32) * (rI (wI (wI σ 6 (((5 : Int32) * (rI σ 0 15))).toNatClampNeg x1) 6 ((((5 : Int32) * (rI (wI σ 6 (((5 : Int32) * (rI σ 0 15))).toNatClampNeg x1) 0 15)) + (1 : Int32))).toNatClampNeg x2) 0 15)) + (2 : Int32))).toNatClampNeg x3) 0 15)) + (3 : Int32))).toNatClampNeg x4) 0 15)) + (4 : Int32)) 25 = true then (some (((rI (wI (wI (wI (wI (wI (wI σ 6 (((5 : Int32) * (rI σ 0 15))).toNatClampNeg x1) 6 ((((5 : Int32) * (rI (wI σ 6 (((5 : Int32) * (rI σ 0 15))).toNatClampNeg x1) 0 15)) + (1 : Int32))).toNatClampNeg x2) 6 ((((5 : Int32) * (rI (wI (wI σ 6 (((5 : Int32) * (rI σ 0 15))).toNatClampNeg x1) 6 ((((5 : Int32) * (rI (wI σ 6 (((5 : Int32) * (rI σ 0 15))).toNatClampNeg x1) 0 15)) + (1 : Int32))).toNatClampNeg x2) 0 15)) + (2 : Int32))).toNatClampNeg x3) 6 ((((5 : Int32) * (rI (wI (wI (wI σ 6 (((5 : Int32) * (rI σ 0 15))).toNatClampNeg x1) 6 ((((5 : Int32) * (rI (wI σ 6 (((5 : Int32) * (rI σ 0 15))).toNatClampNeg x1) 0 15)) + (1 : Int32))).toNatClampNeg x2) 6 ((((5 : Int32) * (rI (wI (wI σ 6 (((5 : Int32) * (rI σ 0 15))).toNatClampNeg x1) 6 ((((5 : Int32) * (rI (wI σ 6 (((5 : Int32) * (rI σ 0 15))).toNatClampNeg x1) 0 15)) + (1 : Int32))).toNatClampNeg x2) 0 15)) + (2 : Int32))).toNatClampNeg x3) 0 15)) + (3 : Int32))).toNatClampNeg x4) 6 ((((5 : Int32) * (rI (wI (wI (wI (wI σ 6 (((5 : Int32) * (rI σ 0 15))).toNatClampNeg x1) 6 ((((5 : Int32) * (rI (wI σ 6 (((5 : Int32) * (rI σ 0 15))).toNatClampNeg x1) 0 15)) + (1 : Int32))).toNatClampNeg x2) 6 ((((5 : Int32) * (rI (wI (wI σ 6 (((5 : Int32) * (rI σ 0 15))).toNatClampNeg x1) 6 ((((5 : Int32) * (rI (wI σ 6 (((5 : Int32) * (rI σ 0 15))).toNatClampNeg x1) 0 15)) + (1 : Int32))).toNatClampNeg x2) 0 15)) + (2 : Int32))).toNatClampNeg x3) 6 ((((5 : Int32) * (rI (wI (wI (wI σ 6 (((5 : Int32) * (rI σ 0 15))).toNatClampNeg x1) 6 ((((5 : Int32) * (rI (wI σ 6 (((5 : Int32) * (rI σ 0 15))).toNatClampNeg x1) 0 15)) + (1 : Int32))).toNatClampNeg x2) 6 ((((5 : Int32) * (rI (wI (wI σ 6 (((5 : Int32) * (rI σ 0 15))).toNatClampNeg x1) 6 ((((5 : Int32) * (rI (wI σ 6 (((5 : Int32) * (rI σ 0 15))).toNatClampNeg x1) 0 15)) + (1 : Int32))).toNatClampNeg x2) 0 15)) + (2 : Int32))).toNatClampNeg x3) 0 15)) + (3 : Int32))).toNatClampNeg x4) 0 15)) + (4 : Int32))).toNatClampNeg x5) 0 15 ((rI (wI (wI (wI (wI (wI σ 6 (((5 : Int32) * (rI σ 0 15))).toNatClampNeg x1) 6 ((((5 : Int32) * (rI (wI σ 6 (((5 : Int32) * (rI σ 0 15))).toNatClampNeg x1) 0 15)) + (1 : Int32))).toNatClampNeg x2) 6 ((((5 : Int32) * (rI (wI (wI σ 6 (((5 : Int32) * (rI σ 0 15))).toNatClampNeg x1) 6 ((((5 : Int32) * (rI (wI σ 6 (((5 : Int32) * (rI σ 0 15))).toNatClampNeg x1) 0 15)) + (1 : Int32))).toNatClampNeg x2) 0 15)) + (2 : Int32))).toNatClampNeg x3) 6 ((((5 : Int32) * (rI (wI (wI (wI σ 6 (((5 : Int32) * (rI σ 0 15))).toNatClampNeg x1) 6 ((((5 : Int32) * (rI (wI σ 6 (((5 : Int32) * (rI σ 0 15))).toNatClampNeg x1) 0 15)) + (1 : Int32))).toNatClampNeg x2) 6 ((((5 : Int32) * (rI (wI (wI σ 6 (((5 : Int32) * (rI σ 0 15))).toNatClampNeg x1) 6 ((((5 : Int32) * (rI (wI σ 6 (((5 : Int32) * (rI σ 0 15))).toNatClampNeg x1) 0 15)) + (1 : Int32))).toNatClampNeg x2) 0 15)) + (2 : Int32))).toNatClampNeg x3) 0 15)) + (3 : Int32))).toNatClampNeg x4) 6 ((((5 : Int32) * (rI (wI (wI (wI (wI σ 6 (((5 : Int32) * (rI σ 0 15))).toNatClampNeg x1) 6 ((((5 : Int32) * (rI (wI σ 6 (((5 : Int32) * (rI σ 0 15))).toNatClampNeg x1) 0 15)) + (1 : Int32))).toNatClampNeg x2) 6 ((((5 : Int32) * (rI (wI (wI σ 6 (((5 : Int32) * (rI σ 0 15))).toNatClampNeg x1) 6 ((((5 : Int32) * (rI (wI σ 6 (((5 : Int32) * (rI σ 0 15))).toNatClampNeg x1) 0 15)) + (1 : Int32))).toNatClampNeg x2) 0 15)) + (2 : Int32))).toNatClampNeg x3) 6 ((((5 : Int32) * (rI (wI (wI (wI σ 6 (((5 : Int32) * (rI σ 0 15))).toNatClampNeg x1) 6 ((((5 : Int32) * (rI (wI σ 6 (((5 : Int32) * (rI σ 0 15))).toNatClampNeg x1) 0 15)) + (1 : Int32))).toNatClampNeg x2) 6 ((((5 : Int32) * (rI (wI (wI σ 6 (((5 : Int32) * (rI σ 0 15))).toNatClampNeg x1) 6 ((((5 : Int32) * (rI (wI σ 6 (((5 : Int32) * (rI σ 0 15))).toNatClampNeg x1) 0 15)) + (1 : Int32))).toNatClampNeg x2) 0 15)) + (2 : Int32))).toNatClampNeg x3) 0 15)) + (3 : Int32))).toNatClampNeg x4) 0 15)) + (4 : Int32))).toNatClampNeg x5) 0 15) + (1 : Int32))) 0 15) - (1 : Int32)), (wI (wI (wI (wI (wI (wI σ 6 (((5 : Int32) * (rI σ 0 15))).toNatClampNeg x1) 6 ((((5 : Int32) * (rI (wI σ 6 (((5 : Int32) * (rI σ 0 15))).toNatClampNeg x1) 0 15)) + (1 : Int32))).toNatClampNeg x2) 6 ((((5 : Int32) * (rI (wI (wI σ 6 (((5 : Int32) * (rI σ 0 15))).toNatClampNeg x1) 6 ((((5 : Int32) * (rI (wI σ 6 (((5 : Int32) * (rI σ 0 15))).toNatClampNeg x1) 0 15)) + (1 : Int32))).toNatClampNeg x2) 0 15)) + (2 : Int32))).toNatClampNeg x3) 6 ((((5 : Int32) * (rI (wI (wI (wI σ 6 (((5 : Int32) * (rI σ 0 15))).toNatClampNeg x1) 6 ((((5 : Int32) * (rI (wI σ 6 (((5 : Int32) * (rI σ 0 15))).toNatClampNeg x1) 0 15)) + (1 : Int32))).toNatClampNeg x2) 6 ((((5 : Int32) * (rI (wI (wI σ 6 (((5 : Int32) * (rI σ 0 15))).toNatClampNeg x1) 6 ((((5 : Int32) * (rI (wI σ 6 (((5 : Int32) * (rI σ 0 15))).toNatClampNeg x1) 0 15)) + (1 : Int32))).toNatClampNeg x2) 0 15)) + (2 : Int32))).toNatClampNeg x3) 0 15)) + (3 : Int32))).toNatClampNeg x4) 6 ((((5 : Int32) * (rI (wI (wI (wI (wI σ 6 (((5 : Int32) * (rI σ 0 15))).toNatClampNeg x1) 6 ((((5 : Int32) * (rI (wI σ 6 (((5 : Int32) * (rI σ 0 15))).toNatClampNeg x1) 0 15)) + (1 : Int32))).toNatClampNeg x2) 6 ((((5 : Int32) * (rI (wI (wI σ 6 (((5 : Int32) * (rI σ 0 15))).toNatClampNeg x1) 6 ((((5 : Int32) * (rI (wI σ 6 (((5 : Int32) * (rI σ 0 15))).toNatClampNeg x1) 0 15)) + (1 : Int32))).toNatClampNeg x2) 0 15)) + (2 : Int32))).toNatClampNeg x3) 6 ((((5 : Int32) * (rI (wI (wI (wI σ 6 (((5 : Int32) * (rI σ 0 15))).toNatClampNeg x1) 6 ((((5 : Int32) * (rI (wI σ 6 (((5 : Int32) * (rI σ 0 15))).toNatClampNeg x1) 0 15)) + (1 : Int32))).toNatClampNeg x2) 6 ((((5 : Int32) * (rI (wI (wI σ 6 (((5 : Int32) * (rI σ 0 15))).toNatClampNeg x1) 6 ((((5 : Int32) * (rI (wI σ 6 (((5 : Int32) * (rI σ 0 15))).toNatClampNeg x1) 0 15)) + (1 : Int32))).toNatClampNeg x2) 0 15)) + (2 : Int32))).toNatClampNeg x3) 0 15)) + (3 : Int32))).toNatClampNeg x4) 0 15)) + (4 : Int32))).toNatClampNeg x5) 0 15 ((rI (wI (wI (wI (wI (wI σ 6 (((5 : Int32) * (rI σ 0 15))).toNatClampNeg x1) 6 ((((5 : Int32) * (rI (wI σ 6 (((5 : Int32) * (rI σ 0 15))).toNatClampNeg x1) 0 15)) + (1 : Int32))).toNatClampNeg x2) 6 ((((5 : Int32) * (rI (wI (wI σ 6 (((5 : Int32) * (rI σ 0 15))).toNatClampNeg x1) 6 ((((5 : Int32) * (rI (wI σ 6 (((5 : Int32) * (rI σ 0 15))).toNatClampNeg x1) 0 15)) + (1 : Int32))).toNatClampNeg x2) 0 15)) + (2 : Int32))).toNatClampNeg x3) 6 ((((5 : Int32) * (rI (wI (wI (wI σ 6 (((5 : Int32) * (rI σ 0 15))).toNatClampNeg x1) 6 ((((5 : Int32) * (rI (wI σ 6 (((5 : Int32) * (rI σ 0 15))).toNatClampNeg x1) 0 15)) + (1 : Int32))).toNatClampNeg x2) 6 ((((5 : Int32) * (rI (wI (wI σ 6 (((5 : Int32) * (rI σ 0 15))).toNatClampNeg x1) 6 ((((5 : Int32) * (rI (wI σ 6 (((5 : Int32) * (rI σ 0 15))).toNatClampNeg x1) 0 15)) + (1 : Int32))).toNatClampNeg x2) 0 15)) + (2 : Int32))).toNatClampNeg x3) 0 15)) + (3 : Int32))).toNatClampNeg x4) 6 ((((5 : Int32) * (rI (wI (wI (wI (wI σ 6 (((5 : Int32) * (rI σ 0 15))).toNatClampNeg x1) 6 ((((5 : Int32) * (rI (wI σ 6 (((5 : Int32) * (rI σ 0 15))).toNatClampNeg x1) 0 15)) + (1 : Int32))).toNatClampNeg x2) 6 ((((5 : Int32) * (rI (wI (wI σ 6 (((5 : Int32) * (rI σ 0 15))).toNatClampNeg x1) 6 ((((5 : Int32) * (rI (wI σ 6 (((5 : Int32) * (rI σ 0 15))).toNatClampNeg x1) 0 15)) + (1 : Int32))).toNatClampNeg x2) 0 15)) + (2 : Int32))).toNatClampNeg x3) 6 ((((5 : Int32) * (rI (wI (wI (wI σ 6 (((5 : Int32) * (rI σ 0 15))).toNatClampNeg x1) 6 ((((5 : Int32) * (rI (wI σ 6 (((5 : Int32) * (rI σ 0 15))).toNatClampNeg x1) 0 15)) + (1 : Int32))).toNatClampNeg x2) 6 ((((5 : Int32) * (rI (wI (wI σ 6 (((5 : Int32) * (rI σ 0 15))).toNatClampNeg x1) 6 ((((5 : Int32) * (rI (wI σ 6 (((5 : Int32) * (rI σ 0 15))).toNatClampNeg x1) 0 15)) + (1 : Int32))).toNatClampNeg x2) 0 15)) + (2 : Int32))).toNatClampNeg x3) 0 15)) + (3 : Int32))).toNatClampNeg x4) 0 15)) + (4 : Int32))).toNatClampNeg x5) 0 15) + (1 : Int32))))) else none) else none) else none) else none) else none)
def fX10_berg_b0 (x1 : Int32) (x2 : Int32) (x3 : Int32) (x4 : Int32) (x5 : Int32) (σ : Sg) : Option (Int32 × Sg) :=
  Option.bind (fX10_in ((x1).toInt64) (0 : Int64) (4 : Int64) σ) fun p1 => (if p1.1 = 0 then (some ((-102 : Int32), p1.2)) else (Option.bind (fX10_isSquare x2 p1.2) fun p3 => (if p3.1 = 0 then (some ((-101 : Int32), p3.2)) else (if inb x2 30 = true then (if (rI p3.2 4 (x2).toNatClampNeg) ≤ (9 : Int32) then (Option.bind (fX10_in ((x3).toInt64) (10 : Int64) (999 : Int64) p3.2) fun p6 => (if p6.1 = 0 then (some ((-102 : Int32), p6.2)) else (Option.bind (fX10_in ((x4).toInt64) (0 : Int64) (99 : Int64) p6.2) fun p8 => (if p8.1 = 0 then (some ((-102 : Int32), p8.2)) else (if x1 = (2 : Int32) then (Option.bind (fX10_in ((x5).toInt64) (2 : Int64) (9 : Int64) p8.2) fun p15 => (if p15.1 = 0 then (some ((-102 : Int32), p15.2)) else (fX10_berg_b95 x1 x2 x3 x4 x5 p15.2))) else (if x5 = 0 then (fX10_berg_b95 x1 x2 x3 x4 x5 p8.2) else (some ((-102 : Int32), p8.2)))))))) else (some ((-101 : Int32), p3.2))) else none))))
set_option maxRecDepth 4000 in
theorem bX10_berg_b95 {K : KT} {x1 : Int32} {x2 : Int32} {x3 : Int32} {x4 : Int32} {x5 : Int32} {σ : Sg} {o : Int32 × Sg} (C : Cx K layM cX10_berg RX10 6 (3) (some .int))  (hQ : Rk K layM (okI o)) (h : fX10_berg_b95 x1 x2 x3 x4 x5 σ = some o) : G K 95 [some (.ref (kad K 0)), some (.int x1), some (.int x2), some (.int x3), some (.int x4), some (.int x5)] [] (Wd K layM σ) := by
  unfold fX10_berg_b95 at h
  refine g_aload_n C.c dX10_berg_95 rfl (i := 0) rfl ?_
  refine gf_10_125 C dX10_berg_96 ?_
  refine g_iconst C.c dX10_berg_99 (v := (5 : Int32)) (by decide) ?_
  refine g_icmp_ne C.c (tgt := 106) dX10_berg_100 (by decide) (fun c => ?_) (fun c => ?_)
  · replace h := ite_f c h
    refine g_aload_n C.c dX10_berg_106 rfl (i := 0) rfl ?_
    refine gf_10_25 C dX10_berg_107 ?_
    refine g_iconst C.c dX10_berg_110 (v := (5 : Int32)) (by decide) ?_
    refine g_aload_n C.c dX10_berg_111 rfl (i := 0) rfl ?_
    refine gf_10_125 C dX10_berg_112 ?_
    refine g_imul C.c dX10_berg_115 ?_
    refine g_iload_n C.c dX10_berg_116 rfl (i := 1) rfl ?_
    obtain ⟨c10, h⟩ := chk h
    refine g_iast C dX10_berg_117 rfl c10 ?_
    refine g_aload_n C.c dX10_berg_118 rfl (i := 0) rfl ?_
    refine gf_10_25 C dX10_berg_119 ?_
    refine g_iconst C.c dX10_berg_122 (v := (5 : Int32)) (by decide) ?_
    refine g_aload_n C.c dX10_berg_123 rfl (i := 0) rfl ?_
    refine gf_10_125 C dX10_berg_124 ?_
    refine g_imul C.c dX10_berg_127 ?_
    refine g_iconst C.c dX10_berg_128 (v := (1 : Int32)) (by decide) ?_
    refine g_iadd C.c dX10_berg_129 ?_
    refine g_iload_n C.c dX10_berg_130 rfl (i := 2) rfl ?_
    obtain ⟨c11, h⟩ := chk h
    refine g_iast C dX10_berg_131 rfl c11 ?_
    refine g_aload_n C.c dX10_berg_132 rfl (i := 0) rfl ?_
    refine gf_10_25 C dX10_berg_133 ?_
    refine g_iconst C.c dX10_berg_136 (v := (5 : Int32)) (by decide) ?_
    refine g_aload_n C.c dX10_berg_137 rfl (i := 0) rfl ?_
    refine gf_10_125 C dX10_berg_138 ?_
    refine g_imul C.c dX10_berg_141 ?_
    refine g_iconst C.c dX10_berg_142 (v := (2 : Int32)) (by decide) ?_
    refine g_iadd C.c dX10_berg_143 ?_
    refine g_iload_n C.c dX10_berg_144 rfl (i := 3) rfl ?_
    obtain ⟨c12, h⟩ := chk h
    refine g_iast C dX10_berg_145 rfl c12 ?_
    refine g_aload_n C.c dX10_berg_146 rfl (i := 0) rfl ?_
    refine gf_10_25 C dX10_berg_147 ?_
    refine g_iconst C.c dX10_berg_150 (v := (5 : Int32)) (by decide) ?_
    refine g_aload_n C.c dX10_berg_151 rfl (i := 0) rfl ?_
    refine gf_10_125 C dX10_berg_152 ?_
    refine g_imul C.c dX10_berg_155 ?_
    refine g_iconst C.c dX10_berg_156 (v := (3 : Int32)) (by decide) ?_
    refine g_iadd C.c dX10_berg_157 ?_
    refine g_iload C.c dX10_berg_158 (i := 4) rfl ?_
    obtain ⟨c13, h⟩ := chk h
    refine g_iast C dX10_berg_160 rfl c13 ?_
    refine g_aload_n C.c dX10_berg_161 rfl (i := 0) rfl ?_
    refine gf_10_25 C dX10_berg_162 ?_
    refine g_iconst C.c dX10_berg_165 (v := (5 : Int32)) (by decide) ?_
    refine g_aload_n C.c dX10_berg_166 rfl (i := 0) rfl ?_
    refine gf_10_125 C dX10_berg_167 ?_
    refine g_imul C.c dX10_berg_170 ?_
    refine g_iconst C.c dX10_berg_171 (v := (4 : Int32)) (by decide) ?_
    refine g_iadd C.c dX10_berg_172 ?_
    refine g_iload C.c dX10_berg_173 (i := 5) rfl ?_
    obtain ⟨c14, h⟩ := chk h
    refine g_iast C dX10_berg_175 rfl c14 ?_
    refine g_aload_n C.c dX10_berg_176 rfl (i := 0) rfl ?_
    refine g_dup C.c dX10_berg_177 rfl ?_
    refine gf_10_125 C dX10_berg_178 ?_
    refine g_iconst C.c dX10_berg_181 (v := (1 : Int32)) (by decide) ?_
    refine g_iadd C.c dX10_berg_182 ?_
    refine pf_10_125 C dX10_berg_183 ?_
    refine g_aload_n C.c dX10_berg_186 rfl (i := 0) rfl ?_
    refine gf_10_125 C dX10_berg_187 ?_
    refine g_iconst C.c dX10_berg_190 (v := (1 : Int32)) (by decide) ?_
    refine g_isub C.c dX10_berg_191 ?_
    obtain rfl := Option.some.inj h
    exact g_iret C hQ dX10_berg_192 rfl ⟨rfl, rfl⟩
  · replace h := ite_t c h
    refine g_bipush C.c dX10_berg_103 (v := (-104 : Int32)) (by decide) ?_
    obtain rfl := Option.some.inj h
    exact g_iret C hQ dX10_berg_105 rfl ⟨rfl, rfl⟩
set_option maxRecDepth 4000 in
theorem bX10_berg_b0 {K : KT} {x1 : Int32} {x2 : Int32} {x3 : Int32} {x4 : Int32} {x5 : Int32} {σ : Sg} {o : Int32 × Sg} (C : Cx K layM cX10_berg RX10 6 (3) (some .int))  (hQ : Rk K layM (okI o)) (h : fX10_berg_b0 x1 x2 x3 x4 x5 σ = some o) : G K 0 [some (.ref (kad K 0)), some (.int x1), some (.int x2), some (.int x3), some (.int x4), some (.int x5)] [] (Wd K layM σ) := by
  unfold fX10_berg_b0 at h
  refine g_iload_n C.c dX10_berg_0 rfl (i := 1) rfl ?_
  refine g_i2l C.c dX10_berg_1 ?_
  refine g_lconst C.c dX10_berg_2 (v := (0 : Int64)) (by decide) ?_
  refine g_ldc2 C.c (v := (4 : Int64)) aw_1006 dX10_berg_3 ?_
  obtain ⟨p1, e2, h⟩ := Option.bind_eq_some_iff.mp h
  refine kc_10_102 C dX10_berg_6 e2 (Nat.le_of_ble_eq_true rfl) rfl (Nat.le_of_ble_eq_true rfl) ?_
  refine g_if_ne C.c (tgt := 15) dX10_berg_9 (by decide) (fun c => ?_) (fun c => ?_)
  · replace h := ite_f c h
    refine g_aload_n C.c dX10_berg_15 rfl (i := 0) rfl ?_
    refine g_iload_n C.c dX10_berg_16 rfl (i := 2) rfl ?_
    obtain ⟨p3, e4, h⟩ := Option.bind_eq_some_iff.mp h
    refine kc_10_140 C dX10_berg_17 e4 (Nat.le_of_ble_eq_true rfl) rfl (Nat.le_of_ble_eq_true rfl) ?_
    refine g_if_eq C.c (tgt := 34) dX10_berg_20 (by decide) (fun c => ?_) (fun c => ?_)
    · replace h := ite_t c h
      refine g_bipush C.c dX10_berg_34 (v := (-101 : Int32)) (by decide) ?_
      obtain rfl := Option.some.inj h
      exact g_iret C hQ dX10_berg_36 rfl ⟨rfl, rfl⟩
    · replace h := ite_f c h
      refine g_aload_n C.c dX10_berg_23 rfl (i := 0) rfl ?_
      refine gf_10_19 C dX10_berg_24 ?_
      refine g_iload_n C.c dX10_berg_27 rfl (i := 2) rfl ?_
      obtain ⟨c5, h⟩ := chk h
      refine g_iald C dX10_berg_28 rfl c5 ?_
      refine g_bipush C.c dX10_berg_29 (v := (9 : Int32)) (by decide) ?_
      refine g_icmp_le C.c (tgt := 37) dX10_berg_31 (by decide) (fun c => ?_) (fun c => ?_)
      · replace h := ite_t c h
        refine g_iload_n C.c dX10_berg_37 rfl (i := 3) rfl ?_
        refine g_i2l C.c dX10_berg_38 ?_
        refine g_ldc2 C.c (v := (10 : Int64)) aw_1007 dX10_berg_39 ?_
        refine g_ldc2 C.c (v := (999 : Int64)) aw_1008 dX10_berg_42 ?_
        obtain ⟨p6, e7, h⟩ := Option.bind_eq_some_iff.mp h
        refine kc_10_102 C dX10_berg_45 e7 (Nat.le_of_ble_eq_true rfl) rfl (Nat.le_of_ble_eq_true rfl) ?_
        refine g_if_eq C.c (tgt := 92) dX10_berg_48 (by decide) (fun c => ?_) (fun c => ?_)
        · replace h := ite_t c h
          refine g_bipush C.c dX10_berg_92 (v := (-102 : Int32)) (by decide) ?_
          obtain rfl := Option.some.inj h
          exact g_iret C hQ dX10_berg_94 rfl ⟨rfl, rfl⟩
        · replace h := ite_f c h
          refine g_iload C.c dX10_berg_51 (i := 4) rfl ?_
          refine g_i2l C.c dX10_berg_53 ?_
          refine g_lconst C.c dX10_berg_54 (v := (0 : Int64)) (by decide) ?_
          refine g_ldc2 C.c (v := (99 : Int64)) aw_1009 dX10_berg_55 ?_
          obtain ⟨p8, e9, h⟩ := Option.bind_eq_some_iff.mp h
          refine kc_10_102 C dX10_berg_58 e9 (Nat.le_of_ble_eq_true rfl) rfl (Nat.le_of_ble_eq_true rfl) ?_
          refine g_if_eq C.c (tgt := 92) dX10_berg_61 (by decide) (fun c => ?_) (fun c => ?_)
          · replace h := ite_t c h
            refine g_bipush C.c dX10_berg_92 (v := (-102 : Int32)) (by decide) ?_
            obtain rfl := Option.some.inj h
            exact g_iret C hQ dX10_berg_94 rfl ⟨rfl, rfl⟩
          · replace h := ite_f c h
            refine g_iload_n C.c dX10_berg_64 rfl (i := 1) rfl ?_
            refine g_iconst C.c dX10_berg_65 (v := (2 : Int32)) (by decide) ?_
            refine g_icmp_ne C.c (tgt := 87) dX10_berg_66 (by decide) (fun c => ?_) (fun c => ?_)
            · replace h := ite_f c h
              refine g_iload C.c dX10_berg_87 (i := 5) rfl ?_
              refine g_if_eq C.c (tgt := 95) dX10_berg_89 (by decide) (fun c => ?_) (fun c => ?_)
              · replace h := ite_t c h
                exact g_mask [true, true, true, true, true, true] rfl (bX10_berg_b95 C hQ h)
              · replace h := ite_f c h
                refine g_bipush C.c dX10_berg_92 (v := (-102 : Int32)) (by decide) ?_
                obtain rfl := Option.some.inj h
                exact g_iret C hQ dX10_berg_94 rfl ⟨rfl, rfl⟩
            · replace h := ite_t c h
              refine g_iload C.c dX10_berg_69 (i := 5) rfl ?_
              refine g_i2l C.c dX10_berg_71 ?_
              refine g_ldc2 C.c (v := (2 : Int64)) aw_1010 dX10_berg_72 ?_
              refine g_ldc2 C.c (v := (9 : Int64)) aw_1011 dX10_berg_75 ?_
              obtain ⟨p15, e16, h⟩ := Option.bind_eq_some_iff.mp h
              refine kc_10_102 C dX10_berg_78 e16 (Nat.le_of_ble_eq_true rfl) rfl (Nat.le_of_ble_eq_true rfl) ?_
              refine g_if_eq C.c (tgt := 92) dX10_berg_81 (by decide) (fun c => ?_) (fun c => ?_)
              · replace h := ite_t c h
                refine g_bipush C.c dX10_berg_92 (v := (-102 : Int32)) (by decide) ?_
                obtain rfl := Option.some.inj h
                exact g_iret C hQ dX10_berg_94 rfl ⟨rfl, rfl⟩
              · replace h := ite_f c h
                refine g_goto C.c (tgt := 95) dX10_berg_84 (by decide) ?_
                exact g_mask [true, true, true, true, true, true] rfl (bX10_berg_b95 C hQ h)
      · replace h := ite_f c h
        refine g_bipush C.c dX10_berg_34 (v := (-101 : Int32)) (by decide) ?_
        obtain rfl := Option.some.inj h
        exact g_iret C hQ dX10_berg_36 rfl ⟨rfl, rfl⟩
  · replace h := ite_t c h
    refine g_bipush C.c dX10_berg_12 (v := (-102 : Int32)) (by decide) ?_
    obtain rfl := Option.some.inj h
    exact g_iret C hQ dX10_berg_14 rfl ⟨rfl, rfl⟩
def fX10_berg (a0 : Int32) (a1 : Int32) (a2 : Int32) (a3 : Int32) (a4 : Int32) (σ : Sg) : Option (Int32 × Sg) := fX10_berg_b0 a0 a1 a2 a3 a4 σ
theorem ct_X10_berg {a0 : Int32} {a1 : Int32} {a2 : Int32} {a3 : Int32} {a4 : Int32} {σ : Sg} {p : Int32 × Sg} (h : fX10_berg a0 a1 a2 a3 a4 σ = some p) : Ct layM yX10_berg cX10_berg 6 (some .int) 3 (fun ad => [.ref (ad 0), .int a0, .int a1, .int a2, .int a3, .int a4]) σ (okI p) :=
 ct_of (L0 := fun ad => [some (.ref (ad 0)), some (.int a0), some (.int a1), some (.int a2), some (.int a3), some (.int a4)]) (by decide) (fun _ => Nat.le_of_ble_eq_true rfl) (fun _ => rfl) (fun K C hQ => g_mask [true, true, true, true, true, true] rfl (bX10_berg_b0 C hQ h))
-- X10_isBerg
theorem dX10_isBerg_0 : decode cX10_isBerg 0 = .ok (.iload_n 1, 1) := by decide +kernel
theorem dX10_isBerg_1 : decode cX10_isBerg 1 = .ok (.i2l, 1) := by decide +kernel
theorem dX10_isBerg_2 : decode cX10_isBerg 2 = .ok (.lconst 0, 1) := by decide +kernel
theorem dX10_isBerg_3 : decode cX10_isBerg 3 = .ok (.aload_n 0, 1) := by decide +kernel
theorem dX10_isBerg_4 : decode cX10_isBerg 4 = .ok (.getfield 125, 3) := by decide +kernel
theorem dX10_isBerg_7 : decode cX10_isBerg 7 = .ok (.iconst 1, 1) := by decide +kernel
theorem dX10_isBerg_8 : decode cX10_isBerg 8 = .ok (.isub, 1) := by decide +kernel
theorem dX10_isBerg_9 : decode cX10_isBerg 9 = .ok (.i2l, 1) := by decide +kernel
theorem dX10_isBerg_10 : decode cX10_isBerg 10 = .ok (.invokestatic 102, 3) := by decide +kernel
theorem dX10_isBerg_13 : decode cX10_isBerg 13 = .ok (.ireturn, 1) := by decide +kernel
theorem cw_X10_isBerg : Cw yX10_isBerg cX10_isBerg 2 (some .boolean) 1 := ⟨aw_1019, aw_56, ⟨by decide, by decide⟩, by decide +kernel, by decide⟩
def fX10_isBerg_b0 (x1 : Int32) (σ : Sg) : Option (Int32 × Sg) :=
  Option.bind (fX10_in ((x1).toInt64) (0 : Int64) ((((rI σ 0 15) - (1 : Int32))).toInt64) σ) fun p1 => (if isB p1.1 = true then (some (p1.1, p1.2)) else none)
set_option maxRecDepth 4000 in
theorem bX10_isBerg_b0 {K : KT} {x1 : Int32} {σ : Sg} {o : Int32 × Sg} (C : Cx K layM cX10_isBerg RX10 2 (2) (some .boolean))  (hQ : Rk K layM (okI o)) (h : fX10_isBerg_b0 x1 σ = some o) : G K 0 [some (.ref (kad K 0)), some (.int x1)] [] (Wd K layM σ) := by
  unfold fX10_isBerg_b0 at h
  refine g_iload_n C.c dX10_isBerg_0 rfl (i := 1) rfl ?_
  refine g_i2l C.c dX10_isBerg_1 ?_
  refine g_lconst C.c dX10_isBerg_2 (v := (0 : Int64)) (by decide) ?_
  refine g_aload_n C.c dX10_isBerg_3 rfl (i := 0) rfl ?_
  refine gf_10_125 C dX10_isBerg_4 ?_
  refine g_iconst C.c dX10_isBerg_7 (v := (1 : Int32)) (by decide) ?_
  refine g_isub C.c dX10_isBerg_8 ?_
  refine g_i2l C.c dX10_isBerg_9 ?_
  obtain ⟨p1, e2, h⟩ := Option.bind_eq_some_iff.mp h
  refine kc_10_102 C dX10_isBerg_10 e2 (Nat.le_of_ble_eq_true rfl) rfl (Nat.le_of_ble_eq_true rfl) ?_
  obtain ⟨c3, h⟩ := chk h
  obtain rfl := Option.some.inj h
  exact g_iret C hQ dX10_isBerg_13 (isB_n c3) ⟨rfl, rfl⟩
def fX10_isBerg (a0 : Int32) (σ : Sg) : Option (Int32 × Sg) := fX10_isBerg_b0 a0 σ
theorem ct_X10_isBerg {a0 : Int32} {σ : Sg} {p : Int32 × Sg} (h : fX10_isBerg a0 σ = some p) : Ct layM yX10_isBerg cX10_isBerg 2 (some .boolean) 2 (fun ad => [.ref (ad 0), .int a0]) σ (okI p) :=
 ct_of (L0 := fun ad => [some (.ref (ad 0)), some (.int a0)]) (by decide) (fun _ => Nat.le_of_ble_eq_true rfl) (fun _ => rfl) (fun K C hQ => g_mask [true, true] rfl (bX10_isBerg_b0 C hQ h))
-- X10_as
theorem dX10_as_0 : decode cX10_as 0 = .ok (.aload_n 0, 1) := by decide +kernel
theorem dX10_as_1 : decode cX10_as 1 = .ok (.iload_n 1, 1) := by decide +kernel
theorem dX10_as_2 : decode cX10_as 2 = .ok (.invokevirtual 159, 3) := by decide +kernel
theorem dX10_as_5 : decode cX10_as 5 = .ok (.ifCond .ne 6, 3) := by decide +kernel
theorem dX10_as_8 : decode cX10_as 8 = .ok (.bipush (-101), 2) := by decide +kernel
theorem dX10_as_10 : decode cX10_as 10 = .ok (.ireturn, 1) := by decide +kernel
theorem dX10_as_11 : decode cX10_as 11 = .ok (.iload_n 2, 1) := by decide +kernel
theorem dX10_as_12 : decode cX10_as 12 = .ok (.i2l, 1) := by decide +kernel
theorem dX10_as_13 : decode cX10_as 13 = .ok (.lconst 0, 1) := by decide +kernel
theorem dX10_as_14 : decode cX10_as 14 = .ok (.ldc2_w 147, 3) := by decide +kernel
theorem dX10_as_17 : decode cX10_as 17 = .ok (.invokestatic 102, 3) := by decide +kernel
theorem dX10_as_20 : decode cX10_as 20 = .ok (.ifCond .ne 6, 3) := by decide +kernel
theorem dX10_as_23 : decode cX10_as 23 = .ok (.bipush (-102), 2) := by decide +kernel
theorem dX10_as_25 : decode cX10_as 25 = .ok (.ireturn, 1) := by decide +kernel
theorem dX10_as_26 : decode cX10_as 26 = .ok (.aload_n 0, 1) := by decide +kernel
theorem dX10_as_27 : decode cX10_as 27 = .ok (.getfield 25, 3) := by decide +kernel
theorem dX10_as_30 : decode cX10_as 30 = .ok (.iconst 5, 1) := by decide +kernel
theorem dX10_as_31 : decode cX10_as 31 = .ok (.iload_n 1, 1) := by decide +kernel
theorem dX10_as_32 : decode cX10_as 32 = .ok (.imul, 1) := by decide +kernel
theorem dX10_as_33 : decode cX10_as 33 = .ok (.iaload, 1) := by decide +kernel
theorem dX10_as_34 : decode cX10_as 34 = .ok (.istore_n 3, 1) := by decide +kernel
theorem dX10_as_35 : decode cX10_as 35 = .ok (.iload_n 2, 1) := by decide +kernel
theorem dX10_as_36 : decode cX10_as 36 = .ok (.ifCond .eq 18, 3) := by decide +kernel
theorem dX10_as_39 : decode cX10_as 39 = .ok (.iload_n 2, 1) := by decide +kernel
theorem dX10_as_40 : decode cX10_as 40 = .ok (.iload_n 3, 1) := by decide +kernel
theorem dX10_as_41 : decode cX10_as 41 = .ok (.if_icmp .eq 13, 3) := by decide +kernel
theorem dX10_as_44 : decode cX10_as 44 = .ok (.iload_n 2, 1) := by decide +kernel
theorem dX10_as_45 : decode cX10_as 45 = .ok (.iconst 1, 1) := by decide +kernel
theorem dX10_as_46 : decode cX10_as 46 = .ok (.if_icmp .ne 12, 3) := by decide +kernel
theorem dX10_as_49 : decode cX10_as 49 = .ok (.iload_n 3, 1) := by decide +kernel
theorem dX10_as_50 : decode cX10_as 50 = .ok (.iconst 4, 1) := by decide +kernel
theorem dX10_as_51 : decode cX10_as 51 = .ok (.if_icmp .ne 7, 3) := by decide +kernel
theorem dX10_as_54 : decode cX10_as 54 = .ok (.iconst 1, 1) := by decide +kernel
theorem dX10_as_55 : decode cX10_as 55 = .ok (.goto 4, 3) := by decide +kernel
theorem dX10_as_58 : decode cX10_as 58 = .ok (.iconst 0, 1) := by decide +kernel
theorem dX10_as_59 : decode cX10_as 59 = .ok (.istore 4, 2) := by decide +kernel
theorem dX10_as_61 : decode cX10_as 61 = .ok (.iload 4, 2) := by decide +kernel
theorem dX10_as_63 : decode cX10_as 63 = .ok (.ifCond .eq 7, 3) := by decide +kernel
theorem dX10_as_66 : decode cX10_as 66 = .ok (.iload_n 1, 1) := by decide +kernel
theorem dX10_as_67 : decode cX10_as 67 = .ok (.goto 4, 3) := by decide +kernel
theorem dX10_as_70 : decode cX10_as 70 = .ok (.iconst (-1), 1) := by decide +kernel
theorem dX10_as_71 : decode cX10_as 71 = .ok (.ireturn, 1) := by decide +kernel
theorem cw_X10_as : Cw yX10_as cX10_as 5 (some .int) 2 := ⟨aw_1015, aw_56, ⟨by decide, by decide⟩, by decide +kernel, by decide⟩
theorem kc_10_159 {K : KT} {cc : ByteArray} {nL d pc : Nat} {ret : Option FieldType} {L : List (Option Value)} {st : List Value} {σ : Sg} (C : Cx K layM cc RX10 nL d ret)  {a0 : Int32}  {p : Int32 × Sg} (hd : decode cc pc = .ok (.invokevirtual 159, 3)) (e : fX10_isBerg a0 σ = some p) (hdd : 2 + 1 ≤ d) (hLn : L.length = nL) (hr : (st.map fun v => v.category).sum ≤ 8) (k : G K (pc + 3) L (.int p.1 :: st) (Wd K layM p.2)) : G K pc L (.int a0 :: .ref (kad K 0) :: st) (Wd K layM σ) :=
  g_callV C (As := [.int a0]) (rest := st) (o := 0) (ci := 10) hd (ct_X10_isBerg e) cw_X10_isBerg (Or.inl aw_1016) aw_1018 aw_27 rfl rfl rfl hdd hLn rfl rfl hr (fun v τ q => by obtain ⟨rfl, rfl⟩ := q; exact k)
def fX10_as_b59 (x1 : Int32) (y0 : Int32) (σ : Sg) : Option (Int32 × Sg) :=
  if y0 = 0 then (some ((-1 : Int32), σ)) else (some (x1, σ))
def fX10_as_b54 (x1 : Int32) (σ : Sg) : Option (Int32 × Sg) :=
  fX10_as_b59 x1 (1 : Int32) σ
def fX10_as_b58 (x1 : Int32) (σ : Sg) : Option (Int32 × Sg) :=
  fX10_as_b59 x1 (0 : Int32) σ
def fX10_as_b0 (x1 : Int32) (x2 : Int32) (σ : Sg) : Option (Int32 × Sg) :=
  Option.bind (fX10_isBerg x1 σ) fun p1 => (if p1.1 = 0 then (some ((-101 : Int32), p1.2)) else (Option.bind (fX10_in ((x2).toInt64) (0 : Int64) (4 : Int64) p1.2) fun p3 => (if p3.1 = 0 then (some ((-102 : Int32), p3.2)) else (if inb ((5 : Int32) * x1) 25 = true then (if x2 = 0 then (fX10_as_b54 x1 p3.2) else (if x2 = (rI p3.2 6 (((5 : Int32) * x1)).toNatClampNeg) then (fX10_as_b54 x1 p3.2) else (if x2 = (1 : Int32) then (if (rI p3.2 6 (((5 : Int32) * x1)).toNatClampNeg) = (4 : Int32) then (fX10_as_b54 x1 p3.2) else (fX10_as_b58 x1 p3.2)) else (fX10_as_b58 x1 p3.2)))) else none))))
set_option maxRecDepth 4000 in
theorem bX10_as_b59 {K : KT} {x1 : Int32} {y0 : Int32} {σ : Sg} {o : Int32 × Sg} (C : Cx K layM cX10_as RX10 5 (3) (some .int))  (hQ : Rk K layM (okI o)) (h : fX10_as_b59 x1 y0 σ = some o) : G K 59 [none, some (.int x1), none, none, none] [.int y0] (Wd K layM σ) := by
  unfold fX10_as_b59 at h
  refine g_istore C.c (i := 4) (L' := [none, some (.int x1), none, none, some (.int y0)]) dX10_as_59 (Nat.le_of_ble_eq_true rfl) rfl ?_
  refine g_iload C.c dX10_as_61 (i := 4) rfl ?_
  refine g_if_eq C.c (tgt := 70) dX10_as_63 (by decide) (fun c => ?_) (fun c => ?_)
  · replace h := ite_t c h
    refine g_iconst C.c dX10_as_70 (v := (-1 : Int32)) (by decide) ?_
    obtain rfl := Option.some.inj h
    exact g_iret C hQ dX10_as_71 rfl ⟨rfl, rfl⟩
  · replace h := ite_f c h
    refine g_iload_n C.c dX10_as_66 rfl (i := 1) rfl ?_
    refine g_goto C.c (tgt := 71) dX10_as_67 (by decide) ?_
    obtain rfl := Option.some.inj h
    exact g_iret C hQ dX10_as_71 rfl ⟨rfl, rfl⟩
set_option maxRecDepth 4000 in
theorem bX10_as_b54 {K : KT} {x1 : Int32} {σ : Sg} {o : Int32 × Sg} (C : Cx K layM cX10_as RX10 5 (3) (some .int))  (hQ : Rk K layM (okI o)) (h : fX10_as_b54 x1 σ = some o) : G K 54 [none, some (.int x1), none, none, none] [] (Wd K layM σ) := by
  unfold fX10_as_b54 at h
  refine g_iconst C.c dX10_as_54 (v := (1 : Int32)) (by decide) ?_
  refine g_goto C.c (tgt := 59) dX10_as_55 (by decide) ?_
  exact g_mask [false, true, false, false, false] rfl (bX10_as_b59 C hQ h)
set_option maxRecDepth 4000 in
theorem bX10_as_b58 {K : KT} {x1 : Int32} {σ : Sg} {o : Int32 × Sg} (C : Cx K layM cX10_as RX10 5 (3) (some .int))  (hQ : Rk K layM (okI o)) (h : fX10_as_b58 x1 σ = some o) : G K 58 [none, some (.int x1), none, none, none] [] (Wd K layM σ) := by
  unfold fX10_as_b58 at h
  refine g_iconst C.c dX10_as_58 (v := (0 : Int32)) (by decide) ?_
  exact g_mask [false, true, false, false, false] rfl (bX10_as_b59 C hQ h)
set_option maxRecDepth 4000 in
theorem bX10_as_b0 {K : KT} {x1 : Int32} {x2 : Int32} {σ : Sg} {o : Int32 × Sg} (C : Cx K layM cX10_as RX10 5 (3) (some .int))  (hQ : Rk K layM (okI o)) (h : fX10_as_b0 x1 x2 σ = some o) : G K 0 [some (.ref (kad K 0)), some (.int x1), some (.int x2), none, none] [] (Wd K layM σ) := by
  unfold fX10_as_b0 at h
  refine g_aload_n C.c dX10_as_0 rfl (i := 0) rfl ?_
  refine g_iload_n C.c dX10_as_1 rfl (i := 1) rfl ?_
  obtain ⟨p1, e2, h⟩ := Option.bind_eq_some_iff.mp h
  refine kc_10_159 C dX10_as_2 e2 (Nat.le_of_ble_eq_true rfl) rfl (Nat.le_of_ble_eq_true rfl) ?_
  refine g_if_ne C.c (tgt := 11) dX10_as_5 (by decide) (fun c => ?_) (fun c => ?_)
  · replace h := ite_f c h
    refine g_iload_n C.c dX10_as_11 rfl (i := 2) rfl ?_
    refine g_i2l C.c dX10_as_12 ?_
    refine g_lconst C.c dX10_as_13 (v := (0 : Int64)) (by decide) ?_
    refine g_ldc2 C.c (v := (4 : Int64)) aw_1006 dX10_as_14 ?_
    obtain ⟨p3, e4, h⟩ := Option.bind_eq_some_iff.mp h
    refine kc_10_102 C dX10_as_17 e4 (Nat.le_of_ble_eq_true rfl) rfl (Nat.le_of_ble_eq_true rfl) ?_
    refine g_if_ne C.c (tgt := 26) dX10_as_20 (by decide) (fun c => ?_) (fun c => ?_)
    · replace h := ite_f c h
      refine g_aload_n C.c dX10_as_26 rfl (i := 0) rfl ?_
      refine gf_10_25 C dX10_as_27 ?_
      refine g_iconst C.c dX10_as_30 (v := (5 : Int32)) (by decide) ?_
      refine g_iload_n C.c dX10_as_31 rfl (i := 1) rfl ?_
      refine g_imul C.c dX10_as_32 ?_
      obtain ⟨c5, h⟩ := chk h
      refine g_iald C dX10_as_33 rfl c5 ?_
      refine g_istore_n C.c (i := 3) (L' := [some (.ref (kad K 0)), some (.int x1), some (.int x2), some (.int (rI p3.2 6 (((5 : Int32) * x1)).toNatClampNeg)), none]) dX10_as_34 rfl (Nat.le_of_ble_eq_true rfl) rfl ?_
      refine g_iload_n C.c dX10_as_35 rfl (i := 2) rfl ?_
      refine g_if_eq C.c (tgt := 54) dX10_as_36 (by decide) (fun c => ?_) (fun c => ?_)
      · replace h := ite_t c h
        exact g_mask [false, true, false, false, false] rfl (bX10_as_b54 C hQ h)
      · replace h := ite_f c h
        refine g_iload_n C.c dX10_as_39 rfl (i := 2) rfl ?_
        refine g_iload_n C.c dX10_as_40 rfl (i := 3) rfl ?_
        refine g_icmp_eq C.c (tgt := 54) dX10_as_41 (by decide) (fun c => ?_) (fun c => ?_)
        · replace h := ite_t c h
          exact g_mask [false, true, false, false, false] rfl (bX10_as_b54 C hQ h)
        · replace h := ite_f c h
          refine g_iload_n C.c dX10_as_44 rfl (i := 2) rfl ?_
          refine g_iconst C.c dX10_as_45 (v := (1 : Int32)) (by decide) ?_
          refine g_icmp_ne C.c (tgt := 58) dX10_as_46 (by decide) (fun c => ?_) (fun c => ?_)
          · replace h := ite_f c h
            exact g_mask [false, true, false, false, false] rfl (bX10_as_b58 C hQ h)
          · replace h := ite_t c h
            refine g_iload_n C.c dX10_as_49 rfl (i := 3) rfl ?_
            refine g_iconst C.c dX10_as_50 (v := (4 : Int32)) (by decide) ?_
            refine g_icmp_ne C.c (tgt := 58) dX10_as_51 (by decide) (fun c => ?_) (fun c => ?_)
            · replace h := ite_f c h
              exact g_mask [false, true, false, false, false] rfl (bX10_as_b58 C hQ h)
            · replace h := ite_t c h
              exact g_mask [false, true, false, false, false] rfl (bX10_as_b54 C hQ h)
    · replace h := ite_t c h
      refine g_bipush C.c dX10_as_23 (v := (-102 : Int32)) (by decide) ?_
      obtain rfl := Option.some.inj h
      exact g_iret C hQ dX10_as_25 rfl ⟨rfl, rfl⟩
  · replace h := ite_t c h
    refine g_bipush C.c dX10_as_8 (v := (-101 : Int32)) (by decide) ?_
    obtain rfl := Option.some.inj h
    exact g_iret C hQ dX10_as_10 rfl ⟨rfl, rfl⟩
def fX10_as (a0 : Int32) (a1 : Int32) (σ : Sg) : Option (Int32 × Sg) := fX10_as_b0 a0 a1 σ
theorem ct_X10_as {a0 : Int32} {a1 : Int32} {σ : Sg} {p : Int32 × Sg} (h : fX10_as a0 a1 σ = some p) : Ct layM yX10_as cX10_as 5 (some .int) 3 (fun ad => [.ref (ad 0), .int a0, .int a1]) σ (okI p) :=
 ct_of (L0 := fun ad => [some (.ref (ad 0)), some (.int a0), some (.int a1), none, none]) (by decide) (fun _ => Nat.le_of_ble_eq_true rfl) (fun _ => rfl) (fun K C hQ => g_mask [true, true, true, false, false] rfl (bX10_as_b0 C hQ h))
-- X10_about
theorem dX10_about_0 : decode cX10_about 0 = .ok (.aload_n 0, 1) := by decide +kernel
theorem dX10_about_1 : decode cX10_about 1 = .ok (.iload_n 1, 1) := by decide +kernel
theorem dX10_about_2 : decode cX10_about 2 = .ok (.invokevirtual 159, 3) := by decide +kernel
theorem dX10_about_5 : decode cX10_about 5 = .ok (.ifCond .ne 6, 3) := by decide +kernel
theorem dX10_about_8 : decode cX10_about 8 = .ok (.bipush (-101), 2) := by decide +kernel
theorem dX10_about_10 : decode cX10_about 10 = .ok (.ireturn, 1) := by decide +kernel
theorem dX10_about_11 : decode cX10_about 11 = .ok (.iload_n 2, 1) := by decide +kernel
theorem dX10_about_12 : decode cX10_about 12 = .ok (.i2l, 1) := by decide +kernel
theorem dX10_about_13 : decode cX10_about 13 = .ok (.lconst 0, 1) := by decide +kernel
theorem dX10_about_14 : decode cX10_about 14 = .ok (.ldc2_w 147, 3) := by decide +kernel
theorem dX10_about_17 : decode cX10_about 17 = .ok (.invokestatic 102, 3) := by decide +kernel
theorem dX10_about_20 : decode cX10_about 20 = .ok (.ifCond .eq 16, 3) := by decide +kernel
theorem dX10_about_23 : decode cX10_about 23 = .ok (.aload_n 0, 1) := by decide +kernel
theorem dX10_about_24 : decode cX10_about 24 = .ok (.getfield 25, 3) := by decide +kernel
theorem dX10_about_27 : decode cX10_about 27 = .ok (.iconst 5, 1) := by decide +kernel
theorem dX10_about_28 : decode cX10_about 28 = .ok (.iload_n 1, 1) := by decide +kernel
theorem dX10_about_29 : decode cX10_about 29 = .ok (.imul, 1) := by decide +kernel
theorem dX10_about_30 : decode cX10_about 30 = .ok (.iload_n 2, 1) := by decide +kernel
theorem dX10_about_31 : decode cX10_about 31 = .ok (.iadd, 1) := by decide +kernel
theorem dX10_about_32 : decode cX10_about 32 = .ok (.iaload, 1) := by decide +kernel
theorem dX10_about_33 : decode cX10_about 33 = .ok (.goto 5, 3) := by decide +kernel
theorem dX10_about_36 : decode cX10_about 36 = .ok (.bipush (-102), 2) := by decide +kernel
theorem dX10_about_38 : decode cX10_about 38 = .ok (.ireturn, 1) := by decide +kernel
theorem cw_X10_about : Cw yX10_about cX10_about 3 (some .int) 2 := ⟨aw_1023, aw_56, ⟨by decide, by decide⟩, by decide +kernel, by decide⟩
def fX10_about_b0 (x1 : Int32) (x2 : Int32) (σ : Sg) : Option (Int32 × Sg) :=
  Option.bind (fX10_isBerg x1 σ) fun p1 => (if p1.1 = 0 then (some ((-101 : Int32), p1.2)) else (Option.bind (fX10_in ((x2).toInt64) (0 : Int64) (4 : Int64) p1.2) fun p3 => (if p3.1 = 0 then (some ((-102 : Int32), p3.2)) else (if inb (((5 : Int32) * x1) + x2) 25 = true then (some ((rI p3.2 6 ((((5 : Int32) * x1) + x2)).toNatClampNeg), p3.2)) else none))))
set_option maxRecDepth 4000 in
theorem bX10_about_b0 {K : KT} {x1 : Int32} {x2 : Int32} {σ : Sg} {o : Int32 × Sg} (C : Cx K layM cX10_about RX10 3 (3) (some .int))  (hQ : Rk K layM (okI o)) (h : fX10_about_b0 x1 x2 σ = some o) : G K 0 [some (.ref (kad K 0)), some (.int x1), some (.int x2)] [] (Wd K layM σ) := by
  unfold fX10_about_b0 at h
  refine g_aload_n C.c dX10_about_0 rfl (i := 0) rfl ?_
  refine g_iload_n C.c dX10_about_1 rfl (i := 1) rfl ?_
  obtain ⟨p1, e2, h⟩ := Option.bind_eq_some_iff.mp h
  refine kc_10_159 C dX10_about_2 e2 (Nat.le_of_ble_eq_true rfl) rfl (Nat.le_of_ble_eq_true rfl) ?_
  refine g_if_ne C.c (tgt := 11) dX10_about_5 (by decide) (fun c => ?_) (fun c => ?_)
  · replace h := ite_f c h
    refine g_iload_n C.c dX10_about_11 rfl (i := 2) rfl ?_
    refine g_i2l C.c dX10_about_12 ?_
    refine g_lconst C.c dX10_about_13 (v := (0 : Int64)) (by decide) ?_
    refine g_ldc2 C.c (v := (4 : Int64)) aw_1006 dX10_about_14 ?_
    obtain ⟨p3, e4, h⟩ := Option.bind_eq_some_iff.mp h
    refine kc_10_102 C dX10_about_17 e4 (Nat.le_of_ble_eq_true rfl) rfl (Nat.le_of_ble_eq_true rfl) ?_
    refine g_if_eq C.c (tgt := 36) dX10_about_20 (by decide) (fun c => ?_) (fun c => ?_)
    · replace h := ite_t c h
      refine g_bipush C.c dX10_about_36 (v := (-102 : Int32)) (by decide) ?_
      obtain rfl := Option.some.inj h
      exact g_iret C hQ dX10_about_38 rfl ⟨rfl, rfl⟩
    · replace h := ite_f c h
      refine g_aload_n C.c dX10_about_23 rfl (i := 0) rfl ?_
      refine gf_10_25 C dX10_about_24 ?_
      refine g_iconst C.c dX10_about_27 (v := (5 : Int32)) (by decide) ?_
      refine g_iload_n C.c dX10_about_28 rfl (i := 1) rfl ?_
      refine g_imul C.c dX10_about_29 ?_
      refine g_iload_n C.c dX10_about_30 rfl (i := 2) rfl ?_
      refine g_iadd C.c dX10_about_31 ?_
      obtain ⟨c5, h⟩ := chk h
      refine g_iald C dX10_about_32 rfl c5 ?_
      refine g_goto C.c (tgt := 38) dX10_about_33 (by decide) ?_
      obtain rfl := Option.some.inj h
      exact g_iret C hQ dX10_about_38 rfl ⟨rfl, rfl⟩
  · replace h := ite_t c h
    refine g_bipush C.c dX10_about_8 (v := (-101 : Int32)) (by decide) ?_
    obtain rfl := Option.some.inj h
    exact g_iret C hQ dX10_about_10 rfl ⟨rfl, rfl⟩
def fX10_about (a0 : Int32) (a1 : Int32) (σ : Sg) : Option (Int32 × Sg) := fX10_about_b0 a0 a1 σ
theorem ct_X10_about {a0 : Int32} {a1 : Int32} {σ : Sg} {p : Int32 × Sg} (h : fX10_about a0 a1 σ = some p) : Ct layM yX10_about cX10_about 3 (some .int) 3 (fun ad => [.ref (ad 0), .int a0, .int a1]) σ (okI p) :=
 ct_of (L0 := fun ad => [some (.ref (ad 0)), some (.int a0), some (.int a1)]) (by decide) (fun _ => Nat.le_of_ble_eq_true rfl) (fun _ => rfl) (fun K C hQ => g_mask [true, true, true] rfl (bX10_about_b0 C hQ h))
-- X10_change
theorem dX10_change_0 : decode cX10_change 0 = .ok (.aload_n 0, 1) := by decide +kernel
theorem dX10_change_1 : decode cX10_change 1 = .ok (.iload_n 1, 1) := by decide +kernel
theorem dX10_change_2 : decode cX10_change 2 = .ok (.invokevirtual 159, 3) := by decide +kernel
theorem dX10_change_5 : decode cX10_change 5 = .ok (.ifCond .ne 6, 3) := by decide +kernel
theorem dX10_change_8 : decode cX10_change 8 = .ok (.bipush (-101), 2) := by decide +kernel
theorem dX10_change_10 : decode cX10_change 10 = .ok (.ireturn, 1) := by decide +kernel
theorem dX10_change_11 : decode cX10_change 11 = .ok (.iload_n 2, 1) := by decide +kernel
theorem dX10_change_12 : decode cX10_change 12 = .ok (.i2l, 1) := by decide +kernel
theorem dX10_change_13 : decode cX10_change 13 = .ok (.ldc2_w 155, 3) := by decide +kernel
theorem dX10_change_16 : decode cX10_change 16 = .ok (.ldc2_w 162, 3) := by decide +kernel
theorem dX10_change_19 : decode cX10_change 19 = .ok (.invokestatic 102, 3) := by decide +kernel
theorem dX10_change_22 : decode cX10_change 22 = .ok (.ifCond .eq 37, 3) := by decide +kernel
theorem dX10_change_25 : decode cX10_change 25 = .ok (.iload_n 2, 1) := by decide +kernel
theorem dX10_change_26 : decode cX10_change 26 = .ok (.iconst 2, 1) := by decide +kernel
theorem dX10_change_27 : decode cX10_change 27 = .ok (.if_icmp .ne 20, 3) := by decide +kernel
theorem dX10_change_30 : decode cX10_change 30 = .ok (.iload_n 3, 1) := by decide +kernel
theorem dX10_change_31 : decode cX10_change 31 = .ok (.i2l, 1) := by decide +kernel
theorem dX10_change_32 : decode cX10_change 32 = .ok (.ldc2_w 149, 3) := by decide +kernel
theorem dX10_change_35 : decode cX10_change 35 = .ok (.ldc2_w 151, 3) := by decide +kernel
theorem dX10_change_38 : decode cX10_change 38 = .ok (.invokestatic 102, 3) := by decide +kernel
theorem dX10_change_41 : decode cX10_change 41 = .ok (.ifCond .eq 18, 3) := by decide +kernel
theorem dX10_change_44 : decode cX10_change 44 = .ok (.goto 18, 3) := by decide +kernel
theorem dX10_change_47 : decode cX10_change 47 = .ok (.iload_n 3, 1) := by decide +kernel
theorem dX10_change_48 : decode cX10_change 48 = .ok (.i2l, 1) := by decide +kernel
theorem dX10_change_49 : decode cX10_change 49 = .ok (.lconst 0, 1) := by decide +kernel
theorem dX10_change_50 : decode cX10_change 50 = .ok (.ldc2_w 153, 3) := by decide +kernel
theorem dX10_change_53 : decode cX10_change 53 = .ok (.invokestatic 102, 3) := by decide +kernel
theorem dX10_change_56 : decode cX10_change 56 = .ok (.ifCond .ne 6, 3) := by decide +kernel
theorem dX10_change_59 : decode cX10_change 59 = .ok (.bipush (-102), 2) := by decide +kernel
theorem dX10_change_61 : decode cX10_change 61 = .ok (.ireturn, 1) := by decide +kernel
theorem dX10_change_62 : decode cX10_change 62 = .ok (.aload_n 0, 1) := by decide +kernel
theorem dX10_change_63 : decode cX10_change 63 = .ok (.getfield 25, 3) := by decide +kernel
theorem dX10_change_66 : decode cX10_change 66 = .ok (.iconst 5, 1) := by decide +kernel
theorem dX10_change_67 : decode cX10_change 67 = .ok (.iload_n 1, 1) := by decide +kernel
theorem dX10_change_68 : decode cX10_change 68 = .ok (.imul, 1) := by decide +kernel
theorem dX10_change_69 : decode cX10_change 69 = .ok (.iload_n 2, 1) := by decide +kernel
theorem dX10_change_70 : decode cX10_change 70 = .ok (.iadd, 1) := by decide +kernel
theorem dX10_change_71 : decode cX10_change 71 = .ok (.iaload, 1) := by decide +kernel
theorem dX10_change_72 : decode cX10_change 72 = .ok (.istore 4, 2) := by decide +kernel
theorem dX10_change_74 : decode cX10_change 74 = .ok (.aload_n 0, 1) := by decide +kernel
theorem dX10_change_75 : decode cX10_change 75 = .ok (.getfield 25, 3) := by decide +kernel
theorem dX10_change_78 : decode cX10_change 78 = .ok (.iconst 5, 1) := by decide +kernel
theorem dX10_change_79 : decode cX10_change 79 = .ok (.iload_n 1, 1) := by decide +kernel
theorem dX10_change_80 : decode cX10_change 80 = .ok (.imul, 1) := by decide +kernel
theorem dX10_change_81 : decode cX10_change 81 = .ok (.iload_n 2, 1) := by decide +kernel
theorem dX10_change_82 : decode cX10_change 82 = .ok (.iadd, 1) := by decide +kernel
theorem dX10_change_83 : decode cX10_change 83 = .ok (.iload_n 3, 1) := by decide +kernel
theorem dX10_change_84 : decode cX10_change 84 = .ok (.iastore, 1) := by decide +kernel
theorem dX10_change_85 : decode cX10_change 85 = .ok (.iload 4, 2) := by decide +kernel
theorem dX10_change_87 : decode cX10_change 87 = .ok (.ireturn, 1) := by decide +kernel
theorem cw_X10_change : Cw yX10_change cX10_change 5 (some .int) 3 := ⟨aw_1027, aw_56, ⟨by decide, by decide⟩, by decide +kernel, by decide⟩
def fX10_change_b62 (x1 : Int32) (x2 : Int32) (x3 : Int32) (σ : Sg) : Option (Int32 × Sg) :=
  if inb (((5 : Int32) * x1) + x2) 25 = true then (if inb (((5 : Int32) * x1) + x2) 25 = true then (some ((rI σ 6 ((((5 : Int32) * x1) + x2)).toNatClampNeg), (wI σ 6 ((((5 : Int32) * x1) + x2)).toNatClampNeg x3))) else none) else none
def fX10_change_b0 (x1 : Int32) (x2 : Int32) (x3 : Int32) (σ : Sg) : Option (Int32 × Sg) :=
  Option.bind (fX10_isBerg x1 σ) fun p1 => (if p1.1 = 0 then (some ((-101 : Int32), p1.2)) else (Option.bind (fX10_in ((x2).toInt64) (2 : Int64) (3 : Int64) p1.2) fun p3 => (if p3.1 = 0 then (some ((-102 : Int32), p3.2)) else (if x2 = (2 : Int32) then (Option.bind (fX10_in ((x3).toInt64) (10 : Int64) (999 : Int64) p3.2) fun p9 => (if p9.1 = 0 then (some ((-102 : Int32), p9.2)) else (fX10_change_b62 x1 x2 x3 p9.2))) else (Option.bind (fX10_in ((x3).toInt64) (0 : Int64) (99 : Int64) p3.2) fun p5 => (if p5.1 = 0 then (some ((-102 : Int32), p5.2)) else (fX10_change_b62 x1 x2 x3 p5.2)))))))
set_option maxRecDepth 4000 in
theorem bX10_change_b62 {K : KT} {x1 : Int32} {x2 : Int32} {x3 : Int32} {σ : Sg} {o : Int32 × Sg} (C : Cx K layM cX10_change RX10 5 (3) (some .int))  (hQ : Rk K layM (okI o)) (h : fX10_change_b62 x1 x2 x3 σ = some o) : G K 62 [some (.ref (kad K 0)), some (.int x1), some (.int x2), some (.int x3), none] [] (Wd K layM σ) := by
  unfold fX10_change_b62 at h
  refine g_aload_n C.c dX10_change_62 rfl (i := 0) rfl ?_
  refine gf_10_25 C dX10_change_63 ?_
  refine g_iconst C.c dX10_change_66 (v := (5 : Int32)) (by decide) ?_
  refine g_iload_n C.c dX10_change_67 rfl (i := 1) rfl ?_
  refine g_imul C.c dX10_change_68 ?_
  refine g_iload_n C.c dX10_change_69 rfl (i := 2) rfl ?_
  refine g_iadd C.c dX10_change_70 ?_
  obtain ⟨c7, h⟩ := chk h
  refine g_iald C dX10_change_71 rfl c7 ?_
  refine g_istore C.c (i := 4) (L' := [some (.ref (kad K 0)), some (.int x1), some (.int x2), some (.int x3), some (.int (rI σ 6 ((((5 : Int32) * x1) + x2)).toNatClampNeg))]) dX10_change_72 (Nat.le_of_ble_eq_true rfl) rfl ?_
  refine g_aload_n C.c dX10_change_74 rfl (i := 0) rfl ?_
  refine gf_10_25 C dX10_change_75 ?_
  refine g_iconst C.c dX10_change_78 (v := (5 : Int32)) (by decide) ?_
  refine g_iload_n C.c dX10_change_79 rfl (i := 1) rfl ?_
  refine g_imul C.c dX10_change_80 ?_
  refine g_iload_n C.c dX10_change_81 rfl (i := 2) rfl ?_
  refine g_iadd C.c dX10_change_82 ?_
  refine g_iload_n C.c dX10_change_83 rfl (i := 3) rfl ?_
  obtain ⟨c8, h⟩ := chk h
  refine g_iast C dX10_change_84 rfl c8 ?_
  refine g_iload C.c dX10_change_85 (i := 4) rfl ?_
  obtain rfl := Option.some.inj h
  exact g_iret C hQ dX10_change_87 rfl ⟨rfl, rfl⟩
set_option maxRecDepth 4000 in
theorem bX10_change_b0 {K : KT} {x1 : Int32} {x2 : Int32} {x3 : Int32} {σ : Sg} {o : Int32 × Sg} (C : Cx K layM cX10_change RX10 5 (3) (some .int))  (hQ : Rk K layM (okI o)) (h : fX10_change_b0 x1 x2 x3 σ = some o) : G K 0 [some (.ref (kad K 0)), some (.int x1), some (.int x2), some (.int x3), none] [] (Wd K layM σ) := by
  unfold fX10_change_b0 at h
  refine g_aload_n C.c dX10_change_0 rfl (i := 0) rfl ?_
  refine g_iload_n C.c dX10_change_1 rfl (i := 1) rfl ?_
  obtain ⟨p1, e2, h⟩ := Option.bind_eq_some_iff.mp h
  refine kc_10_159 C dX10_change_2 e2 (Nat.le_of_ble_eq_true rfl) rfl (Nat.le_of_ble_eq_true rfl) ?_
  refine g_if_ne C.c (tgt := 11) dX10_change_5 (by decide) (fun c => ?_) (fun c => ?_)
  · replace h := ite_f c h
    refine g_iload_n C.c dX10_change_11 rfl (i := 2) rfl ?_
    refine g_i2l C.c dX10_change_12 ?_
    refine g_ldc2 C.c (v := (2 : Int64)) aw_1010 dX10_change_13 ?_
    refine g_ldc2 C.c (v := (3 : Int64)) aw_1028 dX10_change_16 ?_
    obtain ⟨p3, e4, h⟩ := Option.bind_eq_some_iff.mp h
    refine kc_10_102 C dX10_change_19 e4 (Nat.le_of_ble_eq_true rfl) rfl (Nat.le_of_ble_eq_true rfl) ?_
    refine g_if_eq C.c (tgt := 59) dX10_change_22 (by decide) (fun c => ?_) (fun c => ?_)
    · replace h := ite_t c h
      refine g_bipush C.c dX10_change_59 (v := (-102 : Int32)) (by decide) ?_
      obtain rfl := Option.some.inj h
      exact g_iret C hQ dX10_change_61 rfl ⟨rfl, rfl⟩
    · replace h := ite_f c h
      refine g_iload_n C.c dX10_change_25 rfl (i := 2) rfl ?_
      refine g_iconst C.c dX10_change_26 (v := (2 : Int32)) (by decide) ?_
      refine g_icmp_ne C.c (tgt := 47) dX10_change_27 (by decide) (fun c => ?_) (fun c => ?_)
      · replace h := ite_f c h
        refine g_iload_n C.c dX10_change_47 rfl (i := 3) rfl ?_
        refine g_i2l C.c dX10_change_48 ?_
        refine g_lconst C.c dX10_change_49 (v := (0 : Int64)) (by decide) ?_
        refine g_ldc2 C.c (v := (99 : Int64)) aw_1009 dX10_change_50 ?_
        obtain ⟨p5, e6, h⟩ := Option.bind_eq_some_iff.mp h
        refine kc_10_102 C dX10_change_53 e6 (Nat.le_of_ble_eq_true rfl) rfl (Nat.le_of_ble_eq_true rfl) ?_
        refine g_if_ne C.c (tgt := 62) dX10_change_56 (by decide) (fun c => ?_) (fun c => ?_)
        · replace h := ite_f c h
          exact g_mask [true, true, true, true, false] rfl (bX10_change_b62 C hQ h)
        · replace h := ite_t c h
          refine g_bipush C.c dX10_change_59 (v := (-102 : Int32)) (by decide) ?_
          obtain rfl := Option.some.inj h
          exact g_iret C hQ dX10_change_61 rfl ⟨rfl, rfl⟩
      · replace h := ite_t c h
        refine g_iload_n C.c dX10_change_30 rfl (i := 3) rfl ?_
        refine g_i2l C.c dX10_change_31 ?_
        refine g_ldc2 C.c (v := (10 : Int64)) aw_1007 dX10_change_32 ?_
        refine g_ldc2 C.c (v := (999 : Int64)) aw_1008 dX10_change_35 ?_
        obtain ⟨p9, e10, h⟩ := Option.bind_eq_some_iff.mp h
        refine kc_10_102 C dX10_change_38 e10 (Nat.le_of_ble_eq_true rfl) rfl (Nat.le_of_ble_eq_true rfl) ?_
        refine g_if_eq C.c (tgt := 59) dX10_change_41 (by decide) (fun c => ?_) (fun c => ?_)
        · replace h := ite_t c h
          refine g_bipush C.c dX10_change_59 (v := (-102 : Int32)) (by decide) ?_
          obtain rfl := Option.some.inj h
          exact g_iret C hQ dX10_change_61 rfl ⟨rfl, rfl⟩
        · replace h := ite_f c h
          refine g_goto C.c (tgt := 62) dX10_change_44 (by decide) ?_
          exact g_mask [true, true, true, true, false] rfl (bX10_change_b62 C hQ h)
  · replace h := ite_t c h
    refine g_bipush C.c dX10_change_8 (v := (-101 : Int32)) (by decide) ?_
    obtain rfl := Option.some.inj h
    exact g_iret C hQ dX10_change_10 rfl ⟨rfl, rfl⟩
def fX10_change (a0 : Int32) (a1 : Int32) (a2 : Int32) (σ : Sg) : Option (Int32 × Sg) := fX10_change_b0 a0 a1 a2 σ
theorem ct_X10_change {a0 : Int32} {a1 : Int32} {a2 : Int32} {σ : Sg} {p : Int32 × Sg} (h : fX10_change a0 a1 a2 σ = some p) : Ct layM yX10_change cX10_change 5 (some .int) 3 (fun ad => [.ref (ad 0), .int a0, .int a1, .int a2]) σ (okI p) :=
 ct_of (L0 := fun ad => [some (.ref (ad 0)), some (.int a0), some (.int a1), some (.int a2), none]) (by decide) (fun _ => Nat.le_of_ble_eq_true rfl) (fun _ => rfl) (fun K C hQ => g_mask [true, true, true, true, false] rfl (bX10_change_b0 C hQ h))
-- X10_coin
theorem dX10_coin_0 : decode cX10_coin 0 = .ok (.iload_n 1, 1) := by decide +kernel
theorem dX10_coin_1 : decode cX10_coin 1 = .ok (.i2l, 1) := by decide +kernel
theorem dX10_coin_2 : decode cX10_coin 2 = .ok (.lconst 0, 1) := by decide +kernel
theorem dX10_coin_3 : decode cX10_coin 3 = .ok (.ldc2_w 155, 3) := by decide +kernel
theorem dX10_coin_6 : decode cX10_coin 6 = .ok (.invokestatic 102, 3) := by decide +kernel
theorem dX10_coin_9 : decode cX10_coin 9 = .ok (.ifCond .eq 34, 3) := by decide +kernel
theorem dX10_coin_12 : decode cX10_coin 12 = .ok (.iload_n 2, 1) := by decide +kernel
theorem dX10_coin_13 : decode cX10_coin 13 = .ok (.i2l, 1) := by decide +kernel
theorem dX10_coin_14 : decode cX10_coin 14 = .ok (.iload_n 1, 1) := by decide +kernel
theorem dX10_coin_15 : decode cX10_coin 15 = .ok (.ifCond .ne 7, 3) := by decide +kernel
theorem dX10_coin_18 : decode cX10_coin 18 = .ok (.lconst 1, 1) := by decide +kernel
theorem dX10_coin_19 : decode cX10_coin 19 = .ok (.goto 4, 3) := by decide +kernel
theorem dX10_coin_22 : decode cX10_coin 22 = .ok (.lconst 0, 1) := by decide +kernel
theorem dX10_coin_23 : decode cX10_coin 23 = .ok (.iload_n 1, 1) := by decide +kernel
theorem dX10_coin_24 : decode cX10_coin 24 = .ok (.iconst 2, 1) := by decide +kernel
theorem dX10_coin_25 : decode cX10_coin 25 = .ok (.if_icmp .ne 9, 3) := by decide +kernel
theorem dX10_coin_28 : decode cX10_coin 28 = .ok (.ldc2_w 153, 3) := by decide +kernel
theorem dX10_coin_31 : decode cX10_coin 31 = .ok (.goto 6, 3) := by decide +kernel
theorem dX10_coin_34 : decode cX10_coin 34 = .ok (.ldc2_w 157, 3) := by decide +kernel
theorem dX10_coin_37 : decode cX10_coin 37 = .ok (.invokestatic 102, 3) := by decide +kernel
theorem dX10_coin_40 : decode cX10_coin 40 = .ok (.ifCond .ne 6, 3) := by decide +kernel
theorem dX10_coin_43 : decode cX10_coin 43 = .ok (.bipush (-102), 2) := by decide +kernel
theorem dX10_coin_45 : decode cX10_coin 45 = .ok (.ireturn, 1) := by decide +kernel
theorem dX10_coin_46 : decode cX10_coin 46 = .ok (.iload_n 1, 1) := by decide +kernel
theorem dX10_coin_47 : decode cX10_coin 47 = .ok (.ifCond .ne 10, 3) := by decide +kernel
theorem dX10_coin_50 : decode cX10_coin 50 = .ok (.aload_n 0, 1) := by decide +kernel
theorem dX10_coin_51 : decode cX10_coin 51 = .ok (.getfield 63, 3) := by decide +kernel
theorem dX10_coin_54 : decode cX10_coin 54 = .ok (.goto 19, 3) := by decide +kernel
theorem dX10_coin_57 : decode cX10_coin 57 = .ok (.iload_n 1, 1) := by decide +kernel
theorem dX10_coin_58 : decode cX10_coin 58 = .ok (.iconst 1, 1) := by decide +kernel
theorem dX10_coin_59 : decode cX10_coin 59 = .ok (.if_icmp .ne 10, 3) := by decide +kernel
theorem dX10_coin_62 : decode cX10_coin 62 = .ok (.aload_n 0, 1) := by decide +kernel
theorem dX10_coin_63 : decode cX10_coin 63 = .ok (.getfield 66, 3) := by decide +kernel
theorem dX10_coin_66 : decode cX10_coin 66 = .ok (.goto 7, 3) := by decide +kernel
theorem dX10_coin_69 : decode cX10_coin 69 = .ok (.aload_n 0, 1) := by decide +kernel
theorem dX10_coin_70 : decode cX10_coin 70 = .ok (.getfield 69, 3) := by decide +kernel
theorem dX10_coin_73 : decode cX10_coin 73 = .ok (.istore_n 3, 1) := by decide +kernel
theorem dX10_coin_74 : decode cX10_coin 74 = .ok (.aload_n 0, 1) := by decide +kernel
theorem dX10_coin_75 : decode cX10_coin 75 = .ok (.iload_n 1, 1) := by decide +kernel
theorem dX10_coin_76 : decode cX10_coin 76 = .ok (.ifCond .ne 7, 3) := by decide +kernel
theorem dX10_coin_79 : decode cX10_coin 79 = .ok (.iload_n 2, 1) := by decide +kernel
theorem dX10_coin_80 : decode cX10_coin 80 = .ok (.goto 7, 3) := by decide +kernel
theorem dX10_coin_83 : decode cX10_coin 83 = .ok (.aload_n 0, 1) := by decide +kernel
theorem dX10_coin_84 : decode cX10_coin 84 = .ok (.getfield 63, 3) := by decide +kernel
theorem dX10_coin_87 : decode cX10_coin 87 = .ok (.putfield 63, 3) := by decide +kernel
theorem dX10_coin_90 : decode cX10_coin 90 = .ok (.aload_n 0, 1) := by decide +kernel
theorem dX10_coin_91 : decode cX10_coin 91 = .ok (.iload_n 1, 1) := by decide +kernel
theorem dX10_coin_92 : decode cX10_coin 92 = .ok (.iconst 1, 1) := by decide +kernel
theorem dX10_coin_93 : decode cX10_coin 93 = .ok (.if_icmp .ne 7, 3) := by decide +kernel
theorem dX10_coin_96 : decode cX10_coin 96 = .ok (.iload_n 2, 1) := by decide +kernel
theorem dX10_coin_97 : decode cX10_coin 97 = .ok (.goto 7, 3) := by decide +kernel
theorem dX10_coin_100 : decode cX10_coin 100 = .ok (.aload_n 0, 1) := by decide +kernel
theorem dX10_coin_101 : decode cX10_coin 101 = .ok (.getfield 66, 3) := by decide +kernel
theorem dX10_coin_104 : decode cX10_coin 104 = .ok (.putfield 66, 3) := by decide +kernel
theorem dX10_coin_107 : decode cX10_coin 107 = .ok (.aload_n 0, 1) := by decide +kernel
theorem dX10_coin_108 : decode cX10_coin 108 = .ok (.iload_n 1, 1) := by decide +kernel
theorem dX10_coin_109 : decode cX10_coin 109 = .ok (.iconst 2, 1) := by decide +kernel
theorem dX10_coin_110 : decode cX10_coin 110 = .ok (.if_icmp .ne 7, 3) := by decide +kernel
theorem dX10_coin_113 : decode cX10_coin 113 = .ok (.iload_n 2, 1) := by decide +kernel
theorem dX10_coin_114 : decode cX10_coin 114 = .ok (.goto 7, 3) := by decide +kernel
theorem dX10_coin_117 : decode cX10_coin 117 = .ok (.aload_n 0, 1) := by decide +kernel
theorem dX10_coin_118 : decode cX10_coin 118 = .ok (.getfield 69, 3) := by decide +kernel
theorem dX10_coin_121 : decode cX10_coin 121 = .ok (.putfield 69, 3) := by decide +kernel
theorem dX10_coin_124 : decode cX10_coin 124 = .ok (.iload_n 3, 1) := by decide +kernel
theorem dX10_coin_125 : decode cX10_coin 125 = .ok (.ireturn, 1) := by decide +kernel
theorem cw_X10_coin : Cw yX10_coin cX10_coin 4 (some .int) 2 := ⟨aw_1032, aw_56, ⟨by decide, by decide⟩, by decide +kernel, by decide⟩
theorem gf_10_69 {K : KT} {cc : ByteArray} {nL d pc : Nat} {ret : Option FieldType} {L : List (Option Value)} {st : List Value} {σ : Sg} (C : Cx K layM cc RX10 nL d ret)  (hd : decode cc pc = .ok (.getfield 69, 3)) (k : G K (pc + 3) L (.int (rI σ 0 19) :: st) (Wd K layM σ)) : G K pc L (.ref (kad K 0) :: st) (Wd K layM σ) := g_get C (o := 0) (ci := 10) (k := 19) hd rfl rfl rfl (by decide) (Or.inl aw_808) inA10 rfl k
theorem gf_10_63 {K : KT} {cc : ByteArray} {nL d pc : Nat} {ret : Option FieldType} {L : List (Option Value)} {st : List Value} {σ : Sg} (C : Cx K layM cc RX10 nL d ret)  (hd : decode cc pc = .ok (.getfield 63, 3)) (k : G K (pc + 3) L (.int (rI σ 0 17) :: st) (Wd K layM σ)) : G K pc L (.ref (kad K 0) :: st) (Wd K layM σ) := g_get C (o := 0) (ci := 10) (k := 17) hd rfl rfl rfl (by decide) (Or.inl aw_806) inA10 rfl k
theorem pf_10_63 {K : KT} {cc : ByteArray} {nL d pc : Nat} {ret : Option FieldType} {L : List (Option Value)} {st : List Value} {σ : Sg} (C : Cx K layM cc RX10 nL d ret)  {v : Int32}  (hd : decode cc pc = .ok (.putfield 63, 3)) (k : G K (pc + 3) L st (Wd K layM (wI σ 0 17 v))) : G K pc L (.int v :: .ref (kad K 0) :: st) (Wd K layM σ) := g_putI C (o := 0) (ci := 10) (k := 17) hd rfl rfl rfl (by decide) (Or.inl aw_806) inA10 tyX10_ok nmX10 rfl rfl rfl k
theorem gf_10_66 {K : KT} {cc : ByteArray} {nL d pc : Nat} {ret : Option FieldType} {L : List (Option Value)} {st : List Value} {σ : Sg} (C : Cx K layM cc RX10 nL d ret)  (hd : decode cc pc = .ok (.getfield 66, 3)) (k : G K (pc + 3) L (.int (rI σ 0 18) :: st) (Wd K layM σ)) : G K pc L (.ref (kad K 0) :: st) (Wd K layM σ) := g_get C (o := 0) (ci := 10) (k := 18) hd rfl rfl rfl (by decide) (Or.inl aw_807) inA10 rfl k
theorem pf_10_66 {K : KT} {cc : ByteArray} {nL d pc : Nat} {ret : Option FieldType} {L : List (Option Value)} {st : List Value} {σ : Sg} (C : Cx K layM cc RX10 nL d ret)  {v : Int32}  (hd : decode cc pc = .ok (.putfield 66, 3)) (k : G K (pc + 3) L st (Wd K layM (wI σ 0 18 v))) : G K pc L (.int v :: .ref (kad K 0) :: st) (Wd K layM σ) := g_putI C (o := 0) (ci := 10) (k := 18) hd rfl rfl rfl (by decide) (Or.inl aw_807) inA10 tyX10_ok nmX10 rfl rfl rfl k
theorem pf_10_69 {K : KT} {cc : ByteArray} {nL d pc : Nat} {ret : Option FieldType} {L : List (Option Value)} {st : List Value} {σ : Sg} (C : Cx K layM cc RX10 nL d ret)  {v : Int32}  (hd : decode cc pc = .ok (.putfield 69, 3)) (k : G K (pc + 3) L st (Wd K layM (wI σ 0 19 v))) : G K pc L (.int v :: .ref (kad K 0) :: st) (Wd K layM σ) := g_putI C (o := 0) (ci := 10) (k := 19) hd rfl rfl rfl (by decide) (Or.inl aw_808) inA10 tyX10_ok nmX10 rfl rfl rfl k
def fX10_coin_b104 (x1 : Int32) (x2 : Int32) (x3 : Int32) (y0 : Int32) (σ : Sg) : Option (Int32 × Sg) :=
  if x1 = (2 : Int32) then (some (x3, (wI (wI σ 0 18 y0) 0 19 x2))) else (some (x3, (wI (wI σ 0 18 y0) 0 19 (rI (wI σ 0 18 y0) 0 19))))
def fX10_coin_b87 (x1 : Int32) (x2 : Int32) (x3 : Int32) (y0 : Int32) (σ : Sg) : Option (Int32 × Sg) :=
  if x1 = (1 : Int32) then (fX10_coin_b104 x1 x2 x3 x2 (wI σ 0 17 y0)) else (fX10_coin_b104 x1 x2 x3 (rI (wI σ 0 17 y0) 0 18) (wI σ 0 17 y0))
def fX10_coin_b73 (x1 : Int32) (x2 : Int32) (y0 : Int32) (σ : Sg) : Option (Int32 × Sg) :=
  if x1 = 0 then (fX10_coin_b87 x1 x2 y0 x2 σ) else (fX10_coin_b87 x1 x2 y0 (rI σ 0 17) σ)
def fX10_coin_b37 (x1 : Int32) (x2 : Int32) (y0 : Int64) (y1 : Int64) (y2 : Int64) (σ : Sg) : Option (Int32 × Sg) :=
  Option.bind (fX10_in y2 y1 y0 σ) fun p3 => (if p3.1 = 0 then (some ((-102 : Int32), p3.2)) else (if x1 = 0 then (fX10_coin_b73 x1 x2 (rI p3.2 0 17) p3.2) else (if x1 = (1 : Int32) then (fX10_coin_b73 x1 x2 (rI p3.2 0 18) p3.2) else (fX10_coin_b73 x1 x2 (rI p3.2 0 19) p3.2))))
def fX10_coin_b23 (x1 : Int32) (x2 : Int32) (y0 : Int64) (y1 : Int64) (σ : Sg) : Option (Int32 × Sg) :=
  if x1 = (2 : Int32) then (fX10_coin_b37 x1 x2 (99 : Int64) y0 y1 σ) else (fX10_coin_b37 x1 x2 (9 : Int64) y0 y1 σ)
def fX10_coin_b0 (x1 : Int32) (x2 : Int32) (σ : Sg) : Option (Int32 × Sg) :=
  Option.bind (fX10_in ((x1).toInt64) (0 : Int64) (2 : Int64) σ) fun p1 => (if p1.1 = 0 then (some ((-102 : Int32), p1.2)) else (if x1 = 0 then (fX10_coin_b23 x1 x2 (1 : Int64) ((x2).toInt64) p1.2) else (fX10_coin_b23 x1 x2 (0 : Int64) ((x2).toInt64) p1.2)))
set_option maxRecDepth 4000 in
theorem bX10_coin_b104 {K : KT} {x1 : Int32} {x2 : Int32} {x3 : Int32} {y0 : Int32} {σ : Sg} {o : Int32 × Sg} (C : Cx K layM cX10_coin RX10 4 (2) (some .int))  (hQ : Rk K layM (okI o)) (h : fX10_coin_b104 x1 x2 x3 y0 σ = some o) : G K 104 [some (.ref (kad K 0)), some (.int x1), some (.int x2), some (.int x3)] [.int y0, .ref (kad K 0)] (Wd K layM σ) := by
  unfold fX10_coin_b104 at h
  refine pf_10_66 C dX10_coin_104 ?_
  refine g_aload_n C.c dX10_coin_107 rfl (i := 0) rfl ?_
  refine g_iload_n C.c dX10_coin_108 rfl (i := 1) rfl ?_
  refine g_iconst C.c dX10_coin_109 (v := (2 : Int32)) (by decide) ?_
  refine g_icmp_ne C.c (tgt := 117) dX10_coin_110 (by decide) (fun c => ?_) (fun c => ?_)
  · replace h := ite_f c h
    refine g_aload_n C.c dX10_coin_117 rfl (i := 0) rfl ?_
    refine gf_10_69 C dX10_coin_118 ?_
    refine pf_10_69 C dX10_coin_121 ?_
    refine g_iload_n C.c dX10_coin_124 rfl (i := 3) rfl ?_
    obtain rfl := Option.some.inj h
    exact g_iret C hQ dX10_coin_125 rfl ⟨rfl, rfl⟩
  · replace h := ite_t c h
    refine g_iload_n C.c dX10_coin_113 rfl (i := 2) rfl ?_
    refine g_goto C.c (tgt := 121) dX10_coin_114 (by decide) ?_
    refine pf_10_69 C dX10_coin_121 ?_
    refine g_iload_n C.c dX10_coin_124 rfl (i := 3) rfl ?_
    obtain rfl := Option.some.inj h
    exact g_iret C hQ dX10_coin_125 rfl ⟨rfl, rfl⟩
set_option maxRecDepth 4000 in
theorem bX10_coin_b87 {K : KT} {x1 : Int32} {x2 : Int32} {x3 : Int32} {y0 : Int32} {σ : Sg} {o : Int32 × Sg} (C : Cx K layM cX10_coin RX10 4 (2) (some .int))  (hQ : Rk K layM (okI o)) (h : fX10_coin_b87 x1 x2 x3 y0 σ = some o) : G K 87 [some (.ref (kad K 0)), some (.int x1), some (.int x2), some (.int x3)] [.int y0, .ref (kad K 0)] (Wd K layM σ) := by
  unfold fX10_coin_b87 at h
  refine pf_10_63 C dX10_coin_87 ?_
  refine g_aload_n C.c dX10_coin_90 rfl (i := 0) rfl ?_
  refine g_iload_n C.c dX10_coin_91 rfl (i := 1) rfl ?_
  refine g_iconst C.c dX10_coin_92 (v := (1 : Int32)) (by decide) ?_
  refine g_icmp_ne C.c (tgt := 100) dX10_coin_93 (by decide) (fun c => ?_) (fun c => ?_)
  · replace h := ite_f c h
    refine g_aload_n C.c dX10_coin_100 rfl (i := 0) rfl ?_
    refine gf_10_66 C dX10_coin_101 ?_
    exact g_mask [true, true, true, true] rfl (bX10_coin_b104 C hQ h)
  · replace h := ite_t c h
    refine g_iload_n C.c dX10_coin_96 rfl (i := 2) rfl ?_
    refine g_goto C.c (tgt := 104) dX10_coin_97 (by decide) ?_
    exact g_mask [true, true, true, true] rfl (bX10_coin_b104 C hQ h)
set_option maxRecDepth 4000 in
theorem bX10_coin_b73 {K : KT} {x1 : Int32} {x2 : Int32} {y0 : Int32} {σ : Sg} {o : Int32 × Sg} (C : Cx K layM cX10_coin RX10 4 (2) (some .int))  (hQ : Rk K layM (okI o)) (h : fX10_coin_b73 x1 x2 y0 σ = some o) : G K 73 [some (.ref (kad K 0)), some (.int x1), some (.int x2), none] [.int y0] (Wd K layM σ) := by
  unfold fX10_coin_b73 at h
  refine g_istore_n C.c (i := 3) (L' := [some (.ref (kad K 0)), some (.int x1), some (.int x2), some (.int y0)]) dX10_coin_73 rfl (Nat.le_of_ble_eq_true rfl) rfl ?_
  refine g_aload_n C.c dX10_coin_74 rfl (i := 0) rfl ?_
  refine g_iload_n C.c dX10_coin_75 rfl (i := 1) rfl ?_
  refine g_if_ne C.c (tgt := 83) dX10_coin_76 (by decide) (fun c => ?_) (fun c => ?_)
  · replace h := ite_f c h
    refine g_aload_n C.c dX10_coin_83 rfl (i := 0) rfl ?_
    refine gf_10_63 C dX10_coin_84 ?_
    exact g_mask [true, true, true, true] rfl (bX10_coin_b87 C hQ h)
  · replace h := ite_t c h
    refine g_iload_n C.c dX10_coin_79 rfl (i := 2) rfl ?_
    refine g_goto C.c (tgt := 87) dX10_coin_80 (by decide) ?_
    exact g_mask [true, true, true, true] rfl (bX10_coin_b87 C hQ h)
set_option maxRecDepth 4000 in
theorem bX10_coin_b37 {K : KT} {x1 : Int32} {x2 : Int32} {y0 : Int64} {y1 : Int64} {y2 : Int64} {σ : Sg} {o : Int32 × Sg} (C : Cx K layM cX10_coin RX10 4 (2) (some .int))  (hQ : Rk K layM (okI o)) (h : fX10_coin_b37 x1 x2 y0 y1 y2 σ = some o) : G K 37 [some (.ref (kad K 0)), some (.int x1), some (.int x2), none] [.long y0, .long y1, .long y2] (Wd K layM σ) := by
  unfold fX10_coin_b37 at h
  obtain ⟨p3, e4, h⟩ := Option.bind_eq_some_iff.mp h
  refine kc_10_102 C dX10_coin_37 e4 (Nat.le_of_ble_eq_true rfl) rfl (Nat.le_of_ble_eq_true rfl) ?_
  refine g_if_ne C.c (tgt := 46) dX10_coin_40 (by decide) (fun c => ?_) (fun c => ?_)
  · replace h := ite_f c h
    refine g_iload_n C.c dX10_coin_46 rfl (i := 1) rfl ?_
    refine g_if_ne C.c (tgt := 57) dX10_coin_47 (by decide) (fun c => ?_) (fun c => ?_)
    · replace h := ite_f c h
      refine g_iload_n C.c dX10_coin_57 rfl (i := 1) rfl ?_
      refine g_iconst C.c dX10_coin_58 (v := (1 : Int32)) (by decide) ?_
      refine g_icmp_ne C.c (tgt := 69) dX10_coin_59 (by decide) (fun c => ?_) (fun c => ?_)
      · replace h := ite_f c h
        refine g_aload_n C.c dX10_coin_69 rfl (i := 0) rfl ?_
        refine gf_10_69 C dX10_coin_70 ?_
        exact g_mask [true, true, true, false] rfl (bX10_coin_b73 C hQ h)
      · replace h := ite_t c h
        refine g_aload_n C.c dX10_coin_62 rfl (i := 0) rfl ?_
        refine gf_10_66 C dX10_coin_63 ?_
        refine g_goto C.c (tgt := 73) dX10_coin_66 (by decide) ?_
        exact g_mask [true, true, true, false] rfl (bX10_coin_b73 C hQ h)
    · replace h := ite_t c h
      refine g_aload_n C.c dX10_coin_50 rfl (i := 0) rfl ?_
      refine gf_10_63 C dX10_coin_51 ?_
      refine g_goto C.c (tgt := 73) dX10_coin_54 (by decide) ?_
      exact g_mask [true, true, true, false] rfl (bX10_coin_b73 C hQ h)
  · replace h := ite_t c h
    refine g_bipush C.c dX10_coin_43 (v := (-102 : Int32)) (by decide) ?_
    obtain rfl := Option.some.inj h
    exact g_iret C hQ dX10_coin_45 rfl ⟨rfl, rfl⟩
set_option maxRecDepth 4000 in
theorem bX10_coin_b23 {K : KT} {x1 : Int32} {x2 : Int32} {y0 : Int64} {y1 : Int64} {σ : Sg} {o : Int32 × Sg} (C : Cx K layM cX10_coin RX10 4 (2) (some .int))  (hQ : Rk K layM (okI o)) (h : fX10_coin_b23 x1 x2 y0 y1 σ = some o) : G K 23 [some (.ref (kad K 0)), some (.int x1), some (.int x2), none] [.long y0, .long y1] (Wd K layM σ) := by
  unfold fX10_coin_b23 at h
  refine g_iload_n C.c dX10_coin_23 rfl (i := 1) rfl ?_
  refine g_iconst C.c dX10_coin_24 (v := (2 : Int32)) (by decide) ?_
  refine g_icmp_ne C.c (tgt := 34) dX10_coin_25 (by decide) (fun c => ?_) (fun c => ?_)
  · replace h := ite_f c h
    refine g_ldc2 C.c (v := (9 : Int64)) aw_1011 dX10_coin_34 ?_
    exact g_mask [true, true, true, false] rfl (bX10_coin_b37 C hQ h)
  · replace h := ite_t c h
    refine g_ldc2 C.c (v := (99 : Int64)) aw_1009 dX10_coin_28 ?_
    refine g_goto C.c (tgt := 37) dX10_coin_31 (by decide) ?_
    exact g_mask [true, true, true, false] rfl (bX10_coin_b37 C hQ h)
set_option maxRecDepth 4000 in
theorem bX10_coin_b0 {K : KT} {x1 : Int32} {x2 : Int32} {σ : Sg} {o : Int32 × Sg} (C : Cx K layM cX10_coin RX10 4 (2) (some .int))  (hQ : Rk K layM (okI o)) (h : fX10_coin_b0 x1 x2 σ = some o) : G K 0 [some (.ref (kad K 0)), some (.int x1), some (.int x2), none] [] (Wd K layM σ) := by
  unfold fX10_coin_b0 at h
  refine g_iload_n C.c dX10_coin_0 rfl (i := 1) rfl ?_
  refine g_i2l C.c dX10_coin_1 ?_
  refine g_lconst C.c dX10_coin_2 (v := (0 : Int64)) (by decide) ?_
  refine g_ldc2 C.c (v := (2 : Int64)) aw_1010 dX10_coin_3 ?_
  obtain ⟨p1, e2, h⟩ := Option.bind_eq_some_iff.mp h
  refine kc_10_102 C dX10_coin_6 e2 (Nat.le_of_ble_eq_true rfl) rfl (Nat.le_of_ble_eq_true rfl) ?_
  refine g_if_eq C.c (tgt := 43) dX10_coin_9 (by decide) (fun c => ?_) (fun c => ?_)
  · replace h := ite_t c h
    refine g_bipush C.c dX10_coin_43 (v := (-102 : Int32)) (by decide) ?_
    obtain rfl := Option.some.inj h
    exact g_iret C hQ dX10_coin_45 rfl ⟨rfl, rfl⟩
  · replace h := ite_f c h
    refine g_iload_n C.c dX10_coin_12 rfl (i := 2) rfl ?_
    refine g_i2l C.c dX10_coin_13 ?_
    refine g_iload_n C.c dX10_coin_14 rfl (i := 1) rfl ?_
    refine g_if_ne C.c (tgt := 22) dX10_coin_15 (by decide) (fun c => ?_) (fun c => ?_)
    · replace h := ite_f c h
      refine g_lconst C.c dX10_coin_22 (v := (0 : Int64)) (by decide) ?_
      exact g_mask [true, true, true, false] rfl (bX10_coin_b23 C hQ h)
    · replace h := ite_t c h
      refine g_lconst C.c dX10_coin_18 (v := (1 : Int64)) (by decide) ?_
      refine g_goto C.c (tgt := 23) dX10_coin_19 (by decide) ?_
      exact g_mask [true, true, true, false] rfl (bX10_coin_b23 C hQ h)
def fX10_coin (a0 : Int32) (a1 : Int32) (σ : Sg) : Option (Int32 × Sg) := fX10_coin_b0 a0 a1 σ
theorem ct_X10_coin {a0 : Int32} {a1 : Int32} {σ : Sg} {p : Int32 × Sg} (h : fX10_coin a0 a1 σ = some p) : Ct layM yX10_coin cX10_coin 4 (some .int) 2 (fun ad => [.ref (ad 0), .int a0, .int a1]) σ (okI p) :=
 ct_of (L0 := fun ad => [some (.ref (ad 0)), some (.int a0), some (.int a1), none]) (by decide) (fun _ => Nat.le_of_ble_eq_true rfl) (fun _ => rfl) (fun K C hQ => g_mask [true, true, true, false] rfl (bX10_coin_b0 C hQ h))
-- X10_draw
theorem dX10_draw_0 : decode cX10_draw 0 = .ok (.aload_n 0, 1) := by decide +kernel
theorem dX10_draw_1 : decode cX10_draw 1 = .ok (.ldc2_w 164, 3) := by decide +kernel
theorem dX10_draw_4 : decode cX10_draw 4 = .ok (.aload_n 0, 1) := by decide +kernel
theorem dX10_draw_5 : decode cX10_draw 5 = .ok (.getfield 166, 3) := by decide +kernel
theorem dX10_draw_8 : decode cX10_draw 8 = .ok (.i2l, 1) := by decide +kernel
theorem dX10_draw_9 : decode cX10_draw 9 = .ok (.lmul, 1) := by decide +kernel
theorem dX10_draw_10 : decode cX10_draw 10 = .ok (.ldc2_w 169, 3) := by decide +kernel
theorem dX10_draw_13 : decode cX10_draw 13 = .ok (.ladd, 1) := by decide +kernel
theorem dX10_draw_14 : decode cX10_draw 14 = .ok (.ldc2_w 171, 3) := by decide +kernel
theorem dX10_draw_17 : decode cX10_draw 17 = .ok (.land, 1) := by decide +kernel
theorem dX10_draw_18 : decode cX10_draw 18 = .ok (.l2i, 1) := by decide +kernel
theorem dX10_draw_19 : decode cX10_draw 19 = .ok (.putfield 166, 3) := by decide +kernel
theorem dX10_draw_22 : decode cX10_draw 22 = .ok (.aload_n 0, 1) := by decide +kernel
theorem dX10_draw_23 : decode cX10_draw 23 = .ok (.getfield 166, 3) := by decide +kernel
theorem dX10_draw_26 : decode cX10_draw 26 = .ok (.ldc 173, 2) := by decide +kernel
theorem dX10_draw_28 : decode cX10_draw 28 = .ok (.idiv, 1) := by decide +kernel
theorem dX10_draw_29 : decode cX10_draw 29 = .ok (.iload_n 1, 1) := by decide +kernel
theorem dX10_draw_30 : decode cX10_draw 30 = .ok (.irem, 1) := by decide +kernel
theorem dX10_draw_31 : decode cX10_draw 31 = .ok (.ireturn, 1) := by decide +kernel
theorem cw_X10_draw : Cw yX10_draw cX10_draw 2 (some .int) 1 := ⟨aw_1082, aw_56, ⟨by decide, by decide⟩, by decide +kernel, by decide⟩
theorem gf_10_166 {K : KT} {cc : ByteArray} {nL d pc : Nat} {ret : Option FieldType} {L : List (Option Value)} {st : List Value} {σ : Sg} (C : Cx K layM cc RX10 nL d ret)  (hd : decode cc pc = .ok (.getfield 166, 3)) (k : G K (pc + 3) L (.int (rI σ 0 29) :: st) (Wd K layM σ)) : G K pc L (.ref (kad K 0) :: st) (Wd K layM σ) := g_get C (o := 0) (ci := 10) (k := 29) hd rfl rfl rfl (by decide) (Or.inl aw_818) inA10 rfl k
theorem pf_10_166 {K : KT} {cc : ByteArray} {nL d pc : Nat} {ret : Option FieldType} {L : List (Option Value)} {st : List Value} {σ : Sg} (C : Cx K layM cc RX10 nL d ret)  {v : Int32}  (hd : decode cc pc = .ok (.putfield 166, 3)) (k : G K (pc + 3) L st (Wd K layM (wI σ 0 29 v))) : G K pc L (.int v :: .ref (kad K 0) :: st) (Wd K layM σ) := g_putI C (o := 0) (ci := 10) (k := 29) hd rfl rfl rfl (by decide) (Or.inl aw_818) inA10 tyX10_ok nmX10 rfl rfl rfl k
def fX10_draw_b0 (x1 : Int32) (σ : Sg) : Option (Int32 × Sg) :=
  if x1 = 0 then none else some ((((rI (wI σ 0 29 ((((((1103515245 : Int64) * ((rI σ 0 29)).toInt64) + (12345 : Int64)) &&& (2147483647 : Int64))).toInt32)) 0 29) / (65536 : Int32)) - ((rI (wI σ 0 29 ((((((1103515245 : Int64) * ((rI σ 0 29)).toInt64) + (12345 : Int64)) &&& (2147483647 : Int64))).toInt32)) 0 29) / (65536 : Int32)) / x1 * x1), (wI σ 0 29 ((((((1103515245 : Int64) * ((rI σ 0 29)).toInt64) + (12345 : Int64)) &&& (2147483647 : Int64))).toInt32)))
set_option maxRecDepth 4000 in
theorem bX10_draw_b0 {K : KT} {x1 : Int32} {σ : Sg} {o : Int32 × Sg} (C : Cx K layM cX10_draw RX10 2 (1) (some .int))  (hQ : Rk K layM (okI o)) (h : fX10_draw_b0 x1 σ = some o) : G K 0 [some (.ref (kad K 0)), some (.int x1)] [] (Wd K layM σ) := by
  unfold fX10_draw_b0 at h
  refine g_aload_n C.c dX10_draw_0 rfl (i := 0) rfl ?_
  refine g_ldc2 C.c (v := (1103515245 : Int64)) aw_1083 dX10_draw_1 ?_
  refine g_aload_n C.c dX10_draw_4 rfl (i := 0) rfl ?_
  refine gf_10_166 C dX10_draw_5 ?_
  refine g_i2l C.c dX10_draw_8 ?_
  refine g_lmul C.c dX10_draw_9 ?_
  refine g_ldc2 C.c (v := (12345 : Int64)) aw_1084 dX10_draw_10 ?_
  refine g_ladd C.c dX10_draw_13 ?_
  refine g_ldc2 C.c (v := (2147483647 : Int64)) aw_1085 dX10_draw_14 ?_
  refine g_land C.c dX10_draw_17 ?_
  refine g_l2i C.c dX10_draw_18 ?_
  refine pf_10_166 C dX10_draw_19 ?_
  refine g_aload_n C.c dX10_draw_22 rfl (i := 0) rfl ?_
  refine gf_10_166 C dX10_draw_23 ?_
  refine g_ldc C.c (v := (65536 : Int32)) aw_1086 dX10_draw_26 ?_
  refine g_idiv C.c dX10_draw_28 (by decide) ?_
  refine g_iload_n C.c dX10_draw_29 rfl (i := 1) rfl ?_
  obtain ⟨c1, h⟩ := chk0 h
  refine g_irem C.c dX10_draw_30 c1 ?_
  obtain rfl := Option.some.inj h
  exact g_iret C hQ dX10_draw_31 rfl ⟨rfl, rfl⟩
def fX10_draw (a0 : Int32) (σ : Sg) : Option (Int32 × Sg) := fX10_draw_b0 a0 σ
theorem ct_X10_draw {a0 : Int32} {σ : Sg} {p : Int32 × Sg} (h : fX10_draw a0 σ = some p) : Ct layM yX10_draw cX10_draw 2 (some .int) 1 (fun ad => [.ref (ad 0), .int a0]) σ (okI p) :=
 ct_of (L0 := fun ad => [some (.ref (ad 0)), some (.int a0)]) (by decide) (fun _ => Nat.le_of_ble_eq_true rfl) (fun _ => rfl) (fun K C hQ => g_mask [true, true] rfl (bX10_draw_b0 C hQ h))
-- X10_day
theorem dX10_day_0 : decode cX10_day 0 = .ok (.aload_n 0, 1) := by decide +kernel
theorem dX10_day_1 : decode cX10_day 1 = .ok (.getfield 19, 3) := by decide +kernel
theorem dX10_day_4 : decode cX10_day 4 = .ok (.iload_n 1, 1) := by decide +kernel
theorem dX10_day_5 : decode cX10_day 5 = .ok (.iaload, 1) := by decide +kernel
theorem dX10_day_6 : decode cX10_day 6 = .ok (.istore_n 2, 1) := by decide +kernel
theorem dX10_day_7 : decode cX10_day 7 = .ok (.aload_n 0, 1) := by decide +kernel
theorem dX10_day_8 : decode cX10_day 8 = .ok (.getfield 166, 3) := by decide +kernel
theorem dX10_day_11 : decode cX10_day 11 = .ok (.ifCond .lt 23, 3) := by decide +kernel
theorem dX10_day_14 : decode cX10_day 14 = .ok (.iload_n 2, 1) := by decide +kernel
theorem dX10_day_15 : decode cX10_day 15 = .ok (.aload_n 0, 1) := by decide +kernel
theorem dX10_day_16 : decode cX10_day 16 = .ok (.iconst 3, 1) := by decide +kernel
theorem dX10_day_17 : decode cX10_day 17 = .ok (.invokevirtual 174, 3) := by decide +kernel
theorem dX10_day_20 : decode cX10_day 20 = .ok (.iconst 1, 1) := by decide +kernel
theorem dX10_day_21 : decode cX10_day 21 = .ok (.isub, 1) := by decide +kernel
theorem dX10_day_22 : decode cX10_day 22 = .ok (.iadd, 1) := by decide +kernel
theorem dX10_day_23 : decode cX10_day 23 = .ok (.istore_n 2, 1) := by decide +kernel
theorem dX10_day_24 : decode cX10_day 24 = .ok (.iload_n 2, 1) := by decide +kernel
theorem dX10_day_25 : decode cX10_day 25 = .ok (.ifCond .ge 7, 3) := by decide +kernel
theorem dX10_day_28 : decode cX10_day 28 = .ok (.iconst 0, 1) := by decide +kernel
theorem dX10_day_29 : decode cX10_day 29 = .ok (.goto 4, 3) := by decide +kernel
theorem dX10_day_32 : decode cX10_day 32 = .ok (.iload_n 2, 1) := by decide +kernel
theorem dX10_day_33 : decode cX10_day 33 = .ok (.istore_n 2, 1) := by decide +kernel
theorem dX10_day_34 : decode cX10_day 34 = .ok (.iconst 1, 1) := by decide +kernel
theorem dX10_day_35 : decode cX10_day 35 = .ok (.aload_n 0, 1) := by decide +kernel
theorem dX10_day_36 : decode cX10_day 36 = .ok (.getfield 177, 3) := by decide +kernel
theorem dX10_day_39 : decode cX10_day 39 = .ok (.iconst 3, 1) := by decide +kernel
theorem dX10_day_40 : decode cX10_day 40 = .ok (.if_icmp .ne 9, 3) := by decide +kernel
theorem dX10_day_43 : decode cX10_day 43 = .ok (.iload_n 2, 1) := by decide +kernel
theorem dX10_day_44 : decode cX10_day 44 = .ok (.iconst 1, 1) := by decide +kernel
theorem dX10_day_45 : decode cX10_day 45 = .ok (.iadd, 1) := by decide +kernel
theorem dX10_day_46 : decode cX10_day 46 = .ok (.goto 4, 3) := by decide +kernel
theorem dX10_day_49 : decode cX10_day 49 = .ok (.iload_n 2, 1) := by decide +kernel
theorem dX10_day_50 : decode cX10_day 50 = .ok (.aload_n 0, 1) := by decide +kernel
theorem dX10_day_51 : decode cX10_day 51 = .ok (.getfield 180, 3) := by decide +kernel
theorem dX10_day_54 : decode cX10_day 54 = .ok (.imul, 1) := by decide +kernel
theorem dX10_day_55 : decode cX10_day 55 = .ok (.bipush 100, 2) := by decide +kernel
theorem dX10_day_57 : decode cX10_day 57 = .ok (.idiv, 1) := by decide +kernel
theorem dX10_day_58 : decode cX10_day 58 = .ok (.iadd, 1) := by decide +kernel
theorem dX10_day_59 : decode cX10_day 59 = .ok (.istore_n 3, 1) := by decide +kernel
theorem dX10_day_60 : decode cX10_day 60 = .ok (.aload_n 0, 1) := by decide +kernel
theorem dX10_day_61 : decode cX10_day 61 = .ok (.getfield 177, 3) := by decide +kernel
theorem dX10_day_64 : decode cX10_day 64 = .ok (.iconst 1, 1) := by decide +kernel
theorem dX10_day_65 : decode cX10_day 65 = .ok (.if_icmp .eq 11, 3) := by decide +kernel
theorem dX10_day_68 : decode cX10_day 68 = .ok (.aload_n 0, 1) := by decide +kernel
theorem dX10_day_69 : decode cX10_day 69 = .ok (.getfield 177, 3) := by decide +kernel
theorem dX10_day_72 : decode cX10_day 72 = .ok (.iconst 4, 1) := by decide +kernel
theorem dX10_day_73 : decode cX10_day 73 = .ok (.if_icmp .ne 11, 3) := by decide +kernel
theorem dX10_day_76 : decode cX10_day 76 = .ok (.iload_n 3, 1) := by decide +kernel
theorem dX10_day_77 : decode cX10_day 77 = .ok (.iconst 1, 1) := by decide +kernel
theorem dX10_day_78 : decode cX10_day 78 = .ok (.iadd, 1) := by decide +kernel
theorem dX10_day_79 : decode cX10_day 79 = .ok (.iconst 2, 1) := by decide +kernel
theorem dX10_day_80 : decode cX10_day 80 = .ok (.idiv, 1) := by decide +kernel
theorem dX10_day_81 : decode cX10_day 81 = .ok (.goto 4, 3) := by decide +kernel
theorem dX10_day_84 : decode cX10_day 84 = .ok (.iload_n 3, 1) := by decide +kernel
theorem dX10_day_85 : decode cX10_day 85 = .ok (.istore_n 3, 1) := by decide +kernel
theorem dX10_day_86 : decode cX10_day 86 = .ok (.iload_n 3, 1) := by decide +kernel
theorem dX10_day_87 : decode cX10_day 87 = .ok (.aload_n 0, 1) := by decide +kernel
theorem dX10_day_88 : decode cX10_day 88 = .ok (.getfield 183, 3) := by decide +kernel
theorem dX10_day_91 : decode cX10_day 91 = .ok (.ifCond .eq 9, 3) := by decide +kernel
theorem dX10_day_94 : decode cX10_day 94 = .ok (.iload_n 3, 1) := by decide +kernel
theorem dX10_day_95 : decode cX10_day 95 = .ok (.iconst 3, 1) := by decide +kernel
theorem dX10_day_96 : decode cX10_day 96 = .ok (.idiv, 1) := by decide +kernel
theorem dX10_day_97 : decode cX10_day 97 = .ok (.goto 4, 3) := by decide +kernel
theorem dX10_day_100 : decode cX10_day 100 = .ok (.iconst 0, 1) := by decide +kernel
theorem dX10_day_101 : decode cX10_day 101 = .ok (.isub, 1) := by decide +kernel
theorem dX10_day_102 : decode cX10_day 102 = .ok (.istore_n 3, 1) := by decide +kernel
theorem dX10_day_103 : decode cX10_day 103 = .ok (.aload_n 0, 1) := by decide +kernel
theorem dX10_day_104 : decode cX10_day 104 = .ok (.aload_n 0, 1) := by decide +kernel
theorem dX10_day_105 : decode cX10_day 105 = .ok (.getfield 180, 3) := by decide +kernel
theorem dX10_day_108 : decode cX10_day 108 = .ok (.iload_n 3, 1) := by decide +kernel
theorem dX10_day_109 : decode cX10_day 109 = .ok (.if_icmp .le 12, 3) := by decide +kernel
theorem dX10_day_112 : decode cX10_day 112 = .ok (.aload_n 0, 1) := by decide +kernel
theorem dX10_day_113 : decode cX10_day 113 = .ok (.getfield 180, 3) := by decide +kernel
theorem dX10_day_116 : decode cX10_day 116 = .ok (.iload_n 3, 1) := by decide +kernel
theorem dX10_day_117 : decode cX10_day 117 = .ok (.isub, 1) := by decide +kernel
theorem dX10_day_118 : decode cX10_day 118 = .ok (.goto 4, 3) := by decide +kernel
theorem dX10_day_121 : decode cX10_day 121 = .ok (.iconst 0, 1) := by decide +kernel
theorem dX10_day_122 : decode cX10_day 122 = .ok (.putfield 180, 3) := by decide +kernel
theorem dX10_day_125 : decode cX10_day 125 = .ok (.aload_n 0, 1) := by decide +kernel
theorem dX10_day_126 : decode cX10_day 126 = .ok (.aload_n 0, 1) := by decide +kernel
theorem dX10_day_127 : decode cX10_day 127 = .ok (.getfield 186, 3) := by decide +kernel
theorem dX10_day_130 : decode cX10_day 130 = .ok (.iload_n 2, 1) := by decide +kernel
theorem dX10_day_131 : decode cX10_day 131 = .ok (.if_icmp .le 12, 3) := by decide +kernel
theorem dX10_day_134 : decode cX10_day 134 = .ok (.aload_n 0, 1) := by decide +kernel
theorem dX10_day_135 : decode cX10_day 135 = .ok (.getfield 186, 3) := by decide +kernel
theorem dX10_day_138 : decode cX10_day 138 = .ok (.iload_n 2, 1) := by decide +kernel
theorem dX10_day_139 : decode cX10_day 139 = .ok (.isub, 1) := by decide +kernel
theorem dX10_day_140 : decode cX10_day 140 = .ok (.goto 4, 3) := by decide +kernel
theorem dX10_day_143 : decode cX10_day 143 = .ok (.iconst 0, 1) := by decide +kernel
theorem dX10_day_144 : decode cX10_day 144 = .ok (.putfield 186, 3) := by decide +kernel
theorem dX10_day_147 : decode cX10_day 147 = .ok (.aload_n 0, 1) := by decide +kernel
theorem dX10_day_148 : decode cX10_day 148 = .ok (.getfield 186, 3) := by decide +kernel
theorem dX10_day_151 : decode cX10_day 151 = .ok (.ifCond .ne 32, 3) := by decide +kernel
theorem dX10_day_154 : decode cX10_day 154 = .ok (.aload_n 0, 1) := by decide +kernel
theorem dX10_day_155 : decode cX10_day 155 = .ok (.getfield 177, 3) := by decide +kernel
theorem dX10_day_158 : decode cX10_day 158 = .ok (.iconst 4, 1) := by decide +kernel
theorem dX10_day_159 : decode cX10_day 159 = .ok (.if_icmp .eq 24, 3) := by decide +kernel
theorem dX10_day_162 : decode cX10_day 162 = .ok (.aload_n 0, 1) := by decide +kernel
theorem dX10_day_163 : decode cX10_day 163 = .ok (.dup, 1) := by decide +kernel
theorem dX10_day_164 : decode cX10_day 164 = .ok (.getfield 180, 3) := by decide +kernel
theorem dX10_day_167 : decode cX10_day 167 = .ok (.aload_n 0, 1) := by decide +kernel
theorem dX10_day_168 : decode cX10_day 168 = .ok (.getfield 180, 3) := by decide +kernel
theorem dX10_day_171 : decode cX10_day 171 = .ok (.iconst 5, 1) := by decide +kernel
theorem dX10_day_172 : decode cX10_day 172 = .ok (.idiv, 1) := by decide +kernel
theorem dX10_day_173 : decode cX10_day 173 = .ok (.isub, 1) := by decide +kernel
theorem dX10_day_174 : decode cX10_day 174 = .ok (.putfield 180, 3) := by decide +kernel
theorem dX10_day_177 : decode cX10_day 177 = .ok (.aload_n 0, 1) := by decide +kernel
theorem dX10_day_178 : decode cX10_day 178 = .ok (.bipush 9, 2) := by decide +kernel
theorem dX10_day_180 : decode cX10_day 180 = .ok (.putfield 186, 3) := by decide +kernel
theorem dX10_day_183 : decode cX10_day 183 = .ok (.aload_n 0, 1) := by decide +kernel
theorem dX10_day_184 : decode cX10_day 184 = .ok (.dup, 1) := by decide +kernel
theorem dX10_day_185 : decode cX10_day 185 = .ok (.getfield 189, 3) := by decide +kernel
theorem dX10_day_188 : decode cX10_day 188 = .ok (.iconst 1, 1) := by decide +kernel
theorem dX10_day_189 : decode cX10_day 189 = .ok (.iadd, 1) := by decide +kernel
theorem dX10_day_190 : decode cX10_day 190 = .ok (.putfield 189, 3) := by decide +kernel
theorem dX10_day_193 : decode cX10_day 193 = .ok (.aload_n 0, 1) := by decide +kernel
theorem dX10_day_194 : decode cX10_day 194 = .ok (.getfield 177, 3) := by decide +kernel
theorem dX10_day_197 : decode cX10_day 197 = .ok (.iconst 2, 1) := by decide +kernel
theorem dX10_day_198 : decode cX10_day 198 = .ok (.if_icmp .ne 34, 3) := by decide +kernel
theorem dX10_day_201 : decode cX10_day 201 = .ok (.aload_n 0, 1) := by decide +kernel
theorem dX10_day_202 : decode cX10_day 202 = .ok (.getfield 189, 3) := by decide +kernel
theorem dX10_day_205 : decode cX10_day 205 = .ok (.aload_n 0, 1) := by decide +kernel
theorem dX10_day_206 : decode cX10_day 206 = .ok (.getfield 192, 3) := by decide +kernel
theorem dX10_day_209 : decode cX10_day 209 = .ok (.irem, 1) := by decide +kernel
theorem dX10_day_210 : decode cX10_day 210 = .ok (.ifCond .ne 22, 3) := by decide +kernel
theorem dX10_day_213 : decode cX10_day 213 = .ok (.aload_n 0, 1) := by decide +kernel
theorem dX10_day_214 : decode cX10_day 214 = .ok (.dup, 1) := by decide +kernel
theorem dX10_day_215 : decode cX10_day 215 = .ok (.getfield 180, 3) := by decide +kernel
theorem dX10_day_218 : decode cX10_day 218 = .ok (.aload_n 0, 1) := by decide +kernel
theorem dX10_day_219 : decode cX10_day 219 = .ok (.getfield 180, 3) := by decide +kernel
theorem dX10_day_222 : decode cX10_day 222 = .ok (.bipush 9, 2) := by decide +kernel
theorem dX10_day_224 : decode cX10_day 224 = .ok (.iadd, 1) := by decide +kernel
theorem dX10_day_225 : decode cX10_day 225 = .ok (.bipush 10, 2) := by decide +kernel
theorem dX10_day_227 : decode cX10_day 227 = .ok (.idiv, 1) := by decide +kernel
theorem dX10_day_228 : decode cX10_day 228 = .ok (.isub, 1) := by decide +kernel
theorem dX10_day_229 : decode cX10_day 229 = .ok (.putfield 180, 3) := by decide +kernel
theorem dX10_day_232 : decode cX10_day 232 = .ok (.return_, 1) := by decide +kernel
theorem cw_X10_day : Cw yX10_day cX10_day 4 none 1 := ⟨aw_1078, aw_56, ⟨by decide, by decide⟩, by decide +kernel, by decide⟩
theorem gf_10_177 {K : KT} {cc : ByteArray} {nL d pc : Nat} {ret : Option FieldType} {L : List (Option Value)} {st : List Value} {σ : Sg} (C : Cx K layM cc RX10 nL d ret)  (hd : decode cc pc = .ok (.getfield 177, 3)) (k : G K (pc + 3) L (.int (rI σ 0 22) :: st) (Wd K layM σ)) : G K pc L (.ref (kad K 0) :: st) (Wd K layM σ) := g_get C (o := 0) (ci := 10) (k := 22) hd rfl rfl rfl (by decide) (Or.inl aw_811) inA10 rfl k
theorem gf_10_180 {K : KT} {cc : ByteArray} {nL d pc : Nat} {ret : Option FieldType} {L : List (Option Value)} {st : List Value} {σ : Sg} (C : Cx K layM cc RX10 nL d ret)  (hd : decode cc pc = .ok (.getfield 180, 3)) (k : G K (pc + 3) L (.int (rI σ 0 23) :: st) (Wd K layM σ)) : G K pc L (.ref (kad K 0) :: st) (Wd K layM σ) := g_get C (o := 0) (ci := 10) (k := 23) hd rfl rfl rfl (by decide) (Or.inl aw_812) inA10 rfl k
theorem gf_10_183 {K : KT} {cc : ByteArray} {nL d pc : Nat} {ret : Option FieldType} {L : List (Option Value)} {st : List Value} {σ : Sg} (C : Cx K layM cc RX10 nL d ret)  (hd : decode cc pc = .ok (.getfield 183, 3)) (k : G K (pc + 3) L (.int (rI σ 0 27) :: st) (Wd K layM σ)) : G K pc L (.ref (kad K 0) :: st) (Wd K layM σ) := g_get C (o := 0) (ci := 10) (k := 27) hd rfl rfl rfl (by decide) (Or.inl aw_816) inA10 rfl k
theorem pf_10_180 {K : KT} {cc : ByteArray} {nL d pc : Nat} {ret : Option FieldType} {L : List (Option Value)} {st : List Value} {σ : Sg} (C : Cx K layM cc RX10 nL d ret)  {v : Int32}  (hd : decode cc pc = .ok (.putfield 180, 3)) (k : G K (pc + 3) L st (Wd K layM (wI σ 0 23 v))) : G K pc L (.int v :: .ref (kad K 0) :: st) (Wd K layM σ) := g_putI C (o := 0) (ci := 10) (k := 23) hd rfl rfl rfl (by decide) (Or.inl aw_812) inA10 tyX10_ok nmX10 rfl rfl rfl k
theorem gf_10_186 {K : KT} {cc : ByteArray} {nL d pc : Nat} {ret : Option FieldType} {L : List (Option Value)} {st : List Value} {σ : Sg} (C : Cx K layM cc RX10 nL d ret)  (hd : decode cc pc = .ok (.getfield 186, 3)) (k : G K (pc + 3) L (.int (rI σ 0 24) :: st) (Wd K layM σ)) : G K pc L (.ref (kad K 0) :: st) (Wd K layM σ) := g_get C (o := 0) (ci := 10) (k := 24) hd rfl rfl rfl (by decide) (Or.inl aw_813) inA10 rfl k
theorem pf_10_186 {K : KT} {cc : ByteArray} {nL d pc : Nat} {ret : Option FieldType} {L : List (Option Value)} {st : List Value} {σ : Sg} (C : Cx K layM cc RX10 nL d ret)  {v : Int32}  (hd : decode cc pc = .ok (.putfield 186, 3)) (k : G K (pc + 3) L st (Wd K layM (wI σ 0 24 v))) : G K pc L (.int v :: .ref (kad K 0) :: st) (Wd K layM σ) := g_putI C (o := 0) (ci := 10) (k := 24) hd rfl rfl rfl (by decide) (Or.inl aw_813) inA10 tyX10_ok nmX10 rfl rfl rfl k
theorem gf_10_189 {K : KT} {cc : ByteArray} {nL d pc : Nat} {ret : Option FieldType} {L : List (Option Value)} {st : List Value} {σ : Sg} (C : Cx K layM cc RX10 nL d ret)  (hd : decode cc pc = .ok (.getfield 189, 3)) (k : G K (pc + 3) L (.int (rI σ 0 26) :: st) (Wd K layM σ)) : G K pc L (.ref (kad K 0) :: st) (Wd K layM σ) := g_get C (o := 0) (ci := 10) (k := 26) hd rfl rfl rfl (by decide) (Or.inl aw_815) inA10 rfl k
theorem pf_10_189 {K : KT} {cc : ByteArray} {nL d pc : Nat} {ret : Option FieldType} {L : List (Option Value)} {st : List Value} {σ : Sg} (C : Cx K layM cc RX10 nL d ret)  {v : Int32}  (hd : decode cc pc = .ok (.putfield 189, 3)) (k : G K (pc + 3) L st (Wd K layM (wI σ 0 26 v))) : G K pc L (.int v :: .ref (kad K 0) :: st) (Wd K layM σ) := g_putI C (o := 0) (ci := 10) (k := 26) hd rfl rfl rfl (by decide) (Or.inl aw_815) inA10 tyX10_ok nmX10 rfl rfl rfl k
theorem gf_10_192 {K : KT} {cc : ByteArray} {nL d pc : Nat} {ret : Option FieldType} {L : List (Option Value)} {st : List Value} {σ : Sg} (C : Cx K layM cc RX10 nL d ret)  (hd : decode cc pc = .ok (.getfield 192, 3)) (k : G K (pc + 3) L (.int (rI σ 0 25) :: st) (Wd K layM σ)) : G K pc L (.ref (kad K 0) :: st) (Wd K layM σ) := g_get C (o := 0) (ci := 10) (k := 25) hd rfl rfl rfl (by decide) (Or.inl aw_814) inA10 rfl k
theorem kc_10_174 {K : KT} {cc : ByteArray} {nL d pc : Nat} {ret : Option FieldType} {L : List (Option Value)} {st : List Value} {σ : Sg} (C : Cx K layM cc RX10 nL d ret)  {a0 : Int32}  {p : Int32 × Sg} (hd : decode cc pc = .ok (.invokevirtual 174, 3)) (e : fX10_draw a0 σ = some p) (hdd : 1 + 1 ≤ d) (hLn : L.length = nL) (hr : (st.map fun v => v.category).sum ≤ 8) (k : G K (pc + 3) L (.int p.1 :: st) (Wd K layM p.2)) : G K pc L (.int a0 :: .ref (kad K 0) :: st) (Wd K layM σ) :=
  g_callV C (As := [.int a0]) (rest := st) (o := 0) (ci := 10) hd (ct_X10_draw e) cw_X10_draw (Or.inl aw_1079) aw_1081 aw_37 rfl rfl rfl hdd hLn rfl rfl hr (fun v τ q => by obtain ⟨rfl, rfl⟩ := q; exact k)
def fX10_day_b183  (σ : Sg) : Option (Sg) :=
  if (rI (wI σ 0 26 ((rI σ 0 26) + (1 : Int32))) 0 22) = (2 : Int32) then (if (rI (wI σ 0 26 ((rI σ 0 26) + (1 : Int32))) 0 25) = 0 then none else if ((rI (wI σ 0 26 ((rI σ 0 26) + (1 : Int32))) 0 26) - (rI (wI σ 0 26 ((rI σ 0 26) + (1 : Int32))) 0 26) / (rI (wI σ 0 26 ((rI σ 0 26) + (1 : Int32))) 0 25) * (rI (wI σ 0 26 ((rI σ 0 26) + (1 : Int32))) 0 25)) = 0 then (some (wI (wI σ 0 26 ((rI σ 0 26) + (1 : Int32))) 0 23 ((rI (wI σ 0 26 ((rI σ 0 26) + (1 : Int32))) 0 23) - (((rI (wI σ 0 26 ((rI σ 0 26) + (1 : Int32))) 0 23) + (9 : Int32)) / (10 : Int32))))) else (some (wI σ 0 26 ((rI σ 0 26) + (1 : Int32))))) else (some (wI σ 0 26 ((rI σ 0 26) + (1 : Int32))))
def fX10_day_b144 (y0 : Int32) (σ : Sg) : Option (Sg) :=
  if (rI (wI σ 0 24 y0) 0 24) = 0 then (if (rI (wI σ 0 24 y0) 0 22) = (4 : Int32) then (fX10_day_b183 (wI σ 0 24 y0)) else (fX10_day_b183 (wI (wI (wI σ 0 24 y0) 0 23 ((rI (wI σ 0 24 y0) 0 23) - ((rI (wI σ 0 24 y0) 0 23) / (5 : Int32)))) 0 24 (9 : Int32)))) else (fX10_day_b183 (wI σ 0 24 y0))
def fX10_day_b122 (x2 : Int32) (y0 : Int32) (σ : Sg) : Option (Sg) :=
  if (rI (wI σ 0 23 y0) 0 24) ≤ x2 then (fX10_day_b144 (0 : Int32) (wI σ 0 23 y0)) else (fX10_day_b144 ((rI (wI σ 0 23 y0) 0 24) - x2) (wI σ 0 23 y0))
def fX10_day_b101 (x2 : Int32) (y0 : Int32) (y1 : Int32) (σ : Sg) : Option (Sg) :=
  if (rI σ 0 23) ≤ (y1 - y0) then (fX10_day_b122 x2 (0 : Int32) σ) else (fX10_day_b122 x2 ((rI σ 0 23) - (y1 - y0)) σ)
def fX10_day_b85 (x2 : Int32) (y0 : Int32) (σ : Sg) : Option (Sg) :=
  if (rI σ 0 27) = 0 then (fX10_day_b101 x2 (0 : Int32) y0 σ) else (fX10_day_b101 x2 (y0 / (3 : Int32)) y0 σ)
def fX10_day_b76 (x2 : Int32) (x3 : Int32) (σ : Sg) : Option (Sg) :=
  fX10_day_b85 x2 ((x3 + (1 : Int32)) / (2 : Int32)) σ
def fX10_day_b50 (x2 : Int32) (y0 : Int32) (y1 : Int32) (σ : Sg) : Option (Sg) :=
  if (rI σ 0 22) = (1 : Int32) then (fX10_day_b76 x2 (y1 + ((y0 * (rI σ 0 23)) / (100 : Int32))) σ) else (if (rI σ 0 22) = (4 : Int32) then (fX10_day_b76 x2 (y1 + ((y0 * (rI σ 0 23)) / (100 : Int32))) σ) else (fX10_day_b85 x2 (y1 + ((y0 * (rI σ 0 23)) / (100 : Int32))) σ))
def fX10_day_b34 (x2 : Int32) (σ : Sg) : Option (Sg) :=
  if (rI σ 0 22) = (3 : Int32) then (fX10_day_b50 x2 (x2 + (1 : Int32)) (1 : Int32) σ) else (fX10_day_b50 x2 x2 (1 : Int32) σ)
def fX10_day_b33 (y0 : Int32) (σ : Sg) : Option (Sg) :=
  fX10_day_b34 y0 σ
def fX10_day_b0 (x1 : Int32) (σ : Sg) : Option (Sg) :=
  if inb x1 30 = true then (if (rI σ 0 29) < 0 then (fX10_day_b34 (rI σ 4 (x1).toNatClampNeg) σ) else (Option.bind (fX10_draw (3 : Int32) σ) fun p3 => (if 0 ≤ ((rI σ 4 (x1).toNatClampNeg) + (p3.1 - (1 : Int32))) then (fX10_day_b33 ((rI σ 4 (x1).toNatClampNeg) + (p3.1 - (1 : Int32))) p3.2) else (fX10_day_b33 (0 : Int32) p3.2)))) else none
set_option maxRecDepth 4000 in
theorem bX10_day_b183 {K : KT}  {σ : Sg} {o : Sg} (C : Cx K layM cX10_day RX10 4 (2) none)  (hQ : Rk K layM (okV o)) (h : fX10_day_b183  σ = some o) : G K 183 [some (.ref (kad K 0)), none, none, none] [] (Wd K layM σ) := by
  unfold fX10_day_b183 at h
  refine g_aload_n C.c dX10_day_183 rfl (i := 0) rfl ?_
  refine g_dup C.c dX10_day_184 rfl ?_
  refine gf_10_189 C dX10_day_185 ?_
  refine g_iconst C.c dX10_day_188 (v := (1 : Int32)) (by decide) ?_
  refine g_iadd C.c dX10_day_189 ?_
  refine pf_10_189 C dX10_day_190 ?_
  refine g_aload_n C.c dX10_day_193 rfl (i := 0) rfl ?_
  refine gf_10_177 C dX10_day_194 ?_
  refine g_iconst C.c dX10_day_197 (v := (2 : Int32)) (by decide) ?_
  refine g_icmp_ne C.c (tgt := 232) dX10_day_198 (by decide) (fun c => ?_) (fun c => ?_)
  · replace h := ite_f c h
    obtain rfl := Option.some.inj h
    exact g_vret C hQ dX10_day_232 ⟨rfl, rfl⟩
  · replace h := ite_t c h
    refine g_aload_n C.c dX10_day_201 rfl (i := 0) rfl ?_
    refine gf_10_189 C dX10_day_202 ?_
    refine g_aload_n C.c dX10_day_205 rfl (i := 0) rfl ?_
    refine gf_10_192 C dX10_day_206 ?_
    obtain ⟨c2, h⟩ := chk0 h
    refine g_irem C.c dX10_day_209 c2 ?_
    refine g_if_ne C.c (tgt := 232) dX10_day_210 (by decide) (fun c => ?_) (fun c => ?_)
    · replace h := ite_f c h
      obtain rfl := Option.some.inj h
      exact g_vret C hQ dX10_day_232 ⟨rfl, rfl⟩
    · replace h := ite_t c h
      refine g_aload_n C.c dX10_day_213 rfl (i := 0) rfl ?_
      refine g_dup C.c dX10_day_214 rfl ?_
      refine gf_10_180 C dX10_day_215 ?_
      refine g_aload_n C.c dX10_day_218 rfl (i := 0) rfl ?_
      refine gf_10_180 C dX10_day_219 ?_
      refine g_bipush C.c dX10_day_222 (v := (9 : Int32)) (by decide) ?_
      refine g_iadd C.c dX10_day_224 ?_
      refine g_bipush C.c dX10_day_225 (v := (10 : Int32)) (by decide) ?_
      refine g_idiv C.c dX10_day_227 (by decide) ?_
      refine g_isub C.c dX10_day_228 ?_
      refine pf_10_180 C dX10_day_229 ?_
      obtain rfl := Option.some.inj h
      exact g_vret C hQ dX10_day_232 ⟨rfl, rfl⟩
set_option maxRecDepth 4000 in
theorem bX10_day_b144 {K : KT} {y0 : Int32} {σ : Sg} {o : Sg} (C : Cx K layM cX10_day RX10 4 (2) none)  (hQ : Rk K layM (okV o)) (h : fX10_day_b144 y0 σ = some o) : G K 144 [some (.ref (kad K 0)), none, none, none] [.int y0, .ref (kad K 0)] (Wd K layM σ) := by
  unfold fX10_day_b144 at h
  refine pf_10_186 C dX10_day_144 ?_
  refine g_aload_n C.c dX10_day_147 rfl (i := 0) rfl ?_
  refine gf_10_186 C dX10_day_148 ?_
  refine g_if_ne C.c (tgt := 183) dX10_day_151 (by decide) (fun c => ?_) (fun c => ?_)
  · replace h := ite_f c h
    exact g_mask [true, false, false, false] rfl (bX10_day_b183 C hQ h)
  · replace h := ite_t c h
    refine g_aload_n C.c dX10_day_154 rfl (i := 0) rfl ?_
    refine gf_10_177 C dX10_day_155 ?_
    refine g_iconst C.c dX10_day_158 (v := (4 : Int32)) (by decide) ?_
    refine g_icmp_eq C.c (tgt := 183) dX10_day_159 (by decide) (fun c => ?_) (fun c => ?_)
    · replace h := ite_t c h
      exact g_mask [true, false, false, false] rfl (bX10_day_b183 C hQ h)
    · replace h := ite_f c h
      refine g_aload_n C.c dX10_day_162 rfl (i := 0) rfl ?_
      refine g_dup C.c dX10_day_163 rfl ?_
      refine gf_10_180 C dX10_day_164 ?_
      refine g_aload_n C.c dX10_day_167 rfl (i := 0) rfl ?_
      refine gf_10_180 C dX10_day_168 ?_
      refine g_iconst C.c dX10_day_171 (v := (5 : Int32)) (by decide) ?_
      refine g_idiv C.c dX10_day_172 (by decide) ?_
      refine g_isub C.c dX10_day_173 ?_
      refine pf_10_180 C dX10_day_174 ?_
      refine g_aload_n C.c dX10_day_177 rfl (i := 0) rfl ?_
      refine g_bipush C.c dX10_day_178 (v := (9 : Int32)) (by decide) ?_
      refine pf_10_186 C dX10_day_180 ?_
      exact g_mask [true, false, false, false] rfl (bX10_day_b183 C hQ h)
set_option maxRecDepth 4000 in
theorem bX10_day_b122 {K : KT} {x2 : Int32} {y0 : Int32} {σ : Sg} {o : Sg} (C : Cx K layM cX10_day RX10 4 (2) none)  (hQ : Rk K layM (okV o)) (h : fX10_day_b122 x2 y0 σ = some o) : G K 122 [some (.ref (kad K 0)), none, some (.int x2), none] [.int y0, .ref (kad K 0)] (Wd K layM σ) := by
  unfold fX10_day_b122 at h
  refine pf_10_180 C dX10_day_122 ?_
  refine g_aload_n C.c dX10_day_125 rfl (i := 0) rfl ?_
  refine g_aload_n C.c dX10_day_126 rfl (i := 0) rfl ?_
  refine gf_10_186 C dX10_day_127 ?_
  refine g_iload_n C.c dX10_day_130 rfl (i := 2) rfl ?_
  refine g_icmp_le C.c (tgt := 143) dX10_day_131 (by decide) (fun c => ?_) (fun c => ?_)
  · replace h := ite_t c h
    refine g_iconst C.c dX10_day_143 (v := (0 : Int32)) (by decide) ?_
    exact g_mask [true, false, false, false] rfl (bX10_day_b144 C hQ h)
  · replace h := ite_f c h
    refine g_aload_n C.c dX10_day_134 rfl (i := 0) rfl ?_
    refine gf_10_186 C dX10_day_135 ?_
    refine g_iload_n C.c dX10_day_138 rfl (i := 2) rfl ?_
    refine g_isub C.c dX10_day_139 ?_
    refine g_goto C.c (tgt := 144) dX10_day_140 (by decide) ?_
    exact g_mask [true, false, false, false] rfl (bX10_day_b144 C hQ h)
set_option maxRecDepth 4000 in
theorem bX10_day_b101 {K : KT} {x2 : Int32} {y0 : Int32} {y1 : Int32} {σ : Sg} {o : Sg} (C : Cx K layM cX10_day RX10 4 (2) none)  (hQ : Rk K layM (okV o)) (h : fX10_day_b101 x2 y0 y1 σ = some o) : G K 101 [some (.ref (kad K 0)), none, some (.int x2), none] [.int y0, .int y1] (Wd K layM σ) := by
  unfold fX10_day_b101 at h
  refine g_isub C.c dX10_day_101 ?_
  refine g_istore_n C.c (i := 3) (L' := [some (.ref (kad K 0)), none, some (.int x2), some (.int (y1 - y0))]) dX10_day_102 rfl (Nat.le_of_ble_eq_true rfl) rfl ?_
  refine g_aload_n C.c dX10_day_103 rfl (i := 0) rfl ?_
  refine g_aload_n C.c dX10_day_104 rfl (i := 0) rfl ?_
  refine gf_10_180 C dX10_day_105 ?_
  refine g_iload_n C.c dX10_day_108 rfl (i := 3) rfl ?_
  refine g_icmp_le C.c (tgt := 121) dX10_day_109 (by decide) (fun c => ?_) (fun c => ?_)
  · replace h := ite_t c h
    refine g_iconst C.c dX10_day_121 (v := (0 : Int32)) (by decide) ?_
    exact g_mask [true, false, true, false] rfl (bX10_day_b122 C hQ h)
  · replace h := ite_f c h
    refine g_aload_n C.c dX10_day_112 rfl (i := 0) rfl ?_
    refine gf_10_180 C dX10_day_113 ?_
    refine g_iload_n C.c dX10_day_116 rfl (i := 3) rfl ?_
    refine g_isub C.c dX10_day_117 ?_
    refine g_goto C.c (tgt := 122) dX10_day_118 (by decide) ?_
    exact g_mask [true, false, true, false] rfl (bX10_day_b122 C hQ h)
set_option maxRecDepth 4000 in
theorem bX10_day_b85 {K : KT} {x2 : Int32} {y0 : Int32} {σ : Sg} {o : Sg} (C : Cx K layM cX10_day RX10 4 (2) none)  (hQ : Rk K layM (okV o)) (h : fX10_day_b85 x2 y0 σ = some o) : G K 85 [some (.ref (kad K 0)), none, some (.int x2), none] [.int y0] (Wd K layM σ) := by
  unfold fX10_day_b85 at h
  refine g_istore_n C.c (i := 3) (L' := [some (.ref (kad K 0)), none, some (.int x2), some (.int y0)]) dX10_day_85 rfl (Nat.le_of_ble_eq_true rfl) rfl ?_
  refine g_iload_n C.c dX10_day_86 rfl (i := 3) rfl ?_
  refine g_aload_n C.c dX10_day_87 rfl (i := 0) rfl ?_
  refine gf_10_183 C dX10_day_88 ?_
  refine g_if_eq C.c (tgt := 100) dX10_day_91 (by decide) (fun c => ?_) (fun c => ?_)
  · replace h := ite_t c h
    refine g_iconst C.c dX10_day_100 (v := (0 : Int32)) (by decide) ?_
    exact g_mask [true, false, true, false] rfl (bX10_day_b101 C hQ h)
  · replace h := ite_f c h
    refine g_iload_n C.c dX10_day_94 rfl (i := 3) rfl ?_
    refine g_iconst C.c dX10_day_95 (v := (3 : Int32)) (by decide) ?_
    refine g_idiv C.c dX10_day_96 (by decide) ?_
    refine g_goto C.c (tgt := 101) dX10_day_97 (by decide) ?_
    exact g_mask [true, false, true, false] rfl (bX10_day_b101 C hQ h)
set_option maxRecDepth 4000 in
theorem bX10_day_b76 {K : KT} {x2 : Int32} {x3 : Int32} {σ : Sg} {o : Sg} (C : Cx K layM cX10_day RX10 4 (2) none)  (hQ : Rk K layM (okV o)) (h : fX10_day_b76 x2 x3 σ = some o) : G K 76 [some (.ref (kad K 0)), none, some (.int x2), some (.int x3)] [] (Wd K layM σ) := by
  unfold fX10_day_b76 at h
  refine g_iload_n C.c dX10_day_76 rfl (i := 3) rfl ?_
  refine g_iconst C.c dX10_day_77 (v := (1 : Int32)) (by decide) ?_
  refine g_iadd C.c dX10_day_78 ?_
  refine g_iconst C.c dX10_day_79 (v := (2 : Int32)) (by decide) ?_
  refine g_idiv C.c dX10_day_80 (by decide) ?_
  refine g_goto C.c (tgt := 85) dX10_day_81 (by decide) ?_
  exact g_mask [true, false, true, false] rfl (bX10_day_b85 C hQ h)
set_option maxRecDepth 4000 in
theorem bX10_day_b50 {K : KT} {x2 : Int32} {y0 : Int32} {y1 : Int32} {σ : Sg} {o : Sg} (C : Cx K layM cX10_day RX10 4 (2) none)  (hQ : Rk K layM (okV o)) (h : fX10_day_b50 x2 y0 y1 σ = some o) : G K 50 [some (.ref (kad K 0)), none, some (.int x2), none] [.int y0, .int y1] (Wd K layM σ) := by
  unfold fX10_day_b50 at h
  refine g_aload_n C.c dX10_day_50 rfl (i := 0) rfl ?_
  refine gf_10_180 C dX10_day_51 ?_
  refine g_imul C.c dX10_day_54 ?_
  refine g_bipush C.c dX10_day_55 (v := (100 : Int32)) (by decide) ?_
  refine g_idiv C.c dX10_day_57 (by decide) ?_
  refine g_iadd C.c dX10_day_58 ?_
  refine g_istore_n C.c (i := 3) (L' := [some (.ref (kad K 0)), none, some (.int x2), some (.int (y1 + ((y0 * (rI σ 0 23)) / (100 : Int32))))]) dX10_day_59 rfl (Nat.le_of_ble_eq_true rfl) rfl ?_
  refine g_aload_n C.c dX10_day_60 rfl (i := 0) rfl ?_
  refine gf_10_177 C dX10_day_61 ?_
  refine g_iconst C.c dX10_day_64 (v := (1 : Int32)) (by decide) ?_
  refine g_icmp_eq C.c (tgt := 76) dX10_day_65 (by decide) (fun c => ?_) (fun c => ?_)
  · replace h := ite_t c h
    exact g_mask [true, false, true, true] rfl (bX10_day_b76 C hQ h)
  · replace h := ite_f c h
    refine g_aload_n C.c dX10_day_68 rfl (i := 0) rfl ?_
    refine gf_10_177 C dX10_day_69 ?_
    refine g_iconst C.c dX10_day_72 (v := (4 : Int32)) (by decide) ?_
    refine g_icmp_ne C.c (tgt := 84) dX10_day_73 (by decide) (fun c => ?_) (fun c => ?_)
    · replace h := ite_f c h
      refine g_iload_n C.c dX10_day_84 rfl (i := 3) rfl ?_
      exact g_mask [true, false, true, false] rfl (bX10_day_b85 C hQ h)
    · replace h := ite_t c h
      exact g_mask [true, false, true, true] rfl (bX10_day_b76 C hQ h)
set_option maxRecDepth 4000 in
theorem bX10_day_b34 {K : KT} {x2 : Int32} {σ : Sg} {o : Sg} (C : Cx K layM cX10_day RX10 4 (2) none)  (hQ : Rk K layM (okV o)) (h : fX10_day_b34 x2 σ = some o) : G K 34 [some (.ref (kad K 0)), none, some (.int x2), none] [] (Wd K layM σ) := by
  unfold fX10_day_b34 at h
  refine g_iconst C.c dX10_day_34 (v := (1 : Int32)) (by decide) ?_
  refine g_aload_n C.c dX10_day_35 rfl (i := 0) rfl ?_
  refine gf_10_177 C dX10_day_36 ?_
  refine g_iconst C.c dX10_day_39 (v := (3 : Int32)) (by decide) ?_
  refine g_icmp_ne C.c (tgt := 49) dX10_day_40 (by decide) (fun c => ?_) (fun c => ?_)
  · replace h := ite_f c h
    refine g_iload_n C.c dX10_day_49 rfl (i := 2) rfl ?_
    exact g_mask [true, false, true, false] rfl (bX10_day_b50 C hQ h)
  · replace h := ite_t c h
    refine g_iload_n C.c dX10_day_43 rfl (i := 2) rfl ?_
    refine g_iconst C.c dX10_day_44 (v := (1 : Int32)) (by decide) ?_
    refine g_iadd C.c dX10_day_45 ?_
    refine g_goto C.c (tgt := 50) dX10_day_46 (by decide) ?_
    exact g_mask [true, false, true, false] rfl (bX10_day_b50 C hQ h)
set_option maxRecDepth 4000 in
theorem bX10_day_b33 {K : KT} {y0 : Int32} {σ : Sg} {o : Sg} (C : Cx K layM cX10_day RX10 4 (2) none)  (hQ : Rk K layM (okV o)) (h : fX10_day_b33 y0 σ = some o) : G K 33 [some (.ref (kad K 0)), none, none, none] [.int y0] (Wd K layM σ) := by
  unfold fX10_day_b33 at h
  refine g_istore_n C.c (i := 2) (L' := [some (.ref (kad K 0)), none, some (.int y0), none]) dX10_day_33 rfl (Nat.le_of_ble_eq_true rfl) rfl ?_
  exact g_mask [true, false, true, false] rfl (bX10_day_b34 C hQ h)
set_option maxRecDepth 4000 in
theorem bX10_day_b0 {K : KT} {x1 : Int32} {σ : Sg} {o : Sg} (C : Cx K layM cX10_day RX10 4 (2) none)  (hQ : Rk K layM (okV o)) (h : fX10_day_b0 x1 σ = some o) : G K 0 [some (.ref (kad K 0)), some (.int x1), none, none] [] (Wd K layM σ) := by
  unfold fX10_day_b0 at h
  refine g_aload_n C.c dX10_day_0 rfl (i := 0) rfl ?_
  refine gf_10_19 C dX10_day_1 ?_
  refine g_iload_n C.c dX10_day_4 rfl (i := 1) rfl ?_
  obtain ⟨c1, h⟩ := chk h
  refine g_iald C dX10_day_5 rfl c1 ?_
  refine g_istore_n C.c (i := 2) (L' := [some (.ref (kad K 0)), some (.int x1), some (.int (rI σ 4 (x1).toNatClampNeg)), none]) dX10_day_6 rfl (Nat.le_of_ble_eq_true rfl) rfl ?_
  refine g_aload_n C.c dX10_day_7 rfl (i := 0) rfl ?_
  refine gf_10_166 C dX10_day_8 ?_
  refine g_if_lt C.c (tgt := 34) dX10_day_11 (by decide) (fun c => ?_) (fun c => ?_)
  · replace h := ite_t c h
    exact g_mask [true, false, true, false] rfl (bX10_day_b34 C hQ h)
  · replace h := ite_f c h
    refine g_iload_n C.c dX10_day_14 rfl (i := 2) rfl ?_
    refine g_aload_n C.c dX10_day_15 rfl (i := 0) rfl ?_
    refine g_iconst C.c dX10_day_16 (v := (3 : Int32)) (by decide) ?_
    obtain ⟨p3, e4, h⟩ := Option.bind_eq_some_iff.mp h
    refine kc_10_174 C dX10_day_17 e4 (Nat.le_of_ble_eq_true rfl) rfl (Nat.le_of_ble_eq_true rfl) ?_
    refine g_iconst C.c dX10_day_20 (v := (1 : Int32)) (by decide) ?_
    refine g_isub C.c dX10_day_21 ?_
    refine g_iadd C.c dX10_day_22 ?_
    refine g_istore_n C.c (i := 2) (L' := [some (.ref (kad K 0)), some (.int x1), some (.int ((rI σ 4 (x1).toNatClampNeg) + (p3.1 - (1 : Int32)))), none]) dX10_day_23 rfl (Nat.le_of_ble_eq_true rfl) rfl ?_
    refine g_iload_n C.c dX10_day_24 rfl (i := 2) rfl ?_
    refine g_if_ge C.c (tgt := 32) dX10_day_25 (by decide) (fun c => ?_) (fun c => ?_)
    · replace h := ite_t c h
      refine g_iload_n C.c dX10_day_32 rfl (i := 2) rfl ?_
      exact g_mask [true, false, false, false] rfl (bX10_day_b33 C hQ h)
    · replace h := ite_f c h
      refine g_iconst C.c dX10_day_28 (v := (0 : Int32)) (by decide) ?_
      refine g_goto C.c (tgt := 33) dX10_day_29 (by decide) ?_
      exact g_mask [true, false, false, false] rfl (bX10_day_b33 C hQ h)
def fX10_day (a0 : Int32) (σ : Sg) : Option (Sg) := fX10_day_b0 a0 σ
theorem ct_X10_day {a0 : Int32} {σ : Sg} {p : Sg} (h : fX10_day a0 σ = some p) : Ct layM yX10_day cX10_day 4 none 2 (fun ad => [.ref (ad 0), .int a0]) σ (okV p) :=
 ct_of (L0 := fun ad => [some (.ref (ad 0)), some (.int a0), none, none]) (by decide) (fun _ => Nat.le_of_ble_eq_true rfl) (fun _ => rfl) (fun K C hQ => g_mask [true, true, false, false] rfl (bX10_day_b0 C hQ h))
-- X10_step
theorem dX10_step_0 : decode cX10_step 0 = .ok (.iconst 1, 1) := by decide +kernel
theorem dX10_step_1 : decode cX10_step 1 = .ok (.aload_n 0, 1) := by decide +kernel
theorem dX10_step_2 : decode cX10_step 2 = .ok (.getfield 180, 3) := by decide +kernel
theorem dX10_step_5 : decode cX10_step 5 = .ok (.bipush 20, 2) := by decide +kernel
theorem dX10_step_7 : decode cX10_step 7 = .ok (.aload_n 0, 1) := by decide +kernel
theorem dX10_step_8 : decode cX10_step 8 = .ok (.getfield 195, 3) := by decide +kernel
theorem dX10_step_11 : decode cX10_step 11 = .ok (.imul, 1) := by decide +kernel
theorem dX10_step_12 : decode cX10_step 12 = .ok (.idiv, 1) := by decide +kernel
theorem dX10_step_13 : decode cX10_step 13 = .ok (.iadd, 1) := by decide +kernel
theorem dX10_step_14 : decode cX10_step 14 = .ok (.istore_n 3, 1) := by decide +kernel
theorem dX10_step_15 : decode cX10_step 15 = .ok (.iload_n 3, 1) := by decide +kernel
theorem dX10_step_16 : decode cX10_step 16 = .ok (.aload_n 0, 1) := by decide +kernel
theorem dX10_step_17 : decode cX10_step 17 = .ok (.getfield 22, 3) := by decide +kernel
theorem dX10_step_20 : decode cX10_step 20 = .ok (.iload_n 1, 1) := by decide +kernel
theorem dX10_step_21 : decode cX10_step 21 = .ok (.iaload, 1) := by decide +kernel
theorem dX10_step_22 : decode cX10_step 22 = .ok (.iload_n 2, 1) := by decide +kernel
theorem dX10_step_23 : decode cX10_step 23 = .ok (.if_icmp .ne 7, 3) := by decide +kernel
theorem dX10_step_26 : decode cX10_step 26 = .ok (.iconst 1, 1) := by decide +kernel
theorem dX10_step_27 : decode cX10_step 27 = .ok (.goto 4, 3) := by decide +kernel
theorem dX10_step_30 : decode cX10_step 30 = .ok (.iconst 0, 1) := by decide +kernel
theorem dX10_step_31 : decode cX10_step 31 = .ok (.isub, 1) := by decide +kernel
theorem dX10_step_32 : decode cX10_step 32 = .ok (.istore_n 3, 1) := by decide +kernel
theorem dX10_step_33 : decode cX10_step 33 = .ok (.iload_n 3, 1) := by decide +kernel
theorem dX10_step_34 : decode cX10_step 34 = .ok (.aload_n 0, 1) := by decide +kernel
theorem dX10_step_35 : decode cX10_step 35 = .ok (.getfield 22, 3) := by decide +kernel
theorem dX10_step_38 : decode cX10_step 38 = .ok (.iload_n 1, 1) := by decide +kernel
theorem dX10_step_39 : decode cX10_step 39 = .ok (.iaload, 1) := by decide +kernel
theorem dX10_step_40 : decode cX10_step 40 = .ok (.iconst (-1), 1) := by decide +kernel
theorem dX10_step_41 : decode cX10_step 41 = .ok (.if_icmp .eq 21, 3) := by decide +kernel
theorem dX10_step_44 : decode cX10_step 44 = .ok (.aload_n 0, 1) := by decide +kernel
theorem dX10_step_45 : decode cX10_step 45 = .ok (.getfield 22, 3) := by decide +kernel
theorem dX10_step_48 : decode cX10_step 48 = .ok (.iload_n 1, 1) := by decide +kernel
theorem dX10_step_49 : decode cX10_step 49 = .ok (.iaload, 1) := by decide +kernel
theorem dX10_step_50 : decode cX10_step 50 = .ok (.iload_n 2, 1) := by decide +kernel
theorem dX10_step_51 : decode cX10_step 51 = .ok (.iconst 2, 1) := by decide +kernel
theorem dX10_step_52 : decode cX10_step 52 = .ok (.iadd, 1) := by decide +kernel
theorem dX10_step_53 : decode cX10_step 53 = .ok (.iconst 4, 1) := by decide +kernel
theorem dX10_step_54 : decode cX10_step 54 = .ok (.irem, 1) := by decide +kernel
theorem dX10_step_55 : decode cX10_step 55 = .ok (.if_icmp .ne 7, 3) := by decide +kernel
theorem dX10_step_58 : decode cX10_step 58 = .ok (.iconst 1, 1) := by decide +kernel
theorem dX10_step_59 : decode cX10_step 59 = .ok (.goto 4, 3) := by decide +kernel
theorem dX10_step_62 : decode cX10_step 62 = .ok (.iconst 0, 1) := by decide +kernel
theorem dX10_step_63 : decode cX10_step 63 = .ok (.iadd, 1) := by decide +kernel
theorem dX10_step_64 : decode cX10_step 64 = .ok (.istore_n 3, 1) := by decide +kernel
theorem dX10_step_65 : decode cX10_step 65 = .ok (.iload_n 3, 1) := by decide +kernel
theorem dX10_step_66 : decode cX10_step 66 = .ok (.iconst 1, 1) := by decide +kernel
theorem dX10_step_67 : decode cX10_step 67 = .ok (.if_icmp .ge 7, 3) := by decide +kernel
theorem dX10_step_70 : decode cX10_step 70 = .ok (.iconst 1, 1) := by decide +kernel
theorem dX10_step_71 : decode cX10_step 71 = .ok (.goto 4, 3) := by decide +kernel
theorem dX10_step_74 : decode cX10_step 74 = .ok (.iload_n 3, 1) := by decide +kernel
theorem dX10_step_75 : decode cX10_step 75 = .ok (.istore_n 3, 1) := by decide +kernel
theorem dX10_step_76 : decode cX10_step 76 = .ok (.iconst 0, 1) := by decide +kernel
theorem dX10_step_77 : decode cX10_step 77 = .ok (.istore 4, 2) := by decide +kernel
theorem dX10_step_79 : decode cX10_step 79 = .ok (.iload 4, 2) := by decide +kernel
theorem dX10_step_81 : decode cX10_step 81 = .ok (.iload_n 3, 1) := by decide +kernel
theorem dX10_step_82 : decode cX10_step 82 = .ok (.if_icmp .ge 21, 3) := by decide +kernel
theorem dX10_step_85 : decode cX10_step 85 = .ok (.aload_n 0, 1) := by decide +kernel
theorem dX10_step_86 : decode cX10_step 86 = .ok (.getfield 180, 3) := by decide +kernel
theorem dX10_step_89 : decode cX10_step 89 = .ok (.ifCond .le 14, 3) := by decide +kernel
theorem dX10_step_92 : decode cX10_step 92 = .ok (.aload_n 0, 1) := by decide +kernel
theorem dX10_step_93 : decode cX10_step 93 = .ok (.iload_n 1, 1) := by decide +kernel
theorem dX10_step_94 : decode cX10_step 94 = .ok (.invokevirtual 198, 3) := by decide +kernel
theorem dX10_step_97 : decode cX10_step 97 = .ok (.iinc 4 1, 3) := by decide +kernel
theorem dX10_step_100 : decode cX10_step 100 = .ok (.goto (-21), 3) := by decide +kernel
theorem dX10_step_103 : decode cX10_step 103 = .ok (.return_, 1) := by decide +kernel
theorem cw_X10_step : Cw yX10_step cX10_step 5 none 2 := ⟨aw_1074, aw_56, ⟨by decide, by decide⟩, by decide +kernel, by decide⟩
theorem gf_10_195 {K : KT} {cc : ByteArray} {nL d pc : Nat} {ret : Option FieldType} {L : List (Option Value)} {st : List Value} {σ : Sg} (C : Cx K layM cc RX10 nL d ret)  (hd : decode cc pc = .ok (.getfield 195, 3)) (k : G K (pc + 3) L (.int (rI σ 0 28) :: st) (Wd K layM σ)) : G K pc L (.ref (kad K 0) :: st) (Wd K layM σ) := g_get C (o := 0) (ci := 10) (k := 28) hd rfl rfl rfl (by decide) (Or.inl aw_817) inA10 rfl k
theorem kc_10_198 {K : KT} {cc : ByteArray} {nL d pc : Nat} {ret : Option FieldType} {L : List (Option Value)} {st : List Value} {σ : Sg} (C : Cx K layM cc RX10 nL d ret)  {a0 : Int32}  {p : Sg} (hd : decode cc pc = .ok (.invokevirtual 198, 3)) (e : fX10_day a0 σ = some p) (hdd : 2 + 1 ≤ d) (hLn : L.length = nL) (hr : (st.map fun v => v.category).sum ≤ 8) (k : G K (pc + 3) L (st) (Wd K layM p)) : G K pc L (.int a0 :: .ref (kad K 0) :: st) (Wd K layM σ) :=
  g_callV C (As := [.int a0]) (rest := st) (o := 0) (ci := 10) hd (ct_X10_day e) cw_X10_day (Or.inl aw_1075) aw_1077 aw_36 rfl rfl rfl hdd hLn rfl rfl hr (fun v τ q => by obtain ⟨rfl, rfl⟩ := q; exact k)
def fX10_step_b79 (x1 : Int32) (x3 : Int32) (x4 : Int32) (σ : Sg) : Option ((Int32 × Sg) ⊕ ((Sg))) :=
  if x3 ≤ x4 then (some (.inr σ)) else (if (rI σ 0 23) ≤ 0 then (some (.inr σ)) else (Option.bind (fX10_day x1 σ) fun p4 => (some (.inl ((x4 + (1 : Int32)), p4)))))
def fX10_step_b75 (x1 : Int32) (y0 : Int32) (σ : Sg) : Option (Sg) :=
  Option.bind (lp (fun s => fX10_step_b79 x1 y0 s.1 s.2) FU ((0 : Int32), σ)) fun t6 => some t6
def fX10_step_b63 (x1 : Int32) (y0 : Int32) (y1 : Int32) (σ : Sg) : Option (Sg) :=
  if (1 : Int32) ≤ (y1 + y0) then (fX10_step_b75 x1 (y1 + y0) σ) else (fX10_step_b75 x1 (1 : Int32) σ)
def fX10_step_b62 (x1 : Int32) (y0 : Int32) (σ : Sg) : Option (Sg) :=
  fX10_step_b63 x1 (0 : Int32) y0 σ
def fX10_step_b31 (x1 : Int32) (x2 : Int32) (y0 : Int32) (y1 : Int32) (σ : Sg) : Option (Sg) :=
  if inb x1 30 = true then (if (rI σ 5 (x1).toNatClampNeg) = (-1 : Int32) then (fX10_step_b62 x1 (y1 - y0) σ) else (if inb x1 30 = true then (if (rI σ 5 (x1).toNatClampNeg) = ((x2 + (2 : Int32)) - (x2 + (2 : Int32)) / (4 : Int32) * (4 : Int32)) then (fX10_step_b63 x1 (1 : Int32) (y1 - y0) σ) else (fX10_step_b62 x1 (y1 - y0) σ)) else none)) else none
def fX10_step_b0 (x1 : Int32) (x2 : Int32) (σ : Sg) : Option (Sg) :=
  if ((20 : Int32) * (rI σ 0 28)) = 0 then none else if inb x1 30 = true then (if (rI σ 5 (x1).toNatClampNeg) = x2 then (fX10_step_b31 x1 x2 (1 : Int32) ((1 : Int32) + ((rI σ 0 23) / ((20 : Int32) * (rI σ 0 28)))) σ) else (fX10_step_b31 x1 x2 (0 : Int32) ((1 : Int32) + ((rI σ 0 23) / ((20 : Int32) * (rI σ 0 28)))) σ)) else none
set_option maxRecDepth 4000 in
theorem bX10_step_b79 {K : KT} {x1 : Int32} {x3 : Int32} {x4 : Int32} {σ : Sg} {o : (Int32 × Sg) ⊕ ((Sg))} (C : Cx K layM cX10_step RX10 5 (3) none)  (hI : ∀ s' : Int32 × Sg, o = .inl s' → G K 79 [some (.ref (kad K 0)), some (.int x1), none, some (.int x3), some (.int s'.1)] [] (Wd K layM s'.2)) (hE0 : ∀ t : Sg, o = .inr t → G K 103 [none, none, none, none, none] [] (Wd K layM t)) (h : fX10_step_b79 x1 x3 x4 σ = some o) : G K 79 [some (.ref (kad K 0)), some (.int x1), none, some (.int x3), some (.int x4)] [] (Wd K layM σ) := by
  unfold fX10_step_b79 at h
  refine g_iload C.c dX10_step_79 (i := 4) rfl ?_
  refine g_iload_n C.c dX10_step_81 rfl (i := 3) rfl ?_
  refine g_icmp_ge C.c (tgt := 103) dX10_step_82 (by decide) (fun c => ?_) (fun c => ?_)
  · replace h := ite_t c h
    have g9 := hE0 _ (Option.some.inj h).symm
    exact g_mask [false, false, false, false, false] rfl g9
  · replace h := ite_f c h
    refine g_aload_n C.c dX10_step_85 rfl (i := 0) rfl ?_
    refine gf_10_180 C dX10_step_86 ?_
    refine g_if_le C.c (tgt := 103) dX10_step_89 (by decide) (fun c => ?_) (fun c => ?_)
    · replace h := ite_t c h
      have g9 := hE0 _ (Option.some.inj h).symm
      exact g_mask [false, false, false, false, false] rfl g9
    · replace h := ite_f c h
      refine g_aload_n C.c dX10_step_92 rfl (i := 0) rfl ?_
      refine g_iload_n C.c dX10_step_93 rfl (i := 1) rfl ?_
      obtain ⟨p4, e5, h⟩ := Option.bind_eq_some_iff.mp h
      refine kc_10_198 C dX10_step_94 e5 (Nat.le_of_ble_eq_true rfl) rfl (Nat.le_of_ble_eq_true rfl) ?_
      refine g_iinc C.c (i := 4) (y := (1 : Int32)) (L' := [some (.ref (kad K 0)), some (.int x1), none, some (.int x3), some (.int (x4 + (1 : Int32)))]) dX10_step_97 rfl (by decide) (Nat.le_of_ble_eq_true rfl) rfl ?_
      refine g_goto C.c (tgt := 79) dX10_step_100 (by decide) ?_
      have g9 := hI _ (Option.some.inj h).symm
      exact g_mask [true, true, false, true, true] rfl g9
set_option maxRecDepth 4000 in
theorem bX10_step_b75 {K : KT} {x1 : Int32} {y0 : Int32} {σ : Sg} {o : Sg} (C : Cx K layM cX10_step RX10 5 (3) none)  (hQ : Rk K layM (okV o)) (h : fX10_step_b75 x1 y0 σ = some o) : G K 75 [some (.ref (kad K 0)), some (.int x1), none, none, none] [.int y0] (Wd K layM σ) := by
  unfold fX10_step_b75 at h
  refine g_istore_n C.c (i := 3) (L' := [some (.ref (kad K 0)), some (.int x1), none, some (.int y0), none]) dX10_step_75 rfl (Nat.le_of_ble_eq_true rfl) rfl ?_
  refine g_iconst C.c dX10_step_76 (v := (0 : Int32)) (by decide) ?_
  refine g_istore C.c (i := 4) (L' := [some (.ref (kad K 0)), some (.int x1), none, some (.int y0), some (.int (0 : Int32))]) dX10_step_77 (Nat.le_of_ble_eq_true rfl) rfl ?_
  refine g_mask [true, true, false, true, true] rfl ?_
  refine lp_bind (Gh := fun s => G K 79 [some (.ref (kad K 0)), some (.int x1), none, some (.int y0), some (.int s.1)] [] (Wd K layM s.2)) h (fun s o2 hf gI gE => ?_)
  refine bX10_step_b79 C gI (fun t6 e => ?_) hf
  · have h := gE _ e
    obtain rfl := Option.some.inj h
    exact g_vret C hQ dX10_step_103 ⟨rfl, rfl⟩
set_option maxRecDepth 4000 in
theorem bX10_step_b63 {K : KT} {x1 : Int32} {y0 : Int32} {y1 : Int32} {σ : Sg} {o : Sg} (C : Cx K layM cX10_step RX10 5 (3) none)  (hQ : Rk K layM (okV o)) (h : fX10_step_b63 x1 y0 y1 σ = some o) : G K 63 [some (.ref (kad K 0)), some (.int x1), none, none, none] [.int y0, .int y1] (Wd K layM σ) := by
  unfold fX10_step_b63 at h
  refine g_iadd C.c dX10_step_63 ?_
  refine g_istore_n C.c (i := 3) (L' := [some (.ref (kad K 0)), some (.int x1), none, some (.int (y1 + y0)), none]) dX10_step_64 rfl (Nat.le_of_ble_eq_true rfl) rfl ?_
  refine g_iload_n C.c dX10_step_65 rfl (i := 3) rfl ?_
  refine g_iconst C.c dX10_step_66 (v := (1 : Int32)) (by decide) ?_
  refine g_icmp_ge C.c (tgt := 74) dX10_step_67 (by decide) (fun c => ?_) (fun c => ?_)
  · replace h := ite_t c h
    refine g_iload_n C.c dX10_step_74 rfl (i := 3) rfl ?_
    exact g_mask [true, true, false, false, false] rfl (bX10_step_b75 C hQ h)
  · replace h := ite_f c h
    refine g_iconst C.c dX10_step_70 (v := (1 : Int32)) (by decide) ?_
    refine g_goto C.c (tgt := 75) dX10_step_71 (by decide) ?_
    exact g_mask [true, true, false, false, false] rfl (bX10_step_b75 C hQ h)
set_option maxRecDepth 4000 in
theorem bX10_step_b62 {K : KT} {x1 : Int32} {y0 : Int32} {σ : Sg} {o : Sg} (C : Cx K layM cX10_step RX10 5 (3) none)  (hQ : Rk K layM (okV o)) (h : fX10_step_b62 x1 y0 σ = some o) : G K 62 [some (.ref (kad K 0)), some (.int x1), none, none, none] [.int y0] (Wd K layM σ) := by
  unfold fX10_step_b62 at h
  refine g_iconst C.c dX10_step_62 (v := (0 : Int32)) (by decide) ?_
  exact g_mask [true, true, false, false, false] rfl (bX10_step_b63 C hQ h)
set_option maxRecDepth 4000 in
theorem bX10_step_b31 {K : KT} {x1 : Int32} {x2 : Int32} {y0 : Int32} {y1 : Int32} {σ : Sg} {o : Sg} (C : Cx K layM cX10_step RX10 5 (3) none)  (hQ : Rk K layM (okV o)) (h : fX10_step_b31 x1 x2 y0 y1 σ = some o) : G K 31 [some (.ref (kad K 0)), some (.int x1), some (.int x2), none, none] [.int y0, .int y1] (Wd K layM σ) := by
  unfold fX10_step_b31 at h
  refine g_isub C.c dX10_step_31 ?_
  refine g_istore_n C.c (i := 3) (L' := [some (.ref (kad K 0)), some (.int x1), some (.int x2), some (.int (y1 - y0)), none]) dX10_step_32 rfl (Nat.le_of_ble_eq_true rfl) rfl ?_
  refine g_iload_n C.c dX10_step_33 rfl (i := 3) rfl ?_
  refine g_aload_n C.c dX10_step_34 rfl (i := 0) rfl ?_
  refine gf_10_22 C dX10_step_35 ?_
  refine g_iload_n C.c dX10_step_38 rfl (i := 1) rfl ?_
  obtain ⟨c3, h⟩ := chk h
  refine g_iald C dX10_step_39 rfl c3 ?_
  refine g_iconst C.c dX10_step_40 (v := (-1 : Int32)) (by decide) ?_
  refine g_icmp_eq C.c (tgt := 62) dX10_step_41 (by decide) (fun c => ?_) (fun c => ?_)
  · replace h := ite_t c h
    exact g_mask [true, true, false, false, false] rfl (bX10_step_b62 C hQ h)
  · replace h := ite_f c h
    refine g_aload_n C.c dX10_step_44 rfl (i := 0) rfl ?_
    refine gf_10_22 C dX10_step_45 ?_
    refine g_iload_n C.c dX10_step_48 rfl (i := 1) rfl ?_
    obtain ⟨c8, h⟩ := chk h
    refine g_iald C dX10_step_49 rfl c8 ?_
    refine g_iload_n C.c dX10_step_50 rfl (i := 2) rfl ?_
    refine g_iconst C.c dX10_step_51 (v := (2 : Int32)) (by decide) ?_
    refine g_iadd C.c dX10_step_52 ?_
    refine g_iconst C.c dX10_step_53 (v := (4 : Int32)) (by decide) ?_
    refine g_irem C.c dX10_step_54 (by decide) ?_
    refine g_icmp_ne C.c (tgt := 62) dX10_step_55 (by decide) (fun c => ?_) (fun c => ?_)
    · replace h := ite_f c h
      exact g_mask [true, true, false, false, false] rfl (bX10_step_b62 C hQ h)
    · replace h := ite_t c h
      refine g_iconst C.c dX10_step_58 (v := (1 : Int32)) (by decide) ?_
      refine g_goto C.c (tgt := 63) dX10_step_59 (by decide) ?_
      exact g_mask [true, true, false, false, false] rfl (bX10_step_b63 C hQ h)
set_option maxRecDepth 4000 in
theorem bX10_step_b0 {K : KT} {x1 : Int32} {x2 : Int32} {σ : Sg} {o : Sg} (C : Cx K layM cX10_step RX10 5 (3) none)  (hQ : Rk K layM (okV o)) (h : fX10_step_b0 x1 x2 σ = some o) : G K 0 [some (.ref (kad K 0)), some (.int x1), some (.int x2), none, none] [] (Wd K layM σ) := by
  unfold fX10_step_b0 at h
  refine g_iconst C.c dX10_step_0 (v := (1 : Int32)) (by decide) ?_
  refine g_aload_n C.c dX10_step_1 rfl (i := 0) rfl ?_
  refine gf_10_180 C dX10_step_2 ?_
  refine g_bipush C.c dX10_step_5 (v := (20 : Int32)) (by decide) ?_
  refine g_aload_n C.c dX10_step_7 rfl (i := 0) rfl ?_
  refine gf_10_195 C dX10_step_8 ?_
  refine g_imul C.c dX10_step_11 ?_
  obtain ⟨c1, h⟩ := chk0 h
  refine g_idiv C.c dX10_step_12 c1 ?_
  refine g_iadd C.c dX10_step_13 ?_
  refine g_istore_n C.c (i := 3) (L' := [some (.ref (kad K 0)), some (.int x1), some (.int x2), some (.int ((1 : Int32) + ((rI σ 0 23) / ((20 : Int32) * (rI σ 0 28))))), none]) dX10_step_14 rfl (Nat.le_of_ble_eq_true rfl) rfl ?_
  refine g_iload_n C.c dX10_step_15 rfl (i := 3) rfl ?_
  refine g_aload_n C.c dX10_step_16 rfl (i := 0) rfl ?_
  refine gf_10_22 C dX10_step_17 ?_
  refine g_iload_n C.c dX10_step_20 rfl (i := 1) rfl ?_
  obtain ⟨c2, h⟩ := chk h
  refine g_iald C dX10_step_21 rfl c2 ?_
  refine g_iload_n C.c dX10_step_22 rfl (i := 2) rfl ?_
  refine g_icmp_ne C.c (tgt := 30) dX10_step_23 (by decide) (fun c => ?_) (fun c => ?_)
  · replace h := ite_f c h
    refine g_iconst C.c dX10_step_30 (v := (0 : Int32)) (by decide) ?_
    exact g_mask [true, true, true, false, false] rfl (bX10_step_b31 C hQ h)
  · replace h := ite_t c h
    refine g_iconst C.c dX10_step_26 (v := (1 : Int32)) (by decide) ?_
    refine g_goto C.c (tgt := 31) dX10_step_27 (by decide) ?_
    exact g_mask [true, true, true, false, false] rfl (bX10_step_b31 C hQ h)
def fX10_step (a0 : Int32) (a1 : Int32) (σ : Sg) : Option (Sg) := fX10_step_b0 a0 a1 σ
theorem ct_X10_step {a0 : Int32} {a1 : Int32} {σ : Sg} {p : Sg} (h : fX10_step a0 a1 σ = some p) : Ct layM yX10_step cX10_step 5 none 3 (fun ad => [.ref (ad 0), .int a0, .int a1]) σ (okV p) :=
 ct_of (L0 := fun ad => [some (.ref (ad 0)), some (.int a0), some (.int a1), none, none]) (by decide) (fun _ => Nat.le_of_ble_eq_true rfl) (fun _ => rfl) (fun K C hQ => g_mask [true, true, true, false, false] rfl (bX10_step_b0 C hQ h))
-- X10_to
theorem dX10_to_0 : decode cX10_to 0 = .ok (.iload_n 1, 1) := by decide +kernel
theorem dX10_to_1 : decode cX10_to 1 = .ok (.aload_n 0, 1) := by decide +kernel
theorem dX10_to_2 : decode cX10_to 2 = .ok (.getfield 119, 3) := by decide +kernel
theorem dX10_to_5 : decode cX10_to 5 = .ok (.idiv, 1) := by decide +kernel
theorem dX10_to_6 : decode cX10_to 6 = .ok (.iload_n 2, 1) := by decide +kernel
theorem dX10_to_7 : decode cX10_to 7 = .ok (.ifCond .ne 7, 3) := by decide +kernel
theorem dX10_to_10 : decode cX10_to 10 = .ok (.iconst (-1), 1) := by decide +kernel
theorem dX10_to_11 : decode cX10_to 11 = .ok (.goto 13, 3) := by decide +kernel
theorem dX10_to_14 : decode cX10_to 14 = .ok (.iload_n 2, 1) := by decide +kernel
theorem dX10_to_15 : decode cX10_to 15 = .ok (.iconst 2, 1) := by decide +kernel
theorem dX10_to_16 : decode cX10_to 16 = .ok (.if_icmp .ne 7, 3) := by decide +kernel
theorem dX10_to_19 : decode cX10_to 19 = .ok (.iconst 1, 1) := by decide +kernel
theorem dX10_to_20 : decode cX10_to 20 = .ok (.goto 4, 3) := by decide +kernel
theorem dX10_to_23 : decode cX10_to 23 = .ok (.iconst 0, 1) := by decide +kernel
theorem dX10_to_24 : decode cX10_to 24 = .ok (.iadd, 1) := by decide +kernel
theorem dX10_to_25 : decode cX10_to 25 = .ok (.istore_n 3, 1) := by decide +kernel
theorem dX10_to_26 : decode cX10_to 26 = .ok (.iload_n 1, 1) := by decide +kernel
theorem dX10_to_27 : decode cX10_to 27 = .ok (.aload_n 0, 1) := by decide +kernel
theorem dX10_to_28 : decode cX10_to 28 = .ok (.getfield 119, 3) := by decide +kernel
theorem dX10_to_31 : decode cX10_to 31 = .ok (.irem, 1) := by decide +kernel
theorem dX10_to_32 : decode cX10_to 32 = .ok (.iload_n 2, 1) := by decide +kernel
theorem dX10_to_33 : decode cX10_to 33 = .ok (.iconst 1, 1) := by decide +kernel
theorem dX10_to_34 : decode cX10_to 34 = .ok (.if_icmp .ne 7, 3) := by decide +kernel
theorem dX10_to_37 : decode cX10_to 37 = .ok (.iconst 1, 1) := by decide +kernel
theorem dX10_to_38 : decode cX10_to 38 = .ok (.goto 13, 3) := by decide +kernel
theorem dX10_to_41 : decode cX10_to 41 = .ok (.iload_n 2, 1) := by decide +kernel
theorem dX10_to_42 : decode cX10_to 42 = .ok (.iconst 3, 1) := by decide +kernel
theorem dX10_to_43 : decode cX10_to 43 = .ok (.if_icmp .ne 7, 3) := by decide +kernel
theorem dX10_to_46 : decode cX10_to 46 = .ok (.iconst (-1), 1) := by decide +kernel
theorem dX10_to_47 : decode cX10_to 47 = .ok (.goto 4, 3) := by decide +kernel
theorem dX10_to_50 : decode cX10_to 50 = .ok (.iconst 0, 1) := by decide +kernel
theorem dX10_to_51 : decode cX10_to 51 = .ok (.iadd, 1) := by decide +kernel
theorem dX10_to_52 : decode cX10_to 52 = .ok (.istore 4, 2) := by decide +kernel
theorem dX10_to_54 : decode cX10_to 54 = .ok (.iload_n 3, 1) := by decide +kernel
theorem dX10_to_55 : decode cX10_to 55 = .ok (.i2l, 1) := by decide +kernel
theorem dX10_to_56 : decode cX10_to 56 = .ok (.lconst 0, 1) := by decide +kernel
theorem dX10_to_57 : decode cX10_to 57 = .ok (.aload_n 0, 1) := by decide +kernel
theorem dX10_to_58 : decode cX10_to 58 = .ok (.getfield 116, 3) := by decide +kernel
theorem dX10_to_61 : decode cX10_to 61 = .ok (.iconst 1, 1) := by decide +kernel
theorem dX10_to_62 : decode cX10_to 62 = .ok (.isub, 1) := by decide +kernel
theorem dX10_to_63 : decode cX10_to 63 = .ok (.i2l, 1) := by decide +kernel
theorem dX10_to_64 : decode cX10_to 64 = .ok (.invokestatic 102, 3) := by decide +kernel
theorem dX10_to_67 : decode cX10_to 67 = .ok (.ifCond .eq 20, 3) := by decide +kernel
theorem dX10_to_70 : decode cX10_to 70 = .ok (.iload 4, 2) := by decide +kernel
theorem dX10_to_72 : decode cX10_to 72 = .ok (.i2l, 1) := by decide +kernel
theorem dX10_to_73 : decode cX10_to 73 = .ok (.lconst 0, 1) := by decide +kernel
theorem dX10_to_74 : decode cX10_to 74 = .ok (.aload_n 0, 1) := by decide +kernel
theorem dX10_to_75 : decode cX10_to 75 = .ok (.getfield 119, 3) := by decide +kernel
theorem dX10_to_78 : decode cX10_to 78 = .ok (.iconst 1, 1) := by decide +kernel
theorem dX10_to_79 : decode cX10_to 79 = .ok (.isub, 1) := by decide +kernel
theorem dX10_to_80 : decode cX10_to 80 = .ok (.i2l, 1) := by decide +kernel
theorem dX10_to_81 : decode cX10_to 81 = .ok (.invokestatic 102, 3) := by decide +kernel
theorem dX10_to_84 : decode cX10_to 84 = .ok (.ifCond .ne 5, 3) := by decide +kernel
theorem dX10_to_87 : decode cX10_to 87 = .ok (.iconst (-1), 1) := by decide +kernel
theorem dX10_to_88 : decode cX10_to 88 = .ok (.ireturn, 1) := by decide +kernel
theorem dX10_to_89 : decode cX10_to 89 = .ok (.aload_n 0, 1) := by decide +kernel
theorem dX10_to_90 : decode cX10_to 90 = .ok (.getfield 119, 3) := by decide +kernel
theorem dX10_to_93 : decode cX10_to 93 = .ok (.iload_n 3, 1) := by decide +kernel
theorem dX10_to_94 : decode cX10_to 94 = .ok (.imul, 1) := by decide +kernel
theorem dX10_to_95 : decode cX10_to 95 = .ok (.iload 4, 2) := by decide +kernel
theorem dX10_to_97 : decode cX10_to 97 = .ok (.iadd, 1) := by decide +kernel
theorem dX10_to_98 : decode cX10_to 98 = .ok (.istore 5, 2) := by decide +kernel
theorem dX10_to_100 : decode cX10_to 100 = .ok (.aload_n 0, 1) := by decide +kernel
theorem dX10_to_101 : decode cX10_to 101 = .ok (.getfield 19, 3) := by decide +kernel
theorem dX10_to_104 : decode cX10_to 104 = .ok (.iload 5, 2) := by decide +kernel
theorem dX10_to_106 : decode cX10_to 106 = .ok (.iaload, 1) := by decide +kernel
theorem dX10_to_107 : decode cX10_to 107 = .ok (.bipush 11, 2) := by decide +kernel
theorem dX10_to_109 : decode cX10_to 109 = .ok (.if_icmp .eq 22, 3) := by decide +kernel
theorem dX10_to_112 : decode cX10_to 112 = .ok (.aload_n 0, 1) := by decide +kernel
theorem dX10_to_113 : decode cX10_to 113 = .ok (.iload 5, 2) := by decide +kernel
theorem dX10_to_115 : decode cX10_to 115 = .ok (.invokevirtual 137, 3) := by decide +kernel
theorem dX10_to_118 : decode cX10_to 118 = .ok (.aload_n 0, 1) := by decide +kernel
theorem dX10_to_119 : decode cX10_to 119 = .ok (.iload_n 1, 1) := by decide +kernel
theorem dX10_to_120 : decode cX10_to 120 = .ok (.invokevirtual 137, 3) := by decide +kernel
theorem dX10_to_123 : decode cX10_to 123 = .ok (.if_icmp .ge 8, 3) := by decide +kernel
theorem dX10_to_126 : decode cX10_to 126 = .ok (.iload 5, 2) := by decide +kernel
theorem dX10_to_128 : decode cX10_to 128 = .ok (.goto 4, 3) := by decide +kernel
theorem dX10_to_131 : decode cX10_to 131 = .ok (.iconst (-1), 1) := by decide +kernel
theorem dX10_to_132 : decode cX10_to 132 = .ok (.ireturn, 1) := by decide +kernel
theorem cw_X10_to : Cw yX10_to cX10_to 6 (some .int) 2 := ⟨aw_1058, aw_56, ⟨by decide, by decide⟩, by decide +kernel, by decide⟩
def fX10_to_b51 (x1 : Int32) (x3 : Int32) (y0 : Int32) (y1 : Int32) (σ : Sg) : Option (Int32 × Sg) :=
  Option.bind (fX10_in ((x3).toInt64) (0 : Int64) ((((rI σ 0 9) - (1 : Int32))).toInt64) σ) fun p3 => (if p3.1 = 0 then (some ((-1 : Int32), p3.2)) else (Option.bind (fX10_in (((y1 + y0)).toInt64) (0 : Int64) ((((rI p3.2 0 10) - (1 : Int32))).toInt64) p3.2) fun p5 => (if p5.1 = 0 then (some ((-1 : Int32), p5.2)) else (if inb (((rI p5.2 0 10) * x3) + (y1 + y0)) 30 = true then (if (rI p5.2 4 ((((rI p5.2 0 10) * x3) + (y1 + y0))).toNatClampNeg) = (11 : Int32) then (some ((-1 : Int32), p5.2)) else (Option.bind (fX10_farOf (((rI p5.2 0 10) * x3) + (y1 + y0)) p5.2) fun p8 => (Option.bind (fX10_farOf x1 p8.2) fun p10 => (if p10.1 ≤ p8.1 then (some ((-1 : Int32), p10.2)) else (some ((((rI p5.2 0 10) * x3) + (y1 + y0)), p10.2)))))) else none))))
def fX10_to_b24 (x1 : Int32) (x2 : Int32) (y0 : Int32) (y1 : Int32) (σ : Sg) : Option (Int32 × Sg) :=
  if (rI σ 0 10) = 0 then none else if x2 = (1 : Int32) then (fX10_to_b51 x1 (y1 + y0) (1 : Int32) (x1 - x1 / (rI σ 0 10) * (rI σ 0 10)) σ) else (if x2 = (3 : Int32) then (fX10_to_b51 x1 (y1 + y0) (-1 : Int32) (x1 - x1 / (rI σ 0 10) * (rI σ 0 10)) σ) else (fX10_to_b51 x1 (y1 + y0) (0 : Int32) (x1 - x1 / (rI σ 0 10) * (rI σ 0 10)) σ))
def fX10_to_b0 (x1 : Int32) (x2 : Int32) (σ : Sg) : Option (Int32 × Sg) :=
  if (rI σ 0 10) = 0 then none else if x2 = 0 then (fX10_to_b24 x1 x2 (-1 : Int32) (x1 / (rI σ 0 10)) σ) else (if x2 = (2 : Int32) then (fX10_to_b24 x1 x2 (1 : Int32) (x1 / (rI σ 0 10)) σ) else (fX10_to_b24 x1 x2 (0 : Int32) (x1 / (rI σ 0 10)) σ))
set_option maxRecDepth 4000 in
theorem bX10_to_b51 {K : KT} {x1 : Int32} {x3 : Int32} {y0 : Int32} {y1 : Int32} {σ : Sg} {o : Int32 × Sg} (C : Cx K layM cX10_to RX10 6 (3) (some .int))  (hQ : Rk K layM (okI o)) (h : fX10_to_b51 x1 x3 y0 y1 σ = some o) : G K 51 [some (.ref (kad K 0)), some (.int x1), none, some (.int x3), none, none] [.int y0, .int y1] (Wd K layM σ) := by
  unfold fX10_to_b51 at h
  refine g_iadd C.c dX10_to_51 ?_
  refine g_istore C.c (i := 4) (L' := [some (.ref (kad K 0)), some (.int x1), none, some (.int x3), some (.int (y1 + y0)), none]) dX10_to_52 (Nat.le_of_ble_eq_true rfl) rfl ?_
  refine g_iload_n C.c dX10_to_54 rfl (i := 3) rfl ?_
  refine g_i2l C.c dX10_to_55 ?_
  refine g_lconst C.c dX10_to_56 (v := (0 : Int64)) (by decide) ?_
  refine g_aload_n C.c dX10_to_57 rfl (i := 0) rfl ?_
  refine gf_10_116 C dX10_to_58 ?_
  refine g_iconst C.c dX10_to_61 (v := (1 : Int32)) (by decide) ?_
  refine g_isub C.c dX10_to_62 ?_
  refine g_i2l C.c dX10_to_63 ?_
  obtain ⟨p3, e4, h⟩ := Option.bind_eq_some_iff.mp h
  refine kc_10_102 C dX10_to_64 e4 (Nat.le_of_ble_eq_true rfl) rfl (Nat.le_of_ble_eq_true rfl) ?_
  refine g_if_eq C.c (tgt := 87) dX10_to_67 (by decide) (fun c => ?_) (fun c => ?_)
  · replace h := ite_t c h
    refine g_iconst C.c dX10_to_87 (v := (-1 : Int32)) (by decide) ?_
    obtain rfl := Option.some.inj h
    exact g_iret C hQ dX10_to_88 rfl ⟨rfl, rfl⟩
  · replace h := ite_f c h
    refine g_iload C.c dX10_to_70 (i := 4) rfl ?_
    refine g_i2l C.c dX10_to_72 ?_
    refine g_lconst C.c dX10_to_73 (v := (0 : Int64)) (by decide) ?_
    refine g_aload_n C.c dX10_to_74 rfl (i := 0) rfl ?_
    refine gf_10_119 C dX10_to_75 ?_
    refine g_iconst C.c dX10_to_78 (v := (1 : Int32)) (by decide) ?_
    refine g_isub C.c dX10_to_79 ?_
    refine g_i2l C.c dX10_to_80 ?_
    obtain ⟨p5, e6, h⟩ := Option.bind_eq_some_iff.mp h
    refine kc_10_102 C dX10_to_81 e6 (Nat.le_of_ble_eq_true rfl) rfl (Nat.le_of_ble_eq_true rfl) ?_
    refine g_if_ne C.c (tgt := 89) dX10_to_84 (by decide) (fun c => ?_) (fun c => ?_)
    · replace h := ite_f c h
      refine g_aload_n C.c dX10_to_89 rfl (i := 0) rfl ?_
      refine gf_10_119 C dX10_to_90 ?_
      refine g_iload_n C.c dX10_to_93 rfl (i := 3) rfl ?_
      refine g_imul C.c dX10_to_94 ?_
      refine g_iload C.c dX10_to_95 (i := 4) rfl ?_
      refine g_iadd C.c dX10_to_97 ?_
      refine g_istore C.c (i := 5) (L' := [some (.ref (kad K 0)), some (.int x1), none, some (.int x3), some (.int (y1 + y0)), some (.int (((rI p5.2 0 10) * x3) + (y1 + y0)))]) dX10_to_98 (Nat.le_of_ble_eq_true rfl) rfl ?_
      refine g_aload_n C.c dX10_to_100 rfl (i := 0) rfl ?_
      refine gf_10_19 C dX10_to_101 ?_
      refine g_iload C.c dX10_to_104 (i := 5) rfl ?_
      obtain ⟨c7, h⟩ := chk h
      refine g_iald C dX10_to_106 rfl c7 ?_
      refine g_bipush C.c dX10_to_107 (v := (11 : Int32)) (by decide) ?_
      refine g_icmp_eq C.c (tgt := 131) dX10_to_109 (by decide) (fun c => ?_) (fun c => ?_)
      · replace h := ite_t c h
        refine g_iconst C.c dX10_to_131 (v := (-1 : Int32)) (by decide) ?_
        obtain rfl := Option.some.inj h
        exact g_iret C hQ dX10_to_132 rfl ⟨rfl, rfl⟩
      · replace h := ite_f c h
        refine g_aload_n C.c dX10_to_112 rfl (i := 0) rfl ?_
        refine g_iload C.c dX10_to_113 (i := 5) rfl ?_
        obtain ⟨p8, e9, h⟩ := Option.bind_eq_some_iff.mp h
        refine kc_10_137 C dX10_to_115 e9 (Nat.le_of_ble_eq_true rfl) rfl (Nat.le_of_ble_eq_true rfl) ?_
        refine g_aload_n C.c dX10_to_118 rfl (i := 0) rfl ?_
        refine g_iload_n C.c dX10_to_119 rfl (i := 1) rfl ?_
        obtain ⟨p10, e11, h⟩ := Option.bind_eq_some_iff.mp h
        refine kc_10_137 C dX10_to_120 e11 (Nat.le_of_ble_eq_true rfl) rfl (Nat.le_of_ble_eq_true rfl) ?_
        refine g_icmp_ge C.c (tgt := 131) dX10_to_123 (by decide) (fun c => ?_) (fun c => ?_)
        · replace h := ite_t c h
          refine g_iconst C.c dX10_to_131 (v := (-1 : Int32)) (by decide) ?_
          obtain rfl := Option.some.inj h
          exact g_iret C hQ dX10_to_132 rfl ⟨rfl, rfl⟩
        · replace h := ite_f c h
          refine g_iload C.c dX10_to_126 (i := 5) rfl ?_
          refine g_goto C.c (tgt := 132) dX10_to_128 (by decide) ?_
          obtain rfl := Option.some.inj h
          exact g_iret C hQ dX10_to_132 rfl ⟨rfl, rfl⟩
    · replace h := ite_t c h
      refine g_iconst C.c dX10_to_87 (v := (-1 : Int32)) (by decide) ?_
      obtain rfl := Option.some.inj h
      exact g_iret C hQ dX10_to_88 rfl ⟨rfl, rfl⟩
set_option maxRecDepth 4000 in
theorem bX10_to_b24 {K : KT} {x1 : Int32} {x2 : Int32} {y0 : Int32} {y1 : Int32} {σ : Sg} {o : Int32 × Sg} (C : Cx K layM cX10_to RX10 6 (3) (some .int))  (hQ : Rk K layM (okI o)) (h : fX10_to_b24 x1 x2 y0 y1 σ = some o) : G K 24 [some (.ref (kad K 0)), some (.int x1), some (.int x2), none, none, none] [.int y0, .int y1] (Wd K layM σ) := by
  unfold fX10_to_b24 at h
  refine g_iadd C.c dX10_to_24 ?_
  refine g_istore_n C.c (i := 3) (L' := [some (.ref (kad K 0)), some (.int x1), some (.int x2), some (.int (y1 + y0)), none, none]) dX10_to_25 rfl (Nat.le_of_ble_eq_true rfl) rfl ?_
  refine g_iload_n C.c dX10_to_26 rfl (i := 1) rfl ?_
  refine g_aload_n C.c dX10_to_27 rfl (i := 0) rfl ?_
  refine gf_10_119 C dX10_to_28 ?_
  obtain ⟨c2, h⟩ := chk0 h
  refine g_irem C.c dX10_to_31 c2 ?_
  refine g_iload_n C.c dX10_to_32 rfl (i := 2) rfl ?_
  refine g_iconst C.c dX10_to_33 (v := (1 : Int32)) (by decide) ?_
  refine g_icmp_ne C.c (tgt := 41) dX10_to_34 (by decide) (fun c => ?_) (fun c => ?_)
  · replace h := ite_f c h
    refine g_iload_n C.c dX10_to_41 rfl (i := 2) rfl ?_
    refine g_iconst C.c dX10_to_42 (v := (3 : Int32)) (by decide) ?_
    refine g_icmp_ne C.c (tgt := 50) dX10_to_43 (by decide) (fun c => ?_) (fun c => ?_)
    · replace h := ite_f c h
      refine g_iconst C.c dX10_to_50 (v := (0 : Int32)) (by decide) ?_
      exact g_mask [true, true, false, true, false, false] rfl (bX10_to_b51 C hQ h)
    · replace h := ite_t c h
      refine g_iconst C.c dX10_to_46 (v := (-1 : Int32)) (by decide) ?_
      refine g_goto C.c (tgt := 51) dX10_to_47 (by decide) ?_
      exact g_mask [true, true, false, true, false, false] rfl (bX10_to_b51 C hQ h)
  · replace h := ite_t c h
    refine g_iconst C.c dX10_to_37 (v := (1 : Int32)) (by decide) ?_
    refine g_goto C.c (tgt := 51) dX10_to_38 (by decide) ?_
    exact g_mask [true, true, false, true, false, false] rfl (bX10_to_b51 C hQ h)
set_option maxRecDepth 4000 in
theorem bX10_to_b0 {K : KT} {x1 : Int32} {x2 : Int32} {σ : Sg} {o : Int32 × Sg} (C : Cx K layM cX10_to RX10 6 (3) (some .int))  (hQ : Rk K layM (okI o)) (h : fX10_to_b0 x1 x2 σ = some o) : G K 0 [some (.ref (kad K 0)), some (.int x1), some (.int x2), none, none, none] [] (Wd K layM σ) := by
  unfold fX10_to_b0 at h
  refine g_iload_n C.c dX10_to_0 rfl (i := 1) rfl ?_
  refine g_aload_n C.c dX10_to_1 rfl (i := 0) rfl ?_
  refine gf_10_119 C dX10_to_2 ?_
  obtain ⟨c1, h⟩ := chk0 h
  refine g_idiv C.c dX10_to_5 c1 ?_
  refine g_iload_n C.c dX10_to_6 rfl (i := 2) rfl ?_
  refine g_if_ne C.c (tgt := 14) dX10_to_7 (by decide) (fun c => ?_) (fun c => ?_)
  · replace h := ite_f c h
    refine g_iload_n C.c dX10_to_14 rfl (i := 2) rfl ?_
    refine g_iconst C.c dX10_to_15 (v := (2 : Int32)) (by decide) ?_
    refine g_icmp_ne C.c (tgt := 23) dX10_to_16 (by decide) (fun c => ?_) (fun c => ?_)
    · replace h := ite_f c h
      refine g_iconst C.c dX10_to_23 (v := (0 : Int32)) (by decide) ?_
      exact g_mask [true, true, true, false, false, false] rfl (bX10_to_b24 C hQ h)
    · replace h := ite_t c h
      refine g_iconst C.c dX10_to_19 (v := (1 : Int32)) (by decide) ?_
      refine g_goto C.c (tgt := 24) dX10_to_20 (by decide) ?_
      exact g_mask [true, true, true, false, false, false] rfl (bX10_to_b24 C hQ h)
  · replace h := ite_t c h
    refine g_iconst C.c dX10_to_10 (v := (-1 : Int32)) (by decide) ?_
    refine g_goto C.c (tgt := 24) dX10_to_11 (by decide) ?_
    exact g_mask [true, true, true, false, false, false] rfl (bX10_to_b24 C hQ h)
def fX10_to (a0 : Int32) (a1 : Int32) (σ : Sg) : Option (Int32 × Sg) := fX10_to_b0 a0 a1 σ
theorem ct_X10_to {a0 : Int32} {a1 : Int32} {σ : Sg} {p : Int32 × Sg} (h : fX10_to a0 a1 σ = some p) : Ct layM yX10_to cX10_to 6 (some .int) 3 (fun ad => [.ref (ad 0), .int a0, .int a1]) σ (okI p) :=
 ct_of (L0 := fun ad => [some (.ref (ad 0)), some (.int a0), some (.int a1), none, none, none]) (by decide) (fun _ => Nat.le_of_ble_eq_true rfl) (fun _ => rfl) (fun K C hQ => g_mask [true, true, true, false, false, false] rfl (bX10_to_b0 C hQ h))
-- X10_begin
theorem dX10_begin_0 : decode cX10_begin 0 = .ok (.aload_n 0, 1) := by decide +kernel
theorem dX10_begin_1 : decode cX10_begin 1 = .ok (.aload_n 0, 1) := by decide +kernel
theorem dX10_begin_2 : decode cX10_begin 2 = .ok (.getfield 25, 3) := by decide +kernel
theorem dX10_begin_5 : decode cX10_begin 5 = .ok (.iconst 5, 1) := by decide +kernel
theorem dX10_begin_6 : decode cX10_begin 6 = .ok (.iload_n 1, 1) := by decide +kernel
theorem dX10_begin_7 : decode cX10_begin 7 = .ok (.imul, 1) := by decide +kernel
theorem dX10_begin_8 : decode cX10_begin 8 = .ok (.iaload, 1) := by decide +kernel
theorem dX10_begin_9 : decode cX10_begin 9 = .ok (.putfield 177, 3) := by decide +kernel
theorem dX10_begin_12 : decode cX10_begin 12 = .ok (.aload_n 0, 1) := by decide +kernel
theorem dX10_begin_13 : decode cX10_begin 13 = .ok (.iload_n 2, 1) := by decide +kernel
theorem dX10_begin_14 : decode cX10_begin 14 = .ok (.putfield 180, 3) := by decide +kernel
theorem dX10_begin_17 : decode cX10_begin 17 = .ok (.aload_n 0, 1) := by decide +kernel
theorem dX10_begin_18 : decode cX10_begin 18 = .ok (.aload_n 0, 1) := by decide +kernel
theorem dX10_begin_19 : decode cX10_begin 19 = .ok (.getfield 25, 3) := by decide +kernel
theorem dX10_begin_22 : decode cX10_begin 22 = .ok (.iconst 5, 1) := by decide +kernel
theorem dX10_begin_23 : decode cX10_begin 23 = .ok (.iload_n 1, 1) := by decide +kernel
theorem dX10_begin_24 : decode cX10_begin 24 = .ok (.imul, 1) := by decide +kernel
theorem dX10_begin_25 : decode cX10_begin 25 = .ok (.iconst 3, 1) := by decide +kernel
theorem dX10_begin_26 : decode cX10_begin 26 = .ok (.iadd, 1) := by decide +kernel
theorem dX10_begin_27 : decode cX10_begin 27 = .ok (.iaload, 1) := by decide +kernel
theorem dX10_begin_28 : decode cX10_begin 28 = .ok (.putfield 186, 3) := by decide +kernel
theorem dX10_begin_31 : decode cX10_begin 31 = .ok (.aload_n 0, 1) := by decide +kernel
theorem dX10_begin_32 : decode cX10_begin 32 = .ok (.aload_n 0, 1) := by decide +kernel
theorem dX10_begin_33 : decode cX10_begin 33 = .ok (.getfield 25, 3) := by decide +kernel
theorem dX10_begin_36 : decode cX10_begin 36 = .ok (.iconst 5, 1) := by decide +kernel
theorem dX10_begin_37 : decode cX10_begin 37 = .ok (.iload_n 1, 1) := by decide +kernel
theorem dX10_begin_38 : decode cX10_begin 38 = .ok (.imul, 1) := by decide +kernel
theorem dX10_begin_39 : decode cX10_begin 39 = .ok (.iconst 4, 1) := by decide +kernel
theorem dX10_begin_40 : decode cX10_begin 40 = .ok (.iadd, 1) := by decide +kernel
theorem dX10_begin_41 : decode cX10_begin 41 = .ok (.iaload, 1) := by decide +kernel
theorem dX10_begin_42 : decode cX10_begin 42 = .ok (.putfield 192, 3) := by decide +kernel
theorem dX10_begin_45 : decode cX10_begin 45 = .ok (.aload_n 0, 1) := by decide +kernel
theorem dX10_begin_46 : decode cX10_begin 46 = .ok (.iconst 0, 1) := by decide +kernel
theorem dX10_begin_47 : decode cX10_begin 47 = .ok (.putfield 189, 3) := by decide +kernel
theorem dX10_begin_50 : decode cX10_begin 50 = .ok (.aload_n 0, 1) := by decide +kernel
theorem dX10_begin_51 : decode cX10_begin 51 = .ok (.iload 4, 2) := by decide +kernel
theorem dX10_begin_53 : decode cX10_begin 53 = .ok (.putfield 183, 3) := by decide +kernel
theorem dX10_begin_56 : decode cX10_begin 56 = .ok (.aload_n 0, 1) := by decide +kernel
theorem dX10_begin_57 : decode cX10_begin 57 = .ok (.iload_n 3, 1) := by decide +kernel
theorem dX10_begin_58 : decode cX10_begin 58 = .ok (.putfield 195, 3) := by decide +kernel
theorem dX10_begin_61 : decode cX10_begin 61 = .ok (.return_, 1) := by decide +kernel
theorem cw_X10_begin : Cw yX10_begin cX10_begin 5 none 4 := ⟨aw_1066, aw_56, ⟨by decide, by decide⟩, by decide +kernel, by decide⟩
theorem pf_10_177 {K : KT} {cc : ByteArray} {nL d pc : Nat} {ret : Option FieldType} {L : List (Option Value)} {st : List Value} {σ : Sg} (C : Cx K layM cc RX10 nL d ret)  {v : Int32}  (hd : decode cc pc = .ok (.putfield 177, 3)) (k : G K (pc + 3) L st (Wd K layM (wI σ 0 22 v))) : G K pc L (.int v :: .ref (kad K 0) :: st) (Wd K layM σ) := g_putI C (o := 0) (ci := 10) (k := 22) hd rfl rfl rfl (by decide) (Or.inl aw_811) inA10 tyX10_ok nmX10 rfl rfl rfl k
theorem pf_10_192 {K : KT} {cc : ByteArray} {nL d pc : Nat} {ret : Option FieldType} {L : List (Option Value)} {st : List Value} {σ : Sg} (C : Cx K layM cc RX10 nL d ret)  {v : Int32}  (hd : decode cc pc = .ok (.putfield 192, 3)) (k : G K (pc + 3) L st (Wd K layM (wI σ 0 25 v))) : G K pc L (.int v :: .ref (kad K 0) :: st) (Wd K layM σ) := g_putI C (o := 0) (ci := 10) (k := 25) hd rfl rfl rfl (by decide) (Or.inl aw_814) inA10 tyX10_ok nmX10 rfl rfl rfl k
theorem pf_10_183 {K : KT} {cc : ByteArray} {nL d pc : Nat} {ret : Option FieldType} {L : List (Option Value)} {st : List Value} {σ : Sg} (C : Cx K layM cc RX10 nL d ret)  {v : Int32} (hb : isB v = true) (hd : decode cc pc = .ok (.putfield 183, 3)) (k : G K (pc + 3) L st (Wd K layM (wI σ 0 27 v))) : G K pc L (.int v :: .ref (kad K 0) :: st) (Wd K layM σ) := g_putI C (o := 0) (ci := 10) (k := 27) hd rfl rfl rfl (by decide) (Or.inl aw_816) inA10 tyX10_ok nmX10 rfl (isB_n hb) (isB_f hb) k
theorem pf_10_195 {K : KT} {cc : ByteArray} {nL d pc : Nat} {ret : Option FieldType} {L : List (Option Value)} {st : List Value} {σ : Sg} (C : Cx K layM cc RX10 nL d ret)  {v : Int32}  (hd : decode cc pc = .ok (.putfield 195, 3)) (k : G K (pc + 3) L st (Wd K layM (wI σ 0 28 v))) : G K pc L (.int v :: .ref (kad K 0) :: st) (Wd K layM σ) := g_putI C (o := 0) (ci := 10) (k := 28) hd rfl rfl rfl (by decide) (Or.inl aw_817) inA10 tyX10_ok nmX10 rfl rfl rfl k
def fX10_begin_b0 (x1 : Int32) (x2 : Int32) (x3 : Int32) (x4 : Int32) (σ : Sg) : Option (Sg) :=
  if inb ((5 : Int32) * x1) 25 = true then (if inb (((5 : Int32) * x1) + (3 : Int32)) 25 = true then (if inb (((5 : Int32) * x1) + (4 : Int32)) 25 = true then (if isB x4 = true then (some (wI (wI (wI (wI (wI (wI (wI σ 0 22 (rI σ 6 (((5 : Int32) * x1)).toNatClampNeg)) 0 23 x2) 0 24 (rI (wI (wI σ 0 22 (rI σ 6 (((5 : Int32) * x1)).toNatClampNeg)) 0 23 x2) 6 ((((5 : Int32) * x1) + (3 : Int32))).toNatClampNeg)) 0 25 (rI (wI (wI (wI σ 0 22 (rI σ 6 (((5 : Int32) * x1)).toNatClampNeg)) 0 23 x2) 0 24 (rI (wI (wI σ 0 22 (rI σ 6 (((5 : Int32) * x1)).toNatClampNeg)) 0 23 x2) 6 ((((5 : Int32) * x1) + (3 : Int32))).toNatClampNeg)) 6 ((((5 : Int32) * x1) + (4 : Int32))).toNatClampNeg)) 0 26 (0 : Int32)) 0 27 x4) 0 28 x3)) else none) else none) else none) else none
set_option maxRecDepth 4000 in
theorem bX10_begin_b0 {K : KT} {x1 : Int32} {x2 : Int32} {x3 : Int32} {x4 : Int32} {σ : Sg} {o : Sg} (C : Cx K layM cX10_begin RX10 5 (1) none)  (hQ : Rk K layM (okV o)) (h : fX10_begin_b0 x1 x2 x3 x4 σ = some o) : G K 0 [some (.ref (kad K 0)), some (.int x1), some (.int x2), some (.int x3), some (.int x4)] [] (Wd K layM σ) := by
  unfold fX10_begin_b0 at h
  refine g_aload_n C.c dX10_begin_0 rfl (i := 0) rfl ?_
  refine g_aload_n C.c dX10_begin_1 rfl (i := 0) rfl ?_
  refine gf_10_25 C dX10_begin_2 ?_
  refine g_iconst C.c dX10_begin_5 (v := (5 : Int32)) (by decide) ?_
  refine g_iload_n C.c dX10_begin_6 rfl (i := 1) rfl ?_
  refine g_imul C.c dX10_begin_7 ?_
  obtain ⟨c1, h⟩ := chk h
  refine g_iald C dX10_begin_8 rfl c1 ?_
  refine pf_10_177 C dX10_begin_9 ?_
  refine g_aload_n C.c dX10_begin_12 rfl (i := 0) rfl ?_
  refine g_iload_n C.c dX10_begin_13 rfl (i := 2) rfl ?_
  refine pf_10_180 C dX10_begin_14 ?_
  refine g_aload_n C.c dX10_begin_17 rfl (i := 0) rfl ?_
  refine g_aload_n C.c dX10_begin_18 rfl (i := 0) rfl ?_
  refine gf_10_25 C dX10_begin_19 ?_
  refine g_iconst C.c dX10_begin_22 (v := (5 : Int32)) (by decide) ?_
  refine g_iload_n C.c dX10_begin_23 rfl (i := 1) rfl ?_
  refine g_imul C.c dX10_begin_24 ?_
  refine g_iconst C.c dX10_begin_25 (v := (3 : Int32)) (by decide) ?_
  refine g_iadd C.c dX10_begin_26 ?_
  obtain ⟨c2, h⟩ := chk h
  refine g_iald C dX10_begin_27 rfl c2 ?_
  refine pf_10_186 C dX10_begin_28 ?_
  refine g_aload_n C.c dX10_begin_31 rfl (i := 0) rfl ?_
  refine g_aload_n C.c dX10_begin_32 rfl (i := 0) rfl ?_
  refine gf_10_25 C dX10_begin_33 ?_
  refine g_iconst C.c dX10_begin_36 (v := (5 : Int32)) (by decide) ?_
  refine g_iload_n C.c dX10_begin_37 rfl (i := 1) rfl ?_
  refine g_imul C.c dX10_begin_38 ?_
  refine g_iconst C.c dX10_begin_39 (v := (4 : Int32)) (by decide) ?_
  refine g_iadd C.c dX10_begin_40 ?_
  obtain ⟨c3, h⟩ := chk h
  refine g_iald C dX10_begin_41 rfl c3 ?_
  refine pf_10_192 C dX10_begin_42 ?_
  refine g_aload_n C.c dX10_begin_45 rfl (i := 0) rfl ?_
  refine g_iconst C.c dX10_begin_46 (v := (0 : Int32)) (by decide) ?_
  refine pf_10_189 C dX10_begin_47 ?_
  refine g_aload_n C.c dX10_begin_50 rfl (i := 0) rfl ?_
  refine g_iload C.c dX10_begin_51 (i := 4) rfl ?_
  obtain ⟨c4, h⟩ := chk h
  refine pf_10_183 C c4 dX10_begin_53 ?_
  refine g_aload_n C.c dX10_begin_56 rfl (i := 0) rfl ?_
  refine g_iload_n C.c dX10_begin_57 rfl (i := 3) rfl ?_
  refine pf_10_195 C dX10_begin_58 ?_
  obtain rfl := Option.some.inj h
  exact g_vret C hQ dX10_begin_61 ⟨rfl, rfl⟩
def fX10_begin (a0 : Int32) (a1 : Int32) (a2 : Int32) (a3 : Int32) (σ : Sg) : Option (Sg) := fX10_begin_b0 a0 a1 a2 a3 σ
theorem ct_X10_begin {a0 : Int32} {a1 : Int32} {a2 : Int32} {a3 : Int32} {σ : Sg} {p : Sg} (h : fX10_begin a0 a1 a2 a3 σ = some p) : Ct layM yX10_begin cX10_begin 5 none 1 (fun ad => [.ref (ad 0), .int a0, .int a1, .int a2, .int a3]) σ (okV p) :=
 ct_of (L0 := fun ad => [some (.ref (ad 0)), some (.int a0), some (.int a1), some (.int a2), some (.int a3)]) (by decide) (fun _ => Nat.le_of_ble_eq_true rfl) (fun _ => rfl) (fun K C hQ => g_mask [true, true, true, true, true] rfl (bX10_begin_b0 C hQ h))
-- X10_towAll
theorem dX10_towAll_0 : decode cX10_towAll 0 = .ok (.iconst 0, 1) := by decide +kernel
theorem dX10_towAll_1 : decode cX10_towAll 1 = .ok (.istore_n 2, 1) := by decide +kernel
theorem dX10_towAll_2 : decode cX10_towAll 2 = .ok (.iload_n 2, 1) := by decide +kernel
theorem dX10_towAll_3 : decode cX10_towAll 3 = .ok (.iload_n 1, 1) := by decide +kernel
theorem dX10_towAll_4 : decode cX10_towAll 4 = .ok (.if_icmp .ge 32, 3) := by decide +kernel
theorem dX10_towAll_7 : decode cX10_towAll 7 = .ok (.aload_n 0, 1) := by decide +kernel
theorem dX10_towAll_8 : decode cX10_towAll 8 = .ok (.getfield 180, 3) := by decide +kernel
theorem dX10_towAll_11 : decode cX10_towAll 11 = .ok (.ifCond .le 25, 3) := by decide +kernel
theorem dX10_towAll_14 : decode cX10_towAll 14 = .ok (.aload_n 0, 1) := by decide +kernel
theorem dX10_towAll_15 : decode cX10_towAll 15 = .ok (.aload_n 0, 1) := by decide +kernel
theorem dX10_towAll_16 : decode cX10_towAll 16 = .ok (.getfield 34, 3) := by decide +kernel
theorem dX10_towAll_19 : decode cX10_towAll 19 = .ok (.iload_n 2, 1) := by decide +kernel
theorem dX10_towAll_20 : decode cX10_towAll 20 = .ok (.iaload, 1) := by decide +kernel
theorem dX10_towAll_21 : decode cX10_towAll 21 = .ok (.aload_n 0, 1) := by decide +kernel
theorem dX10_towAll_22 : decode cX10_towAll 22 = .ok (.getfield 31, 3) := by decide +kernel
theorem dX10_towAll_25 : decode cX10_towAll 25 = .ok (.iload_n 2, 1) := by decide +kernel
theorem dX10_towAll_26 : decode cX10_towAll 26 = .ok (.iaload, 1) := by decide +kernel
theorem dX10_towAll_27 : decode cX10_towAll 27 = .ok (.invokevirtual 202, 3) := by decide +kernel
theorem dX10_towAll_30 : decode cX10_towAll 30 = .ok (.iinc 2 1, 3) := by decide +kernel
theorem dX10_towAll_33 : decode cX10_towAll 33 = .ok (.goto (-31), 3) := by decide +kernel
theorem dX10_towAll_36 : decode cX10_towAll 36 = .ok (.return_, 1) := by decide +kernel
theorem cw_X10_towAll : Cw yX10_towAll cX10_towAll 3 none 1 := ⟨aw_1070, aw_56, ⟨by decide, by decide⟩, by decide +kernel, by decide⟩
theorem gf_10_34 {K : KT} {cc : ByteArray} {nL d pc : Nat} {ret : Option FieldType} {L : List (Option Value)} {st : List Value} {σ : Sg} (C : Cx K layM cc RX10 nL d ret)  (hd : decode cc pc = .ok (.getfield 34, 3)) (k : G K (pc + 3) L (.ref (kad K 9) :: st) (Wd K layM σ)) : G K pc L (.ref (kad K 0) :: st) (Wd K layM σ) := g_get C (o := 0) (ci := 10) (k := 31) hd rfl rfl rfl (by decide) (Or.inl aw_820) inA10 rfl k
theorem gf_10_31 {K : KT} {cc : ByteArray} {nL d pc : Nat} {ret : Option FieldType} {L : List (Option Value)} {st : List Value} {σ : Sg} (C : Cx K layM cc RX10 nL d ret)  (hd : decode cc pc = .ok (.getfield 31, 3)) (k : G K (pc + 3) L (.ref (kad K 8) :: st) (Wd K layM σ)) : G K pc L (.ref (kad K 0) :: st) (Wd K layM σ) := g_get C (o := 0) (ci := 10) (k := 30) hd rfl rfl rfl (by decide) (Or.inl aw_819) inA10 rfl k
theorem kc_10_202 {K : KT} {cc : ByteArray} {nL d pc : Nat} {ret : Option FieldType} {L : List (Option Value)} {st : List Value} {σ : Sg} (C : Cx K layM cc RX10 nL d ret)  {a0 : Int32} {a1 : Int32}  {p : Sg} (hd : decode cc pc = .ok (.invokevirtual 202, 3)) (e : fX10_step a0 a1 σ = some p) (hdd : 3 + 1 ≤ d) (hLn : L.length = nL) (hr : (st.map fun v => v.category).sum ≤ 8) (k : G K (pc + 3) L (st) (Wd K layM p)) : G K pc L (.int a1 :: .int a0 :: .ref (kad K 0) :: st) (Wd K layM σ) :=
  g_callV C (As := [.int a0, .int a1]) (rest := st) (o := 0) (ci := 10) hd (ct_X10_step e) cw_X10_step (Or.inl aw_1071) aw_1073 aw_35 rfl rfl rfl hdd hLn rfl rfl hr (fun v τ q => by obtain ⟨rfl, rfl⟩ := q; exact k)
def fX10_towAll_b2 (x1 : Int32) (x2 : Int32) (σ : Sg) : Option ((Int32 × Sg) ⊕ ((Sg))) :=
  if x1 ≤ x2 then (some (.inr σ)) else (if (rI σ 0 23) ≤ 0 then (some (.inr σ)) else (if inb x2 10 = true then (if inb x2 10 = true then (Option.bind (fX10_step (rI σ 9 (x2).toNatClampNeg) (rI σ 8 (x2).toNatClampNeg) σ) fun p3 => (some (.inl ((x2 + (1 : Int32)), p3)))) else none) else none))
def fX10_towAll_b0 (x1 : Int32) (σ : Sg) : Option (Sg) :=
  Option.bind (lp (fun s => fX10_towAll_b2 x1 s.1 s.2) FU ((0 : Int32), σ)) fun t5 => some t5
set_option maxRecDepth 4000 in
theorem bX10_towAll_b2 {K : KT} {x1 : Int32} {x2 : Int32} {σ : Sg} {o : (Int32 × Sg) ⊕ ((Sg))} (C : Cx K layM cX10_towAll RX10 3 (4) none)  (hI : ∀ s' : Int32 × Sg, o = .inl s' → G K 2 [some (.ref (kad K 0)), some (.int x1), some (.int s'.1)] [] (Wd K layM s'.2)) (hE0 : ∀ t : Sg, o = .inr t → G K 36 [none, none, none] [] (Wd K layM t)) (h : fX10_towAll_b2 x1 x2 σ = some o) : G K 2 [some (.ref (kad K 0)), some (.int x1), some (.int x2)] [] (Wd K layM σ) := by
  unfold fX10_towAll_b2 at h
  refine g_iload_n C.c dX10_towAll_2 rfl (i := 2) rfl ?_
  refine g_iload_n C.c dX10_towAll_3 rfl (i := 1) rfl ?_
  refine g_icmp_ge C.c (tgt := 36) dX10_towAll_4 (by decide) (fun c => ?_) (fun c => ?_)
  · replace h := ite_t c h
    have g9 := hE0 _ (Option.some.inj h).symm
    exact g_mask [false, false, false] rfl g9
  · replace h := ite_f c h
    refine g_aload_n C.c dX10_towAll_7 rfl (i := 0) rfl ?_
    refine gf_10_180 C dX10_towAll_8 ?_
    refine g_if_le C.c (tgt := 36) dX10_towAll_11 (by decide) (fun c => ?_) (fun c => ?_)
    · replace h := ite_t c h
      have g9 := hE0 _ (Option.some.inj h).symm
      exact g_mask [false, false, false] rfl g9
    · replace h := ite_f c h
      refine g_aload_n C.c dX10_towAll_14 rfl (i := 0) rfl ?_
      refine g_aload_n C.c dX10_towAll_15 rfl (i := 0) rfl ?_
      refine gf_10_34 C dX10_towAll_16 ?_
      refine g_iload_n C.c dX10_towAll_19 rfl (i := 2) rfl ?_
      obtain ⟨c1, h⟩ := chk h
      refine g_iald C dX10_towAll_20 rfl c1 ?_
      refine g_aload_n C.c dX10_towAll_21 rfl (i := 0) rfl ?_
      refine gf_10_31 C dX10_towAll_22 ?_
      refine g_iload_n C.c dX10_towAll_25 rfl (i := 2) rfl ?_
      obtain ⟨c2, h⟩ := chk h
      refine g_iald C dX10_towAll_26 rfl c2 ?_
      obtain ⟨p3, e4, h⟩ := Option.bind_eq_some_iff.mp h
      refine kc_10_202 C dX10_towAll_27 e4 (Nat.le_of_ble_eq_true rfl) rfl (Nat.le_of_ble_eq_true rfl) ?_
      refine g_iinc C.c (i := 2) (y := (1 : Int32)) (L' := [some (.ref (kad K 0)), some (.int x1), some (.int (x2 + (1 : Int32)))]) dX10_towAll_30 rfl (by decide) (Nat.le_of_ble_eq_true rfl) rfl ?_
      refine g_goto C.c (tgt := 2) dX10_towAll_33 (by decide) ?_
      have g9 := hI _ (Option.some.inj h).symm
      exact g_mask [true, true, true] rfl g9
set_option maxRecDepth 4000 in
theorem bX10_towAll_b0 {K : KT} {x1 : Int32} {σ : Sg} {o : Sg} (C : Cx K layM cX10_towAll RX10 3 (4) none)  (hQ : Rk K layM (okV o)) (h : fX10_towAll_b0 x1 σ = some o) : G K 0 [some (.ref (kad K 0)), some (.int x1), none] [] (Wd K layM σ) := by
  unfold fX10_towAll_b0 at h
  refine g_iconst C.c dX10_towAll_0 (v := (0 : Int32)) (by decide) ?_
  refine g_istore_n C.c (i := 2) (L' := [some (.ref (kad K 0)), some (.int x1), some (.int (0 : Int32))]) dX10_towAll_1 rfl (Nat.le_of_ble_eq_true rfl) rfl ?_
  refine g_mask [true, true, true] rfl ?_
  refine lp_bind (Gh := fun s => G K 2 [some (.ref (kad K 0)), some (.int x1), some (.int s.1)] [] (Wd K layM s.2)) h (fun s o2 hf gI gE => ?_)
  refine bX10_towAll_b2 C gI (fun t5 e => ?_) hf
  · have h := gE _ e
    obtain rfl := Option.some.inj h
    exact g_vret C hQ dX10_towAll_36 ⟨rfl, rfl⟩
def fX10_towAll (a0 : Int32) (σ : Sg) : Option (Sg) := fX10_towAll_b0 a0 σ
theorem ct_X10_towAll {a0 : Int32} {σ : Sg} {p : Sg} (h : fX10_towAll a0 σ = some p) : Ct layM yX10_towAll cX10_towAll 3 none 4 (fun ad => [.ref (ad 0), .int a0]) σ (okV p) :=
 ct_of (L0 := fun ad => [some (.ref (ad 0)), some (.int a0), none]) (by decide) (fun _ => Nat.le_of_ble_eq_true rfl) (fun _ => rfl) (fun K C hQ => g_mask [true, true, false] rfl (bX10_towAll_b0 C hQ h))
-- X10_tryWay
theorem dX10_tryWay_0 : decode cX10_tryWay 0 = .ok (.aload_n 0, 1) := by decide +kernel
theorem dX10_tryWay_1 : decode cX10_tryWay 1 = .ok (.dup, 1) := by decide +kernel
theorem dX10_tryWay_2 : decode cX10_tryWay 2 = .ok (.getfield 206, 3) := by decide +kernel
theorem dX10_tryWay_5 : decode cX10_tryWay 5 = .ok (.iconst 1, 1) := by decide +kernel
theorem dX10_tryWay_6 : decode cX10_tryWay 6 = .ok (.iadd, 1) := by decide +kernel
theorem dX10_tryWay_7 : decode cX10_tryWay 7 = .ok (.putfield 206, 3) := by decide +kernel
theorem dX10_tryWay_10 : decode cX10_tryWay 10 = .ok (.iload_n 3, 1) := by decide +kernel
theorem dX10_tryWay_11 : decode cX10_tryWay 11 = .ok (.ifCond .ne 4, 3) := by decide +kernel
theorem dX10_tryWay_14 : decode cX10_tryWay 14 = .ok (.return_, 1) := by decide +kernel
theorem dX10_tryWay_15 : decode cX10_tryWay 15 = .ok (.aload_n 0, 1) := by decide +kernel
theorem dX10_tryWay_16 : decode cX10_tryWay 16 = .ok (.iload_n 1, 1) := by decide +kernel
theorem dX10_tryWay_17 : decode cX10_tryWay 17 = .ok (.iload_n 2, 1) := by decide +kernel
theorem dX10_tryWay_18 : decode cX10_tryWay 18 = .ok (.iload_n 3, 1) := by decide +kernel
theorem dX10_tryWay_19 : decode cX10_tryWay 19 = .ok (.iload 4, 2) := by decide +kernel
theorem dX10_tryWay_21 : decode cX10_tryWay 21 = .ok (.invokevirtual 209, 3) := by decide +kernel
theorem dX10_tryWay_24 : decode cX10_tryWay 24 = .ok (.aload_n 0, 1) := by decide +kernel
theorem dX10_tryWay_25 : decode cX10_tryWay 25 = .ok (.iload 5, 2) := by decide +kernel
theorem dX10_tryWay_27 : decode cX10_tryWay 27 = .ok (.invokevirtual 213, 3) := by decide +kernel
theorem dX10_tryWay_30 : decode cX10_tryWay 30 = .ok (.aload_n 0, 1) := by decide +kernel
theorem dX10_tryWay_31 : decode cX10_tryWay 31 = .ok (.getfield 63, 3) := by decide +kernel
theorem dX10_tryWay_34 : decode cX10_tryWay 34 = .ok (.aload_n 0, 1) := by decide +kernel
theorem dX10_tryWay_35 : decode cX10_tryWay 35 = .ok (.getfield 180, 3) := by decide +kernel
theorem dX10_tryWay_38 : decode cX10_tryWay 38 = .ok (.imul, 1) := by decide +kernel
theorem dX10_tryWay_39 : decode cX10_tryWay 39 = .ok (.aload_n 0, 1) := by decide +kernel
theorem dX10_tryWay_40 : decode cX10_tryWay 40 = .ok (.getfield 66, 3) := by decide +kernel
theorem dX10_tryWay_43 : decode cX10_tryWay 43 = .ok (.iload_n 3, 1) := by decide +kernel
theorem dX10_tryWay_44 : decode cX10_tryWay 44 = .ok (.imul, 1) := by decide +kernel
theorem dX10_tryWay_45 : decode cX10_tryWay 45 = .ok (.aload_n 0, 1) := by decide +kernel
theorem dX10_tryWay_46 : decode cX10_tryWay 46 = .ok (.getfield 189, 3) := by decide +kernel
theorem dX10_tryWay_49 : decode cX10_tryWay 49 = .ok (.imul, 1) := by decide +kernel
theorem dX10_tryWay_50 : decode cX10_tryWay 50 = .ok (.isub, 1) := by decide +kernel
theorem dX10_tryWay_51 : decode cX10_tryWay 51 = .ok (.iload 4, 2) := by decide +kernel
theorem dX10_tryWay_53 : decode cX10_tryWay 53 = .ok (.ifCond .eq 10, 3) := by decide +kernel
theorem dX10_tryWay_56 : decode cX10_tryWay 56 = .ok (.aload_n 0, 1) := by decide +kernel
theorem dX10_tryWay_57 : decode cX10_tryWay 57 = .ok (.getfield 69, 3) := by decide +kernel
theorem dX10_tryWay_60 : decode cX10_tryWay 60 = .ok (.goto 4, 3) := by decide +kernel
theorem dX10_tryWay_63 : decode cX10_tryWay 63 = .ok (.iconst 0, 1) := by decide +kernel
theorem dX10_tryWay_64 : decode cX10_tryWay 64 = .ok (.isub, 1) := by decide +kernel
theorem dX10_tryWay_65 : decode cX10_tryWay 65 = .ok (.istore 6, 2) := by decide +kernel
theorem dX10_tryWay_67 : decode cX10_tryWay 67 = .ok (.aload_n 0, 1) := by decide +kernel
theorem dX10_tryWay_68 : decode cX10_tryWay 68 = .ok (.getfield 206, 3) := by decide +kernel
theorem dX10_tryWay_71 : decode cX10_tryWay 71 = .ok (.iconst 1, 1) := by decide +kernel
theorem dX10_tryWay_72 : decode cX10_tryWay 72 = .ok (.if_icmp .eq 32, 3) := by decide +kernel
theorem dX10_tryWay_75 : decode cX10_tryWay 75 = .ok (.iload 6, 2) := by decide +kernel
theorem dX10_tryWay_77 : decode cX10_tryWay 77 = .ok (.aload_n 0, 1) := by decide +kernel
theorem dX10_tryWay_78 : decode cX10_tryWay 78 = .ok (.getfield 216, 3) := by decide +kernel
theorem dX10_tryWay_81 : decode cX10_tryWay 81 = .ok (.if_icmp .gt 23, 3) := by decide +kernel
theorem dX10_tryWay_84 : decode cX10_tryWay 84 = .ok (.iload 6, 2) := by decide +kernel
theorem dX10_tryWay_86 : decode cX10_tryWay 86 = .ok (.aload_n 0, 1) := by decide +kernel
theorem dX10_tryWay_87 : decode cX10_tryWay 87 = .ok (.getfield 216, 3) := by decide +kernel
theorem dX10_tryWay_90 : decode cX10_tryWay 90 = .ok (.if_icmp .ne 72, 3) := by decide +kernel
theorem dX10_tryWay_93 : decode cX10_tryWay 93 = .ok (.aload_n 0, 1) := by decide +kernel
theorem dX10_tryWay_94 : decode cX10_tryWay 94 = .ok (.getfield 189, 3) := by decide +kernel
theorem dX10_tryWay_97 : decode cX10_tryWay 97 = .ok (.aload_n 0, 1) := by decide +kernel
theorem dX10_tryWay_98 : decode cX10_tryWay 98 = .ok (.getfield 219, 3) := by decide +kernel
theorem dX10_tryWay_101 : decode cX10_tryWay 101 = .ok (.if_icmp .ge 61, 3) := by decide +kernel
theorem dX10_tryWay_104 : decode cX10_tryWay 104 = .ok (.aload_n 0, 1) := by decide +kernel
theorem dX10_tryWay_105 : decode cX10_tryWay 105 = .ok (.iload 6, 2) := by decide +kernel
theorem dX10_tryWay_107 : decode cX10_tryWay 107 = .ok (.putfield 216, 3) := by decide +kernel
theorem dX10_tryWay_110 : decode cX10_tryWay 110 = .ok (.aload_n 0, 1) := by decide +kernel
theorem dX10_tryWay_111 : decode cX10_tryWay 111 = .ok (.aload_n 0, 1) := by decide +kernel
theorem dX10_tryWay_112 : decode cX10_tryWay 112 = .ok (.getfield 189, 3) := by decide +kernel
theorem dX10_tryWay_115 : decode cX10_tryWay 115 = .ok (.putfield 219, 3) := by decide +kernel
theorem dX10_tryWay_118 : decode cX10_tryWay 118 = .ok (.aload_n 0, 1) := by decide +kernel
theorem dX10_tryWay_119 : decode cX10_tryWay 119 = .ok (.aload_n 0, 1) := by decide +kernel
theorem dX10_tryWay_120 : decode cX10_tryWay 120 = .ok (.getfield 180, 3) := by decide +kernel
theorem dX10_tryWay_123 : decode cX10_tryWay 123 = .ok (.putfield 222, 3) := by decide +kernel
theorem dX10_tryWay_126 : decode cX10_tryWay 126 = .ok (.aload_n 0, 1) := by decide +kernel
theorem dX10_tryWay_127 : decode cX10_tryWay 127 = .ok (.iload 5, 2) := by decide +kernel
theorem dX10_tryWay_129 : decode cX10_tryWay 129 = .ok (.putfield 225, 3) := by decide +kernel
theorem dX10_tryWay_132 : decode cX10_tryWay 132 = .ok (.iconst 0, 1) := by decide +kernel
theorem dX10_tryWay_133 : decode cX10_tryWay 133 = .ok (.istore 7, 2) := by decide +kernel
theorem dX10_tryWay_135 : decode cX10_tryWay 135 = .ok (.iload 7, 2) := by decide +kernel
theorem dX10_tryWay_137 : decode cX10_tryWay 137 = .ok (.iload 5, 2) := by decide +kernel
theorem dX10_tryWay_139 : decode cX10_tryWay 139 = .ok (.if_icmp .ge 23, 3) := by decide +kernel
theorem dX10_tryWay_142 : decode cX10_tryWay 142 = .ok (.aload_n 0, 1) := by decide +kernel
theorem dX10_tryWay_143 : decode cX10_tryWay 143 = .ok (.getfield 37, 3) := by decide +kernel
theorem dX10_tryWay_146 : decode cX10_tryWay 146 = .ok (.iload 7, 2) := by decide +kernel
theorem dX10_tryWay_148 : decode cX10_tryWay 148 = .ok (.aload_n 0, 1) := by decide +kernel
theorem dX10_tryWay_149 : decode cX10_tryWay 149 = .ok (.getfield 31, 3) := by decide +kernel
theorem dX10_tryWay_152 : decode cX10_tryWay 152 = .ok (.iload 7, 2) := by decide +kernel
theorem dX10_tryWay_154 : decode cX10_tryWay 154 = .ok (.iaload, 1) := by decide +kernel
theorem dX10_tryWay_155 : decode cX10_tryWay 155 = .ok (.iastore, 1) := by decide +kernel
theorem dX10_tryWay_156 : decode cX10_tryWay 156 = .ok (.iinc 7 1, 3) := by decide +kernel
theorem dX10_tryWay_159 : decode cX10_tryWay 159 = .ok (.goto (-24), 3) := by decide +kernel
theorem dX10_tryWay_162 : decode cX10_tryWay 162 = .ok (.return_, 1) := by decide +kernel
theorem cw_X10_tryWay : Cw yX10_tryWay cX10_tryWay 8 none 5 := ⟨aw_1062, aw_56, ⟨by decide, by decide⟩, by decide +kernel, by decide⟩
theorem gf_10_206 {K : KT} {cc : ByteArray} {nL d pc : Nat} {ret : Option FieldType} {L : List (Option Value)} {st : List Value} {σ : Sg} (C : Cx K layM cc RX10 nL d ret)  (hd : decode cc pc = .ok (.getfield 206, 3)) (k : G K (pc + 3) L (.int (rI σ 0 37) :: st) (Wd K layM σ)) : G K pc L (.ref (kad K 0) :: st) (Wd K layM σ) := g_get C (o := 0) (ci := 10) (k := 37) hd rfl rfl rfl (by decide) (Or.inl aw_826) inA10 rfl k
theorem pf_10_206 {K : KT} {cc : ByteArray} {nL d pc : Nat} {ret : Option FieldType} {L : List (Option Value)} {st : List Value} {σ : Sg} (C : Cx K layM cc RX10 nL d ret)  {v : Int32}  (hd : decode cc pc = .ok (.putfield 206, 3)) (k : G K (pc + 3) L st (Wd K layM (wI σ 0 37 v))) : G K pc L (.int v :: .ref (kad K 0) :: st) (Wd K layM σ) := g_putI C (o := 0) (ci := 10) (k := 37) hd rfl rfl rfl (by decide) (Or.inl aw_826) inA10 tyX10_ok nmX10 rfl rfl rfl k
theorem kc_10_209 {K : KT} {cc : ByteArray} {nL d pc : Nat} {ret : Option FieldType} {L : List (Option Value)} {st : List Value} {σ : Sg} (C : Cx K layM cc RX10 nL d ret)  {a0 : Int32} {a1 : Int32} {a2 : Int32} {a3 : Int32}  {p : Sg} (hd : decode cc pc = .ok (.invokevirtual 209, 3)) (e : fX10_begin a0 a1 a2 a3 σ = some p) (hdd : 1 + 1 ≤ d) (hLn : L.length = nL) (hr : (st.map fun v => v.category).sum ≤ 8) (k : G K (pc + 3) L (st) (Wd K layM p)) : G K pc L (.int a3 :: .int a2 :: .int a1 :: .int a0 :: .ref (kad K 0) :: st) (Wd K layM σ) :=
  g_callV C (As := [.int a0, .int a1, .int a2, .int a3]) (rest := st) (o := 0) (ci := 10) hd (ct_X10_begin e) cw_X10_begin (Or.inl aw_1063) aw_1065 aw_33 rfl rfl rfl hdd hLn rfl rfl hr (fun v τ q => by obtain ⟨rfl, rfl⟩ := q; exact k)
theorem kc_10_213 {K : KT} {cc : ByteArray} {nL d pc : Nat} {ret : Option FieldType} {L : List (Option Value)} {st : List Value} {σ : Sg} (C : Cx K layM cc RX10 nL d ret)  {a0 : Int32}  {p : Sg} (hd : decode cc pc = .ok (.invokevirtual 213, 3)) (e : fX10_towAll a0 σ = some p) (hdd : 4 + 1 ≤ d) (hLn : L.length = nL) (hr : (st.map fun v => v.category).sum ≤ 8) (k : G K (pc + 3) L (st) (Wd K layM p)) : G K pc L (.int a0 :: .ref (kad K 0) :: st) (Wd K layM σ) :=
  g_callV C (As := [.int a0]) (rest := st) (o := 0) (ci := 10) hd (ct_X10_towAll e) cw_X10_towAll (Or.inl aw_1067) aw_1069 aw_34 rfl rfl rfl hdd hLn rfl rfl hr (fun v τ q => by obtain ⟨rfl, rfl⟩ := q; exact k)
theorem pf_10_216 {K : KT} {cc : ByteArray} {nL d pc : Nat} {ret : Option FieldType} {L : List (Option Value)} {st : List Value} {σ : Sg} (C : Cx K layM cc RX10 nL d ret)  {v : Int32}  (hd : decode cc pc = .ok (.putfield 216, 3)) (k : G K (pc + 3) L st (Wd K layM (wI σ 0 36 v))) : G K pc L (.int v :: .ref (kad K 0) :: st) (Wd K layM σ) := g_putI C (o := 0) (ci := 10) (k := 36) hd rfl rfl rfl (by decide) (Or.inl aw_825) inA10 tyX10_ok nmX10 rfl rfl rfl k
theorem pf_10_219 {K : KT} {cc : ByteArray} {nL d pc : Nat} {ret : Option FieldType} {L : List (Option Value)} {st : List Value} {σ : Sg} (C : Cx K layM cc RX10 nL d ret)  {v : Int32}  (hd : decode cc pc = .ok (.putfield 219, 3)) (k : G K (pc + 3) L st (Wd K layM (wI σ 0 35 v))) : G K pc L (.int v :: .ref (kad K 0) :: st) (Wd K layM σ) := g_putI C (o := 0) (ci := 10) (k := 35) hd rfl rfl rfl (by decide) (Or.inl aw_824) inA10 tyX10_ok nmX10 rfl rfl rfl k
theorem pf_10_222 {K : KT} {cc : ByteArray} {nL d pc : Nat} {ret : Option FieldType} {L : List (Option Value)} {st : List Value} {σ : Sg} (C : Cx K layM cc RX10 nL d ret)  {v : Int32}  (hd : decode cc pc = .ok (.putfield 222, 3)) (k : G K (pc + 3) L st (Wd K layM (wI σ 0 34 v))) : G K pc L (.int v :: .ref (kad K 0) :: st) (Wd K layM σ) := g_putI C (o := 0) (ci := 10) (k := 34) hd rfl rfl rfl (by decide) (Or.inl aw_823) inA10 tyX10_ok nmX10 rfl rfl rfl k
theorem pf_10_225 {K : KT} {cc : ByteArray} {nL d pc : Nat} {ret : Option FieldType} {L : List (Option Value)} {st : List Value} {σ : Sg} (C : Cx K layM cc RX10 nL d ret)  {v : Int32}  (hd : decode cc pc = .ok (.putfield 225, 3)) (k : G K (pc + 3) L st (Wd K layM (wI σ 0 33 v))) : G K pc L (.int v :: .ref (kad K 0) :: st) (Wd K layM σ) := g_putI C (o := 0) (ci := 10) (k := 33) hd rfl rfl rfl (by decide) (Or.inl aw_822) inA10 tyX10_ok nmX10 rfl rfl rfl k
theorem gf_10_37 {K : KT} {cc : ByteArray} {nL d pc : Nat} {ret : Option FieldType} {L : List (Option Value)} {st : List Value} {σ : Sg} (C : Cx K layM cc RX10 nL d ret)  (hd : decode cc pc = .ok (.getfield 37, 3)) (k : G K (pc + 3) L (.ref (kad K 10) :: st) (Wd K layM σ)) : G K pc L (.ref (kad K 0) :: st) (Wd K layM σ) := g_get C (o := 0) (ci := 10) (k := 32) hd rfl rfl rfl (by decide) (Or.inl aw_821) inA10 rfl k
theorem gf_10_216 {K : KT} {cc : ByteArray} {nL d pc : Nat} {ret : Option FieldType} {L : List (Option Value)} {st : List Value} {σ : Sg} (C : Cx K layM cc RX10 nL d ret)  (hd : decode cc pc = .ok (.getfield 216, 3)) (k : G K (pc + 3) L (.int (rI σ 0 36) :: st) (Wd K layM σ)) : G K pc L (.ref (kad K 0) :: st) (Wd K layM σ) := g_get C (o := 0) (ci := 10) (k := 36) hd rfl rfl rfl (by decide) (Or.inl aw_825) inA10 rfl k
theorem gf_10_219 {K : KT} {cc : ByteArray} {nL d pc : Nat} {ret : Option FieldType} {L : List (Option Value)} {st : List Value} {σ : Sg} (C : Cx K layM cc RX10 nL d ret)  (hd : decode cc pc = .ok (.getfield 219, 3)) (k : G K (pc + 3) L (.int (rI σ 0 35) :: st) (Wd K layM σ)) : G K pc L (.ref (kad K 0) :: st) (Wd K layM σ) := g_get C (o := 0) (ci := 10) (k := 35) hd rfl rfl rfl (by decide) (Or.inl aw_824) inA10 rfl k
def fX10_tryWay_b135 (x5 : Int32) (x7 : Int32) (σ : Sg) : Option ((Int32 × Sg) ⊕ ((Sg))) :=
  if x5 ≤ x7 then (some (.inr σ)) else (if inb x7 10 = true then (if inb x7 10 = true then (some (.inl ((x7 + (1 : Int32)), (wI σ 10 (x7).toNatClampNeg (rI σ 8 (x7).toNatClampNeg))))) else none) else none)
def fX10_tryWay_b104 (x5 : Int32) (x6 : Int32) (σ : Sg) : Option (Sg) :=
  Option.bind (lp (fun s => fX10_tryWay_b135 x5 s.1 s.2) FU ((0 : Int32), (wI (wI (wI (wI σ 0 36 x6) 0 35 (rI (wI σ 0 36 x6) 0 26)) 0 34 (rI (wI (wI σ 0 36 x6) 0 35 (rI (wI σ 0 36 x6) 0 26)) 0 23)) 0 33 x5))) fun t7 => some t7
def fX10_tryWay_b64 (x5 : Int32) (y0 : Int32) (y1 : Int32) (σ : Sg) : Option (Sg) :=
  if (rI σ 0 37) = (1 : Int32) then (fX10_tryWay_b104 x5 (y1 - y0) σ) else (if (rI σ 0 36) < (y1 - y0) then (fX10_tryWay_b104 x5 (y1 - y0) σ) else (if (y1 - y0) = (rI σ 0 36) then (if (rI σ 0 35) ≤ (rI σ 0 26) then (some σ) else (fX10_tryWay_b104 x5 (y1 - y0) σ)) else (some σ)))
def fX10_tryWay_b0 (x1 : Int32) (x2 : Int32) (x3 : Int32) (x4 : Int32) (x5 : Int32) (σ : Sg) : Option (Sg) :=
  if x3 = 0 then (some (wI σ 0 37 ((rI σ 0 37) + (1 : Int32)))) else (Option.bind (fX10_begin x1 x2 x3 x4 (wI σ 0 37 ((rI σ 0 37) + (1 : Int32)))) fun p1 => (Option.bind (fX10_towAll x5 p1) fun p3 => (if x4 = 0 then (fX10_tryWay_b64 x5 (0 : Int32) (((rI p3 0 17) * (rI p3 0 23)) - (((rI p3 0 18) * x3) * (rI p3 0 26))) p3) else (fX10_tryWay_b64 x5 (rI p3 0 19) (((rI p3 0 17) * (rI p3 0 23)) - (((rI p3 0 18) * x3) * (rI p3 0 26))) p3))))
set_option maxRecDepth 4000 in
theorem bX10_tryWay_b135 {K : KT} {x5 : Int32} {x7 : Int32} {σ : Sg} {o : (Int32 × Sg) ⊕ ((Sg))} (C : Cx K layM cX10_tryWay RX10 8 (5) none)  (hI : ∀ s' : Int32 × Sg, o = .inl s' → G K 135 [some (.ref (kad K 0)), none, none, none, none, some (.int x5), none, some (.int s'.1)] [] (Wd K layM s'.2)) (hE0 : ∀ t : Sg, o = .inr t → G K 162 [none, none, none, none, none, none, none, none] [] (Wd K layM t)) (h : fX10_tryWay_b135 x5 x7 σ = some o) : G K 135 [some (.ref (kad K 0)), none, none, none, none, some (.int x5), none, some (.int x7)] [] (Wd K layM σ) := by
  unfold fX10_tryWay_b135 at h
  refine g_iload C.c dX10_tryWay_135 (i := 7) rfl ?_
  refine g_iload C.c dX10_tryWay_137 (i := 5) rfl ?_
  refine g_icmp_ge C.c (tgt := 162) dX10_tryWay_139 (by decide) (fun c => ?_) (fun c => ?_)
  · replace h := ite_t c h
    have g9 := hE0 _ (Option.some.inj h).symm
    exact g_mask [false, false, false, false, false, false, false, false] rfl g9
  · replace h := ite_f c h
    refine g_aload_n C.c dX10_tryWay_142 rfl (i := 0) rfl ?_
    refine gf_10_37 C dX10_tryWay_143 ?_
    refine g_iload C.c dX10_tryWay_146 (i := 7) rfl ?_
    refine g_aload_n C.c dX10_tryWay_148 rfl (i := 0) rfl ?_
    refine gf_10_31 C dX10_tryWay_149 ?_
    refine g_iload C.c dX10_tryWay_152 (i := 7) rfl ?_
    obtain ⟨c5, h⟩ := chk h
    refine g_iald C dX10_tryWay_154 rfl c5 ?_
    obtain ⟨c6, h⟩ := chk h
    refine g_iast C dX10_tryWay_155 rfl c6 ?_
    refine g_iinc C.c (i := 7) (y := (1 : Int32)) (L' := [some (.ref (kad K 0)), none, none, none, none, some (.int x5), none, some (.int (x7 + (1 : Int32)))]) dX10_tryWay_156 rfl (by decide) (Nat.le_of_ble_eq_true rfl) rfl ?_
    refine g_goto C.c (tgt := 135) dX10_tryWay_159 (by decide) ?_
    have g9 := hI _ (Option.some.inj h).symm
    exact g_mask [true, false, false, false, false, true, false, true] rfl g9
set_option maxRecDepth 4000 in
theorem bX10_tryWay_b104 {K : KT} {x5 : Int32} {x6 : Int32} {σ : Sg} {o : Sg} (C : Cx K layM cX10_tryWay RX10 8 (5) none)  (hQ : Rk K layM (okV o)) (h : fX10_tryWay_b104 x5 x6 σ = some o) : G K 104 [some (.ref (kad K 0)), none, none, none, none, some (.int x5), some (.int x6), none] [] (Wd K layM σ) := by
  unfold fX10_tryWay_b104 at h
  refine g_aload_n C.c dX10_tryWay_104 rfl (i := 0) rfl ?_
  refine g_iload C.c dX10_tryWay_105 (i := 6) rfl ?_
  refine pf_10_216 C dX10_tryWay_107 ?_
  refine g_aload_n C.c dX10_tryWay_110 rfl (i := 0) rfl ?_
  refine g_aload_n C.c dX10_tryWay_111 rfl (i := 0) rfl ?_
  refine gf_10_189 C dX10_tryWay_112 ?_
  refine pf_10_219 C dX10_tryWay_115 ?_
  refine g_aload_n C.c dX10_tryWay_118 rfl (i := 0) rfl ?_
  refine g_aload_n C.c dX10_tryWay_119 rfl (i := 0) rfl ?_
  refine gf_10_180 C dX10_tryWay_120 ?_
  refine pf_10_222 C dX10_tryWay_123 ?_
  refine g_aload_n C.c dX10_tryWay_126 rfl (i := 0) rfl ?_
  refine g_iload C.c dX10_tryWay_127 (i := 5) rfl ?_
  refine pf_10_225 C dX10_tryWay_129 ?_
  refine g_iconst C.c dX10_tryWay_132 (v := (0 : Int32)) (by decide) ?_
  refine g_istore C.c (i := 7) (L' := [some (.ref (kad K 0)), none, none, none, none, some (.int x5), some (.int x6), some (.int (0 : Int32))]) dX10_tryWay_133 (Nat.le_of_ble_eq_true rfl) rfl ?_
  refine g_mask [true, false, false, false, false, true, false, true] rfl ?_
  refine lp_bind (Gh := fun s => G K 135 [some (.ref (kad K 0)), none, none, none, none, some (.int x5), none, some (.int s.1)] [] (Wd K layM s.2)) h (fun s o2 hf gI gE => ?_)
  refine bX10_tryWay_b135 C gI (fun t7 e => ?_) hf
  · have h := gE _ e
    obtain rfl := Option.some.inj h
    exact g_vret C hQ dX10_tryWay_162 ⟨rfl, rfl⟩
set_option maxRecDepth 4000 in
theorem bX10_tryWay_b64 {K : KT} {x5 : Int32} {y0 : Int32} {y1 : Int32} {σ : Sg} {o : Sg} (C : Cx K layM cX10_tryWay RX10 8 (5) none)  (hQ : Rk K layM (okV o)) (h : fX10_tryWay_b64 x5 y0 y1 σ = some o) : G K 64 [some (.ref (kad K 0)), none, none, none, none, some (.int x5), none, none] [.int y0, .int y1] (Wd K layM σ) := by
  unfold fX10_tryWay_b64 at h
  refine g_isub C.c dX10_tryWay_64 ?_
  refine g_istore C.c (i := 6) (L' := [some (.ref (kad K 0)), none, none, none, none, some (.int x5), some (.int (y1 - y0)), none]) dX10_tryWay_65 (Nat.le_of_ble_eq_true rfl) rfl ?_
  refine g_aload_n C.c dX10_tryWay_67 rfl (i := 0) rfl ?_
  refine gf_10_206 C dX10_tryWay_68 ?_
  refine g_iconst C.c dX10_tryWay_71 (v := (1 : Int32)) (by decide) ?_
  refine g_icmp_eq C.c (tgt := 104) dX10_tryWay_72 (by decide) (fun c => ?_) (fun c => ?_)
  · replace h := ite_t c h
    exact g_mask [true, false, false, false, false, true, true, false] rfl (bX10_tryWay_b104 C hQ h)
  · replace h := ite_f c h
    refine g_iload C.c dX10_tryWay_75 (i := 6) rfl ?_
    refine g_aload_n C.c dX10_tryWay_77 rfl (i := 0) rfl ?_
    refine gf_10_216 C dX10_tryWay_78 ?_
    refine g_icmp_gt C.c (tgt := 104) dX10_tryWay_81 (by decide) (fun c => ?_) (fun c => ?_)
    · replace h := ite_t c h
      exact g_mask [true, false, false, false, false, true, true, false] rfl (bX10_tryWay_b104 C hQ h)
    · replace h := ite_f c h
      refine g_iload C.c dX10_tryWay_84 (i := 6) rfl ?_
      refine g_aload_n C.c dX10_tryWay_86 rfl (i := 0) rfl ?_
      refine gf_10_216 C dX10_tryWay_87 ?_
      refine g_icmp_ne C.c (tgt := 162) dX10_tryWay_90 (by decide) (fun c => ?_) (fun c => ?_)
      · replace h := ite_f c h
        obtain rfl := Option.some.inj h
        exact g_vret C hQ dX10_tryWay_162 ⟨rfl, rfl⟩
      · replace h := ite_t c h
        refine g_aload_n C.c dX10_tryWay_93 rfl (i := 0) rfl ?_
        refine gf_10_189 C dX10_tryWay_94 ?_
        refine g_aload_n C.c dX10_tryWay_97 rfl (i := 0) rfl ?_
        refine gf_10_219 C dX10_tryWay_98 ?_
        refine g_icmp_ge C.c (tgt := 162) dX10_tryWay_101 (by decide) (fun c => ?_) (fun c => ?_)
        · replace h := ite_t c h
          obtain rfl := Option.some.inj h
          exact g_vret C hQ dX10_tryWay_162 ⟨rfl, rfl⟩
        · replace h := ite_f c h
          exact g_mask [true, false, false, false, false, true, true, false] rfl (bX10_tryWay_b104 C hQ h)
set_option maxRecDepth 4000 in
theorem bX10_tryWay_b0 {K : KT} {x1 : Int32} {x2 : Int32} {x3 : Int32} {x4 : Int32} {x5 : Int32} {σ : Sg} {o : Sg} (C : Cx K layM cX10_tryWay RX10 8 (5) none)  (hQ : Rk K layM (okV o)) (h : fX10_tryWay_b0 x1 x2 x3 x4 x5 σ = some o) : G K 0 [some (.ref (kad K 0)), some (.int x1), some (.int x2), some (.int x3), some (.int x4), some (.int x5), none, none] [] (Wd K layM σ) := by
  unfold fX10_tryWay_b0 at h
  refine g_aload_n C.c dX10_tryWay_0 rfl (i := 0) rfl ?_
  refine g_dup C.c dX10_tryWay_1 rfl ?_
  refine gf_10_206 C dX10_tryWay_2 ?_
  refine g_iconst C.c dX10_tryWay_5 (v := (1 : Int32)) (by decide) ?_
  refine g_iadd C.c dX10_tryWay_6 ?_
  refine pf_10_206 C dX10_tryWay_7 ?_
  refine g_iload_n C.c dX10_tryWay_10 rfl (i := 3) rfl ?_
  refine g_if_ne C.c (tgt := 15) dX10_tryWay_11 (by decide) (fun c => ?_) (fun c => ?_)
  · replace h := ite_f c h
    refine g_aload_n C.c dX10_tryWay_15 rfl (i := 0) rfl ?_
    refine g_iload_n C.c dX10_tryWay_16 rfl (i := 1) rfl ?_
    refine g_iload_n C.c dX10_tryWay_17 rfl (i := 2) rfl ?_
    refine g_iload_n C.c dX10_tryWay_18 rfl (i := 3) rfl ?_
    refine g_iload C.c dX10_tryWay_19 (i := 4) rfl ?_
    obtain ⟨p1, e2, h⟩ := Option.bind_eq_some_iff.mp h
    refine kc_10_209 C dX10_tryWay_21 e2 (Nat.le_of_ble_eq_true rfl) rfl (Nat.le_of_ble_eq_true rfl) ?_
    refine g_aload_n C.c dX10_tryWay_24 rfl (i := 0) rfl ?_
    refine g_iload C.c dX10_tryWay_25 (i := 5) rfl ?_
    obtain ⟨p3, e4, h⟩ := Option.bind_eq_some_iff.mp h
    refine kc_10_213 C dX10_tryWay_27 e4 (Nat.le_of_ble_eq_true rfl) rfl (Nat.le_of_ble_eq_true rfl) ?_
    refine g_aload_n C.c dX10_tryWay_30 rfl (i := 0) rfl ?_
    refine gf_10_63 C dX10_tryWay_31 ?_
    refine g_aload_n C.c dX10_tryWay_34 rfl (i := 0) rfl ?_
    refine gf_10_180 C dX10_tryWay_35 ?_
    refine g_imul C.c dX10_tryWay_38 ?_
    refine g_aload_n C.c dX10_tryWay_39 rfl (i := 0) rfl ?_
    refine gf_10_66 C dX10_tryWay_40 ?_
    refine g_iload_n C.c dX10_tryWay_43 rfl (i := 3) rfl ?_
    refine g_imul C.c dX10_tryWay_44 ?_
    refine g_aload_n C.c dX10_tryWay_45 rfl (i := 0) rfl ?_
    refine gf_10_189 C dX10_tryWay_46 ?_
    refine g_imul C.c dX10_tryWay_49 ?_
    refine g_isub C.c dX10_tryWay_50 ?_
    refine g_iload C.c dX10_tryWay_51 (i := 4) rfl ?_
    refine g_if_eq C.c (tgt := 63) dX10_tryWay_53 (by decide) (fun c => ?_) (fun c => ?_)
    · replace h := ite_t c h
      refine g_iconst C.c dX10_tryWay_63 (v := (0 : Int32)) (by decide) ?_
      exact g_mask [true, false, false, false, false, true, false, false] rfl (bX10_tryWay_b64 C hQ h)
    · replace h := ite_f c h
      refine g_aload_n C.c dX10_tryWay_56 rfl (i := 0) rfl ?_
      refine gf_10_69 C dX10_tryWay_57 ?_
      refine g_goto C.c (tgt := 64) dX10_tryWay_60 (by decide) ?_
      exact g_mask [true, false, false, false, false, true, false, false] rfl (bX10_tryWay_b64 C hQ h)
  · replace h := ite_t c h
    obtain rfl := Option.some.inj h
    exact g_vret C hQ dX10_tryWay_14 ⟨rfl, rfl⟩
def fX10_tryWay (a0 : Int32) (a1 : Int32) (a2 : Int32) (a3 : Int32) (a4 : Int32) (σ : Sg) : Option (Sg) := fX10_tryWay_b0 a0 a1 a2 a3 a4 σ
theorem ct_X10_tryWay {a0 : Int32} {a1 : Int32} {a2 : Int32} {a3 : Int32} {a4 : Int32} {σ : Sg} {p : Sg} (h : fX10_tryWay a0 a1 a2 a3 a4 σ = some p) : Ct layM yX10_tryWay cX10_tryWay 8 none 5 (fun ad => [.ref (ad 0), .int a0, .int a1, .int a2, .int a3, .int a4]) σ (okV p) :=
 ct_of (L0 := fun ad => [some (.ref (ad 0)), some (.int a0), some (.int a1), some (.int a2), some (.int a3), some (.int a4), none, none]) (by decide) (fun _ => Nat.le_of_ble_eq_true rfl) (fun _ => rfl) (fun K C hQ => g_mask [true, true, true, true, true, true, false, false] rfl (bX10_tryWay_b0 C hQ h))
-- X10_layWays
theorem dX10_layWays_0 : decode cX10_layWays 0 = .ok (.aload_n 0, 1) := by decide +kernel
theorem dX10_layWays_1 : decode cX10_layWays 1 = .ok (.iconst 0, 1) := by decide +kernel
theorem dX10_layWays_2 : decode cX10_layWays 2 = .ok (.putfield 206, 3) := by decide +kernel
theorem dX10_layWays_5 : decode cX10_layWays 5 = .ok (.aload_n 0, 1) := by decide +kernel
theorem dX10_layWays_6 : decode cX10_layWays 6 = .ok (.iconst (-1), 1) := by decide +kernel
theorem dX10_layWays_7 : decode cX10_layWays 7 = .ok (.putfield 166, 3) := by decide +kernel
theorem dX10_layWays_10 : decode cX10_layWays 10 = .ok (.iconst 0, 1) := by decide +kernel
theorem dX10_layWays_11 : decode cX10_layWays 11 = .ok (.istore 5, 2) := by decide +kernel
theorem dX10_layWays_13 : decode cX10_layWays 13 = .ok (.aload_n 0, 1) := by decide +kernel
theorem dX10_layWays_14 : decode cX10_layWays 14 = .ok (.getfield 34, 3) := by decide +kernel
theorem dX10_layWays_17 : decode cX10_layWays 17 = .ok (.iconst 0, 1) := by decide +kernel
theorem dX10_layWays_18 : decode cX10_layWays 18 = .ok (.aload_n 0, 1) := by decide +kernel
theorem dX10_layWays_19 : decode cX10_layWays 19 = .ok (.getfield 25, 3) := by decide +kernel
theorem dX10_layWays_22 : decode cX10_layWays 22 = .ok (.iconst 5, 1) := by decide +kernel
theorem dX10_layWays_23 : decode cX10_layWays 23 = .ok (.iload_n 1, 1) := by decide +kernel
theorem dX10_layWays_24 : decode cX10_layWays 24 = .ok (.imul, 1) := by decide +kernel
theorem dX10_layWays_25 : decode cX10_layWays 25 = .ok (.iconst 1, 1) := by decide +kernel
theorem dX10_layWays_26 : decode cX10_layWays 26 = .ok (.iadd, 1) := by decide +kernel
theorem dX10_layWays_27 : decode cX10_layWays 27 = .ok (.iaload, 1) := by decide +kernel
theorem dX10_layWays_28 : decode cX10_layWays 28 = .ok (.iastore, 1) := by decide +kernel
theorem dX10_layWays_29 : decode cX10_layWays 29 = .ok (.aload_n 0, 1) := by decide +kernel
theorem dX10_layWays_30 : decode cX10_layWays 30 = .ok (.getfield 31, 3) := by decide +kernel
theorem dX10_layWays_33 : decode cX10_layWays 33 = .ok (.iconst 0, 1) := by decide +kernel
theorem dX10_layWays_34 : decode cX10_layWays 34 = .ok (.iconst (-1), 1) := by decide +kernel
theorem dX10_layWays_35 : decode cX10_layWays 35 = .ok (.iastore, 1) := by decide +kernel
theorem dX10_layWays_36 : decode cX10_layWays 36 = .ok (.iload 5, 2) := by decide +kernel
theorem dX10_layWays_38 : decode cX10_layWays 38 = .ok (.ifCond .lt 120, 3) := by decide +kernel
theorem dX10_layWays_41 : decode cX10_layWays 41 = .ok (.aload_n 0, 1) := by decide +kernel
theorem dX10_layWays_42 : decode cX10_layWays 42 = .ok (.getfield 31, 3) := by decide +kernel
theorem dX10_layWays_45 : decode cX10_layWays 45 = .ok (.iload 5, 2) := by decide +kernel
theorem dX10_layWays_47 : decode cX10_layWays 47 = .ok (.dup2, 1) := by decide +kernel
theorem dX10_layWays_48 : decode cX10_layWays 48 = .ok (.iaload, 1) := by decide +kernel
theorem dX10_layWays_49 : decode cX10_layWays 49 = .ok (.iconst 1, 1) := by decide +kernel
theorem dX10_layWays_50 : decode cX10_layWays 50 = .ok (.iadd, 1) := by decide +kernel
theorem dX10_layWays_51 : decode cX10_layWays 51 = .ok (.iastore, 1) := by decide +kernel
theorem dX10_layWays_52 : decode cX10_layWays 52 = .ok (.aload_n 0, 1) := by decide +kernel
theorem dX10_layWays_53 : decode cX10_layWays 53 = .ok (.getfield 31, 3) := by decide +kernel
theorem dX10_layWays_56 : decode cX10_layWays 56 = .ok (.iload 5, 2) := by decide +kernel
theorem dX10_layWays_58 : decode cX10_layWays 58 = .ok (.iaload, 1) := by decide +kernel
theorem dX10_layWays_59 : decode cX10_layWays 59 = .ok (.iconst 4, 1) := by decide +kernel
theorem dX10_layWays_60 : decode cX10_layWays 60 = .ok (.if_icmp .ge 24, 3) := by decide +kernel
theorem dX10_layWays_63 : decode cX10_layWays 63 = .ok (.aload_n 0, 1) := by decide +kernel
theorem dX10_layWays_64 : decode cX10_layWays 64 = .ok (.aload_n 0, 1) := by decide +kernel
theorem dX10_layWays_65 : decode cX10_layWays 65 = .ok (.getfield 34, 3) := by decide +kernel
theorem dX10_layWays_68 : decode cX10_layWays 68 = .ok (.iload 5, 2) := by decide +kernel
theorem dX10_layWays_70 : decode cX10_layWays 70 = .ok (.iaload, 1) := by decide +kernel
theorem dX10_layWays_71 : decode cX10_layWays 71 = .ok (.aload_n 0, 1) := by decide +kernel
theorem dX10_layWays_72 : decode cX10_layWays 72 = .ok (.getfield 31, 3) := by decide +kernel
theorem dX10_layWays_75 : decode cX10_layWays 75 = .ok (.iload 5, 2) := by decide +kernel
theorem dX10_layWays_77 : decode cX10_layWays 77 = .ok (.iaload, 1) := by decide +kernel
theorem dX10_layWays_78 : decode cX10_layWays 78 = .ok (.invokevirtual 228, 3) := by decide +kernel
theorem dX10_layWays_81 : decode cX10_layWays 81 = .ok (.goto 4, 3) := by decide +kernel
theorem dX10_layWays_84 : decode cX10_layWays 84 = .ok (.iconst (-1), 1) := by decide +kernel
theorem dX10_layWays_85 : decode cX10_layWays 85 = .ok (.istore 6, 2) := by decide +kernel
theorem dX10_layWays_87 : decode cX10_layWays 87 = .ok (.aload_n 0, 1) := by decide +kernel
theorem dX10_layWays_88 : decode cX10_layWays 88 = .ok (.getfield 31, 3) := by decide +kernel
theorem dX10_layWays_91 : decode cX10_layWays 91 = .ok (.iload 5, 2) := by decide +kernel
theorem dX10_layWays_93 : decode cX10_layWays 93 = .ok (.iaload, 1) := by decide +kernel
theorem dX10_layWays_94 : decode cX10_layWays 94 = .ok (.iconst 3, 1) := by decide +kernel
theorem dX10_layWays_95 : decode cX10_layWays 95 = .ok (.if_icmp .le 9, 3) := by decide +kernel
theorem dX10_layWays_98 : decode cX10_layWays 98 = .ok (.iinc 5 (-1), 3) := by decide +kernel
theorem dX10_layWays_101 : decode cX10_layWays 101 = .ok (.goto 54, 3) := by decide +kernel
theorem dX10_layWays_104 : decode cX10_layWays 104 = .ok (.iload 6, 2) := by decide +kernel
theorem dX10_layWays_106 : decode cX10_layWays 106 = .ok (.aload_n 0, 1) := by decide +kernel
theorem dX10_layWays_107 : decode cX10_layWays 107 = .ok (.getfield 122, 3) := by decide +kernel
theorem dX10_layWays_110 : decode cX10_layWays 110 = .ok (.if_icmp .ne 19, 3) := by decide +kernel
theorem dX10_layWays_113 : decode cX10_layWays 113 = .ok (.aload_n 0, 1) := by decide +kernel
theorem dX10_layWays_114 : decode cX10_layWays 114 = .ok (.iload_n 1, 1) := by decide +kernel
theorem dX10_layWays_115 : decode cX10_layWays 115 = .ok (.iload_n 2, 1) := by decide +kernel
theorem dX10_layWays_116 : decode cX10_layWays 116 = .ok (.iload_n 3, 1) := by decide +kernel
theorem dX10_layWays_117 : decode cX10_layWays 117 = .ok (.iload 4, 2) := by decide +kernel
theorem dX10_layWays_119 : decode cX10_layWays 119 = .ok (.iload 5, 2) := by decide +kernel
theorem dX10_layWays_121 : decode cX10_layWays 121 = .ok (.iconst 1, 1) := by decide +kernel
theorem dX10_layWays_122 : decode cX10_layWays 122 = .ok (.iadd, 1) := by decide +kernel
theorem dX10_layWays_123 : decode cX10_layWays 123 = .ok (.invokevirtual 231, 3) := by decide +kernel
theorem dX10_layWays_126 : decode cX10_layWays 126 = .ok (.goto 29, 3) := by decide +kernel
theorem dX10_layWays_129 : decode cX10_layWays 129 = .ok (.iload 6, 2) := by decide +kernel
theorem dX10_layWays_131 : decode cX10_layWays 131 = .ok (.iconst (-1), 1) := by decide +kernel
theorem dX10_layWays_132 : decode cX10_layWays 132 = .ok (.if_icmp .eq 23, 3) := by decide +kernel
theorem dX10_layWays_135 : decode cX10_layWays 135 = .ok (.iinc 5 1, 3) := by decide +kernel
theorem dX10_layWays_138 : decode cX10_layWays 138 = .ok (.aload_n 0, 1) := by decide +kernel
theorem dX10_layWays_139 : decode cX10_layWays 139 = .ok (.getfield 34, 3) := by decide +kernel
theorem dX10_layWays_142 : decode cX10_layWays 142 = .ok (.iload 5, 2) := by decide +kernel
theorem dX10_layWays_144 : decode cX10_layWays 144 = .ok (.iload 6, 2) := by decide +kernel
theorem dX10_layWays_146 : decode cX10_layWays 146 = .ok (.iastore, 1) := by decide +kernel
theorem dX10_layWays_147 : decode cX10_layWays 147 = .ok (.aload_n 0, 1) := by decide +kernel
theorem dX10_layWays_148 : decode cX10_layWays 148 = .ok (.getfield 31, 3) := by decide +kernel
theorem dX10_layWays_151 : decode cX10_layWays 151 = .ok (.iload 5, 2) := by decide +kernel
theorem dX10_layWays_153 : decode cX10_layWays 153 = .ok (.iconst (-1), 1) := by decide +kernel
theorem dX10_layWays_154 : decode cX10_layWays 154 = .ok (.iastore, 1) := by decide +kernel
theorem dX10_layWays_155 : decode cX10_layWays 155 = .ok (.goto (-119), 3) := by decide +kernel
theorem dX10_layWays_158 : decode cX10_layWays 158 = .ok (.return_, 1) := by decide +kernel
theorem cw_X10_layWays : Cw yX10_layWays cX10_layWays 7 none 4 := ⟨aw_1054, aw_56, ⟨by decide, by decide⟩, by decide +kernel, by decide⟩
theorem kc_10_231 {K : KT} {cc : ByteArray} {nL d pc : Nat} {ret : Option FieldType} {L : List (Option Value)} {st : List Value} {σ : Sg} (C : Cx K layM cc RX10 nL d ret)  {a0 : Int32} {a1 : Int32} {a2 : Int32} {a3 : Int32} {a4 : Int32}  {p : Sg} (hd : decode cc pc = .ok (.invokevirtual 231, 3)) (e : fX10_tryWay a0 a1 a2 a3 a4 σ = some p) (hdd : 5 + 1 ≤ d) (hLn : L.length = nL) (hr : (st.map fun v => v.category).sum ≤ 8) (k : G K (pc + 3) L (st) (Wd K layM p)) : G K pc L (.int a4 :: .int a3 :: .int a2 :: .int a1 :: .int a0 :: .ref (kad K 0) :: st) (Wd K layM σ) :=
  g_callV C (As := [.int a0, .int a1, .int a2, .int a3, .int a4]) (rest := st) (o := 0) (ci := 10) hd (ct_X10_tryWay e) cw_X10_tryWay (Or.inl aw_1059) aw_1061 aw_32 rfl rfl rfl hdd hLn rfl rfl hr (fun v τ q => by obtain ⟨rfl, rfl⟩ := q; exact k)
theorem kc_10_228 {K : KT} {cc : ByteArray} {nL d pc : Nat} {ret : Option FieldType} {L : List (Option Value)} {st : List Value} {σ : Sg} (C : Cx K layM cc RX10 nL d ret)  {a0 : Int32} {a1 : Int32}  {p : Int32 × Sg} (hd : decode cc pc = .ok (.invokevirtual 228, 3)) (e : fX10_to a0 a1 σ = some p) (hdd : 3 + 1 ≤ d) (hLn : L.length = nL) (hr : (st.map fun v => v.category).sum ≤ 8) (k : G K (pc + 3) L (.int p.1 :: st) (Wd K layM p.2)) : G K pc L (.int a1 :: .int a0 :: .ref (kad K 0) :: st) (Wd K layM σ) :=
  g_callV C (As := [.int a0, .int a1]) (rest := st) (o := 0) (ci := 10) hd (ct_X10_to e) cw_X10_to (Or.inl aw_1055) aw_1057 aw_31 rfl rfl rfl hdd hLn rfl rfl hr (fun v τ q => by obtain ⟨rfl, rfl⟩ := q; exact k)
def fX10_layWays_b155 (x1 : Int32) (x2 : Int32) (x3 : Int32) (x4 : Int32) (x5 : Int32) (σ : Sg) : Option ((Int32 × Sg) ⊕ ((Sg))) :=
  some (.inl (x5, σ))
def fX10_layWays_b85 (x1 : Int32) (x2 : Int32) (x3 : Int32) (x4 : Int32) (x5 : Int32) (y0 : Int32) (σ : Sg) : Option ((Int32 × Sg) ⊕ ((Sg))) :=
  if inb x5 10 = true then (if (rI σ 8 (x5).toNatClampNeg) ≤ (3 : Int32) then (if y0 = (rI σ 0 11) then (Option.bind (fX10_tryWay x1 x2 x3 x4 (x5 + (1 : Int32)) σ) fun p8 => (fX10_layWays_b155 x1 x2 x3 x4 x5 p8)) else (if y0 = (-1 : Int32) then (fX10_layWays_b155 x1 x2 x3 x4 x5 σ) else (if inb (x5 + (1 : Int32)) 10 = true then (if inb (x5 + (1 : Int32)) 10 = true then (fX10_layWays_b155 x1 x2 x3 x4 (x5 + (1 : Int32)) (wI (wI σ 9 ((x5 + (1 : Int32))).toNatClampNeg y0) 8 ((x5 + (1 : Int32))).toNatClampNeg (-1 : Int32))) else none) else none))) else (fX10_layWays_b155 x1 x2 x3 x4 (x5 + (-1 : Int32)) σ)) else none
def fX10_layWays_b36 (x1 : Int32) (x2 : Int32) (x3 : Int32) (x4 : Int32) (x5 : Int32) (σ : Sg) : Option ((Int32 × Sg) ⊕ ((Sg))) :=
  if x5 < 0 then (some (.inr σ)) else (if inb x5 10 = true then (if inb x5 10 = true then (if inb x5 10 = true then (if (4 : Int32) ≤ (rI (wI σ 8 (x5).toNatClampNeg ((rI σ 8 (x5).toNatClampNeg) + (1 : Int32))) 8 (x5).toNatClampNeg) then (fX10_layWays_b85 x1 x2 x3 x4 x5 (-1 : Int32) (wI σ 8 (x5).toNatClampNeg ((rI σ 8 (x5).toNatClampNeg) + (1 : Int32)))) else (if inb x5 10 = true then (if inb x5 10 = true then (Option.bind (fX10_to (rI (wI σ 8 (x5).toNatClampNeg ((rI σ 8 (x5).toNatClampNeg) + (1 : Int32))) 9 (x5).toNatClampNeg) (rI (wI σ 8 (x5).toNatClampNeg ((rI σ 8 (x5).toNatClampNeg) + (1 : Int32))) 8 (x5).toNatClampNeg) (wI σ 8 (x5).toNatClampNeg ((rI σ 8 (x5).toNatClampNeg) + (1 : Int32)))) fun p12 => (fX10_layWays_b85 x1 x2 x3 x4 x5 p12.1 p12.2)) else none) else none)) else none) else none) else none)
def fX10_layWays_b0 (x1 : Int32) (x2 : Int32) (x3 : Int32) (x4 : Int32) (σ : Sg) : Option (Sg) :=
  if inb (((5 : Int32) * x1) + (1 : Int32)) 25 = true then (Option.bind (lp (fun s => fX10_layWays_b36 x1 x2 x3 x4 s.1 s.2) FU ((0 : Int32), (wI (wI (wI (wI σ 0 37 (0 : Int32)) 0 29 (-1 : Int32)) 9 ((0 : Int32)).toNatClampNeg (rI (wI (wI σ 0 37 (0 : Int32)) 0 29 (-1 : Int32)) 6 ((((5 : Int32) * x1) + (1 : Int32))).toNatClampNeg)) 8 ((0 : Int32)).toNatClampNeg (-1 : Int32)))) fun t14 => some t14) else none
set_option maxRecDepth 4000 in
theorem bX10_layWays_b155 {K : KT} {x1 : Int32} {x2 : Int32} {x3 : Int32} {x4 : Int32} {x5 : Int32} {σ : Sg} {o : (Int32 × Sg) ⊕ ((Sg))} (C : Cx K layM cX10_layWays RX10 7 (6) none)  (hI : ∀ s' : Int32 × Sg, o = .inl s' → G K 36 [some (.ref (kad K 0)), some (.int x1), some (.int x2), some (.int x3), some (.int x4), some (.int s'.1), none] [] (Wd K layM s'.2)) (hE0 : ∀ t : Sg, o = .inr t → G K 158 [none, none, none, none, none, none, none] [] (Wd K layM t)) (h : fX10_layWays_b155 x1 x2 x3 x4 x5 σ = some o) : G K 155 [some (.ref (kad K 0)), some (.int x1), some (.int x2), some (.int x3), some (.int x4), some (.int x5), none] [] (Wd K layM σ) := by
  unfold fX10_layWays_b155 at h
  refine g_goto C.c (tgt := 36) dX10_layWays_155 (by decide) ?_
  have g9 := hI _ (Option.some.inj h).symm
  exact g_mask [true, true, true, true, true, true, false] rfl g9
set_option maxRecDepth 4000 in
theorem bX10_layWays_b85 {K : KT} {x1 : Int32} {x2 : Int32} {x3 : Int32} {x4 : Int32} {x5 : Int32} {y0 : Int32} {σ : Sg} {o : (Int32 × Sg) ⊕ ((Sg))} (C : Cx K layM cX10_layWays RX10 7 (6) none)  (hI : ∀ s' : Int32 × Sg, o = .inl s' → G K 36 [some (.ref (kad K 0)), some (.int x1), some (.int x2), some (.int x3), some (.int x4), some (.int s'.1), none] [] (Wd K layM s'.2)) (hE0 : ∀ t : Sg, o = .inr t → G K 158 [none, none, none, none, none, none, none] [] (Wd K layM t)) (h : fX10_layWays_b85 x1 x2 x3 x4 x5 y0 σ = some o) : G K 85 [some (.ref (kad K 0)), some (.int x1), some (.int x2), some (.int x3), some (.int x4), some (.int x5), none] [.int y0] (Wd K layM σ) := by
  unfold fX10_layWays_b85 at h
  refine g_istore C.c (i := 6) (L' := [some (.ref (kad K 0)), some (.int x1), some (.int x2), some (.int x3), some (.int x4), some (.int x5), some (.int y0)]) dX10_layWays_85 (Nat.le_of_ble_eq_true rfl) rfl ?_
  refine g_aload_n C.c dX10_layWays_87 rfl (i := 0) rfl ?_
  refine gf_10_31 C dX10_layWays_88 ?_
  refine g_iload C.c dX10_layWays_91 (i := 5) rfl ?_
  obtain ⟨c5, h⟩ := chk h
  refine g_iald C dX10_layWays_93 rfl c5 ?_
  refine g_iconst C.c dX10_layWays_94 (v := (3 : Int32)) (by decide) ?_
  refine g_icmp_le C.c (tgt := 104) dX10_layWays_95 (by decide) (fun c => ?_) (fun c => ?_)
  · replace h := ite_t c h
    refine g_iload C.c dX10_layWays_104 (i := 6) rfl ?_
    refine g_aload_n C.c dX10_layWays_106 rfl (i := 0) rfl ?_
    refine gf_10_122 C dX10_layWays_107 ?_
    refine g_icmp_ne C.c (tgt := 129) dX10_layWays_110 (by decide) (fun c => ?_) (fun c => ?_)
    · replace h := ite_f c h
      refine g_iload C.c dX10_layWays_129 (i := 6) rfl ?_
      refine g_iconst C.c dX10_layWays_131 (v := (-1 : Int32)) (by decide) ?_
      refine g_icmp_eq C.c (tgt := 155) dX10_layWays_132 (by decide) (fun c => ?_) (fun c => ?_)
      · replace h := ite_t c h
        exact g_mask [true, true, true, true, true, true, false] rfl (bX10_layWays_b155 C hI hE0 h)
      · replace h := ite_f c h
        refine g_iinc C.c (i := 5) (y := (1 : Int32)) (L' := [some (.ref (kad K 0)), some (.int x1), some (.int x2), some (.int x3), some (.int x4), some (.int (x5 + (1 : Int32))), some (.int y0)]) dX10_layWays_135 rfl (by decide) (Nat.le_of_ble_eq_true rfl) rfl ?_
        refine g_aload_n C.c dX10_layWays_138 rfl (i := 0) rfl ?_
        refine gf_10_34 C dX10_layWays_139 ?_
        refine g_iload C.c dX10_layWays_142 (i := 5) rfl ?_
        refine g_iload C.c dX10_layWays_144 (i := 6) rfl ?_
        obtain ⟨c6, h⟩ := chk h
        refine g_iast C dX10_layWays_146 rfl c6 ?_
        refine g_aload_n C.c dX10_layWays_147 rfl (i := 0) rfl ?_
        refine gf_10_31 C dX10_layWays_148 ?_
        refine g_iload C.c dX10_layWays_151 (i := 5) rfl ?_
        refine g_iconst C.c dX10_layWays_153 (v := (-1 : Int32)) (by decide) ?_
        obtain ⟨c7, h⟩ := chk h
        refine g_iast C dX10_layWays_154 rfl c7 ?_
        exact g_mask [true, true, true, true, true, true, false] rfl (bX10_layWays_b155 C hI hE0 h)
    · replace h := ite_t c h
      refine g_aload_n C.c dX10_layWays_113 rfl (i := 0) rfl ?_
      refine g_iload_n C.c dX10_layWays_114 rfl (i := 1) rfl ?_
      refine g_iload_n C.c dX10_layWays_115 rfl (i := 2) rfl ?_
      refine g_iload_n C.c dX10_layWays_116 rfl (i := 3) rfl ?_
      refine g_iload C.c dX10_layWays_117 (i := 4) rfl ?_
      refine g_iload C.c dX10_layWays_119 (i := 5) rfl ?_
      refine g_iconst C.c dX10_layWays_121 (v := (1 : Int32)) (by decide) ?_
      refine g_iadd C.c dX10_layWays_122 ?_
      obtain ⟨p8, e9, h⟩ := Option.bind_eq_some_iff.mp h
      refine kc_10_231 C dX10_layWays_123 e9 (Nat.le_of_ble_eq_true rfl) rfl (Nat.le_of_ble_eq_true rfl) ?_
      refine g_goto C.c (tgt := 155) dX10_layWays_126 (by decide) ?_
      exact g_mask [true, true, true, true, true, true, false] rfl (bX10_layWays_b155 C hI hE0 h)
  · replace h := ite_f c h
    refine g_iinc C.c (i := 5) (y := (-1 : Int32)) (L' := [some (.ref (kad K 0)), some (.int x1), some (.int x2), some (.int x3), some (.int x4), some (.int (x5 + (-1 : Int32))), some (.int y0)]) dX10_layWays_98 rfl (by decide) (Nat.le_of_ble_eq_true rfl) rfl ?_
    refine g_goto C.c (tgt := 155) dX10_layWays_101 (by decide) ?_
    exact g_mask [true, true, true, true, true, true, false] rfl (bX10_layWays_b155 C hI hE0 h)
set_option maxRecDepth 4000 in
theorem bX10_layWays_b36 {K : KT} {x1 : Int32} {x2 : Int32} {x3 : Int32} {x4 : Int32} {x5 : Int32} {σ : Sg} {o : (Int32 × Sg) ⊕ ((Sg))} (C : Cx K layM cX10_layWays RX10 7 (6) none)  (hI : ∀ s' : Int32 × Sg, o = .inl s' → G K 36 [some (.ref (kad K 0)), some (.int x1), some (.int x2), some (.int x3), some (.int x4), some (.int s'.1), none] [] (Wd K layM s'.2)) (hE0 : ∀ t : Sg, o = .inr t → G K 158 [none, none, none, none, none, none, none] [] (Wd K layM t)) (h : fX10_layWays_b36 x1 x2 x3 x4 x5 σ = some o) : G K 36 [some (.ref (kad K 0)), some (.int x1), some (.int x2), some (.int x3), some (.int x4), some (.int x5), none] [] (Wd K layM σ) := by
  unfold fX10_layWays_b36 at h
  refine g_iload C.c dX10_layWays_36 (i := 5) rfl ?_
  refine g_if_lt C.c (tgt := 158) dX10_layWays_38 (by decide) (fun c => ?_) (fun c => ?_)
  · replace h := ite_t c h
    have g9 := hE0 _ (Option.some.inj h).symm
    exact g_mask [false, false, false, false, false, false, false] rfl g9
  · replace h := ite_f c h
    refine g_aload_n C.c dX10_layWays_41 rfl (i := 0) rfl ?_
    refine gf_10_31 C dX10_layWays_42 ?_
    refine g_iload C.c dX10_layWays_45 (i := 5) rfl ?_
    refine g_dup2 C.c dX10_layWays_47 rfl rfl ?_
    obtain ⟨c2, h⟩ := chk h
    refine g_iald C dX10_layWays_48 rfl c2 ?_
    refine g_iconst C.c dX10_layWays_49 (v := (1 : Int32)) (by decide) ?_
    refine g_iadd C.c dX10_layWays_50 ?_
    obtain ⟨c3, h⟩ := chk h
    refine g_iast C dX10_layWays_51 rfl c3 ?_
    refine g_aload_n C.c dX10_layWays_52 rfl (i := 0) rfl ?_
    refine gf_10_31 C dX10_layWays_53 ?_
    refine g_iload C.c dX10_layWays_56 (i := 5) rfl ?_
    obtain ⟨c4, h⟩ := chk h
    refine g_iald C dX10_layWays_58 rfl c4 ?_
    refine g_iconst C.c dX10_layWays_59 (v := (4 : Int32)) (by decide) ?_
    refine g_icmp_ge C.c (tgt := 84) dX10_layWays_60 (by decide) (fun c => ?_) (fun c => ?_)
    · replace h := ite_t c h
      refine g_iconst C.c dX10_layWays_84 (v := (-1 : Int32)) (by decide) ?_
      exact g_mask [true, true, true, true, true, true, false] rfl (bX10_layWays_b85 C hI hE0 h)
    · replace h := ite_f c h
      refine g_aload_n C.c dX10_layWays_63 rfl (i := 0) rfl ?_
      refine g_aload_n C.c dX10_layWays_64 rfl (i := 0) rfl ?_
      refine gf_10_34 C dX10_layWays_65 ?_
      refine g_iload C.c dX10_layWays_68 (i := 5) rfl ?_
      obtain ⟨c10, h⟩ := chk h
      refine g_iald C dX10_layWays_70 rfl c10 ?_
      refine g_aload_n C.c dX10_layWays_71 rfl (i := 0) rfl ?_
      refine gf_10_31 C dX10_layWays_72 ?_
      refine g_iload C.c dX10_layWays_75 (i := 5) rfl ?_
      obtain ⟨c11, h⟩ := chk h
      refine g_iald C dX10_layWays_77 rfl c11 ?_
      obtain ⟨p12, e13, h⟩ := Option.bind_eq_some_iff.mp h
      refine kc_10_228 C dX10_layWays_78 e13 (Nat.le_of_ble_eq_true rfl) rfl (Nat.le_of_ble_eq_true rfl) ?_
      refine g_goto C.c (tgt := 85) dX10_layWays_81 (by decide) ?_
      exact g_mask [true, true, true, true, true, true, false] rfl (bX10_layWays_b85 C hI hE0 h)
set_option maxRecDepth 4000 in
theorem bX10_layWays_b0 {K : KT} {x1 : Int32} {x2 : Int32} {x3 : Int32} {x4 : Int32} {σ : Sg} {o : Sg} (C : Cx K layM cX10_layWays RX10 7 (6) none)  (hQ : Rk K layM (okV o)) (h : fX10_layWays_b0 x1 x2 x3 x4 σ = some o) : G K 0 [some (.ref (kad K 0)), some (.int x1), some (.int x2), some (.int x3), some (.int x4), none, none] [] (Wd K layM σ) := by
  unfold fX10_layWays_b0 at h
  refine g_aload_n C.c dX10_layWays_0 rfl (i := 0) rfl ?_
  refine g_iconst C.c dX10_layWays_1 (v := (0 : Int32)) (by decide) ?_
  refine pf_10_206 C dX10_layWays_2 ?_
  refine g_aload_n C.c dX10_layWays_5 rfl (i := 0) rfl ?_
  refine g_iconst C.c dX10_layWays_6 (v := (-1 : Int32)) (by decide) ?_
  refine pf_10_166 C dX10_layWays_7 ?_
  refine g_iconst C.c dX10_layWays_10 (v := (0 : Int32)) (by decide) ?_
  refine g_istore C.c (i := 5) (L' := [some (.ref (kad K 0)), some (.int x1), some (.int x2), some (.int x3), some (.int x4), some (.int (0 : Int32)), none]) dX10_layWays_11 (Nat.le_of_ble_eq_true rfl) rfl ?_
  refine g_aload_n C.c dX10_layWays_13 rfl (i := 0) rfl ?_
  refine gf_10_34 C dX10_layWays_14 ?_
  refine g_iconst C.c dX10_layWays_17 (v := (0 : Int32)) (by decide) ?_
  refine g_aload_n C.c dX10_layWays_18 rfl (i := 0) rfl ?_
  refine gf_10_25 C dX10_layWays_19 ?_
  refine g_iconst C.c dX10_layWays_22 (v := (5 : Int32)) (by decide) ?_
  refine g_iload_n C.c dX10_layWays_23 rfl (i := 1) rfl ?_
  refine g_imul C.c dX10_layWays_24 ?_
  refine g_iconst C.c dX10_layWays_25 (v := (1 : Int32)) (by decide) ?_
  refine g_iadd C.c dX10_layWays_26 ?_
  obtain ⟨c1, h⟩ := chk h
  refine g_iald C dX10_layWays_27 rfl c1 ?_
  refine g_iast C dX10_layWays_28 rfl (by decide) ?_
  refine g_aload_n C.c dX10_layWays_29 rfl (i := 0) rfl ?_
  refine gf_10_31 C dX10_layWays_30 ?_
  refine g_iconst C.c dX10_layWays_33 (v := (0 : Int32)) (by decide) ?_
  refine g_iconst C.c dX10_layWays_34 (v := (-1 : Int32)) (by decide) ?_
  refine g_iast C dX10_layWays_35 rfl (by decide) ?_
  refine g_mask [true, true, true, true, true, true, false] rfl ?_
  refine lp_bind (Gh := fun s => G K 36 [some (.ref (kad K 0)), some (.int x1), some (.int x2), some (.int x3), some (.int x4), some (.int s.1), none] [] (Wd K layM s.2)) h (fun s o2 hf gI gE => ?_)
  refine bX10_layWays_b36 C gI (fun t14 e => ?_) hf
  · have h := gE _ e
    obtain rfl := Option.some.inj h
    exact g_vret C hQ dX10_layWays_158 ⟨rfl, rfl⟩
def fX10_layWays (a0 : Int32) (a1 : Int32) (a2 : Int32) (a3 : Int32) (σ : Sg) : Option (Sg) := fX10_layWays_b0 a0 a1 a2 a3 σ
theorem ct_X10_layWays {a0 : Int32} {a1 : Int32} {a2 : Int32} {a3 : Int32} {σ : Sg} {p : Sg} (h : fX10_layWays a0 a1 a2 a3 σ = some p) : Ct layM yX10_layWays cX10_layWays 7 none 6 (fun ad => [.ref (ad 0), .int a0, .int a1, .int a2, .int a3]) σ (okV p) :=
 ct_of (L0 := fun ad => [some (.ref (ad 0)), some (.int a0), some (.int a1), some (.int a2), some (.int a3), none, none]) (by decide) (fun _ => Nat.le_of_ble_eq_true rfl) (fun _ => rfl) (fun K C hQ => g_mask [true, true, true, true, true, false, false] rfl (bX10_layWays_b0 C hQ h))
-- X10_ownSize
theorem dX10_ownSize_0 : decode cX10_ownSize 0 = .ok (.aload_n 0, 1) := by decide +kernel
theorem dX10_ownSize_1 : decode cX10_ownSize 1 = .ok (.getfield 25, 3) := by decide +kernel
theorem dX10_ownSize_4 : decode cX10_ownSize 4 = .ok (.iconst 5, 1) := by decide +kernel
theorem dX10_ownSize_5 : decode cX10_ownSize 5 = .ok (.iload_n 1, 1) := by decide +kernel
theorem dX10_ownSize_6 : decode cX10_ownSize 6 = .ok (.imul, 1) := by decide +kernel
theorem dX10_ownSize_7 : decode cX10_ownSize 7 = .ok (.iconst 2, 1) := by decide +kernel
theorem dX10_ownSize_8 : decode cX10_ownSize 8 = .ok (.iadd, 1) := by decide +kernel
theorem dX10_ownSize_9 : decode cX10_ownSize 9 = .ok (.iaload, 1) := by decide +kernel
theorem dX10_ownSize_10 : decode cX10_ownSize 10 = .ok (.ireturn, 1) := by decide +kernel
theorem cw_X10_ownSize : Cw yX10_ownSize cX10_ownSize 2 (some .int) 1 := ⟨aw_1050, aw_56, ⟨by decide, by decide⟩, by decide +kernel, by decide⟩
def fX10_ownSize_b0 (x1 : Int32) (σ : Sg) : Option (Int32 × Sg) :=
  if inb (((5 : Int32) * x1) + (2 : Int32)) 25 = true then (some ((rI σ 6 ((((5 : Int32) * x1) + (2 : Int32))).toNatClampNeg), σ)) else none
set_option maxRecDepth 4000 in
theorem bX10_ownSize_b0 {K : KT} {x1 : Int32} {σ : Sg} {o : Int32 × Sg} (C : Cx K layM cX10_ownSize RX10 2 (1) (some .int))  (hQ : Rk K layM (okI o)) (h : fX10_ownSize_b0 x1 σ = some o) : G K 0 [some (.ref (kad K 0)), some (.int x1)] [] (Wd K layM σ) := by
  unfold fX10_ownSize_b0 at h
  refine g_aload_n C.c dX10_ownSize_0 rfl (i := 0) rfl ?_
  refine gf_10_25 C dX10_ownSize_1 ?_
  refine g_iconst C.c dX10_ownSize_4 (v := (5 : Int32)) (by decide) ?_
  refine g_iload_n C.c dX10_ownSize_5 rfl (i := 1) rfl ?_
  refine g_imul C.c dX10_ownSize_6 ?_
  refine g_iconst C.c dX10_ownSize_7 (v := (2 : Int32)) (by decide) ?_
  refine g_iadd C.c dX10_ownSize_8 ?_
  obtain ⟨c1, h⟩ := chk h
  refine g_iald C dX10_ownSize_9 rfl c1 ?_
  obtain rfl := Option.some.inj h
  exact g_iret C hQ dX10_ownSize_10 rfl ⟨rfl, rfl⟩
def fX10_ownSize (a0 : Int32) (σ : Sg) : Option (Int32 × Sg) := fX10_ownSize_b0 a0 σ
theorem ct_X10_ownSize {a0 : Int32} {σ : Sg} {p : Int32 × Sg} (h : fX10_ownSize a0 σ = some p) : Ct layM yX10_ownSize cX10_ownSize 2 (some .int) 1 (fun ad => [.ref (ad 0), .int a0]) σ (okI p) :=
 ct_of (L0 := fun ad => [some (.ref (ad 0)), some (.int a0)]) (by decide) (fun _ => Nat.le_of_ble_eq_true rfl) (fun _ => rfl) (fun K C hQ => g_mask [true, true] rfl (bX10_ownSize_b0 C hQ h))
-- X10_tellTow
theorem dX10_tellTow_0 : decode cX10_tellTow 0 = .ok (.aload_n 0, 1) := by decide +kernel
theorem dX10_tellTow_1 : decode cX10_tellTow 1 = .ok (.iload_n 1, 1) := by decide +kernel
theorem dX10_tellTow_2 : decode cX10_tellTow 2 = .ok (.aload_n 0, 1) := by decide +kernel
theorem dX10_tellTow_3 : decode cX10_tellTow 3 = .ok (.iload_n 1, 1) := by decide +kernel
theorem dX10_tellTow_4 : decode cX10_tellTow 4 = .ok (.invokevirtual 235, 3) := by decide +kernel
theorem dX10_tellTow_7 : decode cX10_tellTow 7 = .ok (.iload_n 2, 1) := by decide +kernel
theorem dX10_tellTow_8 : decode cX10_tellTow 8 = .ok (.iload_n 3, 1) := by decide +kernel
theorem dX10_tellTow_9 : decode cX10_tellTow 9 = .ok (.invokevirtual 238, 3) := by decide +kernel
theorem dX10_tellTow_12 : decode cX10_tellTow 12 = .ok (.aload_n 0, 1) := by decide +kernel
theorem dX10_tellTow_13 : decode cX10_tellTow 13 = .ok (.getfield 206, 3) := by decide +kernel
theorem dX10_tellTow_16 : decode cX10_tellTow 16 = .ok (.ifCond .ne 6, 3) := by decide +kernel
theorem dX10_tellTow_19 : decode cX10_tellTow 19 = .ok (.ldc 241, 2) := by decide +kernel
theorem dX10_tellTow_21 : decode cX10_tellTow 21 = .ok (.ireturn, 1) := by decide +kernel
theorem dX10_tellTow_22 : decode cX10_tellTow 22 = .ok (.iload 4, 2) := by decide +kernel
theorem dX10_tellTow_24 : decode cX10_tellTow 24 = .ok (.tableswitch 52 0 3 #[32, 37, 42, 47], 32) := by decide +kernel
theorem dX10_tellTow_56 : decode cX10_tellTow 56 = .ok (.aload_n 0, 1) := by decide +kernel
theorem dX10_tellTow_57 : decode cX10_tellTow 57 = .ok (.getfield 222, 3) := by decide +kernel
theorem dX10_tellTow_60 : decode cX10_tellTow 60 = .ok (.ireturn, 1) := by decide +kernel
theorem dX10_tellTow_61 : decode cX10_tellTow 61 = .ok (.aload_n 0, 1) := by decide +kernel
theorem dX10_tellTow_62 : decode cX10_tellTow 62 = .ok (.getfield 219, 3) := by decide +kernel
theorem dX10_tellTow_65 : decode cX10_tellTow 65 = .ok (.ireturn, 1) := by decide +kernel
theorem dX10_tellTow_66 : decode cX10_tellTow 66 = .ok (.aload_n 0, 1) := by decide +kernel
theorem dX10_tellTow_67 : decode cX10_tellTow 67 = .ok (.getfield 216, 3) := by decide +kernel
theorem dX10_tellTow_70 : decode cX10_tellTow 70 = .ok (.ireturn, 1) := by decide +kernel
theorem dX10_tellTow_71 : decode cX10_tellTow 71 = .ok (.aload_n 0, 1) := by decide +kernel
theorem dX10_tellTow_72 : decode cX10_tellTow 72 = .ok (.getfield 225, 3) := by decide +kernel
theorem dX10_tellTow_75 : decode cX10_tellTow 75 = .ok (.ireturn, 1) := by decide +kernel
theorem dX10_tellTow_76 : decode cX10_tellTow 76 = .ok (.iload 4, 2) := by decide +kernel
theorem dX10_tellTow_78 : decode cX10_tellTow 78 = .ok (.bipush 10, 2) := by decide +kernel
theorem dX10_tellTow_80 : decode cX10_tellTow 80 = .ok (.isub, 1) := by decide +kernel
theorem dX10_tellTow_81 : decode cX10_tellTow 81 = .ok (.aload_n 0, 1) := by decide +kernel
theorem dX10_tellTow_82 : decode cX10_tellTow 82 = .ok (.getfield 225, 3) := by decide +kernel
theorem dX10_tellTow_85 : decode cX10_tellTow 85 = .ok (.if_icmp .ge 16, 3) := by decide +kernel
theorem dX10_tellTow_88 : decode cX10_tellTow 88 = .ok (.aload_n 0, 1) := by decide +kernel
theorem dX10_tellTow_89 : decode cX10_tellTow 89 = .ok (.getfield 37, 3) := by decide +kernel
theorem dX10_tellTow_92 : decode cX10_tellTow 92 = .ok (.iload 4, 2) := by decide +kernel
theorem dX10_tellTow_94 : decode cX10_tellTow 94 = .ok (.bipush 10, 2) := by decide +kernel
theorem dX10_tellTow_96 : decode cX10_tellTow 96 = .ok (.isub, 1) := by decide +kernel
theorem dX10_tellTow_97 : decode cX10_tellTow 97 = .ok (.iaload, 1) := by decide +kernel
theorem dX10_tellTow_98 : decode cX10_tellTow 98 = .ok (.goto 4, 3) := by decide +kernel
theorem dX10_tellTow_101 : decode cX10_tellTow 101 = .ok (.iconst (-1), 1) := by decide +kernel
theorem dX10_tellTow_102 : decode cX10_tellTow 102 = .ok (.ireturn, 1) := by decide +kernel
theorem cw_X10_tellTow : Cw yX10_tellTow cX10_tellTow 5 (some .int) 4 := ⟨aw_1046, aw_56, ⟨by decide, by decide⟩, by decide +kernel, by decide⟩
theorem kc_10_235 {K : KT} {cc : ByteArray} {nL d pc : Nat} {ret : Option FieldType} {L : List (Option Value)} {st : List Value} {σ : Sg} (C : Cx K layM cc RX10 nL d ret)  {a0 : Int32}  {p : Int32 × Sg} (hd : decode cc pc = .ok (.invokevirtual 235, 3)) (e : fX10_ownSize a0 σ = some p) (hdd : 1 + 1 ≤ d) (hLn : L.length = nL) (hr : (st.map fun v => v.category).sum ≤ 8) (k : G K (pc + 3) L (.int p.1 :: st) (Wd K layM p.2)) : G K pc L (.int a0 :: .ref (kad K 0) :: st) (Wd K layM σ) :=
  g_callV C (As := [.int a0]) (rest := st) (o := 0) (ci := 10) hd (ct_X10_ownSize e) cw_X10_ownSize (Or.inl aw_1047) aw_1049 aw_29 rfl rfl rfl hdd hLn rfl rfl hr (fun v τ q => by obtain ⟨rfl, rfl⟩ := q; exact k)
theorem kc_10_238 {K : KT} {cc : ByteArray} {nL d pc : Nat} {ret : Option FieldType} {L : List (Option Value)} {st : List Value} {σ : Sg} (C : Cx K layM cc RX10 nL d ret)  {a0 : Int32} {a1 : Int32} {a2 : Int32} {a3 : Int32}  {p : Sg} (hd : decode cc pc = .ok (.invokevirtual 238, 3)) (e : fX10_layWays a0 a1 a2 a3 σ = some p) (hdd : 6 + 1 ≤ d) (hLn : L.length = nL) (hr : (st.map fun v => v.category).sum ≤ 8) (k : G K (pc + 3) L (st) (Wd K layM p)) : G K pc L (.int a3 :: .int a2 :: .int a1 :: .int a0 :: .ref (kad K 0) :: st) (Wd K layM σ) :=
  g_callV C (As := [.int a0, .int a1, .int a2, .int a3]) (rest := st) (o := 0) (ci := 10) hd (ct_X10_layWays e) cw_X10_layWays (Or.inl aw_1051) aw_1053 aw_30 rfl rfl rfl hdd hLn rfl rfl hr (fun v τ q => by obtain ⟨rfl, rfl⟩ := q; exact k)
theorem gf_10_222 {K : KT} {cc : ByteArray} {nL d pc : Nat} {ret : Option FieldType} {L : List (Option Value)} {st : List Value} {σ : Sg} (C : Cx K layM cc RX10 nL d ret)  (hd : decode cc pc = .ok (.getfield 222, 3)) (k : G K (pc + 3) L (.int (rI σ 0 34) :: st) (Wd K layM σ)) : G K pc L (.ref (kad K 0) :: st) (Wd K layM σ) := g_get C (o := 0) (ci := 10) (k := 34) hd rfl rfl rfl (by decide) (Or.inl aw_823) inA10 rfl k
theorem gf_10_225 {K : KT} {cc : ByteArray} {nL d pc : Nat} {ret : Option FieldType} {L : List (Option Value)} {st : List Value} {σ : Sg} (C : Cx K layM cc RX10 nL d ret)  (hd : decode cc pc = .ok (.getfield 225, 3)) (k : G K (pc + 3) L (.int (rI σ 0 33) :: st) (Wd K layM σ)) : G K pc L (.ref (kad K 0) :: st) (Wd K layM σ) := g_get C (o := 0) (ci := 10) (k := 33) hd rfl rfl rfl (by decide) (Or.inl aw_822) inA10 rfl k
def fX10_tellTow_b0 (x1 : Int32) (x2 : Int32) (x3 : Int32) (x4 : Int32) (σ : Sg) : Option (Int32 × Sg) :=
  Option.bind (fX10_ownSize x1 σ) fun p1 => (Option.bind (fX10_layWays x1 p1.1 x2 x3 p1.2) fun p3 => (if (rI p3 0 37) = 0 then (some ((-100001 : Int32), p3)) else (if x4 = (0 : Int32) then (some ((rI p3 0 34), p3)) else (if x4 = (1 : Int32) then (some ((rI p3 0 35), p3)) else (if x4 = (2 : Int32) then (some ((rI p3 0 36), p3)) else (if x4 = (3 : Int32) then (some ((rI p3 0 33), p3)) else (if (rI p3 0 33) ≤ (x4 - (10 : Int32)) then (some ((-1 : Int32), p3)) else (if inb (x4 - (10 : Int32)) 10 = true then (some ((rI p3 10 ((x4 - (10 : Int32))).toNatClampNeg), p3)) else none))))))))
set_option maxRecDepth 4000 in
theorem bX10_tellTow_b0 {K : KT} {x1 : Int32} {x2 : Int32} {x3 : Int32} {x4 : Int32} {σ : Sg} {o : Int32 × Sg} (C : Cx K layM cX10_tellTow RX10 5 (7) (some .int))  (hQ : Rk K layM (okI o)) (h : fX10_tellTow_b0 x1 x2 x3 x4 σ = some o) : G K 0 [some (.ref (kad K 0)), some (.int x1), some (.int x2), some (.int x3), some (.int x4)] [] (Wd K layM σ) := by
  unfold fX10_tellTow_b0 at h
  refine g_aload_n C.c dX10_tellTow_0 rfl (i := 0) rfl ?_
  refine g_iload_n C.c dX10_tellTow_1 rfl (i := 1) rfl ?_
  refine g_aload_n C.c dX10_tellTow_2 rfl (i := 0) rfl ?_
  refine g_iload_n C.c dX10_tellTow_3 rfl (i := 1) rfl ?_
  obtain ⟨p1, e2, h⟩ := Option.bind_eq_some_iff.mp h
  refine kc_10_235 C dX10_tellTow_4 e2 (Nat.le_of_ble_eq_true rfl) rfl (Nat.le_of_ble_eq_true rfl) ?_
  refine g_iload_n C.c dX10_tellTow_7 rfl (i := 2) rfl ?_
  refine g_iload_n C.c dX10_tellTow_8 rfl (i := 3) rfl ?_
  obtain ⟨p3, e4, h⟩ := Option.bind_eq_some_iff.mp h
  refine kc_10_238 C dX10_tellTow_9 e4 (Nat.le_of_ble_eq_true rfl) rfl (Nat.le_of_ble_eq_true rfl) ?_
  refine g_aload_n C.c dX10_tellTow_12 rfl (i := 0) rfl ?_
  refine gf_10_206 C dX10_tellTow_13 ?_
  refine g_if_ne C.c (tgt := 22) dX10_tellTow_16 (by decide) (fun c => ?_) (fun c => ?_)
  · replace h := ite_f c h
    refine g_iload C.c dX10_tellTow_22 (i := 4) rfl ?_
    by_cases c0 : x4 = (0 : Int32)
    · replace h := ite_t c0 h
      refine g_tblIn C.c (tgt := 56) (off := 32) c0 dX10_tellTow_24 (by decide) (by decide) (by decide) (by decide) ?_
      refine g_aload_n C.c dX10_tellTow_56 rfl (i := 0) rfl ?_
      refine gf_10_222 C dX10_tellTow_57 ?_
      obtain rfl := Option.some.inj h
      exact g_iret C hQ dX10_tellTow_60 rfl ⟨rfl, rfl⟩
    · replace h := ite_f c0 h
      by_cases c1 : x4 = (1 : Int32)
      · replace h := ite_t c1 h
        refine g_tblIn C.c (tgt := 61) (off := 37) c1 dX10_tellTow_24 (by decide) (by decide) (by decide) (by decide) ?_
        refine g_aload_n C.c dX10_tellTow_61 rfl (i := 0) rfl ?_
        refine gf_10_219 C dX10_tellTow_62 ?_
        obtain rfl := Option.some.inj h
        exact g_iret C hQ dX10_tellTow_65 rfl ⟨rfl, rfl⟩
      · replace h := ite_f c1 h
        by_cases c2 : x4 = (2 : Int32)
        · replace h := ite_t c2 h
          refine g_tblIn C.c (tgt := 66) (off := 42) c2 dX10_tellTow_24 (by decide) (by decide) (by decide) (by decide) ?_
          refine g_aload_n C.c dX10_tellTow_66 rfl (i := 0) rfl ?_
          refine gf_10_216 C dX10_tellTow_67 ?_
          obtain rfl := Option.some.inj h
          exact g_iret C hQ dX10_tellTow_70 rfl ⟨rfl, rfl⟩
        · replace h := ite_f c2 h
          by_cases c3 : x4 = (3 : Int32)
          · replace h := ite_t c3 h
            refine g_tblIn C.c (tgt := 71) (off := 47) c3 dX10_tellTow_24 (by decide) (by decide) (by decide) (by decide) ?_
            refine g_aload_n C.c dX10_tellTow_71 rfl (i := 0) rfl ?_
            refine gf_10_225 C dX10_tellTow_72 ?_
            obtain rfl := Option.some.inj h
            exact g_iret C hQ dX10_tellTow_75 rfl ⟨rfl, rfl⟩
          · replace h := ite_f c3 h
            refine g_tblOut C.c (tgt := 76) [(0 : Int32), (1 : Int32), (2 : Int32), (3 : Int32)] (by decide) ⟨c0, c1, c2, c3, trivial⟩ dX10_tellTow_24 (by decide) ?_
            refine g_iload C.c dX10_tellTow_76 (i := 4) rfl ?_
            refine g_bipush C.c dX10_tellTow_78 (v := (10 : Int32)) (by decide) ?_
            refine g_isub C.c dX10_tellTow_80 ?_
            refine g_aload_n C.c dX10_tellTow_81 rfl (i := 0) rfl ?_
            refine gf_10_225 C dX10_tellTow_82 ?_
            refine g_icmp_ge C.c (tgt := 101) dX10_tellTow_85 (by decide) (fun c => ?_) (fun c => ?_)
            · replace h := ite_t c h
              refine g_iconst C.c dX10_tellTow_101 (v := (-1 : Int32)) (by decide) ?_
              obtain rfl := Option.some.inj h
              exact g_iret C hQ dX10_tellTow_102 rfl ⟨rfl, rfl⟩
            · replace h := ite_f c h
              refine g_aload_n C.c dX10_tellTow_88 rfl (i := 0) rfl ?_
              refine gf_10_37 C dX10_tellTow_89 ?_
              refine g_iload C.c dX10_tellTow_92 (i := 4) rfl ?_
              refine g_bipush C.c dX10_tellTow_94 (v := (10 : Int32)) (by decide) ?_
              refine g_isub C.c dX10_tellTow_96 ?_
              obtain ⟨c5, h⟩ := chk h
              refine g_iald C dX10_tellTow_97 rfl c5 ?_
              refine g_goto C.c (tgt := 102) dX10_tellTow_98 (by decide) ?_
              obtain rfl := Option.some.inj h
              exact g_iret C hQ dX10_tellTow_102 rfl ⟨rfl, rfl⟩
  · replace h := ite_t c h
    refine g_ldc C.c (v := (-100001 : Int32)) aw_1087 dX10_tellTow_19 ?_
    obtain rfl := Option.some.inj h
    exact g_iret C hQ dX10_tellTow_21 rfl ⟨rfl, rfl⟩
def fX10_tellTow (a0 : Int32) (a1 : Int32) (a2 : Int32) (a3 : Int32) (σ : Sg) : Option (Int32 × Sg) := fX10_tellTow_b0 a0 a1 a2 a3 σ
theorem ct_X10_tellTow {a0 : Int32} {a1 : Int32} {a2 : Int32} {a3 : Int32} {σ : Sg} {p : Int32 × Sg} (h : fX10_tellTow a0 a1 a2 a3 σ = some p) : Ct layM yX10_tellTow cX10_tellTow 5 (some .int) 7 (fun ad => [.ref (ad 0), .int a0, .int a1, .int a2, .int a3]) σ (okI p) :=
 ct_of (L0 := fun ad => [some (.ref (ad 0)), some (.int a0), some (.int a1), some (.int a2), some (.int a3)]) (by decide) (fun _ => Nat.le_of_ble_eq_true rfl) (fun _ => rfl) (fun K C hQ => g_mask [true, true, true, true, true] rfl (bX10_tellTow_b0 C hQ h))
-- X10_areTugs
theorem dX10_areTugs_0 : decode cX10_areTugs 0 = .ok (.iload_n 0, 1) := by decide +kernel
theorem dX10_areTugs_1 : decode cX10_areTugs 1 = .ok (.i2l, 1) := by decide +kernel
theorem dX10_areTugs_2 : decode cX10_areTugs 2 = .ok (.lconst 1, 1) := by decide +kernel
theorem dX10_areTugs_3 : decode cX10_areTugs 3 = .ok (.ldc2_w 242, 3) := by decide +kernel
theorem dX10_areTugs_6 : decode cX10_areTugs 6 = .ok (.invokestatic 102, 3) := by decide +kernel
theorem dX10_areTugs_9 : decode cX10_areTugs 9 = .ok (.ireturn, 1) := by decide +kernel
theorem cw_X10_areTugs : Cw yX10_areTugs cX10_areTugs 1 (some .boolean) 1 := ⟨aw_1040, aw_56, ⟨by decide, by decide⟩, by decide +kernel, by decide⟩
def fX10_areTugs_b0 (x0 : Int32) (σ : Sg) : Option (Int32 × Sg) :=
  Option.bind (fX10_in ((x0).toInt64) (1 : Int64) (11 : Int64) σ) fun p1 => (if isB p1.1 = true then (some (p1.1, p1.2)) else none)
set_option maxRecDepth 4000 in
theorem bX10_areTugs_b0 {K : KT} {x0 : Int32} {σ : Sg} {o : Int32 × Sg} (C : Cx K layM cX10_areTugs RX10 1 (2) (some .boolean))  (hQ : Rk K layM (okI o)) (h : fX10_areTugs_b0 x0 σ = some o) : G K 0 [some (.int x0)] [] (Wd K layM σ) := by
  unfold fX10_areTugs_b0 at h
  refine g_iload_n C.c dX10_areTugs_0 rfl (i := 0) rfl ?_
  refine g_i2l C.c dX10_areTugs_1 ?_
  refine g_lconst C.c dX10_areTugs_2 (v := (1 : Int64)) (by decide) ?_
  refine g_ldc2 C.c (v := (11 : Int64)) aw_1041 dX10_areTugs_3 ?_
  obtain ⟨p1, e2, h⟩ := Option.bind_eq_some_iff.mp h
  refine kc_10_102 C dX10_areTugs_6 e2 (Nat.le_of_ble_eq_true rfl) rfl (Nat.le_of_ble_eq_true rfl) ?_
  obtain ⟨c3, h⟩ := chk h
  obtain rfl := Option.some.inj h
  exact g_iret C hQ dX10_areTugs_9 (isB_n c3) ⟨rfl, rfl⟩
def fX10_areTugs (a0 : Int32) (σ : Sg) : Option (Int32 × Sg) := fX10_areTugs_b0 a0 σ
theorem ct_X10_areTugs {a0 : Int32} {σ : Sg} {p : Int32 × Sg} (h : fX10_areTugs a0 σ = some p) : Ct layM yX10_areTugs cX10_areTugs 1 (some .boolean) 2 (fun ad => [.int a0]) σ (okI p) :=
 ct_of (L0 := fun ad => [some (.int a0)]) (by decide) (fun _ => Nat.le_of_ble_eq_true rfl) (fun _ => rfl) (fun K C hQ => g_mask [true] rfl (bX10_areTugs_b0 C hQ h))
-- X10_tow
theorem dX10_tow_0 : decode cX10_tow 0 = .ok (.aload_n 0, 1) := by decide +kernel
theorem dX10_tow_1 : decode cX10_tow 1 = .ok (.iload_n 1, 1) := by decide +kernel
theorem dX10_tow_2 : decode cX10_tow 2 = .ok (.invokevirtual 159, 3) := by decide +kernel
theorem dX10_tow_5 : decode cX10_tow 5 = .ok (.ifCond .ne 6, 3) := by decide +kernel
theorem dX10_tow_8 : decode cX10_tow 8 = .ok (.ldc 244, 2) := by decide +kernel
theorem dX10_tow_10 : decode cX10_tow 10 = .ok (.ireturn, 1) := by decide +kernel
theorem dX10_tow_11 : decode cX10_tow 11 = .ok (.iload_n 2, 1) := by decide +kernel
theorem dX10_tow_12 : decode cX10_tow 12 = .ok (.invokestatic 245, 3) := by decide +kernel
theorem dX10_tow_15 : decode cX10_tow 15 = .ok (.ifCond .eq 43, 3) := by decide +kernel
theorem dX10_tow_18 : decode cX10_tow 18 = .ok (.iload 4, 2) := by decide +kernel
theorem dX10_tow_20 : decode cX10_tow 20 = .ok (.i2l, 1) := by decide +kernel
theorem dX10_tow_21 : decode cX10_tow 21 = .ok (.lconst 0, 1) := by decide +kernel
theorem dX10_tow_22 : decode cX10_tow 22 = .ok (.ldc2_w 162, 3) := by decide +kernel
theorem dX10_tow_25 : decode cX10_tow 25 = .ok (.invokestatic 102, 3) := by decide +kernel
theorem dX10_tow_28 : decode cX10_tow 28 = .ok (.ifCond .ne 18, 3) := by decide +kernel
theorem dX10_tow_31 : decode cX10_tow 31 = .ok (.iload 4, 2) := by decide +kernel
theorem dX10_tow_33 : decode cX10_tow 33 = .ok (.i2l, 1) := by decide +kernel
theorem dX10_tow_34 : decode cX10_tow 34 = .ok (.ldc2_w 149, 3) := by decide +kernel
theorem dX10_tow_37 : decode cX10_tow 37 = .ok (.ldc2_w 248, 3) := by decide +kernel
theorem dX10_tow_40 : decode cX10_tow 40 = .ok (.invokestatic 102, 3) := by decide +kernel
theorem dX10_tow_43 : decode cX10_tow 43 = .ok (.ifCond .eq 15, 3) := by decide +kernel
theorem dX10_tow_46 : decode cX10_tow 46 = .ok (.aload_n 0, 1) := by decide +kernel
theorem dX10_tow_47 : decode cX10_tow 47 = .ok (.iload_n 1, 1) := by decide +kernel
theorem dX10_tow_48 : decode cX10_tow 48 = .ok (.iload_n 2, 1) := by decide +kernel
theorem dX10_tow_49 : decode cX10_tow 49 = .ok (.iload_n 3, 1) := by decide +kernel
theorem dX10_tow_50 : decode cX10_tow 50 = .ok (.iload 4, 2) := by decide +kernel
theorem dX10_tow_52 : decode cX10_tow 52 = .ok (.invokevirtual 250, 3) := by decide +kernel
theorem dX10_tow_55 : decode cX10_tow 55 = .ok (.goto 5, 3) := by decide +kernel
theorem dX10_tow_58 : decode cX10_tow 58 = .ok (.ldc 254, 2) := by decide +kernel
theorem dX10_tow_60 : decode cX10_tow 60 = .ok (.ireturn, 1) := by decide +kernel
theorem cw_X10_tow : Cw yX10_tow cX10_tow 5 (some .int) 4 := ⟨aw_1036, aw_56, ⟨by decide, by decide⟩, by decide +kernel, by decide⟩
theorem kc_10_245 {K : KT} {cc : ByteArray} {nL d pc : Nat} {ret : Option FieldType} {L : List (Option Value)} {st : List Value} {σ : Sg} (C : Cx K layM cc RX10 nL d ret)  {a0 : Int32}  {p : Int32 × Sg} (hd : decode cc pc = .ok (.invokestatic 245, 3)) (e : fX10_areTugs a0 σ = some p) (hdd : 2 + 1 ≤ d) (hLn : L.length = nL) (hr : (st.map fun v => v.category).sum ≤ 8) (k : G K (pc + 3) L (.int p.1 :: st) (Wd K layM p.2)) : G K pc L (.int a0 :: st) (Wd K layM σ) :=
  g_callS C (As := [.int a0]) (rest := st) hd (ct_X10_areTugs e) cw_X10_areTugs (Or.inl aw_1038) aw_1039 rfl rfl rfl hdd hLn hr (fun v τ q => by obtain ⟨rfl, rfl⟩ := q; exact k)
theorem kc_10_250 {K : KT} {cc : ByteArray} {nL d pc : Nat} {ret : Option FieldType} {L : List (Option Value)} {st : List Value} {σ : Sg} (C : Cx K layM cc RX10 nL d ret)  {a0 : Int32} {a1 : Int32} {a2 : Int32} {a3 : Int32}  {p : Int32 × Sg} (hd : decode cc pc = .ok (.invokevirtual 250, 3)) (e : fX10_tellTow a0 a1 a2 a3 σ = some p) (hdd : 7 + 1 ≤ d) (hLn : L.length = nL) (hr : (st.map fun v => v.category).sum ≤ 8) (k : G K (pc + 3) L (.int p.1 :: st) (Wd K layM p.2)) : G K pc L (.int a3 :: .int a2 :: .int a1 :: .int a0 :: .ref (kad K 0) :: st) (Wd K layM σ) :=
  g_callV C (As := [.int a0, .int a1, .int a2, .int a3]) (rest := st) (o := 0) (ci := 10) hd (ct_X10_tellTow e) cw_X10_tellTow (Or.inl aw_1043) aw_1045 aw_28 rfl rfl rfl hdd hLn rfl rfl hr (fun v τ q => by obtain ⟨rfl, rfl⟩ := q; exact k)
def fX10_tow_b46 (x1 : Int32) (x2 : Int32) (x3 : Int32) (x4 : Int32) (σ : Sg) : Option (Int32 × Sg) :=
  Option.bind (fX10_tellTow x1 x2 x3 x4 σ) fun p7 => (some (p7.1, p7.2))
def fX10_tow_b0 (x1 : Int32) (x2 : Int32) (x3 : Int32) (x4 : Int32) (σ : Sg) : Option (Int32 × Sg) :=
  Option.bind (fX10_isBerg x1 σ) fun p1 => (if p1.1 = 0 then (some ((-100101 : Int32), p1.2)) else (Option.bind (fX10_areTugs x2 p1.2) fun p3 => (if p3.1 = 0 then (some ((-100102 : Int32), p3.2)) else (Option.bind (fX10_in ((x4).toInt64) (0 : Int64) (3 : Int64) p3.2) fun p5 => (if p5.1 = 0 then (Option.bind (fX10_in ((x4).toInt64) (10 : Int64) (18 : Int64) p5.2) fun p9 => (if p9.1 = 0 then (some ((-100102 : Int32), p9.2)) else (fX10_tow_b46 x1 x2 x3 x4 p9.2))) else (fX10_tow_b46 x1 x2 x3 x4 p5.2))))))
set_option maxRecDepth 4000 in
theorem bX10_tow_b46 {K : KT} {x1 : Int32} {x2 : Int32} {x3 : Int32} {x4 : Int32} {σ : Sg} {o : Int32 × Sg} (C : Cx K layM cX10_tow RX10 5 (8) (some .int))  (hQ : Rk K layM (okI o)) (h : fX10_tow_b46 x1 x2 x3 x4 σ = some o) : G K 46 [some (.ref (kad K 0)), some (.int x1), some (.int x2), some (.int x3), some (.int x4)] [] (Wd K layM σ) := by
  unfold fX10_tow_b46 at h
  refine g_aload_n C.c dX10_tow_46 rfl (i := 0) rfl ?_
  refine g_iload_n C.c dX10_tow_47 rfl (i := 1) rfl ?_
  refine g_iload_n C.c dX10_tow_48 rfl (i := 2) rfl ?_
  refine g_iload_n C.c dX10_tow_49 rfl (i := 3) rfl ?_
  refine g_iload C.c dX10_tow_50 (i := 4) rfl ?_
  obtain ⟨p7, e8, h⟩ := Option.bind_eq_some_iff.mp h
  refine kc_10_250 C dX10_tow_52 e8 (Nat.le_of_ble_eq_true rfl) rfl (Nat.le_of_ble_eq_true rfl) ?_
  refine g_goto C.c (tgt := 60) dX10_tow_55 (by decide) ?_
  obtain rfl := Option.some.inj h
  exact g_iret C hQ dX10_tow_60 rfl ⟨rfl, rfl⟩
set_option maxRecDepth 4000 in
theorem bX10_tow_b0 {K : KT} {x1 : Int32} {x2 : Int32} {x3 : Int32} {x4 : Int32} {σ : Sg} {o : Int32 × Sg} (C : Cx K layM cX10_tow RX10 5 (8) (some .int))  (hQ : Rk K layM (okI o)) (h : fX10_tow_b0 x1 x2 x3 x4 σ = some o) : G K 0 [some (.ref (kad K 0)), some (.int x1), some (.int x2), some (.int x3), some (.int x4)] [] (Wd K layM σ) := by
  unfold fX10_tow_b0 at h
  refine g_aload_n C.c dX10_tow_0 rfl (i := 0) rfl ?_
  refine g_iload_n C.c dX10_tow_1 rfl (i := 1) rfl ?_
  obtain ⟨p1, e2, h⟩ := Option.bind_eq_some_iff.mp h
  refine kc_10_159 C dX10_tow_2 e2 (Nat.le_of_ble_eq_true rfl) rfl (Nat.le_of_ble_eq_true rfl) ?_
  refine g_if_ne C.c (tgt := 11) dX10_tow_5 (by decide) (fun c => ?_) (fun c => ?_)
  · replace h := ite_f c h
    refine g_iload_n C.c dX10_tow_11 rfl (i := 2) rfl ?_
    obtain ⟨p3, e4, h⟩ := Option.bind_eq_some_iff.mp h
    refine kc_10_245 C dX10_tow_12 e4 (Nat.le_of_ble_eq_true rfl) rfl (Nat.le_of_ble_eq_true rfl) ?_
    refine g_if_eq C.c (tgt := 58) dX10_tow_15 (by decide) (fun c => ?_) (fun c => ?_)
    · replace h := ite_t c h
      refine g_ldc C.c (v := (-100102 : Int32)) aw_1088 dX10_tow_58 ?_
      obtain rfl := Option.some.inj h
      exact g_iret C hQ dX10_tow_60 rfl ⟨rfl, rfl⟩
    · replace h := ite_f c h
      refine g_iload C.c dX10_tow_18 (i := 4) rfl ?_
      refine g_i2l C.c dX10_tow_20 ?_
      refine g_lconst C.c dX10_tow_21 (v := (0 : Int64)) (by decide) ?_
      refine g_ldc2 C.c (v := (3 : Int64)) aw_1028 dX10_tow_22 ?_
      obtain ⟨p5, e6, h⟩ := Option.bind_eq_some_iff.mp h
      refine kc_10_102 C dX10_tow_25 e6 (Nat.le_of_ble_eq_true rfl) rfl (Nat.le_of_ble_eq_true rfl) ?_
      refine g_if_ne C.c (tgt := 46) dX10_tow_28 (by decide) (fun c => ?_) (fun c => ?_)
      · replace h := ite_f c h
        exact g_mask [true, true, true, true, true] rfl (bX10_tow_b46 C hQ h)
      · replace h := ite_t c h
        refine g_iload C.c dX10_tow_31 (i := 4) rfl ?_
        refine g_i2l C.c dX10_tow_33 ?_
        refine g_ldc2 C.c (v := (10 : Int64)) aw_1007 dX10_tow_34 ?_
        refine g_ldc2 C.c (v := (18 : Int64)) aw_1042 dX10_tow_37 ?_
        obtain ⟨p9, e10, h⟩ := Option.bind_eq_some_iff.mp h
        refine kc_10_102 C dX10_tow_40 e10 (Nat.le_of_ble_eq_true rfl) rfl (Nat.le_of_ble_eq_true rfl) ?_
        refine g_if_eq C.c (tgt := 58) dX10_tow_43 (by decide) (fun c => ?_) (fun c => ?_)
        · replace h := ite_t c h
          refine g_ldc C.c (v := (-100102 : Int32)) aw_1088 dX10_tow_58 ?_
          obtain rfl := Option.some.inj h
          exact g_iret C hQ dX10_tow_60 rfl ⟨rfl, rfl⟩
        · replace h := ite_f c h
          exact g_mask [true, true, true, true, true] rfl (bX10_tow_b46 C hQ h)
  · replace h := ite_t c h
    refine g_ldc C.c (v := (-100101 : Int32)) aw_1037 dX10_tow_8 ?_
    obtain rfl := Option.some.inj h
    exact g_iret C hQ dX10_tow_10 rfl ⟨rfl, rfl⟩
def fX10_tow (a0 : Int32) (a1 : Int32) (a2 : Int32) (a3 : Int32) (σ : Sg) : Option (Int32 × Sg) := fX10_tow_b0 a0 a1 a2 a3 σ
theorem ct_X10_tow {a0 : Int32} {a1 : Int32} {a2 : Int32} {a3 : Int32} {σ : Sg} {p : Int32 × Sg} (h : fX10_tow a0 a1 a2 a3 σ = some p) : Ct layM yX10_tow cX10_tow 5 (some .int) 8 (fun ad => [.ref (ad 0), .int a0, .int a1, .int a2, .int a3]) σ (okI p) :=
 ct_of (L0 := fun ad => [some (.ref (ad 0)), some (.int a0), some (.int a1), some (.int a2), some (.int a3)]) (by decide) (fun _ => Nat.le_of_ble_eq_true rfl) (fun _ => rfl) (fun K C hQ => g_mask [true, true, true, true, true] rfl (bX10_tow_b0 C hQ h))
-- X10_waysOf
theorem dX10_waysOf_0 : decode cX10_waysOf 0 = .ok (.aload_n 0, 1) := by decide +kernel
theorem dX10_waysOf_1 : decode cX10_waysOf 1 = .ok (.iload_n 1, 1) := by decide +kernel
theorem dX10_waysOf_2 : decode cX10_waysOf 2 = .ok (.aload_n 0, 1) := by decide +kernel
theorem dX10_waysOf_3 : decode cX10_waysOf 3 = .ok (.iload_n 1, 1) := by decide +kernel
theorem dX10_waysOf_4 : decode cX10_waysOf 4 = .ok (.invokevirtual 235, 3) := by decide +kernel
theorem dX10_waysOf_7 : decode cX10_waysOf 7 = .ok (.iconst 0, 1) := by decide +kernel
theorem dX10_waysOf_8 : decode cX10_waysOf 8 = .ok (.iconst 0, 1) := by decide +kernel
theorem dX10_waysOf_9 : decode cX10_waysOf 9 = .ok (.invokevirtual 238, 3) := by decide +kernel
theorem dX10_waysOf_12 : decode cX10_waysOf 12 = .ok (.aload_n 0, 1) := by decide +kernel
theorem dX10_waysOf_13 : decode cX10_waysOf 13 = .ok (.getfield 206, 3) := by decide +kernel
theorem dX10_waysOf_16 : decode cX10_waysOf 16 = .ok (.ireturn, 1) := by decide +kernel
theorem cw_X10_waysOf : Cw yX10_waysOf cX10_waysOf 2 (some .int) 1 := ⟨aw_1096, aw_56, ⟨by decide, by decide⟩, by decide +kernel, by decide⟩
def fX10_waysOf_b0 (x1 : Int32) (σ : Sg) : Option (Int32 × Sg) :=
  Option.bind (fX10_ownSize x1 σ) fun p1 => (Option.bind (fX10_layWays x1 p1.1 (0 : Int32) (0 : Int32) p1.2) fun p3 => (some ((rI p3 0 37), p3)))
set_option maxRecDepth 4000 in
theorem bX10_waysOf_b0 {K : KT} {x1 : Int32} {σ : Sg} {o : Int32 × Sg} (C : Cx K layM cX10_waysOf RX10 2 (7) (some .int))  (hQ : Rk K layM (okI o)) (h : fX10_waysOf_b0 x1 σ = some o) : G K 0 [some (.ref (kad K 0)), some (.int x1)] [] (Wd K layM σ) := by
  unfold fX10_waysOf_b0 at h
  refine g_aload_n C.c dX10_waysOf_0 rfl (i := 0) rfl ?_
  refine g_iload_n C.c dX10_waysOf_1 rfl (i := 1) rfl ?_
  refine g_aload_n C.c dX10_waysOf_2 rfl (i := 0) rfl ?_
  refine g_iload_n C.c dX10_waysOf_3 rfl (i := 1) rfl ?_
  obtain ⟨p1, e2, h⟩ := Option.bind_eq_some_iff.mp h
  refine kc_10_235 C dX10_waysOf_4 e2 (Nat.le_of_ble_eq_true rfl) rfl (Nat.le_of_ble_eq_true rfl) ?_
  refine g_iconst C.c dX10_waysOf_7 (v := (0 : Int32)) (by decide) ?_
  refine g_iconst C.c dX10_waysOf_8 (v := (0 : Int32)) (by decide) ?_
  obtain ⟨p3, e4, h⟩ := Option.bind_eq_some_iff.mp h
  refine kc_10_238 C dX10_waysOf_9 e4 (Nat.le_of_ble_eq_true rfl) rfl (Nat.le_of_ble_eq_true rfl) ?_
  refine g_aload_n C.c dX10_waysOf_12 rfl (i := 0) rfl ?_
  refine gf_10_206 C dX10_waysOf_13 ?_
  obtain rfl := Option.some.inj h
  exact g_iret C hQ dX10_waysOf_16 rfl ⟨rfl, rfl⟩
def fX10_waysOf (a0 : Int32) (σ : Sg) : Option (Int32 × Sg) := fX10_waysOf_b0 a0 σ
theorem ct_X10_waysOf {a0 : Int32} {σ : Sg} {p : Int32 × Sg} (h : fX10_waysOf a0 σ = some p) : Ct layM yX10_waysOf cX10_waysOf 2 (some .int) 7 (fun ad => [.ref (ad 0), .int a0]) σ (okI p) :=
 ct_of (L0 := fun ad => [some (.ref (ad 0)), some (.int a0)]) (by decide) (fun _ => Nat.le_of_ble_eq_true rfl) (fun _ => rfl) (fun K C hQ => g_mask [true, true] rfl (bX10_waysOf_b0 C hQ h))
-- X10_ways
theorem dX10_ways_0 : decode cX10_ways 0 = .ok (.aload_n 0, 1) := by decide +kernel
theorem dX10_ways_1 : decode cX10_ways 1 = .ok (.iload_n 1, 1) := by decide +kernel
theorem dX10_ways_2 : decode cX10_ways 2 = .ok (.invokevirtual 159, 3) := by decide +kernel
theorem dX10_ways_5 : decode cX10_ways 5 = .ok (.ifCond .eq 11, 3) := by decide +kernel
theorem dX10_ways_8 : decode cX10_ways 8 = .ok (.aload_n 0, 1) := by decide +kernel
theorem dX10_ways_9 : decode cX10_ways 9 = .ok (.iload_n 1, 1) := by decide +kernel
theorem dX10_ways_10 : decode cX10_ways 10 = .ok (.invokevirtual 255, 3) := by decide +kernel
theorem dX10_ways_13 : decode cX10_ways 13 = .ok (.goto 5, 3) := by decide +kernel
theorem dX10_ways_16 : decode cX10_ways 16 = .ok (.bipush (-101), 2) := by decide +kernel
theorem dX10_ways_18 : decode cX10_ways 18 = .ok (.ireturn, 1) := by decide +kernel
theorem cw_X10_ways : Cw yX10_ways cX10_ways 2 (some .int) 1 := ⟨aw_1092, aw_56, ⟨by decide, by decide⟩, by decide +kernel, by decide⟩
theorem kc_10_255 {K : KT} {cc : ByteArray} {nL d pc : Nat} {ret : Option FieldType} {L : List (Option Value)} {st : List Value} {σ : Sg} (C : Cx K layM cc RX10 nL d ret)  {a0 : Int32}  {p : Int32 × Sg} (hd : decode cc pc = .ok (.invokevirtual 255, 3)) (e : fX10_waysOf a0 σ = some p) (hdd : 7 + 1 ≤ d) (hLn : L.length = nL) (hr : (st.map fun v => v.category).sum ≤ 8) (k : G K (pc + 3) L (.int p.1 :: st) (Wd K layM p.2)) : G K pc L (.int a0 :: .ref (kad K 0) :: st) (Wd K layM σ) :=
  g_callV C (As := [.int a0]) (rest := st) (o := 0) (ci := 10) hd (ct_X10_waysOf e) cw_X10_waysOf (Or.inl aw_1093) aw_1095 aw_38 rfl rfl rfl hdd hLn rfl rfl hr (fun v τ q => by obtain ⟨rfl, rfl⟩ := q; exact k)
def fX10_ways_b0 (x1 : Int32) (σ : Sg) : Option (Int32 × Sg) :=
  Option.bind (fX10_isBerg x1 σ) fun p1 => (if p1.1 = 0 then (some ((-101 : Int32), p1.2)) else (Option.bind (fX10_waysOf x1 p1.2) fun p3 => (some (p3.1, p3.2))))
set_option maxRecDepth 4000 in
theorem bX10_ways_b0 {K : KT} {x1 : Int32} {σ : Sg} {o : Int32 × Sg} (C : Cx K layM cX10_ways RX10 2 (8) (some .int))  (hQ : Rk K layM (okI o)) (h : fX10_ways_b0 x1 σ = some o) : G K 0 [some (.ref (kad K 0)), some (.int x1)] [] (Wd K layM σ) := by
  unfold fX10_ways_b0 at h
  refine g_aload_n C.c dX10_ways_0 rfl (i := 0) rfl ?_
  refine g_iload_n C.c dX10_ways_1 rfl (i := 1) rfl ?_
  obtain ⟨p1, e2, h⟩ := Option.bind_eq_some_iff.mp h
  refine kc_10_159 C dX10_ways_2 e2 (Nat.le_of_ble_eq_true rfl) rfl (Nat.le_of_ble_eq_true rfl) ?_
  refine g_if_eq C.c (tgt := 16) dX10_ways_5 (by decide) (fun c => ?_) (fun c => ?_)
  · replace h := ite_t c h
    refine g_bipush C.c dX10_ways_16 (v := (-101 : Int32)) (by decide) ?_
    obtain rfl := Option.some.inj h
    exact g_iret C hQ dX10_ways_18 rfl ⟨rfl, rfl⟩
  · replace h := ite_f c h
    refine g_aload_n C.c dX10_ways_8 rfl (i := 0) rfl ?_
    refine g_iload_n C.c dX10_ways_9 rfl (i := 1) rfl ?_
    obtain ⟨p3, e4, h⟩ := Option.bind_eq_some_iff.mp h
    refine kc_10_255 C dX10_ways_10 e4 (Nat.le_of_ble_eq_true rfl) rfl (Nat.le_of_ble_eq_true rfl) ?_
    refine g_goto C.c (tgt := 18) dX10_ways_13 (by decide) ?_
    obtain rfl := Option.some.inj h
    exact g_iret C hQ dX10_ways_18 rfl ⟨rfl, rfl⟩
def fX10_ways (a0 : Int32) (σ : Sg) : Option (Int32 × Sg) := fX10_ways_b0 a0 σ
theorem ct_X10_ways {a0 : Int32} {σ : Sg} {p : Int32 × Sg} (h : fX10_ways a0 σ = some p) : Ct layM yX10_ways cX10_ways 2 (some .int) 8 (fun ad => [.ref (ad 0), .int a0]) σ (okI p) :=
 ct_of (L0 := fun ad => [some (.ref (ad 0)), some (.int a0)]) (by decide) (fun _ => Nat.le_of_ble_eq_true rfl) (fun _ => rfl) (fun K C hQ => g_mask [true, true] rfl (bX10_ways_b0 C hQ h))
-- X10_tellBest
theorem dX10_tellBest_0 : decode cX10_tellBest 0 = .ok (.aload_n 0, 1) := by decide +kernel
theorem dX10_tellBest_1 : decode cX10_tellBest 1 = .ok (.iload_n 1, 1) := by decide +kernel
theorem dX10_tellBest_2 : decode cX10_tellBest 2 = .ok (.invokevirtual 255, 3) := by decide +kernel
theorem dX10_tellBest_5 : decode cX10_tellBest 5 = .ok (.ifCond .ne 6, 3) := by decide +kernel
theorem dX10_tellBest_8 : decode cX10_tellBest 8 = .ok (.ldc 241, 2) := by decide +kernel
theorem dX10_tellBest_10 : decode cX10_tellBest 10 = .ok (.ireturn, 1) := by decide +kernel
theorem dX10_tellBest_11 : decode cX10_tellBest 11 = .ok (.iconst (-1), 1) := by decide +kernel
theorem dX10_tellBest_12 : decode cX10_tellBest 12 = .ok (.istore_n 3, 1) := by decide +kernel
theorem dX10_tellBest_13 : decode cX10_tellBest 13 = .ok (.ldc_w 258, 3) := by decide +kernel
theorem dX10_tellBest_16 : decode cX10_tellBest 16 = .ok (.istore 4, 2) := by decide +kernel
theorem dX10_tellBest_18 : decode cX10_tellBest 18 = .ok (.iconst 0, 1) := by decide +kernel
theorem dX10_tellBest_19 : decode cX10_tellBest 19 = .ok (.istore 5, 2) := by decide +kernel
theorem dX10_tellBest_21 : decode cX10_tellBest 21 = .ok (.iload 5, 2) := by decide +kernel
theorem dX10_tellBest_23 : decode cX10_tellBest 23 = .ok (.bipush 22, 2) := by decide +kernel
theorem dX10_tellBest_25 : decode cX10_tellBest 25 = .ok (.if_icmp .ge 66, 3) := by decide +kernel
theorem dX10_tellBest_28 : decode cX10_tellBest 28 = .ok (.aload_n 0, 1) := by decide +kernel
theorem dX10_tellBest_29 : decode cX10_tellBest 29 = .ok (.iload_n 1, 1) := by decide +kernel
theorem dX10_tellBest_30 : decode cX10_tellBest 30 = .ok (.iconst 1, 1) := by decide +kernel
theorem dX10_tellBest_31 : decode cX10_tellBest 31 = .ok (.iload 5, 2) := by decide +kernel
theorem dX10_tellBest_33 : decode cX10_tellBest 33 = .ok (.iconst 2, 1) := by decide +kernel
theorem dX10_tellBest_34 : decode cX10_tellBest 34 = .ok (.idiv, 1) := by decide +kernel
theorem dX10_tellBest_35 : decode cX10_tellBest 35 = .ok (.iadd, 1) := by decide +kernel
theorem dX10_tellBest_36 : decode cX10_tellBest 36 = .ok (.iload 5, 2) := by decide +kernel
theorem dX10_tellBest_38 : decode cX10_tellBest 38 = .ok (.iconst 2, 1) := by decide +kernel
theorem dX10_tellBest_39 : decode cX10_tellBest 39 = .ok (.irem, 1) := by decide +kernel
theorem dX10_tellBest_40 : decode cX10_tellBest 40 = .ok (.iconst 1, 1) := by decide +kernel
theorem dX10_tellBest_41 : decode cX10_tellBest 41 = .ok (.if_icmp .ne 7, 3) := by decide +kernel
theorem dX10_tellBest_44 : decode cX10_tellBest 44 = .ok (.iconst 1, 1) := by decide +kernel
theorem dX10_tellBest_45 : decode cX10_tellBest 45 = .ok (.goto 4, 3) := by decide +kernel
theorem dX10_tellBest_48 : decode cX10_tellBest 48 = .ok (.iconst 0, 1) := by decide +kernel
theorem dX10_tellBest_49 : decode cX10_tellBest 49 = .ok (.iconst 2, 1) := by decide +kernel
theorem dX10_tellBest_50 : decode cX10_tellBest 50 = .ok (.invokevirtual 250, 3) := by decide +kernel
theorem dX10_tellBest_53 : decode cX10_tellBest 53 = .ok (.istore 6, 2) := by decide +kernel
theorem dX10_tellBest_55 : decode cX10_tellBest 55 = .ok (.iload 6, 2) := by decide +kernel
theorem dX10_tellBest_57 : decode cX10_tellBest 57 = .ok (.iload 4, 2) := by decide +kernel
theorem dX10_tellBest_59 : decode cX10_tellBest 59 = .ok (.if_icmp .le 8, 3) := by decide +kernel
theorem dX10_tellBest_62 : decode cX10_tellBest 62 = .ok (.iload 5, 2) := by decide +kernel
theorem dX10_tellBest_64 : decode cX10_tellBest 64 = .ok (.goto 4, 3) := by decide +kernel
theorem dX10_tellBest_67 : decode cX10_tellBest 67 = .ok (.iload_n 3, 1) := by decide +kernel
theorem dX10_tellBest_68 : decode cX10_tellBest 68 = .ok (.istore_n 3, 1) := by decide +kernel
theorem dX10_tellBest_69 : decode cX10_tellBest 69 = .ok (.iload 6, 2) := by decide +kernel
theorem dX10_tellBest_71 : decode cX10_tellBest 71 = .ok (.iload 4, 2) := by decide +kernel
theorem dX10_tellBest_73 : decode cX10_tellBest 73 = .ok (.if_icmp .le 8, 3) := by decide +kernel
theorem dX10_tellBest_76 : decode cX10_tellBest 76 = .ok (.iload 6, 2) := by decide +kernel
theorem dX10_tellBest_78 : decode cX10_tellBest 78 = .ok (.goto 5, 3) := by decide +kernel
theorem dX10_tellBest_81 : decode cX10_tellBest 81 = .ok (.iload 4, 2) := by decide +kernel
theorem dX10_tellBest_83 : decode cX10_tellBest 83 = .ok (.istore 4, 2) := by decide +kernel
theorem dX10_tellBest_85 : decode cX10_tellBest 85 = .ok (.iinc 5 1, 3) := by decide +kernel
theorem dX10_tellBest_88 : decode cX10_tellBest 88 = .ok (.goto (-67), 3) := by decide +kernel
theorem dX10_tellBest_91 : decode cX10_tellBest 91 = .ok (.iload_n 2, 1) := by decide +kernel
theorem dX10_tellBest_92 : decode cX10_tellBest 92 = .ok (.ifCond .ne 11, 3) := by decide +kernel
theorem dX10_tellBest_95 : decode cX10_tellBest 95 = .ok (.iconst 1, 1) := by decide +kernel
theorem dX10_tellBest_96 : decode cX10_tellBest 96 = .ok (.iload_n 3, 1) := by decide +kernel
theorem dX10_tellBest_97 : decode cX10_tellBest 97 = .ok (.iconst 2, 1) := by decide +kernel
theorem dX10_tellBest_98 : decode cX10_tellBest 98 = .ok (.idiv, 1) := by decide +kernel
theorem dX10_tellBest_99 : decode cX10_tellBest 99 = .ok (.iadd, 1) := by decide +kernel
theorem dX10_tellBest_100 : decode cX10_tellBest 100 = .ok (.goto 16, 3) := by decide +kernel
theorem dX10_tellBest_103 : decode cX10_tellBest 103 = .ok (.iload_n 2, 1) := by decide +kernel
theorem dX10_tellBest_104 : decode cX10_tellBest 104 = .ok (.iconst 1, 1) := by decide +kernel
theorem dX10_tellBest_105 : decode cX10_tellBest 105 = .ok (.if_icmp .ne 9, 3) := by decide +kernel
theorem dX10_tellBest_108 : decode cX10_tellBest 108 = .ok (.iload_n 3, 1) := by decide +kernel
theorem dX10_tellBest_109 : decode cX10_tellBest 109 = .ok (.iconst 2, 1) := by decide +kernel
theorem dX10_tellBest_110 : decode cX10_tellBest 110 = .ok (.irem, 1) := by decide +kernel
theorem dX10_tellBest_111 : decode cX10_tellBest 111 = .ok (.goto 5, 3) := by decide +kernel
theorem dX10_tellBest_114 : decode cX10_tellBest 114 = .ok (.iload 4, 2) := by decide +kernel
theorem dX10_tellBest_116 : decode cX10_tellBest 116 = .ok (.ireturn, 1) := by decide +kernel
theorem cw_X10_tellBest : Cw yX10_tellBest cX10_tellBest 7 (some .int) 2 := ⟨aw_1104, aw_56, ⟨by decide, by decide⟩, by decide +kernel, by decide⟩
def fX10_tellBest_b83 (x1 : Int32) (x2 : Int32) (x3 : Int32) (x5 : Int32) (y0 : Int32) (σ : Sg) : Option ((Int32 × Int32 × Int32 × Sg) ⊕ ((Int32 × Int32 × Sg))) :=
  some (.inl (x3, y0, (x5 + (1 : Int32)), σ))
def fX10_tellBest_b68 (x1 : Int32) (x2 : Int32) (x4 : Int32) (x5 : Int32) (x6 : Int32) (y0 : Int32) (σ : Sg) : Option ((Int32 × Int32 × Int32 × Sg) ⊕ ((Int32 × Int32 × Sg))) :=
  if x6 ≤ x4 then (fX10_tellBest_b83 x1 x2 y0 x5 x4 σ) else (fX10_tellBest_b83 x1 x2 y0 x5 x6 σ)
def fX10_tellBest_b49 (x1 : Int32) (x2 : Int32) (x3 : Int32) (x4 : Int32) (x5 : Int32) (y0 : Int32) (y1 : Int32) (y2 : Int32) (σ : Sg) : Option ((Int32 × Int32 × Int32 × Sg) ⊕ ((Int32 × Int32 × Sg))) :=
  Option.bind (fX10_tellTow y2 y1 y0 (2 : Int32) σ) fun p3 => (if p3.1 ≤ x4 then (fX10_tellBest_b68 x1 x2 x4 x5 p3.1 x3 p3.2) else (fX10_tellBest_b68 x1 x2 x4 x5 p3.1 x5 p3.2))
def fX10_tellBest_b21 (x1 : Int32) (x2 : Int32) (x3 : Int32) (x4 : Int32) (x5 : Int32) (σ : Sg) : Option ((Int32 × Int32 × Int32 × Sg) ⊕ ((Int32 × Int32 × Sg))) :=
  if (22 : Int32) ≤ x5 then (some (.inr (x3, x4, σ))) else (if (x5 - x5 / (2 : Int32) * (2 : Int32)) = (1 : Int32) then (fX10_tellBest_b49 x1 x2 x3 x4 x5 (1 : Int32) ((1 : Int32) + (x5 / (2 : Int32))) x1 σ) else (fX10_tellBest_b49 x1 x2 x3 x4 x5 (0 : Int32) ((1 : Int32) + (x5 / (2 : Int32))) x1 σ))
def fX10_tellBest_b0 (x1 : Int32) (x2 : Int32) (σ : Sg) : Option (Int32 × Sg) :=
  Option.bind (fX10_waysOf x1 σ) fun p1 => (if p1.1 = 0 then (some ((-100001 : Int32), p1.2)) else (Option.bind (lp (fun s => fX10_tellBest_b21 x1 x2 s.1 s.2.1 s.2.2.1 s.2.2.2) FU ((-1 : Int32), (-100000000 : Int32), (0 : Int32), p1.2)) fun t5 => if x2 = 0 then (some (((1 : Int32) + (t5.1 / (2 : Int32))), t5.2.2)) else (if x2 = (1 : Int32) then (some ((t5.1 - t5.1 / (2 : Int32) * (2 : Int32)), t5.2.2)) else (some (t5.2.1, t5.2.2)))))
set_option maxRecDepth 4000 in
theorem bX10_tellBest_b83 {K : KT} {x1 : Int32} {x2 : Int32} {x3 : Int32} {x5 : Int32} {y0 : Int32} {σ : Sg} {o : (Int32 × Int32 × Int32 × Sg) ⊕ ((Int32 × Int32 × Sg))} (C : Cx K layM cX10_tellBest RX10 7 (8) (some .int))  (hI : ∀ s' : Int32 × Int32 × Int32 × Sg, o = .inl s' → G K 21 [some (.ref (kad K 0)), some (.int x1), some (.int x2), some (.int s'.1), some (.int s'.2.1), some (.int s'.2.2.1), none] [] (Wd K layM s'.2.2.2)) (hE0 : ∀ t : Int32 × Int32 × Sg, o = .inr t → G K 91 [none, none, some (.int x2), some (.int t.1), some (.int t.2.1), none, none] [] (Wd K layM t.2.2)) (h : fX10_tellBest_b83 x1 x2 x3 x5 y0 σ = some o) : G K 83 [some (.ref (kad K 0)), some (.int x1), some (.int x2), some (.int x3), none, some (.int x5), none] [.int y0] (Wd K layM σ) := by
  unfold fX10_tellBest_b83 at h
  refine g_istore C.c (i := 4) (L' := [some (.ref (kad K 0)), some (.int x1), some (.int x2), some (.int x3), some (.int y0), some (.int x5), none]) dX10_tellBest_83 (Nat.le_of_ble_eq_true rfl) rfl ?_
  refine g_iinc C.c (i := 5) (y := (1 : Int32)) (L' := [some (.ref (kad K 0)), some (.int x1), some (.int x2), some (.int x3), some (.int y0), some (.int (x5 + (1 : Int32))), none]) dX10_tellBest_85 rfl (by decide) (Nat.le_of_ble_eq_true rfl) rfl ?_
  refine g_goto C.c (tgt := 21) dX10_tellBest_88 (by decide) ?_
  have g9 := hI _ (Option.some.inj h).symm
  exact g_mask [true, true, true, true, true, true, false] rfl g9
set_option maxRecDepth 4000 in
theorem bX10_tellBest_b68 {K : KT} {x1 : Int32} {x2 : Int32} {x4 : Int32} {x5 : Int32} {x6 : Int32} {y0 : Int32} {σ : Sg} {o : (Int32 × Int32 × Int32 × Sg) ⊕ ((Int32 × Int32 × Sg))} (C : Cx K layM cX10_tellBest RX10 7 (8) (some .int))  (hI : ∀ s' : Int32 × Int32 × Int32 × Sg, o = .inl s' → G K 21 [some (.ref (kad K 0)), some (.int x1), some (.int x2), some (.int s'.1), some (.int s'.2.1), some (.int s'.2.2.1), none] [] (Wd K layM s'.2.2.2)) (hE0 : ∀ t : Int32 × Int32 × Sg, o = .inr t → G K 91 [none, none, some (.int x2), some (.int t.1), some (.int t.2.1), none, none] [] (Wd K layM t.2.2)) (h : fX10_tellBest_b68 x1 x2 x4 x5 x6 y0 σ = some o) : G K 68 [some (.ref (kad K 0)), some (.int x1), some (.int x2), none, some (.int x4), some (.int x5), some (.int x6)] [.int y0] (Wd K layM σ) := by
  unfold fX10_tellBest_b68 at h
  refine g_istore_n C.c (i := 3) (L' := [some (.ref (kad K 0)), some (.int x1), some (.int x2), some (.int y0), some (.int x4), some (.int x5), some (.int x6)]) dX10_tellBest_68 rfl (Nat.le_of_ble_eq_true rfl) rfl ?_
  refine g_iload C.c dX10_tellBest_69 (i := 6) rfl ?_
  refine g_iload C.c dX10_tellBest_71 (i := 4) rfl ?_
  refine g_icmp_le C.c (tgt := 81) dX10_tellBest_73 (by decide) (fun c => ?_) (fun c => ?_)
  · replace h := ite_t c h
    refine g_iload C.c dX10_tellBest_81 (i := 4) rfl ?_
    exact g_mask [true, true, true, true, false, true, false] rfl (bX10_tellBest_b83 C hI hE0 h)
  · replace h := ite_f c h
    refine g_iload C.c dX10_tellBest_76 (i := 6) rfl ?_
    refine g_goto C.c (tgt := 83) dX10_tellBest_78 (by decide) ?_
    exact g_mask [true, true, true, true, false, true, false] rfl (bX10_tellBest_b83 C hI hE0 h)
set_option maxRecDepth 4000 in
theorem bX10_tellBest_b49 {K : KT} {x1 : Int32} {x2 : Int32} {x3 : Int32} {x4 : Int32} {x5 : Int32} {y0 : Int32} {y1 : Int32} {y2 : Int32} {σ : Sg} {o : (Int32 × Int32 × Int32 × Sg) ⊕ ((Int32 × Int32 × Sg))} (C : Cx K layM cX10_tellBest RX10 7 (8) (some .int))  (hI : ∀ s' : Int32 × Int32 × Int32 × Sg, o = .inl s' → G K 21 [some (.ref (kad K 0)), some (.int x1), some (.int x2), some (.int s'.1), some (.int s'.2.1), some (.int s'.2.2.1), none] [] (Wd K layM s'.2.2.2)) (hE0 : ∀ t : Int32 × Int32 × Sg, o = .inr t → G K 91 [none, none, some (.int x2), some (.int t.1), some (.int t.2.1), none, none] [] (Wd K layM t.2.2)) (h : fX10_tellBest_b49 x1 x2 x3 x4 x5 y0 y1 y2 σ = some o) : G K 49 [some (.ref (kad K 0)), some (.int x1), some (.int x2), some (.int x3), some (.int x4), some (.int x5), none] [.int y0, .int y1, .int y2, .ref (kad K 0)] (Wd K layM σ) := by
  unfold fX10_tellBest_b49 at h
  refine g_iconst C.c dX10_tellBest_49 (v := (2 : Int32)) (by decide) ?_
  obtain ⟨p3, e4, h⟩ := Option.bind_eq_some_iff.mp h
  refine kc_10_250 C dX10_tellBest_50 e4 (Nat.le_of_ble_eq_true rfl) rfl (Nat.le_of_ble_eq_true rfl) ?_
  refine g_istore C.c (i := 6) (L' := [some (.ref (kad K 0)), some (.int x1), some (.int x2), some (.int x3), some (.int x4), some (.int x5), some (.int p3.1)]) dX10_tellBest_53 (Nat.le_of_ble_eq_true rfl) rfl ?_
  refine g_iload C.c dX10_tellBest_55 (i := 6) rfl ?_
  refine g_iload C.c dX10_tellBest_57 (i := 4) rfl ?_
  refine g_icmp_le C.c (tgt := 67) dX10_tellBest_59 (by decide) (fun c => ?_) (fun c => ?_)
  · replace h := ite_t c h
    refine g_iload_n C.c dX10_tellBest_67 rfl (i := 3) rfl ?_
    exact g_mask [true, true, true, false, true, true, true] rfl (bX10_tellBest_b68 C hI hE0 h)
  · replace h := ite_f c h
    refine g_iload C.c dX10_tellBest_62 (i := 5) rfl ?_
    refine g_goto C.c (tgt := 68) dX10_tellBest_64 (by decide) ?_
    exact g_mask [true, true, true, false, true, true, true] rfl (bX10_tellBest_b68 C hI hE0 h)
set_option maxRecDepth 4000 in
theorem bX10_tellBest_b21 {K : KT} {x1 : Int32} {x2 : Int32} {x3 : Int32} {x4 : Int32} {x5 : Int32} {σ : Sg} {o : (Int32 × Int32 × Int32 × Sg) ⊕ ((Int32 × Int32 × Sg))} (C : Cx K layM cX10_tellBest RX10 7 (8) (some .int))  (hI : ∀ s' : Int32 × Int32 × Int32 × Sg, o = .inl s' → G K 21 [some (.ref (kad K 0)), some (.int x1), some (.int x2), some (.int s'.1), some (.int s'.2.1), some (.int s'.2.2.1), none] [] (Wd K layM s'.2.2.2)) (hE0 : ∀ t : Int32 × Int32 × Sg, o = .inr t → G K 91 [none, none, some (.int x2), some (.int t.1), some (.int t.2.1), none, none] [] (Wd K layM t.2.2)) (h : fX10_tellBest_b21 x1 x2 x3 x4 x5 σ = some o) : G K 21 [some (.ref (kad K 0)), some (.int x1), some (.int x2), some (.int x3), some (.int x4), some (.int x5), none] [] (Wd K layM σ) := by
  unfold fX10_tellBest_b21 at h
  refine g_iload C.c dX10_tellBest_21 (i := 5) rfl ?_
  refine g_bipush C.c dX10_tellBest_23 (v := (22 : Int32)) (by decide) ?_
  refine g_icmp_ge C.c (tgt := 91) dX10_tellBest_25 (by decide) (fun c => ?_) (fun c => ?_)
  · replace h := ite_t c h
    have g9 := hE0 _ (Option.some.inj h).symm
    exact g_mask [false, false, true, true, true, false, false] rfl g9
  · replace h := ite_f c h
    refine g_aload_n C.c dX10_tellBest_28 rfl (i := 0) rfl ?_
    refine g_iload_n C.c dX10_tellBest_29 rfl (i := 1) rfl ?_
    refine g_iconst C.c dX10_tellBest_30 (v := (1 : Int32)) (by decide) ?_
    refine g_iload C.c dX10_tellBest_31 (i := 5) rfl ?_
    refine g_iconst C.c dX10_tellBest_33 (v := (2 : Int32)) (by decide) ?_
    refine g_idiv C.c dX10_tellBest_34 (by decide) ?_
    refine g_iadd C.c dX10_tellBest_35 ?_
    refine g_iload C.c dX10_tellBest_36 (i := 5) rfl ?_
    refine g_iconst C.c dX10_tellBest_38 (v := (2 : Int32)) (by decide) ?_
    refine g_irem C.c dX10_tellBest_39 (by decide) ?_
    refine g_iconst C.c dX10_tellBest_40 (v := (1 : Int32)) (by decide) ?_
    refine g_icmp_ne C.c (tgt := 48) dX10_tellBest_41 (by decide) (fun c => ?_) (fun c => ?_)
    · replace h := ite_f c h
      refine g_iconst C.c dX10_tellBest_48 (v := (0 : Int32)) (by decide) ?_
      exact g_mask [true, true, true, true, true, true, false] rfl (bX10_tellBest_b49 C hI hE0 h)
    · replace h := ite_t c h
      refine g_iconst C.c dX10_tellBest_44 (v := (1 : Int32)) (by decide) ?_
      refine g_goto C.c (tgt := 49) dX10_tellBest_45 (by decide) ?_
      exact g_mask [true, true, true, true, true, true, false] rfl (bX10_tellBest_b49 C hI hE0 h)
set_option maxRecDepth 4000 in
theorem bX10_tellBest_b0 {K : KT} {x1 : Int32} {x2 : Int32} {σ : Sg} {o : Int32 × Sg} (C : Cx K layM cX10_tellBest RX10 7 (8) (some .int))  (hQ : Rk K layM (okI o)) (h : fX10_tellBest_b0 x1 x2 σ = some o) : G K 0 [some (.ref (kad K 0)), some (.int x1), some (.int x2), none, none, none, none] [] (Wd K layM σ) := by
  unfold fX10_tellBest_b0 at h
  refine g_aload_n C.c dX10_tellBest_0 rfl (i := 0) rfl ?_
  refine g_iload_n C.c dX10_tellBest_1 rfl (i := 1) rfl ?_
  obtain ⟨p1, e2, h⟩ := Option.bind_eq_some_iff.mp h
  refine kc_10_255 C dX10_tellBest_2 e2 (Nat.le_of_ble_eq_true rfl) rfl (Nat.le_of_ble_eq_true rfl) ?_
  refine g_if_ne C.c (tgt := 11) dX10_tellBest_5 (by decide) (fun c => ?_) (fun c => ?_)
  · replace h := ite_f c h
    refine g_iconst C.c dX10_tellBest_11 (v := (-1 : Int32)) (by decide) ?_
    refine g_istore_n C.c (i := 3) (L' := [some (.ref (kad K 0)), some (.int x1), some (.int x2), some (.int (-1 : Int32)), none, none, none]) dX10_tellBest_12 rfl (Nat.le_of_ble_eq_true rfl) rfl ?_
    refine g_ldcw C.c (v := (-100000000 : Int32)) aw_1105 dX10_tellBest_13 ?_
    refine g_istore C.c (i := 4) (L' := [some (.ref (kad K 0)), some (.int x1), some (.int x2), some (.int (-1 : Int32)), some (.int (-100000000 : Int32)), none, none]) dX10_tellBest_16 (Nat.le_of_ble_eq_true rfl) rfl ?_
    refine g_iconst C.c dX10_tellBest_18 (v := (0 : Int32)) (by decide) ?_
    refine g_istore C.c (i := 5) (L' := [some (.ref (kad K 0)), some (.int x1), some (.int x2), some (.int (-1 : Int32)), some (.int (-100000000 : Int32)), some (.int (0 : Int32)), none]) dX10_tellBest_19 (Nat.le_of_ble_eq_true rfl) rfl ?_
    refine g_mask [true, true, true, true, true, true, false] rfl ?_
    refine lp_bind (Gh := fun s => G K 21 [some (.ref (kad K 0)), some (.int x1), some (.int x2), some (.int s.1), some (.int s.2.1), some (.int s.2.2.1), none] [] (Wd K layM s.2.2.2)) h (fun s o2 hf gI gE => ?_)
    refine bX10_tellBest_b21 C gI (fun t5 e => ?_) hf
    · have h := gE _ e
      refine g_iload_n C.c dX10_tellBest_91 rfl (i := 2) rfl ?_
      refine g_if_ne C.c (tgt := 103) dX10_tellBest_92 (by decide) (fun c => ?_) (fun c => ?_)
      · replace h := ite_f c h
        refine g_iload_n C.c dX10_tellBest_103 rfl (i := 2) rfl ?_
        refine g_iconst C.c dX10_tellBest_104 (v := (1 : Int32)) (by decide) ?_
        refine g_icmp_ne C.c (tgt := 114) dX10_tellBest_105 (by decide) (fun c => ?_) (fun c => ?_)
        · replace h := ite_f c h
          refine g_iload C.c dX10_tellBest_114 (i := 4) rfl ?_
          obtain rfl := Option.some.inj h
          exact g_iret C hQ dX10_tellBest_116 rfl ⟨rfl, rfl⟩
        · replace h := ite_t c h
          refine g_iload_n C.c dX10_tellBest_108 rfl (i := 3) rfl ?_
          refine g_iconst C.c dX10_tellBest_109 (v := (2 : Int32)) (by decide) ?_
          refine g_irem C.c dX10_tellBest_110 (by decide) ?_
          refine g_goto C.c (tgt := 116) dX10_tellBest_111 (by decide) ?_
          obtain rfl := Option.some.inj h
          exact g_iret C hQ dX10_tellBest_116 rfl ⟨rfl, rfl⟩
      · replace h := ite_t c h
        refine g_iconst C.c dX10_tellBest_95 (v := (1 : Int32)) (by decide) ?_
        refine g_iload_n C.c dX10_tellBest_96 rfl (i := 3) rfl ?_
        refine g_iconst C.c dX10_tellBest_97 (v := (2 : Int32)) (by decide) ?_
        refine g_idiv C.c dX10_tellBest_98 (by decide) ?_
        refine g_iadd C.c dX10_tellBest_99 ?_
        refine g_goto C.c (tgt := 116) dX10_tellBest_100 (by decide) ?_
        obtain rfl := Option.some.inj h
        exact g_iret C hQ dX10_tellBest_116 rfl ⟨rfl, rfl⟩
  · replace h := ite_t c h
    refine g_ldc C.c (v := (-100001 : Int32)) aw_1087 dX10_tellBest_8 ?_
    obtain rfl := Option.some.inj h
    exact g_iret C hQ dX10_tellBest_10 rfl ⟨rfl, rfl⟩
def fX10_tellBest (a0 : Int32) (a1 : Int32) (σ : Sg) : Option (Int32 × Sg) := fX10_tellBest_b0 a0 a1 σ
theorem ct_X10_tellBest {a0 : Int32} {a1 : Int32} {σ : Sg} {p : Int32 × Sg} (h : fX10_tellBest a0 a1 σ = some p) : Ct layM yX10_tellBest cX10_tellBest 7 (some .int) 8 (fun ad => [.ref (ad 0), .int a0, .int a1]) σ (okI p) :=
 ct_of (L0 := fun ad => [some (.ref (ad 0)), some (.int a0), some (.int a1), none, none, none, none]) (by decide) (fun _ => Nat.le_of_ble_eq_true rfl) (fun _ => rfl) (fun K C hQ => g_mask [true, true, true, false, false, false, false] rfl (bX10_tellBest_b0 C hQ h))
-- X10_best
theorem dX10_best_0 : decode cX10_best 0 = .ok (.aload_n 0, 1) := by decide +kernel
theorem dX10_best_1 : decode cX10_best 1 = .ok (.iload_n 1, 1) := by decide +kernel
theorem dX10_best_2 : decode cX10_best 2 = .ok (.invokevirtual 159, 3) := by decide +kernel
theorem dX10_best_5 : decode cX10_best 5 = .ok (.ifCond .ne 6, 3) := by decide +kernel
theorem dX10_best_8 : decode cX10_best 8 = .ok (.ldc 244, 2) := by decide +kernel
theorem dX10_best_10 : decode cX10_best 10 = .ok (.ireturn, 1) := by decide +kernel
theorem dX10_best_11 : decode cX10_best 11 = .ok (.iload_n 2, 1) := by decide +kernel
theorem dX10_best_12 : decode cX10_best 12 = .ok (.i2l, 1) := by decide +kernel
theorem dX10_best_13 : decode cX10_best 13 = .ok (.lconst 0, 1) := by decide +kernel
theorem dX10_best_14 : decode cX10_best 14 = .ok (.ldc2_w 155, 3) := by decide +kernel
theorem dX10_best_17 : decode cX10_best 17 = .ok (.invokestatic 102, 3) := by decide +kernel
theorem dX10_best_20 : decode cX10_best 20 = .ok (.ifCond .eq 12, 3) := by decide +kernel
theorem dX10_best_23 : decode cX10_best 23 = .ok (.aload_n 0, 1) := by decide +kernel
theorem dX10_best_24 : decode cX10_best 24 = .ok (.iload_n 1, 1) := by decide +kernel
theorem dX10_best_25 : decode cX10_best 25 = .ok (.iload_n 2, 1) := by decide +kernel
theorem dX10_best_26 : decode cX10_best 26 = .ok (.invokevirtual 259, 3) := by decide +kernel
theorem dX10_best_29 : decode cX10_best 29 = .ok (.goto 5, 3) := by decide +kernel
theorem dX10_best_32 : decode cX10_best 32 = .ok (.ldc 254, 2) := by decide +kernel
theorem dX10_best_34 : decode cX10_best 34 = .ok (.ireturn, 1) := by decide +kernel
theorem cw_X10_best : Cw yX10_best cX10_best 3 (some .int) 2 := ⟨aw_1100, aw_56, ⟨by decide, by decide⟩, by decide +kernel, by decide⟩
theorem kc_10_259 {K : KT} {cc : ByteArray} {nL d pc : Nat} {ret : Option FieldType} {L : List (Option Value)} {st : List Value} {σ : Sg} (C : Cx K layM cc RX10 nL d ret)  {a0 : Int32} {a1 : Int32}  {p : Int32 × Sg} (hd : decode cc pc = .ok (.invokevirtual 259, 3)) (e : fX10_tellBest a0 a1 σ = some p) (hdd : 8 + 1 ≤ d) (hLn : L.length = nL) (hr : (st.map fun v => v.category).sum ≤ 8) (k : G K (pc + 3) L (.int p.1 :: st) (Wd K layM p.2)) : G K pc L (.int a1 :: .int a0 :: .ref (kad K 0) :: st) (Wd K layM σ) :=
  g_callV C (As := [.int a0, .int a1]) (rest := st) (o := 0) (ci := 10) hd (ct_X10_tellBest e) cw_X10_tellBest (Or.inl aw_1101) aw_1103 aw_39 rfl rfl rfl hdd hLn rfl rfl hr (fun v τ q => by obtain ⟨rfl, rfl⟩ := q; exact k)
def fX10_best_b0 (x1 : Int32) (x2 : Int32) (σ : Sg) : Option (Int32 × Sg) :=
  Option.bind (fX10_isBerg x1 σ) fun p1 => (if p1.1 = 0 then (some ((-100101 : Int32), p1.2)) else (Option.bind (fX10_in ((x2).toInt64) (0 : Int64) (2 : Int64) p1.2) fun p3 => (if p3.1 = 0 then (some ((-100102 : Int32), p3.2)) else (Option.bind (fX10_tellBest x1 x2 p3.2) fun p5 => (some (p5.1, p5.2))))))
set_option maxRecDepth 4000 in
theorem bX10_best_b0 {K : KT} {x1 : Int32} {x2 : Int32} {σ : Sg} {o : Int32 × Sg} (C : Cx K layM cX10_best RX10 3 (9) (some .int))  (hQ : Rk K layM (okI o)) (h : fX10_best_b0 x1 x2 σ = some o) : G K 0 [some (.ref (kad K 0)), some (.int x1), some (.int x2)] [] (Wd K layM σ) := by
  unfold fX10_best_b0 at h
  refine g_aload_n C.c dX10_best_0 rfl (i := 0) rfl ?_
  refine g_iload_n C.c dX10_best_1 rfl (i := 1) rfl ?_
  obtain ⟨p1, e2, h⟩ := Option.bind_eq_some_iff.mp h
  refine kc_10_159 C dX10_best_2 e2 (Nat.le_of_ble_eq_true rfl) rfl (Nat.le_of_ble_eq_true rfl) ?_
  refine g_if_ne C.c (tgt := 11) dX10_best_5 (by decide) (fun c => ?_) (fun c => ?_)
  · replace h := ite_f c h
    refine g_iload_n C.c dX10_best_11 rfl (i := 2) rfl ?_
    refine g_i2l C.c dX10_best_12 ?_
    refine g_lconst C.c dX10_best_13 (v := (0 : Int64)) (by decide) ?_
    refine g_ldc2 C.c (v := (2 : Int64)) aw_1010 dX10_best_14 ?_
    obtain ⟨p3, e4, h⟩ := Option.bind_eq_some_iff.mp h
    refine kc_10_102 C dX10_best_17 e4 (Nat.le_of_ble_eq_true rfl) rfl (Nat.le_of_ble_eq_true rfl) ?_
    refine g_if_eq C.c (tgt := 32) dX10_best_20 (by decide) (fun c => ?_) (fun c => ?_)
    · replace h := ite_t c h
      refine g_ldc C.c (v := (-100102 : Int32)) aw_1088 dX10_best_32 ?_
      obtain rfl := Option.some.inj h
      exact g_iret C hQ dX10_best_34 rfl ⟨rfl, rfl⟩
    · replace h := ite_f c h
      refine g_aload_n C.c dX10_best_23 rfl (i := 0) rfl ?_
      refine g_iload_n C.c dX10_best_24 rfl (i := 1) rfl ?_
      refine g_iload_n C.c dX10_best_25 rfl (i := 2) rfl ?_
      obtain ⟨p5, e6, h⟩ := Option.bind_eq_some_iff.mp h
      refine kc_10_259 C dX10_best_26 e6 (Nat.le_of_ble_eq_true rfl) rfl (Nat.le_of_ble_eq_true rfl) ?_
      refine g_goto C.c (tgt := 34) dX10_best_29 (by decide) ?_
      obtain rfl := Option.some.inj h
      exact g_iret C hQ dX10_best_34 rfl ⟨rfl, rfl⟩
  · replace h := ite_t c h
    refine g_ldc C.c (v := (-100101 : Int32)) aw_1037 dX10_best_8 ?_
    obtain rfl := Option.some.inj h
    exact g_iret C hQ dX10_best_10 rfl ⟨rfl, rfl⟩
def fX10_best (a0 : Int32) (a1 : Int32) (σ : Sg) : Option (Int32 × Sg) := fX10_best_b0 a0 a1 σ
theorem ct_X10_best {a0 : Int32} {a1 : Int32} {σ : Sg} {p : Int32 × Sg} (h : fX10_best a0 a1 σ = some p) : Ct layM yX10_best cX10_best 3 (some .int) 9 (fun ad => [.ref (ad 0), .int a0, .int a1]) σ (okI p) :=
 ct_of (L0 := fun ad => [some (.ref (ad 0)), some (.int a0), some (.int a1)]) (by decide) (fun _ => Nat.le_of_ble_eq_true rfl) (fun _ => rfl) (fun K C hQ => g_mask [true, true, true] rfl (bX10_best_b0 C hQ h))
-- X10_seasonOf
theorem dX10_seasonOf_0 : decode cX10_seasonOf 0 = .ok (.iconst 0, 1) := by decide +kernel
theorem dX10_seasonOf_1 : decode cX10_seasonOf 1 = .ok (.istore_n 3, 1) := by decide +kernel
theorem dX10_seasonOf_2 : decode cX10_seasonOf 2 = .ok (.iload_n 3, 1) := by decide +kernel
theorem dX10_seasonOf_3 : decode cX10_seasonOf 3 = .ok (.aload_n 0, 1) := by decide +kernel
theorem dX10_seasonOf_4 : decode cX10_seasonOf 4 = .ok (.getfield 125, 3) := by decide +kernel
theorem dX10_seasonOf_7 : decode cX10_seasonOf 7 = .ok (.if_icmp .ge 119, 3) := by decide +kernel
theorem dX10_seasonOf_10 : decode cX10_seasonOf 10 = .ok (.aload_n 0, 1) := by decide +kernel
theorem dX10_seasonOf_11 : decode cX10_seasonOf 11 = .ok (.iload_n 3, 1) := by decide +kernel
theorem dX10_seasonOf_12 : decode cX10_seasonOf 12 = .ok (.invokevirtual 255, 3) := by decide +kernel
theorem dX10_seasonOf_15 : decode cX10_seasonOf 15 = .ok (.ifCond .le 7, 3) := by decide +kernel
theorem dX10_seasonOf_18 : decode cX10_seasonOf 18 = .ok (.iconst 1, 1) := by decide +kernel
theorem dX10_seasonOf_19 : decode cX10_seasonOf 19 = .ok (.goto 4, 3) := by decide +kernel
theorem dX10_seasonOf_22 : decode cX10_seasonOf 22 = .ok (.iconst 0, 1) := by decide +kernel
theorem dX10_seasonOf_23 : decode cX10_seasonOf 23 = .ok (.istore 4, 2) := by decide +kernel
theorem dX10_seasonOf_25 : decode cX10_seasonOf 25 = .ok (.aload_n 0, 1) := by decide +kernel
theorem dX10_seasonOf_26 : decode cX10_seasonOf 26 = .ok (.getfield 40, 3) := by decide +kernel
theorem dX10_seasonOf_29 : decode cX10_seasonOf 29 = .ok (.bipush 12, 2) := by decide +kernel
theorem dX10_seasonOf_31 : decode cX10_seasonOf 31 = .ok (.iload_n 3, 1) := by decide +kernel
theorem dX10_seasonOf_32 : decode cX10_seasonOf 32 = .ok (.imul, 1) := by decide +kernel
theorem dX10_seasonOf_33 : decode cX10_seasonOf 33 = .ok (.iconst 0, 1) := by decide +kernel
theorem dX10_seasonOf_34 : decode cX10_seasonOf 34 = .ok (.iastore, 1) := by decide +kernel
theorem dX10_seasonOf_35 : decode cX10_seasonOf 35 = .ok (.iconst 1, 1) := by decide +kernel
theorem dX10_seasonOf_36 : decode cX10_seasonOf 36 = .ok (.istore 5, 2) := by decide +kernel
theorem dX10_seasonOf_38 : decode cX10_seasonOf 38 = .ok (.iload 5, 2) := by decide +kernel
theorem dX10_seasonOf_40 : decode cX10_seasonOf 40 = .ok (.iload_n 1, 1) := by decide +kernel
theorem dX10_seasonOf_41 : decode cX10_seasonOf 41 = .ok (.if_icmp .gt 79, 3) := by decide +kernel
theorem dX10_seasonOf_44 : decode cX10_seasonOf 44 = .ok (.iload 4, 2) := by decide +kernel
theorem dX10_seasonOf_46 : decode cX10_seasonOf 46 = .ok (.ifCond .eq 15, 3) := by decide +kernel
theorem dX10_seasonOf_49 : decode cX10_seasonOf 49 = .ok (.aload_n 0, 1) := by decide +kernel
theorem dX10_seasonOf_50 : decode cX10_seasonOf 50 = .ok (.iload_n 3, 1) := by decide +kernel
theorem dX10_seasonOf_51 : decode cX10_seasonOf 51 = .ok (.iload 5, 2) := by decide +kernel
theorem dX10_seasonOf_53 : decode cX10_seasonOf 53 = .ok (.iconst 0, 1) := by decide +kernel
theorem dX10_seasonOf_54 : decode cX10_seasonOf 54 = .ok (.iconst 2, 1) := by decide +kernel
theorem dX10_seasonOf_55 : decode cX10_seasonOf 55 = .ok (.invokevirtual 250, 3) := by decide +kernel
theorem dX10_seasonOf_58 : decode cX10_seasonOf 58 = .ok (.goto 6, 3) := by decide +kernel
theorem dX10_seasonOf_61 : decode cX10_seasonOf 61 = .ok (.ldc_w 258, 3) := by decide +kernel
theorem dX10_seasonOf_64 : decode cX10_seasonOf 64 = .ok (.istore 6, 2) := by decide +kernel
theorem dX10_seasonOf_66 : decode cX10_seasonOf 66 = .ok (.iload 4, 2) := by decide +kernel
theorem dX10_seasonOf_68 : decode cX10_seasonOf 68 = .ok (.ifCond .eq 15, 3) := by decide +kernel
theorem dX10_seasonOf_71 : decode cX10_seasonOf 71 = .ok (.aload_n 0, 1) := by decide +kernel
theorem dX10_seasonOf_72 : decode cX10_seasonOf 72 = .ok (.iload_n 3, 1) := by decide +kernel
theorem dX10_seasonOf_73 : decode cX10_seasonOf 73 = .ok (.iload 5, 2) := by decide +kernel
theorem dX10_seasonOf_75 : decode cX10_seasonOf 75 = .ok (.iconst 1, 1) := by decide +kernel
theorem dX10_seasonOf_76 : decode cX10_seasonOf 76 = .ok (.iconst 2, 1) := by decide +kernel
theorem dX10_seasonOf_77 : decode cX10_seasonOf 77 = .ok (.invokevirtual 250, 3) := by decide +kernel
theorem dX10_seasonOf_80 : decode cX10_seasonOf 80 = .ok (.goto 6, 3) := by decide +kernel
theorem dX10_seasonOf_83 : decode cX10_seasonOf 83 = .ok (.ldc_w 258, 3) := by decide +kernel
theorem dX10_seasonOf_86 : decode cX10_seasonOf 86 = .ok (.istore 7, 2) := by decide +kernel
theorem dX10_seasonOf_88 : decode cX10_seasonOf 88 = .ok (.aload_n 0, 1) := by decide +kernel
theorem dX10_seasonOf_89 : decode cX10_seasonOf 89 = .ok (.getfield 40, 3) := by decide +kernel
theorem dX10_seasonOf_92 : decode cX10_seasonOf 92 = .ok (.bipush 12, 2) := by decide +kernel
theorem dX10_seasonOf_94 : decode cX10_seasonOf 94 = .ok (.iload_n 3, 1) := by decide +kernel
theorem dX10_seasonOf_95 : decode cX10_seasonOf 95 = .ok (.imul, 1) := by decide +kernel
theorem dX10_seasonOf_96 : decode cX10_seasonOf 96 = .ok (.iload 5, 2) := by decide +kernel
theorem dX10_seasonOf_98 : decode cX10_seasonOf 98 = .ok (.iadd, 1) := by decide +kernel
theorem dX10_seasonOf_99 : decode cX10_seasonOf 99 = .ok (.iload 6, 2) := by decide +kernel
theorem dX10_seasonOf_101 : decode cX10_seasonOf 101 = .ok (.iload 7, 2) := by decide +kernel
theorem dX10_seasonOf_103 : decode cX10_seasonOf 103 = .ok (.if_icmp .le 8, 3) := by decide +kernel
theorem dX10_seasonOf_106 : decode cX10_seasonOf 106 = .ok (.iload 6, 2) := by decide +kernel
theorem dX10_seasonOf_108 : decode cX10_seasonOf 108 = .ok (.goto 5, 3) := by decide +kernel
theorem dX10_seasonOf_111 : decode cX10_seasonOf 111 = .ok (.iload 7, 2) := by decide +kernel
theorem dX10_seasonOf_113 : decode cX10_seasonOf 113 = .ok (.iastore, 1) := by decide +kernel
theorem dX10_seasonOf_114 : decode cX10_seasonOf 114 = .ok (.iinc 5 1, 3) := by decide +kernel
theorem dX10_seasonOf_117 : decode cX10_seasonOf 117 = .ok (.goto (-79), 3) := by decide +kernel
theorem dX10_seasonOf_120 : decode cX10_seasonOf 120 = .ok (.iinc 3 1, 3) := by decide +kernel
theorem dX10_seasonOf_123 : decode cX10_seasonOf 123 = .ok (.goto (-121), 3) := by decide +kernel
theorem dX10_seasonOf_126 : decode cX10_seasonOf 126 = .ok (.iconst 0, 1) := by decide +kernel
theorem dX10_seasonOf_127 : decode cX10_seasonOf 127 = .ok (.istore_n 3, 1) := by decide +kernel
theorem dX10_seasonOf_128 : decode cX10_seasonOf 128 = .ok (.iload_n 3, 1) := by decide +kernel
theorem dX10_seasonOf_129 : decode cX10_seasonOf 129 = .ok (.iload_n 1, 1) := by decide +kernel
theorem dX10_seasonOf_130 : decode cX10_seasonOf 130 = .ok (.if_icmp .gt 24, 3) := by decide +kernel
theorem dX10_seasonOf_133 : decode cX10_seasonOf 133 = .ok (.aload_n 0, 1) := by decide +kernel
theorem dX10_seasonOf_134 : decode cX10_seasonOf 134 = .ok (.getfield 43, 3) := by decide +kernel
theorem dX10_seasonOf_137 : decode cX10_seasonOf 137 = .ok (.bipush 12, 2) := by decide +kernel
theorem dX10_seasonOf_139 : decode cX10_seasonOf 139 = .ok (.aload_n 0, 1) := by decide +kernel
theorem dX10_seasonOf_140 : decode cX10_seasonOf 140 = .ok (.getfield 125, 3) := by decide +kernel
theorem dX10_seasonOf_143 : decode cX10_seasonOf 143 = .ok (.imul, 1) := by decide +kernel
theorem dX10_seasonOf_144 : decode cX10_seasonOf 144 = .ok (.iload_n 3, 1) := by decide +kernel
theorem dX10_seasonOf_145 : decode cX10_seasonOf 145 = .ok (.iadd, 1) := by decide +kernel
theorem dX10_seasonOf_146 : decode cX10_seasonOf 146 = .ok (.iconst 0, 1) := by decide +kernel
theorem dX10_seasonOf_147 : decode cX10_seasonOf 147 = .ok (.iastore, 1) := by decide +kernel
theorem dX10_seasonOf_148 : decode cX10_seasonOf 148 = .ok (.iinc 3 1, 3) := by decide +kernel
theorem dX10_seasonOf_151 : decode cX10_seasonOf 151 = .ok (.goto (-23), 3) := by decide +kernel
theorem dX10_seasonOf_154 : decode cX10_seasonOf 154 = .ok (.aload_n 0, 1) := by decide +kernel
theorem dX10_seasonOf_155 : decode cX10_seasonOf 155 = .ok (.getfield 125, 3) := by decide +kernel
theorem dX10_seasonOf_158 : decode cX10_seasonOf 158 = .ok (.iconst 1, 1) := by decide +kernel
theorem dX10_seasonOf_159 : decode cX10_seasonOf 159 = .ok (.isub, 1) := by decide +kernel
theorem dX10_seasonOf_160 : decode cX10_seasonOf 160 = .ok (.istore_n 3, 1) := by decide +kernel
theorem dX10_seasonOf_161 : decode cX10_seasonOf 161 = .ok (.iload_n 3, 1) := by decide +kernel
theorem dX10_seasonOf_162 : decode cX10_seasonOf 162 = .ok (.ifCond .lt 108, 3) := by decide +kernel
theorem dX10_seasonOf_165 : decode cX10_seasonOf 165 = .ok (.iconst 0, 1) := by decide +kernel
theorem dX10_seasonOf_166 : decode cX10_seasonOf 166 = .ok (.istore 4, 2) := by decide +kernel
theorem dX10_seasonOf_168 : decode cX10_seasonOf 168 = .ok (.iload 4, 2) := by decide +kernel
theorem dX10_seasonOf_170 : decode cX10_seasonOf 170 = .ok (.iload_n 1, 1) := by decide +kernel
theorem dX10_seasonOf_171 : decode cX10_seasonOf 171 = .ok (.if_icmp .gt 93, 3) := by decide +kernel
theorem dX10_seasonOf_174 : decode cX10_seasonOf 174 = .ok (.ldc_w 258, 3) := by decide +kernel
theorem dX10_seasonOf_177 : decode cX10_seasonOf 177 = .ok (.istore 5, 2) := by decide +kernel
theorem dX10_seasonOf_179 : decode cX10_seasonOf 179 = .ok (.iconst 0, 1) := by decide +kernel
theorem dX10_seasonOf_180 : decode cX10_seasonOf 180 = .ok (.istore 6, 2) := by decide +kernel
theorem dX10_seasonOf_182 : decode cX10_seasonOf 182 = .ok (.iload 6, 2) := by decide +kernel
theorem dX10_seasonOf_184 : decode cX10_seasonOf 184 = .ok (.iload 4, 2) := by decide +kernel
theorem dX10_seasonOf_186 : decode cX10_seasonOf 186 = .ok (.if_icmp .gt 58, 3) := by decide +kernel
theorem dX10_seasonOf_189 : decode cX10_seasonOf 189 = .ok (.aload_n 0, 1) := by decide +kernel
theorem dX10_seasonOf_190 : decode cX10_seasonOf 190 = .ok (.getfield 40, 3) := by decide +kernel
theorem dX10_seasonOf_193 : decode cX10_seasonOf 193 = .ok (.bipush 12, 2) := by decide +kernel
theorem dX10_seasonOf_195 : decode cX10_seasonOf 195 = .ok (.iload_n 3, 1) := by decide +kernel
theorem dX10_seasonOf_196 : decode cX10_seasonOf 196 = .ok (.imul, 1) := by decide +kernel
theorem dX10_seasonOf_197 : decode cX10_seasonOf 197 = .ok (.iload 6, 2) := by decide +kernel
theorem dX10_seasonOf_199 : decode cX10_seasonOf 199 = .ok (.iadd, 1) := by decide +kernel
theorem dX10_seasonOf_200 : decode cX10_seasonOf 200 = .ok (.iaload, 1) := by decide +kernel
theorem dX10_seasonOf_201 : decode cX10_seasonOf 201 = .ok (.aload_n 0, 1) := by decide +kernel
theorem dX10_seasonOf_202 : decode cX10_seasonOf 202 = .ok (.getfield 43, 3) := by decide +kernel
theorem dX10_seasonOf_205 : decode cX10_seasonOf 205 = .ok (.bipush 12, 2) := by decide +kernel
theorem dX10_seasonOf_207 : decode cX10_seasonOf 207 = .ok (.iload_n 3, 1) := by decide +kernel
theorem dX10_seasonOf_208 : decode cX10_seasonOf 208 = .ok (.imul, 1) := by decide +kernel
theorem dX10_seasonOf_209 : decode cX10_seasonOf 209 = .ok (.bipush 12, 2) := by decide +kernel
theorem dX10_seasonOf_211 : decode cX10_seasonOf 211 = .ok (.iadd, 1) := by decide +kernel
theorem dX10_seasonOf_212 : decode cX10_seasonOf 212 = .ok (.iload 4, 2) := by decide +kernel
theorem dX10_seasonOf_214 : decode cX10_seasonOf 214 = .ok (.iadd, 1) := by decide +kernel
theorem dX10_seasonOf_215 : decode cX10_seasonOf 215 = .ok (.iload 6, 2) := by decide +kernel
theorem dX10_seasonOf_217 : decode cX10_seasonOf 217 = .ok (.isub, 1) := by decide +kernel
theorem dX10_seasonOf_218 : decode cX10_seasonOf 218 = .ok (.iaload, 1) := by decide +kernel
theorem dX10_seasonOf_219 : decode cX10_seasonOf 219 = .ok (.iadd, 1) := by decide +kernel
theorem dX10_seasonOf_220 : decode cX10_seasonOf 220 = .ok (.istore 7, 2) := by decide +kernel
theorem dX10_seasonOf_222 : decode cX10_seasonOf 222 = .ok (.iload 7, 2) := by decide +kernel
theorem dX10_seasonOf_224 : decode cX10_seasonOf 224 = .ok (.iload 5, 2) := by decide +kernel
theorem dX10_seasonOf_226 : decode cX10_seasonOf 226 = .ok (.if_icmp .le 8, 3) := by decide +kernel
theorem dX10_seasonOf_229 : decode cX10_seasonOf 229 = .ok (.iload 7, 2) := by decide +kernel
theorem dX10_seasonOf_231 : decode cX10_seasonOf 231 = .ok (.goto 5, 3) := by decide +kernel
theorem dX10_seasonOf_234 : decode cX10_seasonOf 234 = .ok (.iload 5, 2) := by decide +kernel
theorem dX10_seasonOf_236 : decode cX10_seasonOf 236 = .ok (.istore 5, 2) := by decide +kernel
theorem dX10_seasonOf_238 : decode cX10_seasonOf 238 = .ok (.iinc 6 1, 3) := by decide +kernel
theorem dX10_seasonOf_241 : decode cX10_seasonOf 241 = .ok (.goto (-59), 3) := by decide +kernel
theorem dX10_seasonOf_244 : decode cX10_seasonOf 244 = .ok (.aload_n 0, 1) := by decide +kernel
theorem dX10_seasonOf_245 : decode cX10_seasonOf 245 = .ok (.getfield 43, 3) := by decide +kernel
theorem dX10_seasonOf_248 : decode cX10_seasonOf 248 = .ok (.bipush 12, 2) := by decide +kernel
theorem dX10_seasonOf_250 : decode cX10_seasonOf 250 = .ok (.iload_n 3, 1) := by decide +kernel
theorem dX10_seasonOf_251 : decode cX10_seasonOf 251 = .ok (.imul, 1) := by decide +kernel
theorem dX10_seasonOf_252 : decode cX10_seasonOf 252 = .ok (.iload 4, 2) := by decide +kernel
theorem dX10_seasonOf_254 : decode cX10_seasonOf 254 = .ok (.iadd, 1) := by decide +kernel
theorem dX10_seasonOf_255 : decode cX10_seasonOf 255 = .ok (.iload 5, 2) := by decide +kernel
theorem dX10_seasonOf_257 : decode cX10_seasonOf 257 = .ok (.iastore, 1) := by decide +kernel
theorem dX10_seasonOf_258 : decode cX10_seasonOf 258 = .ok (.iinc 4 1, 3) := by decide +kernel
theorem dX10_seasonOf_261 : decode cX10_seasonOf 261 = .ok (.goto (-93), 3) := by decide +kernel
theorem dX10_seasonOf_264 : decode cX10_seasonOf 264 = .ok (.iinc 3 (-1), 3) := by decide +kernel
theorem dX10_seasonOf_267 : decode cX10_seasonOf 267 = .ok (.goto (-106), 3) := by decide +kernel
theorem dX10_seasonOf_270 : decode cX10_seasonOf 270 = .ok (.iload_n 2, 1) := by decide +kernel
theorem dX10_seasonOf_271 : decode cX10_seasonOf 271 = .ok (.ifCond .eq 11, 3) := by decide +kernel
theorem dX10_seasonOf_274 : decode cX10_seasonOf 274 = .ok (.iload_n 2, 1) := by decide +kernel
theorem dX10_seasonOf_275 : decode cX10_seasonOf 275 = .ok (.aload_n 0, 1) := by decide +kernel
theorem dX10_seasonOf_276 : decode cX10_seasonOf 276 = .ok (.getfield 125, 3) := by decide +kernel
theorem dX10_seasonOf_279 : decode cX10_seasonOf 279 = .ok (.if_icmp .le 18, 3) := by decide +kernel
theorem dX10_seasonOf_282 : decode cX10_seasonOf 282 = .ok (.iload_n 2, 1) := by decide +kernel
theorem dX10_seasonOf_283 : decode cX10_seasonOf 283 = .ok (.ifCond .ne 12, 3) := by decide +kernel
theorem dX10_seasonOf_286 : decode cX10_seasonOf 286 = .ok (.aload_n 0, 1) := by decide +kernel
theorem dX10_seasonOf_287 : decode cX10_seasonOf 287 = .ok (.getfield 43, 3) := by decide +kernel
theorem dX10_seasonOf_290 : decode cX10_seasonOf 290 = .ok (.iload_n 1, 1) := by decide +kernel
theorem dX10_seasonOf_291 : decode cX10_seasonOf 291 = .ok (.iaload, 1) := by decide +kernel
theorem dX10_seasonOf_292 : decode cX10_seasonOf 292 = .ok (.goto 4, 3) := by decide +kernel
theorem dX10_seasonOf_295 : decode cX10_seasonOf 295 = .ok (.iconst (-1), 1) := by decide +kernel
theorem dX10_seasonOf_296 : decode cX10_seasonOf 296 = .ok (.ireturn, 1) := by decide +kernel
theorem dX10_seasonOf_297 : decode cX10_seasonOf 297 = .ok (.iload_n 1, 1) := by decide +kernel
theorem dX10_seasonOf_298 : decode cX10_seasonOf 298 = .ok (.istore_n 3, 1) := by decide +kernel
theorem dX10_seasonOf_299 : decode cX10_seasonOf 299 = .ok (.iconst 0, 1) := by decide +kernel
theorem dX10_seasonOf_300 : decode cX10_seasonOf 300 = .ok (.istore 4, 2) := by decide +kernel
theorem dX10_seasonOf_302 : decode cX10_seasonOf 302 = .ok (.iconst 0, 1) := by decide +kernel
theorem dX10_seasonOf_303 : decode cX10_seasonOf 303 = .ok (.istore 5, 2) := by decide +kernel
theorem dX10_seasonOf_305 : decode cX10_seasonOf 305 = .ok (.iload 5, 2) := by decide +kernel
theorem dX10_seasonOf_307 : decode cX10_seasonOf 307 = .ok (.iload_n 2, 1) := by decide +kernel
theorem dX10_seasonOf_308 : decode cX10_seasonOf 308 = .ok (.if_icmp .ge 70, 3) := by decide +kernel
theorem dX10_seasonOf_311 : decode cX10_seasonOf 311 = .ok (.iconst 0, 1) := by decide +kernel
theorem dX10_seasonOf_312 : decode cX10_seasonOf 312 = .ok (.istore 4, 2) := by decide +kernel
theorem dX10_seasonOf_314 : decode cX10_seasonOf 314 = .ok (.aload_n 0, 1) := by decide +kernel
theorem dX10_seasonOf_315 : decode cX10_seasonOf 315 = .ok (.getfield 40, 3) := by decide +kernel
theorem dX10_seasonOf_318 : decode cX10_seasonOf 318 = .ok (.bipush 12, 2) := by decide +kernel
theorem dX10_seasonOf_320 : decode cX10_seasonOf 320 = .ok (.iload 5, 2) := by decide +kernel
theorem dX10_seasonOf_322 : decode cX10_seasonOf 322 = .ok (.imul, 1) := by decide +kernel
theorem dX10_seasonOf_323 : decode cX10_seasonOf 323 = .ok (.iload 4, 2) := by decide +kernel
theorem dX10_seasonOf_325 : decode cX10_seasonOf 325 = .ok (.iadd, 1) := by decide +kernel
theorem dX10_seasonOf_326 : decode cX10_seasonOf 326 = .ok (.iaload, 1) := by decide +kernel
theorem dX10_seasonOf_327 : decode cX10_seasonOf 327 = .ok (.aload_n 0, 1) := by decide +kernel
theorem dX10_seasonOf_328 : decode cX10_seasonOf 328 = .ok (.getfield 43, 3) := by decide +kernel
theorem dX10_seasonOf_331 : decode cX10_seasonOf 331 = .ok (.bipush 12, 2) := by decide +kernel
theorem dX10_seasonOf_333 : decode cX10_seasonOf 333 = .ok (.iload 5, 2) := by decide +kernel
theorem dX10_seasonOf_335 : decode cX10_seasonOf 335 = .ok (.imul, 1) := by decide +kernel
theorem dX10_seasonOf_336 : decode cX10_seasonOf 336 = .ok (.bipush 12, 2) := by decide +kernel
theorem dX10_seasonOf_338 : decode cX10_seasonOf 338 = .ok (.iadd, 1) := by decide +kernel
theorem dX10_seasonOf_339 : decode cX10_seasonOf 339 = .ok (.iload_n 3, 1) := by decide +kernel
theorem dX10_seasonOf_340 : decode cX10_seasonOf 340 = .ok (.iadd, 1) := by decide +kernel
theorem dX10_seasonOf_341 : decode cX10_seasonOf 341 = .ok (.iload 4, 2) := by decide +kernel
theorem dX10_seasonOf_343 : decode cX10_seasonOf 343 = .ok (.isub, 1) := by decide +kernel
theorem dX10_seasonOf_344 : decode cX10_seasonOf 344 = .ok (.iaload, 1) := by decide +kernel
theorem dX10_seasonOf_345 : decode cX10_seasonOf 345 = .ok (.iadd, 1) := by decide +kernel
theorem dX10_seasonOf_346 : decode cX10_seasonOf 346 = .ok (.aload_n 0, 1) := by decide +kernel
theorem dX10_seasonOf_347 : decode cX10_seasonOf 347 = .ok (.getfield 43, 3) := by decide +kernel
theorem dX10_seasonOf_350 : decode cX10_seasonOf 350 = .ok (.bipush 12, 2) := by decide +kernel
theorem dX10_seasonOf_352 : decode cX10_seasonOf 352 = .ok (.iload 5, 2) := by decide +kernel
theorem dX10_seasonOf_354 : decode cX10_seasonOf 354 = .ok (.imul, 1) := by decide +kernel
theorem dX10_seasonOf_355 : decode cX10_seasonOf 355 = .ok (.iload_n 3, 1) := by decide +kernel
theorem dX10_seasonOf_356 : decode cX10_seasonOf 356 = .ok (.iadd, 1) := by decide +kernel
theorem dX10_seasonOf_357 : decode cX10_seasonOf 357 = .ok (.iaload, 1) := by decide +kernel
theorem dX10_seasonOf_358 : decode cX10_seasonOf 358 = .ok (.if_icmp .ge 9, 3) := by decide +kernel
theorem dX10_seasonOf_361 : decode cX10_seasonOf 361 = .ok (.iinc 4 1, 3) := by decide +kernel
theorem dX10_seasonOf_364 : decode cX10_seasonOf 364 = .ok (.goto (-50), 3) := by decide +kernel
theorem dX10_seasonOf_367 : decode cX10_seasonOf 367 = .ok (.iload_n 3, 1) := by decide +kernel
theorem dX10_seasonOf_368 : decode cX10_seasonOf 368 = .ok (.iload 4, 2) := by decide +kernel
theorem dX10_seasonOf_370 : decode cX10_seasonOf 370 = .ok (.isub, 1) := by decide +kernel
theorem dX10_seasonOf_371 : decode cX10_seasonOf 371 = .ok (.istore_n 3, 1) := by decide +kernel
theorem dX10_seasonOf_372 : decode cX10_seasonOf 372 = .ok (.iinc 5 1, 3) := by decide +kernel
theorem dX10_seasonOf_375 : decode cX10_seasonOf 375 = .ok (.goto (-70), 3) := by decide +kernel
theorem dX10_seasonOf_378 : decode cX10_seasonOf 378 = .ok (.iload 4, 2) := by decide +kernel
theorem dX10_seasonOf_380 : decode cX10_seasonOf 380 = .ok (.ireturn, 1) := by decide +kernel
theorem cw_X10_seasonOf : Cw yX10_seasonOf cX10_seasonOf 8 (some .int) 2 := ⟨aw_1118, aw_56, ⟨by decide, by decide⟩, by decide +kernel, by decide⟩
theorem gf_10_40 {K : KT} {cc : ByteArray} {nL d pc : Nat} {ret : Option FieldType} {L : List (Option Value)} {st : List Value} {σ : Sg} (C : Cx K layM cc RX10 nL d ret)  (hd : decode cc pc = .ok (.getfield 40, 3)) (k : G K (pc + 3) L (.ref (kad K 11) :: st) (Wd K layM σ)) : G K pc L (.ref (kad K 0) :: st) (Wd K layM σ) := g_get C (o := 0) (ci := 10) (k := 38) hd rfl rfl rfl (by decide) (Or.inl aw_827) inA10 rfl k
theorem gf_10_43 {K : KT} {cc : ByteArray} {nL d pc : Nat} {ret : Option FieldType} {L : List (Option Value)} {st : List Value} {σ : Sg} (C : Cx K layM cc RX10 nL d ret)  (hd : decode cc pc = .ok (.getfield 43, 3)) (k : G K (pc + 3) L (.ref (kad K 12) :: st) (Wd K layM σ)) : G K pc L (.ref (kad K 0) :: st) (Wd K layM σ) := g_get C (o := 0) (ci := 10) (k := 39) hd rfl rfl rfl (by decide) (Or.inl aw_828) inA10 rfl k
def fX10_seasonOf_b113 (x1 : Int32) (x2 : Int32) (x3 : Int32) (x4 : Int32) (x5 : Int32) (y0 : Int32) (y1 : Int32) (σ : Sg) : Option ((Int32 × Sg) ⊕ ((Sg))) :=
  if inb y1 60 = true then (some (.inl ((x5 + (1 : Int32)), (wI σ 11 (y1).toNatClampNeg y0)))) else none
def fX10_seasonOf_b86 (x1 : Int32) (x2 : Int32) (x3 : Int32) (x4 : Int32) (x5 : Int32) (x6 : Int32) (y0 : Int32) (σ : Sg) : Option ((Int32 × Sg) ⊕ ((Sg))) :=
  if x6 ≤ y0 then (fX10_seasonOf_b113 x1 x2 x3 x4 x5 y0 (((12 : Int32) * x3) + x5) σ) else (fX10_seasonOf_b113 x1 x2 x3 x4 x5 x6 (((12 : Int32) * x3) + x5) σ)
def fX10_seasonOf_b64 (x1 : Int32) (x2 : Int32) (x3 : Int32) (x4 : Int32) (x5 : Int32) (y0 : Int32) (σ : Sg) : Option ((Int32 × Sg) ⊕ ((Sg))) :=
  if x4 = 0 then (fX10_seasonOf_b86 x1 x2 x3 x4 x5 y0 (-100000000 : Int32) σ) else (Option.bind (fX10_tellTow x3 x5 (1 : Int32) (2 : Int32) σ) fun p5 => (fX10_seasonOf_b86 x1 x2 x3 x4 x5 y0 p5.1 p5.2))
def fX10_seasonOf_b38 (x1 : Int32) (x2 : Int32) (x3 : Int32) (x4 : Int32) (x5 : Int32) (σ : Sg) : Option ((Int32 × Sg) ⊕ ((Sg))) :=
  if x1 < x5 then (some (.inr σ)) else (if x4 = 0 then (fX10_seasonOf_b64 x1 x2 x3 x4 x5 (-100000000 : Int32) σ) else (Option.bind (fX10_tellTow x3 x5 (0 : Int32) (2 : Int32) σ) fun p7 => (fX10_seasonOf_b64 x1 x2 x3 x4 x5 p7.1 p7.2)))
def fX10_seasonOf_b23 (x1 : Int32) (x2 : Int32) (x3 : Int32) (y0 : Int32) (σ : Sg) : Option ((Int32 × Sg) ⊕ ((Sg))) :=
  if inb ((12 : Int32) * x3) 60 = true then (Option.bind (lp (fun s => fX10_seasonOf_b38 x1 x2 x3 y0 s.1 s.2) FU ((1 : Int32), (wI σ 11 (((12 : Int32) * x3)).toNatClampNeg (0 : Int32)))) fun t9 => some (.inl ((x3 + (1 : Int32)), t9))) else none
def fX10_seasonOf_b2 (x1 : Int32) (x2 : Int32) (x3 : Int32) (σ : Sg) : Option ((Int32 × Sg) ⊕ ((Sg))) :=
  if (rI σ 0 15) ≤ x3 then (some (.inr σ)) else (Option.bind (fX10_waysOf x3 σ) fun p1 => (if p1.1 ≤ 0 then (fX10_seasonOf_b23 x1 x2 x3 (0 : Int32) p1.2) else (fX10_seasonOf_b23 x1 x2 x3 (1 : Int32) p1.2)))
def fX10_seasonOf_b128 (x1 : Int32) (x2 : Int32) (x3 : Int32) (σ : Sg) : Option ((Int32 × Sg) ⊕ ((Sg))) :=
  if x1 < x3 then (some (.inr σ)) else (if inb (((12 : Int32) * (rI σ 0 15)) + x3) 72 = true then (some (.inl ((x3 + (1 : Int32)), (wI σ 12 ((((12 : Int32) * (rI σ 0 15)) + x3)).toNatClampNeg (0 : Int32))))) else none)
def fX10_seasonOf_b236 (x1 : Int32) (x2 : Int32) (x3 : Int32) (x4 : Int32) (x6 : Int32) (y0 : Int32) (σ : Sg) : Option ((Int32 × Int32 × Sg) ⊕ ((Int32 × Sg))) :=
  some (.inl (y0, (x6 + (1 : Int32)), σ))
def fX10_seasonOf_b182 (x1 : Int32) (x2 : Int32) (x3 : Int32) (x4 : Int32) (x5 : Int32) (x6 : Int32) (σ : Sg) : Option ((Int32 × Int32 × Sg) ⊕ ((Int32 × Sg))) :=
  if x4 < x6 then (some (.inr (x5, σ))) else (if inb (((12 : Int32) * x3) + x6) 60 = true then (if inb (((((12 : Int32) * x3) + (12 : Int32)) + x4) - x6) 72 = true then (if ((rI σ 11 ((((12 : Int32) * x3) + x6)).toNatClampNeg) + (rI σ 12 ((((((12 : Int32) * x3) + (12 : Int32)) + x4) - x6)).toNatClampNeg)) ≤ x5 then (fX10_seasonOf_b236 x1 x2 x3 x4 x6 x5 σ) else (fX10_seasonOf_b236 x1 x2 x3 x4 x6 ((rI σ 11 ((((12 : Int32) * x3) + x6)).toNatClampNeg) + (rI σ 12 ((((((12 : Int32) * x3) + (12 : Int32)) + x4) - x6)).toNatClampNeg)) σ)) else none) else none)
def fX10_seasonOf_b168 (x1 : Int32) (x2 : Int32) (x3 : Int32) (x4 : Int32) (σ : Sg) : Option ((Int32 × Sg) ⊕ ((Sg))) :=
  if x1 < x4 then (some (.inr σ)) else (Option.bind (lp (fun s => fX10_seasonOf_b182 x1 x2 x3 x4 s.1 s.2.1 s.2.2) FU ((-100000000 : Int32), (0 : Int32), σ)) fun t18 => if inb (((12 : Int32) * x3) + x4) 72 = true then (some (.inl ((x4 + (1 : Int32)), (wI t18.2 12 ((((12 : Int32) * x3) + x4)).toNatClampNeg t18.1)))) else none)
def fX10_seasonOf_b161 (x1 : Int32) (x2 : Int32) (x3 : Int32) (σ : Sg) : Option ((Int32 × Sg) ⊕ ((Sg))) :=
  if x3 < 0 then (some (.inr σ)) else (Option.bind (lp (fun s => fX10_seasonOf_b168 x1 x2 x3 s.1 s.2) FU ((0 : Int32), σ)) fun t21 => some (.inl ((x3 + (-1 : Int32)), t21)))
def fX10_seasonOf_b282 (x1 : Int32) (x2 : Int32) (σ : Sg) : Option (Int32 × Sg) :=
  if x2 = 0 then (if inb x1 72 = true then (some ((rI σ 12 (x1).toNatClampNeg), σ)) else none) else (some ((-1 : Int32), σ))
def fX10_seasonOf_b314 (x2 : Int32) (x3 : Int32) (x4 : Int32) (x5 : Int32) (σ : Sg) : Option ((Int32 × Sg) ⊕ ((Int32 × Sg))) :=
  if inb (((12 : Int32) * x5) + x4) 60 = true then (if inb (((((12 : Int32) * x5) + (12 : Int32)) + x3) - x4) 72 = true then (if inb (((12 : Int32) * x5) + x3) 72 = true then (if (rI σ 12 ((((12 : Int32) * x5) + x3)).toNatClampNeg) ≤ ((rI σ 11 ((((12 : Int32) * x5) + x4)).toNatClampNeg) + (rI σ 12 ((((((12 : Int32) * x5) + (12 : Int32)) + x3) - x4)).toNatClampNeg)) then (some (.inr (x4, σ))) else (some (.inl ((x4 + (1 : Int32)), σ)))) else none) else none) else none
def fX10_seasonOf_b305 (x2 : Int32) (x3 : Int32) (x4 : Int32) (x5 : Int32) (σ : Sg) : Option ((Int32 × Int32 × Int32 × Sg) ⊕ ((Int32 × Sg))) :=
  if x2 ≤ x5 then (some (.inr (x4, σ))) else (Option.bind (lp (fun s => fX10_seasonOf_b314 x2 x3 s.1 x5 s.2) FU ((0 : Int32), σ)) fun t29 => some (.inl ((x3 - t29.1), t29.1, (x5 + (1 : Int32)), t29.2)))
def fX10_seasonOf_b0 (x1 : Int32) (x2 : Int32) (σ : Sg) : Option (Int32 × Sg) :=
  Option.bind (lp (fun s => fX10_seasonOf_b2 x1 x2 s.1 s.2) FU ((0 : Int32), σ)) fun t11 => Option.bind (lp (fun s => fX10_seasonOf_b128 x1 x2 s.1 s.2) FU ((0 : Int32), t11)) fun t14 => Option.bind (lp (fun s => fX10_seasonOf_b161 x1 x2 s.1 s.2) FU (((rI t14 0 15) - (1 : Int32)), t14)) fun t23 => if x2 = 0 then (fX10_seasonOf_b282 x1 x2 t23) else (if x2 ≤ (rI t23 0 15) then (Option.bind (lp (fun s => fX10_seasonOf_b305 x2 s.1 s.2.1 s.2.2.1 s.2.2.2) FU (x1, (0 : Int32), (0 : Int32), t23)) fun t31 => some (t31.1, t31.2)) else (fX10_seasonOf_b282 x1 x2 t23))
set_option maxRecDepth 4000 in
theorem bX10_seasonOf_b113 {K : KT} {x1 : Int32} {x2 : Int32} {x3 : Int32} {x4 : Int32} {x5 : Int32} {y0 : Int32} {y1 : Int32} {σ : Sg} {o : (Int32 × Sg) ⊕ ((Sg))} (C : Cx K layM cX10_seasonOf RX10 8 (8) (some .int))  (hI : ∀ s' : Int32 × Sg, o = .inl s' → G K 38 [some (.ref (kad K 0)), some (.int x1), some (.int x2), some (.int x3), some (.int x4), some (.int s'.1), none, none] [] (Wd K layM s'.2)) (hE0 : ∀ t : Sg, o = .inr t → G K 120 [some (.ref (kad K 0)), some (.int x1), some (.int x2), some (.int x3), none, none, none, none] [] (Wd K layM t)) (h : fX10_seasonOf_b113 x1 x2 x3 x4 x5 y0 y1 σ = some o) : G K 113 [some (.ref (kad K 0)), some (.int x1), some (.int x2), some (.int x3), some (.int x4), some (.int x5), none, none] [.int y0, .int y1, .ref (kad K 11)] (Wd K layM σ) := by
  unfold fX10_seasonOf_b113 at h
  obtain ⟨c4, h⟩ := chk h
  refine g_iast C dX10_seasonOf_113 rfl c4 ?_
  refine g_iinc C.c (i := 5) (y := (1 : Int32)) (L' := [some (.ref (kad K 0)), some (.int x1), some (.int x2), some (.int x3), some (.int x4), some (.int (x5 + (1 : Int32))), none, none]) dX10_seasonOf_114 rfl (by decide) (Nat.le_of_ble_eq_true rfl) rfl ?_
  refine g_goto C.c (tgt := 38) dX10_seasonOf_117 (by decide) ?_
  have g9 := hI _ (Option.some.inj h).symm
  exact g_mask [true, true, true, true, true, true, false, false] rfl g9
set_option maxRecDepth 4000 in
theorem bX10_seasonOf_b86 {K : KT} {x1 : Int32} {x2 : Int32} {x3 : Int32} {x4 : Int32} {x5 : Int32} {x6 : Int32} {y0 : Int32} {σ : Sg} {o : (Int32 × Sg) ⊕ ((Sg))} (C : Cx K layM cX10_seasonOf RX10 8 (8) (some .int))  (hI : ∀ s' : Int32 × Sg, o = .inl s' → G K 38 [some (.ref (kad K 0)), some (.int x1), some (.int x2), some (.int x3), some (.int x4), some (.int s'.1), none, none] [] (Wd K layM s'.2)) (hE0 : ∀ t : Sg, o = .inr t → G K 120 [some (.ref (kad K 0)), some (.int x1), some (.int x2), some (.int x3), none, none, none, none] [] (Wd K layM t)) (h : fX10_seasonOf_b86 x1 x2 x3 x4 x5 x6 y0 σ = some o) : G K 86 [some (.ref (kad K 0)), some (.int x1), some (.int x2), some (.int x3), some (.int x4), some (.int x5), some (.int x6), none] [.int y0] (Wd K layM σ) := by
  unfold fX10_seasonOf_b86 at h
  refine g_istore C.c (i := 7) (L' := [some (.ref (kad K 0)), some (.int x1), some (.int x2), some (.int x3), some (.int x4), some (.int x5), some (.int x6), some (.int y0)]) dX10_seasonOf_86 (Nat.le_of_ble_eq_true rfl) rfl ?_
  refine g_aload_n C.c dX10_seasonOf_88 rfl (i := 0) rfl ?_
  refine gf_10_40 C dX10_seasonOf_89 ?_
  refine g_bipush C.c dX10_seasonOf_92 (v := (12 : Int32)) (by decide) ?_
  refine g_iload_n C.c dX10_seasonOf_94 rfl (i := 3) rfl ?_
  refine g_imul C.c dX10_seasonOf_95 ?_
  refine g_iload C.c dX10_seasonOf_96 (i := 5) rfl ?_
  refine g_iadd C.c dX10_seasonOf_98 ?_
  refine g_iload C.c dX10_seasonOf_99 (i := 6) rfl ?_
  refine g_iload C.c dX10_seasonOf_101 (i := 7) rfl ?_
  refine g_icmp_le C.c (tgt := 111) dX10_seasonOf_103 (by decide) (fun c => ?_) (fun c => ?_)
  · replace h := ite_t c h
    refine g_iload C.c dX10_seasonOf_111 (i := 7) rfl ?_
    exact g_mask [true, true, true, true, true, true, false, false] rfl (bX10_seasonOf_b113 C hI hE0 h)
  · replace h := ite_f c h
    refine g_iload C.c dX10_seasonOf_106 (i := 6) rfl ?_
    refine g_goto C.c (tgt := 113) dX10_seasonOf_108 (by decide) ?_
    exact g_mask [true, true, true, true, true, true, false, false] rfl (bX10_seasonOf_b113 C hI hE0 h)
set_option maxRecDepth 4000 in
theorem bX10_seasonOf_b64 {K : KT} {x1 : Int32} {x2 : Int32} {x3 : Int32} {x4 : Int32} {x5 : Int32} {y0 : Int32} {σ : Sg} {o : (Int32 × Sg) ⊕ ((Sg))} (C : Cx K layM cX10_seasonOf RX10 8 (8) (some .int))  (hI : ∀ s' : Int32 × Sg, o = .inl s' → G K 38 [some (.ref (kad K 0)), some (.int x1), some (.int x2), some (.int x3), some (.int x4), some (.int s'.1), none, none] [] (Wd K layM s'.2)) (hE0 : ∀ t : Sg, o = .inr t → G K 120 [some (.ref (kad K 0)), some (.int x1), some (.int x2), some (.int x3), none, none, none, none] [] (Wd K layM t)) (h : fX10_seasonOf_b64 x1 x2 x3 x4 x5 y0 σ = some o) : G K 64 [some (.ref (kad K 0)), some (.int x1), some (.int x2), some (.int x3), some (.int x4), some (.int x5), none, none] [.int y0] (Wd K layM σ) := by
  unfold fX10_seasonOf_b64 at h
  refine g_istore C.c (i := 6) (L' := [some (.ref (kad K 0)), some (.int x1), some (.int x2), some (.int x3), some (.int x4), some (.int x5), some (.int y0), none]) dX10_seasonOf_64 (Nat.le_of_ble_eq_true rfl) rfl ?_
  refine g_iload C.c dX10_seasonOf_66 (i := 4) rfl ?_
  refine g_if_eq C.c (tgt := 83) dX10_seasonOf_68 (by decide) (fun c => ?_) (fun c => ?_)
  · replace h := ite_t c h
    refine g_ldcw C.c (v := (-100000000 : Int32)) aw_1105 dX10_seasonOf_83 ?_
    exact g_mask [true, true, true, true, true, true, true, false] rfl (bX10_seasonOf_b86 C hI hE0 h)
  · replace h := ite_f c h
    refine g_aload_n C.c dX10_seasonOf_71 rfl (i := 0) rfl ?_
    refine g_iload_n C.c dX10_seasonOf_72 rfl (i := 3) rfl ?_
    refine g_iload C.c dX10_seasonOf_73 (i := 5) rfl ?_
    refine g_iconst C.c dX10_seasonOf_75 (v := (1 : Int32)) (by decide) ?_
    refine g_iconst C.c dX10_seasonOf_76 (v := (2 : Int32)) (by decide) ?_
    obtain ⟨p5, e6, h⟩ := Option.bind_eq_some_iff.mp h
    refine kc_10_250 C dX10_seasonOf_77 e6 (Nat.le_of_ble_eq_true rfl) rfl (Nat.le_of_ble_eq_true rfl) ?_
    refine g_goto C.c (tgt := 86) dX10_seasonOf_80 (by decide) ?_
    exact g_mask [true, true, true, true, true, true, true, false] rfl (bX10_seasonOf_b86 C hI hE0 h)
set_option maxRecDepth 4000 in
theorem bX10_seasonOf_b38 {K : KT} {x1 : Int32} {x2 : Int32} {x3 : Int32} {x4 : Int32} {x5 : Int32} {σ : Sg} {o : (Int32 × Sg) ⊕ ((Sg))} (C : Cx K layM cX10_seasonOf RX10 8 (8) (some .int))  (hI : ∀ s' : Int32 × Sg, o = .inl s' → G K 38 [some (.ref (kad K 0)), some (.int x1), some (.int x2), some (.int x3), some (.int x4), some (.int s'.1), none, none] [] (Wd K layM s'.2)) (hE0 : ∀ t : Sg, o = .inr t → G K 120 [some (.ref (kad K 0)), some (.int x1), some (.int x2), some (.int x3), none, none, none, none] [] (Wd K layM t)) (h : fX10_seasonOf_b38 x1 x2 x3 x4 x5 σ = some o) : G K 38 [some (.ref (kad K 0)), some (.int x1), some (.int x2), some (.int x3), some (.int x4), some (.int x5), none, none] [] (Wd K layM σ) := by
  unfold fX10_seasonOf_b38 at h
  refine g_iload C.c dX10_seasonOf_38 (i := 5) rfl ?_
  refine g_iload_n C.c dX10_seasonOf_40 rfl (i := 1) rfl ?_
  refine g_icmp_gt C.c (tgt := 120) dX10_seasonOf_41 (by decide) (fun c => ?_) (fun c => ?_)
  · replace h := ite_t c h
    have g9 := hE0 _ (Option.some.inj h).symm
    exact g_mask [true, true, true, true, false, false, false, false] rfl g9
  · replace h := ite_f c h
    refine g_iload C.c dX10_seasonOf_44 (i := 4) rfl ?_
    refine g_if_eq C.c (tgt := 61) dX10_seasonOf_46 (by decide) (fun c => ?_) (fun c => ?_)
    · replace h := ite_t c h
      refine g_ldcw C.c (v := (-100000000 : Int32)) aw_1105 dX10_seasonOf_61 ?_
      exact g_mask [true, true, true, true, true, true, false, false] rfl (bX10_seasonOf_b64 C hI hE0 h)
    · replace h := ite_f c h
      refine g_aload_n C.c dX10_seasonOf_49 rfl (i := 0) rfl ?_
      refine g_iload_n C.c dX10_seasonOf_50 rfl (i := 3) rfl ?_
      refine g_iload C.c dX10_seasonOf_51 (i := 5) rfl ?_
      refine g_iconst C.c dX10_seasonOf_53 (v := (0 : Int32)) (by decide) ?_
      refine g_iconst C.c dX10_seasonOf_54 (v := (2 : Int32)) (by decide) ?_
      obtain ⟨p7, e8, h⟩ := Option.bind_eq_some_iff.mp h
      refine kc_10_250 C dX10_seasonOf_55 e8 (Nat.le_of_ble_eq_true rfl) rfl (Nat.le_of_ble_eq_true rfl) ?_
      refine g_goto C.c (tgt := 64) dX10_seasonOf_58 (by decide) ?_
      exact g_mask [true, true, true, true, true, true, false, false] rfl (bX10_seasonOf_b64 C hI hE0 h)
set_option maxRecDepth 4000 in
theorem bX10_seasonOf_b23 {K : KT} {x1 : Int32} {x2 : Int32} {x3 : Int32} {y0 : Int32} {σ : Sg} {o : (Int32 × Sg) ⊕ ((Sg))} (C : Cx K layM cX10_seasonOf RX10 8 (8) (some .int))  (hI : ∀ s' : Int32 × Sg, o = .inl s' → G K 2 [some (.ref (kad K 0)), some (.int x1), some (.int x2), some (.int s'.1), none, none, none, none] [] (Wd K layM s'.2)) (hE0 : ∀ t : Sg, o = .inr t → G K 126 [some (.ref (kad K 0)), some (.int x1), some (.int x2), none, none, none, none, none] [] (Wd K layM t)) (h : fX10_seasonOf_b23 x1 x2 x3 y0 σ = some o) : G K 23 [some (.ref (kad K 0)), some (.int x1), some (.int x2), some (.int x3), none, none, none, none] [.int y0] (Wd K layM σ) := by
  unfold fX10_seasonOf_b23 at h
  refine g_istore C.c (i := 4) (L' := [some (.ref (kad K 0)), some (.int x1), some (.int x2), some (.int x3), some (.int y0), none, none, none]) dX10_seasonOf_23 (Nat.le_of_ble_eq_true rfl) rfl ?_
  refine g_aload_n C.c dX10_seasonOf_25 rfl (i := 0) rfl ?_
  refine gf_10_40 C dX10_seasonOf_26 ?_
  refine g_bipush C.c dX10_seasonOf_29 (v := (12 : Int32)) (by decide) ?_
  refine g_iload_n C.c dX10_seasonOf_31 rfl (i := 3) rfl ?_
  refine g_imul C.c dX10_seasonOf_32 ?_
  refine g_iconst C.c dX10_seasonOf_33 (v := (0 : Int32)) (by decide) ?_
  obtain ⟨c3, h⟩ := chk h
  refine g_iast C dX10_seasonOf_34 rfl c3 ?_
  refine g_iconst C.c dX10_seasonOf_35 (v := (1 : Int32)) (by decide) ?_
  refine g_istore C.c (i := 5) (L' := [some (.ref (kad K 0)), some (.int x1), some (.int x2), some (.int x3), some (.int y0), some (.int (1 : Int32)), none, none]) dX10_seasonOf_36 (Nat.le_of_ble_eq_true rfl) rfl ?_
  refine g_mask [true, true, true, true, true, true, false, false] rfl ?_
  refine lp_bind (Gh := fun s => G K 38 [some (.ref (kad K 0)), some (.int x1), some (.int x2), some (.int x3), some (.int y0), some (.int s.1), none, none] [] (Wd K layM s.2)) h (fun s o2 hf gI gE => ?_)
  refine bX10_seasonOf_b38 C gI (fun t9 e => ?_) hf
  · have h := gE _ e
    refine g_iinc C.c (i := 3) (y := (1 : Int32)) (L' := [some (.ref (kad K 0)), some (.int x1), some (.int x2), some (.int (x3 + (1 : Int32))), none, none, none, none]) dX10_seasonOf_120 rfl (by decide) (Nat.le_of_ble_eq_true rfl) rfl ?_
    refine g_goto C.c (tgt := 2) dX10_seasonOf_123 (by decide) ?_
    have g9 := hI _ (Option.some.inj h).symm
    exact g_mask [true, true, true, true, false, false, false, false] rfl g9
set_option maxRecDepth 4000 in
theorem bX10_seasonOf_b2 {K : KT} {x1 : Int32} {x2 : Int32} {x3 : Int32} {σ : Sg} {o : (Int32 × Sg) ⊕ ((Sg))} (C : Cx K layM cX10_seasonOf RX10 8 (8) (some .int))  (hI : ∀ s' : Int32 × Sg, o = .inl s' → G K 2 [some (.ref (kad K 0)), some (.int x1), some (.int x2), some (.int s'.1), none, none, none, none] [] (Wd K layM s'.2)) (hE0 : ∀ t : Sg, o = .inr t → G K 126 [some (.ref (kad K 0)), some (.int x1), some (.int x2), none, none, none, none, none] [] (Wd K layM t)) (h : fX10_seasonOf_b2 x1 x2 x3 σ = some o) : G K 2 [some (.ref (kad K 0)), some (.int x1), some (.int x2), some (.int x3), none, none, none, none] [] (Wd K layM σ) := by
  unfold fX10_seasonOf_b2 at h
  refine g_iload_n C.c dX10_seasonOf_2 rfl (i := 3) rfl ?_
  refine g_aload_n C.c dX10_seasonOf_3 rfl (i := 0) rfl ?_
  refine gf_10_125 C dX10_seasonOf_4 ?_
  refine g_icmp_ge C.c (tgt := 126) dX10_seasonOf_7 (by decide) (fun c => ?_) (fun c => ?_)
  · replace h := ite_t c h
    have g9 := hE0 _ (Option.some.inj h).symm
    exact g_mask [true, true, true, false, false, false, false, false] rfl g9
  · replace h := ite_f c h
    refine g_aload_n C.c dX10_seasonOf_10 rfl (i := 0) rfl ?_
    refine g_iload_n C.c dX10_seasonOf_11 rfl (i := 3) rfl ?_
    obtain ⟨p1, e2, h⟩ := Option.bind_eq_some_iff.mp h
    refine kc_10_255 C dX10_seasonOf_12 e2 (Nat.le_of_ble_eq_true rfl) rfl (Nat.le_of_ble_eq_true rfl) ?_
    refine g_if_le C.c (tgt := 22) dX10_seasonOf_15 (by decide) (fun c => ?_) (fun c => ?_)
    · replace h := ite_t c h
      refine g_iconst C.c dX10_seasonOf_22 (v := (0 : Int32)) (by decide) ?_
      exact g_mask [true, true, true, true, false, false, false, false] rfl (bX10_seasonOf_b23 C hI hE0 h)
    · replace h := ite_f c h
      refine g_iconst C.c dX10_seasonOf_18 (v := (1 : Int32)) (by decide) ?_
      refine g_goto C.c (tgt := 23) dX10_seasonOf_19 (by decide) ?_
      exact g_mask [true, true, true, true, false, false, false, false] rfl (bX10_seasonOf_b23 C hI hE0 h)
set_option maxRecDepth 4000 in
theorem bX10_seasonOf_b128 {K : KT} {x1 : Int32} {x2 : Int32} {x3 : Int32} {σ : Sg} {o : (Int32 × Sg) ⊕ ((Sg))} (C : Cx K layM cX10_seasonOf RX10 8 (8) (some .int))  (hI : ∀ s' : Int32 × Sg, o = .inl s' → G K 128 [some (.ref (kad K 0)), some (.int x1), some (.int x2), some (.int s'.1), none, none, none, none] [] (Wd K layM s'.2)) (hE0 : ∀ t : Sg, o = .inr t → G K 154 [some (.ref (kad K 0)), some (.int x1), some (.int x2), none, none, none, none, none] [] (Wd K layM t)) (h : fX10_seasonOf_b128 x1 x2 x3 σ = some o) : G K 128 [some (.ref (kad K 0)), some (.int x1), some (.int x2), some (.int x3), none, none, none, none] [] (Wd K layM σ) := by
  unfold fX10_seasonOf_b128 at h
  refine g_iload_n C.c dX10_seasonOf_128 rfl (i := 3) rfl ?_
  refine g_iload_n C.c dX10_seasonOf_129 rfl (i := 1) rfl ?_
  refine g_icmp_gt C.c (tgt := 154) dX10_seasonOf_130 (by decide) (fun c => ?_) (fun c => ?_)
  · replace h := ite_t c h
    have g9 := hE0 _ (Option.some.inj h).symm
    exact g_mask [true, true, true, false, false, false, false, false] rfl g9
  · replace h := ite_f c h
    refine g_aload_n C.c dX10_seasonOf_133 rfl (i := 0) rfl ?_
    refine gf_10_43 C dX10_seasonOf_134 ?_
    refine g_bipush C.c dX10_seasonOf_137 (v := (12 : Int32)) (by decide) ?_
    refine g_aload_n C.c dX10_seasonOf_139 rfl (i := 0) rfl ?_
    refine gf_10_125 C dX10_seasonOf_140 ?_
    refine g_imul C.c dX10_seasonOf_143 ?_
    refine g_iload_n C.c dX10_seasonOf_144 rfl (i := 3) rfl ?_
    refine g_iadd C.c dX10_seasonOf_145 ?_
    refine g_iconst C.c dX10_seasonOf_146 (v := (0 : Int32)) (by decide) ?_
    obtain ⟨c13, h⟩ := chk h
    refine g_iast C dX10_seasonOf_147 rfl c13 ?_
    refine g_iinc C.c (i := 3) (y := (1 : Int32)) (L' := [some (.ref (kad K 0)), some (.int x1), some (.int x2), some (.int (x3 + (1 : Int32))), none, none, none, none]) dX10_seasonOf_148 rfl (by decide) (Nat.le_of_ble_eq_true rfl) rfl ?_
    refine g_goto C.c (tgt := 128) dX10_seasonOf_151 (by decide) ?_
    have g9 := hI _ (Option.some.inj h).symm
    exact g_mask [true, true, true, true, false, false, false, false] rfl g9
set_option maxRecDepth 4000 in
theorem bX10_seasonOf_b236 {K : KT} {x1 : Int32} {x2 : Int32} {x3 : Int32} {x4 : Int32} {x6 : Int32} {y0 : Int32} {σ : Sg} {o : (Int32 × Int32 × Sg) ⊕ ((Int32 × Sg))} (C : Cx K layM cX10_seasonOf RX10 8 (8) (some .int))  (hI : ∀ s' : Int32 × Int32 × Sg, o = .inl s' → G K 182 [some (.ref (kad K 0)), some (.int x1), some (.int x2), some (.int x3), some (.int x4), some (.int s'.1), some (.int s'.2.1), none] [] (Wd K layM s'.2.2)) (hE0 : ∀ t : Int32 × Sg, o = .inr t → G K 244 [some (.ref (kad K 0)), some (.int x1), some (.int x2), some (.int x3), some (.int x4), some (.int t.1), none, none] [] (Wd K layM t.2)) (h : fX10_seasonOf_b236 x1 x2 x3 x4 x6 y0 σ = some o) : G K 236 [some (.ref (kad K 0)), some (.int x1), some (.int x2), some (.int x3), some (.int x4), none, some (.int x6), none] [.int y0] (Wd K layM σ) := by
  unfold fX10_seasonOf_b236 at h
  refine g_istore C.c (i := 5) (L' := [some (.ref (kad K 0)), some (.int x1), some (.int x2), some (.int x3), some (.int x4), some (.int y0), some (.int x6), none]) dX10_seasonOf_236 (Nat.le_of_ble_eq_true rfl) rfl ?_
  refine g_iinc C.c (i := 6) (y := (1 : Int32)) (L' := [some (.ref (kad K 0)), some (.int x1), some (.int x2), some (.int x3), some (.int x4), some (.int y0), some (.int (x6 + (1 : Int32))), none]) dX10_seasonOf_238 rfl (by decide) (Nat.le_of_ble_eq_true rfl) rfl ?_
  refine g_goto C.c (tgt := 182) dX10_seasonOf_241 (by decide) ?_
  have g9 := hI _ (Option.some.inj h).symm
  exact g_mask [true, true, true, true, true, true, true, false] rfl g9
set_option maxRecDepth 4000 in
theorem bX10_seasonOf_b182 {K : KT} {x1 : Int32} {x2 : Int32} {x3 : Int32} {x4 : Int32} {x5 : Int32} {x6 : Int32} {σ : Sg} {o : (Int32 × Int32 × Sg) ⊕ ((Int32 × Sg))} (C : Cx K layM cX10_seasonOf RX10 8 (8) (some .int))  (hI : ∀ s' : Int32 × Int32 × Sg, o = .inl s' → G K 182 [some (.ref (kad K 0)), some (.int x1), some (.int x2), some (.int x3), some (.int x4), some (.int s'.1), some (.int s'.2.1), none] [] (Wd K layM s'.2.2)) (hE0 : ∀ t : Int32 × Sg, o = .inr t → G K 244 [some (.ref (kad K 0)), some (.int x1), some (.int x2), some (.int x3), some (.int x4), some (.int t.1), none, none] [] (Wd K layM t.2)) (h : fX10_seasonOf_b182 x1 x2 x3 x4 x5 x6 σ = some o) : G K 182 [some (.ref (kad K 0)), some (.int x1), some (.int x2), some (.int x3), some (.int x4), some (.int x5), some (.int x6), none] [] (Wd K layM σ) := by
  unfold fX10_seasonOf_b182 at h
  refine g_iload C.c dX10_seasonOf_182 (i := 6) rfl ?_
  refine g_iload C.c dX10_seasonOf_184 (i := 4) rfl ?_
  refine g_icmp_gt C.c (tgt := 244) dX10_seasonOf_186 (by decide) (fun c => ?_) (fun c => ?_)
  · replace h := ite_t c h
    have g9 := hE0 _ (Option.some.inj h).symm
    exact g_mask [true, true, true, true, true, true, false, false] rfl g9
  · replace h := ite_f c h
    refine g_aload_n C.c dX10_seasonOf_189 rfl (i := 0) rfl ?_
    refine gf_10_40 C dX10_seasonOf_190 ?_
    refine g_bipush C.c dX10_seasonOf_193 (v := (12 : Int32)) (by decide) ?_
    refine g_iload_n C.c dX10_seasonOf_195 rfl (i := 3) rfl ?_
    refine g_imul C.c dX10_seasonOf_196 ?_
    refine g_iload C.c dX10_seasonOf_197 (i := 6) rfl ?_
    refine g_iadd C.c dX10_seasonOf_199 ?_
    obtain ⟨c16, h⟩ := chk h
    refine g_iald C dX10_seasonOf_200 rfl c16 ?_
    refine g_aload_n C.c dX10_seasonOf_201 rfl (i := 0) rfl ?_
    refine gf_10_43 C dX10_seasonOf_202 ?_
    refine g_bipush C.c dX10_seasonOf_205 (v := (12 : Int32)) (by decide) ?_
    refine g_iload_n C.c dX10_seasonOf_207 rfl (i := 3) rfl ?_
    refine g_imul C.c dX10_seasonOf_208 ?_
    refine g_bipush C.c dX10_seasonOf_209 (v := (12 : Int32)) (by decide) ?_
    refine g_iadd C.c dX10_seasonOf_211 ?_
    refine g_iload C.c dX10_seasonOf_212 (i := 4) rfl ?_
    refine g_iadd C.c dX10_seasonOf_214 ?_
    refine g_iload C.c dX10_seasonOf_215 (i := 6) rfl ?_
    refine g_isub C.c dX10_seasonOf_217 ?_
    obtain ⟨c17, h⟩ := chk h
    refine g_iald C dX10_seasonOf_218 rfl c17 ?_
    refine g_iadd C.c dX10_seasonOf_219 ?_
    refine g_istore C.c (i := 7) (L' := [some (.ref (kad K 0)), some (.int x1), some (.int x2), some (.int x3), some (.int x4), some (.int x5), some (.int x6), some (.int ((rI σ 11 ((((12 : Int32) * x3) + x6)).toNatClampNeg) + (rI σ 12 ((((((12 : Int32) * x3) + (12 : Int32)) + x4) - x6)).toNatClampNeg)))]) dX10_seasonOf_220 (Nat.le_of_ble_eq_true rfl) rfl ?_
    refine g_iload C.c dX10_seasonOf_222 (i := 7) rfl ?_
    refine g_iload C.c dX10_seasonOf_224 (i := 5) rfl ?_
    refine g_icmp_le C.c (tgt := 234) dX10_seasonOf_226 (by decide) (fun c => ?_) (fun c => ?_)
    · replace h := ite_t c h
      refine g_iload C.c dX10_seasonOf_234 (i := 5) rfl ?_
      exact g_mask [true, true, true, true, true, false, true, false] rfl (bX10_seasonOf_b236 C hI hE0 h)
    · replace h := ite_f c h
      refine g_iload C.c dX10_seasonOf_229 (i := 7) rfl ?_
      refine g_goto C.c (tgt := 236) dX10_seasonOf_231 (by decide) ?_
      exact g_mask [true, true, true, true, true, false, true, false] rfl (bX10_seasonOf_b236 C hI hE0 h)
set_option maxRecDepth 4000 in
theorem bX10_seasonOf_b168 {K : KT} {x1 : Int32} {x2 : Int32} {x3 : Int32} {x4 : Int32} {σ : Sg} {o : (Int32 × Sg) ⊕ ((Sg))} (C : Cx K layM cX10_seasonOf RX10 8 (8) (some .int))  (hI : ∀ s' : Int32 × Sg, o = .inl s' → G K 168 [some (.ref (kad K 0)), some (.int x1), some (.int x2), some (.int x3), some (.int s'.1), none, none, none] [] (Wd K layM s'.2)) (hE0 : ∀ t : Sg, o = .inr t → G K 264 [some (.ref (kad K 0)), some (.int x1), some (.int x2), some (.int x3), none, none, none, none] [] (Wd K layM t)) (h : fX10_seasonOf_b168 x1 x2 x3 x4 σ = some o) : G K 168 [some (.ref (kad K 0)), some (.int x1), some (.int x2), some (.int x3), some (.int x4), none, none, none] [] (Wd K layM σ) := by
  unfold fX10_seasonOf_b168 at h
  refine g_iload C.c dX10_seasonOf_168 (i := 4) rfl ?_
  refine g_iload_n C.c dX10_seasonOf_170 rfl (i := 1) rfl ?_
  refine g_icmp_gt C.c (tgt := 264) dX10_seasonOf_171 (by decide) (fun c => ?_) (fun c => ?_)
  · replace h := ite_t c h
    have g9 := hE0 _ (Option.some.inj h).symm
    exact g_mask [true, true, true, true, false, false, false, false] rfl g9
  · replace h := ite_f c h
    refine g_ldcw C.c (v := (-100000000 : Int32)) aw_1105 dX10_seasonOf_174 ?_
    refine g_istore C.c (i := 5) (L' := [some (.ref (kad K 0)), some (.int x1), some (.int x2), some (.int x3), some (.int x4), some (.int (-100000000 : Int32)), none, none]) dX10_seasonOf_177 (Nat.le_of_ble_eq_true rfl) rfl ?_
    refine g_iconst C.c dX10_seasonOf_179 (v := (0 : Int32)) (by decide) ?_
    refine g_istore C.c (i := 6) (L' := [some (.ref (kad K 0)), some (.int x1), some (.int x2), some (.int x3), some (.int x4), some (.int (-100000000 : Int32)), some (.int (0 : Int32)), none]) dX10_seasonOf_180 (Nat.le_of_ble_eq_true rfl) rfl ?_
    refine g_mask [true, true, true, true, true, true, true, false] rfl ?_
    refine lp_bind (Gh := fun s => G K 182 [some (.ref (kad K 0)), some (.int x1), some (.int x2), some (.int x3), some (.int x4), some (.int s.1), some (.int s.2.1), none] [] (Wd K layM s.2.2)) h (fun s o2 hf gI gE => ?_)
    refine bX10_seasonOf_b182 C gI (fun t18 e => ?_) hf
    · have h := gE _ e
      refine g_aload_n C.c dX10_seasonOf_244 rfl (i := 0) rfl ?_
      refine gf_10_43 C dX10_seasonOf_245 ?_
      refine g_bipush C.c dX10_seasonOf_248 (v := (12 : Int32)) (by decide) ?_
      refine g_iload_n C.c dX10_seasonOf_250 rfl (i := 3) rfl ?_
      refine g_imul C.c dX10_seasonOf_251 ?_
      refine g_iload C.c dX10_seasonOf_252 (i := 4) rfl ?_
      refine g_iadd C.c dX10_seasonOf_254 ?_
      refine g_iload C.c dX10_seasonOf_255 (i := 5) rfl ?_
      obtain ⟨c20, h⟩ := chk h
      refine g_iast C dX10_seasonOf_257 rfl c20 ?_
      refine g_iinc C.c (i := 4) (y := (1 : Int32)) (L' := [some (.ref (kad K 0)), some (.int x1), some (.int x2), some (.int x3), some (.int (x4 + (1 : Int32))), some (.int t18.1), none, none]) dX10_seasonOf_258 rfl (by decide) (Nat.le_of_ble_eq_true rfl) rfl ?_
      refine g_goto C.c (tgt := 168) dX10_seasonOf_261 (by decide) ?_
      have g9 := hI _ (Option.some.inj h).symm
      exact g_mask [true, true, true, true, true, false, false, false] rfl g9
set_option maxRecDepth 4000 in
theorem bX10_seasonOf_b161 {K : KT} {x1 : Int32} {x2 : Int32} {x3 : Int32} {σ : Sg} {o : (Int32 × Sg) ⊕ ((Sg))} (C : Cx K layM cX10_seasonOf RX10 8 (8) (some .int))  (hI : ∀ s' : Int32 × Sg, o = .inl s' → G K 161 [some (.ref (kad K 0)), some (.int x1), some (.int x2), some (.int s'.1), none, none, none, none] [] (Wd K layM s'.2)) (hE0 : ∀ t : Sg, o = .inr t → G K 270 [some (.ref (kad K 0)), some (.int x1), some (.int x2), none, none, none, none, none] [] (Wd K layM t)) (h : fX10_seasonOf_b161 x1 x2 x3 σ = some o) : G K 161 [some (.ref (kad K 0)), some (.int x1), some (.int x2), some (.int x3), none, none, none, none] [] (Wd K layM σ) := by
  unfold fX10_seasonOf_b161 at h
  refine g_iload_n C.c dX10_seasonOf_161 rfl (i := 3) rfl ?_
  refine g_if_lt C.c (tgt := 270) dX10_seasonOf_162 (by decide) (fun c => ?_) (fun c => ?_)
  · replace h := ite_t c h
    have g9 := hE0 _ (Option.some.inj h).symm
    exact g_mask [true, true, true, false, false, false, false, false] rfl g9
  · replace h := ite_f c h
    refine g_iconst C.c dX10_seasonOf_165 (v := (0 : Int32)) (by decide) ?_
    refine g_istore C.c (i := 4) (L' := [some (.ref (kad K 0)), some (.int x1), some (.int x2), some (.int x3), some (.int (0 : Int32)), none, none, none]) dX10_seasonOf_166 (Nat.le_of_ble_eq_true rfl) rfl ?_
    refine g_mask [true, true, true, true, true, false, false, false] rfl ?_
    refine lp_bind (Gh := fun s => G K 168 [some (.ref (kad K 0)), some (.int x1), some (.int x2), some (.int x3), some (.int s.1), none, none, none] [] (Wd K layM s.2)) h (fun s o2 hf gI gE => ?_)
    refine bX10_seasonOf_b168 C gI (fun t21 e => ?_) hf
    · have h := gE _ e
      refine g_iinc C.c (i := 3) (y := (-1 : Int32)) (L' := [some (.ref (kad K 0)), some (.int x1), some (.int x2), some (.int (x3 + (-1 : Int32))), none, none, none, none]) dX10_seasonOf_264 rfl (by decide) (Nat.le_of_ble_eq_true rfl) rfl ?_
      refine g_goto C.c (tgt := 161) dX10_seasonOf_267 (by decide) ?_
      have g9 := hI _ (Option.some.inj h).symm
      exact g_mask [true, true, true, true, false, false, false, false] rfl g9
set_option maxRecDepth 4000 in
theorem bX10_seasonOf_b282 {K : KT} {x1 : Int32} {x2 : Int32} {σ : Sg} {o : Int32 × Sg} (C : Cx K layM cX10_seasonOf RX10 8 (8) (some .int))  (hQ : Rk K layM (okI o)) (h : fX10_seasonOf_b282 x1 x2 σ = some o) : G K 282 [some (.ref (kad K 0)), some (.int x1), some (.int x2), none, none, none, none, none] [] (Wd K layM σ) := by
  unfold fX10_seasonOf_b282 at h
  refine g_iload_n C.c dX10_seasonOf_282 rfl (i := 2) rfl ?_
  refine g_if_ne C.c (tgt := 295) dX10_seasonOf_283 (by decide) (fun c => ?_) (fun c => ?_)
  · replace h := ite_f c h
    refine g_iconst C.c dX10_seasonOf_295 (v := (-1 : Int32)) (by decide) ?_
    obtain rfl := Option.some.inj h
    exact g_iret C hQ dX10_seasonOf_296 rfl ⟨rfl, rfl⟩
  · replace h := ite_t c h
    refine g_aload_n C.c dX10_seasonOf_286 rfl (i := 0) rfl ?_
    refine gf_10_43 C dX10_seasonOf_287 ?_
    refine g_iload_n C.c dX10_seasonOf_290 rfl (i := 1) rfl ?_
    obtain ⟨c25, h⟩ := chk h
    refine g_iald C dX10_seasonOf_291 rfl c25 ?_
    refine g_goto C.c (tgt := 296) dX10_seasonOf_292 (by decide) ?_
    obtain rfl := Option.some.inj h
    exact g_iret C hQ dX10_seasonOf_296 rfl ⟨rfl, rfl⟩
set_option maxRecDepth 4000 in
theorem bX10_seasonOf_b314 {K : KT} {x2 : Int32} {x3 : Int32} {x4 : Int32} {x5 : Int32} {σ : Sg} {o : (Int32 × Sg) ⊕ ((Int32 × Sg))} (C : Cx K layM cX10_seasonOf RX10 8 (8) (some .int))  (hI : ∀ s' : Int32 × Sg, o = .inl s' → G K 314 [some (.ref (kad K 0)), none, some (.int x2), some (.int x3), some (.int s'.1), some (.int x5), none, none] [] (Wd K layM s'.2)) (hE0 : ∀ t : Int32 × Sg, o = .inr t → G K 367 [some (.ref (kad K 0)), none, some (.int x2), some (.int x3), some (.int t.1), some (.int x5), none, none] [] (Wd K layM t.2)) (h : fX10_seasonOf_b314 x2 x3 x4 x5 σ = some o) : G K 314 [some (.ref (kad K 0)), none, some (.int x2), some (.int x3), some (.int x4), some (.int x5), none, none] [] (Wd K layM σ) := by
  unfold fX10_seasonOf_b314 at h
  refine g_aload_n C.c dX10_seasonOf_314 rfl (i := 0) rfl ?_
  refine gf_10_40 C dX10_seasonOf_315 ?_
  refine g_bipush C.c dX10_seasonOf_318 (v := (12 : Int32)) (by decide) ?_
  refine g_iload C.c dX10_seasonOf_320 (i := 5) rfl ?_
  refine g_imul C.c dX10_seasonOf_322 ?_
  refine g_iload C.c dX10_seasonOf_323 (i := 4) rfl ?_
  refine g_iadd C.c dX10_seasonOf_325 ?_
  obtain ⟨c26, h⟩ := chk h
  refine g_iald C dX10_seasonOf_326 rfl c26 ?_
  refine g_aload_n C.c dX10_seasonOf_327 rfl (i := 0) rfl ?_
  refine gf_10_43 C dX10_seasonOf_328 ?_
  refine g_bipush C.c dX10_seasonOf_331 (v := (12 : Int32)) (by decide) ?_
  refine g_iload C.c dX10_seasonOf_333 (i := 5) rfl ?_
  refine g_imul C.c dX10_seasonOf_335 ?_
  refine g_bipush C.c dX10_seasonOf_336 (v := (12 : Int32)) (by decide) ?_
  refine g_iadd C.c dX10_seasonOf_338 ?_
  refine g_iload_n C.c dX10_seasonOf_339 rfl (i := 3) rfl ?_
  refine g_iadd C.c dX10_seasonOf_340 ?_
  refine g_iload C.c dX10_seasonOf_341 (i := 4) rfl ?_
  refine g_isub C.c dX10_seasonOf_343 ?_
  obtain ⟨c27, h⟩ := chk h
  refine g_iald C dX10_seasonOf_344 rfl c27 ?_
  refine g_iadd C.c dX10_seasonOf_345 ?_
  refine g_aload_n C.c dX10_seasonOf_346 rfl (i := 0) rfl ?_
  refine gf_10_43 C dX10_seasonOf_347 ?_
  refine g_bipush C.c dX10_seasonOf_350 (v := (12 : Int32)) (by decide) ?_
  refine g_iload C.c dX10_seasonOf_352 (i := 5) rfl ?_
  refine g_imul C.c dX10_seasonOf_354 ?_
  refine g_iload_n C.c dX10_seasonOf_355 rfl (i := 3) rfl ?_
  refine g_iadd C.c dX10_seasonOf_356 ?_
  obtain ⟨c28, h⟩ := chk h
  refine g_iald C dX10_seasonOf_357 rfl c28 ?_
  refine g_icmp_ge C.c (tgt := 367) dX10_seasonOf_358 (by decide) (fun c => ?_) (fun c => ?_)
  · replace h := ite_t c h
    have g9 := hE0 _ (Option.some.inj h).symm
    exact g_mask [true, false, true, true, true, true, false, false] rfl g9
  · replace h := ite_f c h
    refine g_iinc C.c (i := 4) (y := (1 : Int32)) (L' := [some (.ref (kad K 0)), none, some (.int x2), some (.int x3), some (.int (x4 + (1 : Int32))), some (.int x5), none, none]) dX10_seasonOf_361 rfl (by decide) (Nat.le_of_ble_eq_true rfl) rfl ?_
    refine g_goto C.c (tgt := 314) dX10_seasonOf_364 (by decide) ?_
    have g9 := hI _ (Option.some.inj h).symm
    exact g_mask [true, false, true, true, true, true, false, false] rfl g9
set_option maxRecDepth 4000 in
theorem bX10_seasonOf_b305 {K : KT} {x2 : Int32} {x3 : Int32} {x4 : Int32} {x5 : Int32} {σ : Sg} {o : (Int32 × Int32 × Int32 × Sg) ⊕ ((Int32 × Sg))} (C : Cx K layM cX10_seasonOf RX10 8 (8) (some .int))  (hI : ∀ s' : Int32 × Int32 × Int32 × Sg, o = .inl s' → G K 305 [some (.ref (kad K 0)), none, some (.int x2), some (.int s'.1), some (.int s'.2.1), some (.int s'.2.2.1), none, none] [] (Wd K layM s'.2.2.2)) (hE0 : ∀ t : Int32 × Sg, o = .inr t → G K 378 [none, none, none, none, some (.int t.1), none, none, none] [] (Wd K layM t.2)) (h : fX10_seasonOf_b305 x2 x3 x4 x5 σ = some o) : G K 305 [some (.ref (kad K 0)), none, some (.int x2), some (.int x3), some (.int x4), some (.int x5), none, none] [] (Wd K layM σ) := by
  unfold fX10_seasonOf_b305 at h
  refine g_iload C.c dX10_seasonOf_305 (i := 5) rfl ?_
  refine g_iload_n C.c dX10_seasonOf_307 rfl (i := 2) rfl ?_
  refine g_icmp_ge C.c (tgt := 378) dX10_seasonOf_308 (by decide) (fun c => ?_) (fun c => ?_)
  · replace h := ite_t c h
    have g9 := hE0 _ (Option.some.inj h).symm
    exact g_mask [false, false, false, false, true, false, false, false] rfl g9
  · replace h := ite_f c h
    refine g_iconst C.c dX10_seasonOf_311 (v := (0 : Int32)) (by decide) ?_
    refine g_istore C.c (i := 4) (L' := [some (.ref (kad K 0)), none, some (.int x2), some (.int x3), some (.int (0 : Int32)), some (.int x5), none, none]) dX10_seasonOf_312 (Nat.le_of_ble_eq_true rfl) rfl ?_
    refine g_mask [true, false, true, true, true, true, false, false] rfl ?_
    refine lp_bind (Gh := fun s => G K 314 [some (.ref (kad K 0)), none, some (.int x2), some (.int x3), some (.int s.1), some (.int x5), none, none] [] (Wd K layM s.2)) h (fun s o2 hf gI gE => ?_)
    refine bX10_seasonOf_b314 C gI (fun t29 e => ?_) hf
    · have h := gE _ e
      refine g_iload_n C.c dX10_seasonOf_367 rfl (i := 3) rfl ?_
      refine g_iload C.c dX10_seasonOf_368 (i := 4) rfl ?_
      refine g_isub C.c dX10_seasonOf_370 ?_
      refine g_istore_n C.c (i := 3) (L' := [some (.ref (kad K 0)), none, some (.int x2), some (.int (x3 - t29.1)), some (.int t29.1), some (.int x5), none, none]) dX10_seasonOf_371 rfl (Nat.le_of_ble_eq_true rfl) rfl ?_
      refine g_iinc C.c (i := 5) (y := (1 : Int32)) (L' := [some (.ref (kad K 0)), none, some (.int x2), some (.int (x3 - t29.1)), some (.int t29.1), some (.int (x5 + (1 : Int32))), none, none]) dX10_seasonOf_372 rfl (by decide) (Nat.le_of_ble_eq_true rfl) rfl ?_
      refine g_goto C.c (tgt := 305) dX10_seasonOf_375 (by decide) ?_
      have g9 := hI _ (Option.some.inj h).symm
      exact g_mask [true, false, true, true, true, true, false, false] rfl g9
set_option maxRecDepth 4000 in
theorem bX10_seasonOf_b0 {K : KT} {x1 : Int32} {x2 : Int32} {σ : Sg} {o : Int32 × Sg} (C : Cx K layM cX10_seasonOf RX10 8 (8) (some .int))  (hQ : Rk K layM (okI o)) (h : fX10_seasonOf_b0 x1 x2 σ = some o) : G K 0 [some (.ref (kad K 0)), some (.int x1), some (.int x2), none, none, none, none, none] [] (Wd K layM σ) := by
  unfold fX10_seasonOf_b0 at h
  refine g_iconst C.c dX10_seasonOf_0 (v := (0 : Int32)) (by decide) ?_
  refine g_istore_n C.c (i := 3) (L' := [some (.ref (kad K 0)), some (.int x1), some (.int x2), some (.int (0 : Int32)), none, none, none, none]) dX10_seasonOf_1 rfl (Nat.le_of_ble_eq_true rfl) rfl ?_
  refine g_mask [true, true, true, true, false, false, false, false] rfl ?_
  refine lp_bind (Gh := fun s => G K 2 [some (.ref (kad K 0)), some (.int x1), some (.int x2), some (.int s.1), none, none, none, none] [] (Wd K layM s.2)) h (fun s o2 hf gI gE => ?_)
  refine bX10_seasonOf_b2 C gI (fun t11 e => ?_) hf
  · have h := gE _ e
    refine g_iconst C.c dX10_seasonOf_126 (v := (0 : Int32)) (by decide) ?_
    refine g_istore_n C.c (i := 3) (L' := [some (.ref (kad K 0)), some (.int x1), some (.int x2), some (.int (0 : Int32)), none, none, none, none]) dX10_seasonOf_127 rfl (Nat.le_of_ble_eq_true rfl) rfl ?_
    refine g_mask [true, true, true, true, false, false, false, false] rfl ?_
    refine lp_bind (Gh := fun s => G K 128 [some (.ref (kad K 0)), some (.int x1), some (.int x2), some (.int s.1), none, none, none, none] [] (Wd K layM s.2)) h (fun s o2 hf gI gE => ?_)
    refine bX10_seasonOf_b128 C gI (fun t14 e => ?_) hf
    · have h := gE _ e
      refine g_aload_n C.c dX10_seasonOf_154 rfl (i := 0) rfl ?_
      refine gf_10_125 C dX10_seasonOf_155 ?_
      refine g_iconst C.c dX10_seasonOf_158 (v := (1 : Int32)) (by decide) ?_
      refine g_isub C.c dX10_seasonOf_159 ?_
      refine g_istore_n C.c (i := 3) (L' := [some (.ref (kad K 0)), some (.int x1), some (.int x2), some (.int ((rI t14 0 15) - (1 : Int32))), none, none, none, none]) dX10_seasonOf_160 rfl (Nat.le_of_ble_eq_true rfl) rfl ?_
      refine g_mask [true, true, true, true, false, false, false, false] rfl ?_
      refine lp_bind (Gh := fun s => G K 161 [some (.ref (kad K 0)), some (.int x1), some (.int x2), some (.int s.1), none, none, none, none] [] (Wd K layM s.2)) h (fun s o2 hf gI gE => ?_)
      refine bX10_seasonOf_b161 C gI (fun t23 e => ?_) hf
      · have h := gE _ e
        refine g_iload_n C.c dX10_seasonOf_270 rfl (i := 2) rfl ?_
        refine g_if_eq C.c (tgt := 282) dX10_seasonOf_271 (by decide) (fun c => ?_) (fun c => ?_)
        · replace h := ite_t c h
          exact g_mask [true, true, true, false, false, false, false, false] rfl (bX10_seasonOf_b282 C hQ h)
        · replace h := ite_f c h
          refine g_iload_n C.c dX10_seasonOf_274 rfl (i := 2) rfl ?_
          refine g_aload_n C.c dX10_seasonOf_275 rfl (i := 0) rfl ?_
          refine gf_10_125 C dX10_seasonOf_276 ?_
          refine g_icmp_le C.c (tgt := 297) dX10_seasonOf_279 (by decide) (fun c => ?_) (fun c => ?_)
          · replace h := ite_t c h
            refine g_iload_n C.c dX10_seasonOf_297 rfl (i := 1) rfl ?_
            refine g_istore_n C.c (i := 3) (L' := [some (.ref (kad K 0)), some (.int x1), some (.int x2), some (.int x1), none, none, none, none]) dX10_seasonOf_298 rfl (Nat.le_of_ble_eq_true rfl) rfl ?_
            refine g_iconst C.c dX10_seasonOf_299 (v := (0 : Int32)) (by decide) ?_
            refine g_istore C.c (i := 4) (L' := [some (.ref (kad K 0)), some (.int x1), some (.int x2), some (.int x1), some (.int (0 : Int32)), none, none, none]) dX10_seasonOf_300 (Nat.le_of_ble_eq_true rfl) rfl ?_
            refine g_iconst C.c dX10_seasonOf_302 (v := (0 : Int32)) (by decide) ?_
            refine g_istore C.c (i := 5) (L' := [some (.ref (kad K 0)), some (.int x1), some (.int x2), some (.int x1), some (.int (0 : Int32)), some (.int (0 : Int32)), none, none]) dX10_seasonOf_303 (Nat.le_of_ble_eq_true rfl) rfl ?_
            refine g_mask [true, false, true, true, true, true, false, false] rfl ?_
            refine lp_bind (Gh := fun s => G K 305 [some (.ref (kad K 0)), none, some (.int x2), some (.int s.1), some (.int s.2.1), some (.int s.2.2.1), none, none] [] (Wd K layM s.2.2.2)) h (fun s o2 hf gI gE => ?_)
            refine bX10_seasonOf_b305 C gI (fun t31 e => ?_) hf
            · have h := gE _ e
              refine g_iload C.c dX10_seasonOf_378 (i := 4) rfl ?_
              obtain rfl := Option.some.inj h
              exact g_iret C hQ dX10_seasonOf_380 rfl ⟨rfl, rfl⟩
          · replace h := ite_f c h
            exact g_mask [true, true, true, false, false, false, false, false] rfl (bX10_seasonOf_b282 C hQ h)
def fX10_seasonOf (a0 : Int32) (a1 : Int32) (σ : Sg) : Option (Int32 × Sg) := fX10_seasonOf_b0 a0 a1 σ
theorem ct_X10_seasonOf {a0 : Int32} {a1 : Int32} {σ : Sg} {p : Int32 × Sg} (h : fX10_seasonOf a0 a1 σ = some p) : Ct layM yX10_seasonOf cX10_seasonOf 8 (some .int) 8 (fun ad => [.ref (ad 0), .int a0, .int a1]) σ (okI p) :=
 ct_of (L0 := fun ad => [some (.ref (ad 0)), some (.int a0), some (.int a1), none, none, none, none, none]) (by decide) (fun _ => Nat.le_of_ble_eq_true rfl) (fun _ => rfl) (fun K C hQ => g_mask [true, true, true, false, false, false, false, false] rfl (bX10_seasonOf_b0 C hQ h))
-- X10_season
theorem dX10_season_0 : decode cX10_season 0 = .ok (.aload_n 0, 1) := by decide +kernel
theorem dX10_season_1 : decode cX10_season 1 = .ok (.invokevirtual 262, 3) := by decide +kernel
theorem dX10_season_4 : decode cX10_season 4 = .ok (.ifCond .eq 6, 3) := by decide +kernel
theorem dX10_season_7 : decode cX10_season 7 = .ok (.bipush (-103), 2) := by decide +kernel
theorem dX10_season_9 : decode cX10_season 9 = .ok (.ireturn, 1) := by decide +kernel
theorem dX10_season_10 : decode cX10_season 10 = .ok (.iload_n 1, 1) := by decide +kernel
theorem dX10_season_11 : decode cX10_season 11 = .ok (.invokestatic 245, 3) := by decide +kernel
theorem dX10_season_14 : decode cX10_season 14 = .ok (.ifCond .eq 24, 3) := by decide +kernel
theorem dX10_season_17 : decode cX10_season 17 = .ok (.iload_n 2, 1) := by decide +kernel
theorem dX10_season_18 : decode cX10_season 18 = .ok (.i2l, 1) := by decide +kernel
theorem dX10_season_19 : decode cX10_season 19 = .ok (.lconst 0, 1) := by decide +kernel
theorem dX10_season_20 : decode cX10_season 20 = .ok (.ldc2_w 266, 3) := by decide +kernel
theorem dX10_season_23 : decode cX10_season 23 = .ok (.invokestatic 102, 3) := by decide +kernel
theorem dX10_season_26 : decode cX10_season 26 = .ok (.ifCond .eq 12, 3) := by decide +kernel
theorem dX10_season_29 : decode cX10_season 29 = .ok (.aload_n 0, 1) := by decide +kernel
theorem dX10_season_30 : decode cX10_season 30 = .ok (.iload_n 1, 1) := by decide +kernel
theorem dX10_season_31 : decode cX10_season 31 = .ok (.iload_n 2, 1) := by decide +kernel
theorem dX10_season_32 : decode cX10_season 32 = .ok (.invokevirtual 268, 3) := by decide +kernel
theorem dX10_season_35 : decode cX10_season 35 = .ok (.goto 5, 3) := by decide +kernel
theorem dX10_season_38 : decode cX10_season 38 = .ok (.bipush (-102), 2) := by decide +kernel
theorem dX10_season_40 : decode cX10_season 40 = .ok (.ireturn, 1) := by decide +kernel
theorem cw_X10_season : Cw yX10_season cX10_season 3 (some .int) 2 := ⟨aw_1109, aw_56, ⟨by decide, by decide⟩, by decide +kernel, by decide⟩
theorem kc_10_262 {K : KT} {cc : ByteArray} {nL d pc : Nat} {ret : Option FieldType} {L : List (Option Value)} {st : List Value} {σ : Sg} (C : Cx K layM cc RX10 nL d ret)    {p : Int32 × Sg} (hd : decode cc pc = .ok (.invokevirtual 262, 3)) (e : fX10_lacks σ = some p) (hdd : 1 + 1 ≤ d) (hLn : L.length = nL) (hr : (st.map fun v => v.category).sum ≤ 8) (k : G K (pc + 3) L (.int p.1 :: st) (Wd K layM p.2)) : G K pc L (.ref (kad K 0) :: st) (Wd K layM σ) :=
  g_callV C (As := []) (rest := st) (o := 0) (ci := 10) hd (ct_X10_lacks e) cw_X10_lacks (Or.inl aw_1110) aw_1112 aw_40 rfl rfl rfl hdd hLn rfl rfl hr (fun v τ q => by obtain ⟨rfl, rfl⟩ := q; exact k)
theorem kc_10_268 {K : KT} {cc : ByteArray} {nL d pc : Nat} {ret : Option FieldType} {L : List (Option Value)} {st : List Value} {σ : Sg} (C : Cx K layM cc RX10 nL d ret)  {a0 : Int32} {a1 : Int32}  {p : Int32 × Sg} (hd : decode cc pc = .ok (.invokevirtual 268, 3)) (e : fX10_seasonOf a0 a1 σ = some p) (hdd : 8 + 1 ≤ d) (hLn : L.length = nL) (hr : (st.map fun v => v.category).sum ≤ 8) (k : G K (pc + 3) L (.int p.1 :: st) (Wd K layM p.2)) : G K pc L (.int a1 :: .int a0 :: .ref (kad K 0) :: st) (Wd K layM σ) :=
  g_callV C (As := [.int a0, .int a1]) (rest := st) (o := 0) (ci := 10) hd (ct_X10_seasonOf e) cw_X10_seasonOf (Or.inl aw_1115) aw_1117 aw_41 rfl rfl rfl hdd hLn rfl rfl hr (fun v τ q => by obtain ⟨rfl, rfl⟩ := q; exact k)
def fX10_season_b0 (x1 : Int32) (x2 : Int32) (σ : Sg) : Option (Int32 × Sg) :=
  Option.bind (fX10_lacks σ) fun p1 => (if p1.1 = 0 then (Option.bind (fX10_areTugs x1 p1.2) fun p3 => (if p3.1 = 0 then (some ((-102 : Int32), p3.2)) else (Option.bind (fX10_in ((x2).toInt64) (0 : Int64) (5 : Int64) p3.2) fun p5 => (if p5.1 = 0 then (some ((-102 : Int32), p5.2)) else (Option.bind (fX10_seasonOf x1 x2 p5.2) fun p7 => (some (p7.1, p7.2))))))) else (some ((-103 : Int32), p1.2)))
set_option maxRecDepth 4000 in
theorem bX10_season_b0 {K : KT} {x1 : Int32} {x2 : Int32} {σ : Sg} {o : Int32 × Sg} (C : Cx K layM cX10_season RX10 3 (9) (some .int))  (hQ : Rk K layM (okI o)) (h : fX10_season_b0 x1 x2 σ = some o) : G K 0 [some (.ref (kad K 0)), some (.int x1), some (.int x2)] [] (Wd K layM σ) := by
  unfold fX10_season_b0 at h
  refine g_aload_n C.c dX10_season_0 rfl (i := 0) rfl ?_
  obtain ⟨p1, e2, h⟩ := Option.bind_eq_some_iff.mp h
  refine kc_10_262 C dX10_season_1 e2 (Nat.le_of_ble_eq_true rfl) rfl (Nat.le_of_ble_eq_true rfl) ?_
  refine g_if_eq C.c (tgt := 10) dX10_season_4 (by decide) (fun c => ?_) (fun c => ?_)
  · replace h := ite_t c h
    refine g_iload_n C.c dX10_season_10 rfl (i := 1) rfl ?_
    obtain ⟨p3, e4, h⟩ := Option.bind_eq_some_iff.mp h
    refine kc_10_245 C dX10_season_11 e4 (Nat.le_of_ble_eq_true rfl) rfl (Nat.le_of_ble_eq_true rfl) ?_
    refine g_if_eq C.c (tgt := 38) dX10_season_14 (by decide) (fun c => ?_) (fun c => ?_)
    · replace h := ite_t c h
      refine g_bipush C.c dX10_season_38 (v := (-102 : Int32)) (by decide) ?_
      obtain rfl := Option.some.inj h
      exact g_iret C hQ dX10_season_40 rfl ⟨rfl, rfl⟩
    · replace h := ite_f c h
      refine g_iload_n C.c dX10_season_17 rfl (i := 2) rfl ?_
      refine g_i2l C.c dX10_season_18 ?_
      refine g_lconst C.c dX10_season_19 (v := (0 : Int64)) (by decide) ?_
      refine g_ldc2 C.c (v := (5 : Int64)) aw_1114 dX10_season_20 ?_
      obtain ⟨p5, e6, h⟩ := Option.bind_eq_some_iff.mp h
      refine kc_10_102 C dX10_season_23 e6 (Nat.le_of_ble_eq_true rfl) rfl (Nat.le_of_ble_eq_true rfl) ?_
      refine g_if_eq C.c (tgt := 38) dX10_season_26 (by decide) (fun c => ?_) (fun c => ?_)
      · replace h := ite_t c h
        refine g_bipush C.c dX10_season_38 (v := (-102 : Int32)) (by decide) ?_
        obtain rfl := Option.some.inj h
        exact g_iret C hQ dX10_season_40 rfl ⟨rfl, rfl⟩
      · replace h := ite_f c h
        refine g_aload_n C.c dX10_season_29 rfl (i := 0) rfl ?_
        refine g_iload_n C.c dX10_season_30 rfl (i := 1) rfl ?_
        refine g_iload_n C.c dX10_season_31 rfl (i := 2) rfl ?_
        obtain ⟨p7, e8, h⟩ := Option.bind_eq_some_iff.mp h
        refine kc_10_268 C dX10_season_32 e8 (Nat.le_of_ble_eq_true rfl) rfl (Nat.le_of_ble_eq_true rfl) ?_
        refine g_goto C.c (tgt := 40) dX10_season_35 (by decide) ?_
        obtain rfl := Option.some.inj h
        exact g_iret C hQ dX10_season_40 rfl ⟨rfl, rfl⟩
  · replace h := ite_f c h
    refine g_bipush C.c dX10_season_7 (v := (-103 : Int32)) (by decide) ?_
    obtain rfl := Option.some.inj h
    exact g_iret C hQ dX10_season_9 rfl ⟨rfl, rfl⟩
def fX10_season (a0 : Int32) (a1 : Int32) (σ : Sg) : Option (Int32 × Sg) := fX10_season_b0 a0 a1 σ
theorem ct_X10_season {a0 : Int32} {a1 : Int32} {σ : Sg} {p : Int32 × Sg} (h : fX10_season a0 a1 σ = some p) : Ct layM yX10_season cX10_season 3 (some .int) 9 (fun ad => [.ref (ad 0), .int a0, .int a1]) σ (okI p) :=
 ct_of (L0 := fun ad => [some (.ref (ad 0)), some (.int a0), some (.int a1)]) (by decide) (fun _ => Nat.le_of_ble_eq_true rfl) (fun _ => rfl) (fun K C hQ => g_mask [true, true, true] rfl (bX10_season_b0 C hQ h))
-- X10_more
theorem dX10_more_0 : decode cX10_more 0 = .ok (.aload_n 0, 1) := by decide +kernel
theorem dX10_more_1 : decode cX10_more 1 = .ok (.invokevirtual 262, 3) := by decide +kernel
theorem dX10_more_4 : decode cX10_more 4 = .ok (.ifCond .eq 6, 3) := by decide +kernel
theorem dX10_more_7 : decode cX10_more 7 = .ok (.bipush (-103), 2) := by decide +kernel
theorem dX10_more_9 : decode cX10_more 9 = .ok (.ireturn, 1) := by decide +kernel
theorem dX10_more_10 : decode cX10_more 10 = .ok (.iload_n 1, 1) := by decide +kernel
theorem dX10_more_11 : decode cX10_more 11 = .ok (.i2l, 1) := by decide +kernel
theorem dX10_more_12 : decode cX10_more 12 = .ok (.lconst 1, 1) := by decide +kernel
theorem dX10_more_13 : decode cX10_more 13 = .ok (.ldc2_w 149, 3) := by decide +kernel
theorem dX10_more_16 : decode cX10_more 16 = .ok (.invokestatic 102, 3) := by decide +kernel
theorem dX10_more_19 : decode cX10_more 19 = .ok (.ifCond .eq 21, 3) := by decide +kernel
theorem dX10_more_22 : decode cX10_more 22 = .ok (.aload_n 0, 1) := by decide +kernel
theorem dX10_more_23 : decode cX10_more 23 = .ok (.iload_n 1, 1) := by decide +kernel
theorem dX10_more_24 : decode cX10_more 24 = .ok (.iconst 1, 1) := by decide +kernel
theorem dX10_more_25 : decode cX10_more 25 = .ok (.iadd, 1) := by decide +kernel
theorem dX10_more_26 : decode cX10_more 26 = .ok (.iconst 0, 1) := by decide +kernel
theorem dX10_more_27 : decode cX10_more 27 = .ok (.invokevirtual 268, 3) := by decide +kernel
theorem dX10_more_30 : decode cX10_more 30 = .ok (.aload_n 0, 1) := by decide +kernel
theorem dX10_more_31 : decode cX10_more 31 = .ok (.iload_n 1, 1) := by decide +kernel
theorem dX10_more_32 : decode cX10_more 32 = .ok (.iconst 0, 1) := by decide +kernel
theorem dX10_more_33 : decode cX10_more 33 = .ok (.invokevirtual 268, 3) := by decide +kernel
theorem dX10_more_36 : decode cX10_more 36 = .ok (.isub, 1) := by decide +kernel
theorem dX10_more_37 : decode cX10_more 37 = .ok (.goto 5, 3) := by decide +kernel
theorem dX10_more_40 : decode cX10_more 40 = .ok (.bipush (-102), 2) := by decide +kernel
theorem dX10_more_42 : decode cX10_more 42 = .ok (.ireturn, 1) := by decide +kernel
theorem cw_X10_more : Cw yX10_more cX10_more 2 (some .int) 1 := ⟨aw_1122, aw_56, ⟨by decide, by decide⟩, by decide +kernel, by decide⟩
def fX10_more_b0 (x1 : Int32) (σ : Sg) : Option (Int32 × Sg) :=
  Option.bind (fX10_lacks σ) fun p1 => (if p1.1 = 0 then (Option.bind (fX10_in ((x1).toInt64) (1 : Int64) (10 : Int64) p1.2) fun p3 => (if p3.1 = 0 then (some ((-102 : Int32), p3.2)) else (Option.bind (fX10_seasonOf (x1 + (1 : Int32)) (0 : Int32) p3.2) fun p5 => (Option.bind (fX10_seasonOf x1 (0 : Int32) p5.2) fun p7 => (some ((p5.1 - p7.1), p7.2)))))) else (some ((-103 : Int32), p1.2)))
set_option maxRecDepth 4000 in
theorem bX10_more_b0 {K : KT} {x1 : Int32} {σ : Sg} {o : Int32 × Sg} (C : Cx K layM cX10_more RX10 2 (9) (some .int))  (hQ : Rk K layM (okI o)) (h : fX10_more_b0 x1 σ = some o) : G K 0 [some (.ref (kad K 0)), some (.int x1)] [] (Wd K layM σ) := by
  unfold fX10_more_b0 at h
  refine g_aload_n C.c dX10_more_0 rfl (i := 0) rfl ?_
  obtain ⟨p1, e2, h⟩ := Option.bind_eq_some_iff.mp h
  refine kc_10_262 C dX10_more_1 e2 (Nat.le_of_ble_eq_true rfl) rfl (Nat.le_of_ble_eq_true rfl) ?_
  refine g_if_eq C.c (tgt := 10) dX10_more_4 (by decide) (fun c => ?_) (fun c => ?_)
  · replace h := ite_t c h
    refine g_iload_n C.c dX10_more_10 rfl (i := 1) rfl ?_
    refine g_i2l C.c dX10_more_11 ?_
    refine g_lconst C.c dX10_more_12 (v := (1 : Int64)) (by decide) ?_
    refine g_ldc2 C.c (v := (10 : Int64)) aw_1007 dX10_more_13 ?_
    obtain ⟨p3, e4, h⟩ := Option.bind_eq_some_iff.mp h
    refine kc_10_102 C dX10_more_16 e4 (Nat.le_of_ble_eq_true rfl) rfl (Nat.le_of_ble_eq_true rfl) ?_
    refine g_if_eq C.c (tgt := 40) dX10_more_19 (by decide) (fun c => ?_) (fun c => ?_)
    · replace h := ite_t c h
      refine g_bipush C.c dX10_more_40 (v := (-102 : Int32)) (by decide) ?_
      obtain rfl := Option.some.inj h
      exact g_iret C hQ dX10_more_42 rfl ⟨rfl, rfl⟩
    · replace h := ite_f c h
      refine g_aload_n C.c dX10_more_22 rfl (i := 0) rfl ?_
      refine g_iload_n C.c dX10_more_23 rfl (i := 1) rfl ?_
      refine g_iconst C.c dX10_more_24 (v := (1 : Int32)) (by decide) ?_
      refine g_iadd C.c dX10_more_25 ?_
      refine g_iconst C.c dX10_more_26 (v := (0 : Int32)) (by decide) ?_
      obtain ⟨p5, e6, h⟩ := Option.bind_eq_some_iff.mp h
      refine kc_10_268 C dX10_more_27 e6 (Nat.le_of_ble_eq_true rfl) rfl (Nat.le_of_ble_eq_true rfl) ?_
      refine g_aload_n C.c dX10_more_30 rfl (i := 0) rfl ?_
      refine g_iload_n C.c dX10_more_31 rfl (i := 1) rfl ?_
      refine g_iconst C.c dX10_more_32 (v := (0 : Int32)) (by decide) ?_
      obtain ⟨p7, e8, h⟩ := Option.bind_eq_some_iff.mp h
      refine kc_10_268 C dX10_more_33 e8 (Nat.le_of_ble_eq_true rfl) rfl (Nat.le_of_ble_eq_true rfl) ?_
      refine g_isub C.c dX10_more_36 ?_
      refine g_goto C.c (tgt := 42) dX10_more_37 (by decide) ?_
      obtain rfl := Option.some.inj h
      exact g_iret C hQ dX10_more_42 rfl ⟨rfl, rfl⟩
  · replace h := ite_f c h
    refine g_bipush C.c dX10_more_7 (v := (-103 : Int32)) (by decide) ?_
    obtain rfl := Option.some.inj h
    exact g_iret C hQ dX10_more_9 rfl ⟨rfl, rfl⟩
def fX10_more (a0 : Int32) (σ : Sg) : Option (Int32 × Sg) := fX10_more_b0 a0 σ
theorem ct_X10_more {a0 : Int32} {σ : Sg} {p : Int32 × Sg} (h : fX10_more a0 σ = some p) : Ct layM yX10_more cX10_more 2 (some .int) 9 (fun ad => [.ref (ad 0), .int a0]) σ (okI p) :=
 ct_of (L0 := fun ad => [some (.ref (ad 0)), some (.int a0)]) (by decide) (fun _ => Nat.le_of_ble_eq_true rfl) (fun _ => rfl) (fun K C hQ => g_mask [true, true] rfl (bX10_more_b0 C hQ h))
-- X10_drawn
theorem dX10_drawn_0 : decode cX10_drawn 0 = .ok (.aload_n 0, 1) := by decide +kernel
theorem dX10_drawn_1 : decode cX10_drawn 1 = .ok (.iload_n 1, 1) := by decide +kernel
theorem dX10_drawn_2 : decode cX10_drawn 2 = .ok (.invokevirtual 159, 3) := by decide +kernel
theorem dX10_drawn_5 : decode cX10_drawn 5 = .ok (.ifCond .ne 6, 3) := by decide +kernel
theorem dX10_drawn_8 : decode cX10_drawn 8 = .ok (.bipush (-101), 2) := by decide +kernel
theorem dX10_drawn_10 : decode cX10_drawn 10 = .ok (.ireturn, 1) := by decide +kernel
theorem dX10_drawn_11 : decode cX10_drawn 11 = .ok (.iload_n 2, 1) := by decide +kernel
theorem dX10_drawn_12 : decode cX10_drawn 12 = .ok (.invokestatic 245, 3) := by decide +kernel
theorem dX10_drawn_15 : decode cX10_drawn 15 = .ok (.ifCond .eq 21, 3) := by decide +kernel
theorem dX10_drawn_18 : decode cX10_drawn 18 = .ok (.iload 4, 2) := by decide +kernel
theorem dX10_drawn_20 : decode cX10_drawn 20 = .ok (.ifCond .lt 16, 3) := by decide +kernel
theorem dX10_drawn_23 : decode cX10_drawn 23 = .ok (.iload 5, 2) := by decide +kernel
theorem dX10_drawn_25 : decode cX10_drawn 25 = .ok (.i2l, 1) := by decide +kernel
theorem dX10_drawn_26 : decode cX10_drawn 26 = .ok (.lconst 0, 1) := by decide +kernel
theorem dX10_drawn_27 : decode cX10_drawn 27 = .ok (.ldc2_w 155, 3) := by decide +kernel
theorem dX10_drawn_30 : decode cX10_drawn 30 = .ok (.invokestatic 102, 3) := by decide +kernel
theorem dX10_drawn_33 : decode cX10_drawn 33 = .ok (.ifCond .ne 6, 3) := by decide +kernel
theorem dX10_drawn_36 : decode cX10_drawn 36 = .ok (.bipush (-102), 2) := by decide +kernel
theorem dX10_drawn_38 : decode cX10_drawn 38 = .ok (.ireturn, 1) := by decide +kernel
theorem dX10_drawn_39 : decode cX10_drawn 39 = .ok (.aload_n 0, 1) := by decide +kernel
theorem dX10_drawn_40 : decode cX10_drawn 40 = .ok (.iload_n 1, 1) := by decide +kernel
theorem dX10_drawn_41 : decode cX10_drawn 41 = .ok (.aload_n 0, 1) := by decide +kernel
theorem dX10_drawn_42 : decode cX10_drawn 42 = .ok (.iload_n 1, 1) := by decide +kernel
theorem dX10_drawn_43 : decode cX10_drawn 43 = .ok (.invokevirtual 235, 3) := by decide +kernel
theorem dX10_drawn_46 : decode cX10_drawn 46 = .ok (.iload_n 2, 1) := by decide +kernel
theorem dX10_drawn_47 : decode cX10_drawn 47 = .ok (.iload_n 3, 1) := by decide +kernel
theorem dX10_drawn_48 : decode cX10_drawn 48 = .ok (.invokevirtual 238, 3) := by decide +kernel
theorem dX10_drawn_51 : decode cX10_drawn 51 = .ok (.aload_n 0, 1) := by decide +kernel
theorem dX10_drawn_52 : decode cX10_drawn 52 = .ok (.getfield 206, 3) := by decide +kernel
theorem dX10_drawn_55 : decode cX10_drawn 55 = .ok (.ifCond .ne 5, 3) := by decide +kernel
theorem dX10_drawn_58 : decode cX10_drawn 58 = .ok (.iconst (-1), 1) := by decide +kernel
theorem dX10_drawn_59 : decode cX10_drawn 59 = .ok (.ireturn, 1) := by decide +kernel
theorem dX10_drawn_60 : decode cX10_drawn 60 = .ok (.aload_n 0, 1) := by decide +kernel
theorem dX10_drawn_61 : decode cX10_drawn 61 = .ok (.getfield 25, 3) := by decide +kernel
theorem dX10_drawn_64 : decode cX10_drawn 64 = .ok (.iconst 5, 1) := by decide +kernel
theorem dX10_drawn_65 : decode cX10_drawn 65 = .ok (.iload_n 1, 1) := by decide +kernel
theorem dX10_drawn_66 : decode cX10_drawn 66 = .ok (.imul, 1) := by decide +kernel
theorem dX10_drawn_67 : decode cX10_drawn 67 = .ok (.iconst 1, 1) := by decide +kernel
theorem dX10_drawn_68 : decode cX10_drawn 68 = .ok (.iadd, 1) := by decide +kernel
theorem dX10_drawn_69 : decode cX10_drawn 69 = .ok (.iaload, 1) := by decide +kernel
theorem dX10_drawn_70 : decode cX10_drawn 70 = .ok (.istore 6, 2) := by decide +kernel
theorem dX10_drawn_72 : decode cX10_drawn 72 = .ok (.iconst 0, 1) := by decide +kernel
theorem dX10_drawn_73 : decode cX10_drawn 73 = .ok (.istore 7, 2) := by decide +kernel
theorem dX10_drawn_75 : decode cX10_drawn 75 = .ok (.iload 7, 2) := by decide +kernel
theorem dX10_drawn_77 : decode cX10_drawn 77 = .ok (.aload_n 0, 1) := by decide +kernel
theorem dX10_drawn_78 : decode cX10_drawn 78 = .ok (.getfield 225, 3) := by decide +kernel
theorem dX10_drawn_81 : decode cX10_drawn 81 = .ok (.if_icmp .ge 47, 3) := by decide +kernel
theorem dX10_drawn_84 : decode cX10_drawn 84 = .ok (.aload_n 0, 1) := by decide +kernel
theorem dX10_drawn_85 : decode cX10_drawn 85 = .ok (.getfield 34, 3) := by decide +kernel
theorem dX10_drawn_88 : decode cX10_drawn 88 = .ok (.iload 7, 2) := by decide +kernel
theorem dX10_drawn_90 : decode cX10_drawn 90 = .ok (.iload 6, 2) := by decide +kernel
theorem dX10_drawn_92 : decode cX10_drawn 92 = .ok (.iastore, 1) := by decide +kernel
theorem dX10_drawn_93 : decode cX10_drawn 93 = .ok (.aload_n 0, 1) := by decide +kernel
theorem dX10_drawn_94 : decode cX10_drawn 94 = .ok (.getfield 31, 3) := by decide +kernel
theorem dX10_drawn_97 : decode cX10_drawn 97 = .ok (.iload 7, 2) := by decide +kernel
theorem dX10_drawn_99 : decode cX10_drawn 99 = .ok (.aload_n 0, 1) := by decide +kernel
theorem dX10_drawn_100 : decode cX10_drawn 100 = .ok (.getfield 37, 3) := by decide +kernel
theorem dX10_drawn_103 : decode cX10_drawn 103 = .ok (.iload 7, 2) := by decide +kernel
theorem dX10_drawn_105 : decode cX10_drawn 105 = .ok (.iaload, 1) := by decide +kernel
theorem dX10_drawn_106 : decode cX10_drawn 106 = .ok (.iastore, 1) := by decide +kernel
theorem dX10_drawn_107 : decode cX10_drawn 107 = .ok (.aload_n 0, 1) := by decide +kernel
theorem dX10_drawn_108 : decode cX10_drawn 108 = .ok (.iload 6, 2) := by decide +kernel
theorem dX10_drawn_110 : decode cX10_drawn 110 = .ok (.aload_n 0, 1) := by decide +kernel
theorem dX10_drawn_111 : decode cX10_drawn 111 = .ok (.getfield 31, 3) := by decide +kernel
theorem dX10_drawn_114 : decode cX10_drawn 114 = .ok (.iload 7, 2) := by decide +kernel
theorem dX10_drawn_116 : decode cX10_drawn 116 = .ok (.iaload, 1) := by decide +kernel
theorem dX10_drawn_117 : decode cX10_drawn 117 = .ok (.invokevirtual 228, 3) := by decide +kernel
theorem dX10_drawn_120 : decode cX10_drawn 120 = .ok (.istore 6, 2) := by decide +kernel
theorem dX10_drawn_122 : decode cX10_drawn 122 = .ok (.iinc 7 1, 3) := by decide +kernel
theorem dX10_drawn_125 : decode cX10_drawn 125 = .ok (.goto (-50), 3) := by decide +kernel
theorem dX10_drawn_128 : decode cX10_drawn 128 = .ok (.aload_n 0, 1) := by decide +kernel
theorem dX10_drawn_129 : decode cX10_drawn 129 = .ok (.iload_n 1, 1) := by decide +kernel
theorem dX10_drawn_130 : decode cX10_drawn 130 = .ok (.aload_n 0, 1) := by decide +kernel
theorem dX10_drawn_131 : decode cX10_drawn 131 = .ok (.iload_n 1, 1) := by decide +kernel
theorem dX10_drawn_132 : decode cX10_drawn 132 = .ok (.invokevirtual 235, 3) := by decide +kernel
theorem dX10_drawn_135 : decode cX10_drawn 135 = .ok (.iload_n 2, 1) := by decide +kernel
theorem dX10_drawn_136 : decode cX10_drawn 136 = .ok (.iload_n 3, 1) := by decide +kernel
theorem dX10_drawn_137 : decode cX10_drawn 137 = .ok (.invokevirtual 209, 3) := by decide +kernel
theorem dX10_drawn_140 : decode cX10_drawn 140 = .ok (.aload_n 0, 1) := by decide +kernel
theorem dX10_drawn_141 : decode cX10_drawn 141 = .ok (.iload 4, 2) := by decide +kernel
theorem dX10_drawn_143 : decode cX10_drawn 143 = .ok (.putfield 166, 3) := by decide +kernel
theorem dX10_drawn_146 : decode cX10_drawn 146 = .ok (.aload_n 0, 1) := by decide +kernel
theorem dX10_drawn_147 : decode cX10_drawn 147 = .ok (.aload_n 0, 1) := by decide +kernel
theorem dX10_drawn_148 : decode cX10_drawn 148 = .ok (.getfield 225, 3) := by decide +kernel
theorem dX10_drawn_151 : decode cX10_drawn 151 = .ok (.invokevirtual 213, 3) := by decide +kernel
theorem dX10_drawn_154 : decode cX10_drawn 154 = .ok (.iload 5, 2) := by decide +kernel
theorem dX10_drawn_156 : decode cX10_drawn 156 = .ok (.ifCond .ne 10, 3) := by decide +kernel
theorem dX10_drawn_159 : decode cX10_drawn 159 = .ok (.aload_n 0, 1) := by decide +kernel
theorem dX10_drawn_160 : decode cX10_drawn 160 = .ok (.getfield 180, 3) := by decide +kernel
theorem dX10_drawn_163 : decode cX10_drawn 163 = .ok (.goto 20, 3) := by decide +kernel
theorem dX10_drawn_166 : decode cX10_drawn 166 = .ok (.iload 5, 2) := by decide +kernel
theorem dX10_drawn_168 : decode cX10_drawn 168 = .ok (.iconst 1, 1) := by decide +kernel
theorem dX10_drawn_169 : decode cX10_drawn 169 = .ok (.if_icmp .ne 10, 3) := by decide +kernel
theorem dX10_drawn_172 : decode cX10_drawn 172 = .ok (.aload_n 0, 1) := by decide +kernel
theorem dX10_drawn_173 : decode cX10_drawn 173 = .ok (.getfield 189, 3) := by decide +kernel
theorem dX10_drawn_176 : decode cX10_drawn 176 = .ok (.goto 7, 3) := by decide +kernel
theorem dX10_drawn_179 : decode cX10_drawn 179 = .ok (.aload_n 0, 1) := by decide +kernel
theorem dX10_drawn_180 : decode cX10_drawn 180 = .ok (.getfield 166, 3) := by decide +kernel
theorem dX10_drawn_183 : decode cX10_drawn 183 = .ok (.ireturn, 1) := by decide +kernel
theorem cw_X10_drawn : Cw yX10_drawn cX10_drawn 8 (some .int) 5 := ⟨aw_1126, aw_56, ⟨by decide, by decide⟩, by decide +kernel, by decide⟩
def fX10_drawn_b75 (x1 : Int32) (x2 : Int32) (x3 : Int32) (x4 : Int32) (x5 : Int32) (x6 : Int32) (x7 : Int32) (σ : Sg) : Option ((Int32 × Int32 × Sg) ⊕ ((Sg))) :=
  if (rI σ 0 33) ≤ x7 then (some (.inr σ)) else (if inb x7 10 = true then (if inb x7 10 = true then (if inb x7 10 = true then (if inb x7 10 = true then (Option.bind (fX10_to x6 (rI (wI (wI σ 9 (x7).toNatClampNeg x6) 8 (x7).toNatClampNeg (rI (wI σ 9 (x7).toNatClampNeg x6) 10 (x7).toNatClampNeg)) 8 (x7).toNatClampNeg) (wI (wI σ 9 (x7).toNatClampNeg x6) 8 (x7).toNatClampNeg (rI (wI σ 9 (x7).toNatClampNeg x6) 10 (x7).toNatClampNeg))) fun p16 => (some (.inl (p16.1, (x7 + (1 : Int32)), p16.2)))) else none) else none) else none) else none)
def fX10_drawn_b0 (x1 : Int32) (x2 : Int32) (x3 : Int32) (x4 : Int32) (x5 : Int32) (σ : Sg) : Option (Int32 × Sg) :=
  Option.bind (fX10_isBerg x1 σ) fun p1 => (if p1.1 = 0 then (some ((-101 : Int32), p1.2)) else (Option.bind (fX10_areTugs x2 p1.2) fun p3 => (if p3.1 = 0 then (some ((-102 : Int32), p3.2)) else (if x4 < 0 then (some ((-102 : Int32), p3.2)) else (Option.bind (fX10_in ((x5).toInt64) (0 : Int64) (2 : Int64) p3.2) fun p5 => (if p5.1 = 0 then (some ((-102 : Int32), p5.2)) else (Option.bind (fX10_ownSize x1 p5.2) fun p7 => (Option.bind (fX10_layWays x1 p7.1 x2 x3 p7.2) fun p9 => (if (rI p9 0 37) = 0 then (some ((-1 : Int32), p9)) else (if inb (((5 : Int32) * x1) + (1 : Int32)) 25 = true then (Option.bind (lp (fun s => fX10_drawn_b75 x1 x2 x3 x4 x5 s.1 s.2.1 s.2.2) FU ((rI p9 6 ((((5 : Int32) * x1) + (1 : Int32))).toNatClampNeg), (0 : Int32), p9)) fun t18 => Option.bind (fX10_ownSize x1 t18) fun p20 => (Option.bind (fX10_begin x1 p20.1 x2 x3 p20.2) fun p22 => (Option.bind (fX10_towAll (rI (wI p22 0 29 x4) 0 33) (wI p22 0 29 x4)) fun p24 => (if x5 = 0 then (some ((rI p24 0 23), p24)) else (if x5 = (1 : Int32) then (some ((rI p24 0 26), p24)) else (some ((rI p24 0 29), p24))))))) else none))))))))))
set_option maxRecDepth 4000 in
theorem bX10_drawn_b75 {K : KT} {x1 : Int32} {x2 : Int32} {x3 : Int32} {x4 : Int32} {x5 : Int32} {x6 : Int32} {x7 : Int32} {σ : Sg} {o : (Int32 × Int32 × Sg) ⊕ ((Sg))} (C : Cx K layM cX10_drawn RX10 8 (7) (some .int))  (hI : ∀ s' : Int32 × Int32 × Sg, o = .inl s' → G K 75 [some (.ref (kad K 0)), some (.int x1), some (.int x2), some (.int x3), some (.int x4), some (.int x5), some (.int s'.1), some (.int s'.2.1)] [] (Wd K layM s'.2.2)) (hE0 : ∀ t : Sg, o = .inr t → G K 128 [some (.ref (kad K 0)), some (.int x1), some (.int x2), some (.int x3), some (.int x4), some (.int x5), none, none] [] (Wd K layM t)) (h : fX10_drawn_b75 x1 x2 x3 x4 x5 x6 x7 σ = some o) : G K 75 [some (.ref (kad K 0)), some (.int x1), some (.int x2), some (.int x3), some (.int x4), some (.int x5), some (.int x6), some (.int x7)] [] (Wd K layM σ) := by
  unfold fX10_drawn_b75 at h
  refine g_iload C.c dX10_drawn_75 (i := 7) rfl ?_
  refine g_aload_n C.c dX10_drawn_77 rfl (i := 0) rfl ?_
  refine gf_10_225 C dX10_drawn_78 ?_
  refine g_icmp_ge C.c (tgt := 128) dX10_drawn_81 (by decide) (fun c => ?_) (fun c => ?_)
  · replace h := ite_t c h
    have g9 := hE0 _ (Option.some.inj h).symm
    exact g_mask [true, true, true, true, true, true, false, false] rfl g9
  · replace h := ite_f c h
    refine g_aload_n C.c dX10_drawn_84 rfl (i := 0) rfl ?_
    refine gf_10_34 C dX10_drawn_85 ?_
    refine g_iload C.c dX10_drawn_88 (i := 7) rfl ?_
    refine g_iload C.c dX10_drawn_90 (i := 6) rfl ?_
    obtain ⟨c12, h⟩ := chk h
    refine g_iast C dX10_drawn_92 rfl c12 ?_
    refine g_aload_n C.c dX10_drawn_93 rfl (i := 0) rfl ?_
    refine gf_10_31 C dX10_drawn_94 ?_
    refine g_iload C.c dX10_drawn_97 (i := 7) rfl ?_
    refine g_aload_n C.c dX10_drawn_99 rfl (i := 0) rfl ?_
    refine gf_10_37 C dX10_drawn_100 ?_
    refine g_iload C.c dX10_drawn_103 (i := 7) rfl ?_
    obtain ⟨c13, h⟩ := chk h
    refine g_iald C dX10_drawn_105 rfl c13 ?_
    obtain ⟨c14, h⟩ := chk h
    refine g_iast C dX10_drawn_106 rfl c14 ?_
    refine g_aload_n C.c dX10_drawn_107 rfl (i := 0) rfl ?_
    refine g_iload C.c dX10_drawn_108 (i := 6) rfl ?_
    refine g_aload_n C.c dX10_drawn_110 rfl (i := 0) rfl ?_
    refine gf_10_31 C dX10_drawn_111 ?_
    refine g_iload C.c dX10_drawn_114 (i := 7) rfl ?_
    obtain ⟨c15, h⟩ := chk h
    refine g_iald C dX10_drawn_116 rfl c15 ?_
    obtain ⟨p16, e17, h⟩ := Option.bind_eq_some_iff.mp h
    refine kc_10_228 C dX10_drawn_117 e17 (Nat.le_of_ble_eq_true rfl) rfl (Nat.le_of_ble_eq_true rfl) ?_
    refine g_istore C.c (i := 6) (L' := [some (.ref (kad K 0)), some (.int x1), some (.int x2), some (.int x3), some (.int x4), some (.int x5), some (.int p16.1), some (.int x7)]) dX10_drawn_120 (Nat.le_of_ble_eq_true rfl) rfl ?_
    refine g_iinc C.c (i := 7) (y := (1 : Int32)) (L' := [some (.ref (kad K 0)), some (.int x1), some (.int x2), some (.int x3), some (.int x4), some (.int x5), some (.int p16.1), some (.int (x7 + (1 : Int32)))]) dX10_drawn_122 rfl (by decide) (Nat.le_of_ble_eq_true rfl) rfl ?_
    refine g_goto C.c (tgt := 75) dX10_drawn_125 (by decide) ?_
    have g9 := hI _ (Option.some.inj h).symm
    exact g_mask [true, true, true, true, true, true, true, true] rfl g9
set_option maxRecDepth 4000 in
theorem bX10_drawn_b0 {K : KT} {x1 : Int32} {x2 : Int32} {x3 : Int32} {x4 : Int32} {x5 : Int32} {σ : Sg} {o : Int32 × Sg} (C : Cx K layM cX10_drawn RX10 8 (7) (some .int))  (hQ : Rk K layM (okI o)) (h : fX10_drawn_b0 x1 x2 x3 x4 x5 σ = some o) : G K 0 [some (.ref (kad K 0)), some (.int x1), some (.int x2), some (.int x3), some (.int x4), some (.int x5), none, none] [] (Wd K layM σ) := by
  unfold fX10_drawn_b0 at h
  refine g_aload_n C.c dX10_drawn_0 rfl (i := 0) rfl ?_
  refine g_iload_n C.c dX10_drawn_1 rfl (i := 1) rfl ?_
  obtain ⟨p1, e2, h⟩ := Option.bind_eq_some_iff.mp h
  refine kc_10_159 C dX10_drawn_2 e2 (Nat.le_of_ble_eq_true rfl) rfl (Nat.le_of_ble_eq_true rfl) ?_
  refine g_if_ne C.c (tgt := 11) dX10_drawn_5 (by decide) (fun c => ?_) (fun c => ?_)
  · replace h := ite_f c h
    refine g_iload_n C.c dX10_drawn_11 rfl (i := 2) rfl ?_
    obtain ⟨p3, e4, h⟩ := Option.bind_eq_some_iff.mp h
    refine kc_10_245 C dX10_drawn_12 e4 (Nat.le_of_ble_eq_true rfl) rfl (Nat.le_of_ble_eq_true rfl) ?_
    refine g_if_eq C.c (tgt := 36) dX10_drawn_15 (by decide) (fun c => ?_) (fun c => ?_)
    · replace h := ite_t c h
      refine g_bipush C.c dX10_drawn_36 (v := (-102 : Int32)) (by decide) ?_
      obtain rfl := Option.some.inj h
      exact g_iret C hQ dX10_drawn_38 rfl ⟨rfl, rfl⟩
    · replace h := ite_f c h
      refine g_iload C.c dX10_drawn_18 (i := 4) rfl ?_
      refine g_if_lt C.c (tgt := 36) dX10_drawn_20 (by decide) (fun c => ?_) (fun c => ?_)
      · replace h := ite_t c h
        refine g_bipush C.c dX10_drawn_36 (v := (-102 : Int32)) (by decide) ?_
        obtain rfl := Option.some.inj h
        exact g_iret C hQ dX10_drawn_38 rfl ⟨rfl, rfl⟩
      · replace h := ite_f c h
        refine g_iload C.c dX10_drawn_23 (i := 5) rfl ?_
        refine g_i2l C.c dX10_drawn_25 ?_
        refine g_lconst C.c dX10_drawn_26 (v := (0 : Int64)) (by decide) ?_
        refine g_ldc2 C.c (v := (2 : Int64)) aw_1010 dX10_drawn_27 ?_
        obtain ⟨p5, e6, h⟩ := Option.bind_eq_some_iff.mp h
        refine kc_10_102 C dX10_drawn_30 e6 (Nat.le_of_ble_eq_true rfl) rfl (Nat.le_of_ble_eq_true rfl) ?_
        refine g_if_ne C.c (tgt := 39) dX10_drawn_33 (by decide) (fun c => ?_) (fun c => ?_)
        · replace h := ite_f c h
          refine g_aload_n C.c dX10_drawn_39 rfl (i := 0) rfl ?_
          refine g_iload_n C.c dX10_drawn_40 rfl (i := 1) rfl ?_
          refine g_aload_n C.c dX10_drawn_41 rfl (i := 0) rfl ?_
          refine g_iload_n C.c dX10_drawn_42 rfl (i := 1) rfl ?_
          obtain ⟨p7, e8, h⟩ := Option.bind_eq_some_iff.mp h
          refine kc_10_235 C dX10_drawn_43 e8 (Nat.le_of_ble_eq_true rfl) rfl (Nat.le_of_ble_eq_true rfl) ?_
          refine g_iload_n C.c dX10_drawn_46 rfl (i := 2) rfl ?_
          refine g_iload_n C.c dX10_drawn_47 rfl (i := 3) rfl ?_
          obtain ⟨p9, e10, h⟩ := Option.bind_eq_some_iff.mp h
          refine kc_10_238 C dX10_drawn_48 e10 (Nat.le_of_ble_eq_true rfl) rfl (Nat.le_of_ble_eq_true rfl) ?_
          refine g_aload_n C.c dX10_drawn_51 rfl (i := 0) rfl ?_
          refine gf_10_206 C dX10_drawn_52 ?_
          refine g_if_ne C.c (tgt := 60) dX10_drawn_55 (by decide) (fun c => ?_) (fun c => ?_)
          · replace h := ite_f c h
            refine g_aload_n C.c dX10_drawn_60 rfl (i := 0) rfl ?_
            refine gf_10_25 C dX10_drawn_61 ?_
            refine g_iconst C.c dX10_drawn_64 (v := (5 : Int32)) (by decide) ?_
            refine g_iload_n C.c dX10_drawn_65 rfl (i := 1) rfl ?_
            refine g_imul C.c dX10_drawn_66 ?_
            refine g_iconst C.c dX10_drawn_67 (v := (1 : Int32)) (by decide) ?_
            refine g_iadd C.c dX10_drawn_68 ?_
            obtain ⟨c11, h⟩ := chk h
            refine g_iald C dX10_drawn_69 rfl c11 ?_
            refine g_istore C.c (i := 6) (L' := [some (.ref (kad K 0)), some (.int x1), some (.int x2), some (.int x3), some (.int x4), some (.int x5), some (.int (rI p9 6 ((((5 : Int32) * x1) + (1 : Int32))).toNatClampNeg)), none]) dX10_drawn_70 (Nat.le_of_ble_eq_true rfl) rfl ?_
            refine g_iconst C.c dX10_drawn_72 (v := (0 : Int32)) (by decide) ?_
            refine g_istore C.c (i := 7) (L' := [some (.ref (kad K 0)), some (.int x1), some (.int x2), some (.int x3), some (.int x4), some (.int x5), some (.int (rI p9 6 ((((5 : Int32) * x1) + (1 : Int32))).toNatClampNeg)), some (.int (0 : Int32))]) dX10_drawn_73 (Nat.le_of_ble_eq_true rfl) rfl ?_
            refine g_mask [true, true, true, true, true, true, true, true] rfl ?_
            refine lp_bind (Gh := fun s => G K 75 [some (.ref (kad K 0)), some (.int x1), some (.int x2), some (.int x3), some (.int x4), some (.int x5), some (.int s.1), some (.int s.2.1)] [] (Wd K layM s.2.2)) h (fun s o2 hf gI gE => ?_)
            refine bX10_drawn_b75 C gI (fun t18 e => ?_) hf
            · have h := gE _ e
              refine g_aload_n C.c dX10_drawn_128 rfl (i := 0) rfl ?_
              refine g_iload_n C.c dX10_drawn_129 rfl (i := 1) rfl ?_
              refine g_aload_n C.c dX10_drawn_130 rfl (i := 0) rfl ?_
              refine g_iload_n C.c dX10_drawn_131 rfl (i := 1) rfl ?_
              obtain ⟨p20, e21, h⟩ := Option.bind_eq_some_iff.mp h
              refine kc_10_235 C dX10_drawn_132 e21 (Nat.le_of_ble_eq_true rfl) rfl (Nat.le_of_ble_eq_true rfl) ?_
              refine g_iload_n C.c dX10_drawn_135 rfl (i := 2) rfl ?_
              refine g_iload_n C.c dX10_drawn_136 rfl (i := 3) rfl ?_
              obtain ⟨p22, e23, h⟩ := Option.bind_eq_some_iff.mp h
              refine kc_10_209 C dX10_drawn_137 e23 (Nat.le_of_ble_eq_true rfl) rfl (Nat.le_of_ble_eq_true rfl) ?_
              refine g_aload_n C.c dX10_drawn_140 rfl (i := 0) rfl ?_
              refine g_iload C.c dX10_drawn_141 (i := 4) rfl ?_
              refine pf_10_166 C dX10_drawn_143 ?_
              refine g_aload_n C.c dX10_drawn_146 rfl (i := 0) rfl ?_
              refine g_aload_n C.c dX10_drawn_147 rfl (i := 0) rfl ?_
              refine gf_10_225 C dX10_drawn_148 ?_
              obtain ⟨p24, e25, h⟩ := Option.bind_eq_some_iff.mp h
              refine kc_10_213 C dX10_drawn_151 e25 (Nat.le_of_ble_eq_true rfl) rfl (Nat.le_of_ble_eq_true rfl) ?_
              refine g_iload C.c dX10_drawn_154 (i := 5) rfl ?_
              refine g_if_ne C.c (tgt := 166) dX10_drawn_156 (by decide) (fun c => ?_) (fun c => ?_)
              · replace h := ite_f c h
                refine g_iload C.c dX10_drawn_166 (i := 5) rfl ?_
                refine g_iconst C.c dX10_drawn_168 (v := (1 : Int32)) (by decide) ?_
                refine g_icmp_ne C.c (tgt := 179) dX10_drawn_169 (by decide) (fun c => ?_) (fun c => ?_)
                · replace h := ite_f c h
                  refine g_aload_n C.c dX10_drawn_179 rfl (i := 0) rfl ?_
                  refine gf_10_166 C dX10_drawn_180 ?_
                  obtain rfl := Option.some.inj h
                  exact g_iret C hQ dX10_drawn_183 rfl ⟨rfl, rfl⟩
                · replace h := ite_t c h
                  refine g_aload_n C.c dX10_drawn_172 rfl (i := 0) rfl ?_
                  refine gf_10_189 C dX10_drawn_173 ?_
                  refine g_goto C.c (tgt := 183) dX10_drawn_176 (by decide) ?_
                  obtain rfl := Option.some.inj h
                  exact g_iret C hQ dX10_drawn_183 rfl ⟨rfl, rfl⟩
              · replace h := ite_t c h
                refine g_aload_n C.c dX10_drawn_159 rfl (i := 0) rfl ?_
                refine gf_10_180 C dX10_drawn_160 ?_
                refine g_goto C.c (tgt := 183) dX10_drawn_163 (by decide) ?_
                obtain rfl := Option.some.inj h
                exact g_iret C hQ dX10_drawn_183 rfl ⟨rfl, rfl⟩
          · replace h := ite_t c h
            refine g_iconst C.c dX10_drawn_58 (v := (-1 : Int32)) (by decide) ?_
            obtain rfl := Option.some.inj h
            exact g_iret C hQ dX10_drawn_59 rfl ⟨rfl, rfl⟩
        · replace h := ite_t c h
          refine g_bipush C.c dX10_drawn_36 (v := (-102 : Int32)) (by decide) ?_
          obtain rfl := Option.some.inj h
          exact g_iret C hQ dX10_drawn_38 rfl ⟨rfl, rfl⟩
  · replace h := ite_t c h
    refine g_bipush C.c dX10_drawn_8 (v := (-101 : Int32)) (by decide) ?_
    obtain rfl := Option.some.inj h
    exact g_iret C hQ dX10_drawn_10 rfl ⟨rfl, rfl⟩
def fX10_drawn (a0 : Int32) (a1 : Int32) (a2 : Int32) (a3 : Int32) (a4 : Int32) (σ : Sg) : Option (Int32 × Sg) := fX10_drawn_b0 a0 a1 a2 a3 a4 σ
theorem ct_X10_drawn {a0 : Int32} {a1 : Int32} {a2 : Int32} {a3 : Int32} {a4 : Int32} {σ : Sg} {p : Int32 × Sg} (h : fX10_drawn a0 a1 a2 a3 a4 σ = some p) : Ct layM yX10_drawn cX10_drawn 8 (some .int) 7 (fun ad => [.ref (ad 0), .int a0, .int a1, .int a2, .int a3, .int a4]) σ (okI p) :=
 ct_of (L0 := fun ad => [some (.ref (ad 0)), some (.int a0), some (.int a1), some (.int a2), some (.int a3), some (.int a4), none, none]) (by decide) (fun _ => Nat.le_of_ble_eq_true rfl) (fun _ => rfl) (fun K C hQ => g_mask [true, true, true, true, true, true, false, false] rfl (bX10_drawn_b0 C hQ h))
-- X10_came
theorem dX10_came_0 : decode cX10_came 0 = .ok (.aload_n 0, 1) := by decide +kernel
theorem dX10_came_1 : decode cX10_came 1 = .ok (.iload_n 1, 1) := by decide +kernel
theorem dX10_came_2 : decode cX10_came 2 = .ok (.invokevirtual 159, 3) := by decide +kernel
theorem dX10_came_5 : decode cX10_came 5 = .ok (.ifCond .ne 6, 3) := by decide +kernel
theorem dX10_came_8 : decode cX10_came 8 = .ok (.bipush (-101), 2) := by decide +kernel
theorem dX10_came_10 : decode cX10_came 10 = .ok (.ireturn, 1) := by decide +kernel
theorem dX10_came_11 : decode cX10_came 11 = .ok (.iload_n 2, 1) := by decide +kernel
theorem dX10_came_12 : decode cX10_came 12 = .ok (.invokestatic 245, 3) := by decide +kernel
theorem dX10_came_15 : decode cX10_came 15 = .ok (.ifCond .eq 29, 3) := by decide +kernel
theorem dX10_came_18 : decode cX10_came 18 = .ok (.iload 4, 2) := by decide +kernel
theorem dX10_came_20 : decode cX10_came 20 = .ok (.i2l, 1) := by decide +kernel
theorem dX10_came_21 : decode cX10_came 21 = .ok (.lconst 0, 1) := by decide +kernel
theorem dX10_came_22 : decode cX10_came 22 = .ok (.ldc2_w 151, 3) := by decide +kernel
theorem dX10_came_25 : decode cX10_came 25 = .ok (.invokestatic 102, 3) := by decide +kernel
theorem dX10_came_28 : decode cX10_came 28 = .ok (.ifCond .eq 16, 3) := by decide +kernel
theorem dX10_came_31 : decode cX10_came 31 = .ok (.iload 5, 2) := by decide +kernel
theorem dX10_came_33 : decode cX10_came 33 = .ok (.i2l, 1) := by decide +kernel
theorem dX10_came_34 : decode cX10_came 34 = .ok (.lconst 0, 1) := by decide +kernel
theorem dX10_came_35 : decode cX10_came 35 = .ok (.ldc2_w 155, 3) := by decide +kernel
theorem dX10_came_38 : decode cX10_came 38 = .ok (.invokestatic 102, 3) := by decide +kernel
theorem dX10_came_41 : decode cX10_came 41 = .ok (.ifCond .ne 6, 3) := by decide +kernel
theorem dX10_came_44 : decode cX10_came 44 = .ok (.bipush (-102), 2) := by decide +kernel
theorem dX10_came_46 : decode cX10_came 46 = .ok (.ireturn, 1) := by decide +kernel
theorem dX10_came_47 : decode cX10_came 47 = .ok (.aload_n 0, 1) := by decide +kernel
theorem dX10_came_48 : decode cX10_came 48 = .ok (.iload_n 1, 1) := by decide +kernel
theorem dX10_came_49 : decode cX10_came 49 = .ok (.invokevirtual 255, 3) := by decide +kernel
theorem dX10_came_52 : decode cX10_came 52 = .ok (.ifCond .eq 12, 3) := by decide +kernel
theorem dX10_came_55 : decode cX10_came 55 = .ok (.aload_n 0, 1) := by decide +kernel
theorem dX10_came_56 : decode cX10_came 56 = .ok (.getfield 271, 3) := by decide +kernel
theorem dX10_came_59 : decode cX10_came 59 = .ok (.bipush 20, 2) := by decide +kernel
theorem dX10_came_61 : decode cX10_came 61 = .ok (.if_icmp .ne 6, 3) := by decide +kernel
theorem dX10_came_64 : decode cX10_came 64 = .ok (.bipush (-103), 2) := by decide +kernel
theorem dX10_came_66 : decode cX10_came 66 = .ok (.ireturn, 1) := by decide +kernel
theorem dX10_came_67 : decode cX10_came 67 = .ok (.aload_n 0, 1) := by decide +kernel
theorem dX10_came_68 : decode cX10_came 68 = .ok (.dup, 1) := by decide +kernel
theorem dX10_came_69 : decode cX10_came 69 = .ok (.getfield 271, 3) := by decide +kernel
theorem dX10_came_72 : decode cX10_came 72 = .ok (.iconst 1, 1) := by decide +kernel
theorem dX10_came_73 : decode cX10_came 73 = .ok (.iadd, 1) := by decide +kernel
theorem dX10_came_74 : decode cX10_came 74 = .ok (.putfield 271, 3) := by decide +kernel
theorem dX10_came_77 : decode cX10_came 77 = .ok (.iconst 0, 1) := by decide +kernel
theorem dX10_came_78 : decode cX10_came 78 = .ok (.istore 6, 2) := by decide +kernel
theorem dX10_came_80 : decode cX10_came 80 = .ok (.iconst (-1), 1) := by decide +kernel
theorem dX10_came_81 : decode cX10_came 81 = .ok (.istore 7, 2) := by decide +kernel
theorem dX10_came_83 : decode cX10_came 83 = .ok (.iconst (-1), 1) := by decide +kernel
theorem dX10_came_84 : decode cX10_came 84 = .ok (.istore 8, 2) := by decide +kernel
theorem dX10_came_86 : decode cX10_came 86 = .ok (.bipush 10, 2) := by decide +kernel
theorem dX10_came_88 : decode cX10_came 88 = .ok (.istore 9, 2) := by decide +kernel
theorem dX10_came_90 : decode cX10_came 90 = .ok (.iload 9, 2) := by decide +kernel
theorem dX10_came_92 : decode cX10_came 92 = .ok (.sipush 1000, 3) := by decide +kernel
theorem dX10_came_95 : decode cX10_came 95 = .ok (.if_icmp .ge 49, 3) := by decide +kernel
theorem dX10_came_98 : decode cX10_came 98 = .ok (.aload_n 0, 1) := by decide +kernel
theorem dX10_came_99 : decode cX10_came 99 = .ok (.iload_n 1, 1) := by decide +kernel
theorem dX10_came_100 : decode cX10_came 100 = .ok (.iload 9, 2) := by decide +kernel
theorem dX10_came_102 : decode cX10_came 102 = .ok (.iload_n 2, 1) := by decide +kernel
theorem dX10_came_103 : decode cX10_came 103 = .ok (.iload_n 3, 1) := by decide +kernel
theorem dX10_came_104 : decode cX10_came 104 = .ok (.invokevirtual 238, 3) := by decide +kernel
theorem dX10_came_107 : decode cX10_came 107 = .ok (.aload_n 0, 1) := by decide +kernel
theorem dX10_came_108 : decode cX10_came 108 = .ok (.getfield 222, 3) := by decide +kernel
theorem dX10_came_111 : decode cX10_came 111 = .ok (.iload 4, 2) := by decide +kernel
theorem dX10_came_113 : decode cX10_came 113 = .ok (.if_icmp .ne 25, 3) := by decide +kernel
theorem dX10_came_116 : decode cX10_came 116 = .ok (.iinc 6 1, 3) := by decide +kernel
theorem dX10_came_119 : decode cX10_came 119 = .ok (.iload 7, 2) := by decide +kernel
theorem dX10_came_121 : decode cX10_came 121 = .ok (.iconst (-1), 1) := by decide +kernel
theorem dX10_came_122 : decode cX10_came 122 = .ok (.if_icmp .ne 8, 3) := by decide +kernel
theorem dX10_came_125 : decode cX10_came 125 = .ok (.iload 9, 2) := by decide +kernel
theorem dX10_came_127 : decode cX10_came 127 = .ok (.goto 5, 3) := by decide +kernel
theorem dX10_came_130 : decode cX10_came 130 = .ok (.iload 7, 2) := by decide +kernel
theorem dX10_came_132 : decode cX10_came 132 = .ok (.istore 7, 2) := by decide +kernel
theorem dX10_came_134 : decode cX10_came 134 = .ok (.iload 9, 2) := by decide +kernel
theorem dX10_came_136 : decode cX10_came 136 = .ok (.istore 8, 2) := by decide +kernel
theorem dX10_came_138 : decode cX10_came 138 = .ok (.iinc 9 1, 3) := by decide +kernel
theorem dX10_came_141 : decode cX10_came 141 = .ok (.goto (-51), 3) := by decide +kernel
theorem dX10_came_144 : decode cX10_came 144 = .ok (.iload 5, 2) := by decide +kernel
theorem dX10_came_146 : decode cX10_came 146 = .ok (.ifCond .ne 8, 3) := by decide +kernel
theorem dX10_came_149 : decode cX10_came 149 = .ok (.iload 6, 2) := by decide +kernel
theorem dX10_came_151 : decode cX10_came 151 = .ok (.goto 16, 3) := by decide +kernel
theorem dX10_came_154 : decode cX10_came 154 = .ok (.iload 5, 2) := by decide +kernel
theorem dX10_came_156 : decode cX10_came 156 = .ok (.iconst 1, 1) := by decide +kernel
theorem dX10_came_157 : decode cX10_came 157 = .ok (.if_icmp .ne 8, 3) := by decide +kernel
theorem dX10_came_160 : decode cX10_came 160 = .ok (.iload 7, 2) := by decide +kernel
theorem dX10_came_162 : decode cX10_came 162 = .ok (.goto 5, 3) := by decide +kernel
theorem dX10_came_165 : decode cX10_came 165 = .ok (.iload 8, 2) := by decide +kernel
theorem dX10_came_167 : decode cX10_came 167 = .ok (.ireturn, 1) := by decide +kernel
theorem cw_X10_came : Cw yX10_came cX10_came 10 (some .int) 5 := ⟨aw_1130, aw_56, ⟨by decide, by decide⟩, by decide +kernel, by decide⟩
theorem gf_10_271 {K : KT} {cc : ByteArray} {nL d pc : Nat} {ret : Option FieldType} {L : List (Option Value)} {st : List Value} {σ : Sg} (C : Cx K layM cc RX10 nL d ret)  (hd : decode cc pc = .ok (.getfield 271, 3)) (k : G K (pc + 3) L (.int (rI σ 0 40) :: st) (Wd K layM σ)) : G K pc L (.ref (kad K 0) :: st) (Wd K layM σ) := g_get C (o := 0) (ci := 10) (k := 40) hd rfl rfl rfl (by decide) (Or.inl aw_829) inA10 rfl k
theorem pf_10_271 {K : KT} {cc : ByteArray} {nL d pc : Nat} {ret : Option FieldType} {L : List (Option Value)} {st : List Value} {σ : Sg} (C : Cx K layM cc RX10 nL d ret)  {v : Int32}  (hd : decode cc pc = .ok (.putfield 271, 3)) (k : G K (pc + 3) L st (Wd K layM (wI σ 0 40 v))) : G K pc L (.int v :: .ref (kad K 0) :: st) (Wd K layM σ) := g_putI C (o := 0) (ci := 10) (k := 40) hd rfl rfl rfl (by decide) (Or.inl aw_829) inA10 tyX10_ok nmX10 rfl rfl rfl k
def fX10_came_b138 (x1 : Int32) (x2 : Int32) (x3 : Int32) (x4 : Int32) (x5 : Int32) (x6 : Int32) (x7 : Int32) (x8 : Int32) (x9 : Int32) (σ : Sg) : Option ((Int32 × Int32 × Int32 × Int32 × Sg) ⊕ ((Int32 × Int32 × Int32 × Sg))) :=
  some (.inl (x6, x7, x8, (x9 + (1 : Int32)), σ))
def fX10_came_b132 (x1 : Int32) (x2 : Int32) (x3 : Int32) (x4 : Int32) (x5 : Int32) (x6 : Int32) (x9 : Int32) (y0 : Int32) (σ : Sg) : Option ((Int32 × Int32 × Int32 × Int32 × Sg) ⊕ ((Int32 × Int32 × Int32 × Sg))) :=
  fX10_came_b138 x1 x2 x3 x4 x5 x6 y0 x9 x9 σ
def fX10_came_b90 (x1 : Int32) (x2 : Int32) (x3 : Int32) (x4 : Int32) (x5 : Int32) (x6 : Int32) (x7 : Int32) (x8 : Int32) (x9 : Int32) (σ : Sg) : Option ((Int32 × Int32 × Int32 × Int32 × Sg) ⊕ ((Int32 × Int32 × Int32 × Sg))) :=
  if (1000 : Int32) ≤ x9 then (some (.inr (x6, x7, x8, σ))) else (Option.bind (fX10_layWays x1 x9 x2 x3 σ) fun p11 => (if (rI p11 0 34) = x4 then (if x7 = (-1 : Int32) then (fX10_came_b132 x1 x2 x3 x4 x5 (x6 + (1 : Int32)) x9 x9 p11) else (fX10_came_b132 x1 x2 x3 x4 x5 (x6 + (1 : Int32)) x9 x7 p11)) else (fX10_came_b138 x1 x2 x3 x4 x5 x6 x7 x8 x9 p11)))
def fX10_came_b0 (x1 : Int32) (x2 : Int32) (x3 : Int32) (x4 : Int32) (x5 : Int32) (σ : Sg) : Option (Int32 × Sg) :=
  Option.bind (fX10_isBerg x1 σ) fun p1 => (if p1.1 = 0 then (some ((-101 : Int32), p1.2)) else (Option.bind (fX10_areTugs x2 p1.2) fun p3 => (if p3.1 = 0 then (some ((-102 : Int32), p3.2)) else (Option.bind (fX10_in ((x4).toInt64) (0 : Int64) (999 : Int64) p3.2) fun p5 => (if p5.1 = 0 then (some ((-102 : Int32), p5.2)) else (Option.bind (fX10_in ((x5).toInt64) (0 : Int64) (2 : Int64) p5.2) fun p7 => (if p7.1 = 0 then (some ((-102 : Int32), p7.2)) else (Option.bind (fX10_waysOf x1 p7.2) fun p9 => (if p9.1 = 0 then (some ((-103 : Int32), p9.2)) else (if (rI p9.2 0 40) = (20 : Int32) then (some ((-103 : Int32), p9.2)) else (Option.bind (lp (fun s => fX10_came_b90 x1 x2 x3 x4 x5 s.1 s.2.1 s.2.2.1 s.2.2.2.1 s.2.2.2.2) FU ((0 : Int32), (-1 : Int32), (-1 : Int32), (10 : Int32), (wI p9.2 0 40 ((rI p9.2 0 40) + (1 : Int32))))) fun t13 => if x5 = 0 then (some (t13.1, t13.2.2.2)) else (if x5 = (1 : Int32) then (some (t13.2.1, t13.2.2.2)) else (some (t13.2.2.1, t13.2.2.2))))))))))))))
set_option maxRecDepth 4000 in
theorem bX10_came_b138 {K : KT} {x1 : Int32} {x2 : Int32} {x3 : Int32} {x4 : Int32} {x5 : Int32} {x6 : Int32} {x7 : Int32} {x8 : Int32} {x9 : Int32} {σ : Sg} {o : (Int32 × Int32 × Int32 × Int32 × Sg) ⊕ ((Int32 × Int32 × Int32 × Sg))} (C : Cx K layM cX10_came RX10 10 (8) (some .int))  (hI : ∀ s' : Int32 × Int32 × Int32 × Int32 × Sg, o = .inl s' → G K 90 [some (.ref (kad K 0)), some (.int x1), some (.int x2), some (.int x3), some (.int x4), some (.int x5), some (.int s'.1), some (.int s'.2.1), some (.int s'.2.2.1), some (.int s'.2.2.2.1)] [] (Wd K layM s'.2.2.2.2)) (hE0 : ∀ t : Int32 × Int32 × Int32 × Sg, o = .inr t → G K 144 [none, none, none, none, none, some (.int x5), some (.int t.1), some (.int t.2.1), some (.int t.2.2.1), none] [] (Wd K layM t.2.2.2)) (h : fX10_came_b138 x1 x2 x3 x4 x5 x6 x7 x8 x9 σ = some o) : G K 138 [some (.ref (kad K 0)), some (.int x1), some (.int x2), some (.int x3), some (.int x4), some (.int x5), some (.int x6), some (.int x7), some (.int x8), some (.int x9)] [] (Wd K layM σ) := by
  unfold fX10_came_b138 at h
  refine g_iinc C.c (i := 9) (y := (1 : Int32)) (L' := [some (.ref (kad K 0)), some (.int x1), some (.int x2), some (.int x3), some (.int x4), some (.int x5), some (.int x6), some (.int x7), some (.int x8), some (.int (x9 + (1 : Int32)))]) dX10_came_138 rfl (by decide) (Nat.le_of_ble_eq_true rfl) rfl ?_
  refine g_goto C.c (tgt := 90) dX10_came_141 (by decide) ?_
  have g9 := hI _ (Option.some.inj h).symm
  exact g_mask [true, true, true, true, true, true, true, true, true, true] rfl g9
set_option maxRecDepth 4000 in
theorem bX10_came_b132 {K : KT} {x1 : Int32} {x2 : Int32} {x3 : Int32} {x4 : Int32} {x5 : Int32} {x6 : Int32} {x9 : Int32} {y0 : Int32} {σ : Sg} {o : (Int32 × Int32 × Int32 × Int32 × Sg) ⊕ ((Int32 × Int32 × Int32 × Sg))} (C : Cx K layM cX10_came RX10 10 (8) (some .int))  (hI : ∀ s' : Int32 × Int32 × Int32 × Int32 × Sg, o = .inl s' → G K 90 [some (.ref (kad K 0)), some (.int x1), some (.int x2), some (.int x3), some (.int x4), some (.int x5), some (.int s'.1), some (.int s'.2.1), some (.int s'.2.2.1), some (.int s'.2.2.2.1)] [] (Wd K layM s'.2.2.2.2)) (hE0 : ∀ t : Int32 × Int32 × Int32 × Sg, o = .inr t → G K 144 [none, none, none, none, none, some (.int x5), some (.int t.1), some (.int t.2.1), some (.int t.2.2.1), none] [] (Wd K layM t.2.2.2)) (h : fX10_came_b132 x1 x2 x3 x4 x5 x6 x9 y0 σ = some o) : G K 132 [some (.ref (kad K 0)), some (.int x1), some (.int x2), some (.int x3), some (.int x4), some (.int x5), some (.int x6), none, none, some (.int x9)] [.int y0] (Wd K layM σ) := by
  unfold fX10_came_b132 at h
  refine g_istore C.c (i := 7) (L' := [some (.ref (kad K 0)), some (.int x1), some (.int x2), some (.int x3), some (.int x4), some (.int x5), some (.int x6), some (.int y0), none, some (.int x9)]) dX10_came_132 (Nat.le_of_ble_eq_true rfl) rfl ?_
  refine g_iload C.c dX10_came_134 (i := 9) rfl ?_
  refine g_istore C.c (i := 8) (L' := [some (.ref (kad K 0)), some (.int x1), some (.int x2), some (.int x3), some (.int x4), some (.int x5), some (.int x6), some (.int y0), some (.int x9), some (.int x9)]) dX10_came_136 (Nat.le_of_ble_eq_true rfl) rfl ?_
  exact g_mask [true, true, true, true, true, true, true, true, true, true] rfl (bX10_came_b138 C hI hE0 h)
set_option maxRecDepth 4000 in
theorem bX10_came_b90 {K : KT} {x1 : Int32} {x2 : Int32} {x3 : Int32} {x4 : Int32} {x5 : Int32} {x6 : Int32} {x7 : Int32} {x8 : Int32} {x9 : Int32} {σ : Sg} {o : (Int32 × Int32 × Int32 × Int32 × Sg) ⊕ ((Int32 × Int32 × Int32 × Sg))} (C : Cx K layM cX10_came RX10 10 (8) (some .int))  (hI : ∀ s' : Int32 × Int32 × Int32 × Int32 × Sg, o = .inl s' → G K 90 [some (.ref (kad K 0)), some (.int x1), some (.int x2), some (.int x3), some (.int x4), some (.int x5), some (.int s'.1), some (.int s'.2.1), some (.int s'.2.2.1), some (.int s'.2.2.2.1)] [] (Wd K layM s'.2.2.2.2)) (hE0 : ∀ t : Int32 × Int32 × Int32 × Sg, o = .inr t → G K 144 [none, none, none, none, none, some (.int x5), some (.int t.1), some (.int t.2.1), some (.int t.2.2.1), none] [] (Wd K layM t.2.2.2)) (h : fX10_came_b90 x1 x2 x3 x4 x5 x6 x7 x8 x9 σ = some o) : G K 90 [some (.ref (kad K 0)), some (.int x1), some (.int x2), some (.int x3), some (.int x4), some (.int x5), some (.int x6), some (.int x7), some (.int x8), some (.int x9)] [] (Wd K layM σ) := by
  unfold fX10_came_b90 at h
  refine g_iload C.c dX10_came_90 (i := 9) rfl ?_
  refine g_sipush C.c dX10_came_92 (v := (1000 : Int32)) (by decide) ?_
  refine g_icmp_ge C.c (tgt := 144) dX10_came_95 (by decide) (fun c => ?_) (fun c => ?_)
  · replace h := ite_t c h
    have g9 := hE0 _ (Option.some.inj h).symm
    exact g_mask [false, false, false, false, false, true, true, true, true, false] rfl g9
  · replace h := ite_f c h
    refine g_aload_n C.c dX10_came_98 rfl (i := 0) rfl ?_
    refine g_iload_n C.c dX10_came_99 rfl (i := 1) rfl ?_
    refine g_iload C.c dX10_came_100 (i := 9) rfl ?_
    refine g_iload_n C.c dX10_came_102 rfl (i := 2) rfl ?_
    refine g_iload_n C.c dX10_came_103 rfl (i := 3) rfl ?_
    obtain ⟨p11, e12, h⟩ := Option.bind_eq_some_iff.mp h
    refine kc_10_238 C dX10_came_104 e12 (Nat.le_of_ble_eq_true rfl) rfl (Nat.le_of_ble_eq_true rfl) ?_
    refine g_aload_n C.c dX10_came_107 rfl (i := 0) rfl ?_
    refine gf_10_222 C dX10_came_108 ?_
    refine g_iload C.c dX10_came_111 (i := 4) rfl ?_
    refine g_icmp_ne C.c (tgt := 138) dX10_came_113 (by decide) (fun c => ?_) (fun c => ?_)
    · replace h := ite_f c h
      exact g_mask [true, true, true, true, true, true, true, true, true, true] rfl (bX10_came_b138 C hI hE0 h)
    · replace h := ite_t c h
      refine g_iinc C.c (i := 6) (y := (1 : Int32)) (L' := [some (.ref (kad K 0)), some (.int x1), some (.int x2), some (.int x3), some (.int x4), some (.int x5), some (.int (x6 + (1 : Int32))), some (.int x7), some (.int x8), some (.int x9)]) dX10_came_116 rfl (by decide) (Nat.le_of_ble_eq_true rfl) rfl ?_
      refine g_iload C.c dX10_came_119 (i := 7) rfl ?_
      refine g_iconst C.c dX10_came_121 (v := (-1 : Int32)) (by decide) ?_
      refine g_icmp_ne C.c (tgt := 130) dX10_came_122 (by decide) (fun c => ?_) (fun c => ?_)
      · replace h := ite_f c h
        refine g_iload C.c dX10_came_130 (i := 7) rfl ?_
        exact g_mask [true, true, true, true, true, true, true, false, false, true] rfl (bX10_came_b132 C hI hE0 h)
      · replace h := ite_t c h
        refine g_iload C.c dX10_came_125 (i := 9) rfl ?_
        refine g_goto C.c (tgt := 132) dX10_came_127 (by decide) ?_
        exact g_mask [true, true, true, true, true, true, true, false, false, true] rfl (bX10_came_b132 C hI hE0 h)
set_option maxRecDepth 4000 in
theorem bX10_came_b0 {K : KT} {x1 : Int32} {x2 : Int32} {x3 : Int32} {x4 : Int32} {x5 : Int32} {σ : Sg} {o : Int32 × Sg} (C : Cx K layM cX10_came RX10 10 (8) (some .int))  (hQ : Rk K layM (okI o)) (h : fX10_came_b0 x1 x2 x3 x4 x5 σ = some o) : G K 0 [some (.ref (kad K 0)), some (.int x1), some (.int x2), some (.int x3), some (.int x4), some (.int x5), none, none, none, none] [] (Wd K layM σ) := by
  unfold fX10_came_b0 at h
  refine g_aload_n C.c dX10_came_0 rfl (i := 0) rfl ?_
  refine g_iload_n C.c dX10_came_1 rfl (i := 1) rfl ?_
  obtain ⟨p1, e2, h⟩ := Option.bind_eq_some_iff.mp h
  refine kc_10_159 C dX10_came_2 e2 (Nat.le_of_ble_eq_true rfl) rfl (Nat.le_of_ble_eq_true rfl) ?_
  refine g_if_ne C.c (tgt := 11) dX10_came_5 (by decide) (fun c => ?_) (fun c => ?_)
  · replace h := ite_f c h
    refine g_iload_n C.c dX10_came_11 rfl (i := 2) rfl ?_
    obtain ⟨p3, e4, h⟩ := Option.bind_eq_some_iff.mp h
    refine kc_10_245 C dX10_came_12 e4 (Nat.le_of_ble_eq_true rfl) rfl (Nat.le_of_ble_eq_true rfl) ?_
    refine g_if_eq C.c (tgt := 44) dX10_came_15 (by decide) (fun c => ?_) (fun c => ?_)
    · replace h := ite_t c h
      refine g_bipush C.c dX10_came_44 (v := (-102 : Int32)) (by decide) ?_
      obtain rfl := Option.some.inj h
      exact g_iret C hQ dX10_came_46 rfl ⟨rfl, rfl⟩
    · replace h := ite_f c h
      refine g_iload C.c dX10_came_18 (i := 4) rfl ?_
      refine g_i2l C.c dX10_came_20 ?_
      refine g_lconst C.c dX10_came_21 (v := (0 : Int64)) (by decide) ?_
      refine g_ldc2 C.c (v := (999 : Int64)) aw_1008 dX10_came_22 ?_
      obtain ⟨p5, e6, h⟩ := Option.bind_eq_some_iff.mp h
      refine kc_10_102 C dX10_came_25 e6 (Nat.le_of_ble_eq_true rfl) rfl (Nat.le_of_ble_eq_true rfl) ?_
      refine g_if_eq C.c (tgt := 44) dX10_came_28 (by decide) (fun c => ?_) (fun c => ?_)
      · replace h := ite_t c h
        refine g_bipush C.c dX10_came_44 (v := (-102 : Int32)) (by decide) ?_
        obtain rfl := Option.some.inj h
        exact g_iret C hQ dX10_came_46 rfl ⟨rfl, rfl⟩
      · replace h := ite_f c h
        refine g_iload C.c dX10_came_31 (i := 5) rfl ?_
        refine g_i2l C.c dX10_came_33 ?_
        refine g_lconst C.c dX10_came_34 (v := (0 : Int64)) (by decide) ?_
        refine g_ldc2 C.c (v := (2 : Int64)) aw_1010 dX10_came_35 ?_
        obtain ⟨p7, e8, h⟩ := Option.bind_eq_some_iff.mp h
        refine kc_10_102 C dX10_came_38 e8 (Nat.le_of_ble_eq_true rfl) rfl (Nat.le_of_ble_eq_true rfl) ?_
        refine g_if_ne C.c (tgt := 47) dX10_came_41 (by decide) (fun c => ?_) (fun c => ?_)
        · replace h := ite_f c h
          refine g_aload_n C.c dX10_came_47 rfl (i := 0) rfl ?_
          refine g_iload_n C.c dX10_came_48 rfl (i := 1) rfl ?_
          obtain ⟨p9, e10, h⟩ := Option.bind_eq_some_iff.mp h
          refine kc_10_255 C dX10_came_49 e10 (Nat.le_of_ble_eq_true rfl) rfl (Nat.le_of_ble_eq_true rfl) ?_
          refine g_if_eq C.c (tgt := 64) dX10_came_52 (by decide) (fun c => ?_) (fun c => ?_)
          · replace h := ite_t c h
            refine g_bipush C.c dX10_came_64 (v := (-103 : Int32)) (by decide) ?_
            obtain rfl := Option.some.inj h
            exact g_iret C hQ dX10_came_66 rfl ⟨rfl, rfl⟩
          · replace h := ite_f c h
            refine g_aload_n C.c dX10_came_55 rfl (i := 0) rfl ?_
            refine gf_10_271 C dX10_came_56 ?_
            refine g_bipush C.c dX10_came_59 (v := (20 : Int32)) (by decide) ?_
            refine g_icmp_ne C.c (tgt := 67) dX10_came_61 (by decide) (fun c => ?_) (fun c => ?_)
            · replace h := ite_f c h
              refine g_aload_n C.c dX10_came_67 rfl (i := 0) rfl ?_
              refine g_dup C.c dX10_came_68 rfl ?_
              refine gf_10_271 C dX10_came_69 ?_
              refine g_iconst C.c dX10_came_72 (v := (1 : Int32)) (by decide) ?_
              refine g_iadd C.c dX10_came_73 ?_
              refine pf_10_271 C dX10_came_74 ?_
              refine g_iconst C.c dX10_came_77 (v := (0 : Int32)) (by decide) ?_
              refine g_istore C.c (i := 6) (L' := [some (.ref (kad K 0)), some (.int x1), some (.int x2), some (.int x3), some (.int x4), some (.int x5), some (.int (0 : Int32)), none, none, none]) dX10_came_78 (Nat.le_of_ble_eq_true rfl) rfl ?_
              refine g_iconst C.c dX10_came_80 (v := (-1 : Int32)) (by decide) ?_
              refine g_istore C.c (i := 7) (L' := [some (.ref (kad K 0)), some (.int x1), some (.int x2), some (.int x3), some (.int x4), some (.int x5), some (.int (0 : Int32)), some (.int (-1 : Int32)), none, none]) dX10_came_81 (Nat.le_of_ble_eq_true rfl) rfl ?_
              refine g_iconst C.c dX10_came_83 (v := (-1 : Int32)) (by decide) ?_
              refine g_istore C.c (i := 8) (L' := [some (.ref (kad K 0)), some (.int x1), some (.int x2), some (.int x3), some (.int x4), some (.int x5), some (.int (0 : Int32)), some (.int (-1 : Int32)), some (.int (-1 : Int32)), none]) dX10_came_84 (Nat.le_of_ble_eq_true rfl) rfl ?_
              refine g_bipush C.c dX10_came_86 (v := (10 : Int32)) (by decide) ?_
              refine g_istore C.c (i := 9) (L' := [some (.ref (kad K 0)), some (.int x1), some (.int x2), some (.int x3), some (.int x4), some (.int x5), some (.int (0 : Int32)), some (.int (-1 : Int32)), some (.int (-1 : Int32)), some (.int (10 : Int32))]) dX10_came_88 (Nat.le_of_ble_eq_true rfl) rfl ?_
              refine g_mask [true, true, true, true, true, true, true, true, true, true] rfl ?_
              refine lp_bind (Gh := fun s => G K 90 [some (.ref (kad K 0)), some (.int x1), some (.int x2), some (.int x3), some (.int x4), some (.int x5), some (.int s.1), some (.int s.2.1), some (.int s.2.2.1), some (.int s.2.2.2.1)] [] (Wd K layM s.2.2.2.2)) h (fun s o2 hf gI gE => ?_)
              refine bX10_came_b90 C gI (fun t13 e => ?_) hf
              · have h := gE _ e
                refine g_iload C.c dX10_came_144 (i := 5) rfl ?_
                refine g_if_ne C.c (tgt := 154) dX10_came_146 (by decide) (fun c => ?_) (fun c => ?_)
                · replace h := ite_f c h
                  refine g_iload C.c dX10_came_154 (i := 5) rfl ?_
                  refine g_iconst C.c dX10_came_156 (v := (1 : Int32)) (by decide) ?_
                  refine g_icmp_ne C.c (tgt := 165) dX10_came_157 (by decide) (fun c => ?_) (fun c => ?_)
                  · replace h := ite_f c h
                    refine g_iload C.c dX10_came_165 (i := 8) rfl ?_
                    obtain rfl := Option.some.inj h
                    exact g_iret C hQ dX10_came_167 rfl ⟨rfl, rfl⟩
                  · replace h := ite_t c h
                    refine g_iload C.c dX10_came_160 (i := 7) rfl ?_
                    refine g_goto C.c (tgt := 167) dX10_came_162 (by decide) ?_
                    obtain rfl := Option.some.inj h
                    exact g_iret C hQ dX10_came_167 rfl ⟨rfl, rfl⟩
                · replace h := ite_t c h
                  refine g_iload C.c dX10_came_149 (i := 6) rfl ?_
                  refine g_goto C.c (tgt := 167) dX10_came_151 (by decide) ?_
                  obtain rfl := Option.some.inj h
                  exact g_iret C hQ dX10_came_167 rfl ⟨rfl, rfl⟩
            · replace h := ite_t c h
              refine g_bipush C.c dX10_came_64 (v := (-103 : Int32)) (by decide) ?_
              obtain rfl := Option.some.inj h
              exact g_iret C hQ dX10_came_66 rfl ⟨rfl, rfl⟩
        · replace h := ite_t c h
          refine g_bipush C.c dX10_came_44 (v := (-102 : Int32)) (by decide) ?_
          obtain rfl := Option.some.inj h
          exact g_iret C hQ dX10_came_46 rfl ⟨rfl, rfl⟩
  · replace h := ite_t c h
    refine g_bipush C.c dX10_came_8 (v := (-101 : Int32)) (by decide) ?_
    obtain rfl := Option.some.inj h
    exact g_iret C hQ dX10_came_10 rfl ⟨rfl, rfl⟩
def fX10_came (a0 : Int32) (a1 : Int32) (a2 : Int32) (a3 : Int32) (a4 : Int32) (σ : Sg) : Option (Int32 × Sg) := fX10_came_b0 a0 a1 a2 a3 a4 σ
theorem ct_X10_came {a0 : Int32} {a1 : Int32} {a2 : Int32} {a3 : Int32} {a4 : Int32} {σ : Sg} {p : Int32 × Sg} (h : fX10_came a0 a1 a2 a3 a4 σ = some p) : Ct layM yX10_came cX10_came 10 (some .int) 8 (fun ad => [.ref (ad 0), .int a0, .int a1, .int a2, .int a3, .int a4]) σ (okI p) :=
 ct_of (L0 := fun ad => [some (.ref (ad 0)), some (.int a0), some (.int a1), some (.int a2), some (.int a3), some (.int a4), none, none, none, none]) (by decide) (fun _ => Nat.le_of_ble_eq_true rfl) (fun _ => rfl) (fun K C hQ => g_mask [true, true, true, true, true, true, false, false, false, false] rfl (bX10_came_b0 C hQ h))
-- X10_common
theorem dX10_common_0 : decode cX10_common 0 = .ok (.lload_n 0, 1) := by decide +kernel
theorem dX10_common_1 : decode cX10_common 1 = .ok (.lstore 4, 2) := by decide +kernel
theorem dX10_common_3 : decode cX10_common 3 = .ok (.lload_n 2, 1) := by decide +kernel
theorem dX10_common_4 : decode cX10_common 4 = .ok (.lstore 6, 2) := by decide +kernel
theorem dX10_common_6 : decode cX10_common 6 = .ok (.lload 4, 2) := by decide +kernel
theorem dX10_common_8 : decode cX10_common 8 = .ok (.lconst 0, 1) := by decide +kernel
theorem dX10_common_9 : decode cX10_common 9 = .ok (.lcmp, 1) := by decide +kernel
theorem dX10_common_10 : decode cX10_common 10 = .ok (.ifCond .eq 21, 3) := by decide +kernel
theorem dX10_common_13 : decode cX10_common 13 = .ok (.lload 6, 2) := by decide +kernel
theorem dX10_common_15 : decode cX10_common 15 = .ok (.lload 4, 2) := by decide +kernel
theorem dX10_common_17 : decode cX10_common 17 = .ok (.lrem, 1) := by decide +kernel
theorem dX10_common_18 : decode cX10_common 18 = .ok (.lstore 8, 2) := by decide +kernel
theorem dX10_common_20 : decode cX10_common 20 = .ok (.lload 4, 2) := by decide +kernel
theorem dX10_common_22 : decode cX10_common 22 = .ok (.lstore 6, 2) := by decide +kernel
theorem dX10_common_24 : decode cX10_common 24 = .ok (.lload 8, 2) := by decide +kernel
theorem dX10_common_26 : decode cX10_common 26 = .ok (.lstore 4, 2) := by decide +kernel
theorem dX10_common_28 : decode cX10_common 28 = .ok (.goto (-22), 3) := by decide +kernel
theorem dX10_common_31 : decode cX10_common 31 = .ok (.lload 6, 2) := by decide +kernel
theorem dX10_common_33 : decode cX10_common 33 = .ok (.lreturn, 1) := by decide +kernel
theorem cw_X10_common : Cw yX10_common cX10_common 10 (some .long) 2 := ⟨aw_1141, aw_56, ⟨by decide, by decide⟩, by decide +kernel, by decide⟩
def fX10_common_b6 (x4 : Int64) (x6 : Int64) (σ : Sg) : Option ((Int64 × Int64 × Sg) ⊕ ((Int64 × Sg))) :=
  if (lg_cmp x4 (0 : Int64)) = 0 then (some (.inr (x6, σ))) else (if x4 = 0 then none else some (.inl ((x6 - x6 / x4 * x4), x4, σ)))
def fX10_common_b0 (x0 : Int64) (x2 : Int64) (σ : Sg) : Option (Int64 × Sg) :=
  Option.bind (lp (fun s => fX10_common_b6 s.1 s.2.1 s.2.2) FU (x0, x2, σ)) fun t2 => some (t2.1, t2.2)
set_option maxRecDepth 4000 in
theorem bX10_common_b6 {K : KT} {x4 : Int64} {x6 : Int64} {σ : Sg} {o : (Int64 × Int64 × Sg) ⊕ ((Int64 × Sg))} (C : Cx K layM cX10_common RX10 10 (1) (some .long))  (hI : ∀ s' : Int64 × Int64 × Sg, o = .inl s' → G K 6 [none, none, none, none, some (.long s'.1), none, some (.long s'.2.1), none, none, none] [] (Wd K layM s'.2.2)) (hE0 : ∀ t : Int64 × Sg, o = .inr t → G K 31 [none, none, none, none, none, none, some (.long t.1), none, none, none] [] (Wd K layM t.2)) (h : fX10_common_b6 x4 x6 σ = some o) : G K 6 [none, none, none, none, some (.long x4), none, some (.long x6), none, none, none] [] (Wd K layM σ) := by
  unfold fX10_common_b6 at h
  refine g_lload C.c dX10_common_6 (i := 4) rfl ?_
  refine g_lconst C.c dX10_common_8 (v := (0 : Int64)) (by decide) ?_
  refine g_lcmp C.c dX10_common_9 ?_
  refine g_if_eq C.c (tgt := 31) dX10_common_10 (by decide) (fun c => ?_) (fun c => ?_)
  · replace h := ite_t c h
    have g9 := hE0 _ (Option.some.inj h).symm
    exact g_mask [false, false, false, false, false, false, true, false, false, false] rfl g9
  · replace h := ite_f c h
    refine g_lload C.c dX10_common_13 (i := 6) rfl ?_
    refine g_lload C.c dX10_common_15 (i := 4) rfl ?_
    obtain ⟨c1, h⟩ := chk0 h
    refine g_lrem C.c dX10_common_17 c1 ?_
    refine g_lstore C.c (i := 8) (L' := [none, none, none, none, some (.long x4), none, some (.long x6), none, some (.long (x6 - x6 / x4 * x4)), none]) dX10_common_18 (Nat.le_of_ble_eq_true rfl) rfl ?_
    refine g_lload C.c dX10_common_20 (i := 4) rfl ?_
    refine g_lstore C.c (i := 6) (L' := [none, none, none, none, some (.long x4), none, some (.long x4), none, some (.long (x6 - x6 / x4 * x4)), none]) dX10_common_22 (Nat.le_of_ble_eq_true rfl) rfl ?_
    refine g_lload C.c dX10_common_24 (i := 8) rfl ?_
    refine g_lstore C.c (i := 4) (L' := [none, none, none, none, some (.long (x6 - x6 / x4 * x4)), none, some (.long x4), none, some (.long (x6 - x6 / x4 * x4)), none]) dX10_common_26 (Nat.le_of_ble_eq_true rfl) rfl ?_
    refine g_goto C.c (tgt := 6) dX10_common_28 (by decide) ?_
    have g9 := hI _ (Option.some.inj h).symm
    exact g_mask [false, false, false, false, true, false, true, false, false, false] rfl g9
set_option maxRecDepth 4000 in
theorem bX10_common_b0 {K : KT} {x0 : Int64} {x2 : Int64} {σ : Sg} {o : Int64 × Sg} (C : Cx K layM cX10_common RX10 10 (1) (some .long))  (hQ : Rk K layM (okJ o)) (h : fX10_common_b0 x0 x2 σ = some o) : G K 0 [some (.long x0), none, some (.long x2), none, none, none, none, none, none, none] [] (Wd K layM σ) := by
  unfold fX10_common_b0 at h
  refine g_lload_n C.c dX10_common_0 rfl (i := 0) rfl ?_
  refine g_lstore C.c (i := 4) (L' := [some (.long x0), none, some (.long x2), none, some (.long x0), none, none, none, none, none]) dX10_common_1 (Nat.le_of_ble_eq_true rfl) rfl ?_
  refine g_lload_n C.c dX10_common_3 rfl (i := 2) rfl ?_
  refine g_lstore C.c (i := 6) (L' := [some (.long x0), none, some (.long x2), none, some (.long x0), none, some (.long x2), none, none, none]) dX10_common_4 (Nat.le_of_ble_eq_true rfl) rfl ?_
  refine g_mask [false, false, false, false, true, false, true, false, false, false] rfl ?_
  refine lp_bind (Gh := fun s => G K 6 [none, none, none, none, some (.long s.1), none, some (.long s.2.1), none, none, none] [] (Wd K layM s.2.2)) h (fun s o2 hf gI gE => ?_)
  refine bX10_common_b6 C gI (fun t2 e => ?_) hf
  · have h := gE _ e
    refine g_lload C.c dX10_common_31 (i := 6) rfl ?_
    obtain rfl := Option.some.inj h
    exact g_lret C hQ dX10_common_33 ⟨rfl, rfl⟩
def fX10_common (a0 : Int64) (a1 : Int64) (σ : Sg) : Option (Int64 × Sg) := fX10_common_b0 a0 a1 σ
theorem ct_X10_common {a0 : Int64} {a1 : Int64} {σ : Sg} {p : Int64 × Sg} (h : fX10_common a0 a1 σ = some p) : Ct layM yX10_common cX10_common 10 (some .long) 1 (fun ad => [.long a0, .long a1]) σ (okJ p) :=
 ct_of (L0 := fun ad => [some (.long a0), none, some (.long a1), none, none, none, none, none, none, none]) (by decide) (fun _ => Nat.le_of_ble_eq_true rfl) (fun _ => rfl) (fun K C hQ => g_mask [true, false, true, false, false, false, false, false, false, false] rfl (bX10_common_b0 C hQ h))
-- X10_melted
theorem dX10_melted_0 : decode cX10_melted 0 = .ok (.iload_n 0, 1) := by decide +kernel
theorem dX10_melted_1 : decode cX10_melted 1 = .ok (.iload_n 1, 1) := by decide +kernel
theorem dX10_melted_2 : decode cX10_melted 2 = .ok (.if_icmp .le 9, 3) := by decide +kernel
theorem dX10_melted_5 : decode cX10_melted 5 = .ok (.iload_n 0, 1) := by decide +kernel
theorem dX10_melted_6 : decode cX10_melted 6 = .ok (.iload_n 1, 1) := by decide +kernel
theorem dX10_melted_7 : decode cX10_melted 7 = .ok (.isub, 1) := by decide +kernel
theorem dX10_melted_8 : decode cX10_melted 8 = .ok (.goto 4, 3) := by decide +kernel
theorem dX10_melted_11 : decode cX10_melted 11 = .ok (.iconst 0, 1) := by decide +kernel
theorem dX10_melted_12 : decode cX10_melted 12 = .ok (.ireturn, 1) := by decide +kernel
theorem cw_X10_melted : Cw yX10_melted cX10_melted 2 (some .int) 2 := ⟨aw_1138, aw_56, ⟨by decide, by decide⟩, by decide +kernel, by decide⟩
def fX10_melted_b0 (x0 : Int32) (x1 : Int32) (σ : Sg) : Option (Int32 × Sg) :=
  if x0 ≤ x1 then (some ((0 : Int32), σ)) else (some ((x0 - x1), σ))
set_option maxRecDepth 4000 in
theorem bX10_melted_b0 {K : KT} {x0 : Int32} {x1 : Int32} {σ : Sg} {o : Int32 × Sg} (C : Cx K layM cX10_melted RX10 2 (1) (some .int))  (hQ : Rk K layM (okI o)) (h : fX10_melted_b0 x0 x1 σ = some o) : G K 0 [some (.int x0), some (.int x1)] [] (Wd K layM σ) := by
  unfold fX10_melted_b0 at h
  refine g_iload_n C.c dX10_melted_0 rfl (i := 0) rfl ?_
  refine g_iload_n C.c dX10_melted_1 rfl (i := 1) rfl ?_
  refine g_icmp_le C.c (tgt := 11) dX10_melted_2 (by decide) (fun c => ?_) (fun c => ?_)
  · replace h := ite_t c h
    refine g_iconst C.c dX10_melted_11 (v := (0 : Int32)) (by decide) ?_
    obtain rfl := Option.some.inj h
    exact g_iret C hQ dX10_melted_12 rfl ⟨rfl, rfl⟩
  · replace h := ite_f c h
    refine g_iload_n C.c dX10_melted_5 rfl (i := 0) rfl ?_
    refine g_iload_n C.c dX10_melted_6 rfl (i := 1) rfl ?_
    refine g_isub C.c dX10_melted_7 ?_
    refine g_goto C.c (tgt := 12) dX10_melted_8 (by decide) ?_
    obtain rfl := Option.some.inj h
    exact g_iret C hQ dX10_melted_12 rfl ⟨rfl, rfl⟩
def fX10_melted (a0 : Int32) (a1 : Int32) (σ : Sg) : Option (Int32 × Sg) := fX10_melted_b0 a0 a1 σ
theorem ct_X10_melted {a0 : Int32} {a1 : Int32} {σ : Sg} {p : Int32 × Sg} (h : fX10_melted a0 a1 σ = some p) : Ct layM yX10_melted cX10_melted 2 (some .int) 1 (fun ad => [.int a0, .int a1]) σ (okI p) :=
 ct_of (L0 := fun ad => [some (.int a0), some (.int a1)]) (by decide) (fun _ => Nat.le_of_ble_eq_true rfl) (fun _ => rfl) (fun K C hQ => g_mask [true, true] rfl (bX10_melted_b0 C hQ h))
-- X10_letOff
theorem dX10_letOff_0 : decode cX10_letOff 0 = .ok (.iload_n 1, 1) := by decide +kernel
theorem dX10_letOff_1 : decode cX10_letOff 1 = .ok (.i2l, 1) := by decide +kernel
theorem dX10_letOff_2 : decode cX10_letOff 2 = .ok (.lconst 0, 1) := by decide +kernel
theorem dX10_letOff_3 : decode cX10_letOff 3 = .ok (.ldc2_w 151, 3) := by decide +kernel
theorem dX10_letOff_6 : decode cX10_letOff 6 = .ok (.invokestatic 102, 3) := by decide +kernel
theorem dX10_letOff_9 : decode cX10_letOff 9 = .ok (.ifCond .eq 53, 3) := by decide +kernel
theorem dX10_letOff_12 : decode cX10_letOff 12 = .ok (.iload_n 2, 1) := by decide +kernel
theorem dX10_letOff_13 : decode cX10_letOff 13 = .ok (.i2l, 1) := by decide +kernel
theorem dX10_letOff_14 : decode cX10_letOff 14 = .ok (.lconst 0, 1) := by decide +kernel
theorem dX10_letOff_15 : decode cX10_letOff 15 = .ok (.ldc2_w 157, 3) := by decide +kernel
theorem dX10_letOff_18 : decode cX10_letOff 18 = .ok (.invokestatic 102, 3) := by decide +kernel
theorem dX10_letOff_21 : decode cX10_letOff 21 = .ok (.ifCond .eq 41, 3) := by decide +kernel
theorem dX10_letOff_24 : decode cX10_letOff 24 = .ok (.iload_n 3, 1) := by decide +kernel
theorem dX10_letOff_25 : decode cX10_letOff 25 = .ok (.i2l, 1) := by decide +kernel
theorem dX10_letOff_26 : decode cX10_letOff 26 = .ok (.lconst 0, 1) := by decide +kernel
theorem dX10_letOff_27 : decode cX10_letOff 27 = .ok (.ldc2_w 153, 3) := by decide +kernel
theorem dX10_letOff_30 : decode cX10_letOff 30 = .ok (.invokestatic 102, 3) := by decide +kernel
theorem dX10_letOff_33 : decode cX10_letOff 33 = .ok (.ifCond .eq 29, 3) := by decide +kernel
theorem dX10_letOff_36 : decode cX10_letOff 36 = .ok (.iload 4, 2) := by decide +kernel
theorem dX10_letOff_38 : decode cX10_letOff 38 = .ok (.i2l, 1) := by decide +kernel
theorem dX10_letOff_39 : decode cX10_letOff 39 = .ok (.lconst 0, 1) := by decide +kernel
theorem dX10_letOff_40 : decode cX10_letOff 40 = .ok (.ldc2_w 157, 3) := by decide +kernel
theorem dX10_letOff_43 : decode cX10_letOff 43 = .ok (.invokestatic 102, 3) := by decide +kernel
theorem dX10_letOff_46 : decode cX10_letOff 46 = .ok (.ifCond .eq 16, 3) := by decide +kernel
theorem dX10_letOff_49 : decode cX10_letOff 49 = .ok (.iload 5, 2) := by decide +kernel
theorem dX10_letOff_51 : decode cX10_letOff 51 = .ok (.i2l, 1) := by decide +kernel
theorem dX10_letOff_52 : decode cX10_letOff 52 = .ok (.lconst 0, 1) := by decide +kernel
theorem dX10_letOff_53 : decode cX10_letOff 53 = .ok (.ldc2_w 155, 3) := by decide +kernel
theorem dX10_letOff_56 : decode cX10_letOff 56 = .ok (.invokestatic 102, 3) := by decide +kernel
theorem dX10_letOff_59 : decode cX10_letOff 59 = .ok (.ifCond .ne 7, 3) := by decide +kernel
theorem dX10_letOff_62 : decode cX10_letOff 62 = .ok (.ldc2_w 274, 3) := by decide +kernel
theorem dX10_letOff_65 : decode cX10_letOff 65 = .ok (.lreturn, 1) := by decide +kernel
theorem dX10_letOff_66 : decode cX10_letOff 66 = .ok (.iconst 0, 1) := by decide +kernel
theorem dX10_letOff_67 : decode cX10_letOff 67 = .ok (.istore 6, 2) := by decide +kernel
theorem dX10_letOff_69 : decode cX10_letOff 69 = .ok (.iload 6, 2) := by decide +kernel
theorem dX10_letOff_71 : decode cX10_letOff 71 = .ok (.sipush 1000, 3) := by decide +kernel
theorem dX10_letOff_74 : decode cX10_letOff 74 = .ok (.if_icmp .ge 19, 3) := by decide +kernel
theorem dX10_letOff_77 : decode cX10_letOff 77 = .ok (.aload_n 0, 1) := by decide +kernel
theorem dX10_letOff_78 : decode cX10_letOff 78 = .ok (.getfield 46, 3) := by decide +kernel
theorem dX10_letOff_81 : decode cX10_letOff 81 = .ok (.iload 6, 2) := by decide +kernel
theorem dX10_letOff_83 : decode cX10_letOff 83 = .ok (.iload 6, 2) := by decide +kernel
theorem dX10_letOff_85 : decode cX10_letOff 85 = .ok (.i2l, 1) := by decide +kernel
theorem dX10_letOff_86 : decode cX10_letOff 86 = .ok (.lastore, 1) := by decide +kernel
theorem dX10_letOff_87 : decode cX10_letOff 87 = .ok (.iinc 6 1, 3) := by decide +kernel
theorem dX10_letOff_90 : decode cX10_letOff 90 = .ok (.goto (-21), 3) := by decide +kernel
theorem dX10_letOff_93 : decode cX10_letOff 93 = .ok (.lconst 1, 1) := by decide +kernel
theorem dX10_letOff_94 : decode cX10_letOff 94 = .ok (.lstore 6, 2) := by decide +kernel
theorem dX10_letOff_96 : decode cX10_letOff 96 = .ok (.lconst 0, 1) := by decide +kernel
theorem dX10_letOff_97 : decode cX10_letOff 97 = .ok (.lstore 8, 2) := by decide +kernel
theorem dX10_letOff_99 : decode cX10_letOff 99 = .ok (.iconst 0, 1) := by decide +kernel
theorem dX10_letOff_100 : decode cX10_letOff 100 = .ok (.istore 10, 2) := by decide +kernel
theorem dX10_letOff_102 : decode cX10_letOff 102 = .ok (.iload 10, 2) := by decide +kernel
theorem dX10_letOff_104 : decode cX10_letOff 104 = .ok (.iload_n 2, 1) := by decide +kernel
theorem dX10_letOff_105 : decode cX10_letOff 105 = .ok (.if_icmp .ge 176, 3) := by decide +kernel
theorem dX10_letOff_108 : decode cX10_letOff 108 = .ok (.lload 6, 2) := by decide +kernel
theorem dX10_letOff_110 : decode cX10_letOff 110 = .ok (.ldc2_w 149, 3) := by decide +kernel
theorem dX10_letOff_113 : decode cX10_letOff 113 = .ok (.lmul, 1) := by decide +kernel
theorem dX10_letOff_114 : decode cX10_letOff 114 = .ok (.lstore 6, 2) := by decide +kernel
theorem dX10_letOff_116 : decode cX10_letOff 116 = .ok (.iconst 0, 1) := by decide +kernel
theorem dX10_letOff_117 : decode cX10_letOff 117 = .ok (.istore 11, 2) := by decide +kernel
theorem dX10_letOff_119 : decode cX10_letOff 119 = .ok (.iload 11, 2) := by decide +kernel
theorem dX10_letOff_121 : decode cX10_letOff 121 = .ok (.sipush 1000, 3) := by decide +kernel
theorem dX10_letOff_124 : decode cX10_letOff 124 = .ok (.if_icmp .ge 120, 3) := by decide +kernel
theorem dX10_letOff_127 : decode cX10_letOff 127 = .ok (.iload 11, 2) := by decide +kernel
theorem dX10_letOff_129 : decode cX10_letOff 129 = .ok (.iload_n 3, 1) := by decide +kernel
theorem dX10_letOff_130 : decode cX10_letOff 130 = .ok (.invokestatic 276, 3) := by decide +kernel
theorem dX10_letOff_133 : decode cX10_letOff 133 = .ok (.istore 12, 2) := by decide +kernel
theorem dX10_letOff_135 : decode cX10_letOff 135 = .ok (.iload 4, 2) := by decide +kernel
theorem dX10_letOff_137 : decode cX10_letOff 137 = .ok (.i2l, 1) := by decide +kernel
theorem dX10_letOff_138 : decode cX10_letOff 138 = .ok (.aload_n 0, 1) := by decide +kernel
theorem dX10_letOff_139 : decode cX10_letOff 139 = .ok (.getfield 46, 3) := by decide +kernel
theorem dX10_letOff_142 : decode cX10_letOff 142 = .ok (.iload 12, 2) := by decide +kernel
theorem dX10_letOff_144 : decode cX10_letOff 144 = .ok (.iload 12, 2) := by decide +kernel
theorem dX10_letOff_146 : decode cX10_letOff 146 = .ok (.iconst 3, 1) := by decide +kernel
theorem dX10_letOff_147 : decode cX10_letOff 147 = .ok (.idiv, 1) := by decide +kernel
theorem dX10_letOff_148 : decode cX10_letOff 148 = .ok (.isub, 1) := by decide +kernel
theorem dX10_letOff_149 : decode cX10_letOff 149 = .ok (.laload, 1) := by decide +kernel
theorem dX10_letOff_150 : decode cX10_letOff 150 = .ok (.lmul, 1) := by decide +kernel
theorem dX10_letOff_151 : decode cX10_letOff 151 = .ok (.bipush 10, 2) := by decide +kernel
theorem dX10_letOff_153 : decode cX10_letOff 153 = .ok (.iload 4, 2) := by decide +kernel
theorem dX10_letOff_155 : decode cX10_letOff 155 = .ok (.isub, 1) := by decide +kernel
theorem dX10_letOff_156 : decode cX10_letOff 156 = .ok (.i2l, 1) := by decide +kernel
theorem dX10_letOff_157 : decode cX10_letOff 157 = .ok (.aload_n 0, 1) := by decide +kernel
theorem dX10_letOff_158 : decode cX10_letOff 158 = .ok (.getfield 46, 3) := by decide +kernel
theorem dX10_letOff_161 : decode cX10_letOff 161 = .ok (.iload 12, 2) := by decide +kernel
theorem dX10_letOff_163 : decode cX10_letOff 163 = .ok (.laload, 1) := by decide +kernel
theorem dX10_letOff_164 : decode cX10_letOff 164 = .ok (.lmul, 1) := by decide +kernel
theorem dX10_letOff_165 : decode cX10_letOff 165 = .ok (.ladd, 1) := by decide +kernel
theorem dX10_letOff_166 : decode cX10_letOff 166 = .ok (.lstore 13, 2) := by decide +kernel
theorem dX10_letOff_168 : decode cX10_letOff 168 = .ok (.ldc2_w 149, 3) := by decide +kernel
theorem dX10_letOff_171 : decode cX10_letOff 171 = .ok (.aload_n 0, 1) := by decide +kernel
theorem dX10_letOff_172 : decode cX10_letOff 172 = .ok (.getfield 46, 3) := by decide +kernel
theorem dX10_letOff_175 : decode cX10_letOff 175 = .ok (.iload 11, 2) := by decide +kernel
theorem dX10_letOff_177 : decode cX10_letOff 177 = .ok (.iload 11, 2) := by decide +kernel
theorem dX10_letOff_179 : decode cX10_letOff 179 = .ok (.iconst 5, 1) := by decide +kernel
theorem dX10_letOff_180 : decode cX10_letOff 180 = .ok (.idiv, 1) := by decide +kernel
theorem dX10_letOff_181 : decode cX10_letOff 181 = .ok (.isub, 1) := by decide +kernel
theorem dX10_letOff_182 : decode cX10_letOff 182 = .ok (.iload_n 3, 1) := by decide +kernel
theorem dX10_letOff_183 : decode cX10_letOff 183 = .ok (.invokestatic 276, 3) := by decide +kernel
theorem dX10_letOff_186 : decode cX10_letOff 186 = .ok (.laload, 1) := by decide +kernel
theorem dX10_letOff_187 : decode cX10_letOff 187 = .ok (.lmul, 1) := by decide +kernel
theorem dX10_letOff_188 : decode cX10_letOff 188 = .ok (.lstore 15, 2) := by decide +kernel
theorem dX10_letOff_190 : decode cX10_letOff 190 = .ok (.aload_n 0, 1) := by decide +kernel
theorem dX10_letOff_191 : decode cX10_letOff 191 = .ok (.getfield 50, 3) := by decide +kernel
theorem dX10_letOff_194 : decode cX10_letOff 194 = .ok (.iload 11, 2) := by decide +kernel
theorem dX10_letOff_196 : decode cX10_letOff 196 = .ok (.lload 15, 2) := by decide +kernel
theorem dX10_letOff_198 : decode cX10_letOff 198 = .ok (.lload 13, 2) := by decide +kernel
theorem dX10_letOff_200 : decode cX10_letOff 200 = .ok (.lcmp, 1) := by decide +kernel
theorem dX10_letOff_201 : decode cX10_letOff 201 = .ok (.ifCond .le 8, 3) := by decide +kernel
theorem dX10_letOff_204 : decode cX10_letOff 204 = .ok (.lload 15, 2) := by decide +kernel
theorem dX10_letOff_206 : decode cX10_letOff 206 = .ok (.goto 5, 3) := by decide +kernel
theorem dX10_letOff_209 : decode cX10_letOff 209 = .ok (.lload 13, 2) := by decide +kernel
theorem dX10_letOff_211 : decode cX10_letOff 211 = .ok (.lastore, 1) := by decide +kernel
theorem dX10_letOff_212 : decode cX10_letOff 212 = .ok (.iload 11, 2) := by decide +kernel
theorem dX10_letOff_214 : decode cX10_letOff 214 = .ok (.iload_n 1, 1) := by decide +kernel
theorem dX10_letOff_215 : decode cX10_letOff 215 = .ok (.if_icmp .ne 19, 3) := by decide +kernel
theorem dX10_letOff_218 : decode cX10_letOff 218 = .ok (.lload 15, 2) := by decide +kernel
theorem dX10_letOff_220 : decode cX10_letOff 220 = .ok (.lload 13, 2) := by decide +kernel
theorem dX10_letOff_222 : decode cX10_letOff 222 = .ok (.lcmp, 1) := by decide +kernel
theorem dX10_letOff_223 : decode cX10_letOff 223 = .ok (.ifCond .le 7, 3) := by decide +kernel
theorem dX10_letOff_226 : decode cX10_letOff 226 = .ok (.lconst 1, 1) := by decide +kernel
theorem dX10_letOff_227 : decode cX10_letOff 227 = .ok (.goto 9, 3) := by decide +kernel
theorem dX10_letOff_230 : decode cX10_letOff 230 = .ok (.lconst 0, 1) := by decide +kernel
theorem dX10_letOff_231 : decode cX10_letOff 231 = .ok (.goto 5, 3) := by decide +kernel
theorem dX10_letOff_234 : decode cX10_letOff 234 = .ok (.lload 8, 2) := by decide +kernel
theorem dX10_letOff_236 : decode cX10_letOff 236 = .ok (.lstore 8, 2) := by decide +kernel
theorem dX10_letOff_238 : decode cX10_letOff 238 = .ok (.iinc 11 1, 3) := by decide +kernel
theorem dX10_letOff_241 : decode cX10_letOff 241 = .ok (.goto (-122), 3) := by decide +kernel
theorem dX10_letOff_244 : decode cX10_letOff 244 = .ok (.iconst 0, 1) := by decide +kernel
theorem dX10_letOff_245 : decode cX10_letOff 245 = .ok (.istore 11, 2) := by decide +kernel
theorem dX10_letOff_247 : decode cX10_letOff 247 = .ok (.iload 11, 2) := by decide +kernel
theorem dX10_letOff_249 : decode cX10_letOff 249 = .ok (.sipush 1000, 3) := by decide +kernel
theorem dX10_letOff_252 : decode cX10_letOff 252 = .ok (.if_icmp .ge 23, 3) := by decide +kernel
theorem dX10_letOff_255 : decode cX10_letOff 255 = .ok (.aload_n 0, 1) := by decide +kernel
theorem dX10_letOff_256 : decode cX10_letOff 256 = .ok (.getfield 46, 3) := by decide +kernel
theorem dX10_letOff_259 : decode cX10_letOff 259 = .ok (.iload 11, 2) := by decide +kernel
theorem dX10_letOff_261 : decode cX10_letOff 261 = .ok (.aload_n 0, 1) := by decide +kernel
theorem dX10_letOff_262 : decode cX10_letOff 262 = .ok (.getfield 50, 3) := by decide +kernel
theorem dX10_letOff_265 : decode cX10_letOff 265 = .ok (.iload 11, 2) := by decide +kernel
theorem dX10_letOff_267 : decode cX10_letOff 267 = .ok (.laload, 1) := by decide +kernel
theorem dX10_letOff_268 : decode cX10_letOff 268 = .ok (.lastore, 1) := by decide +kernel
theorem dX10_letOff_269 : decode cX10_letOff 269 = .ok (.iinc 11 1, 3) := by decide +kernel
theorem dX10_letOff_272 : decode cX10_letOff 272 = .ok (.goto (-25), 3) := by decide +kernel
theorem dX10_letOff_275 : decode cX10_letOff 275 = .ok (.iinc 10 1, 3) := by decide +kernel
theorem dX10_letOff_278 : decode cX10_letOff 278 = .ok (.goto (-176), 3) := by decide +kernel
theorem dX10_letOff_281 : decode cX10_letOff 281 = .ok (.aload_n 0, 1) := by decide +kernel
theorem dX10_letOff_282 : decode cX10_letOff 282 = .ok (.getfield 46, 3) := by decide +kernel
theorem dX10_letOff_285 : decode cX10_letOff 285 = .ok (.iload_n 1, 1) := by decide +kernel
theorem dX10_letOff_286 : decode cX10_letOff 286 = .ok (.laload, 1) := by decide +kernel
theorem dX10_letOff_287 : decode cX10_letOff 287 = .ok (.lload 6, 2) := by decide +kernel
theorem dX10_letOff_289 : decode cX10_letOff 289 = .ok (.invokestatic 279, 3) := by decide +kernel
theorem dX10_letOff_292 : decode cX10_letOff 292 = .ok (.lstore 10, 2) := by decide +kernel
theorem dX10_letOff_294 : decode cX10_letOff 294 = .ok (.iload 5, 2) := by decide +kernel
theorem dX10_letOff_296 : decode cX10_letOff 296 = .ok (.ifCond .ne 15, 3) := by decide +kernel
theorem dX10_letOff_299 : decode cX10_letOff 299 = .ok (.aload_n 0, 1) := by decide +kernel
theorem dX10_letOff_300 : decode cX10_letOff 300 = .ok (.getfield 46, 3) := by decide +kernel
theorem dX10_letOff_303 : decode cX10_letOff 303 = .ok (.iload_n 1, 1) := by decide +kernel
theorem dX10_letOff_304 : decode cX10_letOff 304 = .ok (.laload, 1) := by decide +kernel
theorem dX10_letOff_305 : decode cX10_letOff 305 = .ok (.lload 10, 2) := by decide +kernel
theorem dX10_letOff_307 : decode cX10_letOff 307 = .ok (.ldiv, 1) := by decide +kernel
theorem dX10_letOff_308 : decode cX10_letOff 308 = .ok (.goto 19, 3) := by decide +kernel
theorem dX10_letOff_311 : decode cX10_letOff 311 = .ok (.iload 5, 2) := by decide +kernel
theorem dX10_letOff_313 : decode cX10_letOff 313 = .ok (.iconst 1, 1) := by decide +kernel
theorem dX10_letOff_314 : decode cX10_letOff 314 = .ok (.if_icmp .ne 11, 3) := by decide +kernel
theorem dX10_letOff_317 : decode cX10_letOff 317 = .ok (.lload 6, 2) := by decide +kernel
theorem dX10_letOff_319 : decode cX10_letOff 319 = .ok (.lload 10, 2) := by decide +kernel
theorem dX10_letOff_321 : decode cX10_letOff 321 = .ok (.ldiv, 1) := by decide +kernel
theorem dX10_letOff_322 : decode cX10_letOff 322 = .ok (.goto 5, 3) := by decide +kernel
theorem dX10_letOff_325 : decode cX10_letOff 325 = .ok (.lload 8, 2) := by decide +kernel
theorem dX10_letOff_327 : decode cX10_letOff 327 = .ok (.lreturn, 1) := by decide +kernel
theorem cw_X10_letOff : Cw yX10_letOff cX10_letOff 17 (some .long) 5 := ⟨aw_1134, aw_56, ⟨by decide, by decide⟩, by decide +kernel, by decide⟩
theorem gf_10_46 {K : KT} {cc : ByteArray} {nL d pc : Nat} {ret : Option FieldType} {L : List (Option Value)} {st : List Value} {σ : Sg} (C : Cx K layM cc RX10 nL d ret)  (hd : decode cc pc = .ok (.getfield 46, 3)) (k : G K (pc + 3) L (.ref (kad K 13) :: st) (Wd K layM σ)) : G K pc L (.ref (kad K 0) :: st) (Wd K layM σ) := g_get C (o := 0) (ci := 10) (k := 41) hd rfl rfl rfl (by decide) (Or.inl aw_830) inA10 rfl k
theorem kc_10_276 {K : KT} {cc : ByteArray} {nL d pc : Nat} {ret : Option FieldType} {L : List (Option Value)} {st : List Value} {σ : Sg} (C : Cx K layM cc RX10 nL d ret)  {a0 : Int32} {a1 : Int32}  {p : Int32 × Sg} (hd : decode cc pc = .ok (.invokestatic 276, 3)) (e : fX10_melted a0 a1 σ = some p) (hdd : 1 + 1 ≤ d) (hLn : L.length = nL) (hr : (st.map fun v => v.category).sum ≤ 8) (k : G K (pc + 3) L (.int p.1 :: st) (Wd K layM p.2)) : G K pc L (.int a1 :: .int a0 :: st) (Wd K layM σ) :=
  g_callS C (As := [.int a0, .int a1]) (rest := st) hd (ct_X10_melted e) cw_X10_melted (Or.inl aw_1136) aw_1137 rfl rfl rfl hdd hLn hr (fun v τ q => by obtain ⟨rfl, rfl⟩ := q; exact k)
theorem gf_10_50 {K : KT} {cc : ByteArray} {nL d pc : Nat} {ret : Option FieldType} {L : List (Option Value)} {st : List Value} {σ : Sg} (C : Cx K layM cc RX10 nL d ret)  (hd : decode cc pc = .ok (.getfield 50, 3)) (k : G K (pc + 3) L (.ref (kad K 14) :: st) (Wd K layM σ)) : G K pc L (.ref (kad K 0) :: st) (Wd K layM σ) := g_get C (o := 0) (ci := 10) (k := 42) hd rfl rfl rfl (by decide) (Or.inl aw_831) inA10 rfl k
theorem kc_10_279 {K : KT} {cc : ByteArray} {nL d pc : Nat} {ret : Option FieldType} {L : List (Option Value)} {st : List Value} {σ : Sg} (C : Cx K layM cc RX10 nL d ret)  {a0 : Int64} {a1 : Int64}  {p : Int64 × Sg} (hd : decode cc pc = .ok (.invokestatic 279, 3)) (e : fX10_common a0 a1 σ = some p) (hdd : 1 + 1 ≤ d) (hLn : L.length = nL) (hr : (st.map fun v => v.category).sum ≤ 8) (k : G K (pc + 3) L (.long p.1 :: st) (Wd K layM p.2)) : G K pc L (.long a1 :: .long a0 :: st) (Wd K layM σ) :=
  g_callS C (As := [.long a0, .long a1]) (rest := st) hd (ct_X10_common e) cw_X10_common (Or.inl aw_1139) aw_1140 rfl rfl rfl hdd hLn hr (fun v τ q => by obtain ⟨rfl, rfl⟩ := q; exact k)
def fX10_letOff_b69 (x1 : Int32) (x2 : Int32) (x3 : Int32) (x4 : Int32) (x5 : Int32) (x6 : Int32) (σ : Sg) : Option ((Int32 × Sg) ⊕ ((Sg))) :=
  if (1000 : Int32) ≤ x6 then (some (.inr σ)) else (if inb x6 1000 = true then (some (.inl ((x6 + (1 : Int32)), (wJ σ 13 (x6).toNatClampNeg ((x6).toInt64))))) else none)
def fX10_letOff_b236 (x1 : Int32) (x2 : Int32) (x3 : Int32) (x4 : Int32) (x5 : Int32) (x6 : Int64) (x10 : Int32) (x11 : Int32) (y0 : Int64) (σ : Sg) : Option ((Int64 × Int32 × Sg) ⊕ ((Int64 × Sg))) :=
  some (.inl (y0, (x11 + (1 : Int32)), σ))
def fX10_letOff_b211 (x1 : Int32) (x2 : Int32) (x3 : Int32) (x4 : Int32) (x5 : Int32) (x6 : Int64) (x8 : Int64) (x10 : Int32) (x11 : Int32) (x13 : Int64) (x15 : Int64) (y0 : Int64) (y1 : Int32) (σ : Sg) : Option ((Int64 × Int32 × Sg) ⊕ ((Int64 × Sg))) :=
  if inb y1 1000 = true then (if x11 = x1 then (if (lg_cmp x15 x13) ≤ 0 then (fX10_letOff_b236 x1 x2 x3 x4 x5 x6 x10 x11 (0 : Int64) (wJ σ 14 (y1).toNatClampNeg y0)) else (fX10_letOff_b236 x1 x2 x3 x4 x5 x6 x10 x11 (1 : Int64) (wJ σ 14 (y1).toNatClampNeg y0))) else (fX10_letOff_b236 x1 x2 x3 x4 x5 x6 x10 x11 x8 (wJ σ 14 (y1).toNatClampNeg y0))) else none
def fX10_letOff_b119 (x1 : Int32) (x2 : Int32) (x3 : Int32) (x4 : Int32) (x5 : Int32) (x6 : Int64) (x8 : Int64) (x10 : Int32) (x11 : Int32) (σ : Sg) : Option ((Int64 × Int32 × Sg) ⊕ ((Int64 × Sg))) :=
  if (1000 : Int32) ≤ x11 then (some (.inr (x8, σ))) else (Option.bind (fX10_melted x11 x3 σ) fun p14 => (if inb (p14.1 - (p14.1 / (3 : Int32))) 1000 = true then (if inb p14.1 1000 = true then (Option.bind (fX10_melted (x11 - (x11 / (5 : Int32))) x3 p14.2) fun p18 => (if inb p18.1 1000 = true then (if (lg_cmp ((10 : Int64) * (rJ p18.2 13 (p18.1).toNatClampNeg)) (((x4).toInt64 * (rJ p14.2 13 ((p14.1 - (p14.1 / (3 : Int32)))).toNatClampNeg)) + ((((10 : Int32) - x4)).toInt64 * (rJ p14.2 13 (p14.1).toNatClampNeg)))) ≤ 0 then (fX10_letOff_b211 x1 x2 x3 x4 x5 x6 x8 x10 x11 (((x4).toInt64 * (rJ p14.2 13 ((p14.1 - (p14.1 / (3 : Int32)))).toNatClampNeg)) + ((((10 : Int32) - x4)).toInt64 * (rJ p14.2 13 (p14.1).toNatClampNeg))) ((10 : Int64) * (rJ p18.2 13 (p18.1).toNatClampNeg)) (((x4).toInt64 * (rJ p14.2 13 ((p14.1 - (p14.1 / (3 : Int32)))).toNatClampNeg)) + ((((10 : Int32) - x4)).toInt64 * (rJ p14.2 13 (p14.1).toNatClampNeg))) x11 p18.2) else (fX10_letOff_b211 x1 x2 x3 x4 x5 x6 x8 x10 x11 (((x4).toInt64 * (rJ p14.2 13 ((p14.1 - (p14.1 / (3 : Int32)))).toNatClampNeg)) + ((((10 : Int32) - x4)).toInt64 * (rJ p14.2 13 (p14.1).toNatClampNeg))) ((10 : Int64) * (rJ p18.2 13 (p18.1).toNatClampNeg)) ((10 : Int64) * (rJ p18.2 13 (p18.1).toNatClampNeg)) x11 p18.2)) else none)) else none) else none))
def fX10_letOff_b247 (x1 : Int32) (x2 : Int32) (x3 : Int32) (x4 : Int32) (x5 : Int32) (x6 : Int64) (x8 : Int64) (x10 : Int32) (x11 : Int32) (σ : Sg) : Option ((Int32 × Sg) ⊕ ((Sg))) :=
  if (1000 : Int32) ≤ x11 then (some (.inr σ)) else (if inb x11 1000 = true then (if inb x11 1000 = true then (some (.inl ((x11 + (1 : Int32)), (wJ σ 13 (x11).toNatClampNeg (rJ σ 14 (x11).toNatClampNeg))))) else none) else none)
def fX10_letOff_b102 (x1 : Int32) (x2 : Int32) (x3 : Int32) (x4 : Int32) (x5 : Int32) (x6 : Int64) (x8 : Int64) (x10 : Int32) (σ : Sg) : Option ((Int64 × Int64 × Int32 × Sg) ⊕ ((Int64 × Int64 × Sg))) :=
  if x2 ≤ x10 then (some (.inr (x6, x8, σ))) else (Option.bind (lp (fun s => fX10_letOff_b119 x1 x2 x3 x4 x5 (x6 * (10 : Int64)) s.1 x10 s.2.1 s.2.2) FU (x8, (0 : Int32), σ)) fun t22 => Option.bind (lp (fun s => fX10_letOff_b247 x1 x2 x3 x4 x5 (x6 * (10 : Int64)) t22.1 x10 s.1 s.2) FU ((0 : Int32), t22.2)) fun t26 => some (.inl ((x6 * (10 : Int64)), t22.1, (x10 + (1 : Int32)), t26)))
def fX10_letOff_b0 (x1 : Int32) (x2 : Int32) (x3 : Int32) (x4 : Int32) (x5 : Int32) (σ : Sg) : Option (Int64 × Sg) :=
  Option.bind (fX10_in ((x1).toInt64) (0 : Int64) (999 : Int64) σ) fun p1 => (if p1.1 = 0 then (some ((-102 : Int64), p1.2)) else (Option.bind (fX10_in ((x2).toInt64) (0 : Int64) (9 : Int64) p1.2) fun p3 => (if p3.1 = 0 then (some ((-102 : Int64), p3.2)) else (Option.bind (fX10_in ((x3).toInt64) (0 : Int64) (99 : Int64) p3.2) fun p5 => (if p5.1 = 0 then (some ((-102 : Int64), p5.2)) else (Option.bind (fX10_in ((x4).toInt64) (0 : Int64) (9 : Int64) p5.2) fun p7 => (if p7.1 = 0 then (some ((-102 : Int64), p7.2)) else (Option.bind (fX10_in ((x5).toInt64) (0 : Int64) (2 : Int64) p7.2) fun p9 => (if p9.1 = 0 then (some ((-102 : Int64), p9.2)) else (Option.bind (lp (fun s => fX10_letOff_b69 x1 x2 x3 x4 x5 s.1 s.2) FU ((0 : Int32), p9.2)) fun t12 => Option.bind (lp (fun s => fX10_letOff_b102 x1 x2 x3 x4 x5 s.1 s.2.1 s.2.2.1 s.2.2.2) FU ((1 : Int64), (0 : Int64), (0 : Int32), t12)) fun t28 => if inb x1 1000 = true then (Option.bind (fX10_common (rJ t28.2.2 13 (x1).toNatClampNeg) t28.1 t28.2.2) fun p31 => (if x5 = 0 then (if inb x1 1000 = true then (if p31.1 = 0 then none else some (((rJ p31.2 13 (x1).toNatClampNeg) / p31.1), p31.2)) else none) else (if x5 = (1 : Int32) then (if p31.1 = 0 then none else some ((t28.1 / p31.1), p31.2)) else (some (t28.2.1, p31.2))))) else none))))))))))
set_option maxRecDepth 4000 in
theorem bX10_letOff_b69 {K : KT} {x1 : Int32} {x2 : Int32} {x3 : Int32} {x4 : Int32} {x5 : Int32} {x6 : Int32} {σ : Sg} {o : (Int32 × Sg) ⊕ ((Sg))} (C : Cx K layM cX10_letOff RX10 17 (2) (some .long))  (hI : ∀ s' : Int32 × Sg, o = .inl s' → G K 69 [some (.ref (kad K 0)), some (.int x1), some (.int x2), some (.int x3), some (.int x4), some (.int x5), some (.int s'.1), none, none, none, none, none, none, none, none, none, none] [] (Wd K layM s'.2)) (hE0 : ∀ t : Sg, o = .inr t → G K 93 [some (.ref (kad K 0)), some (.int x1), some (.int x2), some (.int x3), some (.int x4), some (.int x5), none, none, none, none, none, none, none, none, none, none, none] [] (Wd K layM t)) (h : fX10_letOff_b69 x1 x2 x3 x4 x5 x6 σ = some o) : G K 69 [some (.ref (kad K 0)), some (.int x1), some (.int x2), some (.int x3), some (.int x4), some (.int x5), some (.int x6), none, none, none, none, none, none, none, none, none, none] [] (Wd K layM σ) := by
  unfold fX10_letOff_b69 at h
  refine g_iload C.c dX10_letOff_69 (i := 6) rfl ?_
  refine g_sipush C.c dX10_letOff_71 (v := (1000 : Int32)) (by decide) ?_
  refine g_icmp_ge C.c (tgt := 93) dX10_letOff_74 (by decide) (fun c => ?_) (fun c => ?_)
  · replace h := ite_t c h
    have g9 := hE0 _ (Option.some.inj h).symm
    exact g_mask [true, true, true, true, true, true, false, false, false, false, false, false, false, false, false, false, false] rfl g9
  · replace h := ite_f c h
    refine g_aload_n C.c dX10_letOff_77 rfl (i := 0) rfl ?_
    refine gf_10_46 C dX10_letOff_78 ?_
    refine g_iload C.c dX10_letOff_81 (i := 6) rfl ?_
    refine g_iload C.c dX10_letOff_83 (i := 6) rfl ?_
    refine g_i2l C.c dX10_letOff_85 ?_
    obtain ⟨c11, h⟩ := chk h
    refine g_last C dX10_letOff_86 rfl c11 ?_
    refine g_iinc C.c (i := 6) (y := (1 : Int32)) (L' := [some (.ref (kad K 0)), some (.int x1), some (.int x2), some (.int x3), some (.int x4), some (.int x5), some (.int (x6 + (1 : Int32))), none, none, none, none, none, none, none, none, none, none]) dX10_letOff_87 rfl (by decide) (Nat.le_of_ble_eq_true rfl) rfl ?_
    refine g_goto C.c (tgt := 69) dX10_letOff_90 (by decide) ?_
    have g9 := hI _ (Option.some.inj h).symm
    exact g_mask [true, true, true, true, true, true, true, false, false, false, false, false, false, false, false, false, false] rfl g9
set_option maxRecDepth 4000 in
theorem bX10_letOff_b236 {K : KT} {x1 : Int32} {x2 : Int32} {x3 : Int32} {x4 : Int32} {x5 : Int32} {x6 : Int64} {x10 : Int32} {x11 : Int32} {y0 : Int64} {σ : Sg} {o : (Int64 × Int32 × Sg) ⊕ ((Int64 × Sg))} (C : Cx K layM cX10_letOff RX10 17 (2) (some .long))  (hI : ∀ s' : Int64 × Int32 × Sg, o = .inl s' → G K 119 [some (.ref (kad K 0)), some (.int x1), some (.int x2), some (.int x3), some (.int x4), some (.int x5), some (.long x6), none, some (.long s'.1), none, some (.int x10), some (.int s'.2.1), none, none, none, none, none] [] (Wd K layM s'.2.2)) (hE0 : ∀ t : Int64 × Sg, o = .inr t → G K 244 [some (.ref (kad K 0)), some (.int x1), some (.int x2), some (.int x3), some (.int x4), some (.int x5), some (.long x6), none, some (.long t.1), none, some (.int x10), none, none, none, none, none, none] [] (Wd K layM t.2)) (h : fX10_letOff_b236 x1 x2 x3 x4 x5 x6 x10 x11 y0 σ = some o) : G K 236 [some (.ref (kad K 0)), some (.int x1), some (.int x2), some (.int x3), some (.int x4), some (.int x5), some (.long x6), none, none, none, some (.int x10), some (.int x11), none, none, none, none, none] [.long y0] (Wd K layM σ) := by
  unfold fX10_letOff_b236 at h
  refine g_lstore C.c (i := 8) (L' := [some (.ref (kad K 0)), some (.int x1), some (.int x2), some (.int x3), some (.int x4), some (.int x5), some (.long x6), none, some (.long y0), none, some (.int x10), some (.int x11), none, none, none, none, none]) dX10_letOff_236 (Nat.le_of_ble_eq_true rfl) rfl ?_
  refine g_iinc C.c (i := 11) (y := (1 : Int32)) (L' := [some (.ref (kad K 0)), some (.int x1), some (.int x2), some (.int x3), some (.int x4), some (.int x5), some (.long x6), none, some (.long y0), none, some (.int x10), some (.int (x11 + (1 : Int32))), none, none, none, none, none]) dX10_letOff_238 rfl (by decide) (Nat.le_of_ble_eq_true rfl) rfl ?_
  refine g_goto C.c (tgt := 119) dX10_letOff_241 (by decide) ?_
  have g9 := hI _ (Option.some.inj h).symm
  exact g_mask [true, true, true, true, true, true, true, false, true, false, true, true, false, false, false, false, false] rfl g9
set_option maxRecDepth 4000 in
theorem bX10_letOff_b211 {K : KT} {x1 : Int32} {x2 : Int32} {x3 : Int32} {x4 : Int32} {x5 : Int32} {x6 : Int64} {x8 : Int64} {x10 : Int32} {x11 : Int32} {x13 : Int64} {x15 : Int64} {y0 : Int64} {y1 : Int32} {σ : Sg} {o : (Int64 × Int32 × Sg) ⊕ ((Int64 × Sg))} (C : Cx K layM cX10_letOff RX10 17 (2) (some .long))  (hI : ∀ s' : Int64 × Int32 × Sg, o = .inl s' → G K 119 [some (.ref (kad K 0)), some (.int x1), some (.int x2), some (.int x3), some (.int x4), some (.int x5), some (.long x6), none, some (.long s'.1), none, some (.int x10), some (.int s'.2.1), none, none, none, none, none] [] (Wd K layM s'.2.2)) (hE0 : ∀ t : Int64 × Sg, o = .inr t → G K 244 [some (.ref (kad K 0)), some (.int x1), some (.int x2), some (.int x3), some (.int x4), some (.int x5), some (.long x6), none, some (.long t.1), none, some (.int x10), none, none, none, none, none, none] [] (Wd K layM t.2)) (h : fX10_letOff_b211 x1 x2 x3 x4 x5 x6 x8 x10 x11 x13 x15 y0 y1 σ = some o) : G K 211 [some (.ref (kad K 0)), some (.int x1), some (.int x2), some (.int x3), some (.int x4), some (.int x5), some (.long x6), none, some (.long x8), none, some (.int x10), some (.int x11), none, some (.long x13), none, some (.long x15), none] [.long y0, .int y1, .ref (kad K 14)] (Wd K layM σ) := by
  unfold fX10_letOff_b211 at h
  obtain ⟨c21, h⟩ := chk h
  refine g_last C dX10_letOff_211 rfl c21 ?_
  refine g_iload C.c dX10_letOff_212 (i := 11) rfl ?_
  refine g_iload_n C.c dX10_letOff_214 rfl (i := 1) rfl ?_
  refine g_icmp_ne C.c (tgt := 234) dX10_letOff_215 (by decide) (fun c => ?_) (fun c => ?_)
  · replace h := ite_f c h
    refine g_lload C.c dX10_letOff_234 (i := 8) rfl ?_
    exact g_mask [true, true, true, true, true, true, true, false, false, false, true, true, false, false, false, false, false] rfl (bX10_letOff_b236 C hI hE0 h)
  · replace h := ite_t c h
    refine g_lload C.c dX10_letOff_218 (i := 15) rfl ?_
    refine g_lload C.c dX10_letOff_220 (i := 13) rfl ?_
    refine g_lcmp C.c dX10_letOff_222 ?_
    refine g_if_le C.c (tgt := 230) dX10_letOff_223 (by decide) (fun c => ?_) (fun c => ?_)
    · replace h := ite_t c h
      refine g_lconst C.c dX10_letOff_230 (v := (0 : Int64)) (by decide) ?_
      refine g_goto C.c (tgt := 236) dX10_letOff_231 (by decide) ?_
      exact g_mask [true, true, true, true, true, true, true, false, false, false, true, true, false, false, false, false, false] rfl (bX10_letOff_b236 C hI hE0 h)
    · replace h := ite_f c h
      refine g_lconst C.c dX10_letOff_226 (v := (1 : Int64)) (by decide) ?_
      refine g_goto C.c (tgt := 236) dX10_letOff_227 (by decide) ?_
      exact g_mask [true, true, true, true, true, true, true, false, false, false, true, true, false, false, false, false, false] rfl (bX10_letOff_b236 C hI hE0 h)
set_option maxRecDepth 4000 in
theorem bX10_letOff_b119 {K : KT} {x1 : Int32} {x2 : Int32} {x3 : Int32} {x4 : Int32} {x5 : Int32} {x6 : Int64} {x8 : Int64} {x10 : Int32} {x11 : Int32} {σ : Sg} {o : (Int64 × Int32 × Sg) ⊕ ((Int64 × Sg))} (C : Cx K layM cX10_letOff RX10 17 (2) (some .long))  (hI : ∀ s' : Int64 × Int32 × Sg, o = .inl s' → G K 119 [some (.ref (kad K 0)), some (.int x1), some (.int x2), some (.int x3), some (.int x4), some (.int x5), some (.long x6), none, some (.long s'.1), none, some (.int x10), some (.int s'.2.1), none, none, none, none, none] [] (Wd K layM s'.2.2)) (hE0 : ∀ t : Int64 × Sg, o = .inr t → G K 244 [some (.ref (kad K 0)), some (.int x1), some (.int x2), some (.int x3), some (.int x4), some (.int x5), some (.long x6), none, some (.long t.1), none, some (.int x10), none, none, none, none, none, none] [] (Wd K layM t.2)) (h : fX10_letOff_b119 x1 x2 x3 x4 x5 x6 x8 x10 x11 σ = some o) : G K 119 [some (.ref (kad K 0)), some (.int x1), some (.int x2), some (.int x3), some (.int x4), some (.int x5), some (.long x6), none, some (.long x8), none, some (.int x10), some (.int x11), none, none, none, none, none] [] (Wd K layM σ) := by
  unfold fX10_letOff_b119 at h
  refine g_iload C.c dX10_letOff_119 (i := 11) rfl ?_
  refine g_sipush C.c dX10_letOff_121 (v := (1000 : Int32)) (by decide) ?_
  refine g_icmp_ge C.c (tgt := 244) dX10_letOff_124 (by decide) (fun c => ?_) (fun c => ?_)
  · replace h := ite_t c h
    have g9 := hE0 _ (Option.some.inj h).symm
    exact g_mask [true, true, true, true, true, true, true, false, true, false, true, false, false, false, false, false, false] rfl g9
  · replace h := ite_f c h
    refine g_iload C.c dX10_letOff_127 (i := 11) rfl ?_
    refine g_iload_n C.c dX10_letOff_129 rfl (i := 3) rfl ?_
    obtain ⟨p14, e15, h⟩ := Option.bind_eq_some_iff.mp h
    refine kc_10_276 C dX10_letOff_130 e15 (Nat.le_of_ble_eq_true rfl) rfl (Nat.le_of_ble_eq_true rfl) ?_
    refine g_istore C.c (i := 12) (L' := [some (.ref (kad K 0)), some (.int x1), some (.int x2), some (.int x3), some (.int x4), some (.int x5), some (.long x6), none, some (.long x8), none, some (.int x10), some (.int x11), some (.int p14.1), none, none, none, none]) dX10_letOff_133 (Nat.le_of_ble_eq_true rfl) rfl ?_
    refine g_iload C.c dX10_letOff_135 (i := 4) rfl ?_
    refine g_i2l C.c dX10_letOff_137 ?_
    refine g_aload_n C.c dX10_letOff_138 rfl (i := 0) rfl ?_
    refine gf_10_46 C dX10_letOff_139 ?_
    refine g_iload C.c dX10_letOff_142 (i := 12) rfl ?_
    refine g_iload C.c dX10_letOff_144 (i := 12) rfl ?_
    refine g_iconst C.c dX10_letOff_146 (v := (3 : Int32)) (by decide) ?_
    refine g_idiv C.c dX10_letOff_147 (by decide) ?_
    refine g_isub C.c dX10_letOff_148 ?_
    obtain ⟨c16, h⟩ := chk h
    refine g_lald C dX10_letOff_149 rfl c16 ?_
    refine g_lmul C.c dX10_letOff_150 ?_
    refine g_bipush C.c dX10_letOff_151 (v := (10 : Int32)) (by decide) ?_
    refine g_iload C.c dX10_letOff_153 (i := 4) rfl ?_
    refine g_isub C.c dX10_letOff_155 ?_
    refine g_i2l C.c dX10_letOff_156 ?_
    refine g_aload_n C.c dX10_letOff_157 rfl (i := 0) rfl ?_
    refine gf_10_46 C dX10_letOff_158 ?_
    refine g_iload C.c dX10_letOff_161 (i := 12) rfl ?_
    obtain ⟨c17, h⟩ := chk h
    refine g_lald C dX10_letOff_163 rfl c17 ?_
    refine g_lmul C.c dX10_letOff_164 ?_
    refine g_ladd C.c dX10_letOff_165 ?_
    refine g_lstore C.c (i := 13) (L' := [some (.ref (kad K 0)), some (.int x1), some (.int x2), some (.int x3), some (.int x4), some (.int x5), some (.long x6), none, some (.long x8), none, some (.int x10), some (.int x11), some (.int p14.1), some (.long (((x4).toInt64 * (rJ p14.2 13 ((p14.1 - (p14.1 / (3 : Int32)))).toNatClampNeg)) + ((((10 : Int32) - x4)).toInt64 * (rJ p14.2 13 (p14.1).toNatClampNeg)))), none, none, none]) dX10_letOff_166 (Nat.le_of_ble_eq_true rfl) rfl ?_
    refine g_ldc2 C.c (v := (10 : Int64)) aw_1007 dX10_letOff_168 ?_
    refine g_aload_n C.c dX10_letOff_171 rfl (i := 0) rfl ?_
    refine gf_10_46 C dX10_letOff_172 ?_
    refine g_iload C.c dX10_letOff_175 (i := 11) rfl ?_
    refine g_iload C.c dX10_letOff_177 (i := 11) rfl ?_
    refine g_iconst C.c dX10_letOff_179 (v := (5 : Int32)) (by decide) ?_
    refine g_idiv C.c dX10_letOff_180 (by decide) ?_
    refine g_isub C.c dX10_letOff_181 ?_
    refine g_iload_n C.c dX10_letOff_182 rfl (i := 3) rfl ?_
    obtain ⟨p18, e19, h⟩ := Option.bind_eq_some_iff.mp h
    refine kc_10_276 C dX10_letOff_183 e19 (Nat.le_of_ble_eq_true rfl) rfl (Nat.le_of_ble_eq_true rfl) ?_
    obtain ⟨c20, h⟩ := chk h
    refine g_lald C dX10_letOff_186 rfl c20 ?_
    refine g_lmul C.c dX10_letOff_187 ?_
    refine g_lstore C.c (i := 15) (L' := [some (.ref (kad K 0)), some (.int x1), some (.int x2), some (.int x3), some (.int x4), some (.int x5), some (.long x6), none, some (.long x8), none, some (.int x10), some (.int x11), some (.int p14.1), some (.long (((x4).toInt64 * (rJ p14.2 13 ((p14.1 - (p14.1 / (3 : Int32)))).toNatClampNeg)) + ((((10 : Int32) - x4)).toInt64 * (rJ p14.2 13 (p14.1).toNatClampNeg)))), none, some (.long ((10 : Int64) * (rJ p18.2 13 (p18.1).toNatClampNeg))), none]) dX10_letOff_188 (Nat.le_of_ble_eq_true rfl) rfl ?_
    refine g_aload_n C.c dX10_letOff_190 rfl (i := 0) rfl ?_
    refine gf_10_50 C dX10_letOff_191 ?_
    refine g_iload C.c dX10_letOff_194 (i := 11) rfl ?_
    refine g_lload C.c dX10_letOff_196 (i := 15) rfl ?_
    refine g_lload C.c dX10_letOff_198 (i := 13) rfl ?_
    refine g_lcmp C.c dX10_letOff_200 ?_
    refine g_if_le C.c (tgt := 209) dX10_letOff_201 (by decide) (fun c => ?_) (fun c => ?_)
    · replace h := ite_t c h
      refine g_lload C.c dX10_letOff_209 (i := 13) rfl ?_
      exact g_mask [true, true, true, true, true, true, true, false, true, false, true, true, false, true, false, true, false] rfl (bX10_letOff_b211 C hI hE0 h)
    · replace h := ite_f c h
      refine g_lload C.c dX10_letOff_204 (i := 15) rfl ?_
      refine g_goto C.c (tgt := 211) dX10_letOff_206 (by decide) ?_
      exact g_mask [true, true, true, true, true, true, true, false, true, false, true, true, false, true, false, true, false] rfl (bX10_letOff_b211 C hI hE0 h)
set_option maxRecDepth 4000 in
theorem bX10_letOff_b247 {K : KT} {x1 : Int32} {x2 : Int32} {x3 : Int32} {x4 : Int32} {x5 : Int32} {x6 : Int64} {x8 : Int64} {x10 : Int32} {x11 : Int32} {σ : Sg} {o : (Int32 × Sg) ⊕ ((Sg))} (C : Cx K layM cX10_letOff RX10 17 (2) (some .long))  (hI : ∀ s' : Int32 × Sg, o = .inl s' → G K 247 [some (.ref (kad K 0)), some (.int x1), some (.int x2), some (.int x3), some (.int x4), some (.int x5), some (.long x6), none, some (.long x8), none, some (.int x10), some (.int s'.1), none, none, none, none, none] [] (Wd K layM s'.2)) (hE0 : ∀ t : Sg, o = .inr t → G K 275 [some (.ref (kad K 0)), some (.int x1), some (.int x2), some (.int x3), some (.int x4), some (.int x5), some (.long x6), none, some (.long x8), none, some (.int x10), none, none, none, none, none, none] [] (Wd K layM t)) (h : fX10_letOff_b247 x1 x2 x3 x4 x5 x6 x8 x10 x11 σ = some o) : G K 247 [some (.ref (kad K 0)), some (.int x1), some (.int x2), some (.int x3), some (.int x4), some (.int x5), some (.long x6), none, some (.long x8), none, some (.int x10), some (.int x11), none, none, none, none, none] [] (Wd K layM σ) := by
  unfold fX10_letOff_b247 at h
  refine g_iload C.c dX10_letOff_247 (i := 11) rfl ?_
  refine g_sipush C.c dX10_letOff_249 (v := (1000 : Int32)) (by decide) ?_
  refine g_icmp_ge C.c (tgt := 275) dX10_letOff_252 (by decide) (fun c => ?_) (fun c => ?_)
  · replace h := ite_t c h
    have g9 := hE0 _ (Option.some.inj h).symm
    exact g_mask [true, true, true, true, true, true, true, false, true, false, true, false, false, false, false, false, false] rfl g9
  · replace h := ite_f c h
    refine g_aload_n C.c dX10_letOff_255 rfl (i := 0) rfl ?_
    refine gf_10_46 C dX10_letOff_256 ?_
    refine g_iload C.c dX10_letOff_259 (i := 11) rfl ?_
    refine g_aload_n C.c dX10_letOff_261 rfl (i := 0) rfl ?_
    refine gf_10_50 C dX10_letOff_262 ?_
    refine g_iload C.c dX10_letOff_265 (i := 11) rfl ?_
    obtain ⟨c24, h⟩ := chk h
    refine g_lald C dX10_letOff_267 rfl c24 ?_
    obtain ⟨c25, h⟩ := chk h
    refine g_last C dX10_letOff_268 rfl c25 ?_
    refine g_iinc C.c (i := 11) (y := (1 : Int32)) (L' := [some (.ref (kad K 0)), some (.int x1), some (.int x2), some (.int x3), some (.int x4), some (.int x5), some (.long x6), none, some (.long x8), none, some (.int x10), some (.int (x11 + (1 : Int32))), none, none, none, none, none]) dX10_letOff_269 rfl (by decide) (Nat.le_of_ble_eq_true rfl) rfl ?_
    refine g_goto C.c (tgt := 247) dX10_letOff_272 (by decide) ?_
    have g9 := hI _ (Option.some.inj h).symm
    exact g_mask [true, true, true, true, true, true, true, false, true, false, true, true, false, false, false, false, false] rfl g9
set_option maxRecDepth 4000 in
theorem bX10_letOff_b102 {K : KT} {x1 : Int32} {x2 : Int32} {x3 : Int32} {x4 : Int32} {x5 : Int32} {x6 : Int64} {x8 : Int64} {x10 : Int32} {σ : Sg} {o : (Int64 × Int64 × Int32 × Sg) ⊕ ((Int64 × Int64 × Sg))} (C : Cx K layM cX10_letOff RX10 17 (2) (some .long))  (hI : ∀ s' : Int64 × Int64 × Int32 × Sg, o = .inl s' → G K 102 [some (.ref (kad K 0)), some (.int x1), some (.int x2), some (.int x3), some (.int x4), some (.int x5), some (.long s'.1), none, some (.long s'.2.1), none, some (.int s'.2.2.1), none, none, none, none, none, none] [] (Wd K layM s'.2.2.2)) (hE0 : ∀ t : Int64 × Int64 × Sg, o = .inr t → G K 281 [some (.ref (kad K 0)), some (.int x1), none, none, none, some (.int x5), some (.long t.1), none, some (.long t.2.1), none, none, none, none, none, none, none, none] [] (Wd K layM t.2.2)) (h : fX10_letOff_b102 x1 x2 x3 x4 x5 x6 x8 x10 σ = some o) : G K 102 [some (.ref (kad K 0)), some (.int x1), some (.int x2), some (.int x3), some (.int x4), some (.int x5), some (.long x6), none, some (.long x8), none, some (.int x10), none, none, none, none, none, none] [] (Wd K layM σ) := by
  unfold fX10_letOff_b102 at h
  refine g_iload C.c dX10_letOff_102 (i := 10) rfl ?_
  refine g_iload_n C.c dX10_letOff_104 rfl (i := 2) rfl ?_
  refine g_icmp_ge C.c (tgt := 281) dX10_letOff_105 (by decide) (fun c => ?_) (fun c => ?_)
  · replace h := ite_t c h
    have g9 := hE0 _ (Option.some.inj h).symm
    exact g_mask [true, true, false, false, false, true, true, false, true, false, false, false, false, false, false, false, false] rfl g9
  · replace h := ite_f c h
    refine g_lload C.c dX10_letOff_108 (i := 6) rfl ?_
    refine g_ldc2 C.c (v := (10 : Int64)) aw_1007 dX10_letOff_110 ?_
    refine g_lmul C.c dX10_letOff_113 ?_
    refine g_lstore C.c (i := 6) (L' := [some (.ref (kad K 0)), some (.int x1), some (.int x2), some (.int x3), some (.int x4), some (.int x5), some (.long (x6 * (10 : Int64))), none, some (.long x8), none, some (.int x10), none, none, none, none, none, none]) dX10_letOff_114 (Nat.le_of_ble_eq_true rfl) rfl ?_
    refine g_iconst C.c dX10_letOff_116 (v := (0 : Int32)) (by decide) ?_
    refine g_istore C.c (i := 11) (L' := [some (.ref (kad K 0)), some (.int x1), some (.int x2), some (.int x3), some (.int x4), some (.int x5), some (.long (x6 * (10 : Int64))), none, some (.long x8), none, some (.int x10), some (.int (0 : Int32)), none, none, none, none, none]) dX10_letOff_117 (Nat.le_of_ble_eq_true rfl) rfl ?_
    refine g_mask [true, true, true, true, true, true, true, false, true, false, true, true, false, false, false, false, false] rfl ?_
    refine lp_bind (Gh := fun s => G K 119 [some (.ref (kad K 0)), some (.int x1), some (.int x2), some (.int x3), some (.int x4), some (.int x5), some (.long (x6 * (10 : Int64))), none, some (.long s.1), none, some (.int x10), some (.int s.2.1), none, none, none, none, none] [] (Wd K layM s.2.2)) h (fun s o2 hf gI gE => ?_)
    refine bX10_letOff_b119 C gI (fun t22 e => ?_) hf
    · have h := gE _ e
      refine g_iconst C.c dX10_letOff_244 (v := (0 : Int32)) (by decide) ?_
      refine g_istore C.c (i := 11) (L' := [some (.ref (kad K 0)), some (.int x1), some (.int x2), some (.int x3), some (.int x4), some (.int x5), some (.long (x6 * (10 : Int64))), none, some (.long t22.1), none, some (.int x10), some (.int (0 : Int32)), none, none, none, none, none]) dX10_letOff_245 (Nat.le_of_ble_eq_true rfl) rfl ?_
      refine g_mask [true, true, true, true, true, true, true, false, true, false, true, true, false, false, false, false, false] rfl ?_
      refine lp_bind (Gh := fun s => G K 247 [some (.ref (kad K 0)), some (.int x1), some (.int x2), some (.int x3), some (.int x4), some (.int x5), some (.long (x6 * (10 : Int64))), none, some (.long t22.1), none, some (.int x10), some (.int s.1), none, none, none, none, none] [] (Wd K layM s.2)) h (fun s o2 hf gI gE => ?_)
      refine bX10_letOff_b247 C gI (fun t26 e => ?_) hf
      · have h := gE _ e
        refine g_iinc C.c (i := 10) (y := (1 : Int32)) (L' := [some (.ref (kad K 0)), some (.int x1), some (.int x2), some (.int x3), some (.int x4), some (.int x5), some (.long (x6 * (10 : Int64))), none, some (.long t22.1), none, some (.int (x10 + (1 : Int32))), none, none, none, none, none, none]) dX10_letOff_275 rfl (by decide) (Nat.le_of_ble_eq_true rfl) rfl ?_
        refine g_goto C.c (tgt := 102) dX10_letOff_278 (by decide) ?_
        have g9 := hI _ (Option.some.inj h).symm
        exact g_mask [true, true, true, true, true, true, true, false, true, false, true, false, false, false, false, false, false] rfl g9
set_option maxRecDepth 4000 in
theorem bX10_letOff_b0 {K : KT} {x1 : Int32} {x2 : Int32} {x3 : Int32} {x4 : Int32} {x5 : Int32} {σ : Sg} {o : Int64 × Sg} (C : Cx K layM cX10_letOff RX10 17 (2) (some .long))  (hQ : Rk K layM (okJ o)) (h : fX10_letOff_b0 x1 x2 x3 x4 x5 σ = some o) : G K 0 [some (.ref (kad K 0)), some (.int x1), some (.int x2), some (.int x3), some (.int x4), some (.int x5), none, none, none, none, none, none, none, none, none, none, none] [] (Wd K layM σ) := by
  unfold fX10_letOff_b0 at h
  refine g_iload_n C.c dX10_letOff_0 rfl (i := 1) rfl ?_
  refine g_i2l C.c dX10_letOff_1 ?_
  refine g_lconst C.c dX10_letOff_2 (v := (0 : Int64)) (by decide) ?_
  refine g_ldc2 C.c (v := (999 : Int64)) aw_1008 dX10_letOff_3 ?_
  obtain ⟨p1, e2, h⟩ := Option.bind_eq_some_iff.mp h
  refine kc_10_102 C dX10_letOff_6 e2 (Nat.le_of_ble_eq_true rfl) rfl (Nat.le_of_ble_eq_true rfl) ?_
  refine g_if_eq C.c (tgt := 62) dX10_letOff_9 (by decide) (fun c => ?_) (fun c => ?_)
  · replace h := ite_t c h
    refine g_ldc2 C.c (v := (-102 : Int64)) aw_1135 dX10_letOff_62 ?_
    obtain rfl := Option.some.inj h
    exact g_lret C hQ dX10_letOff_65 ⟨rfl, rfl⟩
  · replace h := ite_f c h
    refine g_iload_n C.c dX10_letOff_12 rfl (i := 2) rfl ?_
    refine g_i2l C.c dX10_letOff_13 ?_
    refine g_lconst C.c dX10_letOff_14 (v := (0 : Int64)) (by decide) ?_
    refine g_ldc2 C.c (v := (9 : Int64)) aw_1011 dX10_letOff_15 ?_
    obtain ⟨p3, e4, h⟩ := Option.bind_eq_some_iff.mp h
    refine kc_10_102 C dX10_letOff_18 e4 (Nat.le_of_ble_eq_true rfl) rfl (Nat.le_of_ble_eq_true rfl) ?_
    refine g_if_eq C.c (tgt := 62) dX10_letOff_21 (by decide) (fun c => ?_) (fun c => ?_)
    · replace h := ite_t c h
      refine g_ldc2 C.c (v := (-102 : Int64)) aw_1135 dX10_letOff_62 ?_
      obtain rfl := Option.some.inj h
      exact g_lret C hQ dX10_letOff_65 ⟨rfl, rfl⟩
    · replace h := ite_f c h
      refine g_iload_n C.c dX10_letOff_24 rfl (i := 3) rfl ?_
      refine g_i2l C.c dX10_letOff_25 ?_
      refine g_lconst C.c dX10_letOff_26 (v := (0 : Int64)) (by decide) ?_
      refine g_ldc2 C.c (v := (99 : Int64)) aw_1009 dX10_letOff_27 ?_
      obtain ⟨p5, e6, h⟩ := Option.bind_eq_some_iff.mp h
      refine kc_10_102 C dX10_letOff_30 e6 (Nat.le_of_ble_eq_true rfl) rfl (Nat.le_of_ble_eq_true rfl) ?_
      refine g_if_eq C.c (tgt := 62) dX10_letOff_33 (by decide) (fun c => ?_) (fun c => ?_)
      · replace h := ite_t c h
        refine g_ldc2 C.c (v := (-102 : Int64)) aw_1135 dX10_letOff_62 ?_
        obtain rfl := Option.some.inj h
        exact g_lret C hQ dX10_letOff_65 ⟨rfl, rfl⟩
      · replace h := ite_f c h
        refine g_iload C.c dX10_letOff_36 (i := 4) rfl ?_
        refine g_i2l C.c dX10_letOff_38 ?_
        refine g_lconst C.c dX10_letOff_39 (v := (0 : Int64)) (by decide) ?_
        refine g_ldc2 C.c (v := (9 : Int64)) aw_1011 dX10_letOff_40 ?_
        obtain ⟨p7, e8, h⟩ := Option.bind_eq_some_iff.mp h
        refine kc_10_102 C dX10_letOff_43 e8 (Nat.le_of_ble_eq_true rfl) rfl (Nat.le_of_ble_eq_true rfl) ?_
        refine g_if_eq C.c (tgt := 62) dX10_letOff_46 (by decide) (fun c => ?_) (fun c => ?_)
        · replace h := ite_t c h
          refine g_ldc2 C.c (v := (-102 : Int64)) aw_1135 dX10_letOff_62 ?_
          obtain rfl := Option.some.inj h
          exact g_lret C hQ dX10_letOff_65 ⟨rfl, rfl⟩
        · replace h := ite_f c h
          refine g_iload C.c dX10_letOff_49 (i := 5) rfl ?_
          refine g_i2l C.c dX10_letOff_51 ?_
          refine g_lconst C.c dX10_letOff_52 (v := (0 : Int64)) (by decide) ?_
          refine g_ldc2 C.c (v := (2 : Int64)) aw_1010 dX10_letOff_53 ?_
          obtain ⟨p9, e10, h⟩ := Option.bind_eq_some_iff.mp h
          refine kc_10_102 C dX10_letOff_56 e10 (Nat.le_of_ble_eq_true rfl) rfl (Nat.le_of_ble_eq_true rfl) ?_
          refine g_if_ne C.c (tgt := 66) dX10_letOff_59 (by decide) (fun c => ?_) (fun c => ?_)
          · replace h := ite_f c h
            refine g_iconst C.c dX10_letOff_66 (v := (0 : Int32)) (by decide) ?_
            refine g_istore C.c (i := 6) (L' := [some (.ref (kad K 0)), some (.int x1), some (.int x2), some (.int x3), some (.int x4), some (.int x5), some (.int (0 : Int32)), none, none, none, none, none, none, none, none, none, none]) dX10_letOff_67 (Nat.le_of_ble_eq_true rfl) rfl ?_
            refine g_mask [true, true, true, true, true, true, true, false, false, false, false, false, false, false, false, false, false] rfl ?_
            refine lp_bind (Gh := fun s => G K 69 [some (.ref (kad K 0)), some (.int x1), some (.int x2), some (.int x3), some (.int x4), some (.int x5), some (.int s.1), none, none, none, none, none, none, none, none, none, none] [] (Wd K layM s.2)) h (fun s o2 hf gI gE => ?_)
            refine bX10_letOff_b69 C gI (fun t12 e => ?_) hf
            · have h := gE _ e
              refine g_lconst C.c dX10_letOff_93 (v := (1 : Int64)) (by decide) ?_
              refine g_lstore C.c (i := 6) (L' := [some (.ref (kad K 0)), some (.int x1), some (.int x2), some (.int x3), some (.int x4), some (.int x5), some (.long (1 : Int64)), none, none, none, none, none, none, none, none, none, none]) dX10_letOff_94 (Nat.le_of_ble_eq_true rfl) rfl ?_
              refine g_lconst C.c dX10_letOff_96 (v := (0 : Int64)) (by decide) ?_
              refine g_lstore C.c (i := 8) (L' := [some (.ref (kad K 0)), some (.int x1), some (.int x2), some (.int x3), some (.int x4), some (.int x5), some (.long (1 : Int64)), none, some (.long (0 : Int64)), none, none, none, none, none, none, none, none]) dX10_letOff_97 (Nat.le_of_ble_eq_true rfl) rfl ?_
              refine g_iconst C.c dX10_letOff_99 (v := (0 : Int32)) (by decide) ?_
              refine g_istore C.c (i := 10) (L' := [some (.ref (kad K 0)), some (.int x1), some (.int x2), some (.int x3), some (.int x4), some (.int x5), some (.long (1 : Int64)), none, some (.long (0 : Int64)), none, some (.int (0 : Int32)), none, none, none, none, none, none]) dX10_letOff_100 (Nat.le_of_ble_eq_true rfl) rfl ?_
              refine g_mask [true, true, true, true, true, true, true, false, true, false, true, false, false, false, false, false, false] rfl ?_
              refine lp_bind (Gh := fun s => G K 102 [some (.ref (kad K 0)), some (.int x1), some (.int x2), some (.int x3), some (.int x4), some (.int x5), some (.long s.1), none, some (.long s.2.1), none, some (.int s.2.2.1), none, none, none, none, none, none] [] (Wd K layM s.2.2.2)) h (fun s o2 hf gI gE => ?_)
              refine bX10_letOff_b102 C gI (fun t28 e => ?_) hf
              · have h := gE _ e
                refine g_aload_n C.c dX10_letOff_281 rfl (i := 0) rfl ?_
                refine gf_10_46 C dX10_letOff_282 ?_
                refine g_iload_n C.c dX10_letOff_285 rfl (i := 1) rfl ?_
                obtain ⟨c30, h⟩ := chk h
                refine g_lald C dX10_letOff_286 rfl c30 ?_
                refine g_lload C.c dX10_letOff_287 (i := 6) rfl ?_
                obtain ⟨p31, e32, h⟩ := Option.bind_eq_some_iff.mp h
                refine kc_10_279 C dX10_letOff_289 e32 (Nat.le_of_ble_eq_true rfl) rfl (Nat.le_of_ble_eq_true rfl) ?_
                refine g_lstore C.c (i := 10) (L' := [some (.ref (kad K 0)), some (.int x1), none, none, none, some (.int x5), some (.long t28.1), none, some (.long t28.2.1), none, some (.long p31.1), none, none, none, none, none, none]) dX10_letOff_292 (Nat.le_of_ble_eq_true rfl) rfl ?_
                refine g_iload C.c dX10_letOff_294 (i := 5) rfl ?_
                refine g_if_ne C.c (tgt := 311) dX10_letOff_296 (by decide) (fun c => ?_) (fun c => ?_)
                · replace h := ite_f c h
                  refine g_iload C.c dX10_letOff_311 (i := 5) rfl ?_
                  refine g_iconst C.c dX10_letOff_313 (v := (1 : Int32)) (by decide) ?_
                  refine g_icmp_ne C.c (tgt := 325) dX10_letOff_314 (by decide) (fun c => ?_) (fun c => ?_)
                  · replace h := ite_f c h
                    refine g_lload C.c dX10_letOff_325 (i := 8) rfl ?_
                    obtain rfl := Option.some.inj h
                    exact g_lret C hQ dX10_letOff_327 ⟨rfl, rfl⟩
                  · replace h := ite_t c h
                    refine g_lload C.c dX10_letOff_317 (i := 6) rfl ?_
                    refine g_lload C.c dX10_letOff_319 (i := 10) rfl ?_
                    obtain ⟨c33, h⟩ := chk0 h
                    refine g_ldiv C.c dX10_letOff_321 c33 ?_
                    refine g_goto C.c (tgt := 327) dX10_letOff_322 (by decide) ?_
                    obtain rfl := Option.some.inj h
                    exact g_lret C hQ dX10_letOff_327 ⟨rfl, rfl⟩
                · replace h := ite_t c h
                  refine g_aload_n C.c dX10_letOff_299 rfl (i := 0) rfl ?_
                  refine gf_10_46 C dX10_letOff_300 ?_
                  refine g_iload_n C.c dX10_letOff_303 rfl (i := 1) rfl ?_
                  obtain ⟨c34, h⟩ := chk h
                  refine g_lald C dX10_letOff_304 rfl c34 ?_
                  refine g_lload C.c dX10_letOff_305 (i := 10) rfl ?_
                  obtain ⟨c35, h⟩ := chk0 h
                  refine g_ldiv C.c dX10_letOff_307 c35 ?_
                  refine g_goto C.c (tgt := 327) dX10_letOff_308 (by decide) ?_
                  obtain rfl := Option.some.inj h
                  exact g_lret C hQ dX10_letOff_327 ⟨rfl, rfl⟩
          · replace h := ite_t c h
            refine g_ldc2 C.c (v := (-102 : Int64)) aw_1135 dX10_letOff_62 ?_
            obtain rfl := Option.some.inj h
            exact g_lret C hQ dX10_letOff_65 ⟨rfl, rfl⟩
def fX10_letOff (a0 : Int32) (a1 : Int32) (a2 : Int32) (a3 : Int32) (a4 : Int32) (σ : Sg) : Option (Int64 × Sg) := fX10_letOff_b0 a0 a1 a2 a3 a4 σ
theorem ct_X10_letOff {a0 : Int32} {a1 : Int32} {a2 : Int32} {a3 : Int32} {a4 : Int32} {σ : Sg} {p : Int64 × Sg} (h : fX10_letOff a0 a1 a2 a3 a4 σ = some p) : Ct layM yX10_letOff cX10_letOff 17 (some .long) 2 (fun ad => [.ref (ad 0), .int a0, .int a1, .int a2, .int a3, .int a4]) σ (okJ p) :=
 ct_of (L0 := fun ad => [some (.ref (ad 0)), some (.int a0), some (.int a1), some (.int a2), some (.int a3), some (.int a4), none, none, none, none, none, none, none, none, none, none, none]) (by decide) (fun _ => Nat.le_of_ble_eq_true rfl) (fun _ => rfl) (fun K C hQ => g_mask [true, true, true, true, true, true, false, false, false, false, false, false, false, false, false, false, false] rfl (bX10_letOff_b0 C hQ h))
-- X10_line
theorem dX10_line_0 : decode cX10_line 0 = .ok (.iload_n 1, 1) := by decide +kernel
theorem dX10_line_1 : decode cX10_line 1 = .ok (.i2l, 1) := by decide +kernel
theorem dX10_line_2 : decode cX10_line 2 = .ok (.lconst 0, 1) := by decide +kernel
theorem dX10_line_3 : decode cX10_line 3 = .ok (.ldc2_w 147, 3) := by decide +kernel
theorem dX10_line_6 : decode cX10_line 6 = .ok (.invokestatic 102, 3) := by decide +kernel
theorem dX10_line_9 : decode cX10_line 9 = .ok (.ifCond .eq 11, 3) := by decide +kernel
theorem dX10_line_12 : decode cX10_line 12 = .ok (.aload_n 0, 1) := by decide +kernel
theorem dX10_line_13 : decode cX10_line 13 = .ok (.iload_n 2, 1) := by decide +kernel
theorem dX10_line_14 : decode cX10_line 14 = .ok (.invokevirtual 159, 3) := by decide +kernel
theorem dX10_line_17 : decode cX10_line 17 = .ok (.ifCond .ne 6, 3) := by decide +kernel
theorem dX10_line_20 : decode cX10_line 20 = .ok (.bipush (-101), 2) := by decide +kernel
theorem dX10_line_22 : decode cX10_line 22 = .ok (.ireturn, 1) := by decide +kernel
theorem dX10_line_23 : decode cX10_line 23 = .ok (.iload_n 3, 1) := by decide +kernel
theorem dX10_line_24 : decode cX10_line 24 = .ok (.i2l, 1) := by decide +kernel
theorem dX10_line_25 : decode cX10_line 25 = .ok (.lconst 0, 1) := by decide +kernel
theorem dX10_line_26 : decode cX10_line 26 = .ok (.ldc2_w 153, 3) := by decide +kernel
theorem dX10_line_29 : decode cX10_line 29 = .ok (.invokestatic 102, 3) := by decide +kernel
theorem dX10_line_32 : decode cX10_line 32 = .ok (.ifCond .ne 6, 3) := by decide +kernel
theorem dX10_line_35 : decode cX10_line 35 = .ok (.bipush (-102), 2) := by decide +kernel
theorem dX10_line_37 : decode cX10_line 37 = .ok (.ireturn, 1) := by decide +kernel
theorem dX10_line_38 : decode cX10_line 38 = .ok (.aload_n 0, 1) := by decide +kernel
theorem dX10_line_39 : decode cX10_line 39 = .ok (.getfield 128, 3) := by decide +kernel
theorem dX10_line_42 : decode cX10_line 42 = .ok (.bipush 10, 2) := by decide +kernel
theorem dX10_line_44 : decode cX10_line 44 = .ok (.if_icmp .ne 6, 3) := by decide +kernel
theorem dX10_line_47 : decode cX10_line 47 = .ok (.bipush (-104), 2) := by decide +kernel
theorem dX10_line_49 : decode cX10_line 49 = .ok (.ireturn, 1) := by decide +kernel
theorem dX10_line_50 : decode cX10_line 50 = .ok (.aload_n 0, 1) := by decide +kernel
theorem dX10_line_51 : decode cX10_line 51 = .ok (.getfield 28, 3) := by decide +kernel
theorem dX10_line_54 : decode cX10_line 54 = .ok (.iconst 3, 1) := by decide +kernel
theorem dX10_line_55 : decode cX10_line 55 = .ok (.aload_n 0, 1) := by decide +kernel
theorem dX10_line_56 : decode cX10_line 56 = .ok (.getfield 128, 3) := by decide +kernel
theorem dX10_line_59 : decode cX10_line 59 = .ok (.imul, 1) := by decide +kernel
theorem dX10_line_60 : decode cX10_line 60 = .ok (.iload_n 1, 1) := by decide +kernel
theorem dX10_line_61 : decode cX10_line 61 = .ok (.iastore, 1) := by decide +kernel
theorem dX10_line_62 : decode cX10_line 62 = .ok (.aload_n 0, 1) := by decide +kernel
theorem dX10_line_63 : decode cX10_line 63 = .ok (.getfield 28, 3) := by decide +kernel
theorem dX10_line_66 : decode cX10_line 66 = .ok (.iconst 3, 1) := by decide +kernel
theorem dX10_line_67 : decode cX10_line 67 = .ok (.aload_n 0, 1) := by decide +kernel
theorem dX10_line_68 : decode cX10_line 68 = .ok (.getfield 128, 3) := by decide +kernel
theorem dX10_line_71 : decode cX10_line 71 = .ok (.imul, 1) := by decide +kernel
theorem dX10_line_72 : decode cX10_line 72 = .ok (.iconst 1, 1) := by decide +kernel
theorem dX10_line_73 : decode cX10_line 73 = .ok (.iadd, 1) := by decide +kernel
theorem dX10_line_74 : decode cX10_line 74 = .ok (.iload_n 2, 1) := by decide +kernel
theorem dX10_line_75 : decode cX10_line 75 = .ok (.iastore, 1) := by decide +kernel
theorem dX10_line_76 : decode cX10_line 76 = .ok (.aload_n 0, 1) := by decide +kernel
theorem dX10_line_77 : decode cX10_line 77 = .ok (.getfield 28, 3) := by decide +kernel
theorem dX10_line_80 : decode cX10_line 80 = .ok (.iconst 3, 1) := by decide +kernel
theorem dX10_line_81 : decode cX10_line 81 = .ok (.aload_n 0, 1) := by decide +kernel
theorem dX10_line_82 : decode cX10_line 82 = .ok (.getfield 128, 3) := by decide +kernel
theorem dX10_line_85 : decode cX10_line 85 = .ok (.imul, 1) := by decide +kernel
theorem dX10_line_86 : decode cX10_line 86 = .ok (.iconst 2, 1) := by decide +kernel
theorem dX10_line_87 : decode cX10_line 87 = .ok (.iadd, 1) := by decide +kernel
theorem dX10_line_88 : decode cX10_line 88 = .ok (.iload_n 3, 1) := by decide +kernel
theorem dX10_line_89 : decode cX10_line 89 = .ok (.iastore, 1) := by decide +kernel
theorem dX10_line_90 : decode cX10_line 90 = .ok (.aload_n 0, 1) := by decide +kernel
theorem dX10_line_91 : decode cX10_line 91 = .ok (.dup, 1) := by decide +kernel
theorem dX10_line_92 : decode cX10_line 92 = .ok (.getfield 128, 3) := by decide +kernel
theorem dX10_line_95 : decode cX10_line 95 = .ok (.iconst 1, 1) := by decide +kernel
theorem dX10_line_96 : decode cX10_line 96 = .ok (.iadd, 1) := by decide +kernel
theorem dX10_line_97 : decode cX10_line 97 = .ok (.putfield 128, 3) := by decide +kernel
theorem dX10_line_100 : decode cX10_line 100 = .ok (.aload_n 0, 1) := by decide +kernel
theorem dX10_line_101 : decode cX10_line 101 = .ok (.getfield 128, 3) := by decide +kernel
theorem dX10_line_104 : decode cX10_line 104 = .ok (.ireturn, 1) := by decide +kernel
theorem cw_X10_line : Cw yX10_line cX10_line 4 (some .int) 3 := ⟨aw_1145, aw_56, ⟨by decide, by decide⟩, by decide +kernel, by decide⟩
theorem gf_10_128 {K : KT} {cc : ByteArray} {nL d pc : Nat} {ret : Option FieldType} {L : List (Option Value)} {st : List Value} {σ : Sg} (C : Cx K layM cc RX10 nL d ret)  (hd : decode cc pc = .ok (.getfield 128, 3)) (k : G K (pc + 3) L (.int (rI σ 0 20) :: st) (Wd K layM σ)) : G K pc L (.ref (kad K 0) :: st) (Wd K layM σ) := g_get C (o := 0) (ci := 10) (k := 20) hd rfl rfl rfl (by decide) (Or.inl aw_809) inA10 rfl k
theorem gf_10_28 {K : KT} {cc : ByteArray} {nL d pc : Nat} {ret : Option FieldType} {L : List (Option Value)} {st : List Value} {σ : Sg} (C : Cx K layM cc RX10 nL d ret)  (hd : decode cc pc = .ok (.getfield 28, 3)) (k : G K (pc + 3) L (.ref (kad K 7) :: st) (Wd K layM σ)) : G K pc L (.ref (kad K 0) :: st) (Wd K layM σ) := g_get C (o := 0) (ci := 10) (k := 21) hd rfl rfl rfl (by decide) (Or.inl aw_810) inA10 rfl k
def fX10_line_b0 (x1 : Int32) (x2 : Int32) (x3 : Int32) (σ : Sg) : Option (Int32 × Sg) :=
  Option.bind (fX10_in ((x1).toInt64) (0 : Int64) (4 : Int64) σ) fun p1 => (if p1.1 = 0 then (some ((-101 : Int32), p1.2)) else (Option.bind (fX10_isBerg x2 p1.2) fun p3 => (if p3.1 = 0 then (some ((-101 : Int32), p3.2)) else (Option.bind (fX10_in ((x3).toInt64) (0 : Int64) (99 : Int64) p3.2) fun p5 => (if p5.1 = 0 then (some ((-102 : Int32), p5.2)) else (if (rI p5.2 0 20) = (10 : Int32) then (some ((-104 : Int32), p5.2)) else (if inb ((3 : Int32) * (rI p5.2 0 20)) 30 = true then (if inb (((3 : Int32) * (rI (wI p5.2 7 (((3 : Int32) * (rI p5.2 0 20))).toNatClampNeg x1) 0 20)) + (1 : Int32)) 30 = true then (if inb (((3 : Int32) * (rI (wI (wI p5.2 7 (((3 : Int32) * (rI p5.2 0 20))).toNatClampNeg x1) 7 ((((3 : Int32) * (rI (wI p5.2 7 (((3 : Int32) * (rI p5.2 0 20))).toNatClampNeg x1) 0 20)) + (1 : Int32))).toNatClampNeg x2) 0 20)) + (2 : Int32)) 30 = true then (some ((rI (wI (wI (wI (wI p5.2 7 (((3 : Int32) * (rI p5.2 0 20))).toNatClampNeg x1) 7 ((((3 : Int32) * (rI (wI p5.2 7 (((3 : Int32) * (rI p5.2 0 20))).toNatClampNeg x1) 0 20)) + (1 : Int32))).toNatClampNeg x2) 7 ((((3 : Int32) * (rI (wI (wI p5.2 7 (((3 : Int32) * (rI p5.2 0 20))).toNatClampNeg x1) 7 ((((3 : Int32) * (rI (wI p5.2 7 (((3 : Int32) * (rI p5.2 0 20))).toNatClampNeg x1) 0 20)) + (1 : Int32))).toNatClampNeg x2) 0 20)) + (2 : Int32))).toNatClampNeg x3) 0 20 ((rI (wI (wI (wI p5.2 7 (((3 : Int32) * (rI p5.2 0 20))).toNatClampNeg x1) 7 ((((3 : Int32) * (rI (wI p5.2 7 (((3 : Int32) * (rI p5.2 0 20))).toNatClampNeg x1) 0 20)) + (1 : Int32))).toNatClampNeg x2) 7 ((((3 : Int32) * (rI (wI (wI p5.2 7 (((3 : Int32) * (rI p5.2 0 20))).toNatClampNeg x1) 7 ((((3 : Int32) * (rI (wI p5.2 7 (((3 : Int32) * (rI p5.2 0 20))).toNatClampNeg x1) 0 20)) + (1 : Int32))).toNatClampNeg x2) 0 20)) + (2 : Int32))).toNatClampNeg x3) 0 20) + (1 : Int32))) 0 20), (wI (wI (wI (wI p5.2 7 (((3 : Int32) * (rI p5.2 0 20))).toNatClampNeg x1) 7 ((((3 : Int32) * (rI (wI p5.2 7 (((3 : Int32) * (rI p5.2 0 20))).toNatClampNeg x1) 0 20)) + (1 : Int32))).toNatClampNeg x2) 7 ((((3 : Int32) * (rI (wI (wI p5.2 7 (((3 : Int32) * (rI p5.2 0 20))).toNatClampNeg x1) 7 ((((3 : Int32) * (rI (wI p5.2 7 (((3 : Int32) * (rI p5.2 0 20))).toNatClampNeg x1) 0 20)) + (1 : Int32))).toNatClampNeg x2) 0 20)) + (2 : Int32))).toNatClampNeg x3) 0 20 ((rI (wI (wI (wI p5.2 7 (((3 : Int32) * (rI p5.2 0 20))).toNatClampNeg x1) 7 ((((3 : Int32) * (rI (wI p5.2 7 (((3 : Int32) * (rI p5.2 0 20))).toNatClampNeg x1) 0 20)) + (1 : Int32))).toNatClampNeg x2) 7 ((((3 : Int32) * (rI (wI (wI p5.2 7 (((3 : Int32) * (rI p5.2 0 20))).toNatClampNeg x1) 7 ((((3 : Int32) * (rI (wI p5.2 7 (((3 : Int32) * (rI p5.2 0 20))).toNatClampNeg x1) 0 20)) + (1 : Int32))).toNatClampNeg x2) 0 20)) + (2 : Int32))).toNatClampNeg x3) 0 20) + (1 : Int32))))) else none) else none) else none)))))))
set_option maxRecDepth 4000 in
theorem bX10_line_b0 {K : KT} {x1 : Int32} {x2 : Int32} {x3 : Int32} {σ : Sg} {o : Int32 × Sg} (C : Cx K layM cX10_line RX10 4 (3) (some .int))  (hQ : Rk K layM (okI o)) (h : fX10_line_b0 x1 x2 x3 σ = some o) : G K 0 [some (.ref (kad K 0)), some (.int x1), some (.int x2), some (.int x3)] [] (Wd K layM σ) := by
  unfold fX10_line_b0 at h
  refine g_iload_n C.c dX10_line_0 rfl (i := 1) rfl ?_
  refine g_i2l C.c dX10_line_1 ?_
  refine g_lconst C.c dX10_line_2 (v := (0 : Int64)) (by decide) ?_
  refine g_ldc2 C.c (v := (4 : Int64)) aw_1006 dX10_line_3 ?_
  obtain ⟨p1, e2, h⟩ := Option.bind_eq_some_iff.mp h
  refine kc_10_102 C dX10_line_6 e2 (Nat.le_of_ble_eq_true rfl) rfl (Nat.le_of_ble_eq_true rfl) ?_
  refine g_if_eq C.c (tgt := 20) dX10_line_9 (by decide) (fun c => ?_) (fun c => ?_)
  · replace h := ite_t c h
    refine g_bipush C.c dX10_line_20 (v := (-101 : Int32)) (by decide) ?_
    obtain rfl := Option.some.inj h
    exact g_iret C hQ dX10_line_22 rfl ⟨rfl, rfl⟩
  · replace h := ite_f c h
    refine g_aload_n C.c dX10_line_12 rfl (i := 0) rfl ?_
    refine g_iload_n C.c dX10_line_13 rfl (i := 2) rfl ?_
    obtain ⟨p3, e4, h⟩ := Option.bind_eq_some_iff.mp h
    refine kc_10_159 C dX10_line_14 e4 (Nat.le_of_ble_eq_true rfl) rfl (Nat.le_of_ble_eq_true rfl) ?_
    refine g_if_ne C.c (tgt := 23) dX10_line_17 (by decide) (fun c => ?_) (fun c => ?_)
    · replace h := ite_f c h
      refine g_iload_n C.c dX10_line_23 rfl (i := 3) rfl ?_
      refine g_i2l C.c dX10_line_24 ?_
      refine g_lconst C.c dX10_line_25 (v := (0 : Int64)) (by decide) ?_
      refine g_ldc2 C.c (v := (99 : Int64)) aw_1009 dX10_line_26 ?_
      obtain ⟨p5, e6, h⟩ := Option.bind_eq_some_iff.mp h
      refine kc_10_102 C dX10_line_29 e6 (Nat.le_of_ble_eq_true rfl) rfl (Nat.le_of_ble_eq_true rfl) ?_
      refine g_if_ne C.c (tgt := 38) dX10_line_32 (by decide) (fun c => ?_) (fun c => ?_)
      · replace h := ite_f c h
        refine g_aload_n C.c dX10_line_38 rfl (i := 0) rfl ?_
        refine gf_10_128 C dX10_line_39 ?_
        refine g_bipush C.c dX10_line_42 (v := (10 : Int32)) (by decide) ?_
        refine g_icmp_ne C.c (tgt := 50) dX10_line_44 (by decide) (fun c => ?_) (fun c => ?_)
        · replace h := ite_f c h
          refine g_aload_n C.c dX10_line_50 rfl (i := 0) rfl ?_
          refine gf_10_28 C dX10_line_51 ?_
          refine g_iconst C.c dX10_line_54 (v := (3 : Int32)) (by decide) ?_
          refine g_aload_n C.c dX10_line_55 rfl (i := 0) rfl ?_
          refine gf_10_128 C dX10_line_56 ?_
          refine g_imul C.c dX10_line_59 ?_
          refine g_iload_n C.c dX10_line_60 rfl (i := 1) rfl ?_
          obtain ⟨c7, h⟩ := chk h
          refine g_iast C dX10_line_61 rfl c7 ?_
          refine g_aload_n C.c dX10_line_62 rfl (i := 0) rfl ?_
          refine gf_10_28 C dX10_line_63 ?_
          refine g_iconst C.c dX10_line_66 (v := (3 : Int32)) (by decide) ?_
          refine g_aload_n C.c dX10_line_67 rfl (i := 0) rfl ?_
          refine gf_10_128 C dX10_line_68 ?_
          refine g_imul C.c dX10_line_71 ?_
          refine g_iconst C.c dX10_line_72 (v := (1 : Int32)) (by decide) ?_
          refine g_iadd C.c dX10_line_73 ?_
          refine g_iload_n C.c dX10_line_74 rfl (i := 2) rfl ?_
          obtain ⟨c8, h⟩ := chk h
          refine g_iast C dX10_line_75 rfl c8 ?_
          refine g_aload_n C.c dX10_line_76 rfl (i := 0) rfl ?_
          refine gf_10_28 C dX10_line_77 ?_
          refine g_iconst C.c dX10_line_80 (v := (3 : Int32)) (by decide) ?_
          refine g_aload_n C.c dX10_line_81 rfl (i := 0) rfl ?_
          refine gf_10_128 C dX10_line_82 ?_
          refine g_imul C.c dX10_line_85 ?_
          refine g_iconst C.c dX10_line_86 (v := (2 : Int32)) (by decide) ?_
          refine g_iadd C.c dX10_line_87 ?_
          refine g_iload_n C.c dX10_line_88 rfl (i := 3) rfl ?_
          obtain ⟨c9, h⟩ := chk h
          refine g_iast C dX10_line_89 rfl c9 ?_
          refine g_aload_n C.c dX10_line_90 rfl (i := 0) rfl ?_
          refine g_dup C.c dX10_line_91 rfl ?_
          refine gf_10_128 C dX10_line_92 ?_
          refine g_iconst C.c dX10_line_95 (v := (1 : Int32)) (by decide) ?_
          refine g_iadd C.c dX10_line_96 ?_
          refine pf_10_128 C dX10_line_97 ?_
          refine g_aload_n C.c dX10_line_100 rfl (i := 0) rfl ?_
          refine gf_10_128 C dX10_line_101 ?_
          obtain rfl := Option.some.inj h
          exact g_iret C hQ dX10_line_104 rfl ⟨rfl, rfl⟩
        · replace h := ite_t c h
          refine g_bipush C.c dX10_line_47 (v := (-104 : Int32)) (by decide) ?_
          obtain rfl := Option.some.inj h
          exact g_iret C hQ dX10_line_49 rfl ⟨rfl, rfl⟩
      · replace h := ite_t c h
        refine g_bipush C.c dX10_line_35 (v := (-102 : Int32)) (by decide) ?_
        obtain rfl := Option.some.inj h
        exact g_iret C hQ dX10_line_37 rfl ⟨rfl, rfl⟩
    · replace h := ite_t c h
      refine g_bipush C.c dX10_line_20 (v := (-101 : Int32)) (by decide) ?_
      obtain rfl := Option.some.inj h
      exact g_iret C hQ dX10_line_22 rfl ⟨rfl, rfl⟩
def fX10_line (a0 : Int32) (a1 : Int32) (a2 : Int32) (σ : Sg) : Option (Int32 × Sg) := fX10_line_b0 a0 a1 a2 σ
theorem ct_X10_line {a0 : Int32} {a1 : Int32} {a2 : Int32} {σ : Sg} {p : Int32 × Sg} (h : fX10_line a0 a1 a2 σ = some p) : Ct layM yX10_line cX10_line 4 (some .int) 3 (fun ad => [.ref (ad 0), .int a0, .int a1, .int a2]) σ (okI p) :=
 ct_of (L0 := fun ad => [some (.ref (ad 0)), some (.int a0), some (.int a1), some (.int a2)]) (by decide) (fun _ => Nat.le_of_ble_eq_true rfl) (fun _ => rfl) (fun K C hQ => g_mask [true, true, true, true] rfl (bX10_line_b0 C hQ h))
-- X10_claims
theorem dX10_claims_0 : decode cX10_claims 0 = .ok (.iload_n 1, 1) := by decide +kernel
theorem dX10_claims_1 : decode cX10_claims 1 = .ok (.i2l, 1) := by decide +kernel
theorem dX10_claims_2 : decode cX10_claims 2 = .ok (.lconst 0, 1) := by decide +kernel
theorem dX10_claims_3 : decode cX10_claims 3 = .ok (.ldc2_w 147, 3) := by decide +kernel
theorem dX10_claims_6 : decode cX10_claims 6 = .ok (.invokestatic 102, 3) := by decide +kernel
theorem dX10_claims_9 : decode cX10_claims 9 = .ok (.ifCond .eq 11, 3) := by decide +kernel
theorem dX10_claims_12 : decode cX10_claims 12 = .ok (.aload_n 0, 1) := by decide +kernel
theorem dX10_claims_13 : decode cX10_claims 13 = .ok (.iload_n 2, 1) := by decide +kernel
theorem dX10_claims_14 : decode cX10_claims 14 = .ok (.invokevirtual 159, 3) := by decide +kernel
theorem dX10_claims_17 : decode cX10_claims 17 = .ok (.ifCond .ne 6, 3) := by decide +kernel
theorem dX10_claims_20 : decode cX10_claims 20 = .ok (.bipush (-101), 2) := by decide +kernel
theorem dX10_claims_22 : decode cX10_claims 22 = .ok (.ireturn, 1) := by decide +kernel
theorem dX10_claims_23 : decode cX10_claims 23 = .ok (.iload_n 3, 1) := by decide +kernel
theorem dX10_claims_24 : decode cX10_claims 24 = .ok (.i2l, 1) := by decide +kernel
theorem dX10_claims_25 : decode cX10_claims 25 = .ok (.lconst 0, 1) := by decide +kernel
theorem dX10_claims_26 : decode cX10_claims 26 = .ok (.ldc2_w 151, 3) := by decide +kernel
theorem dX10_claims_29 : decode cX10_claims 29 = .ok (.invokestatic 102, 3) := by decide +kernel
theorem dX10_claims_32 : decode cX10_claims 32 = .ok (.ifCond .eq 27, 3) := by decide +kernel
theorem dX10_claims_35 : decode cX10_claims 35 = .ok (.iload 4, 2) := by decide +kernel
theorem dX10_claims_37 : decode cX10_claims 37 = .ok (.i2l, 1) := by decide +kernel
theorem dX10_claims_38 : decode cX10_claims 38 = .ok (.lconst 0, 1) := by decide +kernel
theorem dX10_claims_39 : decode cX10_claims 39 = .ok (.ldc2_w 155, 3) := by decide +kernel
theorem dX10_claims_42 : decode cX10_claims 42 = .ok (.invokestatic 102, 3) := by decide +kernel
theorem dX10_claims_45 : decode cX10_claims 45 = .ok (.ifCond .eq 14, 3) := by decide +kernel
theorem dX10_claims_48 : decode cX10_claims 48 = .ok (.iload 5, 2) := by decide +kernel
theorem dX10_claims_50 : decode cX10_claims 50 = .ok (.i2l, 1) := by decide +kernel
theorem dX10_claims_51 : decode cX10_claims 51 = .ok (.lconst 0, 1) := by decide +kernel
theorem dX10_claims_52 : decode cX10_claims 52 = .ok (.lconst 1, 1) := by decide +kernel
theorem dX10_claims_53 : decode cX10_claims 53 = .ok (.invokestatic 102, 3) := by decide +kernel
theorem dX10_claims_56 : decode cX10_claims 56 = .ok (.ifCond .ne 6, 3) := by decide +kernel
theorem dX10_claims_59 : decode cX10_claims 59 = .ok (.bipush (-102), 2) := by decide +kernel
theorem dX10_claims_61 : decode cX10_claims 61 = .ok (.ireturn, 1) := by decide +kernel
theorem dX10_claims_62 : decode cX10_claims 62 = .ok (.iconst 0, 1) := by decide +kernel
theorem dX10_claims_63 : decode cX10_claims 63 = .ok (.istore 6, 2) := by decide +kernel
theorem dX10_claims_65 : decode cX10_claims 65 = .ok (.iconst 0, 1) := by decide +kernel
theorem dX10_claims_66 : decode cX10_claims 66 = .ok (.istore 7, 2) := by decide +kernel
theorem dX10_claims_68 : decode cX10_claims 68 = .ok (.iconst (-1), 1) := by decide +kernel
theorem dX10_claims_69 : decode cX10_claims 69 = .ok (.istore 8, 2) := by decide +kernel
theorem dX10_claims_71 : decode cX10_claims 71 = .ok (.iconst 0, 1) := by decide +kernel
theorem dX10_claims_72 : decode cX10_claims 72 = .ok (.istore 9, 2) := by decide +kernel
theorem dX10_claims_74 : decode cX10_claims 74 = .ok (.iload 9, 2) := by decide +kernel
theorem dX10_claims_76 : decode cX10_claims 76 = .ok (.aload_n 0, 1) := by decide +kernel
theorem dX10_claims_77 : decode cX10_claims 77 = .ok (.getfield 128, 3) := by decide +kernel
theorem dX10_claims_80 : decode cX10_claims 80 = .ok (.if_icmp .ge 121, 3) := by decide +kernel
theorem dX10_claims_83 : decode cX10_claims 83 = .ok (.aload_n 0, 1) := by decide +kernel
theorem dX10_claims_84 : decode cX10_claims 84 = .ok (.getfield 28, 3) := by decide +kernel
theorem dX10_claims_87 : decode cX10_claims 87 = .ok (.iconst 3, 1) := by decide +kernel
theorem dX10_claims_88 : decode cX10_claims 88 = .ok (.iload 9, 2) := by decide +kernel
theorem dX10_claims_90 : decode cX10_claims 90 = .ok (.imul, 1) := by decide +kernel
theorem dX10_claims_91 : decode cX10_claims 91 = .ok (.iconst 2, 1) := by decide +kernel
theorem dX10_claims_92 : decode cX10_claims 92 = .ok (.iadd, 1) := by decide +kernel
theorem dX10_claims_93 : decode cX10_claims 93 = .ok (.iaload, 1) := by decide +kernel
theorem dX10_claims_94 : decode cX10_claims 94 = .ok (.istore 10, 2) := by decide +kernel
theorem dX10_claims_96 : decode cX10_claims 96 = .ok (.aload_n 0, 1) := by decide +kernel
theorem dX10_claims_97 : decode cX10_claims 97 = .ok (.getfield 28, 3) := by decide +kernel
theorem dX10_claims_100 : decode cX10_claims 100 = .ok (.iconst 3, 1) := by decide +kernel
theorem dX10_claims_101 : decode cX10_claims 101 = .ok (.iload 9, 2) := by decide +kernel
theorem dX10_claims_103 : decode cX10_claims 103 = .ok (.imul, 1) := by decide +kernel
theorem dX10_claims_104 : decode cX10_claims 104 = .ok (.iconst 1, 1) := by decide +kernel
theorem dX10_claims_105 : decode cX10_claims 105 = .ok (.iadd, 1) := by decide +kernel
theorem dX10_claims_106 : decode cX10_claims 106 = .ok (.iaload, 1) := by decide +kernel
theorem dX10_claims_107 : decode cX10_claims 107 = .ok (.iload_n 2, 1) := by decide +kernel
theorem dX10_claims_108 : decode cX10_claims 108 = .ok (.if_icmp .ne 87, 3) := by decide +kernel
theorem dX10_claims_111 : decode cX10_claims 111 = .ok (.iload 10, 2) := by decide +kernel
theorem dX10_claims_113 : decode cX10_claims 113 = .ok (.iload_n 3, 1) := by decide +kernel
theorem dX10_claims_114 : decode cX10_claims 114 = .ok (.if_icmp .ge 81, 3) := by decide +kernel
theorem dX10_claims_117 : decode cX10_claims 117 = .ok (.iload 4, 2) := by decide +kernel
theorem dX10_claims_119 : decode cX10_claims 119 = .ok (.iconst 1, 1) := by decide +kernel
theorem dX10_claims_120 : decode cX10_claims 120 = .ok (.if_icmp .ne 10, 3) := by decide +kernel
theorem dX10_claims_123 : decode cX10_claims 123 = .ok (.iload_n 3, 1) := by decide +kernel
theorem dX10_claims_124 : decode cX10_claims 124 = .ok (.iload 10, 2) := by decide +kernel
theorem dX10_claims_126 : decode cX10_claims 126 = .ok (.isub, 1) := by decide +kernel
theorem dX10_claims_127 : decode cX10_claims 127 = .ok (.goto 4, 3) := by decide +kernel
theorem dX10_claims_130 : decode cX10_claims 130 = .ok (.iconst 1, 1) := by decide +kernel
theorem dX10_claims_131 : decode cX10_claims 131 = .ok (.istore 11, 2) := by decide +kernel
theorem dX10_claims_133 : decode cX10_claims 133 = .ok (.iload 7, 2) := by decide +kernel
theorem dX10_claims_135 : decode cX10_claims 135 = .ok (.iload 11, 2) := by decide +kernel
theorem dX10_claims_137 : decode cX10_claims 137 = .ok (.iadd, 1) := by decide +kernel
theorem dX10_claims_138 : decode cX10_claims 138 = .ok (.istore 7, 2) := by decide +kernel
theorem dX10_claims_140 : decode cX10_claims 140 = .ok (.iload 6, 2) := by decide +kernel
theorem dX10_claims_142 : decode cX10_claims 142 = .ok (.aload_n 0, 1) := by decide +kernel
theorem dX10_claims_143 : decode cX10_claims 143 = .ok (.getfield 28, 3) := by decide +kernel
theorem dX10_claims_146 : decode cX10_claims 146 = .ok (.iconst 3, 1) := by decide +kernel
theorem dX10_claims_147 : decode cX10_claims 147 = .ok (.iload 9, 2) := by decide +kernel
theorem dX10_claims_149 : decode cX10_claims 149 = .ok (.imul, 1) := by decide +kernel
theorem dX10_claims_150 : decode cX10_claims 150 = .ok (.iaload, 1) := by decide +kernel
theorem dX10_claims_151 : decode cX10_claims 151 = .ok (.iload_n 1, 1) := by decide +kernel
theorem dX10_claims_152 : decode cX10_claims 152 = .ok (.if_icmp .ne 8, 3) := by decide +kernel
theorem dX10_claims_155 : decode cX10_claims 155 = .ok (.iload 11, 2) := by decide +kernel
theorem dX10_claims_157 : decode cX10_claims 157 = .ok (.goto 4, 3) := by decide +kernel
theorem dX10_claims_160 : decode cX10_claims 160 = .ok (.iconst 0, 1) := by decide +kernel
theorem dX10_claims_161 : decode cX10_claims 161 = .ok (.iadd, 1) := by decide +kernel
theorem dX10_claims_162 : decode cX10_claims 162 = .ok (.istore 6, 2) := by decide +kernel
theorem dX10_claims_164 : decode cX10_claims 164 = .ok (.iload 8, 2) := by decide +kernel
theorem dX10_claims_166 : decode cX10_claims 166 = .ok (.iconst (-1), 1) := by decide +kernel
theorem dX10_claims_167 : decode cX10_claims 167 = .ok (.if_icmp .eq 19, 3) := by decide +kernel
theorem dX10_claims_170 : decode cX10_claims 170 = .ok (.iload 10, 2) := by decide +kernel
theorem dX10_claims_172 : decode cX10_claims 172 = .ok (.aload_n 0, 1) := by decide +kernel
theorem dX10_claims_173 : decode cX10_claims 173 = .ok (.getfield 28, 3) := by decide +kernel
theorem dX10_claims_176 : decode cX10_claims 176 = .ok (.iconst 3, 1) := by decide +kernel
theorem dX10_claims_177 : decode cX10_claims 177 = .ok (.iload 8, 2) := by decide +kernel
theorem dX10_claims_179 : decode cX10_claims 179 = .ok (.imul, 1) := by decide +kernel
theorem dX10_claims_180 : decode cX10_claims 180 = .ok (.iconst 2, 1) := by decide +kernel
theorem dX10_claims_181 : decode cX10_claims 181 = .ok (.iadd, 1) := by decide +kernel
theorem dX10_claims_182 : decode cX10_claims 182 = .ok (.iaload, 1) := by decide +kernel
theorem dX10_claims_183 : decode cX10_claims 183 = .ok (.if_icmp .ge 8, 3) := by decide +kernel
theorem dX10_claims_186 : decode cX10_claims 186 = .ok (.iload 9, 2) := by decide +kernel
theorem dX10_claims_188 : decode cX10_claims 188 = .ok (.goto 5, 3) := by decide +kernel
theorem dX10_claims_191 : decode cX10_claims 191 = .ok (.iload 8, 2) := by decide +kernel
theorem dX10_claims_193 : decode cX10_claims 193 = .ok (.istore 8, 2) := by decide +kernel
theorem dX10_claims_195 : decode cX10_claims 195 = .ok (.iinc 9 1, 3) := by decide +kernel
theorem dX10_claims_198 : decode cX10_claims 198 = .ok (.goto (-124), 3) := by decide +kernel
theorem dX10_claims_201 : decode cX10_claims 201 = .ok (.iload 8, 2) := by decide +kernel
theorem dX10_claims_203 : decode cX10_claims 203 = .ok (.iconst (-1), 1) := by decide +kernel
theorem dX10_claims_204 : decode cX10_claims 204 = .ok (.if_icmp .ne 6, 3) := by decide +kernel
theorem dX10_claims_207 : decode cX10_claims 207 = .ok (.iload 5, 2) := by decide +kernel
theorem dX10_claims_209 : decode cX10_claims 209 = .ok (.ireturn, 1) := by decide +kernel
theorem dX10_claims_210 : decode cX10_claims 210 = .ok (.iload 4, 2) := by decide +kernel
theorem dX10_claims_212 : decode cX10_claims 212 = .ok (.ifCond .le 8, 3) := by decide +kernel
theorem dX10_claims_215 : decode cX10_claims 215 = .ok (.iload 6, 2) := by decide +kernel
theorem dX10_claims_217 : decode cX10_claims 217 = .ok (.goto 21, 3) := by decide +kernel
theorem dX10_claims_220 : decode cX10_claims 220 = .ok (.aload_n 0, 1) := by decide +kernel
theorem dX10_claims_221 : decode cX10_claims 221 = .ok (.getfield 28, 3) := by decide +kernel
theorem dX10_claims_224 : decode cX10_claims 224 = .ok (.iconst 3, 1) := by decide +kernel
theorem dX10_claims_225 : decode cX10_claims 225 = .ok (.iload 8, 2) := by decide +kernel
theorem dX10_claims_227 : decode cX10_claims 227 = .ok (.imul, 1) := by decide +kernel
theorem dX10_claims_228 : decode cX10_claims 228 = .ok (.iaload, 1) := by decide +kernel
theorem dX10_claims_229 : decode cX10_claims 229 = .ok (.iload_n 1, 1) := by decide +kernel
theorem dX10_claims_230 : decode cX10_claims 230 = .ok (.if_icmp .ne 7, 3) := by decide +kernel
theorem dX10_claims_233 : decode cX10_claims 233 = .ok (.iconst 1, 1) := by decide +kernel
theorem dX10_claims_234 : decode cX10_claims 234 = .ok (.goto 4, 3) := by decide +kernel
theorem dX10_claims_237 : decode cX10_claims 237 = .ok (.iconst 0, 1) := by decide +kernel
theorem dX10_claims_238 : decode cX10_claims 238 = .ok (.istore 6, 2) := by decide +kernel
theorem dX10_claims_240 : decode cX10_claims 240 = .ok (.iload 4, 2) := by decide +kernel
theorem dX10_claims_242 : decode cX10_claims 242 = .ok (.ifCond .le 8, 3) := by decide +kernel
theorem dX10_claims_245 : decode cX10_claims 245 = .ok (.iload 7, 2) := by decide +kernel
theorem dX10_claims_247 : decode cX10_claims 247 = .ok (.goto 4, 3) := by decide +kernel
theorem dX10_claims_250 : decode cX10_claims 250 = .ok (.iconst 1, 1) := by decide +kernel
theorem dX10_claims_251 : decode cX10_claims 251 = .ok (.istore 7, 2) := by decide +kernel
theorem dX10_claims_253 : decode cX10_claims 253 = .ok (.iload 6, 2) := by decide +kernel
theorem dX10_claims_255 : decode cX10_claims 255 = .ok (.i2l, 1) := by decide +kernel
theorem dX10_claims_256 : decode cX10_claims 256 = .ok (.iload 7, 2) := by decide +kernel
theorem dX10_claims_258 : decode cX10_claims 258 = .ok (.i2l, 1) := by decide +kernel
theorem dX10_claims_259 : decode cX10_claims 259 = .ok (.invokestatic 279, 3) := by decide +kernel
theorem dX10_claims_262 : decode cX10_claims 262 = .ok (.l2i, 1) := by decide +kernel
theorem dX10_claims_263 : decode cX10_claims 263 = .ok (.istore 9, 2) := by decide +kernel
theorem dX10_claims_265 : decode cX10_claims 265 = .ok (.iload 5, 2) := by decide +kernel
theorem dX10_claims_267 : decode cX10_claims 267 = .ok (.ifCond .ne 11, 3) := by decide +kernel
theorem dX10_claims_270 : decode cX10_claims 270 = .ok (.iload 6, 2) := by decide +kernel
theorem dX10_claims_272 : decode cX10_claims 272 = .ok (.iload 9, 2) := by decide +kernel
theorem dX10_claims_274 : decode cX10_claims 274 = .ok (.idiv, 1) := by decide +kernel
theorem dX10_claims_275 : decode cX10_claims 275 = .ok (.goto 8, 3) := by decide +kernel
theorem dX10_claims_278 : decode cX10_claims 278 = .ok (.iload 7, 2) := by decide +kernel
theorem dX10_claims_280 : decode cX10_claims 280 = .ok (.iload 9, 2) := by decide +kernel
theorem dX10_claims_282 : decode cX10_claims 282 = .ok (.idiv, 1) := by decide +kernel
theorem dX10_claims_283 : decode cX10_claims 283 = .ok (.ireturn, 1) := by decide +kernel
theorem cw_X10_claims : Cw yX10_claims cX10_claims 12 (some .int) 5 := ⟨aw_1149, aw_56, ⟨by decide, by decide⟩, by decide +kernel, by decide⟩
def fX10_claims_b195 (x1 : Int32) (x2 : Int32) (x3 : Int32) (x4 : Int32) (x5 : Int32) (x6 : Int32) (x7 : Int32) (x8 : Int32) (x9 : Int32) (σ : Sg) : Option ((Int32 × Int32 × Int32 × Int32 × Sg) ⊕ ((Int32 × Int32 × Int32 × Sg))) :=
  some (.inl (x6, x7, x8, (x9 + (1 : Int32)), σ))
def fX10_claims_b193 (x1 : Int32) (x2 : Int32) (x3 : Int32) (x4 : Int32) (x5 : Int32) (x6 : Int32) (x7 : Int32) (x9 : Int32) (y0 : Int32) (σ : Sg) : Option ((Int32 × Int32 × Int32 × Int32 × Sg) ⊕ ((Int32 × Int32 × Int32 × Sg))) :=
  fX10_claims_b195 x1 x2 x3 x4 x5 x6 x7 y0 x9 σ
def fX10_claims_b186 (x1 : Int32) (x2 : Int32) (x3 : Int32) (x4 : Int32) (x5 : Int32) (x6 : Int32) (x7 : Int32) (x9 : Int32) (σ : Sg) : Option ((Int32 × Int32 × Int32 × Int32 × Sg) ⊕ ((Int32 × Int32 × Int32 × Sg))) :=
  fX10_claims_b193 x1 x2 x3 x4 x5 x6 x7 x9 x9 σ
def fX10_claims_b161 (x1 : Int32) (x2 : Int32) (x3 : Int32) (x4 : Int32) (x5 : Int32) (x7 : Int32) (x8 : Int32) (x9 : Int32) (x10 : Int32) (y0 : Int32) (y1 : Int32) (σ : Sg) : Option ((Int32 × Int32 × Int32 × Int32 × Sg) ⊕ ((Int32 × Int32 × Int32 × Sg))) :=
  if x8 = (-1 : Int32) then (fX10_claims_b186 x1 x2 x3 x4 x5 (y1 + y0) x7 x9 σ) else (if inb (((3 : Int32) * x8) + (2 : Int32)) 30 = true then (if (rI σ 7 ((((3 : Int32) * x8) + (2 : Int32))).toNatClampNeg) ≤ x10 then (fX10_claims_b193 x1 x2 x3 x4 x5 (y1 + y0) x7 x9 x8 σ) else (fX10_claims_b186 x1 x2 x3 x4 x5 (y1 + y0) x7 x9 σ)) else none)
def fX10_claims_b131 (x1 : Int32) (x2 : Int32) (x3 : Int32) (x4 : Int32) (x5 : Int32) (x6 : Int32) (x7 : Int32) (x8 : Int32) (x9 : Int32) (x10 : Int32) (y0 : Int32) (σ : Sg) : Option ((Int32 × Int32 × Int32 × Int32 × Sg) ⊕ ((Int32 × Int32 × Int32 × Sg))) :=
  if inb ((3 : Int32) * x9) 30 = true then (if (rI σ 7 (((3 : Int32) * x9)).toNatClampNeg) = x1 then (fX10_claims_b161 x1 x2 x3 x4 x5 (x7 + y0) x8 x9 x10 y0 x6 σ) else (fX10_claims_b161 x1 x2 x3 x4 x5 (x7 + y0) x8 x9 x10 (0 : Int32) x6 σ)) else none
def fX10_claims_b74 (x1 : Int32) (x2 : Int32) (x3 : Int32) (x4 : Int32) (x5 : Int32) (x6 : Int32) (x7 : Int32) (x8 : Int32) (x9 : Int32) (σ : Sg) : Option ((Int32 × Int32 × Int32 × Int32 × Sg) ⊕ ((Int32 × Int32 × Int32 × Sg))) :=
  if (rI σ 0 20) ≤ x9 then (some (.inr (x6, x7, x8, σ))) else (if inb (((3 : Int32) * x9) + (2 : Int32)) 30 = true then (if inb (((3 : Int32) * x9) + (1 : Int32)) 30 = true then (if (rI σ 7 ((((3 : Int32) * x9) + (1 : Int32))).toNatClampNeg) = x2 then (if x3 ≤ (rI σ 7 ((((3 : Int32) * x9) + (2 : Int32))).toNatClampNeg) then (fX10_claims_b195 x1 x2 x3 x4 x5 x6 x7 x8 x9 σ) else (if x4 = (1 : Int32) then (fX10_claims_b131 x1 x2 x3 x4 x5 x6 x7 x8 x9 (rI σ 7 ((((3 : Int32) * x9) + (2 : Int32))).toNatClampNeg) (x3 - (rI σ 7 ((((3 : Int32) * x9) + (2 : Int32))).toNatClampNeg)) σ) else (fX10_claims_b131 x1 x2 x3 x4 x5 x6 x7 x8 x9 (rI σ 7 ((((3 : Int32) * x9) + (2 : Int32))).toNatClampNeg) (1 : Int32) σ))) else (fX10_claims_b195 x1 x2 x3 x4 x5 x6 x7 x8 x9 σ)) else none) else none)
def fX10_claims_b251 (x5 : Int32) (x6 : Int32) (y0 : Int32) (σ : Sg) : Option (Int32 × Sg) :=
  Option.bind (fX10_common ((x6).toInt64) ((y0).toInt64) σ) fun p18 => (if x5 = 0 then (if (p18.1).toInt32 = 0 then none else some ((x6 / (p18.1).toInt32), p18.2)) else (if (p18.1).toInt32 = 0 then none else some ((y0 / (p18.1).toInt32), p18.2)))
def fX10_claims_b238 (x4 : Int32) (x5 : Int32) (x7 : Int32) (y0 : Int32) (σ : Sg) : Option (Int32 × Sg) :=
  if x4 ≤ 0 then (fX10_claims_b251 x5 y0 (1 : Int32) σ) else (fX10_claims_b251 x5 y0 x7 σ)
def fX10_claims_b0 (x1 : Int32) (x2 : Int32) (x3 : Int32) (x4 : Int32) (x5 : Int32) (σ : Sg) : Option (Int32 × Sg) :=
  Option.bind (fX10_in ((x1).toInt64) (0 : Int64) (4 : Int64) σ) fun p1 => (if p1.1 = 0 then (some ((-101 : Int32), p1.2)) else (Option.bind (fX10_isBerg x2 p1.2) fun p3 => (if p3.1 = 0 then (some ((-101 : Int32), p3.2)) else (Option.bind (fX10_in ((x3).toInt64) (0 : Int64) (999 : Int64) p3.2) fun p5 => (if p5.1 = 0 then (some ((-102 : Int32), p5.2)) else (Option.bind (fX10_in ((x4).toInt64) (0 : Int64) (2 : Int64) p5.2) fun p7 => (if p7.1 = 0 then (some ((-102 : Int32), p7.2)) else (Option.bind (fX10_in ((x5).toInt64) (0 : Int64) (1 : Int64) p7.2) fun p9 => (if p9.1 = 0 then (some ((-102 : Int32), p9.2)) else (Option.bind (lp (fun s => fX10_claims_b74 x1 x2 x3 x4 x5 s.1 s.2.1 s.2.2.1 s.2.2.2.1 s.2.2.2.2) FU ((0 : Int32), (0 : Int32), (-1 : Int32), (0 : Int32), p9.2)) fun t15 => if t15.2.2.1 = (-1 : Int32) then (some (x5, t15.2.2.2)) else (if x4 ≤ 0 then (if inb ((3 : Int32) * t15.2.2.1) 30 = true then (if (rI t15.2.2.2 7 (((3 : Int32) * t15.2.2.1)).toNatClampNeg) = x1 then (fX10_claims_b238 x4 x5 t15.2.1 (1 : Int32) t15.2.2.2) else (fX10_claims_b238 x4 x5 t15.2.1 (0 : Int32) t15.2.2.2)) else none) else (fX10_claims_b238 x4 x5 t15.2.1 t15.1 t15.2.2.2))))))))))))
set_option maxRecDepth 4000 in
theorem bX10_claims_b195 {K : KT} {x1 : Int32} {x2 : Int32} {x3 : Int32} {x4 : Int32} {x5 : Int32} {x6 : Int32} {x7 : Int32} {x8 : Int32} {x9 : Int32} {σ : Sg} {o : (Int32 × Int32 × Int32 × Int32 × Sg) ⊕ ((Int32 × Int32 × Int32 × Sg))} (C : Cx K layM cX10_claims RX10 12 (3) (some .int))  (hI : ∀ s' : Int32 × Int32 × Int32 × Int32 × Sg, o = .inl s' → G K 74 [some (.ref (kad K 0)), some (.int x1), some (.int x2), some (.int x3), some (.int x4), some (.int x5), some (.int s'.1), some (.int s'.2.1), some (.int s'.2.2.1), some (.int s'.2.2.2.1), none, none] [] (Wd K layM s'.2.2.2.2)) (hE0 : ∀ t : Int32 × Int32 × Int32 × Sg, o = .inr t → G K 201 [some (.ref (kad K 0)), some (.int x1), none, none, some (.int x4), some (.int x5), some (.int t.1), some (.int t.2.1), some (.int t.2.2.1), none, none, none] [] (Wd K layM t.2.2.2)) (h : fX10_claims_b195 x1 x2 x3 x4 x5 x6 x7 x8 x9 σ = some o) : G K 195 [some (.ref (kad K 0)), some (.int x1), some (.int x2), some (.int x3), some (.int x4), some (.int x5), some (.int x6), some (.int x7), some (.int x8), some (.int x9), none, none] [] (Wd K layM σ) := by
  unfold fX10_claims_b195 at h
  refine g_iinc C.c (i := 9) (y := (1 : Int32)) (L' := [some (.ref (kad K 0)), some (.int x1), some (.int x2), some (.int x3), some (.int x4), some (.int x5), some (.int x6), some (.int x7), some (.int x8), some (.int (x9 + (1 : Int32))), none, none]) dX10_claims_195 rfl (by decide) (Nat.le_of_ble_eq_true rfl) rfl ?_
  refine g_goto C.c (tgt := 74) dX10_claims_198 (by decide) ?_
  have g9 := hI _ (Option.some.inj h).symm
  exact g_mask [true, true, true, true, true, true, true, true, true, true, false, false] rfl g9
set_option maxRecDepth 4000 in
theorem bX10_claims_b193 {K : KT} {x1 : Int32} {x2 : Int32} {x3 : Int32} {x4 : Int32} {x5 : Int32} {x6 : Int32} {x7 : Int32} {x9 : Int32} {y0 : Int32} {σ : Sg} {o : (Int32 × Int32 × Int32 × Int32 × Sg) ⊕ ((Int32 × Int32 × Int32 × Sg))} (C : Cx K layM cX10_claims RX10 12 (3) (some .int))  (hI : ∀ s' : Int32 × Int32 × Int32 × Int32 × Sg, o = .inl s' → G K 74 [some (.ref (kad K 0)), some (.int x1), some (.int x2), some (.int x3), some (.int x4), some (.int x5), some (.int s'.1), some (.int s'.2.1), some (.int s'.2.2.1), some (.int s'.2.2.2.1), none, none] [] (Wd K layM s'.2.2.2.2)) (hE0 : ∀ t : Int32 × Int32 × Int32 × Sg, o = .inr t → G K 201 [some (.ref (kad K 0)), some (.int x1), none, none, some (.int x4), some (.int x5), some (.int t.1), some (.int t.2.1), some (.int t.2.2.1), none, none, none] [] (Wd K layM t.2.2.2)) (h : fX10_claims_b193 x1 x2 x3 x4 x5 x6 x7 x9 y0 σ = some o) : G K 193 [some (.ref (kad K 0)), some (.int x1), some (.int x2), some (.int x3), some (.int x4), some (.int x5), some (.int x6), some (.int x7), none, some (.int x9), none, none] [.int y0] (Wd K layM σ) := by
  unfold fX10_claims_b193 at h
  refine g_istore C.c (i := 8) (L' := [some (.ref (kad K 0)), some (.int x1), some (.int x2), some (.int x3), some (.int x4), some (.int x5), some (.int x6), some (.int x7), some (.int y0), some (.int x9), none, none]) dX10_claims_193 (Nat.le_of_ble_eq_true rfl) rfl ?_
  exact g_mask [true, true, true, true, true, true, true, true, true, true, false, false] rfl (bX10_claims_b195 C hI hE0 h)
set_option maxRecDepth 4000 in
theorem bX10_claims_b186 {K : KT} {x1 : Int32} {x2 : Int32} {x3 : Int32} {x4 : Int32} {x5 : Int32} {x6 : Int32} {x7 : Int32} {x9 : Int32} {σ : Sg} {o : (Int32 × Int32 × Int32 × Int32 × Sg) ⊕ ((Int32 × Int32 × Int32 × Sg))} (C : Cx K layM cX10_claims RX10 12 (3) (some .int))  (hI : ∀ s' : Int32 × Int32 × Int32 × Int32 × Sg, o = .inl s' → G K 74 [some (.ref (kad K 0)), some (.int x1), some (.int x2), some (.int x3), some (.int x4), some (.int x5), some (.int s'.1), some (.int s'.2.1), some (.int s'.2.2.1), some (.int s'.2.2.2.1), none, none] [] (Wd K layM s'.2.2.2.2)) (hE0 : ∀ t : Int32 × Int32 × Int32 × Sg, o = .inr t → G K 201 [some (.ref (kad K 0)), some (.int x1), none, none, some (.int x4), some (.int x5), some (.int t.1), some (.int t.2.1), some (.int t.2.2.1), none, none, none] [] (Wd K layM t.2.2.2)) (h : fX10_claims_b186 x1 x2 x3 x4 x5 x6 x7 x9 σ = some o) : G K 186 [some (.ref (kad K 0)), some (.int x1), some (.int x2), some (.int x3), some (.int x4), some (.int x5), some (.int x6), some (.int x7), none, some (.int x9), none, none] [] (Wd K layM σ) := by
  unfold fX10_claims_b186 at h
  refine g_iload C.c dX10_claims_186 (i := 9) rfl ?_
  refine g_goto C.c (tgt := 193) dX10_claims_188 (by decide) ?_
  exact g_mask [true, true, true, true, true, true, true, true, false, true, false, false] rfl (bX10_claims_b193 C hI hE0 h)
set_option maxRecDepth 4000 in
theorem bX10_claims_b161 {K : KT} {x1 : Int32} {x2 : Int32} {x3 : Int32} {x4 : Int32} {x5 : Int32} {x7 : Int32} {x8 : Int32} {x9 : Int32} {x10 : Int32} {y0 : Int32} {y1 : Int32} {σ : Sg} {o : (Int32 × Int32 × Int32 × Int32 × Sg) ⊕ ((Int32 × Int32 × Int32 × Sg))} (C : Cx K layM cX10_claims RX10 12 (3) (some .int))  (hI : ∀ s' : Int32 × Int32 × Int32 × Int32 × Sg, o = .inl s' → G K 74 [some (.ref (kad K 0)), some (.int x1), some (.int x2), some (.int x3), some (.int x4), some (.int x5), some (.int s'.1), some (.int s'.2.1), some (.int s'.2.2.1), some (.int s'.2.2.2.1), none, none] [] (Wd K layM s'.2.2.2.2)) (hE0 : ∀ t : Int32 × Int32 × Int32 × Sg, o = .inr t → G K 201 [some (.ref (kad K 0)), some (.int x1), none, none, some (.int x4), some (.int x5), some (.int t.1), some (.int t.2.1), some (.int t.2.2.1), none, none, none] [] (Wd K layM t.2.2.2)) (h : fX10_claims_b161 x1 x2 x3 x4 x5 x7 x8 x9 x10 y0 y1 σ = some o) : G K 161 [some (.ref (kad K 0)), some (.int x1), some (.int x2), some (.int x3), some (.int x4), some (.int x5), none, some (.int x7), some (.int x8), some (.int x9), some (.int x10), none] [.int y0, .int y1] (Wd K layM σ) := by
  unfold fX10_claims_b161 at h
  refine g_iadd C.c dX10_claims_161 ?_
  refine g_istore C.c (i := 6) (L' := [some (.ref (kad K 0)), some (.int x1), some (.int x2), some (.int x3), some (.int x4), some (.int x5), some (.int (y1 + y0)), some (.int x7), some (.int x8), some (.int x9), some (.int x10), none]) dX10_claims_162 (Nat.le_of_ble_eq_true rfl) rfl ?_
  refine g_iload C.c dX10_claims_164 (i := 8) rfl ?_
  refine g_iconst C.c dX10_claims_166 (v := (-1 : Int32)) (by decide) ?_
  refine g_icmp_eq C.c (tgt := 186) dX10_claims_167 (by decide) (fun c => ?_) (fun c => ?_)
  · replace h := ite_t c h
    exact g_mask [true, true, true, true, true, true, true, true, false, true, false, false] rfl (bX10_claims_b186 C hI hE0 h)
  · replace h := ite_f c h
    refine g_iload C.c dX10_claims_170 (i := 10) rfl ?_
    refine g_aload_n C.c dX10_claims_172 rfl (i := 0) rfl ?_
    refine gf_10_28 C dX10_claims_173 ?_
    refine g_iconst C.c dX10_claims_176 (v := (3 : Int32)) (by decide) ?_
    refine g_iload C.c dX10_claims_177 (i := 8) rfl ?_
    refine g_imul C.c dX10_claims_179 ?_
    refine g_iconst C.c dX10_claims_180 (v := (2 : Int32)) (by decide) ?_
    refine g_iadd C.c dX10_claims_181 ?_
    obtain ⟨c14, h⟩ := chk h
    refine g_iald C dX10_claims_182 rfl c14 ?_
    refine g_icmp_ge C.c (tgt := 191) dX10_claims_183 (by decide) (fun c => ?_) (fun c => ?_)
    · replace h := ite_t c h
      refine g_iload C.c dX10_claims_191 (i := 8) rfl ?_
      exact g_mask [true, true, true, true, true, true, true, true, false, true, false, false] rfl (bX10_claims_b193 C hI hE0 h)
    · replace h := ite_f c h
      exact g_mask [true, true, true, true, true, true, true, true, false, true, false, false] rfl (bX10_claims_b186 C hI hE0 h)
set_option maxRecDepth 4000 in
theorem bX10_claims_b131 {K : KT} {x1 : Int32} {x2 : Int32} {x3 : Int32} {x4 : Int32} {x5 : Int32} {x6 : Int32} {x7 : Int32} {x8 : Int32} {x9 : Int32} {x10 : Int32} {y0 : Int32} {σ : Sg} {o : (Int32 × Int32 × Int32 × Int32 × Sg) ⊕ ((Int32 × Int32 × Int32 × Sg))} (C : Cx K layM cX10_claims RX10 12 (3) (some .int))  (hI : ∀ s' : Int32 × Int32 × Int32 × Int32 × Sg, o = .inl s' → G K 74 [some (.ref (kad K 0)), some (.int x1), some (.int x2), some (.int x3), some (.int x4), some (.int x5), some (.int s'.1), some (.int s'.2.1), some (.int s'.2.2.1), some (.int s'.2.2.2.1), none, none] [] (Wd K layM s'.2.2.2.2)) (hE0 : ∀ t : Int32 × Int32 × Int32 × Sg, o = .inr t → G K 201 [some (.ref (kad K 0)), some (.int x1), none, none, some (.int x4), some (.int x5), some (.int t.1), some (.int t.2.1), some (.int t.2.2.1), none, none, none] [] (Wd K layM t.2.2.2)) (h : fX10_claims_b131 x1 x2 x3 x4 x5 x6 x7 x8 x9 x10 y0 σ = some o) : G K 131 [some (.ref (kad K 0)), some (.int x1), some (.int x2), some (.int x3), some (.int x4), some (.int x5), some (.int x6), some (.int x7), some (.int x8), some (.int x9), some (.int x10), none] [.int y0] (Wd K layM σ) := by
  unfold fX10_claims_b131 at h
  refine g_istore C.c (i := 11) (L' := [some (.ref (kad K 0)), some (.int x1), some (.int x2), some (.int x3), some (.int x4), some (.int x5), some (.int x6), some (.int x7), some (.int x8), some (.int x9), some (.int x10), some (.int y0)]) dX10_claims_131 (Nat.le_of_ble_eq_true rfl) rfl ?_
  refine g_iload C.c dX10_claims_133 (i := 7) rfl ?_
  refine g_iload C.c dX10_claims_135 (i := 11) rfl ?_
  refine g_iadd C.c dX10_claims_137 ?_
  refine g_istore C.c (i := 7) (L' := [some (.ref (kad K 0)), some (.int x1), some (.int x2), some (.int x3), some (.int x4), some (.int x5), some (.int x6), some (.int (x7 + y0)), some (.int x8), some (.int x9), some (.int x10), some (.int y0)]) dX10_claims_138 (Nat.le_of_ble_eq_true rfl) rfl ?_
  refine g_iload C.c dX10_claims_140 (i := 6) rfl ?_
  refine g_aload_n C.c dX10_claims_142 rfl (i := 0) rfl ?_
  refine gf_10_28 C dX10_claims_143 ?_
  refine g_iconst C.c dX10_claims_146 (v := (3 : Int32)) (by decide) ?_
  refine g_iload C.c dX10_claims_147 (i := 9) rfl ?_
  refine g_imul C.c dX10_claims_149 ?_
  obtain ⟨c13, h⟩ := chk h
  refine g_iald C dX10_claims_150 rfl c13 ?_
  refine g_iload_n C.c dX10_claims_151 rfl (i := 1) rfl ?_
  refine g_icmp_ne C.c (tgt := 160) dX10_claims_152 (by decide) (fun c => ?_) (fun c => ?_)
  · replace h := ite_f c h
    refine g_iconst C.c dX10_claims_160 (v := (0 : Int32)) (by decide) ?_
    exact g_mask [true, true, true, true, true, true, false, true, true, true, true, false] rfl (bX10_claims_b161 C hI hE0 h)
  · replace h := ite_t c h
    refine g_iload C.c dX10_claims_155 (i := 11) rfl ?_
    refine g_goto C.c (tgt := 161) dX10_claims_157 (by decide) ?_
    exact g_mask [true, true, true, true, true, true, false, true, true, true, true, false] rfl (bX10_claims_b161 C hI hE0 h)
set_option maxRecDepth 4000 in
theorem bX10_claims_b74 {K : KT} {x1 : Int32} {x2 : Int32} {x3 : Int32} {x4 : Int32} {x5 : Int32} {x6 : Int32} {x7 : Int32} {x8 : Int32} {x9 : Int32} {σ : Sg} {o : (Int32 × Int32 × Int32 × Int32 × Sg) ⊕ ((Int32 × Int32 × Int32 × Sg))} (C : Cx K layM cX10_claims RX10 12 (3) (some .int))  (hI : ∀ s' : Int32 × Int32 × Int32 × Int32 × Sg, o = .inl s' → G K 74 [some (.ref (kad K 0)), some (.int x1), some (.int x2), some (.int x3), some (.int x4), some (.int x5), some (.int s'.1), some (.int s'.2.1), some (.int s'.2.2.1), some (.int s'.2.2.2.1), none, none] [] (Wd K layM s'.2.2.2.2)) (hE0 : ∀ t : Int32 × Int32 × Int32 × Sg, o = .inr t → G K 201 [some (.ref (kad K 0)), some (.int x1), none, none, some (.int x4), some (.int x5), some (.int t.1), some (.int t.2.1), some (.int t.2.2.1), none, none, none] [] (Wd K layM t.2.2.2)) (h : fX10_claims_b74 x1 x2 x3 x4 x5 x6 x7 x8 x9 σ = some o) : G K 74 [some (.ref (kad K 0)), some (.int x1), some (.int x2), some (.int x3), some (.int x4), some (.int x5), some (.int x6), some (.int x7), some (.int x8), some (.int x9), none, none] [] (Wd K layM σ) := by
  unfold fX10_claims_b74 at h
  refine g_iload C.c dX10_claims_74 (i := 9) rfl ?_
  refine g_aload_n C.c dX10_claims_76 rfl (i := 0) rfl ?_
  refine gf_10_128 C dX10_claims_77 ?_
  refine g_icmp_ge C.c (tgt := 201) dX10_claims_80 (by decide) (fun c => ?_) (fun c => ?_)
  · replace h := ite_t c h
    have g9 := hE0 _ (Option.some.inj h).symm
    exact g_mask [true, true, false, false, true, true, true, true, true, false, false, false] rfl g9
  · replace h := ite_f c h
    refine g_aload_n C.c dX10_claims_83 rfl (i := 0) rfl ?_
    refine gf_10_28 C dX10_claims_84 ?_
    refine g_iconst C.c dX10_claims_87 (v := (3 : Int32)) (by decide) ?_
    refine g_iload C.c dX10_claims_88 (i := 9) rfl ?_
    refine g_imul C.c dX10_claims_90 ?_
    refine g_iconst C.c dX10_claims_91 (v := (2 : Int32)) (by decide) ?_
    refine g_iadd C.c dX10_claims_92 ?_
    obtain ⟨c11, h⟩ := chk h
    refine g_iald C dX10_claims_93 rfl c11 ?_
    refine g_istore C.c (i := 10) (L' := [some (.ref (kad K 0)), some (.int x1), some (.int x2), some (.int x3), some (.int x4), some (.int x5), some (.int x6), some (.int x7), some (.int x8), some (.int x9), some (.int (rI σ 7 ((((3 : Int32) * x9) + (2 : Int32))).toNatClampNeg)), none]) dX10_claims_94 (Nat.le_of_ble_eq_true rfl) rfl ?_
    refine g_aload_n C.c dX10_claims_96 rfl (i := 0) rfl ?_
    refine gf_10_28 C dX10_claims_97 ?_
    refine g_iconst C.c dX10_claims_100 (v := (3 : Int32)) (by decide) ?_
    refine g_iload C.c dX10_claims_101 (i := 9) rfl ?_
    refine g_imul C.c dX10_claims_103 ?_
    refine g_iconst C.c dX10_claims_104 (v := (1 : Int32)) (by decide) ?_
    refine g_iadd C.c dX10_claims_105 ?_
    obtain ⟨c12, h⟩ := chk h
    refine g_iald C dX10_claims_106 rfl c12 ?_
    refine g_iload_n C.c dX10_claims_107 rfl (i := 2) rfl ?_
    refine g_icmp_ne C.c (tgt := 195) dX10_claims_108 (by decide) (fun c => ?_) (fun c => ?_)
    · replace h := ite_f c h
      exact g_mask [true, true, true, true, true, true, true, true, true, true, false, false] rfl (bX10_claims_b195 C hI hE0 h)
    · replace h := ite_t c h
      refine g_iload C.c dX10_claims_111 (i := 10) rfl ?_
      refine g_iload_n C.c dX10_claims_113 rfl (i := 3) rfl ?_
      refine g_icmp_ge C.c (tgt := 195) dX10_claims_114 (by decide) (fun c => ?_) (fun c => ?_)
      · replace h := ite_t c h
        exact g_mask [true, true, true, true, true, true, true, true, true, true, false, false] rfl (bX10_claims_b195 C hI hE0 h)
      · replace h := ite_f c h
        refine g_iload C.c dX10_claims_117 (i := 4) rfl ?_
        refine g_iconst C.c dX10_claims_119 (v := (1 : Int32)) (by decide) ?_
        refine g_icmp_ne C.c (tgt := 130) dX10_claims_120 (by decide) (fun c => ?_) (fun c => ?_)
        · replace h := ite_f c h
          refine g_iconst C.c dX10_claims_130 (v := (1 : Int32)) (by decide) ?_
          exact g_mask [true, true, true, true, true, true, true, true, true, true, true, false] rfl (bX10_claims_b131 C hI hE0 h)
        · replace h := ite_t c h
          refine g_iload_n C.c dX10_claims_123 rfl (i := 3) rfl ?_
          refine g_iload C.c dX10_claims_124 (i := 10) rfl ?_
          refine g_isub C.c dX10_claims_126 ?_
          refine g_goto C.c (tgt := 131) dX10_claims_127 (by decide) ?_
          exact g_mask [true, true, true, true, true, true, true, true, true, true, true, false] rfl (bX10_claims_b131 C hI hE0 h)
set_option maxRecDepth 4000 in
theorem bX10_claims_b251 {K : KT} {x5 : Int32} {x6 : Int32} {y0 : Int32} {σ : Sg} {o : Int32 × Sg} (C : Cx K layM cX10_claims RX10 12 (3) (some .int))  (hQ : Rk K layM (okI o)) (h : fX10_claims_b251 x5 x6 y0 σ = some o) : G K 251 [none, none, none, none, none, some (.int x5), some (.int x6), none, none, none, none, none] [.int y0] (Wd K layM σ) := by
  unfold fX10_claims_b251 at h
  refine g_istore C.c (i := 7) (L' := [none, none, none, none, none, some (.int x5), some (.int x6), some (.int y0), none, none, none, none]) dX10_claims_251 (Nat.le_of_ble_eq_true rfl) rfl ?_
  refine g_iload C.c dX10_claims_253 (i := 6) rfl ?_
  refine g_i2l C.c dX10_claims_255 ?_
  refine g_iload C.c dX10_claims_256 (i := 7) rfl ?_
  refine g_i2l C.c dX10_claims_258 ?_
  obtain ⟨p18, e19, h⟩ := Option.bind_eq_some_iff.mp h
  refine kc_10_279 C dX10_claims_259 e19 (Nat.le_of_ble_eq_true rfl) rfl (Nat.le_of_ble_eq_true rfl) ?_
  refine g_l2i C.c dX10_claims_262 ?_
  refine g_istore C.c (i := 9) (L' := [none, none, none, none, none, some (.int x5), some (.int x6), some (.int y0), none, some (.int (p18.1).toInt32), none, none]) dX10_claims_263 (Nat.le_of_ble_eq_true rfl) rfl ?_
  refine g_iload C.c dX10_claims_265 (i := 5) rfl ?_
  refine g_if_ne C.c (tgt := 278) dX10_claims_267 (by decide) (fun c => ?_) (fun c => ?_)
  · replace h := ite_f c h
    refine g_iload C.c dX10_claims_278 (i := 7) rfl ?_
    refine g_iload C.c dX10_claims_280 (i := 9) rfl ?_
    obtain ⟨c20, h⟩ := chk0 h
    refine g_idiv C.c dX10_claims_282 c20 ?_
    obtain rfl := Option.some.inj h
    exact g_iret C hQ dX10_claims_283 rfl ⟨rfl, rfl⟩
  · replace h := ite_t c h
    refine g_iload C.c dX10_claims_270 (i := 6) rfl ?_
    refine g_iload C.c dX10_claims_272 (i := 9) rfl ?_
    obtain ⟨c21, h⟩ := chk0 h
    refine g_idiv C.c dX10_claims_274 c21 ?_
    refine g_goto C.c (tgt := 283) dX10_claims_275 (by decide) ?_
    obtain rfl := Option.some.inj h
    exact g_iret C hQ dX10_claims_283 rfl ⟨rfl, rfl⟩
set_option maxRecDepth 4000 in
theorem bX10_claims_b238 {K : KT} {x4 : Int32} {x5 : Int32} {x7 : Int32} {y0 : Int32} {σ : Sg} {o : Int32 × Sg} (C : Cx K layM cX10_claims RX10 12 (3) (some .int))  (hQ : Rk K layM (okI o)) (h : fX10_claims_b238 x4 x5 x7 y0 σ = some o) : G K 238 [none, none, none, none, some (.int x4), some (.int x5), none, some (.int x7), none, none, none, none] [.int y0] (Wd K layM σ) := by
  unfold fX10_claims_b238 at h
  refine g_istore C.c (i := 6) (L' := [none, none, none, none, some (.int x4), some (.int x5), some (.int y0), some (.int x7), none, none, none, none]) dX10_claims_238 (Nat.le_of_ble_eq_true rfl) rfl ?_
  refine g_iload C.c dX10_claims_240 (i := 4) rfl ?_
  refine g_if_le C.c (tgt := 250) dX10_claims_242 (by decide) (fun c => ?_) (fun c => ?_)
  · replace h := ite_t c h
    refine g_iconst C.c dX10_claims_250 (v := (1 : Int32)) (by decide) ?_
    exact g_mask [false, false, false, false, false, true, true, false, false, false, false, false] rfl (bX10_claims_b251 C hQ h)
  · replace h := ite_f c h
    refine g_iload C.c dX10_claims_245 (i := 7) rfl ?_
    refine g_goto C.c (tgt := 251) dX10_claims_247 (by decide) ?_
    exact g_mask [false, false, false, false, false, true, true, false, false, false, false, false] rfl (bX10_claims_b251 C hQ h)
set_option maxRecDepth 4000 in
theorem bX10_claims_b0 {K : KT} {x1 : Int32} {x2 : Int32} {x3 : Int32} {x4 : Int32} {x5 : Int32} {σ : Sg} {o : Int32 × Sg} (C : Cx K layM cX10_claims RX10 12 (3) (some .int))  (hQ : Rk K layM (okI o)) (h : fX10_claims_b0 x1 x2 x3 x4 x5 σ = some o) : G K 0 [some (.ref (kad K 0)), some (.int x1), some (.int x2), some (.int x3), some (.int x4), some (.int x5), none, none, none, none, none, none] [] (Wd K layM σ) := by
  unfold fX10_claims_b0 at h
  refine g_iload_n C.c dX10_claims_0 rfl (i := 1) rfl ?_
  refine g_i2l C.c dX10_claims_1 ?_
  refine g_lconst C.c dX10_claims_2 (v := (0 : Int64)) (by decide) ?_
  refine g_ldc2 C.c (v := (4 : Int64)) aw_1006 dX10_claims_3 ?_
  obtain ⟨p1, e2, h⟩ := Option.bind_eq_some_iff.mp h
  refine kc_10_102 C dX10_claims_6 e2 (Nat.le_of_ble_eq_true rfl) rfl (Nat.le_of_ble_eq_true rfl) ?_
  refine g_if_eq C.c (tgt := 20) dX10_claims_9 (by decide) (fun c => ?_) (fun c => ?_)
  · replace h := ite_t c h
    refine g_bipush C.c dX10_claims_20 (v := (-101 : Int32)) (by decide) ?_
    obtain rfl := Option.some.inj h
    exact g_iret C hQ dX10_claims_22 rfl ⟨rfl, rfl⟩
  · replace h := ite_f c h
    refine g_aload_n C.c dX10_claims_12 rfl (i := 0) rfl ?_
    refine g_iload_n C.c dX10_claims_13 rfl (i := 2) rfl ?_
    obtain ⟨p3, e4, h⟩ := Option.bind_eq_some_iff.mp h
    refine kc_10_159 C dX10_claims_14 e4 (Nat.le_of_ble_eq_true rfl) rfl (Nat.le_of_ble_eq_true rfl) ?_
    refine g_if_ne C.c (tgt := 23) dX10_claims_17 (by decide) (fun c => ?_) (fun c => ?_)
    · replace h := ite_f c h
      refine g_iload_n C.c dX10_claims_23 rfl (i := 3) rfl ?_
      refine g_i2l C.c dX10_claims_24 ?_
      refine g_lconst C.c dX10_claims_25 (v := (0 : Int64)) (by decide) ?_
      refine g_ldc2 C.c (v := (999 : Int64)) aw_1008 dX10_claims_26 ?_
      obtain ⟨p5, e6, h⟩ := Option.bind_eq_some_iff.mp h
      refine kc_10_102 C dX10_claims_29 e6 (Nat.le_of_ble_eq_true rfl) rfl (Nat.le_of_ble_eq_true rfl) ?_
      refine g_if_eq C.c (tgt := 59) dX10_claims_32 (by decide) (fun c => ?_) (fun c => ?_)
      · replace h := ite_t c h
        refine g_bipush C.c dX10_claims_59 (v := (-102 : Int32)) (by decide) ?_
        obtain rfl := Option.some.inj h
        exact g_iret C hQ dX10_claims_61 rfl ⟨rfl, rfl⟩
      · replace h := ite_f c h
        refine g_iload C.c dX10_claims_35 (i := 4) rfl ?_
        refine g_i2l C.c dX10_claims_37 ?_
        refine g_lconst C.c dX10_claims_38 (v := (0 : Int64)) (by decide) ?_
        refine g_ldc2 C.c (v := (2 : Int64)) aw_1010 dX10_claims_39 ?_
        obtain ⟨p7, e8, h⟩ := Option.bind_eq_some_iff.mp h
        refine kc_10_102 C dX10_claims_42 e8 (Nat.le_of_ble_eq_true rfl) rfl (Nat.le_of_ble_eq_true rfl) ?_
        refine g_if_eq C.c (tgt := 59) dX10_claims_45 (by decide) (fun c => ?_) (fun c => ?_)
        · replace h := ite_t c h
          refine g_bipush C.c dX10_claims_59 (v := (-102 : Int32)) (by decide) ?_
          obtain rfl := Option.some.inj h
          exact g_iret C hQ dX10_claims_61 rfl ⟨rfl, rfl⟩
        · replace h := ite_f c h
          refine g_iload C.c dX10_claims_48 (i := 5) rfl ?_
          refine g_i2l C.c dX10_claims_50 ?_
          refine g_lconst C.c dX10_claims_51 (v := (0 : Int64)) (by decide) ?_
          refine g_lconst C.c dX10_claims_52 (v := (1 : Int64)) (by decide) ?_
          obtain ⟨p9, e10, h⟩ := Option.bind_eq_some_iff.mp h
          refine kc_10_102 C dX10_claims_53 e10 (Nat.le_of_ble_eq_true rfl) rfl (Nat.le_of_ble_eq_true rfl) ?_
          refine g_if_ne C.c (tgt := 62) dX10_claims_56 (by decide) (fun c => ?_) (fun c => ?_)
          · replace h := ite_f c h
            refine g_iconst C.c dX10_claims_62 (v := (0 : Int32)) (by decide) ?_
            refine g_istore C.c (i := 6) (L' := [some (.ref (kad K 0)), some (.int x1), some (.int x2), some (.int x3), some (.int x4), some (.int x5), some (.int (0 : Int32)), none, none, none, none, none]) dX10_claims_63 (Nat.le_of_ble_eq_true rfl) rfl ?_
            refine g_iconst C.c dX10_claims_65 (v := (0 : Int32)) (by decide) ?_
            refine g_istore C.c (i := 7) (L' := [some (.ref (kad K 0)), some (.int x1), some (.int x2), some (.int x3), some (.int x4), some (.int x5), some (.int (0 : Int32)), some (.int (0 : Int32)), none, none, none, none]) dX10_claims_66 (Nat.le_of_ble_eq_true rfl) rfl ?_
            refine g_iconst C.c dX10_claims_68 (v := (-1 : Int32)) (by decide) ?_
            refine g_istore C.c (i := 8) (L' := [some (.ref (kad K 0)), some (.int x1), some (.int x2), some (.int x3), some (.int x4), some (.int x5), some (.int (0 : Int32)), some (.int (0 : Int32)), some (.int (-1 : Int32)), none, none, none]) dX10_claims_69 (Nat.le_of_ble_eq_true rfl) rfl ?_
            refine g_iconst C.c dX10_claims_71 (v := (0 : Int32)) (by decide) ?_
            refine g_istore C.c (i := 9) (L' := [some (.ref (kad K 0)), some (.int x1), some (.int x2), some (.int x3), some (.int x4), some (.int x5), some (.int (0 : Int32)), some (.int (0 : Int32)), some (.int (-1 : Int32)), some (.int (0 : Int32)), none, none]) dX10_claims_72 (Nat.le_of_ble_eq_true rfl) rfl ?_
            refine g_mask [true, true, true, true, true, true, true, true, true, true, false, false] rfl ?_
            refine lp_bind (Gh := fun s => G K 74 [some (.ref (kad K 0)), some (.int x1), some (.int x2), some (.int x3), some (.int x4), some (.int x5), some (.int s.1), some (.int s.2.1), some (.int s.2.2.1), some (.int s.2.2.2.1), none, none] [] (Wd K layM s.2.2.2.2)) h (fun s o2 hf gI gE => ?_)
            refine bX10_claims_b74 C gI (fun t15 e => ?_) hf
            · have h := gE _ e
              refine g_iload C.c dX10_claims_201 (i := 8) rfl ?_
              refine g_iconst C.c dX10_claims_203 (v := (-1 : Int32)) (by decide) ?_
              refine g_icmp_ne C.c (tgt := 210) dX10_claims_204 (by decide) (fun c => ?_) (fun c => ?_)
              · replace h := ite_f c h
                refine g_iload C.c dX10_claims_210 (i := 4) rfl ?_
                refine g_if_le C.c (tgt := 220) dX10_claims_212 (by decide) (fun c => ?_) (fun c => ?_)
                · replace h := ite_t c h
                  refine g_aload_n C.c dX10_claims_220 rfl (i := 0) rfl ?_
                  refine gf_10_28 C dX10_claims_221 ?_
                  refine g_iconst C.c dX10_claims_224 (v := (3 : Int32)) (by decide) ?_
                  refine g_iload C.c dX10_claims_225 (i := 8) rfl ?_
                  refine g_imul C.c dX10_claims_227 ?_
                  obtain ⟨c17, h⟩ := chk h
                  refine g_iald C dX10_claims_228 rfl c17 ?_
                  refine g_iload_n C.c dX10_claims_229 rfl (i := 1) rfl ?_
                  refine g_icmp_ne C.c (tgt := 237) dX10_claims_230 (by decide) (fun c => ?_) (fun c => ?_)
                  · replace h := ite_f c h
                    refine g_iconst C.c dX10_claims_237 (v := (0 : Int32)) (by decide) ?_
                    exact g_mask [false, false, false, false, true, true, false, true, false, false, false, false] rfl (bX10_claims_b238 C hQ h)
                  · replace h := ite_t c h
                    refine g_iconst C.c dX10_claims_233 (v := (1 : Int32)) (by decide) ?_
                    refine g_goto C.c (tgt := 238) dX10_claims_234 (by decide) ?_
                    exact g_mask [false, false, false, false, true, true, false, true, false, false, false, false] rfl (bX10_claims_b238 C hQ h)
                · replace h := ite_f c h
                  refine g_iload C.c dX10_claims_215 (i := 6) rfl ?_
                  refine g_goto C.c (tgt := 238) dX10_claims_217 (by decide) ?_
                  exact g_mask [false, false, false, false, true, true, false, true, false, false, false, false] rfl (bX10_claims_b238 C hQ h)
              · replace h := ite_t c h
                refine g_iload C.c dX10_claims_207 (i := 5) rfl ?_
                obtain rfl := Option.some.inj h
                exact g_iret C hQ dX10_claims_209 rfl ⟨rfl, rfl⟩
          · replace h := ite_t c h
            refine g_bipush C.c dX10_claims_59 (v := (-102 : Int32)) (by decide) ?_
            obtain rfl := Option.some.inj h
            exact g_iret C hQ dX10_claims_61 rfl ⟨rfl, rfl⟩
    · replace h := ite_t c h
      refine g_bipush C.c dX10_claims_20 (v := (-101 : Int32)) (by decide) ?_
      obtain rfl := Option.some.inj h
      exact g_iret C hQ dX10_claims_22 rfl ⟨rfl, rfl⟩
def fX10_claims (a0 : Int32) (a1 : Int32) (a2 : Int32) (a3 : Int32) (a4 : Int32) (σ : Sg) : Option (Int32 × Sg) := fX10_claims_b0 a0 a1 a2 a3 a4 σ
theorem ct_X10_claims {a0 : Int32} {a1 : Int32} {a2 : Int32} {a3 : Int32} {a4 : Int32} {σ : Sg} {p : Int32 × Sg} (h : fX10_claims a0 a1 a2 a3 a4 σ = some p) : Ct layM yX10_claims cX10_claims 12 (some .int) 3 (fun ad => [.ref (ad 0), .int a0, .int a1, .int a2, .int a3, .int a4]) σ (okI p) :=
 ct_of (L0 := fun ad => [some (.ref (ad 0)), some (.int a0), some (.int a1), some (.int a2), some (.int a3), some (.int a4), none, none, none, none, none, none]) (by decide) (fun _ => Nat.le_of_ble_eq_true rfl) (fun _ => rfl) (fun K C hQ => g_mask [true, true, true, true, true, true, false, false, false, false, false, false] rfl (bX10_claims_b0 C hQ h))
-- X10_image
theorem dX10_image_0 : decode cX10_image 0 = .ok (.aload_n 0, 1) := by decide +kernel
theorem dX10_image_1 : decode cX10_image 1 = .ok (.invokevirtual 262, 3) := by decide +kernel
theorem dX10_image_4 : decode cX10_image 4 = .ok (.ifCond .eq 6, 3) := by decide +kernel
theorem dX10_image_7 : decode cX10_image 7 = .ok (.bipush (-103), 2) := by decide +kernel
theorem dX10_image_9 : decode cX10_image 9 = .ok (.ireturn, 1) := by decide +kernel
theorem dX10_image_10 : decode cX10_image 10 = .ok (.iconst 0, 1) := by decide +kernel
theorem dX10_image_11 : decode cX10_image 11 = .ok (.istore_n 1, 1) := by decide +kernel
theorem dX10_image_12 : decode cX10_image 12 = .ok (.iload_n 1, 1) := by decide +kernel
theorem dX10_image_13 : decode cX10_image 13 = .ok (.bipush 25, 2) := by decide +kernel
theorem dX10_image_15 : decode cX10_image 15 = .ok (.if_icmp .ge 21, 3) := by decide +kernel
theorem dX10_image_18 : decode cX10_image 18 = .ok (.aload_n 0, 1) := by decide +kernel
theorem dX10_image_19 : decode cX10_image 19 = .ok (.getfield 53, 3) := by decide +kernel
theorem dX10_image_22 : decode cX10_image 22 = .ok (.iload_n 1, 1) := by decide +kernel
theorem dX10_image_23 : decode cX10_image 23 = .ok (.aload_n 0, 1) := by decide +kernel
theorem dX10_image_24 : decode cX10_image 24 = .ok (.getfield 25, 3) := by decide +kernel
theorem dX10_image_27 : decode cX10_image 27 = .ok (.iload_n 1, 1) := by decide +kernel
theorem dX10_image_28 : decode cX10_image 28 = .ok (.iaload, 1) := by decide +kernel
theorem dX10_image_29 : decode cX10_image 29 = .ok (.iastore, 1) := by decide +kernel
theorem dX10_image_30 : decode cX10_image 30 = .ok (.iinc 1 1, 3) := by decide +kernel
theorem dX10_image_33 : decode cX10_image 33 = .ok (.goto (-21), 3) := by decide +kernel
theorem dX10_image_36 : decode cX10_image 36 = .ok (.iconst 0, 1) := by decide +kernel
theorem dX10_image_37 : decode cX10_image 37 = .ok (.istore_n 1, 1) := by decide +kernel
theorem dX10_image_38 : decode cX10_image 38 = .ok (.iload_n 1, 1) := by decide +kernel
theorem dX10_image_39 : decode cX10_image 39 = .ok (.bipush 30, 2) := by decide +kernel
theorem dX10_image_41 : decode cX10_image 41 = .ok (.if_icmp .ge 21, 3) := by decide +kernel
theorem dX10_image_44 : decode cX10_image 44 = .ok (.aload_n 0, 1) := by decide +kernel
theorem dX10_image_45 : decode cX10_image 45 = .ok (.getfield 56, 3) := by decide +kernel
theorem dX10_image_48 : decode cX10_image 48 = .ok (.iload_n 1, 1) := by decide +kernel
theorem dX10_image_49 : decode cX10_image 49 = .ok (.aload_n 0, 1) := by decide +kernel
theorem dX10_image_50 : decode cX10_image 50 = .ok (.getfield 28, 3) := by decide +kernel
theorem dX10_image_53 : decode cX10_image 53 = .ok (.iload_n 1, 1) := by decide +kernel
theorem dX10_image_54 : decode cX10_image 54 = .ok (.iaload, 1) := by decide +kernel
theorem dX10_image_55 : decode cX10_image 55 = .ok (.iastore, 1) := by decide +kernel
theorem dX10_image_56 : decode cX10_image 56 = .ok (.iinc 1 1, 3) := by decide +kernel
theorem dX10_image_59 : decode cX10_image 59 = .ok (.goto (-21), 3) := by decide +kernel
theorem dX10_image_62 : decode cX10_image 62 = .ok (.aload_n 0, 1) := by decide +kernel
theorem dX10_image_63 : decode cX10_image 63 = .ok (.aload_n 0, 1) := by decide +kernel
theorem dX10_image_64 : decode cX10_image 64 = .ok (.getfield 63, 3) := by decide +kernel
theorem dX10_image_67 : decode cX10_image 67 = .ok (.putfield 283, 3) := by decide +kernel
theorem dX10_image_70 : decode cX10_image 70 = .ok (.aload_n 0, 1) := by decide +kernel
theorem dX10_image_71 : decode cX10_image 71 = .ok (.aload_n 0, 1) := by decide +kernel
theorem dX10_image_72 : decode cX10_image 72 = .ok (.getfield 66, 3) := by decide +kernel
theorem dX10_image_75 : decode cX10_image 75 = .ok (.putfield 286, 3) := by decide +kernel
theorem dX10_image_78 : decode cX10_image 78 = .ok (.aload_n 0, 1) := by decide +kernel
theorem dX10_image_79 : decode cX10_image 79 = .ok (.aload_n 0, 1) := by decide +kernel
theorem dX10_image_80 : decode cX10_image 80 = .ok (.getfield 69, 3) := by decide +kernel
theorem dX10_image_83 : decode cX10_image 83 = .ok (.putfield 289, 3) := by decide +kernel
theorem dX10_image_86 : decode cX10_image 86 = .ok (.aload_n 0, 1) := by decide +kernel
theorem dX10_image_87 : decode cX10_image 87 = .ok (.aload_n 0, 1) := by decide +kernel
theorem dX10_image_88 : decode cX10_image 88 = .ok (.getfield 128, 3) := by decide +kernel
theorem dX10_image_91 : decode cX10_image 91 = .ok (.putfield 292, 3) := by decide +kernel
theorem dX10_image_94 : decode cX10_image 94 = .ok (.aload_n 0, 1) := by decide +kernel
theorem dX10_image_95 : decode cX10_image 95 = .ok (.aload_n 0, 1) := by decide +kernel
theorem dX10_image_96 : decode cX10_image 96 = .ok (.getfield 125, 3) := by decide +kernel
theorem dX10_image_99 : decode cX10_image 99 = .ok (.putfield 59, 3) := by decide +kernel
theorem dX10_image_102 : decode cX10_image 102 = .ok (.aload_n 0, 1) := by decide +kernel
theorem dX10_image_103 : decode cX10_image 103 = .ok (.aload_n 0, 1) := by decide +kernel
theorem dX10_image_104 : decode cX10_image 104 = .ok (.getfield 131, 3) := by decide +kernel
theorem dX10_image_107 : decode cX10_image 107 = .ok (.putfield 295, 3) := by decide +kernel
theorem dX10_image_110 : decode cX10_image 110 = .ok (.aload_n 0, 1) := by decide +kernel
theorem dX10_image_111 : decode cX10_image 111 = .ok (.getfield 125, 3) := by decide +kernel
theorem dX10_image_114 : decode cX10_image 114 = .ok (.ireturn, 1) := by decide +kernel
theorem cw_X10_image : Cw yX10_image cX10_image 2 (some .int) 0 := ⟨aw_1153, aw_56, ⟨by decide, by decide⟩, by decide +kernel, by decide⟩
theorem gf_10_53 {K : KT} {cc : ByteArray} {nL d pc : Nat} {ret : Option FieldType} {L : List (Option Value)} {st : List Value} {σ : Sg} (C : Cx K layM cc RX10 nL d ret)  (hd : decode cc pc = .ok (.getfield 53, 3)) (k : G K (pc + 3) L (.ref (kad K 15) :: st) (Wd K layM σ)) : G K pc L (.ref (kad K 0) :: st) (Wd K layM σ) := g_get C (o := 0) (ci := 10) (k := 49) hd rfl rfl rfl (by decide) (Or.inl aw_838) inA10 rfl k
theorem gf_10_56 {K : KT} {cc : ByteArray} {nL d pc : Nat} {ret : Option FieldType} {L : List (Option Value)} {st : List Value} {σ : Sg} (C : Cx K layM cc RX10 nL d ret)  (hd : decode cc pc = .ok (.getfield 56, 3)) (k : G K (pc + 3) L (.ref (kad K 16) :: st) (Wd K layM σ)) : G K pc L (.ref (kad K 0) :: st) (Wd K layM σ) := g_get C (o := 0) (ci := 10) (k := 50) hd rfl rfl rfl (by decide) (Or.inl aw_839) inA10 rfl k
theorem pf_10_283 {K : KT} {cc : ByteArray} {nL d pc : Nat} {ret : Option FieldType} {L : List (Option Value)} {st : List Value} {σ : Sg} (C : Cx K layM cc RX10 nL d ret)  {v : Int32}  (hd : decode cc pc = .ok (.putfield 283, 3)) (k : G K (pc + 3) L st (Wd K layM (wI σ 0 45 v))) : G K pc L (.int v :: .ref (kad K 0) :: st) (Wd K layM σ) := g_putI C (o := 0) (ci := 10) (k := 45) hd rfl rfl rfl (by decide) (Or.inl aw_834) inA10 tyX10_ok nmX10 rfl rfl rfl k
theorem pf_10_286 {K : KT} {cc : ByteArray} {nL d pc : Nat} {ret : Option FieldType} {L : List (Option Value)} {st : List Value} {σ : Sg} (C : Cx K layM cc RX10 nL d ret)  {v : Int32}  (hd : decode cc pc = .ok (.putfield 286, 3)) (k : G K (pc + 3) L st (Wd K layM (wI σ 0 46 v))) : G K pc L (.int v :: .ref (kad K 0) :: st) (Wd K layM σ) := g_putI C (o := 0) (ci := 10) (k := 46) hd rfl rfl rfl (by decide) (Or.inl aw_835) inA10 tyX10_ok nmX10 rfl rfl rfl k
theorem pf_10_289 {K : KT} {cc : ByteArray} {nL d pc : Nat} {ret : Option FieldType} {L : List (Option Value)} {st : List Value} {σ : Sg} (C : Cx K layM cc RX10 nL d ret)  {v : Int32}  (hd : decode cc pc = .ok (.putfield 289, 3)) (k : G K (pc + 3) L st (Wd K layM (wI σ 0 47 v))) : G K pc L (.int v :: .ref (kad K 0) :: st) (Wd K layM σ) := g_putI C (o := 0) (ci := 10) (k := 47) hd rfl rfl rfl (by decide) (Or.inl aw_836) inA10 tyX10_ok nmX10 rfl rfl rfl k
theorem pf_10_292 {K : KT} {cc : ByteArray} {nL d pc : Nat} {ret : Option FieldType} {L : List (Option Value)} {st : List Value} {σ : Sg} (C : Cx K layM cc RX10 nL d ret)  {v : Int32}  (hd : decode cc pc = .ok (.putfield 292, 3)) (k : G K (pc + 3) L st (Wd K layM (wI σ 0 48 v))) : G K pc L (.int v :: .ref (kad K 0) :: st) (Wd K layM σ) := g_putI C (o := 0) (ci := 10) (k := 48) hd rfl rfl rfl (by decide) (Or.inl aw_837) inA10 tyX10_ok nmX10 rfl rfl rfl k
theorem pf_10_59 {K : KT} {cc : ByteArray} {nL d pc : Nat} {ret : Option FieldType} {L : List (Option Value)} {st : List Value} {σ : Sg} (C : Cx K layM cc RX10 nL d ret)  {v : Int32}  (hd : decode cc pc = .ok (.putfield 59, 3)) (k : G K (pc + 3) L st (Wd K layM (wI σ 0 43 v))) : G K pc L (.int v :: .ref (kad K 0) :: st) (Wd K layM σ) := g_putI C (o := 0) (ci := 10) (k := 43) hd rfl rfl rfl (by decide) (Or.inl aw_832) inA10 tyX10_ok nmX10 rfl rfl rfl k
theorem pf_10_295 {K : KT} {cc : ByteArray} {nL d pc : Nat} {ret : Option FieldType} {L : List (Option Value)} {st : List Value} {σ : Sg} (C : Cx K layM cc RX10 nL d ret)  {v : Int32}  (hd : decode cc pc = .ok (.putfield 295, 3)) (k : G K (pc + 3) L st (Wd K layM (wI σ 0 44 v))) : G K pc L (.int v :: .ref (kad K 0) :: st) (Wd K layM σ) := g_putI C (o := 0) (ci := 10) (k := 44) hd rfl rfl rfl (by decide) (Or.inl aw_833) inA10 tyX10_ok nmX10 rfl rfl rfl k
def fX10_image_b12 (x1 : Int32) (σ : Sg) : Option ((Int32 × Sg) ⊕ ((Sg))) :=
  if (25 : Int32) ≤ x1 then (some (.inr σ)) else (if inb x1 25 = true then (if inb x1 25 = true then (some (.inl ((x1 + (1 : Int32)), (wI σ 15 (x1).toNatClampNeg (rI σ 6 (x1).toNatClampNeg))))) else none) else none)
def fX10_image_b38 (x1 : Int32) (σ : Sg) : Option ((Int32 × Sg) ⊕ ((Sg))) :=
  if (30 : Int32) ≤ x1 then (some (.inr σ)) else (if inb x1 30 = true then (if inb x1 30 = true then (some (.inl ((x1 + (1 : Int32)), (wI σ 16 (x1).toNatClampNeg (rI σ 7 (x1).toNatClampNeg))))) else none) else none)
def fX10_image_b0  (σ : Sg) : Option (Int32 × Sg) :=
  Option.bind (fX10_lacks σ) fun p1 => (if p1.1 = 0 then (Option.bind (lp (fun s => fX10_image_b12 s.1 s.2) FU ((0 : Int32), p1.2)) fun t5 => Option.bind (lp (fun s => fX10_image_b38 s.1 s.2) FU ((0 : Int32), t5)) fun t9 => some ((rI (wI (wI (wI (wI (wI (wI t9 0 45 (rI t9 0 17)) 0 46 (rI (wI t9 0 45 (rI t9 0 17)) 0 18)) 0 47 (rI (wI (wI t9 0 45 (rI t9 0 17)) 0 46 (rI (wI t9 0 45 (rI t9 0 17)) 0 18)) 0 19)) 0 48 (rI (wI (wI (wI t9 0 45 (rI t9 0 17)) 0 46 (rI (wI t9 0 45 (rI t9 0 17)) 0 18)) 0 47 (rI (wI (wI t9 0 45 (rI t9 0 17)) 0 46 (rI (wI t9 0 45 (rI t9 0 17)) 0 18)) 0 19)) 0 20)) 0 43 (rI (wI (wI (wI (wI t9 0 45 (rI t9 0 17)) 0 46 (rI (wI t9 0 45 (rI t9 0 17)) 0 18)) 0 47 (rI (wI (wI t9 0 45 (rI t9 0 17)) 0 46 (rI (wI t9 0 45 (rI t9 0 17)) 0 18)) 0 19)) 0 48 (rI (wI (wI (wI t9 0 45 (rI t9 0 17)) 0 46 (rI (wI t9 0 45 (rI t9 0 17)) 0 18)) 0 47 (rI (wI (wI t9 0 45 (rI t9 0 17)) 0 46 (rI (wI t9 0 45 (rI t9 0 17)) 0 18)) 0 19)) 0 20)) 0 15)) 0 44 (rI (wI (wI (wI (wI (wI t9 0 45 (rI t9 0 17)) 0 46 (rI (wI t9 0 45 (rI t9 0 17)) 0 18)) 0 47 (rI (wI (wI t9 0 45 (rI t9 0 17)) 0 46 (rI (wI t9 0 45 (rI t9 0 17)) 0 18)) 0 19)) 0 48 (rI (wI (wI (wI t9 0 45 (rI t9 0 17)) 0 46 (rI (wI t9 0 45 (rI t9 0 17)) 0 18)) 0 47 (rI (wI (wI t9 0 45 (rI t9 0 17)) 0 46 (rI (wI t9 0 45 (rI t9 0 17)) 0 18)) 0 19)) 0 20)) 0 43 (rI (wI (wI (wI (wI t9 0 45 (rI t9 0 17)) 0 46 (rI (wI t9 0 45 (rI t9 0 17)) 0 18)) 0 47 (rI (wI (wI t9 0 45 (rI t9 0 17)) 0 46 (rI (wI t9 0 45 (rI t9 0 17)) 0 18)) 0 19)) 0 48 (rI (wI (wI (wI t9 0 45 (rI t9 0 17)) 0 46 (rI (wI t9 0 45 (rI t9 0 17)) 0 18)) 0 47 (rI (wI (wI t9 0 45 (rI t9 0 17)) 0 46 (rI (wI t9 0 45 (rI t9 0 17)) 0 18)) 0 19)) 0 20)) 0 15)) 0 12)) 0 15), (wI (wI (wI (wI (wI (wI t9 0 45 (rI t9 0 17)) 0 46 (rI (wI t9 0 45 (rI t9 0 17)) 0 18)) 0 47 (rI (wI (wI t9 0 45 (rI t9 0 17)) 0 46 (rI (wI t9 0 45 (rI t9 0 17)) 0 18)) 0 19)) 0 48 (rI (wI (wI (wI t9 0 45 (rI t9 0 17)) 0 46 (rI (wI t9 0 45 (rI t9 0 17)) 0 18)) 0 47 (rI (wI (wI t9 0 45 (rI t9 0 17)) 0 46 (rI (wI t9 0 45 (rI t9 0 17)) 0 18)) 0 19)) 0 20)) 0 43 (rI (wI (wI (wI (wI t9 0 45 (rI t9 0 17)) 0 46 (rI (wI t9 0 45 (rI t9 0 17)) 0 18)) 0 47 (rI (wI (wI t9 0 45 (rI t9 0 17)) 0 46 (rI (wI t9 0 45 (rI t9 0 17)) 0 18)) 0 19)) 0 48 (rI (wI (wI (wI t9 0 45 (rI t9 0 17)) 0 46 (rI (wI t9 0 45 (rI t9 0 17)) 0 18)) 0 47 (rI (wI (wI t9 0 45 (rI t9 0 17)) 0 46 (rI (wI t9 0 45 (rI t9 0 17)) 0 18)) 0 19)) 0 20)) 0 15)) 0 44 (rI (wI (wI (wI (wI (wI t9 0 45 (rI t9 0 17)) 0 46 (rI (wI t9 0 45 (rI t9 0 17)) 0 18)) 0 47 (rI (wI (wI t9 0 45 (rI t9 0 17)) 0 46 (rI (wI t9 0 45 (rI t9 0 17)) 0 18)) 0 19)) 0 48 (rI (wI (wI (wI t9 0 45 (rI t9 0 17)) 0 46 (rI (wI t9 0 45 (rI t9 0 17)) 0 18)) 0 47 (rI (wI (wI t9 0 45 (rI t9 0 17)) 0 46 (rI (wI t9 0 45 (rI t9 0 17)) 0 18)) 0 19)) 0 20)) 0 43 (rI (wI (wI (wI (wI t9 0 45 (rI t9 0 17)) 0 46 (rI (wI t9 0 45 (rI t9 0 17)) 0 18)) 0 47 (rI (wI (wI t9 0 45 (rI t9 0 17)) 0 46 (rI (wI t9 0 45 (rI t9 0 17)) 0 18)) 0 19)) 0 48 (rI (wI (wI (wI t9 0 45 (rI t9 0 17)) 0 46 (rI (wI t9 0 45 (rI t9 0 17)) 0 18)) 0 47 (rI (wI (wI t9 0 45 (rI t9 0 17)) 0 46 (rI (wI t9 0 45 (rI t9 0 17)) 0 18)) 0 19)) 0 20)) 0 15)) 0 12)))) else (some ((-103 : Int32), p1.2)))
set_option maxRecDepth 4000 in
theorem bX10_image_b12 {K : KT} {x1 : Int32} {σ : Sg} {o : (Int32 × Sg) ⊕ ((Sg))} (C : Cx K layM cX10_image RX10 2 (2) (some .int))  (hI : ∀ s' : Int32 × Sg, o = .inl s' → G K 12 [some (.ref (kad K 0)), some (.int s'.1)] [] (Wd K layM s'.2)) (hE0 : ∀ t : Sg, o = .inr t → G K 36 [some (.ref (kad K 0)), none] [] (Wd K layM t)) (h : fX10_image_b12 x1 σ = some o) : G K 12 [some (.ref (kad K 0)), some (.int x1)] [] (Wd K layM σ) := by
  unfold fX10_image_b12 at h
  refine g_iload_n C.c dX10_image_12 rfl (i := 1) rfl ?_
  refine g_bipush C.c dX10_image_13 (v := (25 : Int32)) (by decide) ?_
  refine g_icmp_ge C.c (tgt := 36) dX10_image_15 (by decide) (fun c => ?_) (fun c => ?_)
  · replace h := ite_t c h
    have g9 := hE0 _ (Option.some.inj h).symm
    exact g_mask [true, false] rfl g9
  · replace h := ite_f c h
    refine g_aload_n C.c dX10_image_18 rfl (i := 0) rfl ?_
    refine gf_10_53 C dX10_image_19 ?_
    refine g_iload_n C.c dX10_image_22 rfl (i := 1) rfl ?_
    refine g_aload_n C.c dX10_image_23 rfl (i := 0) rfl ?_
    refine gf_10_25 C dX10_image_24 ?_
    refine g_iload_n C.c dX10_image_27 rfl (i := 1) rfl ?_
    obtain ⟨c3, h⟩ := chk h
    refine g_iald C dX10_image_28 rfl c3 ?_
    obtain ⟨c4, h⟩ := chk h
    refine g_iast C dX10_image_29 rfl c4 ?_
    refine g_iinc C.c (i := 1) (y := (1 : Int32)) (L' := [some (.ref (kad K 0)), some (.int (x1 + (1 : Int32)))]) dX10_image_30 rfl (by decide) (Nat.le_of_ble_eq_true rfl) rfl ?_
    refine g_goto C.c (tgt := 12) dX10_image_33 (by decide) ?_
    have g9 := hI _ (Option.some.inj h).symm
    exact g_mask [true, true] rfl g9
set_option maxRecDepth 4000 in
theorem bX10_image_b38 {K : KT} {x1 : Int32} {σ : Sg} {o : (Int32 × Sg) ⊕ ((Sg))} (C : Cx K layM cX10_image RX10 2 (2) (some .int))  (hI : ∀ s' : Int32 × Sg, o = .inl s' → G K 38 [some (.ref (kad K 0)), some (.int s'.1)] [] (Wd K layM s'.2)) (hE0 : ∀ t : Sg, o = .inr t → G K 62 [some (.ref (kad K 0)), none] [] (Wd K layM t)) (h : fX10_image_b38 x1 σ = some o) : G K 38 [some (.ref (kad K 0)), some (.int x1)] [] (Wd K layM σ) := by
  unfold fX10_image_b38 at h
  refine g_iload_n C.c dX10_image_38 rfl (i := 1) rfl ?_
  refine g_bipush C.c dX10_image_39 (v := (30 : Int32)) (by decide) ?_
  refine g_icmp_ge C.c (tgt := 62) dX10_image_41 (by decide) (fun c => ?_) (fun c => ?_)
  · replace h := ite_t c h
    have g9 := hE0 _ (Option.some.inj h).symm
    exact g_mask [true, false] rfl g9
  · replace h := ite_f c h
    refine g_aload_n C.c dX10_image_44 rfl (i := 0) rfl ?_
    refine gf_10_56 C dX10_image_45 ?_
    refine g_iload_n C.c dX10_image_48 rfl (i := 1) rfl ?_
    refine g_aload_n C.c dX10_image_49 rfl (i := 0) rfl ?_
    refine gf_10_28 C dX10_image_50 ?_
    refine g_iload_n C.c dX10_image_53 rfl (i := 1) rfl ?_
    obtain ⟨c7, h⟩ := chk h
    refine g_iald C dX10_image_54 rfl c7 ?_
    obtain ⟨c8, h⟩ := chk h
    refine g_iast C dX10_image_55 rfl c8 ?_
    refine g_iinc C.c (i := 1) (y := (1 : Int32)) (L' := [some (.ref (kad K 0)), some (.int (x1 + (1 : Int32)))]) dX10_image_56 rfl (by decide) (Nat.le_of_ble_eq_true rfl) rfl ?_
    refine g_goto C.c (tgt := 38) dX10_image_59 (by decide) ?_
    have g9 := hI _ (Option.some.inj h).symm
    exact g_mask [true, true] rfl g9
set_option maxRecDepth 4000 in
theorem bX10_image_b0 {K : KT}  {σ : Sg} {o : Int32 × Sg} (C : Cx K layM cX10_image RX10 2 (2) (some .int))  (hQ : Rk K layM (okI o)) (h : fX10_image_b0  σ = some o) : G K 0 [some (.ref (kad K 0)), none] [] (Wd K layM σ) := by
  unfold fX10_image_b0 at h
  refine g_aload_n C.c dX10_image_0 rfl (i := 0) rfl ?_
  obtain ⟨p1, e2, h⟩ := Option.bind_eq_some_iff.mp h
  refine kc_10_262 C dX10_image_1 e2 (Nat.le_of_ble_eq_true rfl) rfl (Nat.le_of_ble_eq_true rfl) ?_
  refine g_if_eq C.c (tgt := 10) dX10_image_4 (by decide) (fun c => ?_) (fun c => ?_)
  · replace h := ite_t c h
    refine g_iconst C.c dX10_image_10 (v := (0 : Int32)) (by decide) ?_
    refine g_istore_n C.c (i := 1) (L' := [some (.ref (kad K 0)), some (.int (0 : Int32))]) dX10_image_11 rfl (Nat.le_of_ble_eq_true rfl) rfl ?_
    refine g_mask [true, true] rfl ?_
    refine lp_bind (Gh := fun s => G K 12 [some (.ref (kad K 0)), some (.int s.1)] [] (Wd K layM s.2)) h (fun s o2 hf gI gE => ?_)
    refine bX10_image_b12 C gI (fun t5 e => ?_) hf
    · have h := gE _ e
      refine g_iconst C.c dX10_image_36 (v := (0 : Int32)) (by decide) ?_
      refine g_istore_n C.c (i := 1) (L' := [some (.ref (kad K 0)), some (.int (0 : Int32))]) dX10_image_37 rfl (Nat.le_of_ble_eq_true rfl) rfl ?_
      refine g_mask [true, true] rfl ?_
      refine lp_bind (Gh := fun s => G K 38 [some (.ref (kad K 0)), some (.int s.1)] [] (Wd K layM s.2)) h (fun s o2 hf gI gE => ?_)
      refine bX10_image_b38 C gI (fun t9 e => ?_) hf
      · have h := gE _ e
        refine g_aload_n C.c dX10_image_62 rfl (i := 0) rfl ?_
        refine g_aload_n C.c dX10_image_63 rfl (i := 0) rfl ?_
        refine gf_10_63 C dX10_image_64 ?_
        refine pf_10_283 C dX10_image_67 ?_
        refine g_aload_n C.c dX10_image_70 rfl (i := 0) rfl ?_
        refine g_aload_n C.c dX10_image_71 rfl (i := 0) rfl ?_
        refine gf_10_66 C dX10_image_72 ?_
        refine pf_10_286 C dX10_image_75 ?_
        refine g_aload_n C.c dX10_image_78 rfl (i := 0) rfl ?_
        refine g_aload_n C.c dX10_image_79 rfl (i := 0) rfl ?_
        refine gf_10_69 C dX10_image_80 ?_
        refine pf_10_289 C dX10_image_83 ?_
        refine g_aload_n C.c dX10_image_86 rfl (i := 0) rfl ?_
        refine g_aload_n C.c dX10_image_87 rfl (i := 0) rfl ?_
        refine gf_10_128 C dX10_image_88 ?_
        refine pf_10_292 C dX10_image_91 ?_
        refine g_aload_n C.c dX10_image_94 rfl (i := 0) rfl ?_
        refine g_aload_n C.c dX10_image_95 rfl (i := 0) rfl ?_
        refine gf_10_125 C dX10_image_96 ?_
        refine pf_10_59 C dX10_image_99 ?_
        refine g_aload_n C.c dX10_image_102 rfl (i := 0) rfl ?_
        refine g_aload_n C.c dX10_image_103 rfl (i := 0) rfl ?_
        refine gf_10_131 C dX10_image_104 ?_
        refine pf_10_295 C dX10_image_107 ?_
        refine g_aload_n C.c dX10_image_110 rfl (i := 0) rfl ?_
        refine gf_10_125 C dX10_image_111 ?_
        obtain rfl := Option.some.inj h
        exact g_iret C hQ dX10_image_114 rfl ⟨rfl, rfl⟩
  · replace h := ite_f c h
    refine g_bipush C.c dX10_image_7 (v := (-103 : Int32)) (by decide) ?_
    obtain rfl := Option.some.inj h
    exact g_iret C hQ dX10_image_9 rfl ⟨rfl, rfl⟩
def fX10_image (σ : Sg) : Option (Int32 × Sg) := fX10_image_b0 σ
theorem ct_X10_image {σ : Sg} {p : Int32 × Sg} (h : fX10_image σ = some p) : Ct layM yX10_image cX10_image 2 (some .int) 2 (fun ad => [.ref (ad 0)]) σ (okI p) :=
 ct_of (L0 := fun ad => [some (.ref (ad 0)), none]) (by decide) (fun _ => Nat.le_of_ble_eq_true rfl) (fun _ => rfl) (fun K C hQ => g_mask [true, false] rfl (bX10_image_b0 C hQ h))
-- X10_restore
theorem dX10_restore_0 : decode cX10_restore 0 = .ok (.aload_n 0, 1) := by decide +kernel
theorem dX10_restore_1 : decode cX10_restore 1 = .ok (.getfield 59, 3) := by decide +kernel
theorem dX10_restore_4 : decode cX10_restore 4 = .ok (.iconst (-1), 1) := by decide +kernel
theorem dX10_restore_5 : decode cX10_restore 5 = .ok (.if_icmp .eq 14, 3) := by decide +kernel
theorem dX10_restore_8 : decode cX10_restore 8 = .ok (.aload_n 0, 1) := by decide +kernel
theorem dX10_restore_9 : decode cX10_restore 9 = .ok (.getfield 295, 3) := by decide +kernel
theorem dX10_restore_12 : decode cX10_restore 12 = .ok (.aload_n 0, 1) := by decide +kernel
theorem dX10_restore_13 : decode cX10_restore 13 = .ok (.getfield 131, 3) := by decide +kernel
theorem dX10_restore_16 : decode cX10_restore 16 = .ok (.if_icmp .eq 6, 3) := by decide +kernel
theorem dX10_restore_19 : decode cX10_restore 19 = .ok (.bipush (-103), 2) := by decide +kernel
theorem dX10_restore_21 : decode cX10_restore 21 = .ok (.ireturn, 1) := by decide +kernel
theorem dX10_restore_22 : decode cX10_restore 22 = .ok (.iconst 0, 1) := by decide +kernel
theorem dX10_restore_23 : decode cX10_restore 23 = .ok (.istore_n 1, 1) := by decide +kernel
theorem dX10_restore_24 : decode cX10_restore 24 = .ok (.iload_n 1, 1) := by decide +kernel
theorem dX10_restore_25 : decode cX10_restore 25 = .ok (.bipush 25, 2) := by decide +kernel
theorem dX10_restore_27 : decode cX10_restore 27 = .ok (.if_icmp .ge 21, 3) := by decide +kernel
theorem dX10_restore_30 : decode cX10_restore 30 = .ok (.aload_n 0, 1) := by decide +kernel
theorem dX10_restore_31 : decode cX10_restore 31 = .ok (.getfield 25, 3) := by decide +kernel
theorem dX10_restore_34 : decode cX10_restore 34 = .ok (.iload_n 1, 1) := by decide +kernel
theorem dX10_restore_35 : decode cX10_restore 35 = .ok (.aload_n 0, 1) := by decide +kernel
theorem dX10_restore_36 : decode cX10_restore 36 = .ok (.getfield 53, 3) := by decide +kernel
theorem dX10_restore_39 : decode cX10_restore 39 = .ok (.iload_n 1, 1) := by decide +kernel
theorem dX10_restore_40 : decode cX10_restore 40 = .ok (.iaload, 1) := by decide +kernel
theorem dX10_restore_41 : decode cX10_restore 41 = .ok (.iastore, 1) := by decide +kernel
theorem dX10_restore_42 : decode cX10_restore 42 = .ok (.iinc 1 1, 3) := by decide +kernel
theorem dX10_restore_45 : decode cX10_restore 45 = .ok (.goto (-21), 3) := by decide +kernel
theorem dX10_restore_48 : decode cX10_restore 48 = .ok (.iconst 0, 1) := by decide +kernel
theorem dX10_restore_49 : decode cX10_restore 49 = .ok (.istore_n 1, 1) := by decide +kernel
theorem dX10_restore_50 : decode cX10_restore 50 = .ok (.iload_n 1, 1) := by decide +kernel
theorem dX10_restore_51 : decode cX10_restore 51 = .ok (.bipush 30, 2) := by decide +kernel
theorem dX10_restore_53 : decode cX10_restore 53 = .ok (.if_icmp .ge 21, 3) := by decide +kernel
theorem dX10_restore_56 : decode cX10_restore 56 = .ok (.aload_n 0, 1) := by decide +kernel
theorem dX10_restore_57 : decode cX10_restore 57 = .ok (.getfield 28, 3) := by decide +kernel
theorem dX10_restore_60 : decode cX10_restore 60 = .ok (.iload_n 1, 1) := by decide +kernel
theorem dX10_restore_61 : decode cX10_restore 61 = .ok (.aload_n 0, 1) := by decide +kernel
theorem dX10_restore_62 : decode cX10_restore 62 = .ok (.getfield 56, 3) := by decide +kernel
theorem dX10_restore_65 : decode cX10_restore 65 = .ok (.iload_n 1, 1) := by decide +kernel
theorem dX10_restore_66 : decode cX10_restore 66 = .ok (.iaload, 1) := by decide +kernel
theorem dX10_restore_67 : decode cX10_restore 67 = .ok (.iastore, 1) := by decide +kernel
theorem dX10_restore_68 : decode cX10_restore 68 = .ok (.iinc 1 1, 3) := by decide +kernel
theorem dX10_restore_71 : decode cX10_restore 71 = .ok (.goto (-21), 3) := by decide +kernel
theorem dX10_restore_74 : decode cX10_restore 74 = .ok (.aload_n 0, 1) := by decide +kernel
theorem dX10_restore_75 : decode cX10_restore 75 = .ok (.aload_n 0, 1) := by decide +kernel
theorem dX10_restore_76 : decode cX10_restore 76 = .ok (.getfield 283, 3) := by decide +kernel
theorem dX10_restore_79 : decode cX10_restore 79 = .ok (.putfield 63, 3) := by decide +kernel
theorem dX10_restore_82 : decode cX10_restore 82 = .ok (.aload_n 0, 1) := by decide +kernel
theorem dX10_restore_83 : decode cX10_restore 83 = .ok (.aload_n 0, 1) := by decide +kernel
theorem dX10_restore_84 : decode cX10_restore 84 = .ok (.getfield 286, 3) := by decide +kernel
theorem dX10_restore_87 : decode cX10_restore 87 = .ok (.putfield 66, 3) := by decide +kernel
theorem dX10_restore_90 : decode cX10_restore 90 = .ok (.aload_n 0, 1) := by decide +kernel
theorem dX10_restore_91 : decode cX10_restore 91 = .ok (.aload_n 0, 1) := by decide +kernel
theorem dX10_restore_92 : decode cX10_restore 92 = .ok (.getfield 289, 3) := by decide +kernel
theorem dX10_restore_95 : decode cX10_restore 95 = .ok (.putfield 69, 3) := by decide +kernel
theorem dX10_restore_98 : decode cX10_restore 98 = .ok (.aload_n 0, 1) := by decide +kernel
theorem dX10_restore_99 : decode cX10_restore 99 = .ok (.aload_n 0, 1) := by decide +kernel
theorem dX10_restore_100 : decode cX10_restore 100 = .ok (.getfield 292, 3) := by decide +kernel
theorem dX10_restore_103 : decode cX10_restore 103 = .ok (.putfield 128, 3) := by decide +kernel
theorem dX10_restore_106 : decode cX10_restore 106 = .ok (.aload_n 0, 1) := by decide +kernel
theorem dX10_restore_107 : decode cX10_restore 107 = .ok (.aload_n 0, 1) := by decide +kernel
theorem dX10_restore_108 : decode cX10_restore 108 = .ok (.getfield 59, 3) := by decide +kernel
theorem dX10_restore_111 : decode cX10_restore 111 = .ok (.putfield 125, 3) := by decide +kernel
theorem dX10_restore_114 : decode cX10_restore 114 = .ok (.aload_n 0, 1) := by decide +kernel
theorem dX10_restore_115 : decode cX10_restore 115 = .ok (.getfield 125, 3) := by decide +kernel
theorem dX10_restore_118 : decode cX10_restore 118 = .ok (.ireturn, 1) := by decide +kernel
theorem cw_X10_restore : Cw yX10_restore cX10_restore 2 (some .int) 0 := ⟨aw_1157, aw_56, ⟨by decide, by decide⟩, by decide +kernel, by decide⟩
theorem gf_10_59 {K : KT} {cc : ByteArray} {nL d pc : Nat} {ret : Option FieldType} {L : List (Option Value)} {st : List Value} {σ : Sg} (C : Cx K layM cc RX10 nL d ret)  (hd : decode cc pc = .ok (.getfield 59, 3)) (k : G K (pc + 3) L (.int (rI σ 0 43) :: st) (Wd K layM σ)) : G K pc L (.ref (kad K 0) :: st) (Wd K layM σ) := g_get C (o := 0) (ci := 10) (k := 43) hd rfl rfl rfl (by decide) (Or.inl aw_832) inA10 rfl k
theorem gf_10_295 {K : KT} {cc : ByteArray} {nL d pc : Nat} {ret : Option FieldType} {L : List (Option Value)} {st : List Value} {σ : Sg} (C : Cx K layM cc RX10 nL d ret)  (hd : decode cc pc = .ok (.getfield 295, 3)) (k : G K (pc + 3) L (.int (rI σ 0 44) :: st) (Wd K layM σ)) : G K pc L (.ref (kad K 0) :: st) (Wd K layM σ) := g_get C (o := 0) (ci := 10) (k := 44) hd rfl rfl rfl (by decide) (Or.inl aw_833) inA10 rfl k
theorem gf_10_283 {K : KT} {cc : ByteArray} {nL d pc : Nat} {ret : Option FieldType} {L : List (Option Value)} {st : List Value} {σ : Sg} (C : Cx K layM cc RX10 nL d ret)  (hd : decode cc pc = .ok (.getfield 283, 3)) (k : G K (pc + 3) L (.int (rI σ 0 45) :: st) (Wd K layM σ)) : G K pc L (.ref (kad K 0) :: st) (Wd K layM σ) := g_get C (o := 0) (ci := 10) (k := 45) hd rfl rfl rfl (by decide) (Or.inl aw_834) inA10 rfl k
theorem gf_10_286 {K : KT} {cc : ByteArray} {nL d pc : Nat} {ret : Option FieldType} {L : List (Option Value)} {st : List Value} {σ : Sg} (C : Cx K layM cc RX10 nL d ret)  (hd : decode cc pc = .ok (.getfield 286, 3)) (k : G K (pc + 3) L (.int (rI σ 0 46) :: st) (Wd K layM σ)) : G K pc L (.ref (kad K 0) :: st) (Wd K layM σ) := g_get C (o := 0) (ci := 10) (k := 46) hd rfl rfl rfl (by decide) (Or.inl aw_835) inA10 rfl k
theorem gf_10_289 {K : KT} {cc : ByteArray} {nL d pc : Nat} {ret : Option FieldType} {L : List (Option Value)} {st : List Value} {σ : Sg} (C : Cx K layM cc RX10 nL d ret)  (hd : decode cc pc = .ok (.getfield 289, 3)) (k : G K (pc + 3) L (.int (rI σ 0 47) :: st) (Wd K layM σ)) : G K pc L (.ref (kad K 0) :: st) (Wd K layM σ) := g_get C (o := 0) (ci := 10) (k := 47) hd rfl rfl rfl (by decide) (Or.inl aw_836) inA10 rfl k
theorem gf_10_292 {K : KT} {cc : ByteArray} {nL d pc : Nat} {ret : Option FieldType} {L : List (Option Value)} {st : List Value} {σ : Sg} (C : Cx K layM cc RX10 nL d ret)  (hd : decode cc pc = .ok (.getfield 292, 3)) (k : G K (pc + 3) L (.int (rI σ 0 48) :: st) (Wd K layM σ)) : G K pc L (.ref (kad K 0) :: st) (Wd K layM σ) := g_get C (o := 0) (ci := 10) (k := 48) hd rfl rfl rfl (by decide) (Or.inl aw_837) inA10 rfl k
def fX10_restore_b24 (x1 : Int32) (σ : Sg) : Option ((Int32 × Sg) ⊕ ((Sg))) :=
  if (25 : Int32) ≤ x1 then (some (.inr σ)) else (if inb x1 25 = true then (if inb x1 25 = true then (some (.inl ((x1 + (1 : Int32)), (wI σ 6 (x1).toNatClampNeg (rI σ 15 (x1).toNatClampNeg))))) else none) else none)
def fX10_restore_b50 (x1 : Int32) (σ : Sg) : Option ((Int32 × Sg) ⊕ ((Sg))) :=
  if (30 : Int32) ≤ x1 then (some (.inr σ)) else (if inb x1 30 = true then (if inb x1 30 = true then (some (.inl ((x1 + (1 : Int32)), (wI σ 7 (x1).toNatClampNeg (rI σ 16 (x1).toNatClampNeg))))) else none) else none)
def fX10_restore_b0  (σ : Sg) : Option (Int32 × Sg) :=
  if (rI σ 0 43) = (-1 : Int32) then (some ((-103 : Int32), σ)) else (if (rI σ 0 44) = (rI σ 0 12) then (Option.bind (lp (fun s => fX10_restore_b24 s.1 s.2) FU ((0 : Int32), σ)) fun t3 => Option.bind (lp (fun s => fX10_restore_b50 s.1 s.2) FU ((0 : Int32), t3)) fun t7 => some ((rI (wI (wI (wI (wI (wI t7 0 17 (rI t7 0 45)) 0 18 (rI (wI t7 0 17 (rI t7 0 45)) 0 46)) 0 19 (rI (wI (wI t7 0 17 (rI t7 0 45)) 0 18 (rI (wI t7 0 17 (rI t7 0 45)) 0 46)) 0 47)) 0 20 (rI (wI (wI (wI t7 0 17 (rI t7 0 45)) 0 18 (rI (wI t7 0 17 (rI t7 0 45)) 0 46)) 0 19 (rI (wI (wI t7 0 17 (rI t7 0 45)) 0 18 (rI (wI t7 0 17 (rI t7 0 45)) 0 46)) 0 47)) 0 48)) 0 15 (rI (wI (wI (wI (wI t7 0 17 (rI t7 0 45)) 0 18 (rI (wI t7 0 17 (rI t7 0 45)) 0 46)) 0 19 (rI (wI (wI t7 0 17 (rI t7 0 45)) 0 18 (rI (wI t7 0 17 (rI t7 0 45)) 0 46)) 0 47)) 0 20 (rI (wI (wI (wI t7 0 17 (rI t7 0 45)) 0 18 (rI (wI t7 0 17 (rI t7 0 45)) 0 46)) 0 19 (rI (wI (wI t7 0 17 (rI t7 0 45)) 0 18 (rI (wI t7 0 17 (rI t7 0 45)) 0 46)) 0 47)) 0 48)) 0 43)) 0 15), (wI (wI (wI (wI (wI t7 0 17 (rI t7 0 45)) 0 18 (rI (wI t7 0 17 (rI t7 0 45)) 0 46)) 0 19 (rI (wI (wI t7 0 17 (rI t7 0 45)) 0 18 (rI (wI t7 0 17 (rI t7 0 45)) 0 46)) 0 47)) 0 20 (rI (wI (wI (wI t7 0 17 (rI t7 0 45)) 0 18 (rI (wI t7 0 17 (rI t7 0 45)) 0 46)) 0 19 (rI (wI (wI t7 0 17 (rI t7 0 45)) 0 18 (rI (wI t7 0 17 (rI t7 0 45)) 0 46)) 0 47)) 0 48)) 0 15 (rI (wI (wI (wI (wI t7 0 17 (rI t7 0 45)) 0 18 (rI (wI t7 0 17 (rI t7 0 45)) 0 46)) 0 19 (rI (wI (wI t7 0 17 (rI t7 0 45)) 0 18 (rI (wI t7 0 17 (rI t7 0 45)) 0 46)) 0 47)) 0 20 (rI (wI (wI (wI t7 0 17 (rI t7 0 45)) 0 18 (rI (wI t7 0 17 (rI t7 0 45)) 0 46)) 0 19 (rI (wI (wI t7 0 17 (rI t7 0 45)) 0 18 (rI (wI t7 0 17 (rI t7 0 45)) 0 46)) 0 47)) 0 48)) 0 43)))) else (some ((-103 : Int32), σ)))
set_option maxRecDepth 4000 in
theorem bX10_restore_b24 {K : KT} {x1 : Int32} {σ : Sg} {o : (Int32 × Sg) ⊕ ((Sg))} (C : Cx K layM cX10_restore RX10 2 (1) (some .int))  (hI : ∀ s' : Int32 × Sg, o = .inl s' → G K 24 [some (.ref (kad K 0)), some (.int s'.1)] [] (Wd K layM s'.2)) (hE0 : ∀ t : Sg, o = .inr t → G K 48 [some (.ref (kad K 0)), none] [] (Wd K layM t)) (h : fX10_restore_b24 x1 σ = some o) : G K 24 [some (.ref (kad K 0)), some (.int x1)] [] (Wd K layM σ) := by
  unfold fX10_restore_b24 at h
  refine g_iload_n C.c dX10_restore_24 rfl (i := 1) rfl ?_
  refine g_bipush C.c dX10_restore_25 (v := (25 : Int32)) (by decide) ?_
  refine g_icmp_ge C.c (tgt := 48) dX10_restore_27 (by decide) (fun c => ?_) (fun c => ?_)
  · replace h := ite_t c h
    have g9 := hE0 _ (Option.some.inj h).symm
    exact g_mask [true, false] rfl g9
  · replace h := ite_f c h
    refine g_aload_n C.c dX10_restore_30 rfl (i := 0) rfl ?_
    refine gf_10_25 C dX10_restore_31 ?_
    refine g_iload_n C.c dX10_restore_34 rfl (i := 1) rfl ?_
    refine g_aload_n C.c dX10_restore_35 rfl (i := 0) rfl ?_
    refine gf_10_53 C dX10_restore_36 ?_
    refine g_iload_n C.c dX10_restore_39 rfl (i := 1) rfl ?_
    obtain ⟨c1, h⟩ := chk h
    refine g_iald C dX10_restore_40 rfl c1 ?_
    obtain ⟨c2, h⟩ := chk h
    refine g_iast C dX10_restore_41 rfl c2 ?_
    refine g_iinc C.c (i := 1) (y := (1 : Int32)) (L' := [some (.ref (kad K 0)), some (.int (x1 + (1 : Int32)))]) dX10_restore_42 rfl (by decide) (Nat.le_of_ble_eq_true rfl) rfl ?_
    refine g_goto C.c (tgt := 24) dX10_restore_45 (by decide) ?_
    have g9 := hI _ (Option.some.inj h).symm
    exact g_mask [true, true] rfl g9
set_option maxRecDepth 4000 in
theorem bX10_restore_b50 {K : KT} {x1 : Int32} {σ : Sg} {o : (Int32 × Sg) ⊕ ((Sg))} (C : Cx K layM cX10_restore RX10 2 (1) (some .int))  (hI : ∀ s' : Int32 × Sg, o = .inl s' → G K 50 [some (.ref (kad K 0)), some (.int s'.1)] [] (Wd K layM s'.2)) (hE0 : ∀ t : Sg, o = .inr t → G K 74 [some (.ref (kad K 0)), none] [] (Wd K layM t)) (h : fX10_restore_b50 x1 σ = some o) : G K 50 [some (.ref (kad K 0)), some (.int x1)] [] (Wd K layM σ) := by
  unfold fX10_restore_b50 at h
  refine g_iload_n C.c dX10_restore_50 rfl (i := 1) rfl ?_
  refine g_bipush C.c dX10_restore_51 (v := (30 : Int32)) (by decide) ?_
  refine g_icmp_ge C.c (tgt := 74) dX10_restore_53 (by decide) (fun c => ?_) (fun c => ?_)
  · replace h := ite_t c h
    have g9 := hE0 _ (Option.some.inj h).symm
    exact g_mask [true, false] rfl g9
  · replace h := ite_f c h
    refine g_aload_n C.c dX10_restore_56 rfl (i := 0) rfl ?_
    refine gf_10_28 C dX10_restore_57 ?_
    refine g_iload_n C.c dX10_restore_60 rfl (i := 1) rfl ?_
    refine g_aload_n C.c dX10_restore_61 rfl (i := 0) rfl ?_
    refine gf_10_56 C dX10_restore_62 ?_
    refine g_iload_n C.c dX10_restore_65 rfl (i := 1) rfl ?_
    obtain ⟨c5, h⟩ := chk h
    refine g_iald C dX10_restore_66 rfl c5 ?_
    obtain ⟨c6, h⟩ := chk h
    refine g_iast C dX10_restore_67 rfl c6 ?_
    refine g_iinc C.c (i := 1) (y := (1 : Int32)) (L' := [some (.ref (kad K 0)), some (.int (x1 + (1 : Int32)))]) dX10_restore_68 rfl (by decide) (Nat.le_of_ble_eq_true rfl) rfl ?_
    refine g_goto C.c (tgt := 50) dX10_restore_71 (by decide) ?_
    have g9 := hI _ (Option.some.inj h).symm
    exact g_mask [true, true] rfl g9
set_option maxRecDepth 4000 in
theorem bX10_restore_b0 {K : KT}  {σ : Sg} {o : Int32 × Sg} (C : Cx K layM cX10_restore RX10 2 (1) (some .int))  (hQ : Rk K layM (okI o)) (h : fX10_restore_b0  σ = some o) : G K 0 [some (.ref (kad K 0)), none] [] (Wd K layM σ) := by
  unfold fX10_restore_b0 at h
  refine g_aload_n C.c dX10_restore_0 rfl (i := 0) rfl ?_
  refine gf_10_59 C dX10_restore_1 ?_
  refine g_iconst C.c dX10_restore_4 (v := (-1 : Int32)) (by decide) ?_
  refine g_icmp_eq C.c (tgt := 19) dX10_restore_5 (by decide) (fun c => ?_) (fun c => ?_)
  · replace h := ite_t c h
    refine g_bipush C.c dX10_restore_19 (v := (-103 : Int32)) (by decide) ?_
    obtain rfl := Option.some.inj h
    exact g_iret C hQ dX10_restore_21 rfl ⟨rfl, rfl⟩
  · replace h := ite_f c h
    refine g_aload_n C.c dX10_restore_8 rfl (i := 0) rfl ?_
    refine gf_10_295 C dX10_restore_9 ?_
    refine g_aload_n C.c dX10_restore_12 rfl (i := 0) rfl ?_
    refine gf_10_131 C dX10_restore_13 ?_
    refine g_icmp_eq C.c (tgt := 22) dX10_restore_16 (by decide) (fun c => ?_) (fun c => ?_)
    · replace h := ite_t c h
      refine g_iconst C.c dX10_restore_22 (v := (0 : Int32)) (by decide) ?_
      refine g_istore_n C.c (i := 1) (L' := [some (.ref (kad K 0)), some (.int (0 : Int32))]) dX10_restore_23 rfl (Nat.le_of_ble_eq_true rfl) rfl ?_
      refine g_mask [true, true] rfl ?_
      refine lp_bind (Gh := fun s => G K 24 [some (.ref (kad K 0)), some (.int s.1)] [] (Wd K layM s.2)) h (fun s o2 hf gI gE => ?_)
      refine bX10_restore_b24 C gI (fun t3 e => ?_) hf
      · have h := gE _ e
        refine g_iconst C.c dX10_restore_48 (v := (0 : Int32)) (by decide) ?_
        refine g_istore_n C.c (i := 1) (L' := [some (.ref (kad K 0)), some (.int (0 : Int32))]) dX10_restore_49 rfl (Nat.le_of_ble_eq_true rfl) rfl ?_
        refine g_mask [true, true] rfl ?_
        refine lp_bind (Gh := fun s => G K 50 [some (.ref (kad K 0)), some (.int s.1)] [] (Wd K layM s.2)) h (fun s o2 hf gI gE => ?_)
        refine bX10_restore_b50 C gI (fun t7 e => ?_) hf
        · have h := gE _ e
          refine g_aload_n C.c dX10_restore_74 rfl (i := 0) rfl ?_
          refine g_aload_n C.c dX10_restore_75 rfl (i := 0) rfl ?_
          refine gf_10_283 C dX10_restore_76 ?_
          refine pf_10_63 C dX10_restore_79 ?_
          refine g_aload_n C.c dX10_restore_82 rfl (i := 0) rfl ?_
          refine g_aload_n C.c dX10_restore_83 rfl (i := 0) rfl ?_
          refine gf_10_286 C dX10_restore_84 ?_
          refine pf_10_66 C dX10_restore_87 ?_
          refine g_aload_n C.c dX10_restore_90 rfl (i := 0) rfl ?_
          refine g_aload_n C.c dX10_restore_91 rfl (i := 0) rfl ?_
          refine gf_10_289 C dX10_restore_92 ?_
          refine pf_10_69 C dX10_restore_95 ?_
          refine g_aload_n C.c dX10_restore_98 rfl (i := 0) rfl ?_
          refine g_aload_n C.c dX10_restore_99 rfl (i := 0) rfl ?_
          refine gf_10_292 C dX10_restore_100 ?_
          refine pf_10_128 C dX10_restore_103 ?_
          refine g_aload_n C.c dX10_restore_106 rfl (i := 0) rfl ?_
          refine g_aload_n C.c dX10_restore_107 rfl (i := 0) rfl ?_
          refine gf_10_59 C dX10_restore_108 ?_
          refine pf_10_125 C dX10_restore_111 ?_
          refine g_aload_n C.c dX10_restore_114 rfl (i := 0) rfl ?_
          refine gf_10_125 C dX10_restore_115 ?_
          obtain rfl := Option.some.inj h
          exact g_iret C hQ dX10_restore_118 rfl ⟨rfl, rfl⟩
    · replace h := ite_f c h
      refine g_bipush C.c dX10_restore_19 (v := (-103 : Int32)) (by decide) ?_
      obtain rfl := Option.some.inj h
      exact g_iret C hQ dX10_restore_21 rfl ⟨rfl, rfl⟩
def fX10_restore (σ : Sg) : Option (Int32 × Sg) := fX10_restore_b0 σ
theorem ct_X10_restore {σ : Sg} {p : Int32 × Sg} (h : fX10_restore σ = some p) : Ct layM yX10_restore cX10_restore 2 (some .int) 1 (fun ad => [.ref (ad 0)]) σ (okI p) :=
 ct_of (L0 := fun ad => [some (.ref (ad 0)), none]) (by decide) (fun _ => Nat.le_of_ble_eq_true rfl) (fun _ => rfl) (fun K C hQ => g_mask [true, false] rfl (bX10_restore_b0 C hQ h))
-- X10_countOf
theorem dX10_countOf_0 : decode cX10_countOf 0 = .ok (.iload_n 1, 1) := by decide +kernel
theorem dX10_countOf_1 : decode cX10_countOf 1 = .ok (.tableswitch 101 0 8 #[51, 61, 66, 71, 76, 81, 86, 91, 96], 51) := by decide +kernel
theorem dX10_countOf_52 : decode cX10_countOf 52 = .ok (.aload_n 0, 1) := by decide +kernel
theorem dX10_countOf_53 : decode cX10_countOf 53 = .ok (.getfield 116, 3) := by decide +kernel
theorem dX10_countOf_56 : decode cX10_countOf 56 = .ok (.aload_n 0, 1) := by decide +kernel
theorem dX10_countOf_57 : decode cX10_countOf 57 = .ok (.getfield 119, 3) := by decide +kernel
theorem dX10_countOf_60 : decode cX10_countOf 60 = .ok (.imul, 1) := by decide +kernel
theorem dX10_countOf_61 : decode cX10_countOf 61 = .ok (.ireturn, 1) := by decide +kernel
theorem dX10_countOf_62 : decode cX10_countOf 62 = .ok (.aload_n 0, 1) := by decide +kernel
theorem dX10_countOf_63 : decode cX10_countOf 63 = .ok (.getfield 125, 3) := by decide +kernel
theorem dX10_countOf_66 : decode cX10_countOf 66 = .ok (.ireturn, 1) := by decide +kernel
theorem dX10_countOf_67 : decode cX10_countOf 67 = .ok (.aload_n 0, 1) := by decide +kernel
theorem dX10_countOf_68 : decode cX10_countOf 68 = .ok (.getfield 128, 3) := by decide +kernel
theorem dX10_countOf_71 : decode cX10_countOf 71 = .ok (.ireturn, 1) := by decide +kernel
theorem dX10_countOf_72 : decode cX10_countOf 72 = .ok (.aload_n 0, 1) := by decide +kernel
theorem dX10_countOf_73 : decode cX10_countOf 73 = .ok (.getfield 74, 3) := by decide +kernel
theorem dX10_countOf_76 : decode cX10_countOf 76 = .ok (.ireturn, 1) := by decide +kernel
theorem dX10_countOf_77 : decode cX10_countOf 77 = .ok (.aload_n 0, 1) := by decide +kernel
theorem dX10_countOf_78 : decode cX10_countOf 78 = .ok (.getfield 63, 3) := by decide +kernel
theorem dX10_countOf_81 : decode cX10_countOf 81 = .ok (.ireturn, 1) := by decide +kernel
theorem dX10_countOf_82 : decode cX10_countOf 82 = .ok (.aload_n 0, 1) := by decide +kernel
theorem dX10_countOf_83 : decode cX10_countOf 83 = .ok (.getfield 66, 3) := by decide +kernel
theorem dX10_countOf_86 : decode cX10_countOf 86 = .ok (.ireturn, 1) := by decide +kernel
theorem dX10_countOf_87 : decode cX10_countOf 87 = .ok (.aload_n 0, 1) := by decide +kernel
theorem dX10_countOf_88 : decode cX10_countOf 88 = .ok (.getfield 69, 3) := by decide +kernel
theorem dX10_countOf_91 : decode cX10_countOf 91 = .ok (.ireturn, 1) := by decide +kernel
theorem dX10_countOf_92 : decode cX10_countOf 92 = .ok (.aload_n 0, 1) := by decide +kernel
theorem dX10_countOf_93 : decode cX10_countOf 93 = .ok (.getfield 131, 3) := by decide +kernel
theorem dX10_countOf_96 : decode cX10_countOf 96 = .ok (.ireturn, 1) := by decide +kernel
theorem dX10_countOf_97 : decode cX10_countOf 97 = .ok (.aload_n 0, 1) := by decide +kernel
theorem dX10_countOf_98 : decode cX10_countOf 98 = .ok (.getfield 271, 3) := by decide +kernel
theorem dX10_countOf_101 : decode cX10_countOf 101 = .ok (.ireturn, 1) := by decide +kernel
theorem dX10_countOf_102 : decode cX10_countOf 102 = .ok (.bipush (-102), 2) := by decide +kernel
theorem dX10_countOf_104 : decode cX10_countOf 104 = .ok (.ireturn, 1) := by decide +kernel
theorem cw_X10_countOf : Cw yX10_countOf cX10_countOf 2 (some .int) 1 := ⟨aw_1165, aw_56, ⟨by decide, by decide⟩, by decide +kernel, by decide⟩
def fX10_countOf_b0 (x1 : Int32) (σ : Sg) : Option (Int32 × Sg) :=
  if x1 = (0 : Int32) then (some (((rI σ 0 9) * (rI σ 0 10)), σ)) else (if x1 = (1 : Int32) then (some ((rI σ 0 15), σ)) else (if x1 = (2 : Int32) then (some ((rI σ 0 20), σ)) else (if x1 = (3 : Int32) then (some ((rI σ 0 1), σ)) else (if x1 = (4 : Int32) then (some ((rI σ 0 17), σ)) else (if x1 = (5 : Int32) then (some ((rI σ 0 18), σ)) else (if x1 = (6 : Int32) then (some ((rI σ 0 19), σ)) else (if x1 = (7 : Int32) then (some ((rI σ 0 12), σ)) else (if x1 = (8 : Int32) then (some ((rI σ 0 40), σ)) else (some ((-102 : Int32), σ))))))))))
set_option maxRecDepth 4000 in
theorem bX10_countOf_b0 {K : KT} {x1 : Int32} {σ : Sg} {o : Int32 × Sg} (C : Cx K layM cX10_countOf RX10 2 (1) (some .int))  (hQ : Rk K layM (okI o)) (h : fX10_countOf_b0 x1 σ = some o) : G K 0 [some (.ref (kad K 0)), some (.int x1)] [] (Wd K layM σ) := by
  unfold fX10_countOf_b0 at h
  refine g_iload_n C.c dX10_countOf_0 rfl (i := 1) rfl ?_
  by_cases c0 : x1 = (0 : Int32)
  · replace h := ite_t c0 h
    refine g_tblIn C.c (tgt := 52) (off := 51) c0 dX10_countOf_1 (by decide) (by decide) (by decide) (by decide) ?_
    refine g_aload_n C.c dX10_countOf_52 rfl (i := 0) rfl ?_
    refine gf_10_116 C dX10_countOf_53 ?_
    refine g_aload_n C.c dX10_countOf_56 rfl (i := 0) rfl ?_
    refine gf_10_119 C dX10_countOf_57 ?_
    refine g_imul C.c dX10_countOf_60 ?_
    obtain rfl := Option.some.inj h
    exact g_iret C hQ dX10_countOf_61 rfl ⟨rfl, rfl⟩
  · replace h := ite_f c0 h
    by_cases c1 : x1 = (1 : Int32)
    · replace h := ite_t c1 h
      refine g_tblIn C.c (tgt := 62) (off := 61) c1 dX10_countOf_1 (by decide) (by decide) (by decide) (by decide) ?_
      refine g_aload_n C.c dX10_countOf_62 rfl (i := 0) rfl ?_
      refine gf_10_125 C dX10_countOf_63 ?_
      obtain rfl := Option.some.inj h
      exact g_iret C hQ dX10_countOf_66 rfl ⟨rfl, rfl⟩
    · replace h := ite_f c1 h
      by_cases c2 : x1 = (2 : Int32)
      · replace h := ite_t c2 h
        refine g_tblIn C.c (tgt := 67) (off := 66) c2 dX10_countOf_1 (by decide) (by decide) (by decide) (by decide) ?_
        refine g_aload_n C.c dX10_countOf_67 rfl (i := 0) rfl ?_
        refine gf_10_128 C dX10_countOf_68 ?_
        obtain rfl := Option.some.inj h
        exact g_iret C hQ dX10_countOf_71 rfl ⟨rfl, rfl⟩
      · replace h := ite_f c2 h
        by_cases c3 : x1 = (3 : Int32)
        · replace h := ite_t c3 h
          refine g_tblIn C.c (tgt := 72) (off := 71) c3 dX10_countOf_1 (by decide) (by decide) (by decide) (by decide) ?_
          refine g_aload_n C.c dX10_countOf_72 rfl (i := 0) rfl ?_
          refine gf_10_74 C dX10_countOf_73 ?_
          obtain rfl := Option.some.inj h
          exact g_iret C hQ dX10_countOf_76 rfl ⟨rfl, rfl⟩
        · replace h := ite_f c3 h
          by_cases c4 : x1 = (4 : Int32)
          · replace h := ite_t c4 h
            refine g_tblIn C.c (tgt := 77) (off := 76) c4 dX10_countOf_1 (by decide) (by decide) (by decide) (by decide) ?_
            refine g_aload_n C.c dX10_countOf_77 rfl (i := 0) rfl ?_
            refine gf_10_63 C dX10_countOf_78 ?_
            obtain rfl := Option.some.inj h
            exact g_iret C hQ dX10_countOf_81 rfl ⟨rfl, rfl⟩
          · replace h := ite_f c4 h
            by_cases c5 : x1 = (5 : Int32)
            · replace h := ite_t c5 h
              refine g_tblIn C.c (tgt := 82) (off := 81) c5 dX10_countOf_1 (by decide) (by decide) (by decide) (by decide) ?_
              refine g_aload_n C.c dX10_countOf_82 rfl (i := 0) rfl ?_
              refine gf_10_66 C dX10_countOf_83 ?_
              obtain rfl := Option.some.inj h
              exact g_iret C hQ dX10_countOf_86 rfl ⟨rfl, rfl⟩
            · replace h := ite_f c5 h
              by_cases c6 : x1 = (6 : Int32)
              · replace h := ite_t c6 h
                refine g_tblIn C.c (tgt := 87) (off := 86) c6 dX10_countOf_1 (by decide) (by decide) (by decide) (by decide) ?_
                refine g_aload_n C.c dX10_countOf_87 rfl (i := 0) rfl ?_
                refine gf_10_69 C dX10_countOf_88 ?_
                obtain rfl := Option.some.inj h
                exact g_iret C hQ dX10_countOf_91 rfl ⟨rfl, rfl⟩
              · replace h := ite_f c6 h
                by_cases c7 : x1 = (7 : Int32)
                · replace h := ite_t c7 h
                  refine g_tblIn C.c (tgt := 92) (off := 91) c7 dX10_countOf_1 (by decide) (by decide) (by decide) (by decide) ?_
                  refine g_aload_n C.c dX10_countOf_92 rfl (i := 0) rfl ?_
                  refine gf_10_131 C dX10_countOf_93 ?_
                  obtain rfl := Option.some.inj h
                  exact g_iret C hQ dX10_countOf_96 rfl ⟨rfl, rfl⟩
                · replace h := ite_f c7 h
                  by_cases c8 : x1 = (8 : Int32)
                  · replace h := ite_t c8 h
                    refine g_tblIn C.c (tgt := 97) (off := 96) c8 dX10_countOf_1 (by decide) (by decide) (by decide) (by decide) ?_
                    refine g_aload_n C.c dX10_countOf_97 rfl (i := 0) rfl ?_
                    refine gf_10_271 C dX10_countOf_98 ?_
                    obtain rfl := Option.some.inj h
                    exact g_iret C hQ dX10_countOf_101 rfl ⟨rfl, rfl⟩
                  · replace h := ite_f c8 h
                    refine g_tblOut C.c (tgt := 102) [(0 : Int32), (1 : Int32), (2 : Int32), (3 : Int32), (4 : Int32), (5 : Int32), (6 : Int32), (7 : Int32), (8 : Int32)] (by decide) ⟨c0, c1, c2, c3, c4, c5, c6, c7, c8, trivial⟩ dX10_countOf_1 (by decide) ?_
                    refine g_bipush C.c dX10_countOf_102 (v := (-102 : Int32)) (by decide) ?_
                    obtain rfl := Option.some.inj h
                    exact g_iret C hQ dX10_countOf_104 rfl ⟨rfl, rfl⟩
def fX10_countOf (a0 : Int32) (σ : Sg) : Option (Int32 × Sg) := fX10_countOf_b0 a0 σ
theorem ct_X10_countOf {a0 : Int32} {σ : Sg} {p : Int32 × Sg} (h : fX10_countOf a0 σ = some p) : Ct layM yX10_countOf cX10_countOf 2 (some .int) 1 (fun ad => [.ref (ad 0), .int a0]) σ (okI p) :=
 ct_of (L0 := fun ad => [some (.ref (ad 0)), some (.int a0)]) (by decide) (fun _ => Nat.le_of_ble_eq_true rfl) (fun _ => rfl) (fun K C hQ => g_mask [true, true] rfl (bX10_countOf_b0 C hQ h))
-- X10_count
theorem dX10_count_0 : decode cX10_count 0 = .ok (.aload_n 0, 1) := by decide +kernel
theorem dX10_count_1 : decode cX10_count 1 = .ok (.iload_n 1, 1) := by decide +kernel
theorem dX10_count_2 : decode cX10_count 2 = .ok (.invokevirtual 298, 3) := by decide +kernel
theorem dX10_count_5 : decode cX10_count 5 = .ok (.ireturn, 1) := by decide +kernel
theorem cw_X10_count : Cw yX10_count cX10_count 2 (some .int) 1 := ⟨aw_1161, aw_56, ⟨by decide, by decide⟩, by decide +kernel, by decide⟩
theorem kc_10_298 {K : KT} {cc : ByteArray} {nL d pc : Nat} {ret : Option FieldType} {L : List (Option Value)} {st : List Value} {σ : Sg} (C : Cx K layM cc RX10 nL d ret)  {a0 : Int32}  {p : Int32 × Sg} (hd : decode cc pc = .ok (.invokevirtual 298, 3)) (e : fX10_countOf a0 σ = some p) (hdd : 1 + 1 ≤ d) (hLn : L.length = nL) (hr : (st.map fun v => v.category).sum ≤ 8) (k : G K (pc + 3) L (.int p.1 :: st) (Wd K layM p.2)) : G K pc L (.int a0 :: .ref (kad K 0) :: st) (Wd K layM σ) :=
  g_callV C (As := [.int a0]) (rest := st) (o := 0) (ci := 10) hd (ct_X10_countOf e) cw_X10_countOf (Or.inl aw_1162) aw_1164 aw_42 rfl rfl rfl hdd hLn rfl rfl hr (fun v τ q => by obtain ⟨rfl, rfl⟩ := q; exact k)
def fX10_count_b0 (x1 : Int32) (σ : Sg) : Option (Int32 × Sg) :=
  Option.bind (fX10_countOf x1 σ) fun p1 => (some (p1.1, p1.2))
set_option maxRecDepth 4000 in
theorem bX10_count_b0 {K : KT} {x1 : Int32} {σ : Sg} {o : Int32 × Sg} (C : Cx K layM cX10_count RX10 2 (2) (some .int))  (hQ : Rk K layM (okI o)) (h : fX10_count_b0 x1 σ = some o) : G K 0 [some (.ref (kad K 0)), some (.int x1)] [] (Wd K layM σ) := by
  unfold fX10_count_b0 at h
  refine g_aload_n C.c dX10_count_0 rfl (i := 0) rfl ?_
  refine g_iload_n C.c dX10_count_1 rfl (i := 1) rfl ?_
  obtain ⟨p1, e2, h⟩ := Option.bind_eq_some_iff.mp h
  refine kc_10_298 C dX10_count_2 e2 (Nat.le_of_ble_eq_true rfl) rfl (Nat.le_of_ble_eq_true rfl) ?_
  obtain rfl := Option.some.inj h
  exact g_iret C hQ dX10_count_5 rfl ⟨rfl, rfl⟩
def fX10_count (a0 : Int32) (σ : Sg) : Option (Int32 × Sg) := fX10_count_b0 a0 σ
theorem ct_X10_count {a0 : Int32} {σ : Sg} {p : Int32 × Sg} (h : fX10_count a0 σ = some p) : Ct layM yX10_count cX10_count 2 (some .int) 2 (fun ad => [.ref (ad 0), .int a0]) σ (okI p) :=
 ct_of (L0 := fun ad => [some (.ref (ad 0)), some (.int a0)]) (by decide) (fun _ => Nat.le_of_ble_eq_true rfl) (fun _ => rfl) (fun K C hQ => g_mask [true, true] rfl (bX10_count_b0 C hQ h))
-- X10_say
theorem dX10_say_0 : decode cX10_say 0 = .ok (.aload_n 0, 1) := by decide +kernel
theorem dX10_say_1 : decode cX10_say 1 = .ok (.ldc2_w 301, 3) := by decide +kernel
theorem dX10_say_4 : decode cX10_say 4 = .ok (.aload_n 0, 1) := by decide +kernel
theorem dX10_say_5 : decode cX10_say 5 = .ok (.getfield 303, 3) := by decide +kernel
theorem dX10_say_8 : decode cX10_say 8 = .ok (.lmul, 1) := by decide +kernel
theorem dX10_say_9 : decode cX10_say 9 = .ok (.lload_n 1, 1) := by decide +kernel
theorem dX10_say_10 : decode cX10_say 10 = .ok (.ladd, 1) := by decide +kernel
theorem dX10_say_11 : decode cX10_say 11 = .ok (.putfield 303, 3) := by decide +kernel
theorem dX10_say_14 : decode cX10_say 14 = .ok (.return_, 1) := by decide +kernel
theorem cw_X10_say : Cw yX10_say cX10_say 3 none 1 := ⟨aw_1174, aw_56, ⟨by decide, by decide⟩, by decide +kernel, by decide⟩
theorem gf_10_303 {K : KT} {cc : ByteArray} {nL d pc : Nat} {ret : Option FieldType} {L : List (Option Value)} {st : List Value} {σ : Sg} (C : Cx K layM cc RX10 nL d ret)  (hd : decode cc pc = .ok (.getfield 303, 3)) (k : G K (pc + 3) L (.long (rJ σ 0 51) :: st) (Wd K layM σ)) : G K pc L (.ref (kad K 0) :: st) (Wd K layM σ) := g_get C (o := 0) (ci := 10) (k := 51) hd rfl rfl rfl (by decide) (Or.inl aw_840) inA10 rfl k
theorem pf_10_303 {K : KT} {cc : ByteArray} {nL d pc : Nat} {ret : Option FieldType} {L : List (Option Value)} {st : List Value} {σ : Sg} (C : Cx K layM cc RX10 nL d ret)  {v : Int64}  (hd : decode cc pc = .ok (.putfield 303, 3)) (k : G K (pc + 3) L st (Wd K layM (wJ σ 0 51 v))) : G K pc L (.long v :: .ref (kad K 0) :: st) (Wd K layM σ) := g_putJ C (o := 0) (ci := 10) (k := 51) hd rfl rfl rfl (by decide) (Or.inl aw_840) inA10 tyX10_ok nmX10 rfl rfl rfl k
def fX10_say_b0 (x1 : Int64) (σ : Sg) : Option (Sg) :=
  some (wJ σ 0 51 (((31 : Int64) * (rJ σ 0 51)) + x1))
set_option maxRecDepth 4000 in
theorem bX10_say_b0 {K : KT} {x1 : Int64} {σ : Sg} {o : Sg} (C : Cx K layM cX10_say RX10 3 (1) none)  (hQ : Rk K layM (okV o)) (h : fX10_say_b0 x1 σ = some o) : G K 0 [some (.ref (kad K 0)), some (.long x1), none] [] (Wd K layM σ) := by
  unfold fX10_say_b0 at h
  refine g_aload_n C.c dX10_say_0 rfl (i := 0) rfl ?_
  refine g_ldc2 C.c (v := (31 : Int64)) aw_1175 dX10_say_1 ?_
  refine g_aload_n C.c dX10_say_4 rfl (i := 0) rfl ?_
  refine gf_10_303 C dX10_say_5 ?_
  refine g_lmul C.c dX10_say_8 ?_
  refine g_lload_n C.c dX10_say_9 rfl (i := 1) rfl ?_
  refine g_ladd C.c dX10_say_10 ?_
  refine pf_10_303 C dX10_say_11 ?_
  obtain rfl := Option.some.inj h
  exact g_vret C hQ dX10_say_14 ⟨rfl, rfl⟩
def fX10_say (a0 : Int64) (σ : Sg) : Option (Sg) := fX10_say_b0 a0 σ
theorem ct_X10_say {a0 : Int64} {σ : Sg} {p : Sg} (h : fX10_say a0 σ = some p) : Ct layM yX10_say cX10_say 3 none 1 (fun ad => [.ref (ad 0), .long a0]) σ (okV p) :=
 ct_of (L0 := fun ad => [some (.ref (ad 0)), some (.long a0), none]) (by decide) (fun _ => Nat.le_of_ble_eq_true rfl) (fun _ => rfl) (fun K C hQ => g_mask [true, true, false] rfl (bX10_say_b0 C hQ h))
-- X10_sayBerg
theorem dX10_sayBerg_0 : decode cX10_sayBerg 0 = .ok (.iconst 0, 1) := by decide +kernel
theorem dX10_sayBerg_1 : decode cX10_sayBerg 1 = .ok (.istore_n 2, 1) := by decide +kernel
theorem dX10_sayBerg_2 : decode cX10_sayBerg 2 = .ok (.iload_n 2, 1) := by decide +kernel
theorem dX10_sayBerg_3 : decode cX10_sayBerg 3 = .ok (.iconst 5, 1) := by decide +kernel
theorem dX10_sayBerg_4 : decode cX10_sayBerg 4 = .ok (.if_icmp .ge 24, 3) := by decide +kernel
theorem dX10_sayBerg_7 : decode cX10_sayBerg 7 = .ok (.aload_n 0, 1) := by decide +kernel
theorem dX10_sayBerg_8 : decode cX10_sayBerg 8 = .ok (.aload_n 0, 1) := by decide +kernel
theorem dX10_sayBerg_9 : decode cX10_sayBerg 9 = .ok (.getfield 25, 3) := by decide +kernel
theorem dX10_sayBerg_12 : decode cX10_sayBerg 12 = .ok (.iconst 5, 1) := by decide +kernel
theorem dX10_sayBerg_13 : decode cX10_sayBerg 13 = .ok (.iload_n 1, 1) := by decide +kernel
theorem dX10_sayBerg_14 : decode cX10_sayBerg 14 = .ok (.imul, 1) := by decide +kernel
theorem dX10_sayBerg_15 : decode cX10_sayBerg 15 = .ok (.iload_n 2, 1) := by decide +kernel
theorem dX10_sayBerg_16 : decode cX10_sayBerg 16 = .ok (.iadd, 1) := by decide +kernel
theorem dX10_sayBerg_17 : decode cX10_sayBerg 17 = .ok (.iaload, 1) := by decide +kernel
theorem dX10_sayBerg_18 : decode cX10_sayBerg 18 = .ok (.i2l, 1) := by decide +kernel
theorem dX10_sayBerg_19 : decode cX10_sayBerg 19 = .ok (.invokevirtual 307, 3) := by decide +kernel
theorem dX10_sayBerg_22 : decode cX10_sayBerg 22 = .ok (.iinc 2 1, 3) := by decide +kernel
theorem dX10_sayBerg_25 : decode cX10_sayBerg 25 = .ok (.goto (-23), 3) := by decide +kernel
theorem dX10_sayBerg_28 : decode cX10_sayBerg 28 = .ok (.aload_n 0, 1) := by decide +kernel
theorem dX10_sayBerg_29 : decode cX10_sayBerg 29 = .ok (.aload_n 0, 1) := by decide +kernel
theorem dX10_sayBerg_30 : decode cX10_sayBerg 30 = .ok (.iload_n 1, 1) := by decide +kernel
theorem dX10_sayBerg_31 : decode cX10_sayBerg 31 = .ok (.invokevirtual 255, 3) := by decide +kernel
theorem dX10_sayBerg_34 : decode cX10_sayBerg 34 = .ok (.i2l, 1) := by decide +kernel
theorem dX10_sayBerg_35 : decode cX10_sayBerg 35 = .ok (.invokevirtual 307, 3) := by decide +kernel
theorem dX10_sayBerg_38 : decode cX10_sayBerg 38 = .ok (.iconst 0, 1) := by decide +kernel
theorem dX10_sayBerg_39 : decode cX10_sayBerg 39 = .ok (.istore_n 2, 1) := by decide +kernel
theorem dX10_sayBerg_40 : decode cX10_sayBerg 40 = .ok (.iload_n 2, 1) := by decide +kernel
theorem dX10_sayBerg_41 : decode cX10_sayBerg 41 = .ok (.iconst 4, 1) := by decide +kernel
theorem dX10_sayBerg_42 : decode cX10_sayBerg 42 = .ok (.if_icmp .ge 22, 3) := by decide +kernel
theorem dX10_sayBerg_45 : decode cX10_sayBerg 45 = .ok (.aload_n 0, 1) := by decide +kernel
theorem dX10_sayBerg_46 : decode cX10_sayBerg 46 = .ok (.aload_n 0, 1) := by decide +kernel
theorem dX10_sayBerg_47 : decode cX10_sayBerg 47 = .ok (.iload_n 1, 1) := by decide +kernel
theorem dX10_sayBerg_48 : decode cX10_sayBerg 48 = .ok (.iconst 3, 1) := by decide +kernel
theorem dX10_sayBerg_49 : decode cX10_sayBerg 49 = .ok (.iconst 0, 1) := by decide +kernel
theorem dX10_sayBerg_50 : decode cX10_sayBerg 50 = .ok (.iload_n 2, 1) := by decide +kernel
theorem dX10_sayBerg_51 : decode cX10_sayBerg 51 = .ok (.invokevirtual 250, 3) := by decide +kernel
theorem dX10_sayBerg_54 : decode cX10_sayBerg 54 = .ok (.i2l, 1) := by decide +kernel
theorem dX10_sayBerg_55 : decode cX10_sayBerg 55 = .ok (.invokevirtual 307, 3) := by decide +kernel
theorem dX10_sayBerg_58 : decode cX10_sayBerg 58 = .ok (.iinc 2 1, 3) := by decide +kernel
theorem dX10_sayBerg_61 : decode cX10_sayBerg 61 = .ok (.goto (-21), 3) := by decide +kernel
theorem dX10_sayBerg_64 : decode cX10_sayBerg 64 = .ok (.iconst 0, 1) := by decide +kernel
theorem dX10_sayBerg_65 : decode cX10_sayBerg 65 = .ok (.istore_n 2, 1) := by decide +kernel
theorem dX10_sayBerg_66 : decode cX10_sayBerg 66 = .ok (.iload_n 2, 1) := by decide +kernel
theorem dX10_sayBerg_67 : decode cX10_sayBerg 67 = .ok (.iconst 3, 1) := by decide +kernel
theorem dX10_sayBerg_68 : decode cX10_sayBerg 68 = .ok (.if_icmp .ge 20, 3) := by decide +kernel
theorem dX10_sayBerg_71 : decode cX10_sayBerg 71 = .ok (.aload_n 0, 1) := by decide +kernel
theorem dX10_sayBerg_72 : decode cX10_sayBerg 72 = .ok (.aload_n 0, 1) := by decide +kernel
theorem dX10_sayBerg_73 : decode cX10_sayBerg 73 = .ok (.iload_n 1, 1) := by decide +kernel
theorem dX10_sayBerg_74 : decode cX10_sayBerg 74 = .ok (.iload_n 2, 1) := by decide +kernel
theorem dX10_sayBerg_75 : decode cX10_sayBerg 75 = .ok (.invokevirtual 259, 3) := by decide +kernel
theorem dX10_sayBerg_78 : decode cX10_sayBerg 78 = .ok (.i2l, 1) := by decide +kernel
theorem dX10_sayBerg_79 : decode cX10_sayBerg 79 = .ok (.invokevirtual 307, 3) := by decide +kernel
theorem dX10_sayBerg_82 : decode cX10_sayBerg 82 = .ok (.iinc 2 1, 3) := by decide +kernel
theorem dX10_sayBerg_85 : decode cX10_sayBerg 85 = .ok (.goto (-19), 3) := by decide +kernel
theorem dX10_sayBerg_88 : decode cX10_sayBerg 88 = .ok (.return_, 1) := by decide +kernel
theorem cw_X10_sayBerg : Cw yX10_sayBerg cX10_sayBerg 3 none 1 := ⟨aw_1179, aw_56, ⟨by decide, by decide⟩, by decide +kernel, by decide⟩
theorem kc_10_307 {K : KT} {cc : ByteArray} {nL d pc : Nat} {ret : Option FieldType} {L : List (Option Value)} {st : List Value} {σ : Sg} (C : Cx K layM cc RX10 nL d ret)  {a0 : Int64}  {p : Sg} (hd : decode cc pc = .ok (.invokevirtual 307, 3)) (e : fX10_say a0 σ = some p) (hdd : 1 + 1 ≤ d) (hLn : L.length = nL) (hr : (st.map fun v => v.category).sum ≤ 8) (k : G K (pc + 3) L (st) (Wd K layM p)) : G K pc L (.long a0 :: .ref (kad K 0) :: st) (Wd K layM σ) :=
  g_callV C (As := [.long a0]) (rest := st) (o := 0) (ci := 10) hd (ct_X10_say e) cw_X10_say (Or.inl aw_1171) aw_1173 aw_43 rfl rfl rfl hdd hLn rfl rfl hr (fun v τ q => by obtain ⟨rfl, rfl⟩ := q; exact k)
def fX10_sayBerg_b2 (x1 : Int32) (x2 : Int32) (σ : Sg) : Option ((Int32 × Sg) ⊕ ((Sg))) :=
  if (5 : Int32) ≤ x2 then (some (.inr σ)) else (if inb (((5 : Int32) * x1) + x2) 25 = true then (Option.bind (fX10_say (((rI σ 6 ((((5 : Int32) * x1) + x2)).toNatClampNeg)).toInt64) σ) fun p2 => (some (.inl ((x2 + (1 : Int32)), p2)))) else none)
def fX10_sayBerg_b40 (x1 : Int32) (x2 : Int32) (σ : Sg) : Option ((Int32 × Sg) ⊕ ((Sg))) :=
  if (4 : Int32) ≤ x2 then (some (.inr σ)) else (Option.bind (fX10_tellTow x1 (3 : Int32) (0 : Int32) x2 σ) fun p10 => (Option.bind (fX10_say ((p10.1).toInt64) p10.2) fun p12 => (some (.inl ((x2 + (1 : Int32)), p12)))))
def fX10_sayBerg_b66 (x1 : Int32) (x2 : Int32) (σ : Sg) : Option ((Int32 × Sg) ⊕ ((Sg))) :=
  if (3 : Int32) ≤ x2 then (some (.inr σ)) else (Option.bind (fX10_tellBest x1 x2 σ) fun p16 => (Option.bind (fX10_say ((p16.1).toInt64) p16.2) fun p18 => (some (.inl ((x2 + (1 : Int32)), p18)))))
def fX10_sayBerg_b0 (x1 : Int32) (σ : Sg) : Option (Sg) :=
  Option.bind (lp (fun s => fX10_sayBerg_b2 x1 s.1 s.2) FU ((0 : Int32), σ)) fun t4 => Option.bind (fX10_waysOf x1 t4) fun p6 => (Option.bind (fX10_say ((p6.1).toInt64) p6.2) fun p8 => (Option.bind (lp (fun s => fX10_sayBerg_b40 x1 s.1 s.2) FU ((0 : Int32), p8)) fun t14 => Option.bind (lp (fun s => fX10_sayBerg_b66 x1 s.1 s.2) FU ((0 : Int32), t14)) fun t20 => some t20))
set_option maxRecDepth 4000 in
theorem bX10_sayBerg_b2 {K : KT} {x1 : Int32} {x2 : Int32} {σ : Sg} {o : (Int32 × Sg) ⊕ ((Sg))} (C : Cx K layM cX10_sayBerg RX10 3 (9) none)  (hI : ∀ s' : Int32 × Sg, o = .inl s' → G K 2 [some (.ref (kad K 0)), some (.int x1), some (.int s'.1)] [] (Wd K layM s'.2)) (hE0 : ∀ t : Sg, o = .inr t → G K 28 [some (.ref (kad K 0)), some (.int x1), none] [] (Wd K layM t)) (h : fX10_sayBerg_b2 x1 x2 σ = some o) : G K 2 [some (.ref (kad K 0)), some (.int x1), some (.int x2)] [] (Wd K layM σ) := by
  unfold fX10_sayBerg_b2 at h
  refine g_iload_n C.c dX10_sayBerg_2 rfl (i := 2) rfl ?_
  refine g_iconst C.c dX10_sayBerg_3 (v := (5 : Int32)) (by decide) ?_
  refine g_icmp_ge C.c (tgt := 28) dX10_sayBerg_4 (by decide) (fun c => ?_) (fun c => ?_)
  · replace h := ite_t c h
    have g9 := hE0 _ (Option.some.inj h).symm
    exact g_mask [true, true, false] rfl g9
  · replace h := ite_f c h
    refine g_aload_n C.c dX10_sayBerg_7 rfl (i := 0) rfl ?_
    refine g_aload_n C.c dX10_sayBerg_8 rfl (i := 0) rfl ?_
    refine gf_10_25 C dX10_sayBerg_9 ?_
    refine g_iconst C.c dX10_sayBerg_12 (v := (5 : Int32)) (by decide) ?_
    refine g_iload_n C.c dX10_sayBerg_13 rfl (i := 1) rfl ?_
    refine g_imul C.c dX10_sayBerg_14 ?_
    refine g_iload_n C.c dX10_sayBerg_15 rfl (i := 2) rfl ?_
    refine g_iadd C.c dX10_sayBerg_16 ?_
    obtain ⟨c1, h⟩ := chk h
    refine g_iald C dX10_sayBerg_17 rfl c1 ?_
    refine g_i2l C.c dX10_sayBerg_18 ?_
    obtain ⟨p2, e3, h⟩ := Option.bind_eq_some_iff.mp h
    refine kc_10_307 C dX10_sayBerg_19 e3 (Nat.le_of_ble_eq_true rfl) rfl (Nat.le_of_ble_eq_true rfl) ?_
    refine g_iinc C.c (i := 2) (y := (1 : Int32)) (L' := [some (.ref (kad K 0)), some (.int x1), some (.int (x2 + (1 : Int32)))]) dX10_sayBerg_22 rfl (by decide) (Nat.le_of_ble_eq_true rfl) rfl ?_
    refine g_goto C.c (tgt := 2) dX10_sayBerg_25 (by decide) ?_
    have g9 := hI _ (Option.some.inj h).symm
    exact g_mask [true, true, true] rfl g9
set_option maxRecDepth 4000 in
theorem bX10_sayBerg_b40 {K : KT} {x1 : Int32} {x2 : Int32} {σ : Sg} {o : (Int32 × Sg) ⊕ ((Sg))} (C : Cx K layM cX10_sayBerg RX10 3 (9) none)  (hI : ∀ s' : Int32 × Sg, o = .inl s' → G K 40 [some (.ref (kad K 0)), some (.int x1), some (.int s'.1)] [] (Wd K layM s'.2)) (hE0 : ∀ t : Sg, o = .inr t → G K 64 [some (.ref (kad K 0)), some (.int x1), none] [] (Wd K layM t)) (h : fX10_sayBerg_b40 x1 x2 σ = some o) : G K 40 [some (.ref (kad K 0)), some (.int x1), some (.int x2)] [] (Wd K layM σ) := by
  unfold fX10_sayBerg_b40 at h
  refine g_iload_n C.c dX10_sayBerg_40 rfl (i := 2) rfl ?_
  refine g_iconst C.c dX10_sayBerg_41 (v := (4 : Int32)) (by decide) ?_
  refine g_icmp_ge C.c (tgt := 64) dX10_sayBerg_42 (by decide) (fun c => ?_) (fun c => ?_)
  · replace h := ite_t c h
    have g9 := hE0 _ (Option.some.inj h).symm
    exact g_mask [true, true, false] rfl g9
  · replace h := ite_f c h
    refine g_aload_n C.c dX10_sayBerg_45 rfl (i := 0) rfl ?_
    refine g_aload_n C.c dX10_sayBerg_46 rfl (i := 0) rfl ?_
    refine g_iload_n C.c dX10_sayBerg_47 rfl (i := 1) rfl ?_
    refine g_iconst C.c dX10_sayBerg_48 (v := (3 : Int32)) (by decide) ?_
    refine g_iconst C.c dX10_sayBerg_49 (v := (0 : Int32)) (by decide) ?_
    refine g_iload_n C.c dX10_sayBerg_50 rfl (i := 2) rfl ?_
    obtain ⟨p10, e11, h⟩ := Option.bind_eq_some_iff.mp h
    refine kc_10_250 C dX10_sayBerg_51 e11 (Nat.le_of_ble_eq_true rfl) rfl (Nat.le_of_ble_eq_true rfl) ?_
    refine g_i2l C.c dX10_sayBerg_54 ?_
    obtain ⟨p12, e13, h⟩ := Option.bind_eq_some_iff.mp h
    refine kc_10_307 C dX10_sayBerg_55 e13 (Nat.le_of_ble_eq_true rfl) rfl (Nat.le_of_ble_eq_true rfl) ?_
    refine g_iinc C.c (i := 2) (y := (1 : Int32)) (L' := [some (.ref (kad K 0)), some (.int x1), some (.int (x2 + (1 : Int32)))]) dX10_sayBerg_58 rfl (by decide) (Nat.le_of_ble_eq_true rfl) rfl ?_
    refine g_goto C.c (tgt := 40) dX10_sayBerg_61 (by decide) ?_
    have g9 := hI _ (Option.some.inj h).symm
    exact g_mask [true, true, true] rfl g9
set_option maxRecDepth 4000 in
theorem bX10_sayBerg_b66 {K : KT} {x1 : Int32} {x2 : Int32} {σ : Sg} {o : (Int32 × Sg) ⊕ ((Sg))} (C : Cx K layM cX10_sayBerg RX10 3 (9) none)  (hI : ∀ s' : Int32 × Sg, o = .inl s' → G K 66 [some (.ref (kad K 0)), some (.int x1), some (.int s'.1)] [] (Wd K layM s'.2)) (hE0 : ∀ t : Sg, o = .inr t → G K 88 [none, none, none] [] (Wd K layM t)) (h : fX10_sayBerg_b66 x1 x2 σ = some o) : G K 66 [some (.ref (kad K 0)), some (.int x1), some (.int x2)] [] (Wd K layM σ) := by
  unfold fX10_sayBerg_b66 at h
  refine g_iload_n C.c dX10_sayBerg_66 rfl (i := 2) rfl ?_
  refine g_iconst C.c dX10_sayBerg_67 (v := (3 : Int32)) (by decide) ?_
  refine g_icmp_ge C.c (tgt := 88) dX10_sayBerg_68 (by decide) (fun c => ?_) (fun c => ?_)
  · replace h := ite_t c h
    have g9 := hE0 _ (Option.some.inj h).symm
    exact g_mask [false, false, false] rfl g9
  · replace h := ite_f c h
    refine g_aload_n C.c dX10_sayBerg_71 rfl (i := 0) rfl ?_
    refine g_aload_n C.c dX10_sayBerg_72 rfl (i := 0) rfl ?_
    refine g_iload_n C.c dX10_sayBerg_73 rfl (i := 1) rfl ?_
    refine g_iload_n C.c dX10_sayBerg_74 rfl (i := 2) rfl ?_
    obtain ⟨p16, e17, h⟩ := Option.bind_eq_some_iff.mp h
    refine kc_10_259 C dX10_sayBerg_75 e17 (Nat.le_of_ble_eq_true rfl) rfl (Nat.le_of_ble_eq_true rfl) ?_
    refine g_i2l C.c dX10_sayBerg_78 ?_
    obtain ⟨p18, e19, h⟩ := Option.bind_eq_some_iff.mp h
    refine kc_10_307 C dX10_sayBerg_79 e19 (Nat.le_of_ble_eq_true rfl) rfl (Nat.le_of_ble_eq_true rfl) ?_
    refine g_iinc C.c (i := 2) (y := (1 : Int32)) (L' := [some (.ref (kad K 0)), some (.int x1), some (.int (x2 + (1 : Int32)))]) dX10_sayBerg_82 rfl (by decide) (Nat.le_of_ble_eq_true rfl) rfl ?_
    refine g_goto C.c (tgt := 66) dX10_sayBerg_85 (by decide) ?_
    have g9 := hI _ (Option.some.inj h).symm
    exact g_mask [true, true, true] rfl g9
set_option maxRecDepth 4000 in
theorem bX10_sayBerg_b0 {K : KT} {x1 : Int32} {σ : Sg} {o : Sg} (C : Cx K layM cX10_sayBerg RX10 3 (9) none)  (hQ : Rk K layM (okV o)) (h : fX10_sayBerg_b0 x1 σ = some o) : G K 0 [some (.ref (kad K 0)), some (.int x1), none] [] (Wd K layM σ) := by
  unfold fX10_sayBerg_b0 at h
  refine g_iconst C.c dX10_sayBerg_0 (v := (0 : Int32)) (by decide) ?_
  refine g_istore_n C.c (i := 2) (L' := [some (.ref (kad K 0)), some (.int x1), some (.int (0 : Int32))]) dX10_sayBerg_1 rfl (Nat.le_of_ble_eq_true rfl) rfl ?_
  refine g_mask [true, true, true] rfl ?_
  refine lp_bind (Gh := fun s => G K 2 [some (.ref (kad K 0)), some (.int x1), some (.int s.1)] [] (Wd K layM s.2)) h (fun s o2 hf gI gE => ?_)
  refine bX10_sayBerg_b2 C gI (fun t4 e => ?_) hf
  · have h := gE _ e
    refine g_aload_n C.c dX10_sayBerg_28 rfl (i := 0) rfl ?_
    refine g_aload_n C.c dX10_sayBerg_29 rfl (i := 0) rfl ?_
    refine g_iload_n C.c dX10_sayBerg_30 rfl (i := 1) rfl ?_
    obtain ⟨p6, e7, h⟩ := Option.bind_eq_some_iff.mp h
    refine kc_10_255 C dX10_sayBerg_31 e7 (Nat.le_of_ble_eq_true rfl) rfl (Nat.le_of_ble_eq_true rfl) ?_
    refine g_i2l C.c dX10_sayBerg_34 ?_
    obtain ⟨p8, e9, h⟩ := Option.bind_eq_some_iff.mp h
    refine kc_10_307 C dX10_sayBerg_35 e9 (Nat.le_of_ble_eq_true rfl) rfl (Nat.le_of_ble_eq_true rfl) ?_
    refine g_iconst C.c dX10_sayBerg_38 (v := (0 : Int32)) (by decide) ?_
    refine g_istore_n C.c (i := 2) (L' := [some (.ref (kad K 0)), some (.int x1), some (.int (0 : Int32))]) dX10_sayBerg_39 rfl (Nat.le_of_ble_eq_true rfl) rfl ?_
    refine g_mask [true, true, true] rfl ?_
    refine lp_bind (Gh := fun s => G K 40 [some (.ref (kad K 0)), some (.int x1), some (.int s.1)] [] (Wd K layM s.2)) h (fun s o2 hf gI gE => ?_)
    refine bX10_sayBerg_b40 C gI (fun t14 e => ?_) hf
    · have h := gE _ e
      refine g_iconst C.c dX10_sayBerg_64 (v := (0 : Int32)) (by decide) ?_
      refine g_istore_n C.c (i := 2) (L' := [some (.ref (kad K 0)), some (.int x1), some (.int (0 : Int32))]) dX10_sayBerg_65 rfl (Nat.le_of_ble_eq_true rfl) rfl ?_
      refine g_mask [true, true, true] rfl ?_
      refine lp_bind (Gh := fun s => G K 66 [some (.ref (kad K 0)), some (.int x1), some (.int s.1)] [] (Wd K layM s.2)) h (fun s o2 hf gI gE => ?_)
      refine bX10_sayBerg_b66 C gI (fun t20 e => ?_) hf
      · have h := gE _ e
        obtain rfl := Option.some.inj h
        exact g_vret C hQ dX10_sayBerg_88 ⟨rfl, rfl⟩
def fX10_sayBerg (a0 : Int32) (σ : Sg) : Option (Sg) := fX10_sayBerg_b0 a0 σ
theorem ct_X10_sayBerg {a0 : Int32} {σ : Sg} {p : Sg} (h : fX10_sayBerg a0 σ = some p) : Ct layM yX10_sayBerg cX10_sayBerg 3 none 9 (fun ad => [.ref (ad 0), .int a0]) σ (okV p) :=
 ct_of (L0 := fun ad => [some (.ref (ad 0)), some (.int a0), none]) (by decide) (fun _ => Nat.le_of_ble_eq_true rfl) (fun _ => rfl) (fun K C hQ => g_mask [true, true, false] rfl (bX10_sayBerg_b0 C hQ h))
-- X10_digest
theorem dX10_digest_0 : decode cX10_digest 0 = .ok (.aload_n 0, 1) := by decide +kernel
theorem dX10_digest_1 : decode cX10_digest 1 = .ok (.ldc2_w 311, 3) := by decide +kernel
theorem dX10_digest_4 : decode cX10_digest 4 = .ok (.putfield 303, 3) := by decide +kernel
theorem dX10_digest_7 : decode cX10_digest 7 = .ok (.iconst 0, 1) := by decide +kernel
theorem dX10_digest_8 : decode cX10_digest 8 = .ok (.istore_n 1, 1) := by decide +kernel
theorem dX10_digest_9 : decode cX10_digest 9 = .ok (.iload_n 1, 1) := by decide +kernel
theorem dX10_digest_10 : decode cX10_digest 10 = .ok (.aload_n 0, 1) := by decide +kernel
theorem dX10_digest_11 : decode cX10_digest 11 = .ok (.getfield 116, 3) := by decide +kernel
theorem dX10_digest_14 : decode cX10_digest 14 = .ok (.aload_n 0, 1) := by decide +kernel
theorem dX10_digest_15 : decode cX10_digest 15 = .ok (.getfield 119, 3) := by decide +kernel
theorem dX10_digest_18 : decode cX10_digest 18 = .ok (.imul, 1) := by decide +kernel
theorem dX10_digest_19 : decode cX10_digest 19 = .ok (.if_icmp .ge 33, 3) := by decide +kernel
theorem dX10_digest_22 : decode cX10_digest 22 = .ok (.iconst 0, 1) := by decide +kernel
theorem dX10_digest_23 : decode cX10_digest 23 = .ok (.istore_n 2, 1) := by decide +kernel
theorem dX10_digest_24 : decode cX10_digest 24 = .ok (.iload_n 2, 1) := by decide +kernel
theorem dX10_digest_25 : decode cX10_digest 25 = .ok (.iconst 3, 1) := by decide +kernel
theorem dX10_digest_26 : decode cX10_digest 26 = .ok (.if_icmp .ge 20, 3) := by decide +kernel
theorem dX10_digest_29 : decode cX10_digest 29 = .ok (.aload_n 0, 1) := by decide +kernel
theorem dX10_digest_30 : decode cX10_digest 30 = .ok (.aload_n 0, 1) := by decide +kernel
theorem dX10_digest_31 : decode cX10_digest 31 = .ok (.iload_n 1, 1) := by decide +kernel
theorem dX10_digest_32 : decode cX10_digest 32 = .ok (.iload_n 2, 1) := by decide +kernel
theorem dX10_digest_33 : decode cX10_digest 33 = .ok (.invokevirtual 143, 3) := by decide +kernel
theorem dX10_digest_36 : decode cX10_digest 36 = .ok (.i2l, 1) := by decide +kernel
theorem dX10_digest_37 : decode cX10_digest 37 = .ok (.invokevirtual 307, 3) := by decide +kernel
theorem dX10_digest_40 : decode cX10_digest 40 = .ok (.iinc 2 1, 3) := by decide +kernel
theorem dX10_digest_43 : decode cX10_digest 43 = .ok (.goto (-19), 3) := by decide +kernel
theorem dX10_digest_46 : decode cX10_digest 46 = .ok (.iinc 1 1, 3) := by decide +kernel
theorem dX10_digest_49 : decode cX10_digest 49 = .ok (.goto (-40), 3) := by decide +kernel
theorem dX10_digest_52 : decode cX10_digest 52 = .ok (.iconst 0, 1) := by decide +kernel
theorem dX10_digest_53 : decode cX10_digest 53 = .ok (.istore_n 1, 1) := by decide +kernel
theorem dX10_digest_54 : decode cX10_digest 54 = .ok (.iload_n 1, 1) := by decide +kernel
theorem dX10_digest_55 : decode cX10_digest 55 = .ok (.aload_n 0, 1) := by decide +kernel
theorem dX10_digest_56 : decode cX10_digest 56 = .ok (.getfield 125, 3) := by decide +kernel
theorem dX10_digest_59 : decode cX10_digest 59 = .ok (.if_icmp .ge 14, 3) := by decide +kernel
theorem dX10_digest_62 : decode cX10_digest 62 = .ok (.aload_n 0, 1) := by decide +kernel
theorem dX10_digest_63 : decode cX10_digest 63 = .ok (.iload_n 1, 1) := by decide +kernel
theorem dX10_digest_64 : decode cX10_digest 64 = .ok (.invokevirtual 313, 3) := by decide +kernel
theorem dX10_digest_67 : decode cX10_digest 67 = .ok (.iinc 1 1, 3) := by decide +kernel
theorem dX10_digest_70 : decode cX10_digest 70 = .ok (.goto (-16), 3) := by decide +kernel
theorem dX10_digest_73 : decode cX10_digest 73 = .ok (.iconst 0, 1) := by decide +kernel
theorem dX10_digest_74 : decode cX10_digest 74 = .ok (.istore_n 1, 1) := by decide +kernel
theorem dX10_digest_75 : decode cX10_digest 75 = .ok (.iload_n 1, 1) := by decide +kernel
theorem dX10_digest_76 : decode cX10_digest 76 = .ok (.bipush 6, 2) := by decide +kernel
theorem dX10_digest_78 : decode cX10_digest 78 = .ok (.if_icmp .ge 27, 3) := by decide +kernel
theorem dX10_digest_81 : decode cX10_digest 81 = .ok (.aload_n 0, 1) := by decide +kernel
theorem dX10_digest_82 : decode cX10_digest 82 = .ok (.invokevirtual 262, 3) := by decide +kernel
theorem dX10_digest_85 : decode cX10_digest 85 = .ok (.ifCond .ne 20, 3) := by decide +kernel
theorem dX10_digest_88 : decode cX10_digest 88 = .ok (.aload_n 0, 1) := by decide +kernel
theorem dX10_digest_89 : decode cX10_digest 89 = .ok (.aload_n 0, 1) := by decide +kernel
theorem dX10_digest_90 : decode cX10_digest 90 = .ok (.iconst 5, 1) := by decide +kernel
theorem dX10_digest_91 : decode cX10_digest 91 = .ok (.iload_n 1, 1) := by decide +kernel
theorem dX10_digest_92 : decode cX10_digest 92 = .ok (.invokevirtual 268, 3) := by decide +kernel
theorem dX10_digest_95 : decode cX10_digest 95 = .ok (.i2l, 1) := by decide +kernel
theorem dX10_digest_96 : decode cX10_digest 96 = .ok (.invokevirtual 307, 3) := by decide +kernel
theorem dX10_digest_99 : decode cX10_digest 99 = .ok (.iinc 1 1, 3) := by decide +kernel
theorem dX10_digest_102 : decode cX10_digest 102 = .ok (.goto (-27), 3) := by decide +kernel
theorem dX10_digest_105 : decode cX10_digest 105 = .ok (.iconst 0, 1) := by decide +kernel
theorem dX10_digest_106 : decode cX10_digest 106 = .ok (.istore_n 1, 1) := by decide +kernel
theorem dX10_digest_107 : decode cX10_digest 107 = .ok (.iload_n 1, 1) := by decide +kernel
theorem dX10_digest_108 : decode cX10_digest 108 = .ok (.iconst 3, 1) := by decide +kernel
theorem dX10_digest_109 : decode cX10_digest 109 = .ok (.aload_n 0, 1) := by decide +kernel
theorem dX10_digest_110 : decode cX10_digest 110 = .ok (.getfield 128, 3) := by decide +kernel
theorem dX10_digest_113 : decode cX10_digest 113 = .ok (.imul, 1) := by decide +kernel
theorem dX10_digest_114 : decode cX10_digest 114 = .ok (.if_icmp .ge 20, 3) := by decide +kernel
theorem dX10_digest_117 : decode cX10_digest 117 = .ok (.aload_n 0, 1) := by decide +kernel
theorem dX10_digest_118 : decode cX10_digest 118 = .ok (.aload_n 0, 1) := by decide +kernel
theorem dX10_digest_119 : decode cX10_digest 119 = .ok (.getfield 28, 3) := by decide +kernel
theorem dX10_digest_122 : decode cX10_digest 122 = .ok (.iload_n 1, 1) := by decide +kernel
theorem dX10_digest_123 : decode cX10_digest 123 = .ok (.iaload, 1) := by decide +kernel
theorem dX10_digest_124 : decode cX10_digest 124 = .ok (.i2l, 1) := by decide +kernel
theorem dX10_digest_125 : decode cX10_digest 125 = .ok (.invokevirtual 307, 3) := by decide +kernel
theorem dX10_digest_128 : decode cX10_digest 128 = .ok (.iinc 1 1, 3) := by decide +kernel
theorem dX10_digest_131 : decode cX10_digest 131 = .ok (.goto (-24), 3) := by decide +kernel
theorem dX10_digest_134 : decode cX10_digest 134 = .ok (.iconst 0, 1) := by decide +kernel
theorem dX10_digest_135 : decode cX10_digest 135 = .ok (.istore_n 1, 1) := by decide +kernel
theorem dX10_digest_136 : decode cX10_digest 136 = .ok (.iload_n 1, 1) := by decide +kernel
theorem dX10_digest_137 : decode cX10_digest 137 = .ok (.aload_n 0, 1) := by decide +kernel
theorem dX10_digest_138 : decode cX10_digest 138 = .ok (.getfield 74, 3) := by decide +kernel
theorem dX10_digest_141 : decode cX10_digest 141 = .ok (.if_icmp .ge 20, 3) := by decide +kernel
theorem dX10_digest_144 : decode cX10_digest 144 = .ok (.aload_n 0, 1) := by decide +kernel
theorem dX10_digest_145 : decode cX10_digest 145 = .ok (.aload_n 0, 1) := by decide +kernel
theorem dX10_digest_146 : decode cX10_digest 146 = .ok (.getfield 7, 3) := by decide +kernel
theorem dX10_digest_149 : decode cX10_digest 149 = .ok (.iload_n 1, 1) := by decide +kernel
theorem dX10_digest_150 : decode cX10_digest 150 = .ok (.iaload, 1) := by decide +kernel
theorem dX10_digest_151 : decode cX10_digest 151 = .ok (.i2l, 1) := by decide +kernel
theorem dX10_digest_152 : decode cX10_digest 152 = .ok (.invokevirtual 307, 3) := by decide +kernel
theorem dX10_digest_155 : decode cX10_digest 155 = .ok (.iinc 1 1, 3) := by decide +kernel
theorem dX10_digest_158 : decode cX10_digest 158 = .ok (.goto (-22), 3) := by decide +kernel
theorem dX10_digest_161 : decode cX10_digest 161 = .ok (.iconst 0, 1) := by decide +kernel
theorem dX10_digest_162 : decode cX10_digest 162 = .ok (.istore_n 1, 1) := by decide +kernel
theorem dX10_digest_163 : decode cX10_digest 163 = .ok (.iload_n 1, 1) := by decide +kernel
theorem dX10_digest_164 : decode cX10_digest 164 = .ok (.bipush 9, 2) := by decide +kernel
theorem dX10_digest_166 : decode cX10_digest 166 = .ok (.if_icmp .ge 19, 3) := by decide +kernel
theorem dX10_digest_169 : decode cX10_digest 169 = .ok (.aload_n 0, 1) := by decide +kernel
theorem dX10_digest_170 : decode cX10_digest 170 = .ok (.aload_n 0, 1) := by decide +kernel
theorem dX10_digest_171 : decode cX10_digest 171 = .ok (.iload_n 1, 1) := by decide +kernel
theorem dX10_digest_172 : decode cX10_digest 172 = .ok (.invokevirtual 298, 3) := by decide +kernel
theorem dX10_digest_175 : decode cX10_digest 175 = .ok (.i2l, 1) := by decide +kernel
theorem dX10_digest_176 : decode cX10_digest 176 = .ok (.invokevirtual 307, 3) := by decide +kernel
theorem dX10_digest_179 : decode cX10_digest 179 = .ok (.iinc 1 1, 3) := by decide +kernel
theorem dX10_digest_182 : decode cX10_digest 182 = .ok (.goto (-19), 3) := by decide +kernel
theorem dX10_digest_185 : decode cX10_digest 185 = .ok (.aload_n 0, 1) := by decide +kernel
theorem dX10_digest_186 : decode cX10_digest 186 = .ok (.getfield 303, 3) := by decide +kernel
theorem dX10_digest_189 : decode cX10_digest 189 = .ok (.lreturn, 1) := by decide +kernel
theorem cw_X10_digest : Cw yX10_digest cX10_digest 3 (some .long) 0 := ⟨aw_1169, aw_56, ⟨by decide, by decide⟩, by decide +kernel, by decide⟩
theorem kc_10_313 {K : KT} {cc : ByteArray} {nL d pc : Nat} {ret : Option FieldType} {L : List (Option Value)} {st : List Value} {σ : Sg} (C : Cx K layM cc RX10 nL d ret)  {a0 : Int32}  {p : Sg} (hd : decode cc pc = .ok (.invokevirtual 313, 3)) (e : fX10_sayBerg a0 σ = some p) (hdd : 9 + 1 ≤ d) (hLn : L.length = nL) (hr : (st.map fun v => v.category).sum ≤ 8) (k : G K (pc + 3) L (st) (Wd K layM p)) : G K pc L (.int a0 :: .ref (kad K 0) :: st) (Wd K layM σ) :=
  g_callV C (As := [.int a0]) (rest := st) (o := 0) (ci := 10) hd (ct_X10_sayBerg e) cw_X10_sayBerg (Or.inl aw_1176) aw_1178 aw_44 rfl rfl rfl hdd hLn rfl rfl hr (fun v τ q => by obtain ⟨rfl, rfl⟩ := q; exact k)
def fX10_digest_b24 (x1 : Int32) (x2 : Int32) (σ : Sg) : Option ((Int32 × Sg) ⊕ ((Sg))) :=
  if (3 : Int32) ≤ x2 then (some (.inr σ)) else (Option.bind (fX10_tellSquare x1 x2 σ) fun p1 => (Option.bind (fX10_say ((p1.1).toInt64) p1.2) fun p3 => (some (.inl ((x2 + (1 : Int32)), p3)))))
def fX10_digest_b9 (x1 : Int32) (σ : Sg) : Option ((Int32 × Sg) ⊕ ((Sg))) :=
  if ((rI σ 0 9) * (rI σ 0 10)) ≤ x1 then (some (.inr σ)) else (Option.bind (lp (fun s => fX10_digest_b24 x1 s.1 s.2) FU ((0 : Int32), σ)) fun t5 => some (.inl ((x1 + (1 : Int32)), t5)))
def fX10_digest_b54 (x1 : Int32) (σ : Sg) : Option ((Int32 × Sg) ⊕ ((Sg))) :=
  if (rI σ 0 15) ≤ x1 then (some (.inr σ)) else (Option.bind (fX10_sayBerg x1 σ) fun p9 => (some (.inl ((x1 + (1 : Int32)), p9))))
def fX10_digest_b75 (x1 : Int32) (σ : Sg) : Option ((Int32 × Sg) ⊕ ((Sg))) :=
  if (6 : Int32) ≤ x1 then (some (.inr σ)) else (Option.bind (fX10_lacks σ) fun p13 => (if p13.1 = 0 then (Option.bind (fX10_seasonOf (5 : Int32) x1 p13.2) fun p15 => (Option.bind (fX10_say ((p15.1).toInt64) p15.2) fun p17 => (some (.inl ((x1 + (1 : Int32)), p17))))) else (some (.inr p13.2))))
def fX10_digest_b107 (x1 : Int32) (σ : Sg) : Option ((Int32 × Sg) ⊕ ((Sg))) :=
  if ((3 : Int32) * (rI σ 0 20)) ≤ x1 then (some (.inr σ)) else (if inb x1 30 = true then (Option.bind (fX10_say (((rI σ 7 (x1).toNatClampNeg)).toInt64) σ) fun p22 => (some (.inl ((x1 + (1 : Int32)), p22)))) else none)
def fX10_digest_b136 (x1 : Int32) (σ : Sg) : Option ((Int32 × Sg) ⊕ ((Sg))) :=
  if (rI σ 0 1) ≤ x1 then (some (.inr σ)) else (if inb x1 64 = true then (Option.bind (fX10_say (((rI σ 1 (x1).toNatClampNeg)).toInt64) σ) fun p27 => (some (.inl ((x1 + (1 : Int32)), p27)))) else none)
def fX10_digest_b163 (x1 : Int32) (σ : Sg) : Option ((Int32 × Sg) ⊕ ((Sg))) :=
  if (9 : Int32) ≤ x1 then (some (.inr σ)) else (Option.bind (fX10_countOf x1 σ) fun p31 => (Option.bind (fX10_say ((p31.1).toInt64) p31.2) fun p33 => (some (.inl ((x1 + (1 : Int32)), p33)))))
def fX10_digest_b0  (σ : Sg) : Option (Int64 × Sg) :=
  Option.bind (lp (fun s => fX10_digest_b9 s.1 s.2) FU ((0 : Int32), (wJ σ 0 51 (569 : Int64)))) fun t7 => Option.bind (lp (fun s => fX10_digest_b54 s.1 s.2) FU ((0 : Int32), t7)) fun t11 => Option.bind (lp (fun s => fX10_digest_b75 s.1 s.2) FU ((0 : Int32), t11)) fun t19 => Option.bind (lp (fun s => fX10_digest_b107 s.1 s.2) FU ((0 : Int32), t19)) fun t24 => Option.bind (lp (fun s => fX10_digest_b136 s.1 s.2) FU ((0 : Int32), t24)) fun t29 => Option.bind (lp (fun s => fX10_digest_b163 s.1 s.2) FU ((0 : Int32), t29)) fun t35 => some ((rJ t35 0 51), t35)
set_option maxRecDepth 4000 in
theorem bX10_digest_b24 {K : KT} {x1 : Int32} {x2 : Int32} {σ : Sg} {o : (Int32 × Sg) ⊕ ((Sg))} (C : Cx K layM cX10_digest RX10 3 (10) (some .long))  (hI : ∀ s' : Int32 × Sg, o = .inl s' → G K 24 [some (.ref (kad K 0)), some (.int x1), some (.int s'.1)] [] (Wd K layM s'.2)) (hE0 : ∀ t : Sg, o = .inr t → G K 46 [some (.ref (kad K 0)), some (.int x1), none] [] (Wd K layM t)) (h : fX10_digest_b24 x1 x2 σ = some o) : G K 24 [some (.ref (kad K 0)), some (.int x1), some (.int x2)] [] (Wd K layM σ) := by
  unfold fX10_digest_b24 at h
  refine g_iload_n C.c dX10_digest_24 rfl (i := 2) rfl ?_
  refine g_iconst C.c dX10_digest_25 (v := (3 : Int32)) (by decide) ?_
  refine g_icmp_ge C.c (tgt := 46) dX10_digest_26 (by decide) (fun c => ?_) (fun c => ?_)
  · replace h := ite_t c h
    have g9 := hE0 _ (Option.some.inj h).symm
    exact g_mask [true, true, false] rfl g9
  · replace h := ite_f c h
    refine g_aload_n C.c dX10_digest_29 rfl (i := 0) rfl ?_
    refine g_aload_n C.c dX10_digest_30 rfl (i := 0) rfl ?_
    refine g_iload_n C.c dX10_digest_31 rfl (i := 1) rfl ?_
    refine g_iload_n C.c dX10_digest_32 rfl (i := 2) rfl ?_
    obtain ⟨p1, e2, h⟩ := Option.bind_eq_some_iff.mp h
    refine kc_10_143 C dX10_digest_33 e2 (Nat.le_of_ble_eq_true rfl) rfl (Nat.le_of_ble_eq_true rfl) ?_
    refine g_i2l C.c dX10_digest_36 ?_
    obtain ⟨p3, e4, h⟩ := Option.bind_eq_some_iff.mp h
    refine kc_10_307 C dX10_digest_37 e4 (Nat.le_of_ble_eq_true rfl) rfl (Nat.le_of_ble_eq_true rfl) ?_
    refine g_iinc C.c (i := 2) (y := (1 : Int32)) (L' := [some (.ref (kad K 0)), some (.int x1), some (.int (x2 + (1 : Int32)))]) dX10_digest_40 rfl (by decide) (Nat.le_of_ble_eq_true rfl) rfl ?_
    refine g_goto C.c (tgt := 24) dX10_digest_43 (by decide) ?_
    have g9 := hI _ (Option.some.inj h).symm
    exact g_mask [true, true, true] rfl g9
set_option maxRecDepth 4000 in
theorem bX10_digest_b9 {K : KT} {x1 : Int32} {σ : Sg} {o : (Int32 × Sg) ⊕ ((Sg))} (C : Cx K layM cX10_digest RX10 3 (10) (some .long))  (hI : ∀ s' : Int32 × Sg, o = .inl s' → G K 9 [some (.ref (kad K 0)), some (.int s'.1), none] [] (Wd K layM s'.2)) (hE0 : ∀ t : Sg, o = .inr t → G K 52 [some (.ref (kad K 0)), none, none] [] (Wd K layM t)) (h : fX10_digest_b9 x1 σ = some o) : G K 9 [some (.ref (kad K 0)), some (.int x1), none] [] (Wd K layM σ) := by
  unfold fX10_digest_b9 at h
  refine g_iload_n C.c dX10_digest_9 rfl (i := 1) rfl ?_
  refine g_aload_n C.c dX10_digest_10 rfl (i := 0) rfl ?_
  refine gf_10_116 C dX10_digest_11 ?_
  refine g_aload_n C.c dX10_digest_14 rfl (i := 0) rfl ?_
  refine gf_10_119 C dX10_digest_15 ?_
  refine g_imul C.c dX10_digest_18 ?_
  refine g_icmp_ge C.c (tgt := 52) dX10_digest_19 (by decide) (fun c => ?_) (fun c => ?_)
  · replace h := ite_t c h
    have g9 := hE0 _ (Option.some.inj h).symm
    exact g_mask [true, false, false] rfl g9
  · replace h := ite_f c h
    refine g_iconst C.c dX10_digest_22 (v := (0 : Int32)) (by decide) ?_
    refine g_istore_n C.c (i := 2) (L' := [some (.ref (kad K 0)), some (.int x1), some (.int (0 : Int32))]) dX10_digest_23 rfl (Nat.le_of_ble_eq_true rfl) rfl ?_
    refine g_mask [true, true, true] rfl ?_
    refine lp_bind (Gh := fun s => G K 24 [some (.ref (kad K 0)), some (.int x1), some (.int s.1)] [] (Wd K layM s.2)) h (fun s o2 hf gI gE => ?_)
    refine bX10_digest_b24 C gI (fun t5 e => ?_) hf
    · have h := gE _ e
      refine g_iinc C.c (i := 1) (y := (1 : Int32)) (L' := [some (.ref (kad K 0)), some (.int (x1 + (1 : Int32))), none]) dX10_digest_46 rfl (by decide) (Nat.le_of_ble_eq_true rfl) rfl ?_
      refine g_goto C.c (tgt := 9) dX10_digest_49 (by decide) ?_
      have g9 := hI _ (Option.some.inj h).symm
      exact g_mask [true, true, false] rfl g9
set_option maxRecDepth 4000 in
theorem bX10_digest_b54 {K : KT} {x1 : Int32} {σ : Sg} {o : (Int32 × Sg) ⊕ ((Sg))} (C : Cx K layM cX10_digest RX10 3 (10) (some .long))  (hI : ∀ s' : Int32 × Sg, o = .inl s' → G K 54 [some (.ref (kad K 0)), some (.int s'.1), none] [] (Wd K layM s'.2)) (hE0 : ∀ t : Sg, o = .inr t → G K 73 [some (.ref (kad K 0)), none, none] [] (Wd K layM t)) (h : fX10_digest_b54 x1 σ = some o) : G K 54 [some (.ref (kad K 0)), some (.int x1), none] [] (Wd K layM σ) := by
  unfold fX10_digest_b54 at h
  refine g_iload_n C.c dX10_digest_54 rfl (i := 1) rfl ?_
  refine g_aload_n C.c dX10_digest_55 rfl (i := 0) rfl ?_
  refine gf_10_125 C dX10_digest_56 ?_
  refine g_icmp_ge C.c (tgt := 73) dX10_digest_59 (by decide) (fun c => ?_) (fun c => ?_)
  · replace h := ite_t c h
    have g9 := hE0 _ (Option.some.inj h).symm
    exact g_mask [true, false, false] rfl g9
  · replace h := ite_f c h
    refine g_aload_n C.c dX10_digest_62 rfl (i := 0) rfl ?_
    refine g_iload_n C.c dX10_digest_63 rfl (i := 1) rfl ?_
    obtain ⟨p9, e10, h⟩ := Option.bind_eq_some_iff.mp h
    refine kc_10_313 C dX10_digest_64 e10 (Nat.le_of_ble_eq_true rfl) rfl (Nat.le_of_ble_eq_true rfl) ?_
    refine g_iinc C.c (i := 1) (y := (1 : Int32)) (L' := [some (.ref (kad K 0)), some (.int (x1 + (1 : Int32))), none]) dX10_digest_67 rfl (by decide) (Nat.le_of_ble_eq_true rfl) rfl ?_
    refine g_goto C.c (tgt := 54) dX10_digest_70 (by decide) ?_
    have g9 := hI _ (Option.some.inj h).symm
    exact g_mask [true, true, false] rfl g9
set_option maxRecDepth 4000 in
theorem bX10_digest_b75 {K : KT} {x1 : Int32} {σ : Sg} {o : (Int32 × Sg) ⊕ ((Sg))} (C : Cx K layM cX10_digest RX10 3 (10) (some .long))  (hI : ∀ s' : Int32 × Sg, o = .inl s' → G K 75 [some (.ref (kad K 0)), some (.int s'.1), none] [] (Wd K layM s'.2)) (hE0 : ∀ t : Sg, o = .inr t → G K 105 [some (.ref (kad K 0)), none, none] [] (Wd K layM t)) (h : fX10_digest_b75 x1 σ = some o) : G K 75 [some (.ref (kad K 0)), some (.int x1), none] [] (Wd K layM σ) := by
  unfold fX10_digest_b75 at h
  refine g_iload_n C.c dX10_digest_75 rfl (i := 1) rfl ?_
  refine g_bipush C.c dX10_digest_76 (v := (6 : Int32)) (by decide) ?_
  refine g_icmp_ge C.c (tgt := 105) dX10_digest_78 (by decide) (fun c => ?_) (fun c => ?_)
  · replace h := ite_t c h
    have g9 := hE0 _ (Option.some.inj h).symm
    exact g_mask [true, false, false] rfl g9
  · replace h := ite_f c h
    refine g_aload_n C.c dX10_digest_81 rfl (i := 0) rfl ?_
    obtain ⟨p13, e14, h⟩ := Option.bind_eq_some_iff.mp h
    refine kc_10_262 C dX10_digest_82 e14 (Nat.le_of_ble_eq_true rfl) rfl (Nat.le_of_ble_eq_true rfl) ?_
    refine g_if_ne C.c (tgt := 105) dX10_digest_85 (by decide) (fun c => ?_) (fun c => ?_)
    · replace h := ite_f c h
      have g9 := hE0 _ (Option.some.inj h).symm
      exact g_mask [true, false, false] rfl g9
    · replace h := ite_t c h
      refine g_aload_n C.c dX10_digest_88 rfl (i := 0) rfl ?_
      refine g_aload_n C.c dX10_digest_89 rfl (i := 0) rfl ?_
      refine g_iconst C.c dX10_digest_90 (v := (5 : Int32)) (by decide) ?_
      refine g_iload_n C.c dX10_digest_91 rfl (i := 1) rfl ?_
      obtain ⟨p15, e16, h⟩ := Option.bind_eq_some_iff.mp h
      refine kc_10_268 C dX10_digest_92 e16 (Nat.le_of_ble_eq_true rfl) rfl (Nat.le_of_ble_eq_true rfl) ?_
      refine g_i2l C.c dX10_digest_95 ?_
      obtain ⟨p17, e18, h⟩ := Option.bind_eq_some_iff.mp h
      refine kc_10_307 C dX10_digest_96 e18 (Nat.le_of_ble_eq_true rfl) rfl (Nat.le_of_ble_eq_true rfl) ?_
      refine g_iinc C.c (i := 1) (y := (1 : Int32)) (L' := [some (.ref (kad K 0)), some (.int (x1 + (1 : Int32))), none]) dX10_digest_99 rfl (by decide) (Nat.le_of_ble_eq_true rfl) rfl ?_
      refine g_goto C.c (tgt := 75) dX10_digest_102 (by decide) ?_
      have g9 := hI _ (Option.some.inj h).symm
      exact g_mask [true, true, false] rfl g9
set_option maxRecDepth 4000 in
theorem bX10_digest_b107 {K : KT} {x1 : Int32} {σ : Sg} {o : (Int32 × Sg) ⊕ ((Sg))} (C : Cx K layM cX10_digest RX10 3 (10) (some .long))  (hI : ∀ s' : Int32 × Sg, o = .inl s' → G K 107 [some (.ref (kad K 0)), some (.int s'.1), none] [] (Wd K layM s'.2)) (hE0 : ∀ t : Sg, o = .inr t → G K 134 [some (.ref (kad K 0)), none, none] [] (Wd K layM t)) (h : fX10_digest_b107 x1 σ = some o) : G K 107 [some (.ref (kad K 0)), some (.int x1), none] [] (Wd K layM σ) := by
  unfold fX10_digest_b107 at h
  refine g_iload_n C.c dX10_digest_107 rfl (i := 1) rfl ?_
  refine g_iconst C.c dX10_digest_108 (v := (3 : Int32)) (by decide) ?_
  refine g_aload_n C.c dX10_digest_109 rfl (i := 0) rfl ?_
  refine gf_10_128 C dX10_digest_110 ?_
  refine g_imul C.c dX10_digest_113 ?_
  refine g_icmp_ge C.c (tgt := 134) dX10_digest_114 (by decide) (fun c => ?_) (fun c => ?_)
  · replace h := ite_t c h
    have g9 := hE0 _ (Option.some.inj h).symm
    exact g_mask [true, false, false] rfl g9
  · replace h := ite_f c h
    refine g_aload_n C.c dX10_digest_117 rfl (i := 0) rfl ?_
    refine g_aload_n C.c dX10_digest_118 rfl (i := 0) rfl ?_
    refine gf_10_28 C dX10_digest_119 ?_
    refine g_iload_n C.c dX10_digest_122 rfl (i := 1) rfl ?_
    obtain ⟨c21, h⟩ := chk h
    refine g_iald C dX10_digest_123 rfl c21 ?_
    refine g_i2l C.c dX10_digest_124 ?_
    obtain ⟨p22, e23, h⟩ := Option.bind_eq_some_iff.mp h
    refine kc_10_307 C dX10_digest_125 e23 (Nat.le_of_ble_eq_true rfl) rfl (Nat.le_of_ble_eq_true rfl) ?_
    refine g_iinc C.c (i := 1) (y := (1 : Int32)) (L' := [some (.ref (kad K 0)), some (.int (x1 + (1 : Int32))), none]) dX10_digest_128 rfl (by decide) (Nat.le_of_ble_eq_true rfl) rfl ?_
    refine g_goto C.c (tgt := 107) dX10_digest_131 (by decide) ?_
    have g9 := hI _ (Option.some.inj h).symm
    exact g_mask [true, true, false] rfl g9
set_option maxRecDepth 4000 in
theorem bX10_digest_b136 {K : KT} {x1 : Int32} {σ : Sg} {o : (Int32 × Sg) ⊕ ((Sg))} (C : Cx K layM cX10_digest RX10 3 (10) (some .long))  (hI : ∀ s' : Int32 × Sg, o = .inl s' → G K 136 [some (.ref (kad K 0)), some (.int s'.1), none] [] (Wd K layM s'.2)) (hE0 : ∀ t : Sg, o = .inr t → G K 161 [some (.ref (kad K 0)), none, none] [] (Wd K layM t)) (h : fX10_digest_b136 x1 σ = some o) : G K 136 [some (.ref (kad K 0)), some (.int x1), none] [] (Wd K layM σ) := by
  unfold fX10_digest_b136 at h
  refine g_iload_n C.c dX10_digest_136 rfl (i := 1) rfl ?_
  refine g_aload_n C.c dX10_digest_137 rfl (i := 0) rfl ?_
  refine gf_10_74 C dX10_digest_138 ?_
  refine g_icmp_ge C.c (tgt := 161) dX10_digest_141 (by decide) (fun c => ?_) (fun c => ?_)
  · replace h := ite_t c h
    have g9 := hE0 _ (Option.some.inj h).symm
    exact g_mask [true, false, false] rfl g9
  · replace h := ite_f c h
    refine g_aload_n C.c dX10_digest_144 rfl (i := 0) rfl ?_
    refine g_aload_n C.c dX10_digest_145 rfl (i := 0) rfl ?_
    refine gf_10_7 C dX10_digest_146 ?_
    refine g_iload_n C.c dX10_digest_149 rfl (i := 1) rfl ?_
    obtain ⟨c26, h⟩ := chk h
    refine g_iald C dX10_digest_150 rfl c26 ?_
    refine g_i2l C.c dX10_digest_151 ?_
    obtain ⟨p27, e28, h⟩ := Option.bind_eq_some_iff.mp h
    refine kc_10_307 C dX10_digest_152 e28 (Nat.le_of_ble_eq_true rfl) rfl (Nat.le_of_ble_eq_true rfl) ?_
    refine g_iinc C.c (i := 1) (y := (1 : Int32)) (L' := [some (.ref (kad K 0)), some (.int (x1 + (1 : Int32))), none]) dX10_digest_155 rfl (by decide) (Nat.le_of_ble_eq_true rfl) rfl ?_
    refine g_goto C.c (tgt := 136) dX10_digest_158 (by decide) ?_
    have g9 := hI _ (Option.some.inj h).symm
    exact g_mask [true, true, false] rfl g9
set_option maxRecDepth 4000 in
theorem bX10_digest_b163 {K : KT} {x1 : Int32} {σ : Sg} {o : (Int32 × Sg) ⊕ ((Sg))} (C : Cx K layM cX10_digest RX10 3 (10) (some .long))  (hI : ∀ s' : Int32 × Sg, o = .inl s' → G K 163 [some (.ref (kad K 0)), some (.int s'.1), none] [] (Wd K layM s'.2)) (hE0 : ∀ t : Sg, o = .inr t → G K 185 [some (.ref (kad K 0)), none, none] [] (Wd K layM t)) (h : fX10_digest_b163 x1 σ = some o) : G K 163 [some (.ref (kad K 0)), some (.int x1), none] [] (Wd K layM σ) := by
  unfold fX10_digest_b163 at h
  refine g_iload_n C.c dX10_digest_163 rfl (i := 1) rfl ?_
  refine g_bipush C.c dX10_digest_164 (v := (9 : Int32)) (by decide) ?_
  refine g_icmp_ge C.c (tgt := 185) dX10_digest_166 (by decide) (fun c => ?_) (fun c => ?_)
  · replace h := ite_t c h
    have g9 := hE0 _ (Option.some.inj h).symm
    exact g_mask [true, false, false] rfl g9
  · replace h := ite_f c h
    refine g_aload_n C.c dX10_digest_169 rfl (i := 0) rfl ?_
    refine g_aload_n C.c dX10_digest_170 rfl (i := 0) rfl ?_
    refine g_iload_n C.c dX10_digest_171 rfl (i := 1) rfl ?_
    obtain ⟨p31, e32, h⟩ := Option.bind_eq_some_iff.mp h
    refine kc_10_298 C dX10_digest_172 e32 (Nat.le_of_ble_eq_true rfl) rfl (Nat.le_of_ble_eq_true rfl) ?_
    refine g_i2l C.c dX10_digest_175 ?_
    obtain ⟨p33, e34, h⟩ := Option.bind_eq_some_iff.mp h
    refine kc_10_307 C dX10_digest_176 e34 (Nat.le_of_ble_eq_true rfl) rfl (Nat.le_of_ble_eq_true rfl) ?_
    refine g_iinc C.c (i := 1) (y := (1 : Int32)) (L' := [some (.ref (kad K 0)), some (.int (x1 + (1 : Int32))), none]) dX10_digest_179 rfl (by decide) (Nat.le_of_ble_eq_true rfl) rfl ?_
    refine g_goto C.c (tgt := 163) dX10_digest_182 (by decide) ?_
    have g9 := hI _ (Option.some.inj h).symm
    exact g_mask [true, true, false] rfl g9
set_option maxRecDepth 4000 in
theorem bX10_digest_b0 {K : KT}  {σ : Sg} {o : Int64 × Sg} (C : Cx K layM cX10_digest RX10 3 (10) (some .long))  (hQ : Rk K layM (okJ o)) (h : fX10_digest_b0  σ = some o) : G K 0 [some (.ref (kad K 0)), none, none] [] (Wd K layM σ) := by
  unfold fX10_digest_b0 at h
  refine g_aload_n C.c dX10_digest_0 rfl (i := 0) rfl ?_
  refine g_ldc2 C.c (v := (569 : Int64)) aw_1170 dX10_digest_1 ?_
  refine pf_10_303 C dX10_digest_4 ?_
  refine g_iconst C.c dX10_digest_7 (v := (0 : Int32)) (by decide) ?_
  refine g_istore_n C.c (i := 1) (L' := [some (.ref (kad K 0)), some (.int (0 : Int32)), none]) dX10_digest_8 rfl (Nat.le_of_ble_eq_true rfl) rfl ?_
  refine g_mask [true, true, false] rfl ?_
  refine lp_bind (Gh := fun s => G K 9 [some (.ref (kad K 0)), some (.int s.1), none] [] (Wd K layM s.2)) h (fun s o2 hf gI gE => ?_)
  refine bX10_digest_b9 C gI (fun t7 e => ?_) hf
  · have h := gE _ e
    refine g_iconst C.c dX10_digest_52 (v := (0 : Int32)) (by decide) ?_
    refine g_istore_n C.c (i := 1) (L' := [some (.ref (kad K 0)), some (.int (0 : Int32)), none]) dX10_digest_53 rfl (Nat.le_of_ble_eq_true rfl) rfl ?_
    refine g_mask [true, true, false] rfl ?_
    refine lp_bind (Gh := fun s => G K 54 [some (.ref (kad K 0)), some (.int s.1), none] [] (Wd K layM s.2)) h (fun s o2 hf gI gE => ?_)
    refine bX10_digest_b54 C gI (fun t11 e => ?_) hf
    · have h := gE _ e
      refine g_iconst C.c dX10_digest_73 (v := (0 : Int32)) (by decide) ?_
      refine g_istore_n C.c (i := 1) (L' := [some (.ref (kad K 0)), some (.int (0 : Int32)), none]) dX10_digest_74 rfl (Nat.le_of_ble_eq_true rfl) rfl ?_
      refine g_mask [true, true, false] rfl ?_
      refine lp_bind (Gh := fun s => G K 75 [some (.ref (kad K 0)), some (.int s.1), none] [] (Wd K layM s.2)) h (fun s o2 hf gI gE => ?_)
      refine bX10_digest_b75 C gI (fun t19 e => ?_) hf
      · have h := gE _ e
        refine g_iconst C.c dX10_digest_105 (v := (0 : Int32)) (by decide) ?_
        refine g_istore_n C.c (i := 1) (L' := [some (.ref (kad K 0)), some (.int (0 : Int32)), none]) dX10_digest_106 rfl (Nat.le_of_ble_eq_true rfl) rfl ?_
        refine g_mask [true, true, false] rfl ?_
        refine lp_bind (Gh := fun s => G K 107 [some (.ref (kad K 0)), some (.int s.1), none] [] (Wd K layM s.2)) h (fun s o2 hf gI gE => ?_)
        refine bX10_digest_b107 C gI (fun t24 e => ?_) hf
        · have h := gE _ e
          refine g_iconst C.c dX10_digest_134 (v := (0 : Int32)) (by decide) ?_
          refine g_istore_n C.c (i := 1) (L' := [some (.ref (kad K 0)), some (.int (0 : Int32)), none]) dX10_digest_135 rfl (Nat.le_of_ble_eq_true rfl) rfl ?_
          refine g_mask [true, true, false] rfl ?_
          refine lp_bind (Gh := fun s => G K 136 [some (.ref (kad K 0)), some (.int s.1), none] [] (Wd K layM s.2)) h (fun s o2 hf gI gE => ?_)
          refine bX10_digest_b136 C gI (fun t29 e => ?_) hf
          · have h := gE _ e
            refine g_iconst C.c dX10_digest_161 (v := (0 : Int32)) (by decide) ?_
            refine g_istore_n C.c (i := 1) (L' := [some (.ref (kad K 0)), some (.int (0 : Int32)), none]) dX10_digest_162 rfl (Nat.le_of_ble_eq_true rfl) rfl ?_
            refine g_mask [true, true, false] rfl ?_
            refine lp_bind (Gh := fun s => G K 163 [some (.ref (kad K 0)), some (.int s.1), none] [] (Wd K layM s.2)) h (fun s o2 hf gI gE => ?_)
            refine bX10_digest_b163 C gI (fun t35 e => ?_) hf
            · have h := gE _ e
              refine g_aload_n C.c dX10_digest_185 rfl (i := 0) rfl ?_
              refine gf_10_303 C dX10_digest_186 ?_
              obtain rfl := Option.some.inj h
              exact g_lret C hQ dX10_digest_189 ⟨rfl, rfl⟩
def fX10_digest (σ : Sg) : Option (Int64 × Sg) := fX10_digest_b0 σ
theorem ct_X10_digest {σ : Sg} {p : Int64 × Sg} (h : fX10_digest σ = some p) : Ct layM yX10_digest cX10_digest 3 (some .long) 10 (fun ad => [.ref (ad 0)]) σ (okJ p) :=
 ct_of (L0 := fun ad => [some (.ref (ad 0)), none, none]) (by decide) (fun _ => Nat.le_of_ble_eq_true rfl) (fun _ => rfl) (fun K C hQ => g_mask [true, false, false] rfl (bX10_digest_b0 C hQ h))
