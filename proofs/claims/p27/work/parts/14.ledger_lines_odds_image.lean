-- X3_tugsOf
theorem dX3_tugsOf_0 : decode cX3_tugsOf 0 = .ok (.iload_n 0, 1) := by decide +kernel
theorem dX3_tugsOf_1 : decode cX3_tugsOf 1 = .ok (.iconst 2, 1) := by decide +kernel
theorem dX3_tugsOf_2 : decode cX3_tugsOf 2 = .ok (.idiv, 1) := by decide +kernel
theorem dX3_tugsOf_3 : decode cX3_tugsOf 3 = .ok (.ireturn, 1) := by decide +kernel
theorem cw_X3_tugsOf : Cw yX3_tugsOf cX3_tugsOf 1 (some .int) 1 := ⟨aw_559, aw_27, ⟨by decide, by decide⟩, by decide +kernel, by decide⟩
def fX3_tugsOf_b0 (x0 : Int32) (σ : Sg) : Option (Int32 × Sg) :=
  some ((x0 / (2 : Int32)), σ)
set_option maxRecDepth 4000 in
theorem bX3_tugsOf_b0 {K : KT} {x0 : Int32} {σ : Sg} {o : Int32 × Sg} (C : Cx K layC cX3_tugsOf RX3 1 (1) (some .int))  (hQ : Rk K layC (okI o)) (h : fX3_tugsOf_b0 x0 σ = some o) : G K 0 [some (.int x0)] [] (Wd K layC σ) := by
  unfold fX3_tugsOf_b0 at h
  refine g_iload_n C.c dX3_tugsOf_0 rfl (i := 0) rfl ?_
  refine g_iconst C.c dX3_tugsOf_1 (v := (2 : Int32)) (by decide) ?_
  refine g_idiv C.c dX3_tugsOf_2 (by decide) ?_
  obtain rfl := Option.some.inj h
  exact g_iret C hQ dX3_tugsOf_3 rfl ⟨rfl, rfl⟩
def fX3_tugsOf (a0 : Int32) (σ : Sg) : Option (Int32 × Sg) := fX3_tugsOf_b0 a0 σ
theorem ct_X3_tugsOf {a0 : Int32} {σ : Sg} {p : Int32 × Sg} (h : fX3_tugsOf a0 σ = some p) : Ct layC yX3_tugsOf cX3_tugsOf 1 (some .int) 1 (fun ad => [.int a0]) σ (okI p) :=
 ct_of (L0 := fun ad => [some (.int a0)]) (by decide) (fun _ => Nat.le_of_ble_eq_true rfl) (fun _ => rfl) (fun K C hQ => g_mask [true] rfl (bX3_tugsOf_b0 C hQ h))
-- X3_hasSkirt
theorem dX3_hasSkirt_0 : decode cX3_hasSkirt 0 = .ok (.iload_n 0, 1) := by decide +kernel
theorem dX3_hasSkirt_1 : decode cX3_hasSkirt 1 = .ok (.iconst 2, 1) := by decide +kernel
theorem dX3_hasSkirt_2 : decode cX3_hasSkirt 2 = .ok (.irem, 1) := by decide +kernel
theorem dX3_hasSkirt_3 : decode cX3_hasSkirt 3 = .ok (.iconst 1, 1) := by decide +kernel
theorem dX3_hasSkirt_4 : decode cX3_hasSkirt 4 = .ok (.if_icmp .ne 7, 3) := by decide +kernel
theorem dX3_hasSkirt_7 : decode cX3_hasSkirt 7 = .ok (.iconst 1, 1) := by decide +kernel
theorem dX3_hasSkirt_8 : decode cX3_hasSkirt 8 = .ok (.goto 4, 3) := by decide +kernel
theorem dX3_hasSkirt_11 : decode cX3_hasSkirt 11 = .ok (.iconst 0, 1) := by decide +kernel
theorem dX3_hasSkirt_12 : decode cX3_hasSkirt 12 = .ok (.ireturn, 1) := by decide +kernel
theorem cw_X3_hasSkirt : Cw yX3_hasSkirt cX3_hasSkirt 1 (some .boolean) 1 := ⟨aw_562, aw_27, ⟨by decide, by decide⟩, by decide +kernel, by decide⟩
def fX3_hasSkirt_b0 (x0 : Int32) (σ : Sg) : Option (Int32 × Sg) :=
  if (x0 - x0 / (2 : Int32) * (2 : Int32)) = (1 : Int32) then (some ((1 : Int32), σ)) else (some ((0 : Int32), σ))
set_option maxRecDepth 4000 in
theorem bX3_hasSkirt_b0 {K : KT} {x0 : Int32} {σ : Sg} {o : Int32 × Sg} (C : Cx K layC cX3_hasSkirt RX3 1 (1) (some .boolean))  (hQ : Rk K layC (okI o)) (h : fX3_hasSkirt_b0 x0 σ = some o) : G K 0 [some (.int x0)] [] (Wd K layC σ) := by
  unfold fX3_hasSkirt_b0 at h
  refine g_iload_n C.c dX3_hasSkirt_0 rfl (i := 0) rfl ?_
  refine g_iconst C.c dX3_hasSkirt_1 (v := (2 : Int32)) (by decide) ?_
  refine g_irem C.c dX3_hasSkirt_2 (by decide) ?_
  refine g_iconst C.c dX3_hasSkirt_3 (v := (1 : Int32)) (by decide) ?_
  refine g_icmp_ne C.c (tgt := 11) dX3_hasSkirt_4 (by decide) (fun c => ?_) (fun c => ?_)
  · replace h := ite_f c h
    refine g_iconst C.c dX3_hasSkirt_11 (v := (0 : Int32)) (by decide) ?_
    obtain rfl := Option.some.inj h
    exact g_iret C hQ dX3_hasSkirt_12 rfl ⟨rfl, rfl⟩
  · replace h := ite_t c h
    refine g_iconst C.c dX3_hasSkirt_7 (v := (1 : Int32)) (by decide) ?_
    refine g_goto C.c (tgt := 12) dX3_hasSkirt_8 (by decide) ?_
    obtain rfl := Option.some.inj h
    exact g_iret C hQ dX3_hasSkirt_12 rfl ⟨rfl, rfl⟩
def fX3_hasSkirt (a0 : Int32) (σ : Sg) : Option (Int32 × Sg) := fX3_hasSkirt_b0 a0 σ
theorem ct_X3_hasSkirt {a0 : Int32} {σ : Sg} {p : Int32 × Sg} (h : fX3_hasSkirt a0 σ = some p) : Ct layC yX3_hasSkirt cX3_hasSkirt 1 (some .boolean) 1 (fun ad => [.int a0]) σ (okI p) :=
 ct_of (L0 := fun ad => [some (.int a0)]) (by decide) (fun _ => Nat.le_of_ble_eq_true rfl) (fun _ => rfl) (fun K C hQ => g_mask [true] rfl (bX3_hasSkirt_b0 C hQ h))
-- X3_forget
theorem dX3_forget_0 : decode cX3_forget 0 = .ok (.aload_n 0, 1) := by decide +kernel
theorem dX3_forget_1 : decode cX3_forget 1 = .ok (.getfield 16, 3) := by decide +kernel
theorem dX3_forget_4 : decode cX3_forget 4 = .ok (.iload_n 1, 1) := by decide +kernel
theorem dX3_forget_5 : decode cX3_forget 5 = .ok (.iconst 0, 1) := by decide +kernel
theorem dX3_forget_6 : decode cX3_forget 6 = .ok (.bastore, 1) := by decide +kernel
theorem dX3_forget_7 : decode cX3_forget 7 = .ok (.return_, 1) := by decide +kernel
theorem cw_X3_forget : Cw yX3_forget cX3_forget 2 none 1 := ⟨aw_458, aw_27, ⟨by decide, by decide⟩, by decide +kernel, by decide⟩
theorem gf_3_16 {K : KT} {cc : ByteArray} {nL d pc : Nat} {ret : Option FieldType} {L : List (Option Value)} {st : List Value} {σ : Sg} (C : Cx K layC cc RX3 nL d ret)  (hd : decode cc pc = .ok (.getfield 16, 3)) (k : G K (pc + 3) L (.ref (kad K 65) :: st) (Wd K layC σ)) : G K pc L (.ref (kad K 58) :: st) (Wd K layC σ) := g_get C (o := 58) (ci := 3) (k := 1) hd rfl rfl rfl (by decide) (Or.inl aw_273) inA3 rfl k
def fX3_forget_b0 (x1 : Int32) (σ : Sg) : Option (Sg) :=
  if inb x1 5 = true then (some (wI σ 65 (x1).toNatClampNeg (0 : Int32))) else none
set_option maxRecDepth 4000 in
theorem bX3_forget_b0 {K : KT} {x1 : Int32} {σ : Sg} {o : Sg} (C : Cx K layC cX3_forget RX3 2 (1) none)  (hQ : Rk K layC (okV o)) (h : fX3_forget_b0 x1 σ = some o) : G K 0 [some (.ref (kad K 58)), some (.int x1)] [] (Wd K layC σ) := by
  unfold fX3_forget_b0 at h
  refine g_aload_n C.c dX3_forget_0 rfl (i := 0) rfl ?_
  refine gf_3_16 C dX3_forget_1 ?_
  refine g_iload_n C.c dX3_forget_4 rfl (i := 1) rfl ?_
  refine g_iconst C.c dX3_forget_5 (v := (0 : Int32)) (by decide) ?_
  obtain ⟨c1, h⟩ := chk h
  refine g_zast C dX3_forget_6 rfl c1 (by decide) ?_
  obtain rfl := Option.some.inj h
  exact g_vret C hQ dX3_forget_7 ⟨rfl, rfl⟩
def fX3_forget (a0 : Int32) (σ : Sg) : Option (Sg) := fX3_forget_b0 a0 σ
theorem ct_X3_forget {a0 : Int32} {σ : Sg} {p : Sg} (h : fX3_forget a0 σ = some p) : Ct layC yX3_forget cX3_forget 2 none 1 (fun ad => [.ref (ad 58), .int a0]) σ (okV p) :=
 ct_of (L0 := fun ad => [some (.ref (ad 58)), some (.int a0)]) (by decide) (fun _ => Nat.le_of_ble_eq_true rfl) (fun _ => rfl) (fun K C hQ => g_mask [true, true] rfl (bX3_forget_b0 C hQ h))
-- X3_forgetAll
theorem dX3_forgetAll_0 : decode cX3_forgetAll 0 = .ok (.iconst 0, 1) := by decide +kernel
theorem dX3_forgetAll_1 : decode cX3_forgetAll 1 = .ok (.istore_n 1, 1) := by decide +kernel
theorem dX3_forgetAll_2 : decode cX3_forgetAll 2 = .ok (.iload_n 1, 1) := by decide +kernel
theorem dX3_forgetAll_3 : decode cX3_forgetAll 3 = .ok (.iconst 5, 1) := by decide +kernel
theorem dX3_forgetAll_4 : decode cX3_forgetAll 4 = .ok (.if_icmp .ge 16, 3) := by decide +kernel
theorem dX3_forgetAll_7 : decode cX3_forgetAll 7 = .ok (.aload_n 0, 1) := by decide +kernel
theorem dX3_forgetAll_8 : decode cX3_forgetAll 8 = .ok (.getfield 16, 3) := by decide +kernel
theorem dX3_forgetAll_11 : decode cX3_forgetAll 11 = .ok (.iload_n 1, 1) := by decide +kernel
theorem dX3_forgetAll_12 : decode cX3_forgetAll 12 = .ok (.iconst 0, 1) := by decide +kernel
theorem dX3_forgetAll_13 : decode cX3_forgetAll 13 = .ok (.bastore, 1) := by decide +kernel
theorem dX3_forgetAll_14 : decode cX3_forgetAll 14 = .ok (.iinc 1 1, 3) := by decide +kernel
theorem dX3_forgetAll_17 : decode cX3_forgetAll 17 = .ok (.goto (-15), 3) := by decide +kernel
theorem dX3_forgetAll_20 : decode cX3_forgetAll 20 = .ok (.return_, 1) := by decide +kernel
theorem cw_X3_forgetAll : Cw yX3_forgetAll cX3_forgetAll 2 none 0 := ⟨aw_474, aw_27, ⟨by decide, by decide⟩, by decide +kernel, by decide⟩
def fX3_forgetAll_b2 (x1 : Int32) (σ : Sg) : Option ((Int32 × Sg) ⊕ ((Sg))) :=
  if (5 : Int32) ≤ x1 then (some (.inr σ)) else (if inb x1 5 = true then (some (.inl ((x1 + (1 : Int32)), (wI σ 65 (x1).toNatClampNeg (0 : Int32))))) else none)
def fX3_forgetAll_b0  (σ : Sg) : Option (Sg) :=
  Option.bind (lp (fun s => fX3_forgetAll_b2 s.1 s.2) FU ((0 : Int32), σ)) fun t2 => some t2
set_option maxRecDepth 4000 in
theorem bX3_forgetAll_b2 {K : KT} {x1 : Int32} {σ : Sg} {o : (Int32 × Sg) ⊕ ((Sg))} (C : Cx K layC cX3_forgetAll RX3 2 (1) none)  (hI : ∀ s' : Int32 × Sg, o = .inl s' → G K 2 [some (.ref (kad K 58)), some (.int s'.1)] [] (Wd K layC s'.2)) (hE0 : ∀ t : Sg, o = .inr t → G K 20 [none, none] [] (Wd K layC t)) (h : fX3_forgetAll_b2 x1 σ = some o) : G K 2 [some (.ref (kad K 58)), some (.int x1)] [] (Wd K layC σ) := by
  unfold fX3_forgetAll_b2 at h
  refine g_iload_n C.c dX3_forgetAll_2 rfl (i := 1) rfl ?_
  refine g_iconst C.c dX3_forgetAll_3 (v := (5 : Int32)) (by decide) ?_
  refine g_icmp_ge C.c (tgt := 20) dX3_forgetAll_4 (by decide) (fun c => ?_) (fun c => ?_)
  · replace h := ite_t c h
    have g9 := hE0 _ (Option.some.inj h).symm
    exact g_mask [false, false] rfl g9
  · replace h := ite_f c h
    refine g_aload_n C.c dX3_forgetAll_7 rfl (i := 0) rfl ?_
    refine gf_3_16 C dX3_forgetAll_8 ?_
    refine g_iload_n C.c dX3_forgetAll_11 rfl (i := 1) rfl ?_
    refine g_iconst C.c dX3_forgetAll_12 (v := (0 : Int32)) (by decide) ?_
    obtain ⟨c1, h⟩ := chk h
    refine g_zast C dX3_forgetAll_13 rfl c1 (by decide) ?_
    refine g_iinc C.c (i := 1) (y := (1 : Int32)) (L' := [some (.ref (kad K 58)), some (.int (x1 + (1 : Int32)))]) dX3_forgetAll_14 rfl (by decide) (Nat.le_of_ble_eq_true rfl) rfl ?_
    refine g_goto C.c (tgt := 2) dX3_forgetAll_17 (by decide) ?_
    have g9 := hI _ (Option.some.inj h).symm
    exact g_mask [true, true] rfl g9
set_option maxRecDepth 4000 in
theorem bX3_forgetAll_b0 {K : KT}  {σ : Sg} {o : Sg} (C : Cx K layC cX3_forgetAll RX3 2 (1) none)  (hQ : Rk K layC (okV o)) (h : fX3_forgetAll_b0  σ = some o) : G K 0 [some (.ref (kad K 58)), none] [] (Wd K layC σ) := by
  unfold fX3_forgetAll_b0 at h
  refine g_iconst C.c dX3_forgetAll_0 (v := (0 : Int32)) (by decide) ?_
  refine g_istore_n C.c (i := 1) (L' := [some (.ref (kad K 58)), some (.int (0 : Int32))]) dX3_forgetAll_1 rfl (Nat.le_of_ble_eq_true rfl) rfl ?_
  refine g_mask [true, true] rfl ?_
  refine lp_bind (Gh := fun s => G K 2 [some (.ref (kad K 58)), some (.int s.1)] [] (Wd K layC s.2)) h (fun s o2 hf gI gE => ?_)
  refine bX3_forgetAll_b2 C gI (fun t2 e => ?_) hf
  · have h := gE _ e
    obtain rfl := Option.some.inj h
    exact g_vret C hQ dX3_forgetAll_20 ⟨rfl, rfl⟩
def fX3_forgetAll (σ : Sg) : Option (Sg) := fX3_forgetAll_b0 σ
theorem ct_X3_forgetAll {σ : Sg} {p : Sg} (h : fX3_forgetAll σ = some p) : Ct layC yX3_forgetAll cX3_forgetAll 2 none 1 (fun ad => [.ref (ad 58)]) σ (okV p) :=
 ct_of (L0 := fun ad => [some (.ref (ad 58)), none]) (by decide) (fun _ => Nat.le_of_ble_eq_true rfl) (fun _ => rfl) (fun K C hQ => g_mask [true, false] rfl (bX3_forgetAll_b0 C hQ h))
-- X3_bestEntry
theorem dX3_bestEntry_0 : decode cX3_bestEntry 0 = .ok (.iconst 2, 1) := by decide +kernel
theorem dX3_bestEntry_1 : decode cX3_bestEntry 1 = .ok (.istore_n 2, 1) := by decide +kernel
theorem dX3_bestEntry_2 : decode cX3_bestEntry 2 = .ok (.iconst 2, 1) := by decide +kernel
theorem dX3_bestEntry_3 : decode cX3_bestEntry 3 = .ok (.istore_n 3, 1) := by decide +kernel
theorem dX3_bestEntry_4 : decode cX3_bestEntry 4 = .ok (.iload_n 3, 1) := by decide +kernel
theorem dX3_bestEntry_5 : decode cX3_bestEntry 5 = .ok (.bipush 24, 2) := by decide +kernel
theorem dX3_bestEntry_7 : decode cX3_bestEntry 7 = .ok (.if_icmp .ge 34, 3) := by decide +kernel
theorem dX3_bestEntry_10 : decode cX3_bestEntry 10 = .ok (.aload_n 0, 1) := by decide +kernel
theorem dX3_bestEntry_11 : decode cX3_bestEntry 11 = .ok (.getfield 13, 3) := by decide +kernel
theorem dX3_bestEntry_14 : decode cX3_bestEntry 14 = .ok (.iload_n 1, 1) := by decide +kernel
theorem dX3_bestEntry_15 : decode cX3_bestEntry 15 = .ok (.aaload, 1) := by decide +kernel
theorem dX3_bestEntry_16 : decode cX3_bestEntry 16 = .ok (.iload_n 3, 1) := by decide +kernel
theorem dX3_bestEntry_17 : decode cX3_bestEntry 17 = .ok (.iaload, 1) := by decide +kernel
theorem dX3_bestEntry_18 : decode cX3_bestEntry 18 = .ok (.aload_n 0, 1) := by decide +kernel
theorem dX3_bestEntry_19 : decode cX3_bestEntry 19 = .ok (.getfield 13, 3) := by decide +kernel
theorem dX3_bestEntry_22 : decode cX3_bestEntry 22 = .ok (.iload_n 1, 1) := by decide +kernel
theorem dX3_bestEntry_23 : decode cX3_bestEntry 23 = .ok (.aaload, 1) := by decide +kernel
theorem dX3_bestEntry_24 : decode cX3_bestEntry 24 = .ok (.iload_n 2, 1) := by decide +kernel
theorem dX3_bestEntry_25 : decode cX3_bestEntry 25 = .ok (.iaload, 1) := by decide +kernel
theorem dX3_bestEntry_26 : decode cX3_bestEntry 26 = .ok (.if_icmp .le 7, 3) := by decide +kernel
theorem dX3_bestEntry_29 : decode cX3_bestEntry 29 = .ok (.iload_n 3, 1) := by decide +kernel
theorem dX3_bestEntry_30 : decode cX3_bestEntry 30 = .ok (.goto 4, 3) := by decide +kernel
theorem dX3_bestEntry_33 : decode cX3_bestEntry 33 = .ok (.iload_n 2, 1) := by decide +kernel
theorem dX3_bestEntry_34 : decode cX3_bestEntry 34 = .ok (.istore_n 2, 1) := by decide +kernel
theorem dX3_bestEntry_35 : decode cX3_bestEntry 35 = .ok (.iinc 3 1, 3) := by decide +kernel
theorem dX3_bestEntry_38 : decode cX3_bestEntry 38 = .ok (.goto (-34), 3) := by decide +kernel
theorem dX3_bestEntry_41 : decode cX3_bestEntry 41 = .ok (.iload_n 2, 1) := by decide +kernel
theorem dX3_bestEntry_42 : decode cX3_bestEntry 42 = .ok (.ireturn, 1) := by decide +kernel
theorem cw_X3_bestEntry : Cw yX3_bestEntry cX3_bestEntry 4 (some .int) 1 := ⟨aw_566, aw_27, ⟨by decide, by decide⟩, by decide +kernel, by decide⟩
theorem gf_3_13 {K : KT} {cc : ByteArray} {nL d pc : Nat} {ret : Option FieldType} {L : List (Option Value)} {st : List Value} {σ : Sg} (C : Cx K layC cc RX3 nL d ret)  (hd : decode cc pc = .ok (.getfield 13, 3)) (k : G K (pc + 3) L (.ref (kad K 59) :: st) (Wd K layC σ)) : G K pc L (.ref (kad K 58) :: st) (Wd K layC σ) := g_get C (o := 58) (ci := 3) (k := 0) hd rfl rfl rfl (by decide) (Or.inl aw_271) inA3 rfl k
def fX3_bestEntry_b34 (x1 : Int32) (x3 : Int32) (y0 : Int32) (σ : Sg) : Option ((Int32 × Int32 × Sg) ⊕ ((Int32 × Sg))) :=
  some (.inl (y0, (x3 + (1 : Int32)), σ))
def fX3_bestEntry_b4 (x1 : Int32) (x2 : Int32) (x3 : Int32) (σ : Sg) : Option ((Int32 × Int32 × Sg) ⊕ ((Int32 × Sg))) :=
  if (24 : Int32) ≤ x3 then (some (.inr (x2, σ))) else (if inb x1 5 = true then (if inb x3 24 = true then (if inb x1 5 = true then (if inb x2 24 = true then (if (rI σ (60 + (x1).toNatClampNeg) (x3).toNatClampNeg) ≤ (rI σ (60 + (x1).toNatClampNeg) (x2).toNatClampNeg) then (fX3_bestEntry_b34 x1 x3 x2 σ) else (fX3_bestEntry_b34 x1 x3 x3 σ)) else none) else none) else none) else none)
def fX3_bestEntry_b0 (x1 : Int32) (σ : Sg) : Option (Int32 × Sg) :=
  Option.bind (lp (fun s => fX3_bestEntry_b4 x1 s.1 s.2.1 s.2.2) FU ((2 : Int32), (2 : Int32), σ)) fun t7 => some (t7.1, t7.2)
set_option maxRecDepth 4000 in
theorem bX3_bestEntry_b34 {K : KT} {x1 : Int32} {x3 : Int32} {y0 : Int32} {σ : Sg} {o : (Int32 × Int32 × Sg) ⊕ ((Int32 × Sg))} (C : Cx K layC cX3_bestEntry RX3 4 (1) (some .int))  (hI : ∀ s' : Int32 × Int32 × Sg, o = .inl s' → G K 4 [some (.ref (kad K 58)), some (.int x1), some (.int s'.1), some (.int s'.2.1)] [] (Wd K layC s'.2.2)) (hE0 : ∀ t : Int32 × Sg, o = .inr t → G K 41 [none, none, some (.int t.1), none] [] (Wd K layC t.2)) (h : fX3_bestEntry_b34 x1 x3 y0 σ = some o) : G K 34 [some (.ref (kad K 58)), some (.int x1), none, some (.int x3)] [.int y0] (Wd K layC σ) := by
  unfold fX3_bestEntry_b34 at h
  refine g_istore_n C.c (i := 2) (L' := [some (.ref (kad K 58)), some (.int x1), some (.int y0), some (.int x3)]) dX3_bestEntry_34 rfl (Nat.le_of_ble_eq_true rfl) rfl ?_
  refine g_iinc C.c (i := 3) (y := (1 : Int32)) (L' := [some (.ref (kad K 58)), some (.int x1), some (.int y0), some (.int (x3 + (1 : Int32)))]) dX3_bestEntry_35 rfl (by decide) (Nat.le_of_ble_eq_true rfl) rfl ?_
  refine g_goto C.c (tgt := 4) dX3_bestEntry_38 (by decide) ?_
  have g9 := hI _ (Option.some.inj h).symm
  exact g_mask [true, true, true, true] rfl g9
set_option maxRecDepth 4000 in
theorem bX3_bestEntry_b4 {K : KT} {x1 : Int32} {x2 : Int32} {x3 : Int32} {σ : Sg} {o : (Int32 × Int32 × Sg) ⊕ ((Int32 × Sg))} (C : Cx K layC cX3_bestEntry RX3 4 (1) (some .int))  (hI : ∀ s' : Int32 × Int32 × Sg, o = .inl s' → G K 4 [some (.ref (kad K 58)), some (.int x1), some (.int s'.1), some (.int s'.2.1)] [] (Wd K layC s'.2.2)) (hE0 : ∀ t : Int32 × Sg, o = .inr t → G K 41 [none, none, some (.int t.1), none] [] (Wd K layC t.2)) (h : fX3_bestEntry_b4 x1 x2 x3 σ = some o) : G K 4 [some (.ref (kad K 58)), some (.int x1), some (.int x2), some (.int x3)] [] (Wd K layC σ) := by
  unfold fX3_bestEntry_b4 at h
  refine g_iload_n C.c dX3_bestEntry_4 rfl (i := 3) rfl ?_
  refine g_bipush C.c dX3_bestEntry_5 (v := (24 : Int32)) (by decide) ?_
  refine g_icmp_ge C.c (tgt := 41) dX3_bestEntry_7 (by decide) (fun c => ?_) (fun c => ?_)
  · replace h := ite_t c h
    have g9 := hE0 _ (Option.some.inj h).symm
    exact g_mask [false, false, true, false] rfl g9
  · replace h := ite_f c h
    refine g_aload_n C.c dX3_bestEntry_10 rfl (i := 0) rfl ?_
    refine gf_3_13 C dX3_bestEntry_11 ?_
    refine g_iload_n C.c dX3_bestEntry_14 rfl (i := 1) rfl ?_
    obtain ⟨c1, h⟩ := chk h
    have hs2 := rw_59 (inb_lt c1)
    refine g_aald5 C (b := 60) dX3_bestEntry_15 rfl c1 rfl rfl ?_
    refine g_iload_n C.c dX3_bestEntry_16 rfl (i := 3) rfl ?_
    obtain ⟨c3, h⟩ := chk h
    refine g_iald C dX3_bestEntry_17 hs2 c3 ?_
    refine g_aload_n C.c dX3_bestEntry_18 rfl (i := 0) rfl ?_
    refine gf_3_13 C dX3_bestEntry_19 ?_
    refine g_iload_n C.c dX3_bestEntry_22 rfl (i := 1) rfl ?_
    obtain ⟨c4, h⟩ := chk h
    have hs5 := rw_59 (inb_lt c4)
    refine g_aald5 C (b := 60) dX3_bestEntry_23 rfl c4 rfl rfl ?_
    refine g_iload_n C.c dX3_bestEntry_24 rfl (i := 2) rfl ?_
    obtain ⟨c6, h⟩ := chk h
    refine g_iald C dX3_bestEntry_25 hs5 c6 ?_
    refine g_icmp_le C.c (tgt := 33) dX3_bestEntry_26 (by decide) (fun c => ?_) (fun c => ?_)
    · replace h := ite_t c h
      refine g_iload_n C.c dX3_bestEntry_33 rfl (i := 2) rfl ?_
      exact g_mask [true, true, false, true] rfl (bX3_bestEntry_b34 C hI hE0 h)
    · replace h := ite_f c h
      refine g_iload_n C.c dX3_bestEntry_29 rfl (i := 3) rfl ?_
      refine g_goto C.c (tgt := 34) dX3_bestEntry_30 (by decide) ?_
      exact g_mask [true, true, false, true] rfl (bX3_bestEntry_b34 C hI hE0 h)
set_option maxRecDepth 4000 in
theorem bX3_bestEntry_b0 {K : KT} {x1 : Int32} {σ : Sg} {o : Int32 × Sg} (C : Cx K layC cX3_bestEntry RX3 4 (1) (some .int))  (hQ : Rk K layC (okI o)) (h : fX3_bestEntry_b0 x1 σ = some o) : G K 0 [some (.ref (kad K 58)), some (.int x1), none, none] [] (Wd K layC σ) := by
  unfold fX3_bestEntry_b0 at h
  refine g_iconst C.c dX3_bestEntry_0 (v := (2 : Int32)) (by decide) ?_
  refine g_istore_n C.c (i := 2) (L' := [some (.ref (kad K 58)), some (.int x1), some (.int (2 : Int32)), none]) dX3_bestEntry_1 rfl (Nat.le_of_ble_eq_true rfl) rfl ?_
  refine g_iconst C.c dX3_bestEntry_2 (v := (2 : Int32)) (by decide) ?_
  refine g_istore_n C.c (i := 3) (L' := [some (.ref (kad K 58)), some (.int x1), some (.int (2 : Int32)), some (.int (2 : Int32))]) dX3_bestEntry_3 rfl (Nat.le_of_ble_eq_true rfl) rfl ?_
  refine g_mask [true, true, true, true] rfl ?_
  refine lp_bind (Gh := fun s => G K 4 [some (.ref (kad K 58)), some (.int x1), some (.int s.1), some (.int s.2.1)] [] (Wd K layC s.2.2)) h (fun s o2 hf gI gE => ?_)
  refine bX3_bestEntry_b4 C gI (fun t7 e => ?_) hf
  · have h := gE _ e
    refine g_iload_n C.c dX3_bestEntry_41 rfl (i := 2) rfl ?_
    obtain rfl := Option.some.inj h
    exact g_iret C hQ dX3_bestEntry_42 rfl ⟨rfl, rfl⟩
def fX3_bestEntry (a0 : Int32) (σ : Sg) : Option (Int32 × Sg) := fX3_bestEntry_b0 a0 σ
theorem ct_X3_bestEntry {a0 : Int32} {σ : Sg} {p : Int32 × Sg} (h : fX3_bestEntry a0 σ = some p) : Ct layC yX3_bestEntry cX3_bestEntry 4 (some .int) 1 (fun ad => [.ref (ad 58), .int a0]) σ (okI p) :=
 ct_of (L0 := fun ad => [some (.ref (ad 58)), some (.int a0), none, none]) (by decide) (fun _ => Nat.le_of_ble_eq_true rfl) (fun _ => rfl) (fun K C hQ => g_mask [true, true, false, false] rfl (bX3_bestEntry_b0 C hQ h))
-- X3_gainBy
theorem dX3_gainBy_0 : decode cX3_gainBy 0 = .ok (.iload_n 2, 1) := by decide +kernel
theorem dX3_gainBy_1 : decode cX3_gainBy 1 = .ok (.ifCond .ne 7, 3) := by decide +kernel
theorem dX3_gainBy_4 : decode cX3_gainBy 4 = .ok (.iconst 0, 1) := by decide +kernel
theorem dX3_gainBy_5 : decode cX3_gainBy 5 = .ok (.goto 28, 3) := by decide +kernel
theorem dX3_gainBy_8 : decode cX3_gainBy 8 = .ok (.aload_n 0, 1) := by decide +kernel
theorem dX3_gainBy_9 : decode cX3_gainBy 9 = .ok (.getfield 13, 3) := by decide +kernel
theorem dX3_gainBy_12 : decode cX3_gainBy 12 = .ok (.iload_n 1, 1) := by decide +kernel
theorem dX3_gainBy_13 : decode cX3_gainBy 13 = .ok (.aaload, 1) := by decide +kernel
theorem dX3_gainBy_14 : decode cX3_gainBy 14 = .ok (.iconst 2, 1) := by decide +kernel
theorem dX3_gainBy_15 : decode cX3_gainBy 15 = .ok (.iload_n 2, 1) := by decide +kernel
theorem dX3_gainBy_16 : decode cX3_gainBy 16 = .ok (.imul, 1) := by decide +kernel
theorem dX3_gainBy_17 : decode cX3_gainBy 17 = .ok (.iaload, 1) := by decide +kernel
theorem dX3_gainBy_18 : decode cX3_gainBy 18 = .ok (.aload_n 0, 1) := by decide +kernel
theorem dX3_gainBy_19 : decode cX3_gainBy 19 = .ok (.getfield 13, 3) := by decide +kernel
theorem dX3_gainBy_22 : decode cX3_gainBy 22 = .ok (.iload_n 1, 1) := by decide +kernel
theorem dX3_gainBy_23 : decode cX3_gainBy 23 = .ok (.aaload, 1) := by decide +kernel
theorem dX3_gainBy_24 : decode cX3_gainBy 24 = .ok (.iconst 2, 1) := by decide +kernel
theorem dX3_gainBy_25 : decode cX3_gainBy 25 = .ok (.iload_n 2, 1) := by decide +kernel
theorem dX3_gainBy_26 : decode cX3_gainBy 26 = .ok (.imul, 1) := by decide +kernel
theorem dX3_gainBy_27 : decode cX3_gainBy 27 = .ok (.iconst 1, 1) := by decide +kernel
theorem dX3_gainBy_28 : decode cX3_gainBy 28 = .ok (.iadd, 1) := by decide +kernel
theorem dX3_gainBy_29 : decode cX3_gainBy 29 = .ok (.iaload, 1) := by decide +kernel
theorem dX3_gainBy_30 : decode cX3_gainBy 30 = .ok (.invokestatic 33, 3) := by decide +kernel
theorem dX3_gainBy_33 : decode cX3_gainBy 33 = .ok (.ireturn, 1) := by decide +kernel
theorem cw_X3_gainBy : Cw yX3_gainBy cX3_gainBy 3 (some .int) 2 := ⟨aw_582, aw_27, ⟨by decide, by decide⟩, by decide +kernel, by decide⟩
def fX3_gainBy_b0 (x1 : Int32) (x2 : Int32) (σ : Sg) : Option (Int32 × Sg) :=
  if x2 = 0 then (some ((0 : Int32), σ)) else (if inb x1 5 = true then (if inb ((2 : Int32) * x2) 24 = true then (if inb x1 5 = true then (if inb (((2 : Int32) * x2) + (1 : Int32)) 24 = true then (some ((imax (rI σ (60 + (x1).toNatClampNeg) (((2 : Int32) * x2)).toNatClampNeg) (rI σ (60 + (x1).toNatClampNeg) ((((2 : Int32) * x2) + (1 : Int32))).toNatClampNeg)), σ)) else none) else none) else none) else none)
set_option maxRecDepth 4000 in
theorem bX3_gainBy_b0 {K : KT} {x1 : Int32} {x2 : Int32} {σ : Sg} {o : Int32 × Sg} (C : Cx K layC cX3_gainBy RX3 3 (1) (some .int))  (hQ : Rk K layC (okI o)) (h : fX3_gainBy_b0 x1 x2 σ = some o) : G K 0 [some (.ref (kad K 58)), some (.int x1), some (.int x2)] [] (Wd K layC σ) := by
  unfold fX3_gainBy_b0 at h
  refine g_iload_n C.c dX3_gainBy_0 rfl (i := 2) rfl ?_
  refine g_if_ne C.c (tgt := 8) dX3_gainBy_1 (by decide) (fun c => ?_) (fun c => ?_)
  · replace h := ite_f c h
    refine g_aload_n C.c dX3_gainBy_8 rfl (i := 0) rfl ?_
    refine gf_3_13 C dX3_gainBy_9 ?_
    refine g_iload_n C.c dX3_gainBy_12 rfl (i := 1) rfl ?_
    obtain ⟨c1, h⟩ := chk h
    have hs2 := rw_59 (inb_lt c1)
    refine g_aald5 C (b := 60) dX3_gainBy_13 rfl c1 rfl rfl ?_
    refine g_iconst C.c dX3_gainBy_14 (v := (2 : Int32)) (by decide) ?_
    refine g_iload_n C.c dX3_gainBy_15 rfl (i := 2) rfl ?_
    refine g_imul C.c dX3_gainBy_16 ?_
    obtain ⟨c3, h⟩ := chk h
    refine g_iald C dX3_gainBy_17 hs2 c3 ?_
    refine g_aload_n C.c dX3_gainBy_18 rfl (i := 0) rfl ?_
    refine gf_3_13 C dX3_gainBy_19 ?_
    refine g_iload_n C.c dX3_gainBy_22 rfl (i := 1) rfl ?_
    obtain ⟨c4, h⟩ := chk h
    have hs5 := rw_59 (inb_lt c4)
    refine g_aald5 C (b := 60) dX3_gainBy_23 rfl c4 rfl rfl ?_
    refine g_iconst C.c dX3_gainBy_24 (v := (2 : Int32)) (by decide) ?_
    refine g_iload_n C.c dX3_gainBy_25 rfl (i := 2) rfl ?_
    refine g_imul C.c dX3_gainBy_26 ?_
    refine g_iconst C.c dX3_gainBy_27 (v := (1 : Int32)) (by decide) ?_
    refine g_iadd C.c dX3_gainBy_28 ?_
    obtain ⟨c6, h⟩ := chk h
    refine g_iald C dX3_gainBy_29 hs5 c6 ?_
    refine g_max C.c dX3_gainBy_30 aw_583 aw_416 aw_29 aw_417 rfl (Nat.le_of_ble_eq_true rfl) (Nat.le_of_ble_eq_true rfl) ?_
    obtain rfl := Option.some.inj h
    exact g_iret C hQ dX3_gainBy_33 rfl ⟨rfl, rfl⟩
  · replace h := ite_t c h
    refine g_iconst C.c dX3_gainBy_4 (v := (0 : Int32)) (by decide) ?_
    refine g_goto C.c (tgt := 33) dX3_gainBy_5 (by decide) ?_
    obtain rfl := Option.some.inj h
    exact g_iret C hQ dX3_gainBy_33 rfl ⟨rfl, rfl⟩
def fX3_gainBy (a0 : Int32) (a1 : Int32) (σ : Sg) : Option (Int32 × Sg) := fX3_gainBy_b0 a0 a1 σ
theorem ct_X3_gainBy {a0 : Int32} {a1 : Int32} {σ : Sg} {p : Int32 × Sg} (h : fX3_gainBy a0 a1 σ = some p) : Ct layC yX3_gainBy cX3_gainBy 3 (some .int) 1 (fun ad => [.ref (ad 58), .int a0, .int a1]) σ (okI p) :=
 ct_of (L0 := fun ad => [some (.ref (ad 58)), some (.int a0), some (.int a1)]) (by decide) (fun _ => Nat.le_of_ble_eq_true rfl) (fun _ => rfl) (fun K C hQ => g_mask [true, true, true] rfl (bX3_gainBy_b0 C hQ h))
-- X3_mostFrom
theorem dX3_mostFrom_0 : decode cX3_mostFrom 0 = .ok (.aload_n 0, 1) := by decide +kernel
theorem dX3_mostFrom_1 : decode cX3_mostFrom 1 = .ok (.getfield 23, 3) := by decide +kernel
theorem dX3_mostFrom_4 : decode cX3_mostFrom 4 = .ok (.iload_n 1, 1) := by decide +kernel
theorem dX3_mostFrom_5 : decode cX3_mostFrom 5 = .ok (.iconst 1, 1) := by decide +kernel
theorem dX3_mostFrom_6 : decode cX3_mostFrom 6 = .ok (.iadd, 1) := by decide +kernel
theorem dX3_mostFrom_7 : decode cX3_mostFrom 7 = .ok (.aaload, 1) := by decide +kernel
theorem dX3_mostFrom_8 : decode cX3_mostFrom 8 = .ok (.iload_n 2, 1) := by decide +kernel
theorem dX3_mostFrom_9 : decode cX3_mostFrom 9 = .ok (.iaload, 1) := by decide +kernel
theorem dX3_mostFrom_10 : decode cX3_mostFrom 10 = .ok (.istore_n 3, 1) := by decide +kernel
theorem dX3_mostFrom_11 : decode cX3_mostFrom 11 = .ok (.iconst 1, 1) := by decide +kernel
theorem dX3_mostFrom_12 : decode cX3_mostFrom 12 = .ok (.istore 4, 2) := by decide +kernel
theorem dX3_mostFrom_14 : decode cX3_mostFrom 14 = .ok (.iload 4, 2) := by decide +kernel
theorem dX3_mostFrom_16 : decode cX3_mostFrom 16 = .ok (.iload_n 2, 1) := by decide +kernel
theorem dX3_mostFrom_17 : decode cX3_mostFrom 17 = .ok (.if_icmp .gt 44, 3) := by decide +kernel
theorem dX3_mostFrom_20 : decode cX3_mostFrom 20 = .ok (.aload_n 0, 1) := by decide +kernel
theorem dX3_mostFrom_21 : decode cX3_mostFrom 21 = .ok (.getfield 20, 3) := by decide +kernel
theorem dX3_mostFrom_24 : decode cX3_mostFrom 24 = .ok (.iload_n 1, 1) := by decide +kernel
theorem dX3_mostFrom_25 : decode cX3_mostFrom 25 = .ok (.baload, 1) := by decide +kernel
theorem dX3_mostFrom_26 : decode cX3_mostFrom 26 = .ok (.ifCond .eq 35, 3) := by decide +kernel
theorem dX3_mostFrom_29 : decode cX3_mostFrom 29 = .ok (.iload_n 3, 1) := by decide +kernel
theorem dX3_mostFrom_30 : decode cX3_mostFrom 30 = .ok (.aload_n 0, 1) := by decide +kernel
theorem dX3_mostFrom_31 : decode cX3_mostFrom 31 = .ok (.iload_n 1, 1) := by decide +kernel
theorem dX3_mostFrom_32 : decode cX3_mostFrom 32 = .ok (.iload 4, 2) := by decide +kernel
theorem dX3_mostFrom_34 : decode cX3_mostFrom 34 = .ok (.invokevirtual 30, 3) := by decide +kernel
theorem dX3_mostFrom_37 : decode cX3_mostFrom 37 = .ok (.aload_n 0, 1) := by decide +kernel
theorem dX3_mostFrom_38 : decode cX3_mostFrom 38 = .ok (.getfield 23, 3) := by decide +kernel
theorem dX3_mostFrom_41 : decode cX3_mostFrom 41 = .ok (.iload_n 1, 1) := by decide +kernel
theorem dX3_mostFrom_42 : decode cX3_mostFrom 42 = .ok (.iconst 1, 1) := by decide +kernel
theorem dX3_mostFrom_43 : decode cX3_mostFrom 43 = .ok (.iadd, 1) := by decide +kernel
theorem dX3_mostFrom_44 : decode cX3_mostFrom 44 = .ok (.aaload, 1) := by decide +kernel
theorem dX3_mostFrom_45 : decode cX3_mostFrom 45 = .ok (.iload_n 2, 1) := by decide +kernel
theorem dX3_mostFrom_46 : decode cX3_mostFrom 46 = .ok (.iload 4, 2) := by decide +kernel
theorem dX3_mostFrom_48 : decode cX3_mostFrom 48 = .ok (.isub, 1) := by decide +kernel
theorem dX3_mostFrom_49 : decode cX3_mostFrom 49 = .ok (.iaload, 1) := by decide +kernel
theorem dX3_mostFrom_50 : decode cX3_mostFrom 50 = .ok (.iadd, 1) := by decide +kernel
theorem dX3_mostFrom_51 : decode cX3_mostFrom 51 = .ok (.invokestatic 33, 3) := by decide +kernel
theorem dX3_mostFrom_54 : decode cX3_mostFrom 54 = .ok (.istore_n 3, 1) := by decide +kernel
theorem dX3_mostFrom_55 : decode cX3_mostFrom 55 = .ok (.iinc 4 1, 3) := by decide +kernel
theorem dX3_mostFrom_58 : decode cX3_mostFrom 58 = .ok (.goto (-44), 3) := by decide +kernel
theorem dX3_mostFrom_61 : decode cX3_mostFrom 61 = .ok (.iload_n 3, 1) := by decide +kernel
theorem dX3_mostFrom_62 : decode cX3_mostFrom 62 = .ok (.ireturn, 1) := by decide +kernel
theorem cw_X3_mostFrom : Cw yX3_mostFrom cX3_mostFrom 5 (some .int) 2 := ⟨aw_578, aw_27, ⟨by decide, by decide⟩, by decide +kernel, by decide⟩
theorem gf_3_23 {K : KT} {cc : ByteArray} {nL d pc : Nat} {ret : Option FieldType} {L : List (Option Value)} {st : List Value} {σ : Sg} (C : Cx K layC cc RX3 nL d ret)  (hd : decode cc pc = .ok (.getfield 23, 3)) (k : G K (pc + 3) L (.ref (kad K 67) :: st) (Wd K layC σ)) : G K pc L (.ref (kad K 58) :: st) (Wd K layC σ) := g_get C (o := 58) (ci := 3) (k := 3) hd rfl rfl rfl (by decide) (Or.inl aw_277) inA3 rfl k
theorem gf_3_20 {K : KT} {cc : ByteArray} {nL d pc : Nat} {ret : Option FieldType} {L : List (Option Value)} {st : List Value} {σ : Sg} (C : Cx K layC cc RX3 nL d ret)  (hd : decode cc pc = .ok (.getfield 20, 3)) (k : G K (pc + 3) L (.ref (kad K 66) :: st) (Wd K layC σ)) : G K pc L (.ref (kad K 58) :: st) (Wd K layC σ) := g_get C (o := 58) (ci := 3) (k := 2) hd rfl rfl rfl (by decide) (Or.inl aw_275) inA3 rfl k
theorem kc_3_30 {K : KT} {cc : ByteArray} {nL d pc : Nat} {ret : Option FieldType} {L : List (Option Value)} {st : List Value} {σ : Sg} (C : Cx K layC cc RX3 nL d ret)  {a0 : Int32} {a1 : Int32}  {p : Int32 × Sg} (hd : decode cc pc = .ok (.invokevirtual 30, 3)) (e : fX3_gainBy a0 a1 σ = some p) (hdd : 1 + 1 ≤ d) (hLn : L.length = nL) (hr : (st.map fun v => v.category).sum ≤ 8) (k : G K (pc + 3) L (.int p.1 :: st) (Wd K layC p.2)) : G K pc L (.int a1 :: .int a0 :: .ref (kad K 58) :: st) (Wd K layC σ) :=
  g_callV C (As := [.int a0, .int a1]) (rest := st) (o := 58) (ci := 3) hd (ct_X3_gainBy e) cw_X3_gainBy (Or.inl aw_579) aw_581 aw_16 rfl rfl rfl hdd hLn rfl rfl hr (fun v τ q => by obtain ⟨rfl, rfl⟩ := q; exact k)
def fX3_mostFrom_b14 (x1 : Int32) (x2 : Int32) (x3 : Int32) (x4 : Int32) (σ : Sg) : Option ((Int32 × Int32 × Sg) ⊕ ((Int32 × Sg))) :=
  if x2 < x4 then (some (.inr (x3, σ))) else (if inb x1 5 = true then (if (rI σ 66 (x1).toNatClampNeg) = 0 then (some (.inr (x3, σ))) else (Option.bind (fX3_gainBy x1 x4 σ) fun p5 => (if inb (x1 + (1 : Int32)) 6 = true then (if inb (x2 - x4) 12 = true then (some (.inl ((imax x3 (p5.1 + (rI p5.2 (68 + ((x1 + (1 : Int32))).toNatClampNeg) ((x2 - x4)).toNatClampNeg))), (x4 + (1 : Int32)), p5.2))) else none) else none))) else none)
def fX3_mostFrom_b0 (x1 : Int32) (x2 : Int32) (σ : Sg) : Option (Int32 × Sg) :=
  if inb (x1 + (1 : Int32)) 6 = true then (if inb x2 12 = true then (Option.bind (lp (fun s => fX3_mostFrom_b14 x1 x2 s.1 s.2.1 s.2.2) FU ((rI σ (68 + ((x1 + (1 : Int32))).toNatClampNeg) (x2).toNatClampNeg), (1 : Int32), σ)) fun t10 => some (t10.1, t10.2)) else none) else none
set_option maxRecDepth 4000 in
theorem bX3_mostFrom_b14 {K : KT} {x1 : Int32} {x2 : Int32} {x3 : Int32} {x4 : Int32} {σ : Sg} {o : (Int32 × Int32 × Sg) ⊕ ((Int32 × Sg))} (C : Cx K layC cX3_mostFrom RX3 5 (2) (some .int))  (hI : ∀ s' : Int32 × Int32 × Sg, o = .inl s' → G K 14 [some (.ref (kad K 58)), some (.int x1), some (.int x2), some (.int s'.1), some (.int s'.2.1)] [] (Wd K layC s'.2.2)) (hE0 : ∀ t : Int32 × Sg, o = .inr t → G K 61 [none, none, none, some (.int t.1), none] [] (Wd K layC t.2)) (h : fX3_mostFrom_b14 x1 x2 x3 x4 σ = some o) : G K 14 [some (.ref (kad K 58)), some (.int x1), some (.int x2), some (.int x3), some (.int x4)] [] (Wd K layC σ) := by
  unfold fX3_mostFrom_b14 at h
  refine g_iload C.c dX3_mostFrom_14 (i := 4) rfl ?_
  refine g_iload_n C.c dX3_mostFrom_16 rfl (i := 2) rfl ?_
  refine g_icmp_gt C.c (tgt := 61) dX3_mostFrom_17 (by decide) (fun c => ?_) (fun c => ?_)
  · replace h := ite_t c h
    have g9 := hE0 _ (Option.some.inj h).symm
    exact g_mask [false, false, false, true, false] rfl g9
  · replace h := ite_f c h
    refine g_aload_n C.c dX3_mostFrom_20 rfl (i := 0) rfl ?_
    refine gf_3_20 C dX3_mostFrom_21 ?_
    refine g_iload_n C.c dX3_mostFrom_24 rfl (i := 1) rfl ?_
    obtain ⟨c4, h⟩ := chk h
    refine g_zald C dX3_mostFrom_25 rfl c4 ?_
    refine g_if_eq C.c (tgt := 61) dX3_mostFrom_26 (by decide) (fun c => ?_) (fun c => ?_)
    · replace h := ite_t c h
      have g9 := hE0 _ (Option.some.inj h).symm
      exact g_mask [false, false, false, true, false] rfl g9
    · replace h := ite_f c h
      refine g_iload_n C.c dX3_mostFrom_29 rfl (i := 3) rfl ?_
      refine g_aload_n C.c dX3_mostFrom_30 rfl (i := 0) rfl ?_
      refine g_iload_n C.c dX3_mostFrom_31 rfl (i := 1) rfl ?_
      refine g_iload C.c dX3_mostFrom_32 (i := 4) rfl ?_
      obtain ⟨p5, e6, h⟩ := Option.bind_eq_some_iff.mp h
      refine kc_3_30 C dX3_mostFrom_34 e6 (Nat.le_of_ble_eq_true rfl) rfl (Nat.le_of_ble_eq_true rfl) ?_
      refine g_aload_n C.c dX3_mostFrom_37 rfl (i := 0) rfl ?_
      refine gf_3_23 C dX3_mostFrom_38 ?_
      refine g_iload_n C.c dX3_mostFrom_41 rfl (i := 1) rfl ?_
      refine g_iconst C.c dX3_mostFrom_42 (v := (1 : Int32)) (by decide) ?_
      refine g_iadd C.c dX3_mostFrom_43 ?_
      obtain ⟨c7, h⟩ := chk h
      have hs8 := rw_67 (inb_lt c7)
      refine g_aald5 C (b := 68) dX3_mostFrom_44 rfl c7 rfl rfl ?_
      refine g_iload_n C.c dX3_mostFrom_45 rfl (i := 2) rfl ?_
      refine g_iload C.c dX3_mostFrom_46 (i := 4) rfl ?_
      refine g_isub C.c dX3_mostFrom_48 ?_
      obtain ⟨c9, h⟩ := chk h
      refine g_iald C dX3_mostFrom_49 hs8 c9 ?_
      refine g_iadd C.c dX3_mostFrom_50 ?_
      refine g_max C.c dX3_mostFrom_51 aw_583 aw_416 aw_29 aw_417 rfl (Nat.le_of_ble_eq_true rfl) (Nat.le_of_ble_eq_true rfl) ?_
      refine g_istore_n C.c (i := 3) (L' := [some (.ref (kad K 58)), some (.int x1), some (.int x2), some (.int (imax x3 (p5.1 + (rI p5.2 (68 + ((x1 + (1 : Int32))).toNatClampNeg) ((x2 - x4)).toNatClampNeg)))), some (.int x4)]) dX3_mostFrom_54 rfl (Nat.le_of_ble_eq_true rfl) rfl ?_
      refine g_iinc C.c (i := 4) (y := (1 : Int32)) (L' := [some (.ref (kad K 58)), some (.int x1), some (.int x2), some (.int (imax x3 (p5.1 + (rI p5.2 (68 + ((x1 + (1 : Int32))).toNatClampNeg) ((x2 - x4)).toNatClampNeg)))), some (.int (x4 + (1 : Int32)))]) dX3_mostFrom_55 rfl (by decide) (Nat.le_of_ble_eq_true rfl) rfl ?_
      refine g_goto C.c (tgt := 14) dX3_mostFrom_58 (by decide) ?_
      have g9 := hI _ (Option.some.inj h).symm
      exact g_mask [true, true, true, true, true] rfl g9
set_option maxRecDepth 4000 in
theorem bX3_mostFrom_b0 {K : KT} {x1 : Int32} {x2 : Int32} {σ : Sg} {o : Int32 × Sg} (C : Cx K layC cX3_mostFrom RX3 5 (2) (some .int))  (hQ : Rk K layC (okI o)) (h : fX3_mostFrom_b0 x1 x2 σ = some o) : G K 0 [some (.ref (kad K 58)), some (.int x1), some (.int x2), none, none] [] (Wd K layC σ) := by
  unfold fX3_mostFrom_b0 at h
  refine g_aload_n C.c dX3_mostFrom_0 rfl (i := 0) rfl ?_
  refine gf_3_23 C dX3_mostFrom_1 ?_
  refine g_iload_n C.c dX3_mostFrom_4 rfl (i := 1) rfl ?_
  refine g_iconst C.c dX3_mostFrom_5 (v := (1 : Int32)) (by decide) ?_
  refine g_iadd C.c dX3_mostFrom_6 ?_
  obtain ⟨c1, h⟩ := chk h
  have hs2 := rw_67 (inb_lt c1)
  refine g_aald5 C (b := 68) dX3_mostFrom_7 rfl c1 rfl rfl ?_
  refine g_iload_n C.c dX3_mostFrom_8 rfl (i := 2) rfl ?_
  obtain ⟨c3, h⟩ := chk h
  refine g_iald C dX3_mostFrom_9 hs2 c3 ?_
  refine g_istore_n C.c (i := 3) (L' := [some (.ref (kad K 58)), some (.int x1), some (.int x2), some (.int (rI σ (68 + ((x1 + (1 : Int32))).toNatClampNeg) (x2).toNatClampNeg)), none]) dX3_mostFrom_10 rfl (Nat.le_of_ble_eq_true rfl) rfl ?_
  refine g_iconst C.c dX3_mostFrom_11 (v := (1 : Int32)) (by decide) ?_
  refine g_istore C.c (i := 4) (L' := [some (.ref (kad K 58)), some (.int x1), some (.int x2), some (.int (rI σ (68 + ((x1 + (1 : Int32))).toNatClampNeg) (x2).toNatClampNeg)), some (.int (1 : Int32))]) dX3_mostFrom_12 (Nat.le_of_ble_eq_true rfl) rfl ?_
  refine g_mask [true, true, true, true, true] rfl ?_
  refine lp_bind (Gh := fun s => G K 14 [some (.ref (kad K 58)), some (.int x1), some (.int x2), some (.int s.1), some (.int s.2.1)] [] (Wd K layC s.2.2)) h (fun s o2 hf gI gE => ?_)
  refine bX3_mostFrom_b14 C gI (fun t10 e => ?_) hf
  · have h := gE _ e
    refine g_iload_n C.c dX3_mostFrom_61 rfl (i := 3) rfl ?_
    obtain rfl := Option.some.inj h
    exact g_iret C hQ dX3_mostFrom_62 rfl ⟨rfl, rfl⟩
def fX3_mostFrom (a0 : Int32) (a1 : Int32) (σ : Sg) : Option (Int32 × Sg) := fX3_mostFrom_b0 a0 a1 σ
theorem ct_X3_mostFrom {a0 : Int32} {a1 : Int32} {σ : Sg} {p : Int32 × Sg} (h : fX3_mostFrom a0 a1 σ = some p) : Ct layC yX3_mostFrom cX3_mostFrom 5 (some .int) 2 (fun ad => [.ref (ad 58), .int a0, .int a1]) σ (okI p) :=
 ct_of (L0 := fun ad => [some (.ref (ad 58)), some (.int a0), some (.int a1), none, none]) (by decide) (fun _ => Nat.le_of_ble_eq_true rfl) (fun _ => rfl) (fun K C hQ => g_mask [true, true, true, false, false] rfl (bX3_mostFrom_b0 C hQ h))
-- X3_deal
theorem dX3_deal_0 : decode cX3_deal 0 = .ok (.iconst 0, 1) := by decide +kernel
theorem dX3_deal_1 : decode cX3_deal 1 = .ok (.istore_n 2, 1) := by decide +kernel
theorem dX3_deal_2 : decode cX3_deal 2 = .ok (.iload_n 2, 1) := by decide +kernel
theorem dX3_deal_3 : decode cX3_deal 3 = .ok (.bipush 11, 2) := by decide +kernel
theorem dX3_deal_5 : decode cX3_deal 5 = .ok (.if_icmp .gt 18, 3) := by decide +kernel
theorem dX3_deal_8 : decode cX3_deal 8 = .ok (.aload_n 0, 1) := by decide +kernel
theorem dX3_deal_9 : decode cX3_deal 9 = .ok (.getfield 23, 3) := by decide +kernel
theorem dX3_deal_12 : decode cX3_deal 12 = .ok (.iload_n 1, 1) := by decide +kernel
theorem dX3_deal_13 : decode cX3_deal 13 = .ok (.aaload, 1) := by decide +kernel
theorem dX3_deal_14 : decode cX3_deal 14 = .ok (.iload_n 2, 1) := by decide +kernel
theorem dX3_deal_15 : decode cX3_deal 15 = .ok (.iconst 0, 1) := by decide +kernel
theorem dX3_deal_16 : decode cX3_deal 16 = .ok (.iastore, 1) := by decide +kernel
theorem dX3_deal_17 : decode cX3_deal 17 = .ok (.iinc 2 1, 3) := by decide +kernel
theorem dX3_deal_20 : decode cX3_deal 20 = .ok (.goto (-18), 3) := by decide +kernel
theorem dX3_deal_23 : decode cX3_deal 23 = .ok (.iload_n 1, 1) := by decide +kernel
theorem dX3_deal_24 : decode cX3_deal 24 = .ok (.iconst 1, 1) := by decide +kernel
theorem dX3_deal_25 : decode cX3_deal 25 = .ok (.isub, 1) := by decide +kernel
theorem dX3_deal_26 : decode cX3_deal 26 = .ok (.istore_n 2, 1) := by decide +kernel
theorem dX3_deal_27 : decode cX3_deal 27 = .ok (.iload_n 2, 1) := by decide +kernel
theorem dX3_deal_28 : decode cX3_deal 28 = .ok (.ifCond .lt 37, 3) := by decide +kernel
theorem dX3_deal_31 : decode cX3_deal 31 = .ok (.iconst 0, 1) := by decide +kernel
theorem dX3_deal_32 : decode cX3_deal 32 = .ok (.istore_n 3, 1) := by decide +kernel
theorem dX3_deal_33 : decode cX3_deal 33 = .ok (.iload_n 3, 1) := by decide +kernel
theorem dX3_deal_34 : decode cX3_deal 34 = .ok (.bipush 11, 2) := by decide +kernel
theorem dX3_deal_36 : decode cX3_deal 36 = .ok (.if_icmp .gt 23, 3) := by decide +kernel
theorem dX3_deal_39 : decode cX3_deal 39 = .ok (.aload_n 0, 1) := by decide +kernel
theorem dX3_deal_40 : decode cX3_deal 40 = .ok (.getfield 23, 3) := by decide +kernel
theorem dX3_deal_43 : decode cX3_deal 43 = .ok (.iload_n 2, 1) := by decide +kernel
theorem dX3_deal_44 : decode cX3_deal 44 = .ok (.aaload, 1) := by decide +kernel
theorem dX3_deal_45 : decode cX3_deal 45 = .ok (.iload_n 3, 1) := by decide +kernel
theorem dX3_deal_46 : decode cX3_deal 46 = .ok (.aload_n 0, 1) := by decide +kernel
theorem dX3_deal_47 : decode cX3_deal 47 = .ok (.iload_n 2, 1) := by decide +kernel
theorem dX3_deal_48 : decode cX3_deal 48 = .ok (.iload_n 3, 1) := by decide +kernel
theorem dX3_deal_49 : decode cX3_deal 49 = .ok (.invokevirtual 26, 3) := by decide +kernel
theorem dX3_deal_52 : decode cX3_deal 52 = .ok (.iastore, 1) := by decide +kernel
theorem dX3_deal_53 : decode cX3_deal 53 = .ok (.iinc 3 1, 3) := by decide +kernel
theorem dX3_deal_56 : decode cX3_deal 56 = .ok (.goto (-23), 3) := by decide +kernel
theorem dX3_deal_59 : decode cX3_deal 59 = .ok (.iinc 2 (-1), 3) := by decide +kernel
theorem dX3_deal_62 : decode cX3_deal 62 = .ok (.goto (-35), 3) := by decide +kernel
theorem dX3_deal_65 : decode cX3_deal 65 = .ok (.return_, 1) := by decide +kernel
theorem cw_X3_deal : Cw yX3_deal cX3_deal 4 none 1 := ⟨aw_574, aw_27, ⟨by decide, by decide⟩, by decide +kernel, by decide⟩
theorem kc_3_26 {K : KT} {cc : ByteArray} {nL d pc : Nat} {ret : Option FieldType} {L : List (Option Value)} {st : List Value} {σ : Sg} (C : Cx K layC cc RX3 nL d ret)  {a0 : Int32} {a1 : Int32}  {p : Int32 × Sg} (hd : decode cc pc = .ok (.invokevirtual 26, 3)) (e : fX3_mostFrom a0 a1 σ = some p) (hdd : 2 + 1 ≤ d) (hLn : L.length = nL) (hr : (st.map fun v => v.category).sum ≤ 8) (k : G K (pc + 3) L (.int p.1 :: st) (Wd K layC p.2)) : G K pc L (.int a1 :: .int a0 :: .ref (kad K 58) :: st) (Wd K layC σ) :=
  g_callV C (As := [.int a0, .int a1]) (rest := st) (o := 58) (ci := 3) hd (ct_X3_mostFrom e) cw_X3_mostFrom (Or.inl aw_575) aw_577 aw_15 rfl rfl rfl hdd hLn rfl rfl hr (fun v τ q => by obtain ⟨rfl, rfl⟩ := q; exact k)
def fX3_deal_b2 (x1 : Int32) (x2 : Int32) (σ : Sg) : Option ((Int32 × Sg) ⊕ ((Sg))) :=
  if (11 : Int32) < x2 then (some (.inr σ)) else (if inb x1 6 = true then (if inb x2 12 = true then (some (.inl ((x2 + (1 : Int32)), (wI σ (68 + (x1).toNatClampNeg) (x2).toNatClampNeg (0 : Int32))))) else none) else none)
def fX3_deal_b33 (x2 : Int32) (x3 : Int32) (σ : Sg) : Option ((Int32 × Sg) ⊕ ((Sg))) :=
  if (11 : Int32) < x3 then (some (.inr σ)) else (if inb x2 6 = true then (Option.bind (fX3_mostFrom x2 x3 σ) fun p8 => (if inb x3 12 = true then (some (.inl ((x3 + (1 : Int32)), (wI p8.2 (68 + (x2).toNatClampNeg) (x3).toNatClampNeg p8.1)))) else none)) else none)
def fX3_deal_b27 (x2 : Int32) (σ : Sg) : Option ((Int32 × Sg) ⊕ ((Sg))) :=
  if x2 < 0 then (some (.inr σ)) else (Option.bind (lp (fun s => fX3_deal_b33 x2 s.1 s.2) FU ((0 : Int32), σ)) fun t11 => some (.inl ((x2 + (-1 : Int32)), t11)))
def fX3_deal_b0 (x1 : Int32) (σ : Sg) : Option (Sg) :=
  Option.bind (lp (fun s => fX3_deal_b2 x1 s.1 s.2) FU ((0 : Int32), σ)) fun t4 => Option.bind (lp (fun s => fX3_deal_b27 s.1 s.2) FU ((x1 - (1 : Int32)), t4)) fun t13 => some t13
set_option maxRecDepth 4000 in
theorem bX3_deal_b2 {K : KT} {x1 : Int32} {x2 : Int32} {σ : Sg} {o : (Int32 × Sg) ⊕ ((Sg))} (C : Cx K layC cX3_deal RX3 4 (3) none)  (hI : ∀ s' : Int32 × Sg, o = .inl s' → G K 2 [some (.ref (kad K 58)), some (.int x1), some (.int s'.1), none] [] (Wd K layC s'.2)) (hE0 : ∀ t : Sg, o = .inr t → G K 23 [some (.ref (kad K 58)), some (.int x1), none, none] [] (Wd K layC t)) (h : fX3_deal_b2 x1 x2 σ = some o) : G K 2 [some (.ref (kad K 58)), some (.int x1), some (.int x2), none] [] (Wd K layC σ) := by
  unfold fX3_deal_b2 at h
  refine g_iload_n C.c dX3_deal_2 rfl (i := 2) rfl ?_
  refine g_bipush C.c dX3_deal_3 (v := (11 : Int32)) (by decide) ?_
  refine g_icmp_gt C.c (tgt := 23) dX3_deal_5 (by decide) (fun c => ?_) (fun c => ?_)
  · replace h := ite_t c h
    have g9 := hE0 _ (Option.some.inj h).symm
    exact g_mask [true, true, false, false] rfl g9
  · replace h := ite_f c h
    refine g_aload_n C.c dX3_deal_8 rfl (i := 0) rfl ?_
    refine gf_3_23 C dX3_deal_9 ?_
    refine g_iload_n C.c dX3_deal_12 rfl (i := 1) rfl ?_
    obtain ⟨c1, h⟩ := chk h
    have hs2 := rw_67 (inb_lt c1)
    refine g_aald5 C (b := 68) dX3_deal_13 rfl c1 rfl rfl ?_
    refine g_iload_n C.c dX3_deal_14 rfl (i := 2) rfl ?_
    refine g_iconst C.c dX3_deal_15 (v := (0 : Int32)) (by decide) ?_
    obtain ⟨c3, h⟩ := chk h
    refine g_iast C dX3_deal_16 hs2 c3 ?_
    refine g_iinc C.c (i := 2) (y := (1 : Int32)) (L' := [some (.ref (kad K 58)), some (.int x1), some (.int (x2 + (1 : Int32))), none]) dX3_deal_17 rfl (by decide) (Nat.le_of_ble_eq_true rfl) rfl ?_
    refine g_goto C.c (tgt := 2) dX3_deal_20 (by decide) ?_
    have g9 := hI _ (Option.some.inj h).symm
    exact g_mask [true, true, true, false] rfl g9
set_option maxRecDepth 4000 in
theorem bX3_deal_b33 {K : KT} {x2 : Int32} {x3 : Int32} {σ : Sg} {o : (Int32 × Sg) ⊕ ((Sg))} (C : Cx K layC cX3_deal RX3 4 (3) none)  (hI : ∀ s' : Int32 × Sg, o = .inl s' → G K 33 [some (.ref (kad K 58)), none, some (.int x2), some (.int s'.1)] [] (Wd K layC s'.2)) (hE0 : ∀ t : Sg, o = .inr t → G K 59 [some (.ref (kad K 58)), none, some (.int x2), none] [] (Wd K layC t)) (h : fX3_deal_b33 x2 x3 σ = some o) : G K 33 [some (.ref (kad K 58)), none, some (.int x2), some (.int x3)] [] (Wd K layC σ) := by
  unfold fX3_deal_b33 at h
  refine g_iload_n C.c dX3_deal_33 rfl (i := 3) rfl ?_
  refine g_bipush C.c dX3_deal_34 (v := (11 : Int32)) (by decide) ?_
  refine g_icmp_gt C.c (tgt := 59) dX3_deal_36 (by decide) (fun c => ?_) (fun c => ?_)
  · replace h := ite_t c h
    have g9 := hE0 _ (Option.some.inj h).symm
    exact g_mask [true, false, true, false] rfl g9
  · replace h := ite_f c h
    refine g_aload_n C.c dX3_deal_39 rfl (i := 0) rfl ?_
    refine gf_3_23 C dX3_deal_40 ?_
    refine g_iload_n C.c dX3_deal_43 rfl (i := 2) rfl ?_
    obtain ⟨c6, h⟩ := chk h
    have hs7 := rw_67 (inb_lt c6)
    refine g_aald5 C (b := 68) dX3_deal_44 rfl c6 rfl rfl ?_
    refine g_iload_n C.c dX3_deal_45 rfl (i := 3) rfl ?_
    refine g_aload_n C.c dX3_deal_46 rfl (i := 0) rfl ?_
    refine g_iload_n C.c dX3_deal_47 rfl (i := 2) rfl ?_
    refine g_iload_n C.c dX3_deal_48 rfl (i := 3) rfl ?_
    obtain ⟨p8, e9, h⟩ := Option.bind_eq_some_iff.mp h
    refine kc_3_26 C dX3_deal_49 e9 (Nat.le_of_ble_eq_true rfl) rfl (Nat.le_of_ble_eq_true rfl) ?_
    obtain ⟨c10, h⟩ := chk h
    refine g_iast C dX3_deal_52 hs7 c10 ?_
    refine g_iinc C.c (i := 3) (y := (1 : Int32)) (L' := [some (.ref (kad K 58)), none, some (.int x2), some (.int (x3 + (1 : Int32)))]) dX3_deal_53 rfl (by decide) (Nat.le_of_ble_eq_true rfl) rfl ?_
    refine g_goto C.c (tgt := 33) dX3_deal_56 (by decide) ?_
    have g9 := hI _ (Option.some.inj h).symm
    exact g_mask [true, false, true, true] rfl g9
set_option maxRecDepth 4000 in
theorem bX3_deal_b27 {K : KT} {x2 : Int32} {σ : Sg} {o : (Int32 × Sg) ⊕ ((Sg))} (C : Cx K layC cX3_deal RX3 4 (3) none)  (hI : ∀ s' : Int32 × Sg, o = .inl s' → G K 27 [some (.ref (kad K 58)), none, some (.int s'.1), none] [] (Wd K layC s'.2)) (hE0 : ∀ t : Sg, o = .inr t → G K 65 [none, none, none, none] [] (Wd K layC t)) (h : fX3_deal_b27 x2 σ = some o) : G K 27 [some (.ref (kad K 58)), none, some (.int x2), none] [] (Wd K layC σ) := by
  unfold fX3_deal_b27 at h
  refine g_iload_n C.c dX3_deal_27 rfl (i := 2) rfl ?_
  refine g_if_lt C.c (tgt := 65) dX3_deal_28 (by decide) (fun c => ?_) (fun c => ?_)
  · replace h := ite_t c h
    have g9 := hE0 _ (Option.some.inj h).symm
    exact g_mask [false, false, false, false] rfl g9
  · replace h := ite_f c h
    refine g_iconst C.c dX3_deal_31 (v := (0 : Int32)) (by decide) ?_
    refine g_istore_n C.c (i := 3) (L' := [some (.ref (kad K 58)), none, some (.int x2), some (.int (0 : Int32))]) dX3_deal_32 rfl (Nat.le_of_ble_eq_true rfl) rfl ?_
    refine g_mask [true, false, true, true] rfl ?_
    refine lp_bind (Gh := fun s => G K 33 [some (.ref (kad K 58)), none, some (.int x2), some (.int s.1)] [] (Wd K layC s.2)) h (fun s o2 hf gI gE => ?_)
    refine bX3_deal_b33 C gI (fun t11 e => ?_) hf
    · have h := gE _ e
      refine g_iinc C.c (i := 2) (y := (-1 : Int32)) (L' := [some (.ref (kad K 58)), none, some (.int (x2 + (-1 : Int32))), none]) dX3_deal_59 rfl (by decide) (Nat.le_of_ble_eq_true rfl) rfl ?_
      refine g_goto C.c (tgt := 27) dX3_deal_62 (by decide) ?_
      have g9 := hI _ (Option.some.inj h).symm
      exact g_mask [true, false, true, false] rfl g9
set_option maxRecDepth 4000 in
theorem bX3_deal_b0 {K : KT} {x1 : Int32} {σ : Sg} {o : Sg} (C : Cx K layC cX3_deal RX3 4 (3) none)  (hQ : Rk K layC (okV o)) (h : fX3_deal_b0 x1 σ = some o) : G K 0 [some (.ref (kad K 58)), some (.int x1), none, none] [] (Wd K layC σ) := by
  unfold fX3_deal_b0 at h
  refine g_iconst C.c dX3_deal_0 (v := (0 : Int32)) (by decide) ?_
  refine g_istore_n C.c (i := 2) (L' := [some (.ref (kad K 58)), some (.int x1), some (.int (0 : Int32)), none]) dX3_deal_1 rfl (Nat.le_of_ble_eq_true rfl) rfl ?_
  refine g_mask [true, true, true, false] rfl ?_
  refine lp_bind (Gh := fun s => G K 2 [some (.ref (kad K 58)), some (.int x1), some (.int s.1), none] [] (Wd K layC s.2)) h (fun s o2 hf gI gE => ?_)
  refine bX3_deal_b2 C gI (fun t4 e => ?_) hf
  · have h := gE _ e
    refine g_iload_n C.c dX3_deal_23 rfl (i := 1) rfl ?_
    refine g_iconst C.c dX3_deal_24 (v := (1 : Int32)) (by decide) ?_
    refine g_isub C.c dX3_deal_25 ?_
    refine g_istore_n C.c (i := 2) (L' := [some (.ref (kad K 58)), some (.int x1), some (.int (x1 - (1 : Int32))), none]) dX3_deal_26 rfl (Nat.le_of_ble_eq_true rfl) rfl ?_
    refine g_mask [true, false, true, false] rfl ?_
    refine lp_bind (Gh := fun s => G K 27 [some (.ref (kad K 58)), none, some (.int s.1), none] [] (Wd K layC s.2)) h (fun s o2 hf gI gE => ?_)
    refine bX3_deal_b27 C gI (fun t13 e => ?_) hf
    · have h := gE _ e
      obtain rfl := Option.some.inj h
      exact g_vret C hQ dX3_deal_65 ⟨rfl, rfl⟩
def fX3_deal (a0 : Int32) (σ : Sg) : Option (Sg) := fX3_deal_b0 a0 σ
theorem ct_X3_deal {a0 : Int32} {σ : Sg} {p : Sg} (h : fX3_deal a0 σ = some p) : Ct layC yX3_deal cX3_deal 4 none 3 (fun ad => [.ref (ad 58), .int a0]) σ (okV p) :=
 ct_of (L0 := fun ad => [some (.ref (ad 58)), some (.int a0), none, none]) (by decide) (fun _ => Nat.le_of_ble_eq_true rfl) (fun _ => rfl) (fun K C hQ => g_mask [true, true, false, false] rfl (bX3_deal_b0 C hQ h))
-- X3_fewestFor
theorem dX3_fewestFor_0 : decode cX3_fewestFor 0 = .ok (.iconst 0, 1) := by decide +kernel
theorem dX3_fewestFor_1 : decode cX3_fewestFor 1 = .ok (.istore_n 3, 1) := by decide +kernel
theorem dX3_fewestFor_2 : decode cX3_fewestFor 2 = .ok (.iload_n 3, 1) := by decide +kernel
theorem dX3_fewestFor_3 : decode cX3_fewestFor 3 = .ok (.iload_n 2, 1) := by decide +kernel
theorem dX3_fewestFor_4 : decode cX3_fewestFor 4 = .ok (.if_icmp .ge 41, 3) := by decide +kernel
theorem dX3_fewestFor_7 : decode cX3_fewestFor 7 = .ok (.aload_n 0, 1) := by decide +kernel
theorem dX3_fewestFor_8 : decode cX3_fewestFor 8 = .ok (.iload_n 1, 1) := by decide +kernel
theorem dX3_fewestFor_9 : decode cX3_fewestFor 9 = .ok (.iload_n 3, 1) := by decide +kernel
theorem dX3_fewestFor_10 : decode cX3_fewestFor 10 = .ok (.invokevirtual 30, 3) := by decide +kernel
theorem dX3_fewestFor_13 : decode cX3_fewestFor 13 = .ok (.aload_n 0, 1) := by decide +kernel
theorem dX3_fewestFor_14 : decode cX3_fewestFor 14 = .ok (.getfield 23, 3) := by decide +kernel
theorem dX3_fewestFor_17 : decode cX3_fewestFor 17 = .ok (.iload_n 1, 1) := by decide +kernel
theorem dX3_fewestFor_18 : decode cX3_fewestFor 18 = .ok (.iconst 1, 1) := by decide +kernel
theorem dX3_fewestFor_19 : decode cX3_fewestFor 19 = .ok (.iadd, 1) := by decide +kernel
theorem dX3_fewestFor_20 : decode cX3_fewestFor 20 = .ok (.aaload, 1) := by decide +kernel
theorem dX3_fewestFor_21 : decode cX3_fewestFor 21 = .ok (.iload_n 2, 1) := by decide +kernel
theorem dX3_fewestFor_22 : decode cX3_fewestFor 22 = .ok (.iload_n 3, 1) := by decide +kernel
theorem dX3_fewestFor_23 : decode cX3_fewestFor 23 = .ok (.isub, 1) := by decide +kernel
theorem dX3_fewestFor_24 : decode cX3_fewestFor 24 = .ok (.iaload, 1) := by decide +kernel
theorem dX3_fewestFor_25 : decode cX3_fewestFor 25 = .ok (.iadd, 1) := by decide +kernel
theorem dX3_fewestFor_26 : decode cX3_fewestFor 26 = .ok (.aload_n 0, 1) := by decide +kernel
theorem dX3_fewestFor_27 : decode cX3_fewestFor 27 = .ok (.getfield 23, 3) := by decide +kernel
theorem dX3_fewestFor_30 : decode cX3_fewestFor 30 = .ok (.iload_n 1, 1) := by decide +kernel
theorem dX3_fewestFor_31 : decode cX3_fewestFor 31 = .ok (.aaload, 1) := by decide +kernel
theorem dX3_fewestFor_32 : decode cX3_fewestFor 32 = .ok (.iload_n 2, 1) := by decide +kernel
theorem dX3_fewestFor_33 : decode cX3_fewestFor 33 = .ok (.iaload, 1) := by decide +kernel
theorem dX3_fewestFor_34 : decode cX3_fewestFor 34 = .ok (.if_icmp .ne 5, 3) := by decide +kernel
theorem dX3_fewestFor_37 : decode cX3_fewestFor 37 = .ok (.iload_n 3, 1) := by decide +kernel
theorem dX3_fewestFor_38 : decode cX3_fewestFor 38 = .ok (.ireturn, 1) := by decide +kernel
theorem dX3_fewestFor_39 : decode cX3_fewestFor 39 = .ok (.iinc 3 1, 3) := by decide +kernel
theorem dX3_fewestFor_42 : decode cX3_fewestFor 42 = .ok (.goto (-40), 3) := by decide +kernel
theorem dX3_fewestFor_45 : decode cX3_fewestFor 45 = .ok (.iload_n 2, 1) := by decide +kernel
theorem dX3_fewestFor_46 : decode cX3_fewestFor 46 = .ok (.ireturn, 1) := by decide +kernel
theorem cw_X3_fewestFor : Cw yX3_fewestFor cX3_fewestFor 4 (some .int) 2 := ⟨aw_591, aw_27, ⟨by decide, by decide⟩, by decide +kernel, by decide⟩
def fX3_fewestFor_b2 (x1 : Int32) (x2 : Int32) (x3 : Int32) (σ : Sg) : Option ((Int32 × Sg) ⊕ (((Int32 × Sg) ⊕ (Sg)))) :=
  if x2 ≤ x3 then (some (.inr (.inr σ))) else (Option.bind (fX3_gainBy x1 x3 σ) fun p1 => (if inb (x1 + (1 : Int32)) 6 = true then (if inb (x2 - x3) 12 = true then (if inb x1 6 = true then (if inb x2 12 = true then (if (p1.1 + (rI p1.2 (68 + ((x1 + (1 : Int32))).toNatClampNeg) ((x2 - x3)).toNatClampNeg)) = (rI p1.2 (68 + (x1).toNatClampNeg) (x2).toNatClampNeg) then (some (.inr (.inl (x3, p1.2)))) else (some (.inl ((x3 + (1 : Int32)), p1.2)))) else none) else none) else none) else none))
def fX3_fewestFor_b0 (x1 : Int32) (x2 : Int32) (σ : Sg) : Option (Int32 × Sg) :=
  Option.bind (lp (fun s => fX3_fewestFor_b2 x1 x2 s.1 s.2) FU ((0 : Int32), σ)) (el (fun t9 => some (t9.1, t9.2)) (fun t9 => some (x2, t9)))
set_option maxRecDepth 4000 in
theorem bX3_fewestFor_b2 {K : KT} {x1 : Int32} {x2 : Int32} {x3 : Int32} {σ : Sg} {o : (Int32 × Sg) ⊕ (((Int32 × Sg) ⊕ (Sg)))} (C : Cx K layC cX3_fewestFor RX3 4 (2) (some .int))  (hI : ∀ s' : Int32 × Sg, o = .inl s' → G K 2 [some (.ref (kad K 58)), some (.int x1), some (.int x2), some (.int s'.1)] [] (Wd K layC s'.2)) (hE0 : ∀ t : Int32 × Sg, o = .inr (.inl t) → G K 37 [none, none, none, some (.int t.1)] [] (Wd K layC t.2)) (hE1 : ∀ t : Sg, o = .inr (.inr t) → G K 45 [none, none, some (.int x2), none] [] (Wd K layC t)) (h : fX3_fewestFor_b2 x1 x2 x3 σ = some o) : G K 2 [some (.ref (kad K 58)), some (.int x1), some (.int x2), some (.int x3)] [] (Wd K layC σ) := by
  unfold fX3_fewestFor_b2 at h
  refine g_iload_n C.c dX3_fewestFor_2 rfl (i := 3) rfl ?_
  refine g_iload_n C.c dX3_fewestFor_3 rfl (i := 2) rfl ?_
  refine g_icmp_ge C.c (tgt := 45) dX3_fewestFor_4 (by decide) (fun c => ?_) (fun c => ?_)
  · replace h := ite_t c h
    have g9 := hE1 _ (Option.some.inj h).symm
    exact g_mask [false, false, true, false] rfl g9
  · replace h := ite_f c h
    refine g_aload_n C.c dX3_fewestFor_7 rfl (i := 0) rfl ?_
    refine g_iload_n C.c dX3_fewestFor_8 rfl (i := 1) rfl ?_
    refine g_iload_n C.c dX3_fewestFor_9 rfl (i := 3) rfl ?_
    obtain ⟨p1, e2, h⟩ := Option.bind_eq_some_iff.mp h
    refine kc_3_30 C dX3_fewestFor_10 e2 (Nat.le_of_ble_eq_true rfl) rfl (Nat.le_of_ble_eq_true rfl) ?_
    refine g_aload_n C.c dX3_fewestFor_13 rfl (i := 0) rfl ?_
    refine gf_3_23 C dX3_fewestFor_14 ?_
    refine g_iload_n C.c dX3_fewestFor_17 rfl (i := 1) rfl ?_
    refine g_iconst C.c dX3_fewestFor_18 (v := (1 : Int32)) (by decide) ?_
    refine g_iadd C.c dX3_fewestFor_19 ?_
    obtain ⟨c3, h⟩ := chk h
    have hs4 := rw_67 (inb_lt c3)
    refine g_aald5 C (b := 68) dX3_fewestFor_20 rfl c3 rfl rfl ?_
    refine g_iload_n C.c dX3_fewestFor_21 rfl (i := 2) rfl ?_
    refine g_iload_n C.c dX3_fewestFor_22 rfl (i := 3) rfl ?_
    refine g_isub C.c dX3_fewestFor_23 ?_
    obtain ⟨c5, h⟩ := chk h
    refine g_iald C dX3_fewestFor_24 hs4 c5 ?_
    refine g_iadd C.c dX3_fewestFor_25 ?_
    refine g_aload_n C.c dX3_fewestFor_26 rfl (i := 0) rfl ?_
    refine gf_3_23 C dX3_fewestFor_27 ?_
    refine g_iload_n C.c dX3_fewestFor_30 rfl (i := 1) rfl ?_
    obtain ⟨c6, h⟩ := chk h
    have hs7 := rw_67 (inb_lt c6)
    refine g_aald5 C (b := 68) dX3_fewestFor_31 rfl c6 rfl rfl ?_
    refine g_iload_n C.c dX3_fewestFor_32 rfl (i := 2) rfl ?_
    obtain ⟨c8, h⟩ := chk h
    refine g_iald C dX3_fewestFor_33 hs7 c8 ?_
    refine g_icmp_ne C.c (tgt := 39) dX3_fewestFor_34 (by decide) (fun c => ?_) (fun c => ?_)
    · replace h := ite_f c h
      refine g_iinc C.c (i := 3) (y := (1 : Int32)) (L' := [some (.ref (kad K 58)), some (.int x1), some (.int x2), some (.int (x3 + (1 : Int32)))]) dX3_fewestFor_39 rfl (by decide) (Nat.le_of_ble_eq_true rfl) rfl ?_
      refine g_goto C.c (tgt := 2) dX3_fewestFor_42 (by decide) ?_
      have g9 := hI _ (Option.some.inj h).symm
      exact g_mask [true, true, true, true] rfl g9
    · replace h := ite_t c h
      have g9 := hE0 _ (Option.some.inj h).symm
      exact g_mask [false, false, false, true] rfl g9
set_option maxRecDepth 4000 in
theorem bX3_fewestFor_b0 {K : KT} {x1 : Int32} {x2 : Int32} {σ : Sg} {o : Int32 × Sg} (C : Cx K layC cX3_fewestFor RX3 4 (2) (some .int))  (hQ : Rk K layC (okI o)) (h : fX3_fewestFor_b0 x1 x2 σ = some o) : G K 0 [some (.ref (kad K 58)), some (.int x1), some (.int x2), none] [] (Wd K layC σ) := by
  unfold fX3_fewestFor_b0 at h
  refine g_iconst C.c dX3_fewestFor_0 (v := (0 : Int32)) (by decide) ?_
  refine g_istore_n C.c (i := 3) (L' := [some (.ref (kad K 58)), some (.int x1), some (.int x2), some (.int (0 : Int32))]) dX3_fewestFor_1 rfl (Nat.le_of_ble_eq_true rfl) rfl ?_
  refine g_mask [true, true, true, true] rfl ?_
  refine lp_bind (Gh := fun s => G K 2 [some (.ref (kad K 58)), some (.int x1), some (.int x2), some (.int s.1)] [] (Wd K layC s.2)) h (fun s o2 hf gI gE => ?_)
  refine bX3_fewestFor_b2 C gI (fun t9 e => ?_) (fun t9 e => ?_) hf
  · have h := el_l (gE _ e)
    refine g_iload_n C.c dX3_fewestFor_37 rfl (i := 3) rfl ?_
    obtain rfl := Option.some.inj h
    exact g_iret C hQ dX3_fewestFor_38 rfl ⟨rfl, rfl⟩
  · have h := el_r (gE _ e)
    refine g_iload_n C.c dX3_fewestFor_45 rfl (i := 2) rfl ?_
    obtain rfl := Option.some.inj h
    exact g_iret C hQ dX3_fewestFor_46 rfl ⟨rfl, rfl⟩
def fX3_fewestFor (a0 : Int32) (a1 : Int32) (σ : Sg) : Option (Int32 × Sg) := fX3_fewestFor_b0 a0 a1 σ
theorem ct_X3_fewestFor {a0 : Int32} {a1 : Int32} {σ : Sg} {p : Int32 × Sg} (h : fX3_fewestFor a0 a1 σ = some p) : Ct layC yX3_fewestFor cX3_fewestFor 4 (some .int) 2 (fun ad => [.ref (ad 58), .int a0, .int a1]) σ (okI p) :=
 ct_of (L0 := fun ad => [some (.ref (ad 58)), some (.int a0), some (.int a1), none]) (by decide) (fun _ => Nat.le_of_ble_eq_true rfl) (fun _ => rfl) (fun K C hQ => g_mask [true, true, true, false] rfl (bX3_fewestFor_b0 C hQ h))
-- X3_tugsFor
theorem dX3_tugsFor_0 : decode cX3_tugsFor 0 = .ok (.iload_n 2, 1) := by decide +kernel
theorem dX3_tugsFor_1 : decode cX3_tugsFor 1 = .ok (.istore_n 3, 1) := by decide +kernel
theorem dX3_tugsFor_2 : decode cX3_tugsFor 2 = .ok (.iconst 0, 1) := by decide +kernel
theorem dX3_tugsFor_3 : decode cX3_tugsFor 3 = .ok (.istore 4, 2) := by decide +kernel
theorem dX3_tugsFor_5 : decode cX3_tugsFor 5 = .ok (.iload 4, 2) := by decide +kernel
theorem dX3_tugsFor_7 : decode cX3_tugsFor 7 = .ok (.iload_n 1, 1) := by decide +kernel
theorem dX3_tugsFor_8 : decode cX3_tugsFor 8 = .ok (.if_icmp .ge 19, 3) := by decide +kernel
theorem dX3_tugsFor_11 : decode cX3_tugsFor 11 = .ok (.iload_n 3, 1) := by decide +kernel
theorem dX3_tugsFor_12 : decode cX3_tugsFor 12 = .ok (.aload_n 0, 1) := by decide +kernel
theorem dX3_tugsFor_13 : decode cX3_tugsFor 13 = .ok (.iload 4, 2) := by decide +kernel
theorem dX3_tugsFor_15 : decode cX3_tugsFor 15 = .ok (.iload_n 3, 1) := by decide +kernel
theorem dX3_tugsFor_16 : decode cX3_tugsFor 16 = .ok (.invokevirtual 38, 3) := by decide +kernel
theorem dX3_tugsFor_19 : decode cX3_tugsFor 19 = .ok (.isub, 1) := by decide +kernel
theorem dX3_tugsFor_20 : decode cX3_tugsFor 20 = .ok (.istore_n 3, 1) := by decide +kernel
theorem dX3_tugsFor_21 : decode cX3_tugsFor 21 = .ok (.iinc 4 1, 3) := by decide +kernel
theorem dX3_tugsFor_24 : decode cX3_tugsFor 24 = .ok (.goto (-19), 3) := by decide +kernel
theorem dX3_tugsFor_27 : decode cX3_tugsFor 27 = .ok (.aload_n 0, 1) := by decide +kernel
theorem dX3_tugsFor_28 : decode cX3_tugsFor 28 = .ok (.iload_n 1, 1) := by decide +kernel
theorem dX3_tugsFor_29 : decode cX3_tugsFor 29 = .ok (.iload_n 3, 1) := by decide +kernel
theorem dX3_tugsFor_30 : decode cX3_tugsFor 30 = .ok (.invokevirtual 38, 3) := by decide +kernel
theorem dX3_tugsFor_33 : decode cX3_tugsFor 33 = .ok (.ireturn, 1) := by decide +kernel
theorem cw_X3_tugsFor : Cw yX3_tugsFor cX3_tugsFor 5 (some .int) 2 := ⟨aw_587, aw_27, ⟨by decide, by decide⟩, by decide +kernel, by decide⟩
theorem kc_3_38 {K : KT} {cc : ByteArray} {nL d pc : Nat} {ret : Option FieldType} {L : List (Option Value)} {st : List Value} {σ : Sg} (C : Cx K layC cc RX3 nL d ret)  {a0 : Int32} {a1 : Int32}  {p : Int32 × Sg} (hd : decode cc pc = .ok (.invokevirtual 38, 3)) (e : fX3_fewestFor a0 a1 σ = some p) (hdd : 2 + 1 ≤ d) (hLn : L.length = nL) (hr : (st.map fun v => v.category).sum ≤ 8) (k : G K (pc + 3) L (.int p.1 :: st) (Wd K layC p.2)) : G K pc L (.int a1 :: .int a0 :: .ref (kad K 58) :: st) (Wd K layC σ) :=
  g_callV C (As := [.int a0, .int a1]) (rest := st) (o := 58) (ci := 3) hd (ct_X3_fewestFor e) cw_X3_fewestFor (Or.inl aw_588) aw_590 aw_17 rfl rfl rfl hdd hLn rfl rfl hr (fun v τ q => by obtain ⟨rfl, rfl⟩ := q; exact k)
def fX3_tugsFor_b5 (x1 : Int32) (x3 : Int32) (x4 : Int32) (σ : Sg) : Option ((Int32 × Int32 × Sg) ⊕ ((Int32 × Sg))) :=
  if x1 ≤ x4 then (some (.inr (x3, σ))) else (Option.bind (fX3_fewestFor x4 x3 σ) fun p1 => (some (.inl ((x3 - p1.1), (x4 + (1 : Int32)), p1.2))))
def fX3_tugsFor_b0 (x1 : Int32) (x2 : Int32) (σ : Sg) : Option (Int32 × Sg) :=
  Option.bind (lp (fun s => fX3_tugsFor_b5 x1 s.1 s.2.1 s.2.2) FU (x2, (0 : Int32), σ)) fun t3 => Option.bind (fX3_fewestFor x1 t3.1 t3.2) fun p5 => (some (p5.1, p5.2))
set_option maxRecDepth 4000 in
theorem bX3_tugsFor_b5 {K : KT} {x1 : Int32} {x3 : Int32} {x4 : Int32} {σ : Sg} {o : (Int32 × Int32 × Sg) ⊕ ((Int32 × Sg))} (C : Cx K layC cX3_tugsFor RX3 5 (3) (some .int))  (hI : ∀ s' : Int32 × Int32 × Sg, o = .inl s' → G K 5 [some (.ref (kad K 58)), some (.int x1), none, some (.int s'.1), some (.int s'.2.1)] [] (Wd K layC s'.2.2)) (hE0 : ∀ t : Int32 × Sg, o = .inr t → G K 27 [some (.ref (kad K 58)), some (.int x1), none, some (.int t.1), none] [] (Wd K layC t.2)) (h : fX3_tugsFor_b5 x1 x3 x4 σ = some o) : G K 5 [some (.ref (kad K 58)), some (.int x1), none, some (.int x3), some (.int x4)] [] (Wd K layC σ) := by
  unfold fX3_tugsFor_b5 at h
  refine g_iload C.c dX3_tugsFor_5 (i := 4) rfl ?_
  refine g_iload_n C.c dX3_tugsFor_7 rfl (i := 1) rfl ?_
  refine g_icmp_ge C.c (tgt := 27) dX3_tugsFor_8 (by decide) (fun c => ?_) (fun c => ?_)
  · replace h := ite_t c h
    have g9 := hE0 _ (Option.some.inj h).symm
    exact g_mask [true, true, false, true, false] rfl g9
  · replace h := ite_f c h
    refine g_iload_n C.c dX3_tugsFor_11 rfl (i := 3) rfl ?_
    refine g_aload_n C.c dX3_tugsFor_12 rfl (i := 0) rfl ?_
    refine g_iload C.c dX3_tugsFor_13 (i := 4) rfl ?_
    refine g_iload_n C.c dX3_tugsFor_15 rfl (i := 3) rfl ?_
    obtain ⟨p1, e2, h⟩ := Option.bind_eq_some_iff.mp h
    refine kc_3_38 C dX3_tugsFor_16 e2 (Nat.le_of_ble_eq_true rfl) rfl (Nat.le_of_ble_eq_true rfl) ?_
    refine g_isub C.c dX3_tugsFor_19 ?_
    refine g_istore_n C.c (i := 3) (L' := [some (.ref (kad K 58)), some (.int x1), none, some (.int (x3 - p1.1)), some (.int x4)]) dX3_tugsFor_20 rfl (Nat.le_of_ble_eq_true rfl) rfl ?_
    refine g_iinc C.c (i := 4) (y := (1 : Int32)) (L' := [some (.ref (kad K 58)), some (.int x1), none, some (.int (x3 - p1.1)), some (.int (x4 + (1 : Int32)))]) dX3_tugsFor_21 rfl (by decide) (Nat.le_of_ble_eq_true rfl) rfl ?_
    refine g_goto C.c (tgt := 5) dX3_tugsFor_24 (by decide) ?_
    have g9 := hI _ (Option.some.inj h).symm
    exact g_mask [true, true, false, true, true] rfl g9
set_option maxRecDepth 4000 in
theorem bX3_tugsFor_b0 {K : KT} {x1 : Int32} {x2 : Int32} {σ : Sg} {o : Int32 × Sg} (C : Cx K layC cX3_tugsFor RX3 5 (3) (some .int))  (hQ : Rk K layC (okI o)) (h : fX3_tugsFor_b0 x1 x2 σ = some o) : G K 0 [some (.ref (kad K 58)), some (.int x1), some (.int x2), none, none] [] (Wd K layC σ) := by
  unfold fX3_tugsFor_b0 at h
  refine g_iload_n C.c dX3_tugsFor_0 rfl (i := 2) rfl ?_
  refine g_istore_n C.c (i := 3) (L' := [some (.ref (kad K 58)), some (.int x1), some (.int x2), some (.int x2), none]) dX3_tugsFor_1 rfl (Nat.le_of_ble_eq_true rfl) rfl ?_
  refine g_iconst C.c dX3_tugsFor_2 (v := (0 : Int32)) (by decide) ?_
  refine g_istore C.c (i := 4) (L' := [some (.ref (kad K 58)), some (.int x1), some (.int x2), some (.int x2), some (.int (0 : Int32))]) dX3_tugsFor_3 (Nat.le_of_ble_eq_true rfl) rfl ?_
  refine g_mask [true, true, false, true, true] rfl ?_
  refine lp_bind (Gh := fun s => G K 5 [some (.ref (kad K 58)), some (.int x1), none, some (.int s.1), some (.int s.2.1)] [] (Wd K layC s.2.2)) h (fun s o2 hf gI gE => ?_)
  refine bX3_tugsFor_b5 C gI (fun t3 e => ?_) hf
  · have h := gE _ e
    refine g_aload_n C.c dX3_tugsFor_27 rfl (i := 0) rfl ?_
    refine g_iload_n C.c dX3_tugsFor_28 rfl (i := 1) rfl ?_
    refine g_iload_n C.c dX3_tugsFor_29 rfl (i := 3) rfl ?_
    obtain ⟨p5, e6, h⟩ := Option.bind_eq_some_iff.mp h
    refine kc_3_38 C dX3_tugsFor_30 e6 (Nat.le_of_ble_eq_true rfl) rfl (Nat.le_of_ble_eq_true rfl) ?_
    obtain rfl := Option.some.inj h
    exact g_iret C hQ dX3_tugsFor_33 rfl ⟨rfl, rfl⟩
def fX3_tugsFor (a0 : Int32) (a1 : Int32) (σ : Sg) : Option (Int32 × Sg) := fX3_tugsFor_b0 a0 a1 σ
theorem ct_X3_tugsFor {a0 : Int32} {a1 : Int32} {σ : Sg} {p : Int32 × Sg} (h : fX3_tugsFor a0 a1 σ = some p) : Ct layC yX3_tugsFor cX3_tugsFor 5 (some .int) 3 (fun ad => [.ref (ad 58), .int a0, .int a1]) σ (okI p) :=
 ct_of (L0 := fun ad => [some (.ref (ad 58)), some (.int a0), some (.int a1), none, none]) (by decide) (fun _ => Nat.le_of_ble_eq_true rfl) (fun _ => rfl) (fun K C hQ => g_mask [true, true, true, false, false] rfl (bX3_tugsFor_b0 C hQ h))
-- X4_cutTo
theorem dX4_cutTo_0 : decode cX4_cutTo 0 = .ok (.aload_n 0, 1) := by decide +kernel
theorem dX4_cutTo_1 : decode cX4_cutTo 1 = .ok (.iconst 0, 1) := by decide +kernel
theorem dX4_cutTo_2 : decode cX4_cutTo 2 = .ok (.aload_n 0, 1) := by decide +kernel
theorem dX4_cutTo_3 : decode cX4_cutTo 3 = .ok (.getfield 21, 3) := by decide +kernel
theorem dX4_cutTo_6 : decode cX4_cutTo 6 = .ok (.iload_n 1, 1) := by decide +kernel
theorem dX4_cutTo_7 : decode cX4_cutTo 7 = .ok (.invokestatic 25, 3) := by decide +kernel
theorem dX4_cutTo_10 : decode cX4_cutTo 10 = .ok (.invokestatic 31, 3) := by decide +kernel
theorem dX4_cutTo_13 : decode cX4_cutTo 13 = .ok (.putfield 21, 3) := by decide +kernel
theorem dX4_cutTo_16 : decode cX4_cutTo 16 = .ok (.return_, 1) := by decide +kernel
theorem cw_X4_cutTo : Cw yX4_cutTo cX4_cutTo 2 none 1 := ⟨aw_411, aw_25, ⟨by decide, by decide⟩, by decide +kernel, by decide⟩
theorem gf_4_21 {K : KT} {cc : ByteArray} {nL d pc : Nat} {ret : Option FieldType} {L : List (Option Value)} {st : List Value} {σ : Sg} (C : Cx K layC cc RX4 nL d ret)  (hd : decode cc pc = .ok (.getfield 21, 3)) (k : G K (pc + 3) L (.int (rI σ 49 3) :: st) (Wd K layC σ)) : G K pc L (.ref (kad K 49) :: st) (Wd K layC σ) := g_get C (o := 49) (ci := 4) (k := 3) hd rfl rfl rfl (by decide) (Or.inl aw_230) inA4 rfl k
theorem pf_4_21 {K : KT} {cc : ByteArray} {nL d pc : Nat} {ret : Option FieldType} {L : List (Option Value)} {st : List Value} {σ : Sg} (C : Cx K layC cc RX4 nL d ret)  {v : Int32}  (hd : decode cc pc = .ok (.putfield 21, 3)) (k : G K (pc + 3) L st (Wd K layC (wI σ 49 3 v))) : G K pc L (.int v :: .ref (kad K 49) :: st) (Wd K layC σ) := g_putI C (o := 49) (ci := 4) (k := 3) hd rfl rfl rfl (by decide) (Or.inl aw_230) inA4 tyX4_ok nmX4 rfl rfl rfl k
def fX4_cutTo_b0 (x1 : Int32) (σ : Sg) : Option (Sg) :=
  some (wI σ 49 3 (imax (0 : Int32) (imin (rI σ 49 3) x1)))
set_option maxRecDepth 4000 in
theorem bX4_cutTo_b0 {K : KT} {x1 : Int32} {σ : Sg} {o : Sg} (C : Cx K layC cX4_cutTo RX4 2 (1) none)  (hQ : Rk K layC (okV o)) (h : fX4_cutTo_b0 x1 σ = some o) : G K 0 [some (.ref (kad K 49)), some (.int x1)] [] (Wd K layC σ) := by
  unfold fX4_cutTo_b0 at h
  refine g_aload_n C.c dX4_cutTo_0 rfl (i := 0) rfl ?_
  refine g_iconst C.c dX4_cutTo_1 (v := (0 : Int32)) (by decide) ?_
  refine g_aload_n C.c dX4_cutTo_2 rfl (i := 0) rfl ?_
  refine gf_4_21 C dX4_cutTo_3 ?_
  refine g_iload_n C.c dX4_cutTo_6 rfl (i := 1) rfl ?_
  refine g_min C.c dX4_cutTo_7 aw_412 aw_413 aw_29 aw_414 rfl (Nat.le_of_ble_eq_true rfl) (Nat.le_of_ble_eq_true rfl) ?_
  refine g_max C.c dX4_cutTo_10 aw_415 aw_416 aw_29 aw_417 rfl (Nat.le_of_ble_eq_true rfl) (Nat.le_of_ble_eq_true rfl) ?_
  refine pf_4_21 C dX4_cutTo_13 ?_
  obtain rfl := Option.some.inj h
  exact g_vret C hQ dX4_cutTo_16 ⟨rfl, rfl⟩
def fX4_cutTo (a0 : Int32) (σ : Sg) : Option (Sg) := fX4_cutTo_b0 a0 σ
theorem ct_X4_cutTo {a0 : Int32} {σ : Sg} {p : Sg} (h : fX4_cutTo a0 σ = some p) : Ct layC yX4_cutTo cX4_cutTo 2 none 1 (fun ad => [.ref (ad 49), .int a0]) σ (okV p) :=
 ct_of (L0 := fun ad => [some (.ref (ad 49)), some (.int a0)]) (by decide) (fun _ => Nat.le_of_ble_eq_true rfl) (fun _ => rfl) (fun K C hQ => g_mask [true, true] rfl (bX4_cutTo_b0 C hQ h))
