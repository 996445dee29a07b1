-- L_cell
theorem dL_cell_0 : decode cL_cell 0 = .ok (.iload_n 1, 1) := by decide +kernel
theorem dL_cell_1 : decode cL_cell 1 = .ok (.aload_n 0, 1) := by decide +kernel
theorem dL_cell_2 : decode cL_cell 2 = .ok (.arraylength, 1) := by decide +kernel
theorem dL_cell_3 : decode cL_cell 3 = .ok (.if_icmp .ge 9, 3) := by decide +kernel
theorem dL_cell_6 : decode cL_cell 6 = .ok (.aload_n 0, 1) := by decide +kernel
theorem dL_cell_7 : decode cL_cell 7 = .ok (.iload_n 1, 1) := by decide +kernel
theorem dL_cell_8 : decode cL_cell 8 = .ok (.iaload, 1) := by decide +kernel
theorem dL_cell_9 : decode cL_cell 9 = .ok (.goto 9, 3) := by decide +kernel
theorem dL_cell_12 : decode cL_cell 12 = .ok (.ldc 7, 2) := by decide +kernel
theorem dL_cell_14 : decode cL_cell 14 = .ok (.iload_n 1, 1) := by decide +kernel
theorem dL_cell_15 : decode cL_cell 15 = .ok (.iconst 1, 1) := by decide +kernel
theorem dL_cell_16 : decode cL_cell 16 = .ok (.iadd, 1) := by decide +kernel
theorem dL_cell_17 : decode cL_cell 17 = .ok (.imul, 1) := by decide +kernel
theorem dL_cell_18 : decode cL_cell 18 = .ok (.ireturn, 1) := by decide +kernel
theorem cw_L_cell : Cw yL_cell cL_cell 2 (some .int) 2 := ⟨aw_611, aw_18, ⟨by decide, by decide⟩, by decide +kernel, by decide⟩
def fL_cell_b0 (xs : Nat → Int32) (Ln : Nat) (x1 : Int32) (σ : LwS) : Option (Int32 × LwS) :=
  if (nI Ln) ≤ x1 then (some (((747796405 : Int32) * (x1 + (1 : Int32))), σ)) else (if inb x1 Ln = true then (some ((xs (x1).toNatClampNeg), σ)) else none)
set_option maxRecDepth 8000 in
theorem bL_cell_b0 {K : KT} {x1 : Int32} {σ : LwS} {o : Int32 × LwS} {V Vc : Wl} {b Ln : Nat} {xs : Nat → Int32} (C : CZ K cL_cell RL 2 1 0 (some .int) b Ln xs) (hp : Pf Vc V)  (hQ : RZ K Vc 0 (ozI o)) (h : fL_cell_b0 xs Ln x1 σ = some o) : GZ K 0 0 [some (.ref b), some (.int x1)] [] V σ := by
  unfold fL_cell_b0 at h
  refine z_iload_n C.c dL_cell_0 rfl (i := 1) rfl ?_
  refine z_aload_n C.c dL_cell_1 rfl (i := 0) rfl ?_
  refine z_slen C dL_cell_2 ?_
  refine z_icmp_ge C.c (tgt := 12) dL_cell_3 (by decide) (fun c => ?_) (fun c => ?_)
  · replace h := ite_t c h
    refine z_ldc C.c (v := (747796405 : Int32)) aw_612 dL_cell_12 ?_
    refine z_iload_n C.c dL_cell_14 rfl (i := 1) rfl ?_
    refine z_iconst C.c dL_cell_15 (v := (1 : Int32)) (by decide) ?_
    refine z_iadd C.c dL_cell_16 ?_
    refine z_imul C.c dL_cell_17 ?_
    obtain rfl := Option.some.inj h
    exact z_iret C hp hQ dL_cell_18 rfl ⟨rfl, rfl⟩
  · replace h := ite_f c h
    refine z_aload_n C.c dL_cell_6 rfl (i := 0) rfl ?_
    refine z_iload_n C.c dL_cell_7 rfl (i := 1) rfl ?_
    obtain ⟨c1, h⟩ := chk h
    refine z_sld C dL_cell_8 c1 ?_
    refine z_goto C.c (tgt := 18) dL_cell_9 (by decide) ?_
    obtain rfl := Option.some.inj h
    exact z_iret C hp hQ dL_cell_18 rfl ⟨rfl, rfl⟩
def fL_cell (xs : Nat → Int32) (Ln : Nat) (a1 : Int32) (σ : LwS) : Option (Int32 × LwS) := fL_cell_b0 xs Ln a1 σ
theorem ct_L_cell {a1 : Int32} {V : Wl} {b Ln : Nat} {xs : Nat → Int32} {σ : LwS} {p : Int32 × LwS} (hs : σ.2.2 = 0) (h : fL_cell xs Ln a1 σ = some p) : CtZ V yL_cell cL_cell 2 (some .int) 1 0 b Ln xs (fun ad => [.ref b, .int a1]) σ (ozI p) :=
 ctz_of (L0 := fun ad => [some (.ref b), some (.int a1)]) (by decide) hs (fun _ => Nat.le_of_ble_eq_true rfl) (fun _ => rfl) (fun K C hQ => z_mask [true, true] rfl (bL_cell_b0 C Pf.rf hQ h))
-- L_at
theorem dL_at_0 : decode cL_at 0 = .ok (.iload_n 0, 1) := by decide +kernel
theorem dL_at_1 : decode cL_at 1 = .ok (.iconst 1, 1) := by decide +kernel
theorem dL_at_2 : decode cL_at 2 = .ok (.iushr, 1) := by decide +kernel
theorem dL_at_3 : decode cL_at 3 = .ok (.iload_n 1, 1) := by decide +kernel
theorem dL_at_4 : decode cL_at 4 = .ok (.irem, 1) := by decide +kernel
theorem dL_at_5 : decode cL_at 5 = .ok (.ireturn, 1) := by decide +kernel
theorem cw_L_at : Cw yL_at cL_at 2 (some .int) 2 := ⟨aw_615, aw_18, ⟨by decide, by decide⟩, by decide +kernel, by decide⟩
def fL_at_b0 (x0 : Int32) (x1 : Int32) (σ : LwS) : Option (Int32 × LwS) :=
  if x1 = 0 then none else some (((iushr x0 (1 : Int32)) - (iushr x0 (1 : Int32)) / x1 * x1), σ)
set_option maxRecDepth 8000 in
theorem bL_at_b0 {K : KT} {x0 : Int32} {x1 : Int32} {σ : LwS} {o : Int32 × LwS} {V Vc : Wl} {b Ln : Nat} {xs : Nat → Int32} (C : CZ K cL_at RL 2 1 0 (some .int) b Ln xs) (hp : Pf Vc V)  (hQ : RZ K Vc 0 (ozI o)) (h : fL_at_b0 x0 x1 σ = some o) : GZ K 0 0 [some (.int x0), some (.int x1)] [] V σ := by
  unfold fL_at_b0 at h
  refine z_iload_n C.c dL_at_0 rfl (i := 0) rfl ?_
  refine z_iconst C.c dL_at_1 (v := (1 : Int32)) (by decide) ?_
  refine z_iushr C.c dL_at_2 ?_
  refine z_iload_n C.c dL_at_3 rfl (i := 1) rfl ?_
  obtain ⟨c1, h⟩ := chk0 h
  refine z_irem C.c dL_at_4 c1 ?_
  obtain rfl := Option.some.inj h
  exact z_iret C hp hQ dL_at_5 rfl ⟨rfl, rfl⟩
def fL_at (a0 : Int32) (a1 : Int32) (σ : LwS) : Option (Int32 × LwS) := fL_at_b0 a0 a1 σ
theorem ct_L_at {a0 : Int32} {a1 : Int32} {V : Wl} {b Ln : Nat} {xs : Nat → Int32} {σ : LwS} {p : Int32 × LwS} (hs : σ.2.2 = 0) (h : fL_at a0 a1 σ = some p) : CtZ V yL_at cL_at 2 (some .int) 1 0 b Ln xs (fun ad => [.int a0, .int a1]) σ (ozI p) :=
 ctz_of (L0 := fun ad => [some (.int a0), some (.int a1)]) (by decide) hs (fun _ => Nat.le_of_ble_eq_true rfl) (fun _ => rfl) (fun K C hQ => z_mask [true, true] rfl (bL_at_b0 C Pf.rf hQ h))
-- L_far
theorem dL_far_0 : decode cL_far 0 = .ok (.iload_n 1, 1) := by decide +kernel
theorem dL_far_1 : decode cL_far 1 = .ok (.aload_n 0, 1) := by decide +kernel
theorem dL_far_2 : decode cL_far 2 = .ok (.iconst 1, 1) := by decide +kernel
theorem dL_far_3 : decode cL_far 3 = .ok (.iaload, 1) := by decide +kernel
theorem dL_far_4 : decode cL_far 4 = .ok (.idiv, 1) := by decide +kernel
theorem dL_far_5 : decode cL_far 5 = .ok (.aload_n 0, 1) := by decide +kernel
theorem dL_far_6 : decode cL_far 6 = .ok (.iconst 2, 1) := by decide +kernel
theorem dL_far_7 : decode cL_far 7 = .ok (.iaload, 1) := by decide +kernel
theorem dL_far_8 : decode cL_far 8 = .ok (.aload_n 0, 1) := by decide +kernel
theorem dL_far_9 : decode cL_far 9 = .ok (.iconst 1, 1) := by decide +kernel
theorem dL_far_10 : decode cL_far 10 = .ok (.iaload, 1) := by decide +kernel
theorem dL_far_11 : decode cL_far 11 = .ok (.idiv, 1) := by decide +kernel
theorem dL_far_12 : decode cL_far 12 = .ok (.isub, 1) := by decide +kernel
theorem dL_far_13 : decode cL_far 13 = .ok (.istore_n 2, 1) := by decide +kernel
theorem dL_far_14 : decode cL_far 14 = .ok (.iload_n 1, 1) := by decide +kernel
theorem dL_far_15 : decode cL_far 15 = .ok (.aload_n 0, 1) := by decide +kernel
theorem dL_far_16 : decode cL_far 16 = .ok (.iconst 1, 1) := by decide +kernel
theorem dL_far_17 : decode cL_far 17 = .ok (.iaload, 1) := by decide +kernel
theorem dL_far_18 : decode cL_far 18 = .ok (.irem, 1) := by decide +kernel
theorem dL_far_19 : decode cL_far 19 = .ok (.aload_n 0, 1) := by decide +kernel
theorem dL_far_20 : decode cL_far 20 = .ok (.iconst 2, 1) := by decide +kernel
theorem dL_far_21 : decode cL_far 21 = .ok (.iaload, 1) := by decide +kernel
theorem dL_far_22 : decode cL_far 22 = .ok (.aload_n 0, 1) := by decide +kernel
theorem dL_far_23 : decode cL_far 23 = .ok (.iconst 1, 1) := by decide +kernel
theorem dL_far_24 : decode cL_far 24 = .ok (.iaload, 1) := by decide +kernel
theorem dL_far_25 : decode cL_far 25 = .ok (.irem, 1) := by decide +kernel
theorem dL_far_26 : decode cL_far 26 = .ok (.isub, 1) := by decide +kernel
theorem dL_far_27 : decode cL_far 27 = .ok (.istore_n 3, 1) := by decide +kernel
theorem dL_far_28 : decode cL_far 28 = .ok (.iload_n 2, 1) := by decide +kernel
theorem dL_far_29 : decode cL_far 29 = .ok (.ifCond .ge 8, 3) := by decide +kernel
theorem dL_far_32 : decode cL_far 32 = .ok (.iload_n 2, 1) := by decide +kernel
theorem dL_far_33 : decode cL_far 33 = .ok (.ineg, 1) := by decide +kernel
theorem dL_far_34 : decode cL_far 34 = .ok (.goto 4, 3) := by decide +kernel
theorem dL_far_37 : decode cL_far 37 = .ok (.iload_n 2, 1) := by decide +kernel
theorem dL_far_38 : decode cL_far 38 = .ok (.iload_n 3, 1) := by decide +kernel
theorem dL_far_39 : decode cL_far 39 = .ok (.ifCond .ge 8, 3) := by decide +kernel
theorem dL_far_42 : decode cL_far 42 = .ok (.iload_n 3, 1) := by decide +kernel
theorem dL_far_43 : decode cL_far 43 = .ok (.ineg, 1) := by decide +kernel
theorem dL_far_44 : decode cL_far 44 = .ok (.goto 4, 3) := by decide +kernel
theorem dL_far_47 : decode cL_far 47 = .ok (.iload_n 3, 1) := by decide +kernel
theorem dL_far_48 : decode cL_far 48 = .ok (.iadd, 1) := by decide +kernel
theorem dL_far_49 : decode cL_far 49 = .ok (.ireturn, 1) := by decide +kernel
theorem cw_L_far : Cw yL_far cL_far 4 (some .int) 2 := ⟨aw_635, aw_18, ⟨by decide, by decide⟩, by decide +kernel, by decide⟩
def fL_far_b38 (x3 : Int32) (y0 : Int32) (σ : LwS) : Option (Int32 × LwS) :=
  if 0 ≤ x3 then (some ((y0 + x3), σ)) else (some ((y0 + (-x3)), σ))
def fL_far_b0 (w0 : Nat) (x1 : Int32) (σ : LwS) : Option (Int32 × LwS) :=
  if (rT σ w0 ((1 : Int32)).toNatClampNeg) = 0 then none else if (rT σ w0 ((1 : Int32)).toNatClampNeg) = 0 then none else if (rT σ w0 ((1 : Int32)).toNatClampNeg) = 0 then none else if (rT σ w0 ((1 : Int32)).toNatClampNeg) = 0 then none else if 0 ≤ ((x1 / (rT σ w0 ((1 : Int32)).toNatClampNeg)) - ((rT σ w0 ((2 : Int32)).toNatClampNeg) / (rT σ w0 ((1 : Int32)).toNatClampNeg))) then (fL_far_b38 ((x1 - x1 / (rT σ w0 ((1 : Int32)).toNatClampNeg) * (rT σ w0 ((1 : Int32)).toNatClampNeg)) - ((rT σ w0 ((2 : Int32)).toNatClampNeg) - (rT σ w0 ((2 : Int32)).toNatClampNeg) / (rT σ w0 ((1 : Int32)).toNatClampNeg) * (rT σ w0 ((1 : Int32)).toNatClampNeg))) ((x1 / (rT σ w0 ((1 : Int32)).toNatClampNeg)) - ((rT σ w0 ((2 : Int32)).toNatClampNeg) / (rT σ w0 ((1 : Int32)).toNatClampNeg))) σ) else (fL_far_b38 ((x1 - x1 / (rT σ w0 ((1 : Int32)).toNatClampNeg) * (rT σ w0 ((1 : Int32)).toNatClampNeg)) - ((rT σ w0 ((2 : Int32)).toNatClampNeg) - (rT σ w0 ((2 : Int32)).toNatClampNeg) / (rT σ w0 ((1 : Int32)).toNatClampNeg) * (rT σ w0 ((1 : Int32)).toNatClampNeg))) (-((x1 / (rT σ w0 ((1 : Int32)).toNatClampNeg)) - ((rT σ w0 ((2 : Int32)).toNatClampNeg) / (rT σ w0 ((1 : Int32)).toNatClampNeg)))) σ)
set_option maxRecDepth 8000 in
theorem bL_far_b38 {K : KT} {x3 : Int32} {y0 : Int32} {σ : LwS} {o : Int32 × LwS} {V Vc : Wl} {b Ln : Nat} {xs : Nat → Int32} (C : CZ K cL_far RL 4 1 0 (some .int) b Ln xs) (hp : Pf Vc V)  (hQ : RZ K Vc 0 (ozI o)) (h : fL_far_b38 x3 y0 σ = some o) : GZ K 0 38 [none, none, none, some (.int x3)] [.int y0] V σ := by
  unfold fL_far_b38 at h
  refine z_iload_n C.c dL_far_38 rfl (i := 3) rfl ?_
  refine z_if_ge C.c (tgt := 47) dL_far_39 (by decide) (fun c => ?_) (fun c => ?_)
  · replace h := ite_t c h
    refine z_iload_n C.c dL_far_47 rfl (i := 3) rfl ?_
    refine z_iadd C.c dL_far_48 ?_
    obtain rfl := Option.some.inj h
    exact z_iret C hp hQ dL_far_49 rfl ⟨rfl, rfl⟩
  · replace h := ite_f c h
    refine z_iload_n C.c dL_far_42 rfl (i := 3) rfl ?_
    refine z_ineg C.c dL_far_43 ?_
    refine z_goto C.c (tgt := 48) dL_far_44 (by decide) ?_
    refine z_iadd C.c dL_far_48 ?_
    obtain rfl := Option.some.inj h
    exact z_iret C hp hQ dL_far_49 rfl ⟨rfl, rfl⟩
set_option maxRecDepth 8000 in
theorem bL_far_b0 {K : KT} {w0 : Nat} {x1 : Int32} {r0 : Nat} {σ : LwS} {o : Int32 × LwS} {V Vc : Wl} {b Ln : Nat} {xs : Nat → Int32} (C : CZ K cL_far RL 4 1 0 (some .int) b Ln xs) (hp : Pf Vc V) (hw0 : V[w0]? = some (r0, 63)) (hQ : RZ K Vc 0 (ozI o)) (h : fL_far_b0 w0 x1 σ = some o) : GZ K 0 0 [some (.ref r0), some (.int x1), none, none] [] V σ := by
  unfold fL_far_b0 at h
  refine z_iload_n C.c dL_far_0 rfl (i := 1) rfl ?_
  refine z_aload_n C.c dL_far_1 rfl (i := 0) rfl ?_
  refine z_iconst C.c dL_far_2 (v := (1 : Int32)) (by decide) ?_
  refine z_iald C dL_far_3 hw0 (by decide) ?_
  obtain ⟨c1, h⟩ := chk0 h
  refine z_idiv C.c dL_far_4 c1 ?_
  refine z_aload_n C.c dL_far_5 rfl (i := 0) rfl ?_
  refine z_iconst C.c dL_far_6 (v := (2 : Int32)) (by decide) ?_
  refine z_iald C dL_far_7 hw0 (by decide) ?_
  refine z_aload_n C.c dL_far_8 rfl (i := 0) rfl ?_
  refine z_iconst C.c dL_far_9 (v := (1 : Int32)) (by decide) ?_
  refine z_iald C dL_far_10 hw0 (by decide) ?_
  obtain ⟨c2, h⟩ := chk0 h
  refine z_idiv C.c dL_far_11 c2 ?_
  refine z_isub C.c dL_far_12 ?_
  refine z_istore_n C.c (i := 2) (L' := [some (.ref r0), some (.int x1), some (.int ((x1 / (rT σ w0 ((1 : Int32)).toNatClampNeg)) - ((rT σ w0 ((2 : Int32)).toNatClampNeg) / (rT σ w0 ((1 : Int32)).toNatClampNeg)))), none]) dL_far_13 rfl (Nat.le_of_ble_eq_true rfl) rfl ?_
  refine z_iload_n C.c dL_far_14 rfl (i := 1) rfl ?_
  refine z_aload_n C.c dL_far_15 rfl (i := 0) rfl ?_
  refine z_iconst C.c dL_far_16 (v := (1 : Int32)) (by decide) ?_
  refine z_iald C dL_far_17 hw0 (by decide) ?_
  obtain ⟨c3, h⟩ := chk0 h
  refine z_irem C.c dL_far_18 c3 ?_
  refine z_aload_n C.c dL_far_19 rfl (i := 0) rfl ?_
  refine z_iconst C.c dL_far_20 (v := (2 : Int32)) (by decide) ?_
  refine z_iald C dL_far_21 hw0 (by decide) ?_
  refine z_aload_n C.c dL_far_22 rfl (i := 0) rfl ?_
  refine z_iconst C.c dL_far_23 (v := (1 : Int32)) (by decide) ?_
  refine z_iald C dL_far_24 hw0 (by decide) ?_
  obtain ⟨c4, h⟩ := chk0 h
  refine z_irem C.c dL_far_25 c4 ?_
  refine z_isub C.c dL_far_26 ?_
  refine z_istore_n C.c (i := 3) (L' := [some (.ref r0), some (.int x1), some (.int ((x1 / (rT σ w0 ((1 : Int32)).toNatClampNeg)) - ((rT σ w0 ((2 : Int32)).toNatClampNeg) / (rT σ w0 ((1 : Int32)).toNatClampNeg)))), some (.int ((x1 - x1 / (rT σ w0 ((1 : Int32)).toNatClampNeg) * (rT σ w0 ((1 : Int32)).toNatClampNeg)) - ((rT σ w0 ((2 : Int32)).toNatClampNeg) - (rT σ w0 ((2 : Int32)).toNatClampNeg) / (rT σ w0 ((1 : Int32)).toNatClampNeg) * (rT σ w0 ((1 : Int32)).toNatClampNeg))))]) dL_far_27 rfl (Nat.le_of_ble_eq_true rfl) rfl ?_
  refine z_iload_n C.c dL_far_28 rfl (i := 2) rfl ?_
  refine z_if_ge C.c (tgt := 37) dL_far_29 (by decide) (fun c => ?_) (fun c => ?_)
  · replace h := ite_t c h
    refine z_iload_n C.c dL_far_37 rfl (i := 2) rfl ?_
    exact z_mask [false, false, false, true] rfl (bL_far_b38 C hp hQ h)
  · replace h := ite_f c h
    refine z_iload_n C.c dL_far_32 rfl (i := 2) rfl ?_
    refine z_ineg C.c dL_far_33 ?_
    refine z_goto C.c (tgt := 38) dL_far_34 (by decide) ?_
    exact z_mask [false, false, false, true] rfl (bL_far_b38 C hp hQ h)
def fL_far (q0 : Nat) (a1 : Int32) (σ : LwS) : Option (Int32 × LwS) := fL_far_b0 q0 a1 σ
theorem ct_L_far {q0 : Nat} {a1 : Int32} {r0 : Nat} {V : Wl} {b Ln : Nat} {xs : Nat → Int32} {σ : LwS} {p : Int32 × LwS} (hq0 : V[q0]? = some (r0, 63)) (hs : σ.2.2 = 0) (h : fL_far q0 a1 σ = some p) : CtZ V yL_far cL_far 4 (some .int) 1 0 b Ln xs (fun ad => [.ref r0, .int a1]) σ (ozI p) :=
 ctz_of (L0 := fun ad => [some (.ref r0), some (.int a1), none, none]) (by decide) hs (fun _ => Nat.le_of_ble_eq_true rfl) (fun _ => rfl) (fun K C hQ => z_mask [true, true, false, false] rfl (bL_far_b0 C Pf.rf hq0 hQ h))
-- L_beside
theorem dL_beside_0 : decode cL_beside 0 = .ok (.iload_n 2, 1) := by decide +kernel
theorem dL_beside_1 : decode cL_beside 1 = .ok (.ifCond .ne 20, 3) := by decide +kernel
theorem dL_beside_4 : decode cL_beside 4 = .ok (.iload_n 1, 1) := by decide +kernel
theorem dL_beside_5 : decode cL_beside 5 = .ok (.aload_n 0, 1) := by decide +kernel
theorem dL_beside_6 : decode cL_beside 6 = .ok (.iconst 1, 1) := by decide +kernel
theorem dL_beside_7 : decode cL_beside 7 = .ok (.iaload, 1) := by decide +kernel
theorem dL_beside_8 : decode cL_beside 8 = .ok (.if_icmp .lt 11, 3) := by decide +kernel
theorem dL_beside_11 : decode cL_beside 11 = .ok (.iload_n 1, 1) := by decide +kernel
theorem dL_beside_12 : decode cL_beside 12 = .ok (.aload_n 0, 1) := by decide +kernel
theorem dL_beside_13 : decode cL_beside 13 = .ok (.iconst 1, 1) := by decide +kernel
theorem dL_beside_14 : decode cL_beside 14 = .ok (.iaload, 1) := by decide +kernel
theorem dL_beside_15 : decode cL_beside 15 = .ok (.isub, 1) := by decide +kernel
theorem dL_beside_16 : decode cL_beside 16 = .ok (.goto 4, 3) := by decide +kernel
theorem dL_beside_19 : decode cL_beside 19 = .ok (.iconst (-1), 1) := by decide +kernel
theorem dL_beside_20 : decode cL_beside 20 = .ok (.ireturn, 1) := by decide +kernel
theorem dL_beside_21 : decode cL_beside 21 = .ok (.iload_n 2, 1) := by decide +kernel
theorem dL_beside_22 : decode cL_beside 22 = .ok (.iconst 2, 1) := by decide +kernel
theorem dL_beside_23 : decode cL_beside 23 = .ok (.if_icmp .ne 28, 3) := by decide +kernel
theorem dL_beside_26 : decode cL_beside 26 = .ok (.iload_n 1, 1) := by decide +kernel
theorem dL_beside_27 : decode cL_beside 27 = .ok (.aload_n 0, 1) := by decide +kernel
theorem dL_beside_28 : decode cL_beside 28 = .ok (.iconst 1, 1) := by decide +kernel
theorem dL_beside_29 : decode cL_beside 29 = .ok (.iaload, 1) := by decide +kernel
theorem dL_beside_30 : decode cL_beside 30 = .ok (.iadd, 1) := by decide +kernel
theorem dL_beside_31 : decode cL_beside 31 = .ok (.aload_n 0, 1) := by decide +kernel
theorem dL_beside_32 : decode cL_beside 32 = .ok (.iconst 0, 1) := by decide +kernel
theorem dL_beside_33 : decode cL_beside 33 = .ok (.iaload, 1) := by decide +kernel
theorem dL_beside_34 : decode cL_beside 34 = .ok (.aload_n 0, 1) := by decide +kernel
theorem dL_beside_35 : decode cL_beside 35 = .ok (.iconst 1, 1) := by decide +kernel
theorem dL_beside_36 : decode cL_beside 36 = .ok (.iaload, 1) := by decide +kernel
theorem dL_beside_37 : decode cL_beside 37 = .ok (.imul, 1) := by decide +kernel
theorem dL_beside_38 : decode cL_beside 38 = .ok (.if_icmp .ge 11, 3) := by decide +kernel
theorem dL_beside_41 : decode cL_beside 41 = .ok (.iload_n 1, 1) := by decide +kernel
theorem dL_beside_42 : decode cL_beside 42 = .ok (.aload_n 0, 1) := by decide +kernel
theorem dL_beside_43 : decode cL_beside 43 = .ok (.iconst 1, 1) := by decide +kernel
theorem dL_beside_44 : decode cL_beside 44 = .ok (.iaload, 1) := by decide +kernel
theorem dL_beside_45 : decode cL_beside 45 = .ok (.iadd, 1) := by decide +kernel
theorem dL_beside_46 : decode cL_beside 46 = .ok (.goto 4, 3) := by decide +kernel
theorem dL_beside_49 : decode cL_beside 49 = .ok (.iconst (-1), 1) := by decide +kernel
theorem dL_beside_50 : decode cL_beside 50 = .ok (.ireturn, 1) := by decide +kernel
theorem dL_beside_51 : decode cL_beside 51 = .ok (.iload_n 2, 1) := by decide +kernel
theorem dL_beside_52 : decode cL_beside 52 = .ok (.iconst 1, 1) := by decide +kernel
theorem dL_beside_53 : decode cL_beside 53 = .ok (.if_icmp .ne 24, 3) := by decide +kernel
theorem dL_beside_56 : decode cL_beside 56 = .ok (.iload_n 1, 1) := by decide +kernel
theorem dL_beside_57 : decode cL_beside 57 = .ok (.aload_n 0, 1) := by decide +kernel
theorem dL_beside_58 : decode cL_beside 58 = .ok (.iconst 1, 1) := by decide +kernel
theorem dL_beside_59 : decode cL_beside 59 = .ok (.iaload, 1) := by decide +kernel
theorem dL_beside_60 : decode cL_beside 60 = .ok (.irem, 1) := by decide +kernel
theorem dL_beside_61 : decode cL_beside 61 = .ok (.iconst 1, 1) := by decide +kernel
theorem dL_beside_62 : decode cL_beside 62 = .ok (.iadd, 1) := by decide +kernel
theorem dL_beside_63 : decode cL_beside 63 = .ok (.aload_n 0, 1) := by decide +kernel
theorem dL_beside_64 : decode cL_beside 64 = .ok (.iconst 1, 1) := by decide +kernel
theorem dL_beside_65 : decode cL_beside 65 = .ok (.iaload, 1) := by decide +kernel
theorem dL_beside_66 : decode cL_beside 66 = .ok (.if_icmp .ge 9, 3) := by decide +kernel
theorem dL_beside_69 : decode cL_beside 69 = .ok (.iload_n 1, 1) := by decide +kernel
theorem dL_beside_70 : decode cL_beside 70 = .ok (.iconst 1, 1) := by decide +kernel
theorem dL_beside_71 : decode cL_beside 71 = .ok (.iadd, 1) := by decide +kernel
theorem dL_beside_72 : decode cL_beside 72 = .ok (.goto 4, 3) := by decide +kernel
theorem dL_beside_75 : decode cL_beside 75 = .ok (.iconst (-1), 1) := by decide +kernel
theorem dL_beside_76 : decode cL_beside 76 = .ok (.ireturn, 1) := by decide +kernel
theorem dL_beside_77 : decode cL_beside 77 = .ok (.iload_n 1, 1) := by decide +kernel
theorem dL_beside_78 : decode cL_beside 78 = .ok (.aload_n 0, 1) := by decide +kernel
theorem dL_beside_79 : decode cL_beside 79 = .ok (.iconst 1, 1) := by decide +kernel
theorem dL_beside_80 : decode cL_beside 80 = .ok (.iaload, 1) := by decide +kernel
theorem dL_beside_81 : decode cL_beside 81 = .ok (.irem, 1) := by decide +kernel
theorem dL_beside_82 : decode cL_beside 82 = .ok (.ifCond .le 9, 3) := by decide +kernel
theorem dL_beside_85 : decode cL_beside 85 = .ok (.iload_n 1, 1) := by decide +kernel
theorem dL_beside_86 : decode cL_beside 86 = .ok (.iconst 1, 1) := by decide +kernel
theorem dL_beside_87 : decode cL_beside 87 = .ok (.isub, 1) := by decide +kernel
theorem dL_beside_88 : decode cL_beside 88 = .ok (.goto 4, 3) := by decide +kernel
theorem dL_beside_91 : decode cL_beside 91 = .ok (.iconst (-1), 1) := by decide +kernel
theorem dL_beside_92 : decode cL_beside 92 = .ok (.ireturn, 1) := by decide +kernel
theorem cw_L_beside : Cw yL_beside cL_beside 3 (some .int) 3 := ⟨aw_663, aw_18, ⟨by decide, by decide⟩, by decide +kernel, by decide⟩
def fL_beside_b0 (w0 : Nat) (x1 : Int32) (x2 : Int32) (σ : LwS) : Option (Int32 × LwS) :=
  if x2 = 0 then (if x1 < (rT σ w0 ((1 : Int32)).toNatClampNeg) then (some ((-1 : Int32), σ)) else (some ((x1 - (rT σ w0 ((1 : Int32)).toNatClampNeg)), σ))) else (if x2 = (2 : Int32) then (if ((rT σ w0 ((0 : Int32)).toNatClampNeg) * (rT σ w0 ((1 : Int32)).toNatClampNeg)) ≤ (x1 + (rT σ w0 ((1 : Int32)).toNatClampNeg)) then (some ((-1 : Int32), σ)) else (some ((x1 + (rT σ w0 ((1 : Int32)).toNatClampNeg)), σ))) else (if x2 = (1 : Int32) then (if (rT σ w0 ((1 : Int32)).toNatClampNeg) = 0 then none else if (rT σ w0 ((1 : Int32)).toNatClampNeg) ≤ ((x1 - x1 / (rT σ w0 ((1 : Int32)).toNatClampNeg) * (rT σ w0 ((1 : Int32)).toNatClampNeg)) + (1 : Int32)) then (some ((-1 : Int32), σ)) else (some ((x1 + (1 : Int32)), σ))) else (if (rT σ w0 ((1 : Int32)).toNatClampNeg) = 0 then none else if (x1 - x1 / (rT σ w0 ((1 : Int32)).toNatClampNeg) * (rT σ w0 ((1 : Int32)).toNatClampNeg)) ≤ 0 then (some ((-1 : Int32), σ)) else (some ((x1 - (1 : Int32)), σ)))))
set_option maxRecDepth 8000 in
theorem bL_beside_b0 {K : KT} {w0 : Nat} {x1 : Int32} {x2 : Int32} {r0 : Nat} {σ : LwS} {o : Int32 × LwS} {V Vc : Wl} {b Ln : Nat} {xs : Nat → Int32} (C : CZ K cL_beside RL 3 1 0 (some .int) b Ln xs) (hp : Pf Vc V) (hw0 : V[w0]? = some (r0, 63)) (hQ : RZ K Vc 0 (ozI o)) (h : fL_beside_b0 w0 x1 x2 σ = some o) : GZ K 0 0 [some (.ref r0), some (.int x1), some (.int x2)] [] V σ := by
  unfold fL_beside_b0 at h
  refine z_iload_n C.c dL_beside_0 rfl (i := 2) rfl ?_
  refine z_if_ne C.c (tgt := 21) dL_beside_1 (by decide) (fun c => ?_) (fun c => ?_)
  · replace h := ite_f c h
    refine z_iload_n C.c dL_beside_21 rfl (i := 2) rfl ?_
    refine z_iconst C.c dL_beside_22 (v := (2 : Int32)) (by decide) ?_
    refine z_icmp_ne C.c (tgt := 51) dL_beside_23 (by decide) (fun c => ?_) (fun c => ?_)
    · replace h := ite_f c h
      refine z_iload_n C.c dL_beside_51 rfl (i := 2) rfl ?_
      refine z_iconst C.c dL_beside_52 (v := (1 : Int32)) (by decide) ?_
      refine z_icmp_ne C.c (tgt := 77) dL_beside_53 (by decide) (fun c => ?_) (fun c => ?_)
      · replace h := ite_f c h
        refine z_iload_n C.c dL_beside_77 rfl (i := 1) rfl ?_
        refine z_aload_n C.c dL_beside_78 rfl (i := 0) rfl ?_
        refine z_iconst C.c dL_beside_79 (v := (1 : Int32)) (by decide) ?_
        refine z_iald C dL_beside_80 hw0 (by decide) ?_
        obtain ⟨c1, h⟩ := chk0 h
        refine z_irem C.c dL_beside_81 c1 ?_
        refine z_if_le C.c (tgt := 91) dL_beside_82 (by decide) (fun c => ?_) (fun c => ?_)
        · replace h := ite_t c h
          refine z_iconst C.c dL_beside_91 (v := (-1 : Int32)) (by decide) ?_
          obtain rfl := Option.some.inj h
          exact z_iret C hp hQ dL_beside_92 rfl ⟨rfl, rfl⟩
        · replace h := ite_f c h
          refine z_iload_n C.c dL_beside_85 rfl (i := 1) rfl ?_
          refine z_iconst C.c dL_beside_86 (v := (1 : Int32)) (by decide) ?_
          refine z_isub C.c dL_beside_87 ?_
          refine z_goto C.c (tgt := 92) dL_beside_88 (by decide) ?_
          obtain rfl := Option.some.inj h
          exact z_iret C hp hQ dL_beside_92 rfl ⟨rfl, rfl⟩
      · replace h := ite_t c h
        refine z_iload_n C.c dL_beside_56 rfl (i := 1) rfl ?_
        refine z_aload_n C.c dL_beside_57 rfl (i := 0) rfl ?_
        refine z_iconst C.c dL_beside_58 (v := (1 : Int32)) (by decide) ?_
        refine z_iald C dL_beside_59 hw0 (by decide) ?_
        obtain ⟨c2, h⟩ := chk0 h
        refine z_irem C.c dL_beside_60 c2 ?_
        refine z_iconst C.c dL_beside_61 (v := (1 : Int32)) (by decide) ?_
        refine z_iadd C.c dL_beside_62 ?_
        refine z_aload_n C.c dL_beside_63 rfl (i := 0) rfl ?_
        refine z_iconst C.c dL_beside_64 (v := (1 : Int32)) (by decide) ?_
        refine z_iald C dL_beside_65 hw0 (by decide) ?_
        refine z_icmp_ge C.c (tgt := 75) dL_beside_66 (by decide) (fun c => ?_) (fun c => ?_)
        · replace h := ite_t c h
          refine z_iconst C.c dL_beside_75 (v := (-1 : Int32)) (by decide) ?_
          obtain rfl := Option.some.inj h
          exact z_iret C hp hQ dL_beside_76 rfl ⟨rfl, rfl⟩
        · replace h := ite_f c h
          refine z_iload_n C.c dL_beside_69 rfl (i := 1) rfl ?_
          refine z_iconst C.c dL_beside_70 (v := (1 : Int32)) (by decide) ?_
          refine z_iadd C.c dL_beside_71 ?_
          refine z_goto C.c (tgt := 76) dL_beside_72 (by decide) ?_
          obtain rfl := Option.some.inj h
          exact z_iret C hp hQ dL_beside_76 rfl ⟨rfl, rfl⟩
    · replace h := ite_t c h
      refine z_iload_n C.c dL_beside_26 rfl (i := 1) rfl ?_
      refine z_aload_n C.c dL_beside_27 rfl (i := 0) rfl ?_
      refine z_iconst C.c dL_beside_28 (v := (1 : Int32)) (by decide) ?_
      refine z_iald C dL_beside_29 hw0 (by decide) ?_
      refine z_iadd C.c dL_beside_30 ?_
      refine z_aload_n C.c dL_beside_31 rfl (i := 0) rfl ?_
      refine z_iconst C.c dL_beside_32 (v := (0 : Int32)) (by decide) ?_
      refine z_iald C dL_beside_33 hw0 (by decide) ?_
      refine z_aload_n C.c dL_beside_34 rfl (i := 0) rfl ?_
      refine z_iconst C.c dL_beside_35 (v := (1 : Int32)) (by decide) ?_
      refine z_iald C dL_beside_36 hw0 (by decide) ?_
      refine z_imul C.c dL_beside_37 ?_
      refine z_icmp_ge C.c (tgt := 49) dL_beside_38 (by decide) (fun c => ?_) (fun c => ?_)
      · replace h := ite_t c h
        refine z_iconst C.c dL_beside_49 (v := (-1 : Int32)) (by decide) ?_
        obtain rfl := Option.some.inj h
        exact z_iret C hp hQ dL_beside_50 rfl ⟨rfl, rfl⟩
      · replace h := ite_f c h
        refine z_iload_n C.c dL_beside_41 rfl (i := 1) rfl ?_
        refine z_aload_n C.c dL_beside_42 rfl (i := 0) rfl ?_
        refine z_iconst C.c dL_beside_43 (v := (1 : Int32)) (by decide) ?_
        refine z_iald C dL_beside_44 hw0 (by decide) ?_
        refine z_iadd C.c dL_beside_45 ?_
        refine z_goto C.c (tgt := 50) dL_beside_46 (by decide) ?_
        obtain rfl := Option.some.inj h
        exact z_iret C hp hQ dL_beside_50 rfl ⟨rfl, rfl⟩
  · replace h := ite_t c h
    refine z_iload_n C.c dL_beside_4 rfl (i := 1) rfl ?_
    refine z_aload_n C.c dL_beside_5 rfl (i := 0) rfl ?_
    refine z_iconst C.c dL_beside_6 (v := (1 : Int32)) (by decide) ?_
    refine z_iald C dL_beside_7 hw0 (by decide) ?_
    refine z_icmp_lt C.c (tgt := 19) dL_beside_8 (by decide) (fun c => ?_) (fun c => ?_)
    · replace h := ite_t c h
      refine z_iconst C.c dL_beside_19 (v := (-1 : Int32)) (by decide) ?_
      obtain rfl := Option.some.inj h
      exact z_iret C hp hQ dL_beside_20 rfl ⟨rfl, rfl⟩
    · replace h := ite_f c h
      refine z_iload_n C.c dL_beside_11 rfl (i := 1) rfl ?_
      refine z_aload_n C.c dL_beside_12 rfl (i := 0) rfl ?_
      refine z_iconst C.c dL_beside_13 (v := (1 : Int32)) (by decide) ?_
      refine z_iald C dL_beside_14 hw0 (by decide) ?_
      refine z_isub C.c dL_beside_15 ?_
      refine z_goto C.c (tgt := 20) dL_beside_16 (by decide) ?_
      obtain rfl := Option.some.inj h
      exact z_iret C hp hQ dL_beside_20 rfl ⟨rfl, rfl⟩
def fL_beside (q0 : Nat) (a1 : Int32) (a2 : Int32) (σ : LwS) : Option (Int32 × LwS) := fL_beside_b0 q0 a1 a2 σ
theorem ct_L_beside {q0 : Nat} {a1 : Int32} {a2 : Int32} {r0 : Nat} {V : Wl} {b Ln : Nat} {xs : Nat → Int32} {σ : LwS} {p : Int32 × LwS} (hq0 : V[q0]? = some (r0, 63)) (hs : σ.2.2 = 0) (h : fL_beside q0 a1 a2 σ = some p) : CtZ V yL_beside cL_beside 3 (some .int) 1 0 b Ln xs (fun ad => [.ref r0, .int a1, .int a2]) σ (ozI p) :=
 ctz_of (L0 := fun ad => [some (.ref r0), some (.int a1), some (.int a2)]) (by decide) hs (fun _ => Nat.le_of_ble_eq_true rfl) (fun _ => rfl) (fun K C hQ => z_mask [true, true, true] rfl (bL_beside_b0 C Pf.rf hq0 hQ h))
-- L_day
theorem dL_day_0 : decode cL_day 0 = .ok (.aload 4, 2) := by decide +kernel
theorem dL_day_2 : decode cL_day 2 = .ok (.iconst 2, 1) := by decide +kernel
theorem dL_day_3 : decode cL_day 3 = .ok (.dup2, 1) := by decide +kernel
theorem dL_day_4 : decode cL_day 4 = .ok (.iaload, 1) := by decide +kernel
theorem dL_day_5 : decode cL_day 5 = .ok (.iconst 1, 1) := by decide +kernel
theorem dL_day_6 : decode cL_day 6 = .ok (.iadd, 1) := by decide +kernel
theorem dL_day_7 : decode cL_day 7 = .ok (.iastore, 1) := by decide +kernel
theorem dL_day_8 : decode cL_day 8 = .ok (.aload_n 0, 1) := by decide +kernel
theorem dL_day_9 : decode cL_day 9 = .ok (.iload_n 1, 1) := by decide +kernel
theorem dL_day_10 : decode cL_day 10 = .ok (.iaload, 1) := by decide +kernel
theorem dL_day_11 : decode cL_day 11 = .ok (.iconst 3, 1) := by decide +kernel
theorem dL_day_12 : decode cL_day 12 = .ok (.if_icmp .ne 9, 3) := by decide +kernel
theorem dL_day_15 : decode cL_day 15 = .ok (.iload_n 2, 1) := by decide +kernel
theorem dL_day_16 : decode cL_day 16 = .ok (.iconst 1, 1) := by decide +kernel
theorem dL_day_17 : decode cL_day 17 = .ok (.iadd, 1) := by decide +kernel
theorem dL_day_18 : decode cL_day 18 = .ok (.goto 4, 3) := by decide +kernel
theorem dL_day_21 : decode cL_day 21 = .ok (.iload_n 2, 1) := by decide +kernel
theorem dL_day_22 : decode cL_day 22 = .ok (.aload 4, 2) := by decide +kernel
theorem dL_day_24 : decode cL_day 24 = .ok (.iconst 0, 1) := by decide +kernel
theorem dL_day_25 : decode cL_day 25 = .ok (.iaload, 1) := by decide +kernel
theorem dL_day_26 : decode cL_day 26 = .ok (.imul, 1) := by decide +kernel
theorem dL_day_27 : decode cL_day 27 = .ok (.bipush 100, 2) := by decide +kernel
theorem dL_day_29 : decode cL_day 29 = .ok (.idiv, 1) := by decide +kernel
theorem dL_day_30 : decode cL_day 30 = .ok (.iconst 1, 1) := by decide +kernel
theorem dL_day_31 : decode cL_day 31 = .ok (.iadd, 1) := by decide +kernel
theorem dL_day_32 : decode cL_day 32 = .ok (.istore 5, 2) := by decide +kernel
theorem dL_day_34 : decode cL_day 34 = .ok (.aload_n 0, 1) := by decide +kernel
theorem dL_day_35 : decode cL_day 35 = .ok (.iload_n 1, 1) := by decide +kernel
theorem dL_day_36 : decode cL_day 36 = .ok (.iaload, 1) := by decide +kernel
theorem dL_day_37 : decode cL_day 37 = .ok (.iconst 1, 1) := by decide +kernel
theorem dL_day_38 : decode cL_day 38 = .ok (.if_icmp .eq 10, 3) := by decide +kernel
theorem dL_day_41 : decode cL_day 41 = .ok (.aload_n 0, 1) := by decide +kernel
theorem dL_day_42 : decode cL_day 42 = .ok (.iload_n 1, 1) := by decide +kernel
theorem dL_day_43 : decode cL_day 43 = .ok (.iaload, 1) := by decide +kernel
theorem dL_day_44 : decode cL_day 44 = .ok (.iconst 4, 1) := by decide +kernel
theorem dL_day_45 : decode cL_day 45 = .ok (.if_icmp .ne 14, 3) := by decide +kernel
theorem dL_day_48 : decode cL_day 48 = .ok (.iload 5, 2) := by decide +kernel
theorem dL_day_50 : decode cL_day 50 = .ok (.iconst 2, 1) := by decide +kernel
theorem dL_day_51 : decode cL_day 51 = .ok (.idiv, 1) := by decide +kernel
theorem dL_day_52 : decode cL_day 52 = .ok (.iload 5, 2) := by decide +kernel
theorem dL_day_54 : decode cL_day 54 = .ok (.iconst 2, 1) := by decide +kernel
theorem dL_day_55 : decode cL_day 55 = .ok (.irem, 1) := by decide +kernel
theorem dL_day_56 : decode cL_day 56 = .ok (.iadd, 1) := by decide +kernel
theorem dL_day_57 : decode cL_day 57 = .ok (.istore 5, 2) := by decide +kernel
theorem dL_day_59 : decode cL_day 59 = .ok (.iload_n 3, 1) := by decide +kernel
theorem dL_day_60 : decode cL_day 60 = .ok (.ifCond .eq 12, 3) := by decide +kernel
theorem dL_day_63 : decode cL_day 63 = .ok (.iload 5, 2) := by decide +kernel
theorem dL_day_65 : decode cL_day 65 = .ok (.iload 5, 2) := by decide +kernel
theorem dL_day_67 : decode cL_day 67 = .ok (.iconst 3, 1) := by decide +kernel
theorem dL_day_68 : decode cL_day 68 = .ok (.idiv, 1) := by decide +kernel
theorem dL_day_69 : decode cL_day 69 = .ok (.isub, 1) := by decide +kernel
theorem dL_day_70 : decode cL_day 70 = .ok (.istore 5, 2) := by decide +kernel
theorem dL_day_72 : decode cL_day 72 = .ok (.aload 4, 2) := by decide +kernel
theorem dL_day_74 : decode cL_day 74 = .ok (.iconst 0, 1) := by decide +kernel
theorem dL_day_75 : decode cL_day 75 = .ok (.aload 4, 2) := by decide +kernel
theorem dL_day_77 : decode cL_day 77 = .ok (.iconst 0, 1) := by decide +kernel
theorem dL_day_78 : decode cL_day 78 = .ok (.iaload, 1) := by decide +kernel
theorem dL_day_79 : decode cL_day 79 = .ok (.iload 5, 2) := by decide +kernel
theorem dL_day_81 : decode cL_day 81 = .ok (.if_icmp .le 13, 3) := by decide +kernel
theorem dL_day_84 : decode cL_day 84 = .ok (.aload 4, 2) := by decide +kernel
theorem dL_day_86 : decode cL_day 86 = .ok (.iconst 0, 1) := by decide +kernel
theorem dL_day_87 : decode cL_day 87 = .ok (.iaload, 1) := by decide +kernel
theorem dL_day_88 : decode cL_day 88 = .ok (.iload 5, 2) := by decide +kernel
theorem dL_day_90 : decode cL_day 90 = .ok (.isub, 1) := by decide +kernel
theorem dL_day_91 : decode cL_day 91 = .ok (.goto 4, 3) := by decide +kernel
theorem dL_day_94 : decode cL_day 94 = .ok (.iconst 0, 1) := by decide +kernel
theorem dL_day_95 : decode cL_day 95 = .ok (.iastore, 1) := by decide +kernel
theorem dL_day_96 : decode cL_day 96 = .ok (.aload 4, 2) := by decide +kernel
theorem dL_day_98 : decode cL_day 98 = .ok (.iconst 1, 1) := by decide +kernel
theorem dL_day_99 : decode cL_day 99 = .ok (.aload 4, 2) := by decide +kernel
theorem dL_day_101 : decode cL_day 101 = .ok (.iconst 1, 1) := by decide +kernel
theorem dL_day_102 : decode cL_day 102 = .ok (.iaload, 1) := by decide +kernel
theorem dL_day_103 : decode cL_day 103 = .ok (.iload_n 2, 1) := by decide +kernel
theorem dL_day_104 : decode cL_day 104 = .ok (.if_icmp .le 12, 3) := by decide +kernel
theorem dL_day_107 : decode cL_day 107 = .ok (.aload 4, 2) := by decide +kernel
theorem dL_day_109 : decode cL_day 109 = .ok (.iconst 1, 1) := by decide +kernel
theorem dL_day_110 : decode cL_day 110 = .ok (.iaload, 1) := by decide +kernel
theorem dL_day_111 : decode cL_day 111 = .ok (.iload_n 2, 1) := by decide +kernel
theorem dL_day_112 : decode cL_day 112 = .ok (.isub, 1) := by decide +kernel
theorem dL_day_113 : decode cL_day 113 = .ok (.goto 4, 3) := by decide +kernel
theorem dL_day_116 : decode cL_day 116 = .ok (.iconst 0, 1) := by decide +kernel
theorem dL_day_117 : decode cL_day 117 = .ok (.iastore, 1) := by decide +kernel
theorem dL_day_118 : decode cL_day 118 = .ok (.aload 4, 2) := by decide +kernel
theorem dL_day_120 : decode cL_day 120 = .ok (.iconst 1, 1) := by decide +kernel
theorem dL_day_121 : decode cL_day 121 = .ok (.iaload, 1) := by decide +kernel
theorem dL_day_122 : decode cL_day 122 = .ok (.ifCond .ne 29, 3) := by decide +kernel
theorem dL_day_125 : decode cL_day 125 = .ok (.aload_n 0, 1) := by decide +kernel
theorem dL_day_126 : decode cL_day 126 = .ok (.iload_n 1, 1) := by decide +kernel
theorem dL_day_127 : decode cL_day 127 = .ok (.iaload, 1) := by decide +kernel
theorem dL_day_128 : decode cL_day 128 = .ok (.iconst 4, 1) := by decide +kernel
theorem dL_day_129 : decode cL_day 129 = .ok (.if_icmp .eq 22, 3) := by decide +kernel
theorem dL_day_132 : decode cL_day 132 = .ok (.aload 4, 2) := by decide +kernel
theorem dL_day_134 : decode cL_day 134 = .ok (.iconst 0, 1) := by decide +kernel
theorem dL_day_135 : decode cL_day 135 = .ok (.dup2, 1) := by decide +kernel
theorem dL_day_136 : decode cL_day 136 = .ok (.iaload, 1) := by decide +kernel
theorem dL_day_137 : decode cL_day 137 = .ok (.aload 4, 2) := by decide +kernel
theorem dL_day_139 : decode cL_day 139 = .ok (.iconst 0, 1) := by decide +kernel
theorem dL_day_140 : decode cL_day 140 = .ok (.iaload, 1) := by decide +kernel
theorem dL_day_141 : decode cL_day 141 = .ok (.iconst 5, 1) := by decide +kernel
theorem dL_day_142 : decode cL_day 142 = .ok (.idiv, 1) := by decide +kernel
theorem dL_day_143 : decode cL_day 143 = .ok (.isub, 1) := by decide +kernel
theorem dL_day_144 : decode cL_day 144 = .ok (.iastore, 1) := by decide +kernel
theorem dL_day_145 : decode cL_day 145 = .ok (.aload 4, 2) := by decide +kernel
theorem dL_day_147 : decode cL_day 147 = .ok (.iconst 1, 1) := by decide +kernel
theorem dL_day_148 : decode cL_day 148 = .ok (.bipush 9, 2) := by decide +kernel
theorem dL_day_150 : decode cL_day 150 = .ok (.iastore, 1) := by decide +kernel
theorem dL_day_151 : decode cL_day 151 = .ok (.aload_n 0, 1) := by decide +kernel
theorem dL_day_152 : decode cL_day 152 = .ok (.iload_n 1, 1) := by decide +kernel
theorem dL_day_153 : decode cL_day 153 = .ok (.iaload, 1) := by decide +kernel
theorem dL_day_154 : decode cL_day 154 = .ok (.iconst 2, 1) := by decide +kernel
theorem dL_day_155 : decode cL_day 155 = .ok (.if_icmp .ne 46, 3) := by decide +kernel
theorem dL_day_158 : decode cL_day 158 = .ok (.aload 4, 2) := by decide +kernel
theorem dL_day_160 : decode cL_day 160 = .ok (.iconst 2, 1) := by decide +kernel
theorem dL_day_161 : decode cL_day 161 = .ok (.iaload, 1) := by decide +kernel
theorem dL_day_162 : decode cL_day 162 = .ok (.aload_n 0, 1) := by decide +kernel
theorem dL_day_163 : decode cL_day 163 = .ok (.iload_n 1, 1) := by decide +kernel
theorem dL_day_164 : decode cL_day 164 = .ok (.iconst 4, 1) := by decide +kernel
theorem dL_day_165 : decode cL_day 165 = .ok (.iadd, 1) := by decide +kernel
theorem dL_day_166 : decode cL_day 166 = .ok (.iaload, 1) := by decide +kernel
theorem dL_day_167 : decode cL_day 167 = .ok (.irem, 1) := by decide +kernel
theorem dL_day_168 : decode cL_day 168 = .ok (.ifCond .ne 33, 3) := by decide +kernel
theorem dL_day_171 : decode cL_day 171 = .ok (.aload 4, 2) := by decide +kernel
theorem dL_day_173 : decode cL_day 173 = .ok (.iconst 0, 1) := by decide +kernel
theorem dL_day_174 : decode cL_day 174 = .ok (.dup2, 1) := by decide +kernel
theorem dL_day_175 : decode cL_day 175 = .ok (.iaload, 1) := by decide +kernel
theorem dL_day_176 : decode cL_day 176 = .ok (.aload 4, 2) := by decide +kernel
theorem dL_day_178 : decode cL_day 178 = .ok (.iconst 0, 1) := by decide +kernel
theorem dL_day_179 : decode cL_day 179 = .ok (.iaload, 1) := by decide +kernel
theorem dL_day_180 : decode cL_day 180 = .ok (.bipush 10, 2) := by decide +kernel
theorem dL_day_182 : decode cL_day 182 = .ok (.idiv, 1) := by decide +kernel
theorem dL_day_183 : decode cL_day 183 = .ok (.aload 4, 2) := by decide +kernel
theorem dL_day_185 : decode cL_day 185 = .ok (.iconst 0, 1) := by decide +kernel
theorem dL_day_186 : decode cL_day 186 = .ok (.iaload, 1) := by decide +kernel
theorem dL_day_187 : decode cL_day 187 = .ok (.bipush 10, 2) := by decide +kernel
theorem dL_day_189 : decode cL_day 189 = .ok (.irem, 1) := by decide +kernel
theorem dL_day_190 : decode cL_day 190 = .ok (.ifCond .le 7, 3) := by decide +kernel
theorem dL_day_193 : decode cL_day 193 = .ok (.iconst 1, 1) := by decide +kernel
theorem dL_day_194 : decode cL_day 194 = .ok (.goto 4, 3) := by decide +kernel
theorem dL_day_197 : decode cL_day 197 = .ok (.iconst 0, 1) := by decide +kernel
theorem dL_day_198 : decode cL_day 198 = .ok (.iadd, 1) := by decide +kernel
theorem dL_day_199 : decode cL_day 199 = .ok (.isub, 1) := by decide +kernel
theorem dL_day_200 : decode cL_day 200 = .ok (.iastore, 1) := by decide +kernel
theorem dL_day_201 : decode cL_day 201 = .ok (.return_, 1) := by decide +kernel
theorem cw_L_day : Cw yL_day cL_day 6 none 5 := ⟨aw_669, aw_18, ⟨by decide, by decide⟩, by decide +kernel, by decide⟩
def fL_day_b198 (y0 : Int32) (y1 : Int32) (y2 : Int32) (y3 : Int32) (u4 : Nat) (σ : LwS) : Option (LwS) :=
  if inb y3 3 = true then (some (wT σ u4 (y3).toNatClampNeg (y2 - (y1 + y0)))) else none
def fL_day_b151 (w0 : Nat) (x1 : Int32) (w4 : Nat) (σ : LwS) : Option (LwS) :=
  if inb x1 26 = true then (if (rT σ w0 (x1).toNatClampNeg) = (2 : Int32) then (if inb (x1 + (4 : Int32)) 26 = true then (if (rT σ w0 ((x1 + (4 : Int32))).toNatClampNeg) = 0 then none else if ((rT σ w4 ((2 : Int32)).toNatClampNeg) - (rT σ w4 ((2 : Int32)).toNatClampNeg) / (rT σ w0 ((x1 + (4 : Int32))).toNatClampNeg) * (rT σ w0 ((x1 + (4 : Int32))).toNatClampNeg)) = 0 then (if ((rT σ w4 ((0 : Int32)).toNatClampNeg) - (rT σ w4 ((0 : Int32)).toNatClampNeg) / (10 : Int32) * (10 : Int32)) ≤ 0 then (fL_day_b198 (0 : Int32) ((rT σ w4 ((0 : Int32)).toNatClampNeg) / (10 : Int32)) (rT σ w4 ((0 : Int32)).toNatClampNeg) (0 : Int32) w4 σ) else (fL_day_b198 (1 : Int32) ((rT σ w4 ((0 : Int32)).toNatClampNeg) / (10 : Int32)) (rT σ w4 ((0 : Int32)).toNatClampNeg) (0 : Int32) w4 σ)) else (some σ)) else none) else (some σ)) else none
def fL_day_b117 (w0 : Nat) (x1 : Int32) (w4 : Nat) (y0 : Int32) (y1 : Int32) (u2 : Nat) (σ : LwS) : Option (LwS) :=
  if inb y1 3 = true then (if (rT (wT σ u2 (y1).toNatClampNeg y0) w4 ((1 : Int32)).toNatClampNeg) = 0 then (if inb x1 26 = true then (if (rT (wT σ u2 (y1).toNatClampNeg y0) w0 (x1).toNatClampNeg) = (4 : Int32) then (fL_day_b151 w0 x1 w4 (wT σ u2 (y1).toNatClampNeg y0)) else (fL_day_b151 w0 x1 w4 (wT (wT (wT σ u2 (y1).toNatClampNeg y0) w4 ((0 : Int32)).toNatClampNeg ((rT (wT σ u2 (y1).toNatClampNeg y0) w4 ((0 : Int32)).toNatClampNeg) - ((rT (wT σ u2 (y1).toNatClampNeg y0) w4 ((0 : Int32)).toNatClampNeg) / (5 : Int32)))) w4 ((1 : Int32)).toNatClampNeg (9 : Int32)))) else none) else (fL_day_b151 w0 x1 w4 (wT σ u2 (y1).toNatClampNeg y0))) else none
def fL_day_b95 (w0 : Nat) (x1 : Int32) (x2 : Int32) (w4 : Nat) (y0 : Int32) (y1 : Int32) (u2 : Nat) (σ : LwS) : Option (LwS) :=
  if inb y1 3 = true then (if (rT (wT σ u2 (y1).toNatClampNeg y0) w4 ((1 : Int32)).toNatClampNeg) ≤ x2 then (fL_day_b117 w0 x1 w4 (0 : Int32) (1 : Int32) w4 (wT σ u2 (y1).toNatClampNeg y0)) else (fL_day_b117 w0 x1 w4 ((rT (wT σ u2 (y1).toNatClampNeg y0) w4 ((1 : Int32)).toNatClampNeg) - x2) (1 : Int32) w4 (wT σ u2 (y1).toNatClampNeg y0))) else none
def fL_day_b72 (w0 : Nat) (x1 : Int32) (x2 : Int32) (w4 : Nat) (x5 : Int32) (σ : LwS) : Option (LwS) :=
  if (rT σ w4 ((0 : Int32)).toNatClampNeg) ≤ x5 then (fL_day_b95 w0 x1 x2 w4 (0 : Int32) (0 : Int32) w4 σ) else (fL_day_b95 w0 x1 x2 w4 ((rT σ w4 ((0 : Int32)).toNatClampNeg) - x5) (0 : Int32) w4 σ)
def fL_day_b59 (w0 : Nat) (x1 : Int32) (x2 : Int32) (x3 : Int32) (w4 : Nat) (x5 : Int32) (σ : LwS) : Option (LwS) :=
  if x3 = 0 then (fL_day_b72 w0 x1 x2 w4 x5 σ) else (fL_day_b72 w0 x1 x2 w4 (x5 - (x5 / (3 : Int32))) σ)
def fL_day_b48 (w0 : Nat) (x1 : Int32) (x2 : Int32) (x3 : Int32) (w4 : Nat) (x5 : Int32) (σ : LwS) : Option (LwS) :=
  fL_day_b59 w0 x1 x2 x3 w4 ((x5 / (2 : Int32)) + (x5 - x5 / (2 : Int32) * (2 : Int32))) σ
def fL_day_b22 (w0 : Nat) (x1 : Int32) (x2 : Int32) (x3 : Int32) (w4 : Nat) (y0 : Int32) (σ : LwS) : Option (LwS) :=
  if inb x1 26 = true then (if (rT σ w0 (x1).toNatClampNeg) = (1 : Int32) then (fL_day_b48 w0 x1 x2 x3 w4 (((y0 * (rT σ w4 ((0 : Int32)).toNatClampNeg)) / (100 : Int32)) + (1 : Int32)) σ) else (if inb x1 26 = true then (if (rT σ w0 (x1).toNatClampNeg) = (4 : Int32) then (fL_day_b48 w0 x1 x2 x3 w4 (((y0 * (rT σ w4 ((0 : Int32)).toNatClampNeg)) / (100 : Int32)) + (1 : Int32)) σ) else (fL_day_b59 w0 x1 x2 x3 w4 (((y0 * (rT σ w4 ((0 : Int32)).toNatClampNeg)) / (100 : Int32)) + (1 : Int32)) σ)) else none)) else none
def fL_day_b0 (w0 : Nat) (x1 : Int32) (x2 : Int32) (x3 : Int32) (w4 : Nat) (σ : LwS) : Option (LwS) :=
  if inb x1 26 = true then (if (rT (wT σ w4 ((2 : Int32)).toNatClampNeg ((rT σ w4 ((2 : Int32)).toNatClampNeg) + (1 : Int32))) w0 (x1).toNatClampNeg) = (3 : Int32) then (fL_day_b22 w0 x1 x2 x3 w4 (x2 + (1 : Int32)) (wT σ w4 ((2 : Int32)).toNatClampNeg ((rT σ w4 ((2 : Int32)).toNatClampNeg) + (1 : Int32)))) else (fL_day_b22 w0 x1 x2 x3 w4 x2 (wT σ w4 ((2 : Int32)).toNatClampNeg ((rT σ w4 ((2 : Int32)).toNatClampNeg) + (1 : Int32))))) else none
set_option maxRecDepth 8000 in
theorem bL_day_b198 {K : KT} {y0 : Int32} {y1 : Int32} {y2 : Int32} {y3 : Int32} {u4 : Nat} {v4 : Nat} {σ : LwS} {o : LwS} {V Vc : Wl} {b Ln : Nat} {xs : Nat → Int32} (C : CZ K cL_day RL 6 1 0 none b Ln xs) (hp : Pf Vc V) (hu4 : V[u4]? = some (v4, 3)) (hQ : RZ K Vc 0 (ozV o)) (h : fL_day_b198 y0 y1 y2 y3 u4 σ = some o) : GZ K 0 198 [none, none, none, none, none, none] [.int y0, .int y1, .int y2, .int y3, .ref v4] V σ := by
  unfold fL_day_b198 at h
  refine z_iadd C.c dL_day_198 ?_
  refine z_isub C.c dL_day_199 ?_
  obtain ⟨c8, h⟩ := chk h
  refine z_iast C dL_day_200 hu4 c8 ?_
  obtain rfl := Option.some.inj h
  exact z_vret C hp hQ dL_day_201 ⟨rfl, rfl⟩
set_option maxRecDepth 8000 in
theorem bL_day_b151 {K : KT} {w0 : Nat} {x1 : Int32} {w4 : Nat} {r0 : Nat} {r4 : Nat} {σ : LwS} {o : LwS} {V Vc : Wl} {b Ln : Nat} {xs : Nat → Int32} (C : CZ K cL_day RL 6 1 0 none b Ln xs) (hp : Pf Vc V) (hw0 : V[w0]? = some (r0, 26)) (hw4 : V[w4]? = some (r4, 3)) (hQ : RZ K Vc 0 (ozV o)) (h : fL_day_b151 w0 x1 w4 σ = some o) : GZ K 0 151 [some (.ref r0), some (.int x1), none, none, some (.ref r4), none] [] V σ := by
  unfold fL_day_b151 at h
  refine z_aload_n C.c dL_day_151 rfl (i := 0) rfl ?_
  refine z_iload_n C.c dL_day_152 rfl (i := 1) rfl ?_
  obtain ⟨c5, h⟩ := chk h
  refine z_iald C dL_day_153 hw0 c5 ?_
  refine z_iconst C.c dL_day_154 (v := (2 : Int32)) (by decide) ?_
  refine z_icmp_ne C.c (tgt := 201) dL_day_155 (by decide) (fun c => ?_) (fun c => ?_)
  · replace h := ite_f c h
    obtain rfl := Option.some.inj h
    exact z_vret C hp hQ dL_day_201 ⟨rfl, rfl⟩
  · replace h := ite_t c h
    refine z_aload C.c dL_day_158 (i := 4) rfl ?_
    refine z_iconst C.c dL_day_160 (v := (2 : Int32)) (by decide) ?_
    refine z_iald C dL_day_161 hw4 (by decide) ?_
    refine z_aload_n C.c dL_day_162 rfl (i := 0) rfl ?_
    refine z_iload_n C.c dL_day_163 rfl (i := 1) rfl ?_
    refine z_iconst C.c dL_day_164 (v := (4 : Int32)) (by decide) ?_
    refine z_iadd C.c dL_day_165 ?_
    obtain ⟨c6, h⟩ := chk h
    refine z_iald C dL_day_166 hw0 c6 ?_
    obtain ⟨c7, h⟩ := chk0 h
    refine z_irem C.c dL_day_167 c7 ?_
    refine z_if_ne C.c (tgt := 201) dL_day_168 (by decide) (fun c => ?_) (fun c => ?_)
    · replace h := ite_f c h
      obtain rfl := Option.some.inj h
      exact z_vret C hp hQ dL_day_201 ⟨rfl, rfl⟩
    · replace h := ite_t c h
      refine z_aload C.c dL_day_171 (i := 4) rfl ?_
      refine z_iconst C.c dL_day_173 (v := (0 : Int32)) (by decide) ?_
      refine z_dup2 C.c dL_day_174 rfl rfl ?_
      refine z_iald C dL_day_175 hw4 (by decide) ?_
      refine z_aload C.c dL_day_176 (i := 4) rfl ?_
      refine z_iconst C.c dL_day_178 (v := (0 : Int32)) (by decide) ?_
      refine z_iald C dL_day_179 hw4 (by decide) ?_
      refine z_bipush C.c dL_day_180 (v := (10 : Int32)) (by decide) ?_
      refine z_idiv C.c dL_day_182 (by decide) ?_
      refine z_aload C.c dL_day_183 (i := 4) rfl ?_
      refine z_iconst C.c dL_day_185 (v := (0 : Int32)) (by decide) ?_
      refine z_iald C dL_day_186 hw4 (by decide) ?_
      refine z_bipush C.c dL_day_187 (v := (10 : Int32)) (by decide) ?_
      refine z_irem C.c dL_day_189 (by decide) ?_
      refine z_if_le C.c (tgt := 197) dL_day_190 (by decide) (fun c => ?_) (fun c => ?_)
      · replace h := ite_t c h
        refine z_iconst C.c dL_day_197 (v := (0 : Int32)) (by decide) ?_
        exact z_mask [false, false, false, false, false, false] rfl (bL_day_b198 C hp hw4 hQ h)
      · replace h := ite_f c h
        refine z_iconst C.c dL_day_193 (v := (1 : Int32)) (by decide) ?_
        refine z_goto C.c (tgt := 198) dL_day_194 (by decide) ?_
        exact z_mask [false, false, false, false, false, false] rfl (bL_day_b198 C hp hw4 hQ h)
set_option maxRecDepth 8000 in
theorem bL_day_b117 {K : KT} {w0 : Nat} {x1 : Int32} {w4 : Nat} {y0 : Int32} {y1 : Int32} {u2 : Nat} {r0 : Nat} {r4 : Nat} {v2 : Nat} {σ : LwS} {o : LwS} {V Vc : Wl} {b Ln : Nat} {xs : Nat → Int32} (C : CZ K cL_day RL 6 1 0 none b Ln xs) (hp : Pf Vc V) (hw0 : V[w0]? = some (r0, 26)) (hw4 : V[w4]? = some (r4, 3)) (hu2 : V[u2]? = some (v2, 3)) (hQ : RZ K Vc 0 (ozV o)) (h : fL_day_b117 w0 x1 w4 y0 y1 u2 σ = some o) : GZ K 0 117 [some (.ref r0), some (.int x1), none, none, some (.ref r4), none] [.int y0, .int y1, .ref v2] V σ := by
  unfold fL_day_b117 at h
  obtain ⟨c4, h⟩ := chk h
  refine z_iast C dL_day_117 hu2 c4 ?_
  refine z_aload C.c dL_day_118 (i := 4) rfl ?_
  refine z_iconst C.c dL_day_120 (v := (1 : Int32)) (by decide) ?_
  refine z_iald C dL_day_121 hw4 (by decide) ?_
  refine z_if_ne C.c (tgt := 151) dL_day_122 (by decide) (fun c => ?_) (fun c => ?_)
  · replace h := ite_f c h
    exact z_mask [true, true, false, false, true, false] rfl (bL_day_b151 C hp hw0 hw4 hQ h)
  · replace h := ite_t c h
    refine z_aload_n C.c dL_day_125 rfl (i := 0) rfl ?_
    refine z_iload_n C.c dL_day_126 rfl (i := 1) rfl ?_
    obtain ⟨c9, h⟩ := chk h
    refine z_iald C dL_day_127 hw0 c9 ?_
    refine z_iconst C.c dL_day_128 (v := (4 : Int32)) (by decide) ?_
    refine z_icmp_eq C.c (tgt := 151) dL_day_129 (by decide) (fun c => ?_) (fun c => ?_)
    · replace h := ite_t c h
      exact z_mask [true, true, false, false, true, false] rfl (bL_day_b151 C hp hw0 hw4 hQ h)
    · replace h := ite_f c h
      refine z_aload C.c dL_day_132 (i := 4) rfl ?_
      refine z_iconst C.c dL_day_134 (v := (0 : Int32)) (by decide) ?_
      refine z_dup2 C.c dL_day_135 rfl rfl ?_
      refine z_iald C dL_day_136 hw4 (by decide) ?_
      refine z_aload C.c dL_day_137 (i := 4) rfl ?_
      refine z_iconst C.c dL_day_139 (v := (0 : Int32)) (by decide) ?_
      refine z_iald C dL_day_140 hw4 (by decide) ?_
      refine z_iconst C.c dL_day_141 (v := (5 : Int32)) (by decide) ?_
      refine z_idiv C.c dL_day_142 (by decide) ?_
      refine z_isub C.c dL_day_143 ?_
      refine z_iast C dL_day_144 hw4 (by decide) ?_
      refine z_aload C.c dL_day_145 (i := 4) rfl ?_
      refine z_iconst C.c dL_day_147 (v := (1 : Int32)) (by decide) ?_
      refine z_bipush C.c dL_day_148 (v := (9 : Int32)) (by decide) ?_
      refine z_iast C dL_day_150 hw4 (by decide) ?_
      exact z_mask [true, true, false, false, true, false] rfl (bL_day_b151 C hp hw0 hw4 hQ h)
set_option maxRecDepth 8000 in
theorem bL_day_b95 {K : KT} {w0 : Nat} {x1 : Int32} {x2 : Int32} {w4 : Nat} {y0 : Int32} {y1 : Int32} {u2 : Nat} {r0 : Nat} {r4 : Nat} {v2 : Nat} {σ : LwS} {o : LwS} {V Vc : Wl} {b Ln : Nat} {xs : Nat → Int32} (C : CZ K cL_day RL 6 1 0 none b Ln xs) (hp : Pf Vc V) (hw0 : V[w0]? = some (r0, 26)) (hw4 : V[w4]? = some (r4, 3)) (hu2 : V[u2]? = some (v2, 3)) (hQ : RZ K Vc 0 (ozV o)) (h : fL_day_b95 w0 x1 x2 w4 y0 y1 u2 σ = some o) : GZ K 0 95 [some (.ref r0), some (.int x1), some (.int x2), none, some (.ref r4), none] [.int y0, .int y1, .ref v2] V σ := by
  unfold fL_day_b95 at h
  obtain ⟨c3, h⟩ := chk h
  refine z_iast C dL_day_95 hu2 c3 ?_
  refine z_aload C.c dL_day_96 (i := 4) rfl ?_
  refine z_iconst C.c dL_day_98 (v := (1 : Int32)) (by decide) ?_
  refine z_aload C.c dL_day_99 (i := 4) rfl ?_
  refine z_iconst C.c dL_day_101 (v := (1 : Int32)) (by decide) ?_
  refine z_iald C dL_day_102 hw4 (by decide) ?_
  refine z_iload_n C.c dL_day_103 rfl (i := 2) rfl ?_
  refine z_icmp_le C.c (tgt := 116) dL_day_104 (by decide) (fun c => ?_) (fun c => ?_)
  · replace h := ite_t c h
    refine z_iconst C.c dL_day_116 (v := (0 : Int32)) (by decide) ?_
    exact z_mask [true, true, false, false, true, false] rfl (bL_day_b117 C hp hw0 hw4 hw4 hQ h)
  · replace h := ite_f c h
    refine z_aload C.c dL_day_107 (i := 4) rfl ?_
    refine z_iconst C.c dL_day_109 (v := (1 : Int32)) (by decide) ?_
    refine z_iald C dL_day_110 hw4 (by decide) ?_
    refine z_iload_n C.c dL_day_111 rfl (i := 2) rfl ?_
    refine z_isub C.c dL_day_112 ?_
    refine z_goto C.c (tgt := 117) dL_day_113 (by decide) ?_
    exact z_mask [true, true, false, false, true, false] rfl (bL_day_b117 C hp hw0 hw4 hw4 hQ h)
set_option maxRecDepth 8000 in
theorem bL_day_b72 {K : KT} {w0 : Nat} {x1 : Int32} {x2 : Int32} {w4 : Nat} {x5 : Int32} {r0 : Nat} {r4 : Nat} {σ : LwS} {o : LwS} {V Vc : Wl} {b Ln : Nat} {xs : Nat → Int32} (C : CZ K cL_day RL 6 1 0 none b Ln xs) (hp : Pf Vc V) (hw0 : V[w0]? = some (r0, 26)) (hw4 : V[w4]? = some (r4, 3)) (hQ : RZ K Vc 0 (ozV o)) (h : fL_day_b72 w0 x1 x2 w4 x5 σ = some o) : GZ K 0 72 [some (.ref r0), some (.int x1), some (.int x2), none, some (.ref r4), some (.int x5)] [] V σ := by
  unfold fL_day_b72 at h
  refine z_aload C.c dL_day_72 (i := 4) rfl ?_
  refine z_iconst C.c dL_day_74 (v := (0 : Int32)) (by decide) ?_
  refine z_aload C.c dL_day_75 (i := 4) rfl ?_
  refine z_iconst C.c dL_day_77 (v := (0 : Int32)) (by decide) ?_
  refine z_iald C dL_day_78 hw4 (by decide) ?_
  refine z_iload C.c dL_day_79 (i := 5) rfl ?_
  refine z_icmp_le C.c (tgt := 94) dL_day_81 (by decide) (fun c => ?_) (fun c => ?_)
  · replace h := ite_t c h
    refine z_iconst C.c dL_day_94 (v := (0 : Int32)) (by decide) ?_
    exact z_mask [true, true, true, false, true, false] rfl (bL_day_b95 C hp hw0 hw4 hw4 hQ h)
  · replace h := ite_f c h
    refine z_aload C.c dL_day_84 (i := 4) rfl ?_
    refine z_iconst C.c dL_day_86 (v := (0 : Int32)) (by decide) ?_
    refine z_iald C dL_day_87 hw4 (by decide) ?_
    refine z_iload C.c dL_day_88 (i := 5) rfl ?_
    refine z_isub C.c dL_day_90 ?_
    refine z_goto C.c (tgt := 95) dL_day_91 (by decide) ?_
    exact z_mask [true, true, true, false, true, false] rfl (bL_day_b95 C hp hw0 hw4 hw4 hQ h)
set_option maxRecDepth 8000 in
theorem bL_day_b59 {K : KT} {w0 : Nat} {x1 : Int32} {x2 : Int32} {x3 : Int32} {w4 : Nat} {x5 : Int32} {r0 : Nat} {r4 : Nat} {σ : LwS} {o : LwS} {V Vc : Wl} {b Ln : Nat} {xs : Nat → Int32} (C : CZ K cL_day RL 6 1 0 none b Ln xs) (hp : Pf Vc V) (hw0 : V[w0]? = some (r0, 26)) (hw4 : V[w4]? = some (r4, 3)) (hQ : RZ K Vc 0 (ozV o)) (h : fL_day_b59 w0 x1 x2 x3 w4 x5 σ = some o) : GZ K 0 59 [some (.ref r0), some (.int x1), some (.int x2), some (.int x3), some (.ref r4), some (.int x5)] [] V σ := by
  unfold fL_day_b59 at h
  refine z_iload_n C.c dL_day_59 rfl (i := 3) rfl ?_
  refine z_if_eq C.c (tgt := 72) dL_day_60 (by decide) (fun c => ?_) (fun c => ?_)
  · replace h := ite_t c h
    exact z_mask [true, true, true, false, true, true] rfl (bL_day_b72 C hp hw0 hw4 hQ h)
  · replace h := ite_f c h
    refine z_iload C.c dL_day_63 (i := 5) rfl ?_
    refine z_iload C.c dL_day_65 (i := 5) rfl ?_
    refine z_iconst C.c dL_day_67 (v := (3 : Int32)) (by decide) ?_
    refine z_idiv C.c dL_day_68 (by decide) ?_
    refine z_isub C.c dL_day_69 ?_
    refine z_istore C.c (i := 5) (L' := [some (.ref r0), some (.int x1), some (.int x2), some (.int x3), some (.ref r4), some (.int (x5 - (x5 / (3 : Int32))))]) dL_day_70 (Nat.le_of_ble_eq_true rfl) rfl ?_
    exact z_mask [true, true, true, false, true, true] rfl (bL_day_b72 C hp hw0 hw4 hQ h)
set_option maxRecDepth 8000 in
theorem bL_day_b48 {K : KT} {w0 : Nat} {x1 : Int32} {x2 : Int32} {x3 : Int32} {w4 : Nat} {x5 : Int32} {r0 : Nat} {r4 : Nat} {σ : LwS} {o : LwS} {V Vc : Wl} {b Ln : Nat} {xs : Nat → Int32} (C : CZ K cL_day RL 6 1 0 none b Ln xs) (hp : Pf Vc V) (hw0 : V[w0]? = some (r0, 26)) (hw4 : V[w4]? = some (r4, 3)) (hQ : RZ K Vc 0 (ozV o)) (h : fL_day_b48 w0 x1 x2 x3 w4 x5 σ = some o) : GZ K 0 48 [some (.ref r0), some (.int x1), some (.int x2), some (.int x3), some (.ref r4), some (.int x5)] [] V σ := by
  unfold fL_day_b48 at h
  refine z_iload C.c dL_day_48 (i := 5) rfl ?_
  refine z_iconst C.c dL_day_50 (v := (2 : Int32)) (by decide) ?_
  refine z_idiv C.c dL_day_51 (by decide) ?_
  refine z_iload C.c dL_day_52 (i := 5) rfl ?_
  refine z_iconst C.c dL_day_54 (v := (2 : Int32)) (by decide) ?_
  refine z_irem C.c dL_day_55 (by decide) ?_
  refine z_iadd C.c dL_day_56 ?_
  refine z_istore C.c (i := 5) (L' := [some (.ref r0), some (.int x1), some (.int x2), some (.int x3), some (.ref r4), some (.int ((x5 / (2 : Int32)) + (x5 - x5 / (2 : Int32) * (2 : Int32))))]) dL_day_57 (Nat.le_of_ble_eq_true rfl) rfl ?_
  exact z_mask [true, true, true, true, true, true] rfl (bL_day_b59 C hp hw0 hw4 hQ h)
set_option maxRecDepth 8000 in
theorem bL_day_b22 {K : KT} {w0 : Nat} {x1 : Int32} {x2 : Int32} {x3 : Int32} {w4 : Nat} {y0 : Int32} {r0 : Nat} {r4 : Nat} {σ : LwS} {o : LwS} {V Vc : Wl} {b Ln : Nat} {xs : Nat → Int32} (C : CZ K cL_day RL 6 1 0 none b Ln xs) (hp : Pf Vc V) (hw0 : V[w0]? = some (r0, 26)) (hw4 : V[w4]? = some (r4, 3)) (hQ : RZ K Vc 0 (ozV o)) (h : fL_day_b22 w0 x1 x2 x3 w4 y0 σ = some o) : GZ K 0 22 [some (.ref r0), some (.int x1), some (.int x2), some (.int x3), some (.ref r4), none] [.int y0] V σ := by
  unfold fL_day_b22 at h
  refine z_aload C.c dL_day_22 (i := 4) rfl ?_
  refine z_iconst C.c dL_day_24 (v := (0 : Int32)) (by decide) ?_
  refine z_iald C dL_day_25 hw4 (by decide) ?_
  refine z_imul C.c dL_day_26 ?_
  refine z_bipush C.c dL_day_27 (v := (100 : Int32)) (by decide) ?_
  refine z_idiv C.c dL_day_29 (by decide) ?_
  refine z_iconst C.c dL_day_30 (v := (1 : Int32)) (by decide) ?_
  refine z_iadd C.c dL_day_31 ?_
  refine z_istore C.c (i := 5) (L' := [some (.ref r0), some (.int x1), some (.int x2), some (.int x3), some (.ref r4), some (.int (((y0 * (rT σ w4 ((0 : Int32)).toNatClampNeg)) / (100 : Int32)) + (1 : Int32)))]) dL_day_32 (Nat.le_of_ble_eq_true rfl) rfl ?_
  refine z_aload_n C.c dL_day_34 rfl (i := 0) rfl ?_
  refine z_iload_n C.c dL_day_35 rfl (i := 1) rfl ?_
  obtain ⟨c2, h⟩ := chk h
  refine z_iald C dL_day_36 hw0 c2 ?_
  refine z_iconst C.c dL_day_37 (v := (1 : Int32)) (by decide) ?_
  refine z_icmp_eq C.c (tgt := 48) dL_day_38 (by decide) (fun c => ?_) (fun c => ?_)
  · replace h := ite_t c h
    exact z_mask [true, true, true, true, true, true] rfl (bL_day_b48 C hp hw0 hw4 hQ h)
  · replace h := ite_f c h
    refine z_aload_n C.c dL_day_41 rfl (i := 0) rfl ?_
    refine z_iload_n C.c dL_day_42 rfl (i := 1) rfl ?_
    obtain ⟨c10, h⟩ := chk h
    refine z_iald C dL_day_43 hw0 c10 ?_
    refine z_iconst C.c dL_day_44 (v := (4 : Int32)) (by decide) ?_
    refine z_icmp_ne C.c (tgt := 59) dL_day_45 (by decide) (fun c => ?_) (fun c => ?_)
    · replace h := ite_f c h
      exact z_mask [true, true, true, true, true, true] rfl (bL_day_b59 C hp hw0 hw4 hQ h)
    · replace h := ite_t c h
      exact z_mask [true, true, true, true, true, true] rfl (bL_day_b48 C hp hw0 hw4 hQ h)
set_option maxRecDepth 8000 in
theorem bL_day_b0 {K : KT} {w0 : Nat} {x1 : Int32} {x2 : Int32} {x3 : Int32} {w4 : Nat} {r0 : Nat} {r4 : Nat} {σ : LwS} {o : LwS} {V Vc : Wl} {b Ln : Nat} {xs : Nat → Int32} (C : CZ K cL_day RL 6 1 0 none b Ln xs) (hp : Pf Vc V) (hw0 : V[w0]? = some (r0, 26)) (hw4 : V[w4]? = some (r4, 3)) (hQ : RZ K Vc 0 (ozV o)) (h : fL_day_b0 w0 x1 x2 x3 w4 σ = some o) : GZ K 0 0 [some (.ref r0), some (.int x1), some (.int x2), some (.int x3), some (.ref r4), none] [] V σ := by
  unfold fL_day_b0 at h
  refine z_aload C.c dL_day_0 (i := 4) rfl ?_
  refine z_iconst C.c dL_day_2 (v := (2 : Int32)) (by decide) ?_
  refine z_dup2 C.c dL_day_3 rfl rfl ?_
  refine z_iald C dL_day_4 hw4 (by decide) ?_
  refine z_iconst C.c dL_day_5 (v := (1 : Int32)) (by decide) ?_
  refine z_iadd C.c dL_day_6 ?_
  refine z_iast C dL_day_7 hw4 (by decide) ?_
  refine z_aload_n C.c dL_day_8 rfl (i := 0) rfl ?_
  refine z_iload_n C.c dL_day_9 rfl (i := 1) rfl ?_
  obtain ⟨c1, h⟩ := chk h
  refine z_iald C dL_day_10 hw0 c1 ?_
  refine z_iconst C.c dL_day_11 (v := (3 : Int32)) (by decide) ?_
  refine z_icmp_ne C.c (tgt := 21) dL_day_12 (by decide) (fun c => ?_) (fun c => ?_)
  · replace h := ite_f c h
    refine z_iload_n C.c dL_day_21 rfl (i := 2) rfl ?_
    exact z_mask [true, true, true, true, true, false] rfl (bL_day_b22 C hp hw0 hw4 hQ h)
  · replace h := ite_t c h
    refine z_iload_n C.c dL_day_15 rfl (i := 2) rfl ?_
    refine z_iconst C.c dL_day_16 (v := (1 : Int32)) (by decide) ?_
    refine z_iadd C.c dL_day_17 ?_
    refine z_goto C.c (tgt := 22) dL_day_18 (by decide) ?_
    exact z_mask [true, true, true, true, true, false] rfl (bL_day_b22 C hp hw0 hw4 hQ h)
def fL_day (q0 : Nat) (a1 : Int32) (a2 : Int32) (a3 : Int32) (q4 : Nat) (σ : LwS) : Option (LwS) := fL_day_b0 q0 a1 a2 a3 q4 σ
theorem ct_L_day {q0 : Nat} {a1 : Int32} {a2 : Int32} {a3 : Int32} {q4 : Nat} {r0 : Nat} {r4 : Nat} {V : Wl} {b Ln : Nat} {xs : Nat → Int32} {σ : LwS} {p : LwS} (hq0 : V[q0]? = some (r0, 26)) (hq4 : V[q4]? = some (r4, 3)) (hs : σ.2.2 = 0) (h : fL_day q0 a1 a2 a3 q4 σ = some p) : CtZ V yL_day cL_day 6 none 1 0 b Ln xs (fun ad => [.ref r0, .int a1, .int a2, .int a3, .ref r4]) σ (ozV p) :=
 ctz_of (L0 := fun ad => [some (.ref r0), some (.int a1), some (.int a2), some (.int a3), some (.ref r4), none]) (by decide) hs (fun _ => Nat.le_of_ble_eq_true rfl) (fun _ => rfl) (fun K C hQ => z_mask [true, true, true, true, true, false] rfl (bL_day_b0 C Pf.rf hq0 hq4 hQ h))
-- L_daysOf
theorem dL_daysOf_0 : decode cL_daysOf 0 = .ok (.iconst 1, 1) := by decide +kernel
theorem dL_daysOf_1 : decode cL_daysOf 1 = .ok (.iload_n 3, 1) := by decide +kernel
theorem dL_daysOf_2 : decode cL_daysOf 2 = .ok (.bipush 20, 2) := by decide +kernel
theorem dL_daysOf_4 : decode cL_daysOf 4 = .ok (.iload 4, 2) := by decide +kernel
theorem dL_daysOf_6 : decode cL_daysOf 6 = .ok (.imul, 1) := by decide +kernel
theorem dL_daysOf_7 : decode cL_daysOf 7 = .ok (.idiv, 1) := by decide +kernel
theorem dL_daysOf_8 : decode cL_daysOf 8 = .ok (.iadd, 1) := by decide +kernel
theorem dL_daysOf_9 : decode cL_daysOf 9 = .ok (.istore 5, 2) := by decide +kernel
theorem dL_daysOf_11 : decode cL_daysOf 11 = .ok (.aload_n 0, 1) := by decide +kernel
theorem dL_daysOf_12 : decode cL_daysOf 12 = .ok (.bipush 33, 2) := by decide +kernel
theorem dL_daysOf_14 : decode cL_daysOf 14 = .ok (.iload_n 1, 1) := by decide +kernel
theorem dL_daysOf_15 : decode cL_daysOf 15 = .ok (.iadd, 1) := by decide +kernel
theorem dL_daysOf_16 : decode cL_daysOf 16 = .ok (.iaload, 1) := by decide +kernel
theorem dL_daysOf_17 : decode cL_daysOf 17 = .ok (.iload_n 2, 1) := by decide +kernel
theorem dL_daysOf_18 : decode cL_daysOf 18 = .ok (.if_icmp .ne 6, 3) := by decide +kernel
theorem dL_daysOf_21 : decode cL_daysOf 21 = .ok (.iinc 5 (-1), 3) := by decide +kernel
theorem dL_daysOf_24 : decode cL_daysOf 24 = .ok (.aload_n 0, 1) := by decide +kernel
theorem dL_daysOf_25 : decode cL_daysOf 25 = .ok (.bipush 33, 2) := by decide +kernel
theorem dL_daysOf_27 : decode cL_daysOf 27 = .ok (.iload_n 1, 1) := by decide +kernel
theorem dL_daysOf_28 : decode cL_daysOf 28 = .ok (.iadd, 1) := by decide +kernel
theorem dL_daysOf_29 : decode cL_daysOf 29 = .ok (.iaload, 1) := by decide +kernel
theorem dL_daysOf_30 : decode cL_daysOf 30 = .ok (.ifCond .lt 20, 3) := by decide +kernel
theorem dL_daysOf_33 : decode cL_daysOf 33 = .ok (.aload_n 0, 1) := by decide +kernel
theorem dL_daysOf_34 : decode cL_daysOf 34 = .ok (.bipush 33, 2) := by decide +kernel
theorem dL_daysOf_36 : decode cL_daysOf 36 = .ok (.iload_n 1, 1) := by decide +kernel
theorem dL_daysOf_37 : decode cL_daysOf 37 = .ok (.iadd, 1) := by decide +kernel
theorem dL_daysOf_38 : decode cL_daysOf 38 = .ok (.iaload, 1) := by decide +kernel
theorem dL_daysOf_39 : decode cL_daysOf 39 = .ok (.iconst 2, 1) := by decide +kernel
theorem dL_daysOf_40 : decode cL_daysOf 40 = .ok (.iadd, 1) := by decide +kernel
theorem dL_daysOf_41 : decode cL_daysOf 41 = .ok (.iconst 4, 1) := by decide +kernel
theorem dL_daysOf_42 : decode cL_daysOf 42 = .ok (.irem, 1) := by decide +kernel
theorem dL_daysOf_43 : decode cL_daysOf 43 = .ok (.iload_n 2, 1) := by decide +kernel
theorem dL_daysOf_44 : decode cL_daysOf 44 = .ok (.if_icmp .ne 6, 3) := by decide +kernel
theorem dL_daysOf_47 : decode cL_daysOf 47 = .ok (.iinc 5 1, 3) := by decide +kernel
theorem dL_daysOf_50 : decode cL_daysOf 50 = .ok (.iload 5, 2) := by decide +kernel
theorem dL_daysOf_52 : decode cL_daysOf 52 = .ok (.iconst 1, 1) := by decide +kernel
theorem dL_daysOf_53 : decode cL_daysOf 53 = .ok (.if_icmp .ge 7, 3) := by decide +kernel
theorem dL_daysOf_56 : decode cL_daysOf 56 = .ok (.iconst 1, 1) := by decide +kernel
theorem dL_daysOf_57 : decode cL_daysOf 57 = .ok (.goto 5, 3) := by decide +kernel
theorem dL_daysOf_60 : decode cL_daysOf 60 = .ok (.iload 5, 2) := by decide +kernel
theorem dL_daysOf_62 : decode cL_daysOf 62 = .ok (.ireturn, 1) := by decide +kernel
theorem cw_L_daysOf : Cw yL_daysOf cL_daysOf 6 (some .int) 5 := ⟨aw_666, aw_18, ⟨by decide, by decide⟩, by decide +kernel, by decide⟩
def fL_daysOf_b50 (x5 : Int32) (σ : LwS) : Option (Int32 × LwS) :=
  if (1 : Int32) ≤ x5 then (some (x5, σ)) else (some ((1 : Int32), σ))
def fL_daysOf_b24 (w0 : Nat) (x1 : Int32) (x2 : Int32) (x5 : Int32) (σ : LwS) : Option (Int32 × LwS) :=
  if inb ((33 : Int32) + x1) 63 = true then (if (rT σ w0 (((33 : Int32) + x1)).toNatClampNeg) < 0 then (fL_daysOf_b50 x5 σ) else (if inb ((33 : Int32) + x1) 63 = true then (if (((rT σ w0 (((33 : Int32) + x1)).toNatClampNeg) + (2 : Int32)) - ((rT σ w0 (((33 : Int32) + x1)).toNatClampNeg) + (2 : Int32)) / (4 : Int32) * (4 : Int32)) = x2 then (fL_daysOf_b50 (x5 + (1 : Int32)) σ) else (fL_daysOf_b50 x5 σ)) else none)) else none
def fL_daysOf_b0 (w0 : Nat) (x1 : Int32) (x2 : Int32) (x3 : Int32) (x4 : Int32) (σ : LwS) : Option (Int32 × LwS) :=
  if ((20 : Int32) * x4) = 0 then none else if inb ((33 : Int32) + x1) 63 = true then (if (rT σ w0 (((33 : Int32) + x1)).toNatClampNeg) = x2 then (fL_daysOf_b24 w0 x1 x2 (((1 : Int32) + (x3 / ((20 : Int32) * x4))) + (-1 : Int32)) σ) else (fL_daysOf_b24 w0 x1 x2 ((1 : Int32) + (x3 / ((20 : Int32) * x4))) σ)) else none
set_option maxRecDepth 8000 in
theorem bL_daysOf_b50 {K : KT} {x5 : Int32} {σ : LwS} {o : Int32 × LwS} {V Vc : Wl} {b Ln : Nat} {xs : Nat → Int32} (C : CZ K cL_daysOf RL 6 1 0 (some .int) b Ln xs) (hp : Pf Vc V)  (hQ : RZ K Vc 0 (ozI o)) (h : fL_daysOf_b50 x5 σ = some o) : GZ K 0 50 [none, none, none, none, none, some (.int x5)] [] V σ := by
  unfold fL_daysOf_b50 at h
  refine z_iload C.c dL_daysOf_50 (i := 5) rfl ?_
  refine z_iconst C.c dL_daysOf_52 (v := (1 : Int32)) (by decide) ?_
  refine z_icmp_ge C.c (tgt := 60) dL_daysOf_53 (by decide) (fun c => ?_) (fun c => ?_)
  · replace h := ite_t c h
    refine z_iload C.c dL_daysOf_60 (i := 5) rfl ?_
    obtain rfl := Option.some.inj h
    exact z_iret C hp hQ dL_daysOf_62 rfl ⟨rfl, rfl⟩
  · replace h := ite_f c h
    refine z_iconst C.c dL_daysOf_56 (v := (1 : Int32)) (by decide) ?_
    refine z_goto C.c (tgt := 62) dL_daysOf_57 (by decide) ?_
    obtain rfl := Option.some.inj h
    exact z_iret C hp hQ dL_daysOf_62 rfl ⟨rfl, rfl⟩
set_option maxRecDepth 8000 in
theorem bL_daysOf_b24 {K : KT} {w0 : Nat} {x1 : Int32} {x2 : Int32} {x5 : Int32} {r0 : Nat} {σ : LwS} {o : Int32 × LwS} {V Vc : Wl} {b Ln : Nat} {xs : Nat → Int32} (C : CZ K cL_daysOf RL 6 1 0 (some .int) b Ln xs) (hp : Pf Vc V) (hw0 : V[w0]? = some (r0, 63)) (hQ : RZ K Vc 0 (ozI o)) (h : fL_daysOf_b24 w0 x1 x2 x5 σ = some o) : GZ K 0 24 [some (.ref r0), some (.int x1), some (.int x2), none, none, some (.int x5)] [] V σ := by
  unfold fL_daysOf_b24 at h
  refine z_aload_n C.c dL_daysOf_24 rfl (i := 0) rfl ?_
  refine z_bipush C.c dL_daysOf_25 (v := (33 : Int32)) (by decide) ?_
  refine z_iload_n C.c dL_daysOf_27 rfl (i := 1) rfl ?_
  refine z_iadd C.c dL_daysOf_28 ?_
  obtain ⟨c3, h⟩ := chk h
  refine z_iald C dL_daysOf_29 hw0 c3 ?_
  refine z_if_lt C.c (tgt := 50) dL_daysOf_30 (by decide) (fun c => ?_) (fun c => ?_)
  · replace h := ite_t c h
    exact z_mask [false, false, false, false, false, true] rfl (bL_daysOf_b50 C hp hQ h)
  · replace h := ite_f c h
    refine z_aload_n C.c dL_daysOf_33 rfl (i := 0) rfl ?_
    refine z_bipush C.c dL_daysOf_34 (v := (33 : Int32)) (by decide) ?_
    refine z_iload_n C.c dL_daysOf_36 rfl (i := 1) rfl ?_
    refine z_iadd C.c dL_daysOf_37 ?_
    obtain ⟨c4, h⟩ := chk h
    refine z_iald C dL_daysOf_38 hw0 c4 ?_
    refine z_iconst C.c dL_daysOf_39 (v := (2 : Int32)) (by decide) ?_
    refine z_iadd C.c dL_daysOf_40 ?_
    refine z_iconst C.c dL_daysOf_41 (v := (4 : Int32)) (by decide) ?_
    refine z_irem C.c dL_daysOf_42 (by decide) ?_
    refine z_iload_n C.c dL_daysOf_43 rfl (i := 2) rfl ?_
    refine z_icmp_ne C.c (tgt := 50) dL_daysOf_44 (by decide) (fun c => ?_) (fun c => ?_)
    · replace h := ite_f c h
      exact z_mask [false, false, false, false, false, true] rfl (bL_daysOf_b50 C hp hQ h)
    · replace h := ite_t c h
      refine z_iinc C.c (i := 5) (y := (1 : Int32)) (L' := [some (.ref r0), some (.int x1), some (.int x2), none, none, some (.int (x5 + (1 : Int32)))]) dL_daysOf_47 rfl (by decide) (Nat.le_of_ble_eq_true rfl) rfl ?_
      exact z_mask [false, false, false, false, false, true] rfl (bL_daysOf_b50 C hp hQ h)
set_option maxRecDepth 8000 in
theorem bL_daysOf_b0 {K : KT} {w0 : Nat} {x1 : Int32} {x2 : Int32} {x3 : Int32} {x4 : Int32} {r0 : Nat} {σ : LwS} {o : Int32 × LwS} {V Vc : Wl} {b Ln : Nat} {xs : Nat → Int32} (C : CZ K cL_daysOf RL 6 1 0 (some .int) b Ln xs) (hp : Pf Vc V) (hw0 : V[w0]? = some (r0, 63)) (hQ : RZ K Vc 0 (ozI o)) (h : fL_daysOf_b0 w0 x1 x2 x3 x4 σ = some o) : GZ K 0 0 [some (.ref r0), some (.int x1), some (.int x2), some (.int x3), some (.int x4), none] [] V σ := by
  unfold fL_daysOf_b0 at h
  refine z_iconst C.c dL_daysOf_0 (v := (1 : Int32)) (by decide) ?_
  refine z_iload_n C.c dL_daysOf_1 rfl (i := 3) rfl ?_
  refine z_bipush C.c dL_daysOf_2 (v := (20 : Int32)) (by decide) ?_
  refine z_iload C.c dL_daysOf_4 (i := 4) rfl ?_
  refine z_imul C.c dL_daysOf_6 ?_
  obtain ⟨c1, h⟩ := chk0 h
  refine z_idiv C.c dL_daysOf_7 c1 ?_
  refine z_iadd C.c dL_daysOf_8 ?_
  refine z_istore C.c (i := 5) (L' := [some (.ref r0), some (.int x1), some (.int x2), some (.int x3), some (.int x4), some (.int ((1 : Int32) + (x3 / ((20 : Int32) * x4))))]) dL_daysOf_9 (Nat.le_of_ble_eq_true rfl) rfl ?_
  refine z_aload_n C.c dL_daysOf_11 rfl (i := 0) rfl ?_
  refine z_bipush C.c dL_daysOf_12 (v := (33 : Int32)) (by decide) ?_
  refine z_iload_n C.c dL_daysOf_14 rfl (i := 1) rfl ?_
  refine z_iadd C.c dL_daysOf_15 ?_
  obtain ⟨c2, h⟩ := chk h
  refine z_iald C dL_daysOf_16 hw0 c2 ?_
  refine z_iload_n C.c dL_daysOf_17 rfl (i := 2) rfl ?_
  refine z_icmp_ne C.c (tgt := 24) dL_daysOf_18 (by decide) (fun c => ?_) (fun c => ?_)
  · replace h := ite_f c h
    exact z_mask [true, true, true, false, false, true] rfl (bL_daysOf_b24 C hp hw0 hQ h)
  · replace h := ite_t c h
    refine z_iinc C.c (i := 5) (y := (-1 : Int32)) (L' := [some (.ref r0), some (.int x1), some (.int x2), some (.int x3), some (.int x4), some (.int (((1 : Int32) + (x3 / ((20 : Int32) * x4))) + (-1 : Int32)))]) dL_daysOf_21 rfl (by decide) (Nat.le_of_ble_eq_true rfl) rfl ?_
    exact z_mask [true, true, true, false, false, true] rfl (bL_daysOf_b24 C hp hw0 hQ h)
def fL_daysOf (q0 : Nat) (a1 : Int32) (a2 : Int32) (a3 : Int32) (a4 : Int32) (σ : LwS) : Option (Int32 × LwS) := fL_daysOf_b0 q0 a1 a2 a3 a4 σ
theorem ct_L_daysOf {q0 : Nat} {a1 : Int32} {a2 : Int32} {a3 : Int32} {a4 : Int32} {r0 : Nat} {V : Wl} {b Ln : Nat} {xs : Nat → Int32} {σ : LwS} {p : Int32 × LwS} (hq0 : V[q0]? = some (r0, 63)) (hs : σ.2.2 = 0) (h : fL_daysOf q0 a1 a2 a3 a4 σ = some p) : CtZ V yL_daysOf cL_daysOf 6 (some .int) 1 0 b Ln xs (fun ad => [.ref r0, .int a1, .int a2, .int a3, .int a4]) σ (ozI p) :=
 ctz_of (L0 := fun ad => [some (.ref r0), some (.int a1), some (.int a2), some (.int a3), some (.int a4), none]) (by decide) hs (fun _ => Nat.le_of_ble_eq_true rfl) (fun _ => rfl) (fun K C hQ => z_mask [true, true, true, true, true, false] rfl (bL_daysOf_b0 C Pf.rf hq0 hQ h))
-- L_way
theorem dL_way_0 : decode cL_way 0 = .ok (.aload_n 1, 1) := by decide +kernel
theorem dL_way_1 : decode cL_way 1 = .ok (.iload_n 2, 1) := by decide +kernel
theorem dL_way_2 : decode cL_way 2 = .ok (.iconst 1, 1) := by decide +kernel
theorem dL_way_3 : decode cL_way 3 = .ok (.iadd, 1) := by decide +kernel
theorem dL_way_4 : decode cL_way 4 = .ok (.iaload, 1) := by decide +kernel
theorem dL_way_5 : decode cL_way 5 = .ok (.istore 8, 2) := by decide +kernel
theorem dL_way_7 : decode cL_way 7 = .ok (.aload 7, 2) := by decide +kernel
theorem dL_way_9 : decode cL_way 9 = .ok (.iconst 0, 1) := by decide +kernel
theorem dL_way_10 : decode cL_way 10 = .ok (.aload_n 1, 1) := by decide +kernel
theorem dL_way_11 : decode cL_way 11 = .ok (.iload_n 2, 1) := by decide +kernel
theorem dL_way_12 : decode cL_way 12 = .ok (.iconst 2, 1) := by decide +kernel
theorem dL_way_13 : decode cL_way 13 = .ok (.iadd, 1) := by decide +kernel
theorem dL_way_14 : decode cL_way 14 = .ok (.iaload, 1) := by decide +kernel
theorem dL_way_15 : decode cL_way 15 = .ok (.iastore, 1) := by decide +kernel
theorem dL_way_16 : decode cL_way 16 = .ok (.aload 7, 2) := by decide +kernel
theorem dL_way_18 : decode cL_way 18 = .ok (.iconst 1, 1) := by decide +kernel
theorem dL_way_19 : decode cL_way 19 = .ok (.aload_n 1, 1) := by decide +kernel
theorem dL_way_20 : decode cL_way 20 = .ok (.iload_n 2, 1) := by decide +kernel
theorem dL_way_21 : decode cL_way 21 = .ok (.iconst 3, 1) := by decide +kernel
theorem dL_way_22 : decode cL_way 22 = .ok (.iadd, 1) := by decide +kernel
theorem dL_way_23 : decode cL_way 23 = .ok (.iaload, 1) := by decide +kernel
theorem dL_way_24 : decode cL_way 24 = .ok (.iastore, 1) := by decide +kernel
theorem dL_way_25 : decode cL_way 25 = .ok (.aload 7, 2) := by decide +kernel
theorem dL_way_27 : decode cL_way 27 = .ok (.iconst 2, 1) := by decide +kernel
theorem dL_way_28 : decode cL_way 28 = .ok (.iconst 0, 1) := by decide +kernel
theorem dL_way_29 : decode cL_way 29 = .ok (.iastore, 1) := by decide +kernel
theorem dL_way_30 : decode cL_way 30 = .ok (.iload 6, 2) := by decide +kernel
theorem dL_way_32 : decode cL_way 32 = .ok (.iconst 1, 1) := by decide +kernel
theorem dL_way_33 : decode cL_way 33 = .ok (.isub, 1) := by decide +kernel
theorem dL_way_34 : decode cL_way 34 = .ok (.istore 9, 2) := by decide +kernel
theorem dL_way_36 : decode cL_way 36 = .ok (.iload 9, 2) := by decide +kernel
theorem dL_way_38 : decode cL_way 38 = .ok (.ifCond .lt 120, 3) := by decide +kernel
theorem dL_way_41 : decode cL_way 41 = .ok (.iload 5, 2) := by decide +kernel
theorem dL_way_43 : decode cL_way 43 = .ok (.iconst 2, 1) := by decide +kernel
theorem dL_way_44 : decode cL_way 44 = .ok (.iload 9, 2) := by decide +kernel
theorem dL_way_46 : decode cL_way 46 = .ok (.imul, 1) := by decide +kernel
theorem dL_way_47 : decode cL_way 47 = .ok (.ishr, 1) := by decide +kernel
theorem dL_way_48 : decode cL_way 48 = .ok (.iconst 3, 1) := by decide +kernel
theorem dL_way_49 : decode cL_way 49 = .ok (.iand, 1) := by decide +kernel
theorem dL_way_50 : decode cL_way 50 = .ok (.istore 10, 2) := by decide +kernel
theorem dL_way_52 : decode cL_way 52 = .ok (.aload_n 0, 1) := by decide +kernel
theorem dL_way_53 : decode cL_way 53 = .ok (.iload 8, 2) := by decide +kernel
theorem dL_way_55 : decode cL_way 55 = .ok (.iload 10, 2) := by decide +kernel
theorem dL_way_57 : decode cL_way 57 = .ok (.invokestatic 28, 3) := by decide +kernel
theorem dL_way_60 : decode cL_way 60 = .ok (.istore 11, 2) := by decide +kernel
theorem dL_way_62 : decode cL_way 62 = .ok (.iload 11, 2) := by decide +kernel
theorem dL_way_64 : decode cL_way 64 = .ok (.ifCond .lt 29, 3) := by decide +kernel
theorem dL_way_67 : decode cL_way 67 = .ok (.aload_n 0, 1) := by decide +kernel
theorem dL_way_68 : decode cL_way 68 = .ok (.iconst 3, 1) := by decide +kernel
theorem dL_way_69 : decode cL_way 69 = .ok (.iload 11, 2) := by decide +kernel
theorem dL_way_71 : decode cL_way 71 = .ok (.iadd, 1) := by decide +kernel
theorem dL_way_72 : decode cL_way 72 = .ok (.iaload, 1) := by decide +kernel
theorem dL_way_73 : decode cL_way 73 = .ok (.bipush 11, 2) := by decide +kernel
theorem dL_way_75 : decode cL_way 75 = .ok (.if_icmp .eq 18, 3) := by decide +kernel
theorem dL_way_78 : decode cL_way 78 = .ok (.aload_n 0, 1) := by decide +kernel
theorem dL_way_79 : decode cL_way 79 = .ok (.iload 11, 2) := by decide +kernel
theorem dL_way_81 : decode cL_way 81 = .ok (.invokestatic 32, 3) := by decide +kernel
theorem dL_way_84 : decode cL_way 84 = .ok (.aload_n 0, 1) := by decide +kernel
theorem dL_way_85 : decode cL_way 85 = .ok (.iload 8, 2) := by decide +kernel
theorem dL_way_87 : decode cL_way 87 = .ok (.invokestatic 32, 3) := by decide +kernel
theorem dL_way_90 : decode cL_way 90 = .ok (.if_icmp .lt 5, 3) := by decide +kernel
theorem dL_way_93 : decode cL_way 93 = .ok (.iconst 0, 1) := by decide +kernel
theorem dL_way_94 : decode cL_way 94 = .ok (.ireturn, 1) := by decide +kernel
theorem dL_way_95 : decode cL_way 95 = .ok (.aload_n 0, 1) := by decide +kernel
theorem dL_way_96 : decode cL_way 96 = .ok (.iload 8, 2) := by decide +kernel
theorem dL_way_98 : decode cL_way 98 = .ok (.iload 10, 2) := by decide +kernel
theorem dL_way_100 : decode cL_way 100 = .ok (.aload 7, 2) := by decide +kernel
theorem dL_way_102 : decode cL_way 102 = .ok (.iconst 0, 1) := by decide +kernel
theorem dL_way_103 : decode cL_way 103 = .ok (.iaload, 1) := by decide +kernel
theorem dL_way_104 : decode cL_way 104 = .ok (.iload_n 3, 1) := by decide +kernel
theorem dL_way_105 : decode cL_way 105 = .ok (.invokestatic 35, 3) := by decide +kernel
theorem dL_way_108 : decode cL_way 108 = .ok (.istore 12, 2) := by decide +kernel
theorem dL_way_110 : decode cL_way 110 = .ok (.iconst 0, 1) := by decide +kernel
theorem dL_way_111 : decode cL_way 111 = .ok (.istore 13, 2) := by decide +kernel
theorem dL_way_113 : decode cL_way 113 = .ok (.iload 13, 2) := by decide +kernel
theorem dL_way_115 : decode cL_way 115 = .ok (.iload 12, 2) := by decide +kernel
theorem dL_way_117 : decode cL_way 117 = .ok (.if_icmp .ge 31, 3) := by decide +kernel
theorem dL_way_120 : decode cL_way 120 = .ok (.aload 7, 2) := by decide +kernel
theorem dL_way_122 : decode cL_way 122 = .ok (.iconst 0, 1) := by decide +kernel
theorem dL_way_123 : decode cL_way 123 = .ok (.iaload, 1) := by decide +kernel
theorem dL_way_124 : decode cL_way 124 = .ok (.ifCond .le 24, 3) := by decide +kernel
theorem dL_way_127 : decode cL_way 127 = .ok (.aload_n 1, 1) := by decide +kernel
theorem dL_way_128 : decode cL_way 128 = .ok (.iload_n 2, 1) := by decide +kernel
theorem dL_way_129 : decode cL_way 129 = .ok (.aload_n 0, 1) := by decide +kernel
theorem dL_way_130 : decode cL_way 130 = .ok (.iconst 3, 1) := by decide +kernel
theorem dL_way_131 : decode cL_way 131 = .ok (.iload 8, 2) := by decide +kernel
theorem dL_way_133 : decode cL_way 133 = .ok (.iadd, 1) := by decide +kernel
theorem dL_way_134 : decode cL_way 134 = .ok (.iaload, 1) := by decide +kernel
theorem dL_way_135 : decode cL_way 135 = .ok (.iload 4, 2) := by decide +kernel
theorem dL_way_137 : decode cL_way 137 = .ok (.aload 7, 2) := by decide +kernel
theorem dL_way_139 : decode cL_way 139 = .ok (.invokestatic 39, 3) := by decide +kernel
theorem dL_way_142 : decode cL_way 142 = .ok (.iinc 13 1, 3) := by decide +kernel
theorem dL_way_145 : decode cL_way 145 = .ok (.goto (-32), 3) := by decide +kernel
theorem dL_way_148 : decode cL_way 148 = .ok (.iload 11, 2) := by decide +kernel
theorem dL_way_150 : decode cL_way 150 = .ok (.istore 8, 2) := by decide +kernel
theorem dL_way_152 : decode cL_way 152 = .ok (.iinc 9 (-1), 3) := by decide +kernel
theorem dL_way_155 : decode cL_way 155 = .ok (.goto (-119), 3) := by decide +kernel
theorem dL_way_158 : decode cL_way 158 = .ok (.iload 8, 2) := by decide +kernel
theorem dL_way_160 : decode cL_way 160 = .ok (.aload_n 0, 1) := by decide +kernel
theorem dL_way_161 : decode cL_way 161 = .ok (.iconst 2, 1) := by decide +kernel
theorem dL_way_162 : decode cL_way 162 = .ok (.iaload, 1) := by decide +kernel
theorem dL_way_163 : decode cL_way 163 = .ok (.if_icmp .ne 7, 3) := by decide +kernel
theorem dL_way_166 : decode cL_way 166 = .ok (.iconst 1, 1) := by decide +kernel
theorem dL_way_167 : decode cL_way 167 = .ok (.goto 4, 3) := by decide +kernel
theorem dL_way_170 : decode cL_way 170 = .ok (.iconst 0, 1) := by decide +kernel
theorem dL_way_171 : decode cL_way 171 = .ok (.ireturn, 1) := by decide +kernel
theorem cw_L_way : Cw yL_way cL_way 14 (some .boolean) 8 := ⟨aw_660, aw_18, ⟨by decide, by decide⟩, by decide +kernel, by decide⟩
theorem kz_28 {K : KT} {cc : ByteArray} {nL d M pc : Nat} {ret : Option FieldType} {L : List (Option Value)} {st : List Value} {V : Wl} {σ : LwS} {b Ln : Nat} {xs : Nat → Int32} (C : CZ K cc RL nL d M ret b Ln xs) {q0 : Nat} {a1 : Int32} {a2 : Int32} {r0 : Nat} (hq0 : V[q0]? = some (r0, 63)) {p : Int32 × LwS} (hd : decode cc pc = .ok (.invokestatic 28, 3)) (e : fL_beside q0 a1 a2 (eT σ) = some p) (hdd : 1 + 1 ≤ d) (hLn : L.length = nL) (hr : (st.map fun v => v.category).sum ≤ 8) (k : GZ K M (pc + 3) L (.int p.1 :: st) V (uT σ p.2 0)) : GZ K M pc L (.int a2 :: .int a1 :: .ref r0 :: st) V σ :=
 z_callL C (As := [.ref r0, .int a1, .int a2]) (rest := st) hd (ct_L_beside hq0 rfl e) cw_L_beside aw_661 aw_662 rfl rfl rfl hdd hLn hr (fun h => h) (fun v τ q => by obtain ⟨rfl, rfl⟩ := q; exact k)
theorem kz_32 {K : KT} {cc : ByteArray} {nL d M pc : Nat} {ret : Option FieldType} {L : List (Option Value)} {st : List Value} {V : Wl} {σ : LwS} {b Ln : Nat} {xs : Nat → Int32} (C : CZ K cc RL nL d M ret b Ln xs) {q0 : Nat} {a1 : Int32} {r0 : Nat} (hq0 : V[q0]? = some (r0, 63)) {p : Int32 × LwS} (hd : decode cc pc = .ok (.invokestatic 32, 3)) (e : fL_far q0 a1 (eT σ) = some p) (hdd : 1 + 1 ≤ d) (hLn : L.length = nL) (hr : (st.map fun v => v.category).sum ≤ 8) (k : GZ K M (pc + 3) L (.int p.1 :: st) V (uT σ p.2 0)) : GZ K M pc L (.int a1 :: .ref r0 :: st) V σ :=
 z_callL C (As := [.ref r0, .int a1]) (rest := st) hd (ct_L_far hq0 rfl e) cw_L_far aw_633 aw_634 rfl rfl rfl hdd hLn hr (fun h => h) (fun v τ q => by obtain ⟨rfl, rfl⟩ := q; exact k)
theorem kz_35 {K : KT} {cc : ByteArray} {nL d M pc : Nat} {ret : Option FieldType} {L : List (Option Value)} {st : List Value} {V : Wl} {σ : LwS} {b Ln : Nat} {xs : Nat → Int32} (C : CZ K cc RL nL d M ret b Ln xs) {q0 : Nat} {a1 : Int32} {a2 : Int32} {a3 : Int32} {a4 : Int32} {r0 : Nat} (hq0 : V[q0]? = some (r0, 63)) {p : Int32 × LwS} (hd : decode cc pc = .ok (.invokestatic 35, 3)) (e : fL_daysOf q0 a1 a2 a3 a4 (eT σ) = some p) (hdd : 1 + 1 ≤ d) (hLn : L.length = nL) (hr : (st.map fun v => v.category).sum ≤ 8) (k : GZ K M (pc + 3) L (.int p.1 :: st) V (uT σ p.2 0)) : GZ K M pc L (.int a4 :: .int a3 :: .int a2 :: .int a1 :: .ref r0 :: st) V σ :=
 z_callL C (As := [.ref r0, .int a1, .int a2, .int a3, .int a4]) (rest := st) hd (ct_L_daysOf hq0 rfl e) cw_L_daysOf aw_664 aw_665 rfl rfl rfl hdd hLn hr (fun h => h) (fun v τ q => by obtain ⟨rfl, rfl⟩ := q; exact k)
theorem kz_39 {K : KT} {cc : ByteArray} {nL d M pc : Nat} {ret : Option FieldType} {L : List (Option Value)} {st : List Value} {V : Wl} {σ : LwS} {b Ln : Nat} {xs : Nat → Int32} (C : CZ K cc RL nL d M ret b Ln xs) {q0 : Nat} {a1 : Int32} {a2 : Int32} {a3 : Int32} {q4 : Nat} {r0 : Nat} {r4 : Nat} (hq0 : V[q0]? = some (r0, 26)) (hq4 : V[q4]? = some (r4, 3)) {p : LwS} (hd : decode cc pc = .ok (.invokestatic 39, 3)) (e : fL_day q0 a1 a2 a3 q4 (eT σ) = some p) (hdd : 1 + 1 ≤ d) (hLn : L.length = nL) (hr : (st.map fun v => v.category).sum ≤ 8) (k : GZ K M (pc + 3) L (st) V (uT σ p 0)) : GZ K M pc L (.ref r4 :: .int a3 :: .int a2 :: .int a1 :: .ref r0 :: st) V σ :=
 z_callL C (As := [.ref r0, .int a1, .int a2, .int a3, .ref r4]) (rest := st) hd (ct_L_day hq0 hq4 rfl e) cw_L_day aw_667 aw_668 rfl rfl rfl hdd hLn hr (fun h => h) (fun v τ q => by obtain ⟨rfl, rfl⟩ := q; exact k)
def fL_way_b113 (w0 : Nat) (w1 : Nat) (x2 : Int32) (x3 : Int32) (x4 : Int32) (x5 : Int32) (w7 : Nat) (x8 : Int32) (x9 : Int32) (x11 : Int32) (x12 : Int32) (x13 : Int32) (σ : LwS) : Option ((Int32 × LwS) ⊕ ((LwS))) :=
  if x12 ≤ x13 then (some (.inr σ)) else (if (rT σ w7 ((0 : Int32)).toNatClampNeg) ≤ 0 then (some (.inr σ)) else (if inb ((3 : Int32) + x8) 63 = true then (Option.bind (fL_day w1 x2 (rT σ w0 (((3 : Int32) + x8)).toNatClampNeg) x4 w7 (eT σ)) fun p14 => (some (.inl ((x13 + (1 : Int32)), (uT σ p14 0))))) else none))
def fL_way_b36 (w0 : Nat) (w1 : Nat) (x2 : Int32) (x3 : Int32) (x4 : Int32) (x5 : Int32) (w7 : Nat) (x8 : Int32) (x9 : Int32) (σ : LwS) : Option ((Int32 × Int32 × LwS) ⊕ (((LwS) ⊕ (Int32 × LwS)))) :=
  if x9 < 0 then (some (.inr (.inr (x8, σ)))) else (Option.bind (fL_beside w0 x8 ((ishr x5 ((2 : Int32) * x9)) &&& (3 : Int32)) (eT σ)) fun p4 => (if p4.1 < 0 then (some (.inr (.inl (uT σ p4.2 0)))) else (if inb ((3 : Int32) + p4.1) 63 = true then (if (rT (uT σ p4.2 0) w0 (((3 : Int32) + p4.1)).toNatClampNeg) = (11 : Int32) then (some (.inr (.inl (uT σ p4.2 0)))) else (Option.bind (fL_far w0 p4.1 (eT (uT σ p4.2 0))) fun p7 => (Option.bind (fL_far w0 x8 (eT (uT (uT σ p4.2 0) p7.2 0))) fun p9 => (if p7.1 < p9.1 then (Option.bind (fL_daysOf w0 x8 ((ishr x5 ((2 : Int32) * x9)) &&& (3 : Int32)) (rT (uT (uT (uT σ p4.2 0) p7.2 0) p9.2 0) w7 ((0 : Int32)).toNatClampNeg) x3 (eT (uT (uT (uT σ p4.2 0) p7.2 0) p9.2 0))) fun p11 => (Option.bind (lp (fun s => fL_way_b113 w0 w1 x2 x3 x4 x5 w7 x8 x9 p4.1 p11.1 s.1 s.2) FU ((0 : Int32), (uT (uT (uT (uT σ p4.2 0) p7.2 0) p9.2 0) p11.2 0))) fun t16 => some (.inl (p4.1, (x9 + (-1 : Int32)), t16)))) else (some (.inr (.inl (uT (uT (uT σ p4.2 0) p7.2 0) p9.2 0)))))))) else none)))
def fL_way_b0 (w0 : Nat) (w1 : Nat) (x2 : Int32) (x3 : Int32) (x4 : Int32) (x5 : Int32) (x6 : Int32) (w7 : Nat) (σ : LwS) : Option (Int32 × LwS) :=
  if inb (x2 + (1 : Int32)) 26 = true then (if inb (x2 + (2 : Int32)) 26 = true then (if inb (x2 + (3 : Int32)) 26 = true then (Option.bind (lp (fun s => fL_way_b36 w0 w1 x2 x3 x4 x5 w7 s.1 s.2.1 s.2.2) FU ((rT σ w1 ((x2 + (1 : Int32))).toNatClampNeg), (x6 - (1 : Int32)), (wT (wT (wT σ w7 ((0 : Int32)).toNatClampNeg (rT σ w1 ((x2 + (2 : Int32))).toNatClampNeg)) w7 ((1 : Int32)).toNatClampNeg (rT (wT σ w7 ((0 : Int32)).toNatClampNeg (rT σ w1 ((x2 + (2 : Int32))).toNatClampNeg)) w1 ((x2 + (3 : Int32))).toNatClampNeg)) w7 ((2 : Int32)).toNatClampNeg (0 : Int32)))) (el (fun t18 => some ((0 : Int32), t18)) (fun t18 => if t18.1 = (rT t18.2 w0 ((2 : Int32)).toNatClampNeg) then (some ((1 : Int32), t18.2)) else (some ((0 : Int32), t18.2))))) else none) else none) else none
set_option maxRecDepth 8000 in
theorem bL_way_b113 {K : KT} {w0 : Nat} {w1 : Nat} {x2 : Int32} {x3 : Int32} {x4 : Int32} {x5 : Int32} {w7 : Nat} {x8 : Int32} {x9 : Int32} {x11 : Int32} {x12 : Int32} {x13 : Int32} {r0 : Nat} {r1 : Nat} {r7 : Nat} {σ : LwS} {o : (Int32 × LwS) ⊕ ((LwS))} {V Vc : Wl} {b Ln : Nat} {xs : Nat → Int32} (C : CZ K cL_way RL 14 2 0 (some .boolean) b Ln xs) (hp : Pf Vc V) (hw0 : V[w0]? = some (r0, 63)) (hw1 : V[w1]? = some (r1, 26)) (hw7 : V[w7]? = some (r7, 3)) (hI : ∀ s' : Int32 × LwS, o = .inl s' → GZ K 0 113 [some (.ref r0), some (.ref r1), some (.int x2), some (.int x3), some (.int x4), some (.int x5), none, some (.ref r7), some (.int x8), some (.int x9), none, some (.int x11), some (.int x12), some (.int s'.1)] [] Vc s'.2) (hE0 : ∀ t : LwS, o = .inr t → GZ K 0 148 [some (.ref r0), some (.ref r1), some (.int x2), some (.int x3), some (.int x4), some (.int x5), none, some (.ref r7), none, some (.int x9), none, some (.int x11), none, none] [] Vc t) (h : fL_way_b113 w0 w1 x2 x3 x4 x5 w7 x8 x9 x11 x12 x13 σ = some o) : GZ K 0 113 [some (.ref r0), some (.ref r1), some (.int x2), some (.int x3), some (.int x4), some (.int x5), none, some (.ref r7), some (.int x8), some (.int x9), none, some (.int x11), some (.int x12), some (.int x13)] [] V σ := by
  unfold fL_way_b113 at h
  refine z_iload C.c dL_way_113 (i := 13) rfl ?_
  refine z_iload C.c dL_way_115 (i := 12) rfl ?_
  refine z_icmp_ge C.c (tgt := 148) dL_way_117 (by decide) (fun c => ?_) (fun c => ?_)
  · replace h := ite_t c h
    have g9 := hE0 _ (Option.some.inj h).symm
    exact z_mask [true, true, true, true, true, true, false, true, false, true, false, true, false, false] rfl (z_drop hp g9)
  · replace h := ite_f c h
    refine z_aload C.c dL_way_120 (i := 7) rfl ?_
    refine z_iconst C.c dL_way_122 (v := (0 : Int32)) (by decide) ?_
    refine z_iald C dL_way_123 hw7 (by decide) ?_
    refine z_if_le C.c (tgt := 148) dL_way_124 (by decide) (fun c => ?_) (fun c => ?_)
    · replace h := ite_t c h
      have g9 := hE0 _ (Option.some.inj h).symm
      exact z_mask [true, true, true, true, true, true, false, true, false, true, false, true, false, false] rfl (z_drop hp g9)
    · replace h := ite_f c h
      refine z_aload_n C.c dL_way_127 rfl (i := 1) rfl ?_
      refine z_iload_n C.c dL_way_128 rfl (i := 2) rfl ?_
      refine z_aload_n C.c dL_way_129 rfl (i := 0) rfl ?_
      refine z_iconst C.c dL_way_130 (v := (3 : Int32)) (by decide) ?_
      refine z_iload C.c dL_way_131 (i := 8) rfl ?_
      refine z_iadd C.c dL_way_133 ?_
      obtain ⟨c13, h⟩ := chk h
      refine z_iald C dL_way_134 hw0 c13 ?_
      refine z_iload C.c dL_way_135 (i := 4) rfl ?_
      refine z_aload C.c dL_way_137 (i := 7) rfl ?_
      obtain ⟨p14, e15, h⟩ := Option.bind_eq_some_iff.mp h
      refine kz_39 C hw1 hw7 dL_way_139 e15 (Nat.le_of_ble_eq_true rfl) rfl (Nat.le_of_ble_eq_true rfl) ?_
      refine z_iinc C.c (i := 13) (y := (1 : Int32)) (L' := [some (.ref r0), some (.ref r1), some (.int x2), some (.int x3), some (.int x4), some (.int x5), none, some (.ref r7), some (.int x8), some (.int x9), none, some (.int x11), some (.int x12), some (.int (x13 + (1 : Int32)))]) dL_way_142 rfl (by decide) (Nat.le_of_ble_eq_true rfl) rfl ?_
      refine z_goto C.c (tgt := 113) dL_way_145 (by decide) ?_
      have g9 := hI _ (Option.some.inj h).symm
      exact z_mask [true, true, true, true, true, true, false, true, true, true, false, true, true, true] rfl (z_drop hp g9)
set_option maxRecDepth 8000 in
theorem bL_way_b36 {K : KT} {w0 : Nat} {w1 : Nat} {x2 : Int32} {x3 : Int32} {x4 : Int32} {x5 : Int32} {w7 : Nat} {x8 : Int32} {x9 : Int32} {r0 : Nat} {r1 : Nat} {r7 : Nat} {σ : LwS} {o : (Int32 × Int32 × LwS) ⊕ (((LwS) ⊕ (Int32 × LwS)))} {V Vc : Wl} {b Ln : Nat} {xs : Nat → Int32} (C : CZ K cL_way RL 14 2 0 (some .boolean) b Ln xs) (hp : Pf Vc V) (hw0 : V[w0]? = some (r0, 63)) (hw1 : V[w1]? = some (r1, 26)) (hw7 : V[w7]? = some (r7, 3)) (hI : ∀ s' : Int32 × Int32 × LwS, o = .inl s' → GZ K 0 36 [some (.ref r0), some (.ref r1), some (.int x2), some (.int x3), some (.int x4), some (.int x5), none, some (.ref r7), some (.int s'.1), some (.int s'.2.1), none, none, none, none] [] Vc s'.2.2) (hE0 : ∀ t : LwS, o = .inr (.inl t) → GZ K 0 93 [none, none, none, none, none, none, none, none, none, none, none, none, none, none] [] Vc t) (hE1 : ∀ t : Int32 × LwS, o = .inr (.inr t) → GZ K 0 158 [some (.ref r0), none, none, none, none, none, none, none, some (.int t.1), none, none, none, none, none] [] Vc t.2) (h : fL_way_b36 w0 w1 x2 x3 x4 x5 w7 x8 x9 σ = some o) : GZ K 0 36 [some (.ref r0), some (.ref r1), some (.int x2), some (.int x3), some (.int x4), some (.int x5), none, some (.ref r7), some (.int x8), some (.int x9), none, none, none, none] [] V σ := by
  unfold fL_way_b36 at h
  refine z_iload C.c dL_way_36 (i := 9) rfl ?_
  refine z_if_lt C.c (tgt := 158) dL_way_38 (by decide) (fun c => ?_) (fun c => ?_)
  · replace h := ite_t c h
    have g9 := hE1 _ (Option.some.inj h).symm
    exact z_mask [true, false, false, false, false, false, false, false, true, false, false, false, false, false] rfl (z_drop hp g9)
  · replace h := ite_f c h
    refine z_iload C.c dL_way_41 (i := 5) rfl ?_
    refine z_iconst C.c dL_way_43 (v := (2 : Int32)) (by decide) ?_
    refine z_iload C.c dL_way_44 (i := 9) rfl ?_
    refine z_imul C.c dL_way_46 ?_
    refine z_ishr C.c dL_way_47 ?_
    refine z_iconst C.c dL_way_48 (v := (3 : Int32)) (by decide) ?_
    refine z_iand C.c dL_way_49 ?_
    refine z_istore C.c (i := 10) (L' := [some (.ref r0), some (.ref r1), some (.int x2), some (.int x3), some (.int x4), some (.int x5), none, some (.ref r7), some (.int x8), some (.int x9), some (.int ((ishr x5 ((2 : Int32) * x9)) &&& (3 : Int32))), none, none, none]) dL_way_50 (Nat.le_of_ble_eq_true rfl) rfl ?_
    refine z_aload_n C.c dL_way_52 rfl (i := 0) rfl ?_
    refine z_iload C.c dL_way_53 (i := 8) rfl ?_
    refine z_iload C.c dL_way_55 (i := 10) rfl ?_
    obtain ⟨p4, e5, h⟩ := Option.bind_eq_some_iff.mp h
    refine kz_28 C hw0 dL_way_57 e5 (Nat.le_of_ble_eq_true rfl) rfl (Nat.le_of_ble_eq_true rfl) ?_
    refine z_istore C.c (i := 11) (L' := [some (.ref r0), some (.ref r1), some (.int x2), some (.int x3), some (.int x4), some (.int x5), none, some (.ref r7), some (.int x8), some (.int x9), some (.int ((ishr x5 ((2 : Int32) * x9)) &&& (3 : Int32))), some (.int p4.1), none, none]) dL_way_60 (Nat.le_of_ble_eq_true rfl) rfl ?_
    refine z_iload C.c dL_way_62 (i := 11) rfl ?_
    refine z_if_lt C.c (tgt := 93) dL_way_64 (by decide) (fun c => ?_) (fun c => ?_)
    · replace h := ite_t c h
      have g9 := hE0 _ (Option.some.inj h).symm
      exact z_mask [false, false, false, false, false, false, false, false, false, false, false, false, false, false] rfl (z_drop hp g9)
    · replace h := ite_f c h
      refine z_aload_n C.c dL_way_67 rfl (i := 0) rfl ?_
      refine z_iconst C.c dL_way_68 (v := (3 : Int32)) (by decide) ?_
      refine z_iload C.c dL_way_69 (i := 11) rfl ?_
      refine z_iadd C.c dL_way_71 ?_
      obtain ⟨c6, h⟩ := chk h
      refine z_iald C dL_way_72 hw0 c6 ?_
      refine z_bipush C.c dL_way_73 (v := (11 : Int32)) (by decide) ?_
      refine z_icmp_eq C.c (tgt := 93) dL_way_75 (by decide) (fun c => ?_) (fun c => ?_)
      · replace h := ite_t c h
        have g9 := hE0 _ (Option.some.inj h).symm
        exact z_mask [false, false, false, false, false, false, false, false, false, false, false, false, false, false] rfl (z_drop hp g9)
      · replace h := ite_f c h
        refine z_aload_n C.c dL_way_78 rfl (i := 0) rfl ?_
        refine z_iload C.c dL_way_79 (i := 11) rfl ?_
        obtain ⟨p7, e8, h⟩ := Option.bind_eq_some_iff.mp h
        refine kz_32 C hw0 dL_way_81 e8 (Nat.le_of_ble_eq_true rfl) rfl (Nat.le_of_ble_eq_true rfl) ?_
        refine z_aload_n C.c dL_way_84 rfl (i := 0) rfl ?_
        refine z_iload C.c dL_way_85 (i := 8) rfl ?_
        obtain ⟨p9, e10, h⟩ := Option.bind_eq_some_iff.mp h
        refine kz_32 C hw0 dL_way_87 e10 (Nat.le_of_ble_eq_true rfl) rfl (Nat.le_of_ble_eq_true rfl) ?_
        refine z_icmp_lt C.c (tgt := 95) dL_way_90 (by decide) (fun c => ?_) (fun c => ?_)
        · replace h := ite_t c h
          refine z_aload_n C.c dL_way_95 rfl (i := 0) rfl ?_
          refine z_iload C.c dL_way_96 (i := 8) rfl ?_
          refine z_iload C.c dL_way_98 (i := 10) rfl ?_
          refine z_aload C.c dL_way_100 (i := 7) rfl ?_
          refine z_iconst C.c dL_way_102 (v := (0 : Int32)) (by decide) ?_
          refine z_iald C dL_way_103 hw7 (by decide) ?_
          refine z_iload_n C.c dL_way_104 rfl (i := 3) rfl ?_
          obtain ⟨p11, e12, h⟩ := Option.bind_eq_some_iff.mp h
          refine kz_35 C hw0 dL_way_105 e12 (Nat.le_of_ble_eq_true rfl) rfl (Nat.le_of_ble_eq_true rfl) ?_
          refine z_istore C.c (i := 12) (L' := [some (.ref r0), some (.ref r1), some (.int x2), some (.int x3), some (.int x4), some (.int x5), none, some (.ref r7), some (.int x8), some (.int x9), some (.int ((ishr x5 ((2 : Int32) * x9)) &&& (3 : Int32))), some (.int p4.1), some (.int p11.1), none]) dL_way_108 (Nat.le_of_ble_eq_true rfl) rfl ?_
          refine z_iconst C.c dL_way_110 (v := (0 : Int32)) (by decide) ?_
          refine z_istore C.c (i := 13) (L' := [some (.ref r0), some (.ref r1), some (.int x2), some (.int x3), some (.int x4), some (.int x5), none, some (.ref r7), some (.int x8), some (.int x9), some (.int ((ishr x5 ((2 : Int32) * x9)) &&& (3 : Int32))), some (.int p4.1), some (.int p11.1), some (.int (0 : Int32))]) dL_way_111 (Nat.le_of_ble_eq_true rfl) rfl ?_
          refine z_mask [true, true, true, true, true, true, false, true, true, true, false, true, true, true] rfl ?_
          refine lp_bind (Gh := fun s => GZ K 0 113 [some (.ref r0), some (.ref r1), some (.int x2), some (.int x3), some (.int x4), some (.int x5), none, some (.ref r7), some (.int x8), some (.int x9), none, some (.int p4.1), some (.int p11.1), some (.int s.1)] [] V s.2) h (fun s o2 hf gI gE => ?_)
          refine bL_way_b113 C Pf.rf hw0 hw1 hw7 gI (fun t16 e => ?_) hf
          · have h := gE _ e
            refine z_iload C.c dL_way_148 (i := 11) rfl ?_
            refine z_istore C.c (i := 8) (L' := [some (.ref r0), some (.ref r1), some (.int x2), some (.int x3), some (.int x4), some (.int x5), none, some (.ref r7), some (.int p4.1), some (.int x9), none, some (.int p4.1), none, none]) dL_way_150 (Nat.le_of_ble_eq_true rfl) rfl ?_
            refine z_iinc C.c (i := 9) (y := (-1 : Int32)) (L' := [some (.ref r0), some (.ref r1), some (.int x2), some (.int x3), some (.int x4), some (.int x5), none, some (.ref r7), some (.int p4.1), some (.int (x9 + (-1 : Int32))), none, some (.int p4.1), none, none]) dL_way_152 rfl (by decide) (Nat.le_of_ble_eq_true rfl) rfl ?_
            refine z_goto C.c (tgt := 36) dL_way_155 (by decide) ?_
            have g9 := hI _ (Option.some.inj h).symm
            exact z_mask [true, true, true, true, true, true, false, true, true, true, false, false, false, false] rfl (z_drop hp g9)
        · replace h := ite_f c h
          have g9 := hE0 _ (Option.some.inj h).symm
          exact z_mask [false, false, false, false, false, false, false, false, false, false, false, false, false, false] rfl (z_drop hp g9)
set_option maxRecDepth 8000 in
theorem bL_way_b0 {K : KT} {w0 : Nat} {w1 : Nat} {x2 : Int32} {x3 : Int32} {x4 : Int32} {x5 : Int32} {x6 : Int32} {w7 : Nat} {r0 : Nat} {r1 : Nat} {r7 : Nat} {σ : LwS} {o : Int32 × LwS} {V Vc : Wl} {b Ln : Nat} {xs : Nat → Int32} (C : CZ K cL_way RL 14 2 0 (some .boolean) b Ln xs) (hp : Pf Vc V) (hw0 : V[w0]? = some (r0, 63)) (hw1 : V[w1]? = some (r1, 26)) (hw7 : V[w7]? = some (r7, 3)) (hQ : RZ K Vc 0 (ozI o)) (h : fL_way_b0 w0 w1 x2 x3 x4 x5 x6 w7 σ = some o) : GZ K 0 0 [some (.ref r0), some (.ref r1), some (.int x2), some (.int x3), some (.int x4), some (.int x5), some (.int x6), some (.ref r7), none, none, none, none, none, none] [] V σ := by
  unfold fL_way_b0 at h
  refine z_aload_n C.c dL_way_0 rfl (i := 1) rfl ?_
  refine z_iload_n C.c dL_way_1 rfl (i := 2) rfl ?_
  refine z_iconst C.c dL_way_2 (v := (1 : Int32)) (by decide) ?_
  refine z_iadd C.c dL_way_3 ?_
  obtain ⟨c1, h⟩ := chk h
  refine z_iald C dL_way_4 hw1 c1 ?_
  refine z_istore C.c (i := 8) (L' := [some (.ref r0), some (.ref r1), some (.int x2), some (.int x3), some (.int x4), some (.int x5), some (.int x6), some (.ref r7), some (.int (rT σ w1 ((x2 + (1 : Int32))).toNatClampNeg)), none, none, none, none, none]) dL_way_5 (Nat.le_of_ble_eq_true rfl) rfl ?_
  refine z_aload C.c dL_way_7 (i := 7) rfl ?_
  refine z_iconst C.c dL_way_9 (v := (0 : Int32)) (by decide) ?_
  refine z_aload_n C.c dL_way_10 rfl (i := 1) rfl ?_
  refine z_iload_n C.c dL_way_11 rfl (i := 2) rfl ?_
  refine z_iconst C.c dL_way_12 (v := (2 : Int32)) (by decide) ?_
  refine z_iadd C.c dL_way_13 ?_
  obtain ⟨c2, h⟩ := chk h
  refine z_iald C dL_way_14 hw1 c2 ?_
  refine z_iast C dL_way_15 hw7 (by decide) ?_
  refine z_aload C.c dL_way_16 (i := 7) rfl ?_
  refine z_iconst C.c dL_way_18 (v := (1 : Int32)) (by decide) ?_
  refine z_aload_n C.c dL_way_19 rfl (i := 1) rfl ?_
  refine z_iload_n C.c dL_way_20 rfl (i := 2) rfl ?_
  refine z_iconst C.c dL_way_21 (v := (3 : Int32)) (by decide) ?_
  refine z_iadd C.c dL_way_22 ?_
  obtain ⟨c3, h⟩ := chk h
  refine z_iald C dL_way_23 hw1 c3 ?_
  refine z_iast C dL_way_24 hw7 (by decide) ?_
  refine z_aload C.c dL_way_25 (i := 7) rfl ?_
  refine z_iconst C.c dL_way_27 (v := (2 : Int32)) (by decide) ?_
  refine z_iconst C.c dL_way_28 (v := (0 : Int32)) (by decide) ?_
  refine z_iast C dL_way_29 hw7 (by decide) ?_
  refine z_iload C.c dL_way_30 (i := 6) rfl ?_
  refine z_iconst C.c dL_way_32 (v := (1 : Int32)) (by decide) ?_
  refine z_isub C.c dL_way_33 ?_
  refine z_istore C.c (i := 9) (L' := [some (.ref r0), some (.ref r1), some (.int x2), some (.int x3), some (.int x4), some (.int x5), some (.int x6), some (.ref r7), some (.int (rT σ w1 ((x2 + (1 : Int32))).toNatClampNeg)), some (.int (x6 - (1 : Int32))), none, none, none, none]) dL_way_34 (Nat.le_of_ble_eq_true rfl) rfl ?_
  refine z_mask [true, true, true, true, true, true, false, true, true, true, false, false, false, false] rfl ?_
  refine lp_bind (Gh := fun s => GZ K 0 36 [some (.ref r0), some (.ref r1), some (.int x2), some (.int x3), some (.int x4), some (.int x5), none, some (.ref r7), some (.int s.1), some (.int s.2.1), none, none, none, none] [] V s.2.2) h (fun s o2 hf gI gE => ?_)
  refine bL_way_b36 C Pf.rf hw0 hw1 hw7 gI (fun t18 e => ?_) (fun t18 e => ?_) hf
  · have h := el_l (gE _ e)
    refine z_iconst C.c dL_way_93 (v := (0 : Int32)) (by decide) ?_
    obtain rfl := Option.some.inj h
    exact z_iret C hp hQ dL_way_94 rfl ⟨rfl, rfl⟩
  · have h := el_r (gE _ e)
    refine z_iload C.c dL_way_158 (i := 8) rfl ?_
    refine z_aload_n C.c dL_way_160 rfl (i := 0) rfl ?_
    refine z_iconst C.c dL_way_161 (v := (2 : Int32)) (by decide) ?_
    refine z_iald C dL_way_162 hw0 (by decide) ?_
    refine z_icmp_ne C.c (tgt := 170) dL_way_163 (by decide) (fun c => ?_) (fun c => ?_)
    · replace h := ite_f c h
      refine z_iconst C.c dL_way_170 (v := (0 : Int32)) (by decide) ?_
      obtain rfl := Option.some.inj h
      exact z_iret C hp hQ dL_way_171 rfl ⟨rfl, rfl⟩
    · replace h := ite_t c h
      refine z_iconst C.c dL_way_166 (v := (1 : Int32)) (by decide) ?_
      refine z_goto C.c (tgt := 171) dL_way_167 (by decide) ?_
      obtain rfl := Option.some.inj h
      exact z_iret C hp hQ dL_way_171 rfl ⟨rfl, rfl⟩
def fL_way (q0 : Nat) (q1 : Nat) (a2 : Int32) (a3 : Int32) (a4 : Int32) (a5 : Int32) (a6 : Int32) (q7 : Nat) (σ : LwS) : Option (Int32 × LwS) := fL_way_b0 q0 q1 a2 a3 a4 a5 a6 q7 σ
theorem ct_L_way {q0 : Nat} {q1 : Nat} {a2 : Int32} {a3 : Int32} {a4 : Int32} {a5 : Int32} {a6 : Int32} {q7 : Nat} {r0 : Nat} {r1 : Nat} {r7 : Nat} {V : Wl} {b Ln : Nat} {xs : Nat → Int32} {σ : LwS} {p : Int32 × LwS} (hq0 : V[q0]? = some (r0, 63)) (hq1 : V[q1]? = some (r1, 26)) (hq7 : V[q7]? = some (r7, 3)) (hs : σ.2.2 = 0) (h : fL_way q0 q1 a2 a3 a4 a5 a6 q7 σ = some p) : CtZ V yL_way cL_way 14 (some .boolean) 2 0 b Ln xs (fun ad => [.ref r0, .ref r1, .int a2, .int a3, .int a4, .int a5, .int a6, .ref r7]) σ (ozI p) :=
 ctz_of (L0 := fun ad => [some (.ref r0), some (.ref r1), some (.int a2), some (.int a3), some (.int a4), some (.int a5), some (.int a6), some (.ref r7), none, none, none, none, none, none]) (by decide) hs (fun _ => Nat.le_of_ble_eq_true rfl) (fun _ => rfl) (fun K C hQ => z_mask [true, true, true, true, true, true, true, true, false, false, false, false, false, false] rfl (bL_way_b0 C Pf.rf hq0 hq1 hq7 hQ h))
-- L_write
theorem dL_write_0 : decode cL_write 0 = .ok (.iconst 0, 1) := by decide +kernel
theorem dL_write_1 : decode cL_write 1 = .ok (.istore_n 3, 1) := by decide +kernel
theorem dL_write_2 : decode cL_write 2 = .ok (.iload_n 3, 1) := by decide +kernel
theorem dL_write_3 : decode cL_write 3 = .ok (.iload_n 2, 1) := by decide +kernel
theorem dL_write_4 : decode cL_write 4 = .ok (.if_icmp .ge 25, 3) := by decide +kernel
theorem dL_write_7 : decode cL_write 7 = .ok (.aload_n 0, 1) := by decide +kernel
theorem dL_write_8 : decode cL_write 8 = .ok (.aload_n 1, 1) := by decide +kernel
theorem dL_write_9 : decode cL_write 9 = .ok (.iload_n 3, 1) := by decide +kernel
theorem dL_write_10 : decode cL_write 10 = .ok (.iaload, 1) := by decide +kernel
theorem dL_write_11 : decode cL_write 11 = .ok (.i2l, 1) := by decide +kernel
theorem dL_write_12 : decode cL_write 12 = .ok (.invokevirtual 18, 3) := by decide +kernel
theorem dL_write_15 : decode cL_write 15 = .ok (.iload_n 3, 1) := by decide +kernel
theorem dL_write_16 : decode cL_write 16 = .ok (.iconst 1, 1) := by decide +kernel
theorem dL_write_17 : decode cL_write 17 = .ok (.iadd, 1) := by decide +kernel
theorem dL_write_18 : decode cL_write 18 = .ok (.if_icmp .eq 5, 3) := by decide +kernel
theorem dL_write_21 : decode cL_write 21 = .ok (.iconst 0, 1) := by decide +kernel
theorem dL_write_22 : decode cL_write 22 = .ok (.ireturn, 1) := by decide +kernel
theorem dL_write_23 : decode cL_write 23 = .ok (.iinc 3 1, 3) := by decide +kernel
theorem dL_write_26 : decode cL_write 26 = .ok (.goto (-24), 3) := by decide +kernel
theorem dL_write_29 : decode cL_write 29 = .ok (.iconst 1, 1) := by decide +kernel
theorem dL_write_30 : decode cL_write 30 = .ok (.ireturn, 1) := by decide +kernel
theorem cw_L_write : Cw yL_write cL_write 4 (some .boolean) 3 := ⟨aw_621, aw_18, ⟨by decide, by decide⟩, by decide +kernel, by decide⟩
theorem kz_18 {K : KT} {cc : ByteArray} {nL d M pc : Nat} {ret : Option FieldType} {L : List (Option Value)} {st : List Value} {V : Wl} {σ : LwS} {b Ln : Nat} {xs : Nat → Int32} (C : CZ K cc RL nL d M ret b Ln xs) {a0 : Int64} {p : Int32 × Sg} (hd : decode cc pc = .ok (.invokevirtual 18, 3)) (e : fX9_letters a0 σ.1 = some p) (hdd : 3 + 1 ≤ d) (hLn : L.length = nL) (hr : (st.map fun v => v.category).sum ≤ 8) (k : GZ K M (pc + 3) L (.int p.1 :: st) V (cS σ p.2)) : GZ K M pc L (.long a0 :: .ref (kad K 0) :: st) V σ :=
 z_callC C (As := [.long a0]) (rest := st) hd (ct_X9_letters e) cw_X9_letters aw_622 aw_623 aw_624 rfl rfl rfl hdd hLn rfl hr (fun v τ q => by obtain ⟨rfl, rfl⟩ := q; exact k)
def fL_write_b2 (w1 : Nat) (x2 : Int32) (x3 : Int32) (σ : LwS) : Option ((Int32 × LwS) ⊕ (((LwS) ⊕ (LwS)))) :=
  if x2 ≤ x3 then (some (.inr (.inr σ))) else (if inb x3 64 = true then (Option.bind (fX9_letters (((rT σ w1 (x3).toNatClampNeg)).toInt64) σ.1) fun p2 => (if p2.1 = (x3 + (1 : Int32)) then (some (.inl ((x3 + (1 : Int32)), (cS σ p2.2)))) else (some (.inr (.inl (cS σ p2.2)))))) else none)
def fL_write_b0 (w1 : Nat) (x2 : Int32) (σ : LwS) : Option (Int32 × LwS) :=
  Option.bind (lp (fun s => fL_write_b2 w1 x2 s.1 s.2) FU ((0 : Int32), σ)) (el (fun t4 => some ((0 : Int32), t4)) (fun t4 => some ((1 : Int32), t4)))
set_option maxRecDepth 8000 in
theorem bL_write_b2 {K : KT} {w1 : Nat} {x2 : Int32} {x3 : Int32} {r1 : Nat} {σ : LwS} {o : (Int32 × LwS) ⊕ (((LwS) ⊕ (LwS)))} {V Vc : Wl} {b Ln : Nat} {xs : Nat → Int32} (C : CZ K cL_write RL 4 4 0 (some .boolean) b Ln xs) (hp : Pf Vc V) (hw1 : V[w1]? = some (r1, 64)) (hI : ∀ s' : Int32 × LwS, o = .inl s' → GZ K 0 2 [some (.ref (kad K 0)), some (.ref r1), some (.int x2), some (.int s'.1)] [] Vc s'.2) (hE0 : ∀ t : LwS, o = .inr (.inl t) → GZ K 0 21 [none, none, none, none] [] Vc t) (hE1 : ∀ t : LwS, o = .inr (.inr t) → GZ K 0 29 [none, none, none, none] [] Vc t) (h : fL_write_b2 w1 x2 x3 σ = some o) : GZ K 0 2 [some (.ref (kad K 0)), some (.ref r1), some (.int x2), some (.int x3)] [] V σ := by
  unfold fL_write_b2 at h
  refine z_iload_n C.c dL_write_2 rfl (i := 3) rfl ?_
  refine z_iload_n C.c dL_write_3 rfl (i := 2) rfl ?_
  refine z_icmp_ge C.c (tgt := 29) dL_write_4 (by decide) (fun c => ?_) (fun c => ?_)
  · replace h := ite_t c h
    have g9 := hE1 _ (Option.some.inj h).symm
    exact z_mask [false, false, false, false] rfl (z_drop hp g9)
  · replace h := ite_f c h
    refine z_aload_n C.c dL_write_7 rfl (i := 0) rfl ?_
    refine z_aload_n C.c dL_write_8 rfl (i := 1) rfl ?_
    refine z_iload_n C.c dL_write_9 rfl (i := 3) rfl ?_
    obtain ⟨c1, h⟩ := chk h
    refine z_iald C dL_write_10 hw1 c1 ?_
    refine z_i2l C.c dL_write_11 ?_
    obtain ⟨p2, e3, h⟩ := Option.bind_eq_some_iff.mp h
    refine kz_18 C dL_write_12 e3 (Nat.le_of_ble_eq_true rfl) rfl (Nat.le_of_ble_eq_true rfl) ?_
    refine z_iload_n C.c dL_write_15 rfl (i := 3) rfl ?_
    refine z_iconst C.c dL_write_16 (v := (1 : Int32)) (by decide) ?_
    refine z_iadd C.c dL_write_17 ?_
    refine z_icmp_eq C.c (tgt := 23) dL_write_18 (by decide) (fun c => ?_) (fun c => ?_)
    · replace h := ite_t c h
      refine z_iinc C.c (i := 3) (y := (1 : Int32)) (L' := [some (.ref (kad K 0)), some (.ref r1), some (.int x2), some (.int (x3 + (1 : Int32)))]) dL_write_23 rfl (by decide) (Nat.le_of_ble_eq_true rfl) rfl ?_
      refine z_goto C.c (tgt := 2) dL_write_26 (by decide) ?_
      have g9 := hI _ (Option.some.inj h).symm
      exact z_mask [true, true, true, true] rfl (z_drop hp g9)
    · replace h := ite_f c h
      have g9 := hE0 _ (Option.some.inj h).symm
      exact z_mask [false, false, false, false] rfl (z_drop hp g9)
set_option maxRecDepth 8000 in
theorem bL_write_b0 {K : KT} {w1 : Nat} {x2 : Int32} {r1 : Nat} {σ : LwS} {o : Int32 × LwS} {V Vc : Wl} {b Ln : Nat} {xs : Nat → Int32} (C : CZ K cL_write RL 4 4 0 (some .boolean) b Ln xs) (hp : Pf Vc V) (hw1 : V[w1]? = some (r1, 64)) (hQ : RZ K Vc 0 (ozI o)) (h : fL_write_b0 w1 x2 σ = some o) : GZ K 0 0 [some (.ref (kad K 0)), some (.ref r1), some (.int x2), none] [] V σ := by
  unfold fL_write_b0 at h
  refine z_iconst C.c dL_write_0 (v := (0 : Int32)) (by decide) ?_
  refine z_istore_n C.c (i := 3) (L' := [some (.ref (kad K 0)), some (.ref r1), some (.int x2), some (.int (0 : Int32))]) dL_write_1 rfl (Nat.le_of_ble_eq_true rfl) rfl ?_
  refine z_mask [true, true, true, true] rfl ?_
  refine lp_bind (Gh := fun s => GZ K 0 2 [some (.ref (kad K 0)), some (.ref r1), some (.int x2), some (.int s.1)] [] V s.2) h (fun s o2 hf gI gE => ?_)
  refine bL_write_b2 C Pf.rf hw1 gI (fun t4 e => ?_) (fun t4 e => ?_) hf
  · have h := el_l (gE _ e)
    refine z_iconst C.c dL_write_21 (v := (0 : Int32)) (by decide) ?_
    obtain rfl := Option.some.inj h
    exact z_iret C hp hQ dL_write_22 rfl ⟨rfl, rfl⟩
  · have h := el_r (gE _ e)
    refine z_iconst C.c dL_write_29 (v := (1 : Int32)) (by decide) ?_
    obtain rfl := Option.some.inj h
    exact z_iret C hp hQ dL_write_30 rfl ⟨rfl, rfl⟩
def fL_write (q1 : Nat) (a2 : Int32) (σ : LwS) : Option (Int32 × LwS) := fL_write_b0 q1 a2 σ
theorem ct_L_write {q1 : Nat} {a2 : Int32} {r1 : Nat} {V : Wl} {b Ln : Nat} {xs : Nat → Int32} {σ : LwS} {p : Int32 × LwS} (hq1 : V[q1]? = some (r1, 64)) (hs : σ.2.2 = 0) (h : fL_write q1 a2 σ = some p) : CtZ V yL_write cL_write 4 (some .boolean) 4 0 b Ln xs (fun ad => [.ref (ad 0), .ref r1, .int a2]) σ (ozI p) :=
 ctz_of (L0 := fun ad => [some (.ref (ad 0)), some (.ref r1), some (.int a2), none]) (by decide) hs (fun _ => Nat.le_of_ble_eq_true rfl) (fun _ => rfl) (fun K C hQ => z_mask [true, true, true, false] rfl (bL_write_b0 C Pf.rf hq1 hQ h))
