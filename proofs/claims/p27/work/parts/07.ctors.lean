/-! ===== the constructors ===== -/
abbrev layS0 : List Sh := [(0, 0, slX0)]
abbrev layS1 : List Sh := [(0, 1, slX1), (1, 3, [])]
abbrev layS6 : List Sh := [(0, 6, slX6), (1, 64, [])]
abbrev layS7 : List Sh := [(0, 7, slX7), (1, 30, []), (1, 30, []), (1, 30, []), (1, 30, []), (5, 30, [(1, 30)]), (1, 4, []), (1, 4, []), (1, 4, []), (1, 4, []), (1, 4, []), (1, 4, []), (1, 4, []), (1, 4, []), (1, 4, []), (1, 4, []), (1, 4, []), (1, 4, []), (1, 4, []), (1, 4, []), (1, 4, []), (1, 4, []), (1, 4, []), (1, 4, []), (1, 4, []), (1, 4, []), (1, 4, []), (1, 4, []), (1, 4, []), (1, 4, []), (1, 4, []), (1, 4, []), (1, 4, []), (1, 4, []), (1, 4, []), (1, 4, [])]
abbrev layS8 : List Sh := [(0, 8, slX8), (0, 7, slX7), (1, 30, []), (1, 30, []), (1, 30, []), (1, 30, []), (5, 30, [(1, 30)]), (1, 4, []), (1, 4, []), (1, 4, []), (1, 4, []), (1, 4, []), (1, 4, []), (1, 4, []), (1, 4, []), (1, 4, []), (1, 4, []), (1, 4, []), (1, 4, []), (1, 4, []), (1, 4, []), (1, 4, []), (1, 4, []), (1, 4, []), (1, 4, []), (1, 4, []), (1, 4, []), (1, 4, []), (1, 4, []), (1, 4, []), (1, 4, []), (1, 4, []), (1, 4, []), (1, 4, []), (1, 4, []), (1, 4, []), (1, 4, []), (0, 1, slX1), (1, 3, []), (1, 10, []), (1, 10, []), (1, 10, []), (1, 9, []), (1, 9, []), (0, 0, slX0)]
abbrev layS4 : List Sh := [(0, 4, slX4), (1, 10, []), (1, 10, []), (1, 10, [])]
abbrev layS2 : List Sh := [(0, 2, slX2), (1, 5, []), (1, 5, []), (0, 1, slX1), (1, 3, [])]
abbrev layS3 : List Sh := [(0, 3, slX3), (5, 5, [(1, 5)]), (1, 24, []), (1, 24, []), (1, 24, []), (1, 24, []), (1, 24, []), (3, 5, []), (3, 5, []), (5, 6, [(1, 6)]), (1, 12, []), (1, 12, []), (1, 12, []), (1, 12, []), (1, 12, []), (1, 12, [])]
abbrev layS5 : List Sh := [(0, 5, slX5), (2, 1000, [])]
abbrev layS9 : List Sh := layC
theorem dX0_init_0 : decode cX0_init 0 = .ok (.aload_n 0, 1) := by decide +kernel
theorem dX0_init_1 : decode cX0_init 1 = .ok (.invokespecial 1, 3) := by decide +kernel
theorem dX0_init_4 : decode cX0_init 4 = .ok (.return_, 1) := by decide +kernel
def σX0 : Sg := σz
theorem df0 : ∀ j, j < 6 → defaultValue (tyX0 j) = vp_V (dfl [(0, 0), (0, 0), (0, 0), (0, 0), (0, 0), (0, 0)]) j := by decide +kernel
theorem cwi_X0 : Cwi yX0_init cX0_init 1 := ⟨aw_131, aw_24, ⟨by decide, by decide⟩, by decide +kernel, by decide, rfl⟩
set_option maxRecDepth 8000 in
theorem bn_X0 {K : KT} (C : CxI K cX0_init RX0 1 1 0 0) (hN : (kmeth K).name = "<init>") (hQ : Rki K layS0 σX0 0 0) : GW K 0 (pad [some (.ref (kad K 0))] 1) [] 0 0 (WI K [(0, 0, [(0, 0), (0, 0), (0, 0), (0, 0), (0, 0), (0, 0)])] σz (kad K)) := by
  show GW K 0 [some (.ref (kad K 0))] [] 0 0 (WI K _ _ (kad K))
  refine n_aload_n C.1 dX0_init_0 rfl (i := 0) rfl ?_
  refine n_obj C dX0_init_1 aw_132 aw_37 aw_38 rfl (Nat.le_of_ble_eq_true rfl) (Nat.le_of_ble_eq_true rfl) ?_
  exact n_vret C hQ rfl (Nat.le_of_ble_eq_true rfl) dX0_init_4
theorem cn_X0 : Cn yX0_init cX0_init 1 1 0 [(0, 0), (0, 0), (0, 0), (0, 0), (0, 0), (0, 0)] layS0 σX0 0 0 := cn_of (by decide) rfl (by decide) (by decide) (fun K C hN hQ => bn_X0 C hN hQ)
theorem dX1_init_0 : decode cX1_init 0 = .ok (.aload_n 0, 1) := by decide +kernel
theorem dX1_init_1 : decode cX1_init 1 = .ok (.invokespecial 1, 3) := by decide +kernel
theorem dX1_init_4 : decode cX1_init 4 = .ok (.aload_n 0, 1) := by decide +kernel
theorem dX1_init_5 : decode cX1_init 5 = .ok (.iconst 3, 1) := by decide +kernel
theorem dX1_init_6 : decode cX1_init 6 = .ok (.newarray .int, 2) := by decide +kernel
theorem dX1_init_8 : decode cX1_init 8 = .ok (.dup, 1) := by decide +kernel
theorem dX1_init_9 : decode cX1_init 9 = .ok (.iconst 0, 1) := by decide +kernel
theorem dX1_init_10 : decode cX1_init 10 = .ok (.iconst 3, 1) := by decide +kernel
theorem dX1_init_11 : decode cX1_init 11 = .ok (.iastore, 1) := by decide +kernel
theorem dX1_init_12 : decode cX1_init 12 = .ok (.dup, 1) := by decide +kernel
theorem dX1_init_13 : decode cX1_init 13 = .ok (.iconst 1, 1) := by decide +kernel
theorem dX1_init_14 : decode cX1_init 14 = .ok (.iconst 1, 1) := by decide +kernel
theorem dX1_init_15 : decode cX1_init 15 = .ok (.iastore, 1) := by decide +kernel
theorem dX1_init_16 : decode cX1_init 16 = .ok (.dup, 1) := by decide +kernel
theorem dX1_init_17 : decode cX1_init 17 = .ok (.iconst 2, 1) := by decide +kernel
theorem dX1_init_18 : decode cX1_init 18 = .ok (.bipush 20, 2) := by decide +kernel
theorem dX1_init_20 : decode cX1_init 20 = .ok (.iastore, 1) := by decide +kernel
theorem dX1_init_21 : decode cX1_init 21 = .ok (.putfield 7, 3) := by decide +kernel
theorem dX1_init_24 : decode cX1_init 24 = .ok (.return_, 1) := by decide +kernel
def σX1 : Sg := (wI (wI (wI σz 1 ((0 : Int32)).toNatClampNeg (3 : Int32)) 1 ((1 : Int32)).toNatClampNeg (1 : Int32)) 1 ((2 : Int32)).toNatClampNeg (20 : Int32))
theorem df1 : ∀ j, j < 1 → defaultValue (tyX1 j) = vp_V (dfl [(4, 0)]) j := by decide +kernel
theorem cwi_X1 : Cwi yX1_init cX1_init 1 := ⟨aw_121, aw_23, ⟨by decide, by decide⟩, by decide +kernel, by decide, rfl⟩
set_option maxRecDepth 8000 in
theorem bn_X1 {K : KT} (C : CxI K cX1_init RX1 1 1 1 3) (hN : (kmeth K).name = "<init>") (hQ : Rki K layS1 σX1 1 3) : GW K 0 (pad [some (.ref (kad K 0))] 1) [] 0 0 (WI K [(0, 1, [(4, 0)])] σz (kad K)) := by
  show GW K 0 [some (.ref (kad K 0))] [] 0 0 (WI K _ _ (kad K))
  refine n_aload_n C.1 dX1_init_0 rfl (i := 0) rfl ?_
  refine n_obj C dX1_init_1 aw_122 aw_37 aw_38 rfl (Nat.le_of_ble_eq_true rfl) (Nat.le_of_ble_eq_true rfl) ?_
  refine n_aload_n C.1 dX1_init_4 rfl (i := 0) rfl ?_
  refine n_iconst C.1 dX1_init_5 (v := (3 : Int32)) (by decide) ?_
  refine n_newI C (N := 3) dX1_init_6 aw_68 (by decide) (by decide) (Nat.le_of_ble_eq_true rfl) (Nat.le_of_ble_eq_true rfl) (Nat.le_of_ble_eq_true rfl) (fun a1 e1 => ?_)
  rw [← e1 0 (Nat.le_of_ble_eq_true rfl)]
  have z1 : a1 0 = kad K 0 := (e1 0 (Nat.le_of_ble_eq_true rfl)).trans rfl
  show GW K 8 [some (.ref (a1 0))] [.ref (a1 1), .ref (a1 0)] 1 3 (WI K _ _ a1)
  refine n_dup C.1 dX1_init_8 rfl ?_
  refine n_iconst C.1 dX1_init_9 (v := (0 : Int32)) (by decide) ?_
  refine n_iconst C.1 dX1_init_10 (v := (3 : Int32)) (by decide) ?_
  refine n_iast C (o := 1) dX1_init_11 rfl (by decide) ?_
  refine n_dup C.1 dX1_init_12 rfl ?_
  refine n_iconst C.1 dX1_init_13 (v := (1 : Int32)) (by decide) ?_
  refine n_iconst C.1 dX1_init_14 (v := (1 : Int32)) (by decide) ?_
  refine n_iast C (o := 1) dX1_init_15 rfl (by decide) ?_
  refine n_dup C.1 dX1_init_16 rfl ?_
  refine n_iconst C.1 dX1_init_17 (v := (2 : Int32)) (by decide) ?_
  refine n_bipush C.1 dX1_init_18 (v := (20 : Int32)) (by decide) ?_
  refine n_iast C (o := 1) dX1_init_20 rfl (by decide) ?_
  refine n_putC C (o := 0) (kx := 1) (k := 0) (off := 1) (v := 1) hN dX1_init_21 rfl (Nat.le_of_ble_eq_true rfl) rfl (by decide) aw_123 inA1 tyX1_ok nmX1 rfl (fun _ => rfl) (fun _ => rfl) rfl (Nat.le_of_ble_eq_true rfl) ?_
  exact n_vret C hQ z1 (Nat.le_of_ble_eq_true rfl) dX1_init_24
theorem cn_X1 : Cn yX1_init cX1_init 1 1 1 [(4, 0)] layS1 σX1 1 3 := cn_of (by decide) rfl (by decide) (by decide) (fun K C hN hQ => bn_X1 C hN hQ)
theorem dX6_init_0 : decode cX6_init 0 = .ok (.aload_n 0, 1) := by decide +kernel
theorem dX6_init_1 : decode cX6_init 1 = .ok (.invokespecial 3, 3) := by decide +kernel
theorem dX6_init_4 : decode cX6_init 4 = .ok (.aload_n 0, 1) := by decide +kernel
theorem dX6_init_5 : decode cX6_init 5 = .ok (.bipush 64, 2) := by decide +kernel
theorem dX6_init_7 : decode cX6_init 7 = .ok (.newarray .int, 2) := by decide +kernel
theorem dX6_init_9 : decode cX6_init 9 = .ok (.putfield 11, 3) := by decide +kernel
theorem dX6_init_12 : decode cX6_init 12 = .ok (.return_, 1) := by decide +kernel
def σX6 : Sg := σz
theorem df6 : ∀ j, j < 7 → defaultValue (tyX6 j) = vp_V (dfl [(4, 0), (0, 0), (0, 0), (0, 0), (0, 0), (0, 0), (0, 0)]) j := by decide +kernel
theorem cwi_X6 : Cwi yX6_init cX6_init 1 := ⟨aw_43, aw_20, ⟨by decide, by decide⟩, by decide +kernel, by decide, rfl⟩
set_option maxRecDepth 8000 in
theorem bn_X6 {K : KT} (C : CxI K cX6_init RX6 1 1 1 64) (hN : (kmeth K).name = "<init>") (hQ : Rki K layS6 σX6 1 64) : GW K 0 (pad [some (.ref (kad K 0))] 1) [] 0 0 (WI K [(0, 6, [(4, 0), (0, 0), (0, 0), (0, 0), (0, 0), (0, 0), (0, 0)])] σz (kad K)) := by
  show GW K 0 [some (.ref (kad K 0))] [] 0 0 (WI K _ _ (kad K))
  refine n_aload_n C.1 dX6_init_0 rfl (i := 0) rfl ?_
  refine n_obj C dX6_init_1 aw_44 aw_37 aw_38 rfl (Nat.le_of_ble_eq_true rfl) (Nat.le_of_ble_eq_true rfl) ?_
  refine n_aload_n C.1 dX6_init_4 rfl (i := 0) rfl ?_
  refine n_bipush C.1 dX6_init_5 (v := (64 : Int32)) (by decide) ?_
  refine n_newI C (N := 64) dX6_init_7 aw_68 (by decide) (by decide) (Nat.le_of_ble_eq_true rfl) (Nat.le_of_ble_eq_true rfl) (Nat.le_of_ble_eq_true rfl) (fun a1 e1 => ?_)
  rw [← e1 0 (Nat.le_of_ble_eq_true rfl)]
  have z1 : a1 0 = kad K 0 := (e1 0 (Nat.le_of_ble_eq_true rfl)).trans rfl
  show GW K 9 [some (.ref (a1 0))] [.ref (a1 1), .ref (a1 0)] 1 64 (WI K _ _ a1)
  refine n_putC C (o := 0) (kx := 6) (k := 0) (off := 1) (v := 1) hN dX6_init_9 rfl (Nat.le_of_ble_eq_true rfl) rfl (by decide) aw_45 inA6 tyX6_ok nmX6 rfl (fun _ => rfl) (fun _ => rfl) rfl (Nat.le_of_ble_eq_true rfl) ?_
  exact n_vret C hQ z1 (Nat.le_of_ble_eq_true rfl) dX6_init_12
theorem cn_X6 : Cn yX6_init cX6_init 1 1 6 [(4, 0), (0, 0), (0, 0), (0, 0), (0, 0), (0, 0), (0, 0)] layS6 σX6 1 64 := cn_of (by decide) rfl (by decide) (by decide) (fun K C hN hQ => bn_X6 C hN hQ)
theorem dX7_init_0 : decode cX7_init 0 = .ok (.aload_n 0, 1) := by decide +kernel
theorem dX7_init_1 : decode cX7_init 1 = .ok (.invokespecial 5, 3) := by decide +kernel
theorem dX7_init_4 : decode cX7_init 4 = .ok (.aload_n 0, 1) := by decide +kernel
theorem dX7_init_5 : decode cX7_init 5 = .ok (.bipush 30, 2) := by decide +kernel
theorem dX7_init_7 : decode cX7_init 7 = .ok (.newarray .int, 2) := by decide +kernel
theorem dX7_init_9 : decode cX7_init 9 = .ok (.putfield 11, 3) := by decide +kernel
theorem dX7_init_12 : decode cX7_init 12 = .ok (.aload_n 0, 1) := by decide +kernel
theorem dX7_init_13 : decode cX7_init 13 = .ok (.bipush 30, 2) := by decide +kernel
theorem dX7_init_15 : decode cX7_init 15 = .ok (.newarray .int, 2) := by decide +kernel
theorem dX7_init_17 : decode cX7_init 17 = .ok (.putfield 15, 3) := by decide +kernel
theorem dX7_init_20 : decode cX7_init 20 = .ok (.aload_n 0, 1) := by decide +kernel
theorem dX7_init_21 : decode cX7_init 21 = .ok (.bipush 30, 2) := by decide +kernel
theorem dX7_init_23 : decode cX7_init 23 = .ok (.newarray .int, 2) := by decide +kernel
theorem dX7_init_25 : decode cX7_init 25 = .ok (.putfield 18, 3) := by decide +kernel
theorem dX7_init_28 : decode cX7_init 28 = .ok (.aload_n 0, 1) := by decide +kernel
theorem dX7_init_29 : decode cX7_init 29 = .ok (.bipush 30, 2) := by decide +kernel
theorem dX7_init_31 : decode cX7_init 31 = .ok (.newarray .int, 2) := by decide +kernel
theorem dX7_init_33 : decode cX7_init 33 = .ok (.putfield 21, 3) := by decide +kernel
theorem dX7_init_36 : decode cX7_init 36 = .ok (.aload_n 0, 1) := by decide +kernel
theorem dX7_init_37 : decode cX7_init 37 = .ok (.bipush 30, 2) := by decide +kernel
theorem dX7_init_39 : decode cX7_init 39 = .ok (.iconst 4, 1) := by decide +kernel
theorem dX7_init_40 : decode cX7_init 40 = .ok (.multianewarray 24 2, 4) := by decide +kernel
theorem dX7_init_44 : decode cX7_init 44 = .ok (.putfield 26, 3) := by decide +kernel
theorem dX7_init_47 : decode cX7_init 47 = .ok (.return_, 1) := by decide +kernel
def σX7 : Sg := σz
theorem df7 : ∀ j, j < 8 → defaultValue (tyX7 j) = vp_V (dfl [(4, 0), (4, 0), (4, 0), (4, 0), (4, 0), (0, 0), (0, 0), (0, 0)]) j := by decide +kernel
theorem cwi_X7 : Cwi yX7_init cX7_init 1 := ⟨aw_79, aw_22, ⟨by decide, by decide⟩, by decide +kernel, by decide, rfl⟩
set_option maxRecDepth 8000 in
theorem bn_X7 {K : KT} (C : CxI K cX7_init RX7 1 1 35 270) (hN : (kmeth K).name = "<init>") (hQ : Rki K layS7 σX7 35 270) : GW K 0 (pad [some (.ref (kad K 0))] 1) [] 0 0 (WI K [(0, 7, [(4, 0), (4, 0), (4, 0), (4, 0), (4, 0), (0, 0), (0, 0), (0, 0)])] σz (kad K)) := by
  show GW K 0 [some (.ref (kad K 0))] [] 0 0 (WI K _ _ (kad K))
  refine n_aload_n C.1 dX7_init_0 rfl (i := 0) rfl ?_
  refine n_obj C dX7_init_1 aw_80 aw_37 aw_38 rfl (Nat.le_of_ble_eq_true rfl) (Nat.le_of_ble_eq_true rfl) ?_
  refine n_aload_n C.1 dX7_init_4 rfl (i := 0) rfl ?_
  refine n_bipush C.1 dX7_init_5 (v := (30 : Int32)) (by decide) ?_
  refine n_newI C (N := 30) dX7_init_7 aw_68 (by decide) (by decide) (Nat.le_of_ble_eq_true rfl) (Nat.le_of_ble_eq_true rfl) (Nat.le_of_ble_eq_true rfl) (fun a1 e1 => ?_)
  rw [← e1 0 (Nat.le_of_ble_eq_true rfl)]
  have z1 : a1 0 = kad K 0 := (e1 0 (Nat.le_of_ble_eq_true rfl)).trans rfl
  show GW K 9 [some (.ref (a1 0))] [.ref (a1 1), .ref (a1 0)] 1 30 (WI K _ _ a1)
  refine n_putC C (o := 0) (kx := 7) (k := 0) (off := 1) (v := 1) hN dX7_init_9 rfl (Nat.le_of_ble_eq_true rfl) rfl (by decide) aw_83 inA7 tyX7_ok nmX7 rfl (fun _ => rfl) (fun _ => rfl) rfl (Nat.le_of_ble_eq_true rfl) ?_
  refine n_aload_n C.1 dX7_init_12 rfl (i := 0) rfl ?_
  refine n_bipush C.1 dX7_init_13 (v := (30 : Int32)) (by decide) ?_
  refine n_newI C (N := 30) dX7_init_15 aw_68 (by decide) (by decide) (Nat.le_of_ble_eq_true rfl) (Nat.le_of_ble_eq_true rfl) (Nat.le_of_ble_eq_true rfl) (fun a2 e2 => ?_)
  rw [← e2 0 (Nat.le_of_ble_eq_true rfl)]
  have z2 : a2 0 = kad K 0 := (e2 0 (Nat.le_of_ble_eq_true rfl)).trans z1
  show GW K 17 [some (.ref (a2 0))] [.ref (a2 2), .ref (a2 0)] 2 60 (WI K _ _ a2)
  refine n_putC C (o := 0) (kx := 7) (k := 1) (off := 2) (v := 2) hN dX7_init_17 rfl (Nat.le_of_ble_eq_true rfl) rfl (by decide) aw_86 inA7 tyX7_ok nmX7 rfl (fun _ => rfl) (fun _ => rfl) rfl (Nat.le_of_ble_eq_true rfl) ?_
  refine n_aload_n C.1 dX7_init_20 rfl (i := 0) rfl ?_
  refine n_bipush C.1 dX7_init_21 (v := (30 : Int32)) (by decide) ?_
  refine n_newI C (N := 30) dX7_init_23 aw_68 (by decide) (by decide) (Nat.le_of_ble_eq_true rfl) (Nat.le_of_ble_eq_true rfl) (Nat.le_of_ble_eq_true rfl) (fun a3 e3 => ?_)
  rw [← e3 0 (Nat.le_of_ble_eq_true rfl)]
  have z3 : a3 0 = kad K 0 := (e3 0 (Nat.le_of_ble_eq_true rfl)).trans z2
  show GW K 25 [some (.ref (a3 0))] [.ref (a3 3), .ref (a3 0)] 3 90 (WI K _ _ a3)
  refine n_putC C (o := 0) (kx := 7) (k := 2) (off := 3) (v := 3) hN dX7_init_25 rfl (Nat.le_of_ble_eq_true rfl) rfl (by decide) aw_89 inA7 tyX7_ok nmX7 rfl (fun _ => rfl) (fun _ => rfl) rfl (Nat.le_of_ble_eq_true rfl) ?_
  refine n_aload_n C.1 dX7_init_28 rfl (i := 0) rfl ?_
  refine n_bipush C.1 dX7_init_29 (v := (30 : Int32)) (by decide) ?_
  refine n_newI C (N := 30) dX7_init_31 aw_68 (by decide) (by decide) (Nat.le_of_ble_eq_true rfl) (Nat.le_of_ble_eq_true rfl) (Nat.le_of_ble_eq_true rfl) (fun a4 e4 => ?_)
  rw [← e4 0 (Nat.le_of_ble_eq_true rfl)]
  have z4 : a4 0 = kad K 0 := (e4 0 (Nat.le_of_ble_eq_true rfl)).trans z3
  show GW K 33 [some (.ref (a4 0))] [.ref (a4 4), .ref (a4 0)] 4 120 (WI K _ _ a4)
  refine n_putC C (o := 0) (kx := 7) (k := 3) (off := 4) (v := 4) hN dX7_init_33 rfl (Nat.le_of_ble_eq_true rfl) rfl (by decide) aw_91 inA7 tyX7_ok nmX7 rfl (fun _ => rfl) (fun _ => rfl) rfl (Nat.le_of_ble_eq_true rfl) ?_
  refine n_aload_n C.1 dX7_init_36 rfl (i := 0) rfl ?_
  refine n_bipush C.1 dX7_init_37 (v := (30 : Int32)) (by decide) ?_
  refine n_iconst C.1 dX7_init_39 (v := (4 : Int32)) (by decide) ?_
  refine n_mna C (N := 30) (M := 4) dX7_init_40 aw_81 aw_68 (by decide) (by decide) (by decide) (by decide) (Nat.le_of_ble_eq_true rfl) (Nat.le_of_ble_eq_true rfl) (Nat.le_of_ble_eq_true rfl) (Nat.le_of_ble_eq_true rfl) (fun a5 e5 => ?_)
  rw [← e5 0 (Nat.le_of_ble_eq_true rfl)]
  have z5 : a5 0 = kad K 0 := (e5 0 (Nat.le_of_ble_eq_true rfl)).trans z4
  show GW K 44 [some (.ref (a5 0))] [.ref (a5 5), .ref (a5 0)] 35 270 (WI K _ _ a5)
  refine n_putC C (o := 0) (kx := 7) (k := 4) (off := 5) (v := 5) hN dX7_init_44 rfl (Nat.le_of_ble_eq_true rfl) rfl (by decide) aw_93 inA7 tyX7_ok nmX7 rfl (fun _ => rfl) (fun _ => rfl) rfl (Nat.le_of_ble_eq_true rfl) ?_
  exact n_vret C hQ z5 (Nat.le_of_ble_eq_true rfl) dX7_init_47
theorem cn_X7 : Cn yX7_init cX7_init 1 1 7 [(4, 0), (4, 0), (4, 0), (4, 0), (4, 0), (0, 0), (0, 0), (0, 0)] layS7 σX7 35 270 := cn_of (by decide) rfl (by decide) (by decide) (fun K C hN hQ => bn_X7 C hN hQ)
theorem dX8_init_0 : decode cX8_init 0 = .ok (.aload_n 0, 1) := by decide +kernel
theorem dX8_init_1 : decode cX8_init 1 = .ok (.invokespecial 5, 3) := by decide +kernel
theorem dX8_init_4 : decode cX8_init 4 = .ok (.aload_n 0, 1) := by decide +kernel
theorem dX8_init_5 : decode cX8_init 5 = .ok (.new 1, 3) := by decide +kernel
theorem dX8_init_8 : decode cX8_init 8 = .ok (.dup, 1) := by decide +kernel
theorem dX8_init_9 : decode cX8_init 9 = .ok (.invokespecial 11, 3) := by decide +kernel
theorem dX8_init_12 : decode cX8_init 12 = .ok (.putfield 12, 3) := by decide +kernel
theorem dX8_init_15 : decode cX8_init 15 = .ok (.aload_n 0, 1) := by decide +kernel
theorem dX8_init_16 : decode cX8_init 16 = .ok (.new 18, 3) := by decide +kernel
theorem dX8_init_19 : decode cX8_init 19 = .ok (.dup, 1) := by decide +kernel
theorem dX8_init_20 : decode cX8_init 20 = .ok (.invokespecial 20, 3) := by decide +kernel
theorem dX8_init_23 : decode cX8_init 23 = .ok (.putfield 21, 3) := by decide +kernel
theorem dX8_init_26 : decode cX8_init 26 = .ok (.aload_n 0, 1) := by decide +kernel
theorem dX8_init_27 : decode cX8_init 27 = .ok (.bipush 10, 2) := by decide +kernel
theorem dX8_init_29 : decode cX8_init 29 = .ok (.newarray .int, 2) := by decide +kernel
theorem dX8_init_31 : decode cX8_init 31 = .ok (.putfield 25, 3) := by decide +kernel
theorem dX8_init_34 : decode cX8_init 34 = .ok (.aload_n 0, 1) := by decide +kernel
theorem dX8_init_35 : decode cX8_init 35 = .ok (.bipush 10, 2) := by decide +kernel
theorem dX8_init_37 : decode cX8_init 37 = .ok (.newarray .int, 2) := by decide +kernel
theorem dX8_init_39 : decode cX8_init 39 = .ok (.putfield 29, 3) := by decide +kernel
theorem dX8_init_42 : decode cX8_init 42 = .ok (.aload_n 0, 1) := by decide +kernel
theorem dX8_init_43 : decode cX8_init 43 = .ok (.bipush 10, 2) := by decide +kernel
theorem dX8_init_45 : decode cX8_init 45 = .ok (.newarray .int, 2) := by decide +kernel
theorem dX8_init_47 : decode cX8_init 47 = .ok (.putfield 32, 3) := by decide +kernel
theorem dX8_init_50 : decode cX8_init 50 = .ok (.aload_n 0, 1) := by decide +kernel
theorem dX8_init_51 : decode cX8_init 51 = .ok (.bipush 9, 2) := by decide +kernel
theorem dX8_init_53 : decode cX8_init 53 = .ok (.newarray .int, 2) := by decide +kernel
theorem dX8_init_55 : decode cX8_init 55 = .ok (.putfield 35, 3) := by decide +kernel
theorem dX8_init_58 : decode cX8_init 58 = .ok (.aload_n 0, 1) := by decide +kernel
theorem dX8_init_59 : decode cX8_init 59 = .ok (.bipush 9, 2) := by decide +kernel
theorem dX8_init_61 : decode cX8_init 61 = .ok (.newarray .int, 2) := by decide +kernel
theorem dX8_init_63 : decode cX8_init 63 = .ok (.putfield 38, 3) := by decide +kernel
theorem dX8_init_66 : decode cX8_init 66 = .ok (.aload_n 0, 1) := by decide +kernel
theorem dX8_init_67 : decode cX8_init 67 = .ok (.new 41, 3) := by decide +kernel
theorem dX8_init_70 : decode cX8_init 70 = .ok (.dup, 1) := by decide +kernel
theorem dX8_init_71 : decode cX8_init 71 = .ok (.invokespecial 43, 3) := by decide +kernel
theorem dX8_init_74 : decode cX8_init 74 = .ok (.putfield 44, 3) := by decide +kernel
theorem dX8_init_77 : decode cX8_init 77 = .ok (.aload_n 0, 1) := by decide +kernel
theorem dX8_init_78 : decode cX8_init 78 = .ok (.iconst 1, 1) := by decide +kernel
theorem dX8_init_79 : decode cX8_init 79 = .ok (.putfield 48, 3) := by decide +kernel
theorem dX8_init_82 : decode cX8_init 82 = .ok (.return_, 1) := by decide +kernel
def σX8 : Sg := (wI (wR (sapp 44 (sapp 37 (sapp 1 σz σX7) σX1) σX0) 0 7 44) 0 8 (1 : Int32))
theorem df8 : ∀ j, j < 17 → defaultValue (tyX8 j) = vp_V (dfl [(4, 0), (4, 0), (4, 0), (4, 0), (4, 0), (4, 0), (4, 0), (4, 0), (0, 0), (0, 0), (0, 0), (0, 0), (0, 0), (0, 0), (0, 0), (0, 0), (1, 0)]) j := by decide +kernel
theorem cwi_X8 : Cwi yX8_init cX8_init 1 := ⟨aw_73, aw_21, ⟨by decide, by decide⟩, by decide +kernel, by decide, rfl⟩
set_option maxRecDepth 8000 in
theorem bn_X8 {K : KT} (C : CxI K cX8_init RX8 1 2 44 336) (hN : (kmeth K).name = "<init>") (hQ : Rki K layS8 σX8 44 336) : GW K 0 (pad [some (.ref (kad K 0))] 1) [] 0 0 (WI K [(0, 8, [(4, 0), (4, 0), (4, 0), (4, 0), (4, 0), (4, 0), (4, 0), (4, 0), (0, 0), (0, 0), (0, 0), (0, 0), (0, 0), (0, 0), (0, 0), (0, 0), (1, 0)])] σz (kad K)) := by
  show GW K 0 [some (.ref (kad K 0))] [] 0 0 (WI K _ _ (kad K))
  refine n_aload_n C.1 dX8_init_0 rfl (i := 0) rfl ?_
  refine n_obj C dX8_init_1 aw_74 aw_37 aw_38 rfl (Nat.le_of_ble_eq_true rfl) (Nat.le_of_ble_eq_true rfl) ?_
  refine n_aload_n C.1 dX8_init_4 rfl (i := 0) rfl ?_
  refine n_new C (kx := 7) (sl := [(4, 0), (4, 0), (4, 0), (4, 0), (4, 0), (0, 0), (0, 0), (0, 0)]) dX8_init_5 rfl inA7 tyX7_ok aw_75 aw_76 aw_22 (by decide) df7 (Nat.le_of_ble_eq_true rfl) (Nat.le_of_ble_eq_true rfl) (fun a1 e1 y1 => ?_)
  rw [← e1 0 (Nat.le_of_ble_eq_true rfl)]
  have z1 : a1 0 = kad K 0 := (e1 0 (Nat.le_of_ble_eq_true rfl)).trans rfl
  show GW K 8 [some (.ref (a1 0))] [.ref (a1 1), .ref (a1 0)] 1 8 (WI K _ _ a1)
  refine n_dup C.1 dX8_init_8 rfl ?_
  refine n_call C (n := 1) (Y := _) cn_X7 dX8_init_9 cwi_X7 (Or.inr ⟨_, aw_77⟩) aw_78 (by decide) (Nat.le_of_ble_eq_true rfl) rfl rfl (Nat.le_of_ble_eq_true rfl) (Nat.le_of_ble_eq_true rfl) (Nat.le_of_ble_eq_true rfl) (Nat.le_of_ble_eq_true rfl) rfl y1 (fun a2 e2 _ => ?_)
  rw [← e2 0 (Nat.le_of_ble_eq_true rfl)]
  rw [← e2 1 (Nat.le_of_ble_eq_true rfl)]
  have z2 : a2 0 = kad K 0 := (e2 0 (Nat.le_of_ble_eq_true rfl)).trans z1
  show GW K 12 [some (.ref (a2 0))] [.ref (a2 1), .ref (a2 0)] 36 278 (WI K _ _ a2)
  refine n_putC C (o := 0) (kx := 8) (k := 0) (off := 1) (v := 1) hN dX8_init_12 rfl (Nat.le_of_ble_eq_true rfl) rfl (by decide) aw_160 inA8 tyX8_ok nmX8 rfl (fun _ => rfl) (fun _ => rfl) rfl (Nat.le_of_ble_eq_true rfl) ?_
  refine n_aload_n C.1 dX8_init_15 rfl (i := 0) rfl ?_
  refine n_new C (kx := 1) (sl := [(4, 0)]) dX8_init_16 rfl inA1 tyX1_ok aw_117 aw_118 aw_23 (by decide) df1 (Nat.le_of_ble_eq_true rfl) (Nat.le_of_ble_eq_true rfl) (fun a3 e3 y3 => ?_)
  rw [← e3 0 (Nat.le_of_ble_eq_true rfl)]
  have z3 : a3 0 = kad K 0 := (e3 0 (Nat.le_of_ble_eq_true rfl)).trans z2
  show GW K 19 [some (.ref (a3 0))] [.ref (a3 37), .ref (a3 0)] 37 279 (WI K _ _ a3)
  refine n_dup C.1 dX8_init_19 rfl ?_
  refine n_call C (n := 37) (Y := _) cn_X1 dX8_init_20 cwi_X1 (Or.inr ⟨_, aw_119⟩) aw_120 (by decide) (Nat.le_of_ble_eq_true rfl) rfl rfl (Nat.le_of_ble_eq_true rfl) (Nat.le_of_ble_eq_true rfl) (Nat.le_of_ble_eq_true rfl) (Nat.le_of_ble_eq_true rfl) rfl y3 (fun a4 e4 _ => ?_)
  rw [← e4 0 (Nat.le_of_ble_eq_true rfl)]
  rw [← e4 37 (Nat.le_of_ble_eq_true rfl)]
  have z4 : a4 0 = kad K 0 := (e4 0 (Nat.le_of_ble_eq_true rfl)).trans z3
  show GW K 23 [some (.ref (a4 0))] [.ref (a4 37), .ref (a4 0)] 38 282 (WI K _ _ a4)
  refine n_putC C (o := 0) (kx := 8) (k := 1) (off := 37) (v := 37) hN dX8_init_23 rfl (Nat.le_of_ble_eq_true rfl) rfl (by decide) aw_162 inA8 tyX8_ok nmX8 rfl (fun _ => rfl) (fun _ => rfl) rfl (Nat.le_of_ble_eq_true rfl) ?_
  refine n_aload_n C.1 dX8_init_26 rfl (i := 0) rfl ?_
  refine n_bipush C.1 dX8_init_27 (v := (10 : Int32)) (by decide) ?_
  refine n_newI C (N := 10) dX8_init_29 aw_68 (by decide) (by decide) (Nat.le_of_ble_eq_true rfl) (Nat.le_of_ble_eq_true rfl) (Nat.le_of_ble_eq_true rfl) (fun a5 e5 => ?_)
  rw [← e5 0 (Nat.le_of_ble_eq_true rfl)]
  have z5 : a5 0 = kad K 0 := (e5 0 (Nat.le_of_ble_eq_true rfl)).trans z4
  show GW K 31 [some (.ref (a5 0))] [.ref (a5 39), .ref (a5 0)] 39 292 (WI K _ _ a5)
  refine n_putC C (o := 0) (kx := 8) (k := 2) (off := 39) (v := 39) hN dX8_init_31 rfl (Nat.le_of_ble_eq_true rfl) rfl (by decide) aw_164 inA8 tyX8_ok nmX8 rfl (fun _ => rfl) (fun _ => rfl) rfl (Nat.le_of_ble_eq_true rfl) ?_
  refine n_aload_n C.1 dX8_init_34 rfl (i := 0) rfl ?_
  refine n_bipush C.1 dX8_init_35 (v := (10 : Int32)) (by decide) ?_
  refine n_newI C (N := 10) dX8_init_37 aw_68 (by decide) (by decide) (Nat.le_of_ble_eq_true rfl) (Nat.le_of_ble_eq_true rfl) (Nat.le_of_ble_eq_true rfl) (fun a6 e6 => ?_)
  rw [← e6 0 (Nat.le_of_ble_eq_true rfl)]
  have z6 : a6 0 = kad K 0 := (e6 0 (Nat.le_of_ble_eq_true rfl)).trans z5
  show GW K 39 [some (.ref (a6 0))] [.ref (a6 40), .ref (a6 0)] 40 302 (WI K _ _ a6)
  refine n_putC C (o := 0) (kx := 8) (k := 3) (off := 40) (v := 40) hN dX8_init_39 rfl (Nat.le_of_ble_eq_true rfl) rfl (by decide) aw_165 inA8 tyX8_ok nmX8 rfl (fun _ => rfl) (fun _ => rfl) rfl (Nat.le_of_ble_eq_true rfl) ?_
  refine n_aload_n C.1 dX8_init_42 rfl (i := 0) rfl ?_
  refine n_bipush C.1 dX8_init_43 (v := (10 : Int32)) (by decide) ?_
  refine n_newI C (N := 10) dX8_init_45 aw_68 (by decide) (by decide) (Nat.le_of_ble_eq_true rfl) (Nat.le_of_ble_eq_true rfl) (Nat.le_of_ble_eq_true rfl) (fun a7 e7 => ?_)
  rw [← e7 0 (Nat.le_of_ble_eq_true rfl)]
  have z7 : a7 0 = kad K 0 := (e7 0 (Nat.le_of_ble_eq_true rfl)).trans z6
  show GW K 47 [some (.ref (a7 0))] [.ref (a7 41), .ref (a7 0)] 41 312 (WI K _ _ a7)
  refine n_putC C (o := 0) (kx := 8) (k := 4) (off := 41) (v := 41) hN dX8_init_47 rfl (Nat.le_of_ble_eq_true rfl) rfl (by decide) aw_166 inA8 tyX8_ok nmX8 rfl (fun _ => rfl) (fun _ => rfl) rfl (Nat.le_of_ble_eq_true rfl) ?_
  refine n_aload_n C.1 dX8_init_50 rfl (i := 0) rfl ?_
  refine n_bipush C.1 dX8_init_51 (v := (9 : Int32)) (by decide) ?_
  refine n_newI C (N := 9) dX8_init_53 aw_68 (by decide) (by decide) (Nat.le_of_ble_eq_true rfl) (Nat.le_of_ble_eq_true rfl) (Nat.le_of_ble_eq_true rfl) (fun a8 e8 => ?_)
  rw [← e8 0 (Nat.le_of_ble_eq_true rfl)]
  have z8 : a8 0 = kad K 0 := (e8 0 (Nat.le_of_ble_eq_true rfl)).trans z7
  show GW K 55 [some (.ref (a8 0))] [.ref (a8 42), .ref (a8 0)] 42 321 (WI K _ _ a8)
  refine n_putC C (o := 0) (kx := 8) (k := 5) (off := 42) (v := 42) hN dX8_init_55 rfl (Nat.le_of_ble_eq_true rfl) rfl (by decide) aw_167 inA8 tyX8_ok nmX8 rfl (fun _ => rfl) (fun _ => rfl) rfl (Nat.le_of_ble_eq_true rfl) ?_
  refine n_aload_n C.1 dX8_init_58 rfl (i := 0) rfl ?_
  refine n_bipush C.1 dX8_init_59 (v := (9 : Int32)) (by decide) ?_
  refine n_newI C (N := 9) dX8_init_61 aw_68 (by decide) (by decide) (Nat.le_of_ble_eq_true rfl) (Nat.le_of_ble_eq_true rfl) (Nat.le_of_ble_eq_true rfl) (fun a9 e9 => ?_)
  rw [← e9 0 (Nat.le_of_ble_eq_true rfl)]
  have z9 : a9 0 = kad K 0 := (e9 0 (Nat.le_of_ble_eq_true rfl)).trans z8
  show GW K 63 [some (.ref (a9 0))] [.ref (a9 43), .ref (a9 0)] 43 330 (WI K _ _ a9)
  refine n_putC C (o := 0) (kx := 8) (k := 6) (off := 43) (v := 43) hN dX8_init_63 rfl (Nat.le_of_ble_eq_true rfl) rfl (by decide) aw_168 inA8 tyX8_ok nmX8 rfl (fun _ => rfl) (fun _ => rfl) rfl (Nat.le_of_ble_eq_true rfl) ?_
  refine n_aload_n C.1 dX8_init_66 rfl (i := 0) rfl ?_
  refine n_new C (kx := 0) (sl := [(0, 0), (0, 0), (0, 0), (0, 0), (0, 0), (0, 0)]) dX8_init_67 rfl inA0 tyX0_ok aw_127 aw_128 aw_24 (by decide) df0 (Nat.le_of_ble_eq_true rfl) (Nat.le_of_ble_eq_true rfl) (fun a10 e10 y10 => ?_)
  rw [← e10 0 (Nat.le_of_ble_eq_true rfl)]
  have z10 : a10 0 = kad K 0 := (e10 0 (Nat.le_of_ble_eq_true rfl)).trans z9
  show GW K 70 [some (.ref (a10 0))] [.ref (a10 44), .ref (a10 0)] 44 336 (WI K _ _ a10)
  refine n_dup C.1 dX8_init_70 rfl ?_
  refine n_call C (n := 44) (Y := _) cn_X0 dX8_init_71 cwi_X0 (Or.inr ⟨_, aw_129⟩) aw_130 (by decide) (Nat.le_of_ble_eq_true rfl) rfl rfl (Nat.le_of_ble_eq_true rfl) (Nat.le_of_ble_eq_true rfl) (Nat.le_of_ble_eq_true rfl) (Nat.le_of_ble_eq_true rfl) rfl y10 (fun a11 e11 _ => ?_)
  rw [← e11 0 (Nat.le_of_ble_eq_true rfl)]
  rw [← e11 44 (Nat.le_of_ble_eq_true rfl)]
  have z11 : a11 0 = kad K 0 := (e11 0 (Nat.le_of_ble_eq_true rfl)).trans z10
  show GW K 74 [some (.ref (a11 0))] [.ref (a11 44), .ref (a11 0)] 44 336 (WI K _ _ a11)
  refine n_putM C (o := 0) (kx := 8) (k := 7) (v := 44) hN dX8_init_74 rfl (Nat.le_of_ble_eq_true rfl) rfl (by decide) aw_169 inA8 tyX8_ok nmX8 rfl (fun _ => rfl) (fun _ => rfl) (Nat.le_of_ble_eq_true rfl) rfl ?_
  refine n_aload_n C.1 dX8_init_77 rfl (i := 0) rfl ?_
  refine n_iconst C.1 dX8_init_78 (v := (1 : Int32)) (by decide) ?_
  refine n_putI C (o := 0) (kx := 8) (k := 8) hN dX8_init_79 rfl rfl rfl (by decide) aw_170 inA8 tyX8_ok nmX8 rfl rfl rfl ?_
  exact n_vret C hQ z11 (Nat.le_of_ble_eq_true rfl) dX8_init_82
theorem cn_X8 : Cn yX8_init cX8_init 1 2 8 [(4, 0), (4, 0), (4, 0), (4, 0), (4, 0), (4, 0), (4, 0), (4, 0), (0, 0), (0, 0), (0, 0), (0, 0), (0, 0), (0, 0), (0, 0), (0, 0), (1, 0)] layS8 σX8 44 336 := cn_of (by decide) rfl (by decide) (by decide) (fun K C hN hQ => bn_X8 C hN hQ)
theorem dX4_init_0 : decode cX4_init 0 = .ok (.aload_n 0, 1) := by decide +kernel
theorem dX4_init_1 : decode cX4_init 1 = .ok (.invokespecial 3, 3) := by decide +kernel
theorem dX4_init_4 : decode cX4_init 4 = .ok (.aload_n 0, 1) := by decide +kernel
theorem dX4_init_5 : decode cX4_init 5 = .ok (.bipush 10, 2) := by decide +kernel
theorem dX4_init_7 : decode cX4_init 7 = .ok (.newarray .int, 2) := by decide +kernel
theorem dX4_init_9 : decode cX4_init 9 = .ok (.putfield 11, 3) := by decide +kernel
theorem dX4_init_12 : decode cX4_init 12 = .ok (.aload_n 0, 1) := by decide +kernel
theorem dX4_init_13 : decode cX4_init 13 = .ok (.bipush 10, 2) := by decide +kernel
theorem dX4_init_15 : decode cX4_init 15 = .ok (.newarray .int, 2) := by decide +kernel
theorem dX4_init_17 : decode cX4_init 17 = .ok (.putfield 15, 3) := by decide +kernel
theorem dX4_init_20 : decode cX4_init 20 = .ok (.aload_n 0, 1) := by decide +kernel
theorem dX4_init_21 : decode cX4_init 21 = .ok (.bipush 10, 2) := by decide +kernel
theorem dX4_init_23 : decode cX4_init 23 = .ok (.newarray .int, 2) := by decide +kernel
theorem dX4_init_25 : decode cX4_init 25 = .ok (.putfield 18, 3) := by decide +kernel
theorem dX4_init_28 : decode cX4_init 28 = .ok (.return_, 1) := by decide +kernel
def σX4 : Sg := σz
theorem df4 : ∀ j, j < 4 → defaultValue (tyX4 j) = vp_V (dfl [(4, 0), (4, 0), (4, 0), (0, 0)]) j := by decide +kernel
theorem cwi_X4 : Cwi yX4_init cX4_init 1 := ⟨aw_225, aw_25, ⟨by decide, by decide⟩, by decide +kernel, by decide, rfl⟩
set_option maxRecDepth 8000 in
theorem bn_X4 {K : KT} (C : CxI K cX4_init RX4 1 1 3 30) (hN : (kmeth K).name = "<init>") (hQ : Rki K layS4 σX4 3 30) : GW K 0 (pad [some (.ref (kad K 0))] 1) [] 0 0 (WI K [(0, 4, [(4, 0), (4, 0), (4, 0), (0, 0)])] σz (kad K)) := by
  show GW K 0 [some (.ref (kad K 0))] [] 0 0 (WI K _ _ (kad K))
  refine n_aload_n C.1 dX4_init_0 rfl (i := 0) rfl ?_
  refine n_obj C dX4_init_1 aw_226 aw_37 aw_38 rfl (Nat.le_of_ble_eq_true rfl) (Nat.le_of_ble_eq_true rfl) ?_
  refine n_aload_n C.1 dX4_init_4 rfl (i := 0) rfl ?_
  refine n_bipush C.1 dX4_init_5 (v := (10 : Int32)) (by decide) ?_
  refine n_newI C (N := 10) dX4_init_7 aw_68 (by decide) (by decide) (Nat.le_of_ble_eq_true rfl) (Nat.le_of_ble_eq_true rfl) (Nat.le_of_ble_eq_true rfl) (fun a1 e1 => ?_)
  rw [← e1 0 (Nat.le_of_ble_eq_true rfl)]
  have z1 : a1 0 = kad K 0 := (e1 0 (Nat.le_of_ble_eq_true rfl)).trans rfl
  show GW K 9 [some (.ref (a1 0))] [.ref (a1 1), .ref (a1 0)] 1 10 (WI K _ _ a1)
  refine n_putC C (o := 0) (kx := 4) (k := 0) (off := 1) (v := 1) hN dX4_init_9 rfl (Nat.le_of_ble_eq_true rfl) rfl (by decide) aw_227 inA4 tyX4_ok nmX4 rfl (fun _ => rfl) (fun _ => rfl) rfl (Nat.le_of_ble_eq_true rfl) ?_
  refine n_aload_n C.1 dX4_init_12 rfl (i := 0) rfl ?_
  refine n_bipush C.1 dX4_init_13 (v := (10 : Int32)) (by decide) ?_
  refine n_newI C (N := 10) dX4_init_15 aw_68 (by decide) (by decide) (Nat.le_of_ble_eq_true rfl) (Nat.le_of_ble_eq_true rfl) (Nat.le_of_ble_eq_true rfl) (fun a2 e2 => ?_)
  rw [← e2 0 (Nat.le_of_ble_eq_true rfl)]
  have z2 : a2 0 = kad K 0 := (e2 0 (Nat.le_of_ble_eq_true rfl)).trans z1
  show GW K 17 [some (.ref (a2 0))] [.ref (a2 2), .ref (a2 0)] 2 20 (WI K _ _ a2)
  refine n_putC C (o := 0) (kx := 4) (k := 1) (off := 2) (v := 2) hN dX4_init_17 rfl (Nat.le_of_ble_eq_true rfl) rfl (by decide) aw_228 inA4 tyX4_ok nmX4 rfl (fun _ => rfl) (fun _ => rfl) rfl (Nat.le_of_ble_eq_true rfl) ?_
  refine n_aload_n C.1 dX4_init_20 rfl (i := 0) rfl ?_
  refine n_bipush C.1 dX4_init_21 (v := (10 : Int32)) (by decide) ?_
  refine n_newI C (N := 10) dX4_init_23 aw_68 (by decide) (by decide) (Nat.le_of_ble_eq_true rfl) (Nat.le_of_ble_eq_true rfl) (Nat.le_of_ble_eq_true rfl) (fun a3 e3 => ?_)
  rw [← e3 0 (Nat.le_of_ble_eq_true rfl)]
  have z3 : a3 0 = kad K 0 := (e3 0 (Nat.le_of_ble_eq_true rfl)).trans z2
  show GW K 25 [some (.ref (a3 0))] [.ref (a3 3), .ref (a3 0)] 3 30 (WI K _ _ a3)
  refine n_putC C (o := 0) (kx := 4) (k := 2) (off := 3) (v := 3) hN dX4_init_25 rfl (Nat.le_of_ble_eq_true rfl) rfl (by decide) aw_229 inA4 tyX4_ok nmX4 rfl (fun _ => rfl) (fun _ => rfl) rfl (Nat.le_of_ble_eq_true rfl) ?_
  exact n_vret C hQ z3 (Nat.le_of_ble_eq_true rfl) dX4_init_28
theorem cn_X4 : Cn yX4_init cX4_init 1 1 4 [(4, 0), (4, 0), (4, 0), (0, 0)] layS4 σX4 3 30 := cn_of (by decide) rfl (by decide) (by decide) (fun K C hN hQ => bn_X4 C hN hQ)
theorem dX2_init_0 : decode cX2_init 0 = .ok (.aload_n 0, 1) := by decide +kernel
theorem dX2_init_1 : decode cX2_init 1 = .ok (.invokespecial 3, 3) := by decide +kernel
theorem dX2_init_4 : decode cX2_init 4 = .ok (.aload_n 0, 1) := by decide +kernel
theorem dX2_init_5 : decode cX2_init 5 = .ok (.iconst 5, 1) := by decide +kernel
theorem dX2_init_6 : decode cX2_init 6 = .ok (.newarray .int, 2) := by decide +kernel
theorem dX2_init_8 : decode cX2_init 8 = .ok (.putfield 9, 3) := by decide +kernel
theorem dX2_init_11 : decode cX2_init 11 = .ok (.aload_n 0, 1) := by decide +kernel
theorem dX2_init_12 : decode cX2_init 12 = .ok (.iconst 5, 1) := by decide +kernel
theorem dX2_init_13 : decode cX2_init 13 = .ok (.newarray .int, 2) := by decide +kernel
theorem dX2_init_15 : decode cX2_init 15 = .ok (.putfield 15, 3) := by decide +kernel
theorem dX2_init_18 : decode cX2_init 18 = .ok (.aload_n 0, 1) := by decide +kernel
theorem dX2_init_19 : decode cX2_init 19 = .ok (.new 18, 3) := by decide +kernel
theorem dX2_init_22 : decode cX2_init 22 = .ok (.dup, 1) := by decide +kernel
theorem dX2_init_23 : decode cX2_init 23 = .ok (.invokespecial 20, 3) := by decide +kernel
theorem dX2_init_26 : decode cX2_init 26 = .ok (.putfield 21, 3) := by decide +kernel
theorem dX2_init_29 : decode cX2_init 29 = .ok (.return_, 1) := by decide +kernel
def σX2 : Sg := (sapp 3 σz σX1)
theorem df2 : ∀ j, j < 6 → defaultValue (tyX2 j) = vp_V (dfl [(4, 0), (4, 0), (4, 0), (0, 0), (0, 0), (0, 0)]) j := by decide +kernel
theorem cwi_X2 : Cwi yX2_init cX2_init 1 := ⟨aw_244, aw_26, ⟨by decide, by decide⟩, by decide +kernel, by decide, rfl⟩
set_option maxRecDepth 8000 in
theorem bn_X2 {K : KT} (C : CxI K cX2_init RX2 1 2 4 14) (hN : (kmeth K).name = "<init>") (hQ : Rki K layS2 σX2 4 14) : GW K 0 (pad [some (.ref (kad K 0))] 1) [] 0 0 (WI K [(0, 2, [(4, 0), (4, 0), (4, 0), (0, 0), (0, 0), (0, 0)])] σz (kad K)) := by
  show GW K 0 [some (.ref (kad K 0))] [] 0 0 (WI K _ _ (kad K))
  refine n_aload_n C.1 dX2_init_0 rfl (i := 0) rfl ?_
  refine n_obj C dX2_init_1 aw_245 aw_37 aw_38 rfl (Nat.le_of_ble_eq_true rfl) (Nat.le_of_ble_eq_true rfl) ?_
  refine n_aload_n C.1 dX2_init_4 rfl (i := 0) rfl ?_
  refine n_iconst C.1 dX2_init_5 (v := (5 : Int32)) (by decide) ?_
  refine n_newI C (N := 5) dX2_init_6 aw_68 (by decide) (by decide) (Nat.le_of_ble_eq_true rfl) (Nat.le_of_ble_eq_true rfl) (Nat.le_of_ble_eq_true rfl) (fun a1 e1 => ?_)
  rw [← e1 0 (Nat.le_of_ble_eq_true rfl)]
  have z1 : a1 0 = kad K 0 := (e1 0 (Nat.le_of_ble_eq_true rfl)).trans rfl
  show GW K 8 [some (.ref (a1 0))] [.ref (a1 1), .ref (a1 0)] 1 5 (WI K _ _ a1)
  refine n_putC C (o := 0) (kx := 2) (k := 0) (off := 1) (v := 1) hN dX2_init_8 rfl (Nat.le_of_ble_eq_true rfl) rfl (by decide) aw_248 inA2 tyX2_ok nmX2 rfl (fun _ => rfl) (fun _ => rfl) rfl (Nat.le_of_ble_eq_true rfl) ?_
  refine n_aload_n C.1 dX2_init_11 rfl (i := 0) rfl ?_
  refine n_iconst C.1 dX2_init_12 (v := (5 : Int32)) (by decide) ?_
  refine n_newI C (N := 5) dX2_init_13 aw_68 (by decide) (by decide) (Nat.le_of_ble_eq_true rfl) (Nat.le_of_ble_eq_true rfl) (Nat.le_of_ble_eq_true rfl) (fun a2 e2 => ?_)
  rw [← e2 0 (Nat.le_of_ble_eq_true rfl)]
  have z2 : a2 0 = kad K 0 := (e2 0 (Nat.le_of_ble_eq_true rfl)).trans z1
  show GW K 15 [some (.ref (a2 0))] [.ref (a2 2), .ref (a2 0)] 2 10 (WI K _ _ a2)
  refine n_putC C (o := 0) (kx := 2) (k := 1) (off := 2) (v := 2) hN dX2_init_15 rfl (Nat.le_of_ble_eq_true rfl) rfl (by decide) aw_249 inA2 tyX2_ok nmX2 rfl (fun _ => rfl) (fun _ => rfl) rfl (Nat.le_of_ble_eq_true rfl) ?_
  refine n_aload_n C.1 dX2_init_18 rfl (i := 0) rfl ?_
  refine n_new C (kx := 1) (sl := [(4, 0)]) dX2_init_19 rfl inA1 tyX1_ok aw_246 aw_118 aw_23 (by decide) df1 (Nat.le_of_ble_eq_true rfl) (Nat.le_of_ble_eq_true rfl) (fun a3 e3 y3 => ?_)
  rw [← e3 0 (Nat.le_of_ble_eq_true rfl)]
  have z3 : a3 0 = kad K 0 := (e3 0 (Nat.le_of_ble_eq_true rfl)).trans z2
  show GW K 22 [some (.ref (a3 0))] [.ref (a3 3), .ref (a3 0)] 3 11 (WI K _ _ a3)
  refine n_dup C.1 dX2_init_22 rfl ?_
  refine n_call C (n := 3) (Y := _) cn_X1 dX2_init_23 cwi_X1 (Or.inr ⟨_, aw_247⟩) aw_120 (by decide) (Nat.le_of_ble_eq_true rfl) rfl rfl (Nat.le_of_ble_eq_true rfl) (Nat.le_of_ble_eq_true rfl) (Nat.le_of_ble_eq_true rfl) (Nat.le_of_ble_eq_true rfl) rfl y3 (fun a4 e4 _ => ?_)
  rw [← e4 0 (Nat.le_of_ble_eq_true rfl)]
  rw [← e4 3 (Nat.le_of_ble_eq_true rfl)]
  have z4 : a4 0 = kad K 0 := (e4 0 (Nat.le_of_ble_eq_true rfl)).trans z3
  show GW K 26 [some (.ref (a4 0))] [.ref (a4 3), .ref (a4 0)] 4 14 (WI K _ _ a4)
  refine n_putC C (o := 0) (kx := 2) (k := 2) (off := 3) (v := 3) hN dX2_init_26 rfl (Nat.le_of_ble_eq_true rfl) rfl (by decide) aw_250 inA2 tyX2_ok nmX2 rfl (fun _ => rfl) (fun _ => rfl) rfl (Nat.le_of_ble_eq_true rfl) ?_
  exact n_vret C hQ z4 (Nat.le_of_ble_eq_true rfl) dX2_init_29
theorem cn_X2 : Cn yX2_init cX2_init 1 2 2 [(4, 0), (4, 0), (4, 0), (0, 0), (0, 0), (0, 0)] layS2 σX2 4 14 := cn_of (by decide) rfl (by decide) (by decide) (fun K C hN hQ => bn_X2 C hN hQ)
theorem dX3_init_0 : decode cX3_init 0 = .ok (.aload_n 0, 1) := by decide +kernel
theorem dX3_init_1 : decode cX3_init 1 = .ok (.invokespecial 3, 3) := by decide +kernel
theorem dX3_init_4 : decode cX3_init 4 = .ok (.aload_n 0, 1) := by decide +kernel
theorem dX3_init_5 : decode cX3_init 5 = .ok (.iconst 5, 1) := by decide +kernel
theorem dX3_init_6 : decode cX3_init 6 = .ok (.bipush 24, 2) := by decide +kernel
theorem dX3_init_8 : decode cX3_init 8 = .ok (.multianewarray 11 2, 4) := by decide +kernel
theorem dX3_init_12 : decode cX3_init 12 = .ok (.putfield 13, 3) := by decide +kernel
theorem dX3_init_15 : decode cX3_init 15 = .ok (.aload_n 0, 1) := by decide +kernel
theorem dX3_init_16 : decode cX3_init 16 = .ok (.iconst 5, 1) := by decide +kernel
theorem dX3_init_17 : decode cX3_init 17 = .ok (.newarray .boolean, 2) := by decide +kernel
theorem dX3_init_19 : decode cX3_init 19 = .ok (.putfield 16, 3) := by decide +kernel
theorem dX3_init_22 : decode cX3_init 22 = .ok (.aload_n 0, 1) := by decide +kernel
theorem dX3_init_23 : decode cX3_init 23 = .ok (.iconst 5, 1) := by decide +kernel
theorem dX3_init_24 : decode cX3_init 24 = .ok (.newarray .boolean, 2) := by decide +kernel
theorem dX3_init_26 : decode cX3_init 26 = .ok (.putfield 20, 3) := by decide +kernel
theorem dX3_init_29 : decode cX3_init 29 = .ok (.aload_n 0, 1) := by decide +kernel
theorem dX3_init_30 : decode cX3_init 30 = .ok (.bipush 6, 2) := by decide +kernel
theorem dX3_init_32 : decode cX3_init 32 = .ok (.bipush 12, 2) := by decide +kernel
theorem dX3_init_34 : decode cX3_init 34 = .ok (.multianewarray 11 2, 4) := by decide +kernel
theorem dX3_init_38 : decode cX3_init 38 = .ok (.putfield 23, 3) := by decide +kernel
theorem dX3_init_41 : decode cX3_init 41 = .ok (.return_, 1) := by decide +kernel
def σX3 : Sg := σz
theorem df3 : ∀ j, j < 4 → defaultValue (tyX3 j) = vp_V (dfl [(4, 0), (4, 0), (4, 0), (4, 0)]) j := by decide +kernel
theorem cwi_X3 : Cwi yX3_init cX3_init 1 := ⟨aw_268, aw_27, ⟨by decide, by decide⟩, by decide +kernel, by decide, rfl⟩
set_option maxRecDepth 8000 in
theorem bn_X3 {K : KT} (C : CxI K cX3_init RX3 1 1 15 213) (hN : (kmeth K).name = "<init>") (hQ : Rki K layS3 σX3 15 213) : GW K 0 (pad [some (.ref (kad K 0))] 1) [] 0 0 (WI K [(0, 3, [(4, 0), (4, 0), (4, 0), (4, 0)])] σz (kad K)) := by
  show GW K 0 [some (.ref (kad K 0))] [] 0 0 (WI K _ _ (kad K))
  refine n_aload_n C.1 dX3_init_0 rfl (i := 0) rfl ?_
  refine n_obj C dX3_init_1 aw_269 aw_37 aw_38 rfl (Nat.le_of_ble_eq_true rfl) (Nat.le_of_ble_eq_true rfl) ?_
  refine n_aload_n C.1 dX3_init_4 rfl (i := 0) rfl ?_
  refine n_iconst C.1 dX3_init_5 (v := (5 : Int32)) (by decide) ?_
  refine n_bipush C.1 dX3_init_6 (v := (24 : Int32)) (by decide) ?_
  refine n_mna C (N := 5) (M := 24) dX3_init_8 aw_270 aw_68 (by decide) (by decide) (by decide) (by decide) (Nat.le_of_ble_eq_true rfl) (Nat.le_of_ble_eq_true rfl) (Nat.le_of_ble_eq_true rfl) (Nat.le_of_ble_eq_true rfl) (fun a1 e1 => ?_)
  rw [← e1 0 (Nat.le_of_ble_eq_true rfl)]
  have z1 : a1 0 = kad K 0 := (e1 0 (Nat.le_of_ble_eq_true rfl)).trans rfl
  show GW K 12 [some (.ref (a1 0))] [.ref (a1 1), .ref (a1 0)] 6 125 (WI K _ _ a1)
  refine n_putC C (o := 0) (kx := 3) (k := 0) (off := 1) (v := 1) hN dX3_init_12 rfl (Nat.le_of_ble_eq_true rfl) rfl (by decide) aw_271 inA3 tyX3_ok nmX3 rfl (fun _ => rfl) (fun _ => rfl) rfl (Nat.le_of_ble_eq_true rfl) ?_
  refine n_aload_n C.1 dX3_init_15 rfl (i := 0) rfl ?_
  refine n_iconst C.1 dX3_init_16 (v := (5 : Int32)) (by decide) ?_
  refine n_newZ C (N := 5) dX3_init_17 aw_288 (by decide) (by decide) (Nat.le_of_ble_eq_true rfl) (Nat.le_of_ble_eq_true rfl) (Nat.le_of_ble_eq_true rfl) (fun a2 e2 => ?_)
  rw [← e2 0 (Nat.le_of_ble_eq_true rfl)]
  have z2 : a2 0 = kad K 0 := (e2 0 (Nat.le_of_ble_eq_true rfl)).trans z1
  show GW K 19 [some (.ref (a2 0))] [.ref (a2 7), .ref (a2 0)] 7 130 (WI K _ _ a2)
  refine n_putC C (o := 0) (kx := 3) (k := 1) (off := 7) (v := 7) hN dX3_init_19 rfl (Nat.le_of_ble_eq_true rfl) rfl (by decide) aw_273 inA3 tyX3_ok nmX3 rfl (fun _ => rfl) (fun _ => rfl) rfl (Nat.le_of_ble_eq_true rfl) ?_
  refine n_aload_n C.1 dX3_init_22 rfl (i := 0) rfl ?_
  refine n_iconst C.1 dX3_init_23 (v := (5 : Int32)) (by decide) ?_
  refine n_newZ C (N := 5) dX3_init_24 aw_288 (by decide) (by decide) (Nat.le_of_ble_eq_true rfl) (Nat.le_of_ble_eq_true rfl) (Nat.le_of_ble_eq_true rfl) (fun a3 e3 => ?_)
  rw [← e3 0 (Nat.le_of_ble_eq_true rfl)]
  have z3 : a3 0 = kad K 0 := (e3 0 (Nat.le_of_ble_eq_true rfl)).trans z2
  show GW K 26 [some (.ref (a3 0))] [.ref (a3 8), .ref (a3 0)] 8 135 (WI K _ _ a3)
  refine n_putC C (o := 0) (kx := 3) (k := 2) (off := 8) (v := 8) hN dX3_init_26 rfl (Nat.le_of_ble_eq_true rfl) rfl (by decide) aw_275 inA3 tyX3_ok nmX3 rfl (fun _ => rfl) (fun _ => rfl) rfl (Nat.le_of_ble_eq_true rfl) ?_
  refine n_aload_n C.1 dX3_init_29 rfl (i := 0) rfl ?_
  refine n_bipush C.1 dX3_init_30 (v := (6 : Int32)) (by decide) ?_
  refine n_bipush C.1 dX3_init_32 (v := (12 : Int32)) (by decide) ?_
  refine n_mna C (N := 6) (M := 12) dX3_init_34 aw_270 aw_68 (by decide) (by decide) (by decide) (by decide) (Nat.le_of_ble_eq_true rfl) (Nat.le_of_ble_eq_true rfl) (Nat.le_of_ble_eq_true rfl) (Nat.le_of_ble_eq_true rfl) (fun a4 e4 => ?_)
  rw [← e4 0 (Nat.le_of_ble_eq_true rfl)]
  have z4 : a4 0 = kad K 0 := (e4 0 (Nat.le_of_ble_eq_true rfl)).trans z3
  show GW K 38 [some (.ref (a4 0))] [.ref (a4 9), .ref (a4 0)] 15 213 (WI K _ _ a4)
  refine n_putC C (o := 0) (kx := 3) (k := 3) (off := 9) (v := 9) hN dX3_init_38 rfl (Nat.le_of_ble_eq_true rfl) rfl (by decide) aw_277 inA3 tyX3_ok nmX3 rfl (fun _ => rfl) (fun _ => rfl) rfl (Nat.le_of_ble_eq_true rfl) ?_
  exact n_vret C hQ z4 (Nat.le_of_ble_eq_true rfl) dX3_init_41
theorem cn_X3 : Cn yX3_init cX3_init 1 1 3 [(4, 0), (4, 0), (4, 0), (4, 0)] layS3 σX3 15 213 := cn_of (by decide) rfl (by decide) (by decide) (fun K C hN hQ => bn_X3 C hN hQ)
theorem dX5_init_0 : decode cX5_init 0 = .ok (.aload_n 0, 1) := by decide +kernel
theorem dX5_init_1 : decode cX5_init 1 = .ok (.invokespecial 3, 3) := by decide +kernel
theorem dX5_init_4 : decode cX5_init 4 = .ok (.aload_n 0, 1) := by decide +kernel
theorem dX5_init_5 : decode cX5_init 5 = .ok (.sipush 1000, 3) := by decide +kernel
theorem dX5_init_8 : decode cX5_init 8 = .ok (.newarray .long, 2) := by decide +kernel
theorem dX5_init_10 : decode cX5_init 10 = .ok (.putfield 9, 3) := by decide +kernel
theorem dX5_init_13 : decode cX5_init 13 = .ok (.return_, 1) := by decide +kernel
def σX5 : Sg := σz
theorem df5 : ∀ j, j < 4 → defaultValue (tyX5 j) = vp_V (dfl [(4, 0), (1, 0), (1, 0), (0, 0)]) j := by decide +kernel
theorem cwi_X5 : Cwi yX5_init cX5_init 1 := ⟨aw_293, aw_28, ⟨by decide, by decide⟩, by decide +kernel, by decide, rfl⟩
set_option maxRecDepth 8000 in
theorem bn_X5 {K : KT} (C : CxI K cX5_init RX5 1 1 1 1000) (hN : (kmeth K).name = "<init>") (hQ : Rki K layS5 σX5 1 1000) : GW K 0 (pad [some (.ref (kad K 0))] 1) [] 0 0 (WI K [(0, 5, [(4, 0), (1, 0), (1, 0), (0, 0)])] σz (kad K)) := by
  show GW K 0 [some (.ref (kad K 0))] [] 0 0 (WI K _ _ (kad K))
  refine n_aload_n C.1 dX5_init_0 rfl (i := 0) rfl ?_
  refine n_obj C dX5_init_1 aw_294 aw_37 aw_38 rfl (Nat.le_of_ble_eq_true rfl) (Nat.le_of_ble_eq_true rfl) ?_
  refine n_aload_n C.1 dX5_init_4 rfl (i := 0) rfl ?_
  refine n_sipush C.1 dX5_init_5 (v := (1000 : Int32)) (by decide) ?_
  refine n_newJ C (N := 1000) dX5_init_8 aw_305 (by decide) (by decide) (Nat.le_of_ble_eq_true rfl) (Nat.le_of_ble_eq_true rfl) (Nat.le_of_ble_eq_true rfl) (fun a1 e1 => ?_)
  rw [← e1 0 (Nat.le_of_ble_eq_true rfl)]
  have z1 : a1 0 = kad K 0 := (e1 0 (Nat.le_of_ble_eq_true rfl)).trans rfl
  show GW K 10 [some (.ref (a1 0))] [.ref (a1 1), .ref (a1 0)] 1 1000 (WI K _ _ a1)
  refine n_putC C (o := 0) (kx := 5) (k := 0) (off := 1) (v := 1) hN dX5_init_10 rfl (Nat.le_of_ble_eq_true rfl) rfl (by decide) aw_295 inA5 tyX5_ok nmX5 rfl (fun _ => rfl) (fun _ => rfl) rfl (Nat.le_of_ble_eq_true rfl) ?_
  exact n_vret C hQ z1 (Nat.le_of_ble_eq_true rfl) dX5_init_13
theorem cn_X5 : Cn yX5_init cX5_init 1 1 5 [(4, 0), (1, 0), (1, 0), (0, 0)] layS5 σX5 1 1000 := cn_of (by decide) rfl (by decide) (by decide) (fun K C hN hQ => bn_X5 C hN hQ)
theorem dX9_init_0 : decode cX9_init 0 = .ok (.aload_n 0, 1) := by decide +kernel
theorem dX9_init_1 : decode cX9_init 1 = .ok (.invokespecial 1, 3) := by decide +kernel
theorem dX9_init_4 : decode cX9_init 4 = .ok (.aload_n 0, 1) := by decide +kernel
theorem dX9_init_5 : decode cX9_init 5 = .ok (.new 7, 3) := by decide +kernel
theorem dX9_init_8 : decode cX9_init 8 = .ok (.dup, 1) := by decide +kernel
theorem dX9_init_9 : decode cX9_init 9 = .ok (.invokespecial 9, 3) := by decide +kernel
theorem dX9_init_12 : decode cX9_init 12 = .ok (.putfield 10, 3) := by decide +kernel
theorem dX9_init_15 : decode cX9_init 15 = .ok (.aload_n 0, 1) := by decide +kernel
theorem dX9_init_16 : decode cX9_init 16 = .ok (.new 16, 3) := by decide +kernel
theorem dX9_init_19 : decode cX9_init 19 = .ok (.dup, 1) := by decide +kernel
theorem dX9_init_20 : decode cX9_init 20 = .ok (.invokespecial 18, 3) := by decide +kernel
theorem dX9_init_23 : decode cX9_init 23 = .ok (.putfield 19, 3) := by decide +kernel
theorem dX9_init_26 : decode cX9_init 26 = .ok (.aload_n 0, 1) := by decide +kernel
theorem dX9_init_27 : decode cX9_init 27 = .ok (.aload_n 0, 1) := by decide +kernel
theorem dX9_init_28 : decode cX9_init 28 = .ok (.getfield 19, 3) := by decide +kernel
theorem dX9_init_31 : decode cX9_init 31 = .ok (.getfield 23, 3) := by decide +kernel
theorem dX9_init_34 : decode cX9_init 34 = .ok (.putfield 27, 3) := by decide +kernel
theorem dX9_init_37 : decode cX9_init 37 = .ok (.aload_n 0, 1) := by decide +kernel
theorem dX9_init_38 : decode cX9_init 38 = .ok (.aload_n 0, 1) := by decide +kernel
theorem dX9_init_39 : decode cX9_init 39 = .ok (.getfield 19, 3) := by decide +kernel
theorem dX9_init_42 : decode cX9_init 42 = .ok (.getfield 30, 3) := by decide +kernel
theorem dX9_init_45 : decode cX9_init 45 = .ok (.putfield 34, 3) := by decide +kernel
theorem dX9_init_48 : decode cX9_init 48 = .ok (.aload_n 0, 1) := by decide +kernel
theorem dX9_init_49 : decode cX9_init 49 = .ok (.iconst 5, 1) := by decide +kernel
theorem dX9_init_50 : decode cX9_init 50 = .ok (.anewarray 35, 3) := by decide +kernel
theorem dX9_init_53 : decode cX9_init 53 = .ok (.putfield 37, 3) := by decide +kernel
theorem dX9_init_56 : decode cX9_init 56 = .ok (.aload_n 0, 1) := by decide +kernel
theorem dX9_init_57 : decode cX9_init 57 = .ok (.new 41, 3) := by decide +kernel
theorem dX9_init_60 : decode cX9_init 60 = .ok (.dup, 1) := by decide +kernel
theorem dX9_init_61 : decode cX9_init 61 = .ok (.invokespecial 43, 3) := by decide +kernel
theorem dX9_init_64 : decode cX9_init 64 = .ok (.putfield 44, 3) := by decide +kernel
theorem dX9_init_67 : decode cX9_init 67 = .ok (.aload_n 0, 1) := by decide +kernel
theorem dX9_init_68 : decode cX9_init 68 = .ok (.new 48, 3) := by decide +kernel
theorem dX9_init_71 : decode cX9_init 71 = .ok (.dup, 1) := by decide +kernel
theorem dX9_init_72 : decode cX9_init 72 = .ok (.invokespecial 50, 3) := by decide +kernel
theorem dX9_init_75 : decode cX9_init 75 = .ok (.putfield 51, 3) := by decide +kernel
theorem dX9_init_78 : decode cX9_init 78 = .ok (.aload_n 0, 1) := by decide +kernel
theorem dX9_init_79 : decode cX9_init 79 = .ok (.new 55, 3) := by decide +kernel
theorem dX9_init_82 : decode cX9_init 82 = .ok (.dup, 1) := by decide +kernel
theorem dX9_init_83 : decode cX9_init 83 = .ok (.invokespecial 57, 3) := by decide +kernel
theorem dX9_init_86 : decode cX9_init 86 = .ok (.putfield 58, 3) := by decide +kernel
theorem dX9_init_89 : decode cX9_init 89 = .ok (.aload_n 0, 1) := by decide +kernel
theorem dX9_init_90 : decode cX9_init 90 = .ok (.new 62, 3) := by decide +kernel
theorem dX9_init_93 : decode cX9_init 93 = .ok (.dup, 1) := by decide +kernel
theorem dX9_init_94 : decode cX9_init 94 = .ok (.invokespecial 64, 3) := by decide +kernel
theorem dX9_init_97 : decode cX9_init 97 = .ok (.putfield 65, 3) := by decide +kernel
theorem dX9_init_100 : decode cX9_init 100 = .ok (.iconst 0, 1) := by decide +kernel
theorem dX9_init_101 : decode cX9_init 101 = .ok (.istore_n 1, 1) := by decide +kernel
theorem dX9_init_102 : decode cX9_init 102 = .ok (.iload_n 1, 1) := by decide +kernel
theorem dX9_init_103 : decode cX9_init 103 = .ok (.aload_n 0, 1) := by decide +kernel
theorem dX9_init_104 : decode cX9_init 104 = .ok (.getfield 37, 3) := by decide +kernel
theorem dX9_init_107 : decode cX9_init 107 = .ok (.arraylength, 1) := by decide +kernel
theorem dX9_init_108 : decode cX9_init 108 = .ok (.if_icmp .ge 22, 3) := by decide +kernel
theorem dX9_init_111 : decode cX9_init 111 = .ok (.aload_n 0, 1) := by decide +kernel
theorem dX9_init_112 : decode cX9_init 112 = .ok (.getfield 37, 3) := by decide +kernel
theorem dX9_init_115 : decode cX9_init 115 = .ok (.iload_n 1, 1) := by decide +kernel
theorem dX9_init_116 : decode cX9_init 116 = .ok (.new 35, 3) := by decide +kernel
theorem dX9_init_119 : decode cX9_init 119 = .ok (.dup, 1) := by decide +kernel
theorem dX9_init_120 : decode cX9_init 120 = .ok (.invokespecial 69, 3) := by decide +kernel
theorem dX9_init_123 : decode cX9_init 123 = .ok (.aastore, 1) := by decide +kernel
theorem dX9_init_124 : decode cX9_init 124 = .ok (.iinc 1 1, 3) := by decide +kernel
theorem dX9_init_127 : decode cX9_init 127 = .ok (.goto (-25), 3) := by decide +kernel
theorem dX9_init_130 : decode cX9_init 130 = .ok (.return_, 1) := by decide +kernel
def σX9 : Sg := (sapp 80 (sapp 79 (sapp 78 (sapp 77 (sapp 76 (sapp 74 (sapp 58 (sapp 53 (sapp 49 (sapp 3 (sapp 1 σz σX6) σX8) σX4) σX2) σX3) σX5) σX0) σX0) σX0) σX0) σX0)
theorem df9 : ∀ j, j < 12 → defaultValue (tyX9 j) = vp_V (dfl [(4, 0), (4, 0), (4, 0), (4, 0), (4, 0), (4, 0), (4, 0), (4, 0), (4, 0), (0, 0), (0, 0), (0, 0)]) j := by decide +kernel
theorem cwi_X9 : Cwi yX9_init cX9_init 2 := ⟨aw_35, aw_19, ⟨by decide, by decide⟩, by decide +kernel, by decide, rfl⟩
set_option maxRecDepth 8000 in
theorem bn_X9 {K : KT} (C : CxI K cX9_init RX9 2 3 80 1734) (hN : (kmeth K).name = "<init>") (hQ : Rki K layS9 σX9 80 1734) : GW K 0 (pad [some (.ref (kad K 0))] 2) [] 0 0 (WI K [(0, 9, [(4, 0), (4, 0), (4, 0), (4, 0), (4, 0), (4, 0), (4, 0), (4, 0), (4, 0), (0, 0), (0, 0), (0, 0)])] σz (kad K)) := by
  show GW K 0 [some (.ref (kad K 0)), none] [] 0 0 (WI K _ _ (kad K))
  refine n_aload_n C.1 dX9_init_0 rfl (i := 0) rfl ?_
  refine n_obj C dX9_init_1 aw_36 aw_37 aw_38 rfl (Nat.le_of_ble_eq_true rfl) (Nat.le_of_ble_eq_true rfl) ?_
  refine n_aload_n C.1 dX9_init_4 rfl (i := 0) rfl ?_
  refine n_new C (kx := 6) (sl := [(4, 0), (0, 0), (0, 0), (0, 0), (0, 0), (0, 0), (0, 0)]) dX9_init_5 rfl inA6 tyX6_ok aw_39 aw_40 aw_20 (by decide) df6 (Nat.le_of_ble_eq_true rfl) (Nat.le_of_ble_eq_true rfl) (fun a1 e1 y1 => ?_)
  rw [← e1 0 (Nat.le_of_ble_eq_true rfl)]
  have z1 : a1 0 = kad K 0 := (e1 0 (Nat.le_of_ble_eq_true rfl)).trans rfl
  show GW K 8 [some (.ref (a1 0)), none] [.ref (a1 1), .ref (a1 0)] 1 7 (WI K _ _ a1)
  refine n_dup C.1 dX9_init_8 rfl ?_
  refine n_call C (n := 1) (Y := _) cn_X6 dX9_init_9 cwi_X6 (Or.inr ⟨_, aw_41⟩) aw_42 (by decide) (Nat.le_of_ble_eq_true rfl) rfl rfl (Nat.le_of_ble_eq_true rfl) (Nat.le_of_ble_eq_true rfl) (Nat.le_of_ble_eq_true rfl) (Nat.le_of_ble_eq_true rfl) rfl y1 (fun a2 e2 _ => ?_)
  rw [← e2 0 (Nat.le_of_ble_eq_true rfl)]
  rw [← e2 1 (Nat.le_of_ble_eq_true rfl)]
  have z2 : a2 0 = kad K 0 := (e2 0 (Nat.le_of_ble_eq_true rfl)).trans z1
  show GW K 12 [some (.ref (a2 0)), none] [.ref (a2 1), .ref (a2 0)] 2 71 (WI K _ _ a2)
  refine n_putC C (o := 0) (kx := 9) (k := 0) (off := 1) (v := 1) hN dX9_init_12 rfl (Nat.le_of_ble_eq_true rfl) rfl (by decide) aw_307 inA9 tyX9_ok nmX9 rfl (fun _ => rfl) (fun _ => rfl) rfl (Nat.le_of_ble_eq_true rfl) ?_
  refine n_aload_n C.1 dX9_init_15 rfl (i := 0) rfl ?_
  refine n_new C (kx := 8) (sl := [(4, 0), (4, 0), (4, 0), (4, 0), (4, 0), (4, 0), (4, 0), (4, 0), (0, 0), (0, 0), (0, 0), (0, 0), (0, 0), (0, 0), (0, 0), (0, 0), (1, 0)]) dX9_init_16 rfl inA8 tyX8_ok aw_69 aw_70 aw_21 (by decide) df8 (Nat.le_of_ble_eq_true rfl) (Nat.le_of_ble_eq_true rfl) (fun a3 e3 y3 => ?_)
  rw [← e3 0 (Nat.le_of_ble_eq_true rfl)]
  have z3 : a3 0 = kad K 0 := (e3 0 (Nat.le_of_ble_eq_true rfl)).trans z2
  show GW K 19 [some (.ref (a3 0)), none] [.ref (a3 3), .ref (a3 0)] 3 88 (WI K _ _ a3)
  refine n_dup C.1 dX9_init_19 rfl ?_
  refine n_call C (n := 3) (Y := _) cn_X8 dX9_init_20 cwi_X8 (Or.inr ⟨_, aw_71⟩) aw_72 (by decide) (Nat.le_of_ble_eq_true rfl) rfl rfl (Nat.le_of_ble_eq_true rfl) (Nat.le_of_ble_eq_true rfl) (Nat.le_of_ble_eq_true rfl) (Nat.le_of_ble_eq_true rfl) rfl y3 (fun a4 e4 _ => ?_)
  rw [← e4 0 (Nat.le_of_ble_eq_true rfl)]
  rw [← e4 3 (Nat.le_of_ble_eq_true rfl)]
  have z4 : a4 0 = kad K 0 := (e4 0 (Nat.le_of_ble_eq_true rfl)).trans z3
  show GW K 23 [some (.ref (a4 0)), none] [.ref (a4 3), .ref (a4 0)] 47 424 (WI K _ _ a4)
  refine n_putC C (o := 0) (kx := 9) (k := 1) (off := 3) (v := 3) hN dX9_init_23 rfl (Nat.le_of_ble_eq_true rfl) rfl (by decide) aw_308 inA9 tyX9_ok nmX9 rfl (fun _ => rfl) (fun _ => rfl) rfl (Nat.le_of_ble_eq_true rfl) ?_
  refine n_aload_n C.1 dX9_init_26 rfl (i := 0) rfl ?_
  refine n_aload_n C.1 dX9_init_27 rfl (i := 0) rfl ?_
  refine n_get C (o := 0) (kx := 9) (k := 1) (v := .ref (a4 3)) dX9_init_28 rfl rfl rfl (by decide) (Or.inl aw_308) inA9 rfl ?_
  refine n_get C (o := 3) (kx := 8) (k := 0) (v := .ref (a4 4)) dX9_init_31 rfl rfl rfl (by decide) (Or.inr ⟨_, aw_161⟩) inA8 rfl ?_
  refine n_putC C (o := 0) (kx := 9) (k := 2) (off := 4) (v := 4) hN dX9_init_34 rfl (Nat.le_of_ble_eq_true rfl) rfl (by decide) aw_309 inA9 tyX9_ok nmX9 rfl (fun _ => rfl) (fun _ => rfl) rfl (Nat.le_of_ble_eq_true rfl) ?_
  refine n_aload_n C.1 dX9_init_37 rfl (i := 0) rfl ?_
  refine n_aload_n C.1 dX9_init_38 rfl (i := 0) rfl ?_
  refine n_get C (o := 0) (kx := 9) (k := 1) (v := .ref (a4 3)) dX9_init_39 rfl rfl rfl (by decide) (Or.inl aw_308) inA9 rfl ?_
  refine n_get C (o := 3) (kx := 8) (k := 1) (v := .ref (a4 40)) dX9_init_42 rfl rfl rfl (by decide) (Or.inr ⟨_, aw_163⟩) inA8 rfl ?_
  refine n_putC C (o := 0) (kx := 9) (k := 3) (off := 40) (v := 40) hN dX9_init_45 rfl (Nat.le_of_ble_eq_true rfl) rfl (by decide) aw_310 inA9 tyX9_ok nmX9 rfl (fun _ => rfl) (fun _ => rfl) rfl (Nat.le_of_ble_eq_true rfl) ?_
  refine n_aload_n C.1 dX9_init_48 rfl (i := 0) rfl ?_
  refine n_iconst C.1 dX9_init_49 (v := (5 : Int32)) (by decide) ?_
  refine n_newA C (N := 5) (b := 28) dX9_init_50 aw_219 (by decide) (by decide) (Nat.le_of_ble_eq_true rfl) (Nat.le_of_ble_eq_true rfl) (Nat.le_of_ble_eq_true rfl) (fun a5 e5 => ?_)
  rw [← e5 0 (Nat.le_of_ble_eq_true rfl)]
  have z5 : a5 0 = kad K 0 := (e5 0 (Nat.le_of_ble_eq_true rfl)).trans z4
  show GW K 53 [some (.ref (a5 0)), none] [.ref (a5 48), .ref (a5 0)] 48 429 (WI K _ _ a5)
  refine n_putC C (o := 0) (kx := 9) (k := 4) (off := 48) (v := 48) hN dX9_init_53 rfl (Nat.le_of_ble_eq_true rfl) rfl (by decide) aw_311 inA9 tyX9_ok nmX9 rfl (fun _ => rfl) (fun _ => rfl) rfl (Nat.le_of_ble_eq_true rfl) ?_
  refine n_aload_n C.1 dX9_init_56 rfl (i := 0) rfl ?_
  refine n_new C (kx := 4) (sl := [(4, 0), (4, 0), (4, 0), (0, 0)]) dX9_init_57 rfl inA4 tyX4_ok aw_221 aw_222 aw_25 (by decide) df4 (Nat.le_of_ble_eq_true rfl) (Nat.le_of_ble_eq_true rfl) (fun a6 e6 y6 => ?_)
  rw [← e6 0 (Nat.le_of_ble_eq_true rfl)]
  have z6 : a6 0 = kad K 0 := (e6 0 (Nat.le_of_ble_eq_true rfl)).trans z5
  show GW K 60 [some (.ref (a6 0)), none] [.ref (a6 49), .ref (a6 0)] 49 433 (WI K _ _ a6)
  refine n_dup C.1 dX9_init_60 rfl ?_
  refine n_call C (n := 49) (Y := _) cn_X4 dX9_init_61 cwi_X4 (Or.inr ⟨_, aw_223⟩) aw_224 (by decide) (Nat.le_of_ble_eq_true rfl) rfl rfl (Nat.le_of_ble_eq_true rfl) (Nat.le_of_ble_eq_true rfl) (Nat.le_of_ble_eq_true rfl) (Nat.le_of_ble_eq_true rfl) rfl y6 (fun a7 e7 _ => ?_)
  rw [← e7 0 (Nat.le_of_ble_eq_true rfl)]
  rw [← e7 49 (Nat.le_of_ble_eq_true rfl)]
  have z7 : a7 0 = kad K 0 := (e7 0 (Nat.le_of_ble_eq_true rfl)).trans z6
  show GW K 64 [some (.ref (a7 0)), none] [.ref (a7 49), .ref (a7 0)] 52 463 (WI K _ _ a7)
  refine n_putC C (o := 0) (kx := 9) (k := 5) (off := 49) (v := 49) hN dX9_init_64 rfl (Nat.le_of_ble_eq_true rfl) rfl (by decide) aw_312 inA9 tyX9_ok nmX9 rfl (fun _ => rfl) (fun _ => rfl) rfl (Nat.le_of_ble_eq_true rfl) ?_
  refine n_aload_n C.1 dX9_init_67 rfl (i := 0) rfl ?_
  refine n_new C (kx := 2) (sl := [(4, 0), (4, 0), (4, 0), (0, 0), (0, 0), (0, 0)]) dX9_init_68 rfl inA2 tyX2_ok aw_240 aw_241 aw_26 (by decide) df2 (Nat.le_of_ble_eq_true rfl) (Nat.le_of_ble_eq_true rfl) (fun a8 e8 y8 => ?_)
  rw [← e8 0 (Nat.le_of_ble_eq_true rfl)]
  have z8 : a8 0 = kad K 0 := (e8 0 (Nat.le_of_ble_eq_true rfl)).trans z7
  show GW K 71 [some (.ref (a8 0)), none] [.ref (a8 53), .ref (a8 0)] 53 469 (WI K _ _ a8)
  refine n_dup C.1 dX9_init_71 rfl ?_
  refine n_call C (n := 53) (Y := _) cn_X2 dX9_init_72 cwi_X2 (Or.inr ⟨_, aw_242⟩) aw_243 (by decide) (Nat.le_of_ble_eq_true rfl) rfl rfl (Nat.le_of_ble_eq_true rfl) (Nat.le_of_ble_eq_true rfl) (Nat.le_of_ble_eq_true rfl) (Nat.le_of_ble_eq_true rfl) rfl y8 (fun a9 e9 _ => ?_)
  rw [← e9 0 (Nat.le_of_ble_eq_true rfl)]
  rw [← e9 53 (Nat.le_of_ble_eq_true rfl)]
  have z9 : a9 0 = kad K 0 := (e9 0 (Nat.le_of_ble_eq_true rfl)).trans z8
  show GW K 75 [some (.ref (a9 0)), none] [.ref (a9 53), .ref (a9 0)] 57 483 (WI K _ _ a9)
  refine n_putC C (o := 0) (kx := 9) (k := 6) (off := 53) (v := 53) hN dX9_init_75 rfl (Nat.le_of_ble_eq_true rfl) rfl (by decide) aw_313 inA9 tyX9_ok nmX9 rfl (fun _ => rfl) (fun _ => rfl) rfl (Nat.le_of_ble_eq_true rfl) ?_
  refine n_aload_n C.1 dX9_init_78 rfl (i := 0) rfl ?_
  refine n_new C (kx := 3) (sl := [(4, 0), (4, 0), (4, 0), (4, 0)]) dX9_init_79 rfl inA3 tyX3_ok aw_264 aw_265 aw_27 (by decide) df3 (Nat.le_of_ble_eq_true rfl) (Nat.le_of_ble_eq_true rfl) (fun a10 e10 y10 => ?_)
  rw [← e10 0 (Nat.le_of_ble_eq_true rfl)]
  have z10 : a10 0 = kad K 0 := (e10 0 (Nat.le_of_ble_eq_true rfl)).trans z9
  show GW K 82 [some (.ref (a10 0)), none] [.ref (a10 58), .ref (a10 0)] 58 487 (WI K _ _ a10)
  refine n_dup C.1 dX9_init_82 rfl ?_
  refine n_call C (n := 58) (Y := _) cn_X3 dX9_init_83 cwi_X3 (Or.inr ⟨_, aw_266⟩) aw_267 (by decide) (Nat.le_of_ble_eq_true rfl) rfl rfl (Nat.le_of_ble_eq_true rfl) (Nat.le_of_ble_eq_true rfl) (Nat.le_of_ble_eq_true rfl) (Nat.le_of_ble_eq_true rfl) rfl y10 (fun a11 e11 _ => ?_)
  rw [← e11 0 (Nat.le_of_ble_eq_true rfl)]
  rw [← e11 58 (Nat.le_of_ble_eq_true rfl)]
  have z11 : a11 0 = kad K 0 := (e11 0 (Nat.le_of_ble_eq_true rfl)).trans z10
  show GW K 86 [some (.ref (a11 0)), none] [.ref (a11 58), .ref (a11 0)] 73 700 (WI K _ _ a11)
  refine n_putC C (o := 0) (kx := 9) (k := 7) (off := 58) (v := 58) hN dX9_init_86 rfl (Nat.le_of_ble_eq_true rfl) rfl (by decide) aw_314 inA9 tyX9_ok nmX9 rfl (fun _ => rfl) (fun _ => rfl) rfl (Nat.le_of_ble_eq_true rfl) ?_
  refine n_aload_n C.1 dX9_init_89 rfl (i := 0) rfl ?_
  refine n_new C (kx := 5) (sl := [(4, 0), (1, 0), (1, 0), (0, 0)]) dX9_init_90 rfl inA5 tyX5_ok aw_289 aw_290 aw_28 (by decide) df5 (Nat.le_of_ble_eq_true rfl) (Nat.le_of_ble_eq_true rfl) (fun a12 e12 y12 => ?_)
  rw [← e12 0 (Nat.le_of_ble_eq_true rfl)]
  have z12 : a12 0 = kad K 0 := (e12 0 (Nat.le_of_ble_eq_true rfl)).trans z11
  show GW K 93 [some (.ref (a12 0)), none] [.ref (a12 74), .ref (a12 0)] 74 704 (WI K _ _ a12)
  refine n_dup C.1 dX9_init_93 rfl ?_
  refine n_call C (n := 74) (Y := _) cn_X5 dX9_init_94 cwi_X5 (Or.inr ⟨_, aw_291⟩) aw_292 (by decide) (Nat.le_of_ble_eq_true rfl) rfl rfl (Nat.le_of_ble_eq_true rfl) (Nat.le_of_ble_eq_true rfl) (Nat.le_of_ble_eq_true rfl) (Nat.le_of_ble_eq_true rfl) rfl y12 (fun a13 e13 _ => ?_)
  rw [← e13 0 (Nat.le_of_ble_eq_true rfl)]
  rw [← e13 74 (Nat.le_of_ble_eq_true rfl)]
  have z13 : a13 0 = kad K 0 := (e13 0 (Nat.le_of_ble_eq_true rfl)).trans z12
  show GW K 97 [some (.ref (a13 0)), none] [.ref (a13 74), .ref (a13 0)] 75 1704 (WI K _ _ a13)
  refine n_putC C (o := 0) (kx := 9) (k := 8) (off := 74) (v := 74) hN dX9_init_97 rfl (Nat.le_of_ble_eq_true rfl) rfl (by decide) aw_315 inA9 tyX9_ok nmX9 rfl (fun _ => rfl) (fun _ => rfl) rfl (Nat.le_of_ble_eq_true rfl) ?_
  refine n_iconst C.1 dX9_init_100 (v := (0 : Int32)) (by decide) ?_
  refine n_istore_n C.1 (i := 1) (L' := [some (.ref (a13 0)), some (.int (0 : Int32))]) dX9_init_101 rfl (Nat.le_of_ble_eq_true rfl) rfl ?_
  refine n_iload_n C.1 dX9_init_102 rfl (i := 1) rfl ?_
  refine n_aload_n C.1 dX9_init_103 rfl (i := 0) rfl ?_
  refine n_get C (o := 0) (kx := 9) (k := 4) (v := .ref (a13 48)) dX9_init_104 rfl rfl rfl (by decide) (Or.inl aw_311) inA9 rfl ?_
  refine n_alen C (v := (5 : Int32)) (o := 48) dX9_init_107 rfl rfl ?_
  refine n_ge_f C.1 (tgt := 130) dX9_init_108 (by decide) (by decide) ?_
  refine n_aload_n C.1 dX9_init_111 rfl (i := 0) rfl ?_
  refine n_get C (o := 0) (kx := 9) (k := 4) (v := .ref (a13 48)) dX9_init_112 rfl rfl rfl (by decide) (Or.inl aw_311) inA9 rfl ?_
  refine n_iload_n C.1 dX9_init_115 rfl (i := 1) rfl ?_
  refine n_new C (kx := 0) (sl := [(0, 0), (0, 0), (0, 0), (0, 0), (0, 0), (0, 0)]) dX9_init_116 rfl inA0 tyX0_ok aw_219 aw_128 aw_24 (by decide) df0 (Nat.le_of_ble_eq_true rfl) (Nat.le_of_ble_eq_true rfl) (fun a14 e14 y14 => ?_)
  rw [← e14 0 (Nat.le_of_ble_eq_true rfl)]
  rw [← e14 48 (Nat.le_of_ble_eq_true rfl)]
  have z14 : a14 0 = kad K 0 := (e14 0 (Nat.le_of_ble_eq_true rfl)).trans z13
  show GW K 119 [some (.ref (a14 0)), some (.int (0 : Int32))] [.ref (a14 76), .int (0 : Int32), .ref (a14 48)] 76 1710 (WI K _ _ a14)
  refine n_dup C.1 dX9_init_119 rfl ?_
  refine n_call C (n := 76) (Y := _) cn_X0 dX9_init_120 cwi_X0 (Or.inr ⟨_, aw_306⟩) aw_130 (by decide) (Nat.le_of_ble_eq_true rfl) rfl rfl (Nat.le_of_ble_eq_true rfl) (Nat.le_of_ble_eq_true rfl) (Nat.le_of_ble_eq_true rfl) (Nat.le_of_ble_eq_true rfl) rfl y14 (fun a15 e15 _ => ?_)
  rw [← e15 0 (Nat.le_of_ble_eq_true rfl)]
  rw [← e15 48 (Nat.le_of_ble_eq_true rfl)]
  rw [← e15 76 (Nat.le_of_ble_eq_true rfl)]
  have z15 : a15 0 = kad K 0 := (e15 0 (Nat.le_of_ble_eq_true rfl)).trans z14
  show GW K 123 [some (.ref (a15 0)), some (.int (0 : Int32))] [.ref (a15 76), .int (0 : Int32), .ref (a15 48)] 76 1710 (WI K _ _ a15)
  refine n_aast C (o := 48) (v := 76) (b := 28) (k := 0) dX9_init_123 rfl rfl (by decide) (by decide) rfl ?_
  refine n_iinc C.1 (i := 1) (y := (1 : Int32)) (L' := [some (.ref (a15 0)), some (.int (1 : Int32))]) dX9_init_124 rfl (by decide) (Nat.le_of_ble_eq_true rfl) rfl ?_
  refine n_goto C.1 (tgt := 102) dX9_init_127 (by decide) ?_
  refine n_iload_n C.1 dX9_init_102 rfl (i := 1) rfl ?_
  refine n_aload_n C.1 dX9_init_103 rfl (i := 0) rfl ?_
  refine n_get C (o := 0) (kx := 9) (k := 4) (v := .ref (a15 48)) dX9_init_104 rfl rfl rfl (by decide) (Or.inl aw_311) inA9 rfl ?_
  refine n_alen C (v := (5 : Int32)) (o := 48) dX9_init_107 rfl rfl ?_
  refine n_ge_f C.1 (tgt := 130) dX9_init_108 (by decide) (by decide) ?_
  refine n_aload_n C.1 dX9_init_111 rfl (i := 0) rfl ?_
  refine n_get C (o := 0) (kx := 9) (k := 4) (v := .ref (a15 48)) dX9_init_112 rfl rfl rfl (by decide) (Or.inl aw_311) inA9 rfl ?_
  refine n_iload_n C.1 dX9_init_115 rfl (i := 1) rfl ?_
  refine n_new C (kx := 0) (sl := [(0, 0), (0, 0), (0, 0), (0, 0), (0, 0), (0, 0)]) dX9_init_116 rfl inA0 tyX0_ok aw_219 aw_128 aw_24 (by decide) df0 (Nat.le_of_ble_eq_true rfl) (Nat.le_of_ble_eq_true rfl) (fun a16 e16 y16 => ?_)
  rw [← e16 0 (Nat.le_of_ble_eq_true rfl)]
  rw [← e16 48 (Nat.le_of_ble_eq_true rfl)]
  have z16 : a16 0 = kad K 0 := (e16 0 (Nat.le_of_ble_eq_true rfl)).trans z15
  show GW K 119 [some (.ref (a16 0)), some (.int (1 : Int32))] [.ref (a16 77), .int (1 : Int32), .ref (a16 48)] 77 1716 (WI K _ _ a16)
  refine n_dup C.1 dX9_init_119 rfl ?_
  refine n_call C (n := 77) (Y := _) cn_X0 dX9_init_120 cwi_X0 (Or.inr ⟨_, aw_306⟩) aw_130 (by decide) (Nat.le_of_ble_eq_true rfl) rfl rfl (Nat.le_of_ble_eq_true rfl) (Nat.le_of_ble_eq_true rfl) (Nat.le_of_ble_eq_true rfl) (Nat.le_of_ble_eq_true rfl) rfl y16 (fun a17 e17 _ => ?_)
  rw [← e17 0 (Nat.le_of_ble_eq_true rfl)]
  rw [← e17 48 (Nat.le_of_ble_eq_true rfl)]
  rw [← e17 77 (Nat.le_of_ble_eq_true rfl)]
  have z17 : a17 0 = kad K 0 := (e17 0 (Nat.le_of_ble_eq_true rfl)).trans z16
  show GW K 123 [some (.ref (a17 0)), some (.int (1 : Int32))] [.ref (a17 77), .int (1 : Int32), .ref (a17 48)] 77 1716 (WI K _ _ a17)
  refine n_aast C (o := 48) (v := 77) (b := 28) (k := 1) dX9_init_123 rfl rfl (by decide) (by decide) rfl ?_
  refine n_iinc C.1 (i := 1) (y := (2 : Int32)) (L' := [some (.ref (a17 0)), some (.int (2 : Int32))]) dX9_init_124 rfl (by decide) (Nat.le_of_ble_eq_true rfl) rfl ?_
  refine n_goto C.1 (tgt := 102) dX9_init_127 (by decide) ?_
  refine n_iload_n C.1 dX9_init_102 rfl (i := 1) rfl ?_
  refine n_aload_n C.1 dX9_init_103 rfl (i := 0) rfl ?_
  refine n_get C (o := 0) (kx := 9) (k := 4) (v := .ref (a17 48)) dX9_init_104 rfl rfl rfl (by decide) (Or.inl aw_311) inA9 rfl ?_
  refine n_alen C (v := (5 : Int32)) (o := 48) dX9_init_107 rfl rfl ?_
  refine n_ge_f C.1 (tgt := 130) dX9_init_108 (by decide) (by decide) ?_
  refine n_aload_n C.1 dX9_init_111 rfl (i := 0) rfl ?_
  refine n_get C (o := 0) (kx := 9) (k := 4) (v := .ref (a17 48)) dX9_init_112 rfl rfl rfl (by decide) (Or.inl aw_311) inA9 rfl ?_
  refine n_iload_n C.1 dX9_init_115 rfl (i := 1) rfl ?_
  refine n_new C (kx := 0) (sl := [(0, 0), (0, 0), (0, 0), (0, 0), (0, 0), (0, 0)]) dX9_init_116 rfl inA0 tyX0_ok aw_219 aw_128 aw_24 (by decide) df0 (Nat.le_of_ble_eq_true rfl) (Nat.le_of_ble_eq_true rfl) (fun a18 e18 y18 => ?_)
  rw [← e18 0 (Nat.le_of_ble_eq_true rfl)]
  rw [← e18 48 (Nat.le_of_ble_eq_true rfl)]
  have z18 : a18 0 = kad K 0 := (e18 0 (Nat.le_of_ble_eq_true rfl)).trans z17
  show GW K 119 [some (.ref (a18 0)), some (.int (2 : Int32))] [.ref (a18 78), .int (2 : Int32), .ref (a18 48)] 78 1722 (WI K _ _ a18)
  refine n_dup C.1 dX9_init_119 rfl ?_
  refine n_call C (n := 78) (Y := _) cn_X0 dX9_init_120 cwi_X0 (Or.inr ⟨_, aw_306⟩) aw_130 (by decide) (Nat.le_of_ble_eq_true rfl) rfl rfl (Nat.le_of_ble_eq_true rfl) (Nat.le_of_ble_eq_true rfl) (Nat.le_of_ble_eq_true rfl) (Nat.le_of_ble_eq_true rfl) rfl y18 (fun a19 e19 _ => ?_)
  rw [← e19 0 (Nat.le_of_ble_eq_true rfl)]
  rw [← e19 48 (Nat.le_of_ble_eq_true rfl)]
  rw [← e19 78 (Nat.le_of_ble_eq_true rfl)]
  have z19 : a19 0 = kad K 0 := (e19 0 (Nat.le_of_ble_eq_true rfl)).trans z18
  show GW K 123 [some (.ref (a19 0)), some (.int (2 : Int32))] [.ref (a19 78), .int (2 : Int32), .ref (a19 48)] 78 1722 (WI K _ _ a19)
  refine n_aast C (o := 48) (v := 78) (b := 28) (k := 2) dX9_init_123 rfl rfl (by decide) (by decide) rfl ?_
  refine n_iinc C.1 (i := 1) (y := (3 : Int32)) (L' := [some (.ref (a19 0)), some (.int (3 : Int32))]) dX9_init_124 rfl (by decide) (Nat.le_of_ble_eq_true rfl) rfl ?_
  refine n_goto C.1 (tgt := 102) dX9_init_127 (by decide) ?_
  refine n_iload_n C.1 dX9_init_102 rfl (i := 1) rfl ?_
  refine n_aload_n C.1 dX9_init_103 rfl (i := 0) rfl ?_
  refine n_get C (o := 0) (kx := 9) (k := 4) (v := .ref (a19 48)) dX9_init_104 rfl rfl rfl (by decide) (Or.inl aw_311) inA9 rfl ?_
  refine n_alen C (v := (5 : Int32)) (o := 48) dX9_init_107 rfl rfl ?_
  refine n_ge_f C.1 (tgt := 130) dX9_init_108 (by decide) (by decide) ?_
  refine n_aload_n C.1 dX9_init_111 rfl (i := 0) rfl ?_
  refine n_get C (o := 0) (kx := 9) (k := 4) (v := .ref (a19 48)) dX9_init_112 rfl rfl rfl (by decide) (Or.inl aw_311) inA9 rfl ?_
  refine n_iload_n C.1 dX9_init_115 rfl (i := 1) rfl ?_
  refine n_new C (kx := 0) (sl := [(0, 0), (0, 0), (0, 0), (0, 0), (0, 0), (0, 0)]) dX9_init_116 rfl inA0 tyX0_ok aw_219 aw_128 aw_24 (by decide) df0 (Nat.le_of_ble_eq_true rfl) (Nat.le_of_ble_eq_true rfl) (fun a20 e20 y20 => ?_)
  rw [← e20 0 (Nat.le_of_ble_eq_true rfl)]
  rw [← e20 48 (Nat.le_of_ble_eq_true rfl)]
  have z20 : a20 0 = kad K 0 := (e20 0 (Nat.le_of_ble_eq_true rfl)).trans z19
  show GW K 119 [some (.ref (a20 0)), some (.int (3 : Int32))] [.ref (a20 79), .int (3 : Int32), .ref (a20 48)] 79 1728 (WI K _ _ a20)
  refine n_dup C.1 dX9_init_119 rfl ?_
  refine n_call C (n := 79) (Y := _) cn_X0 dX9_init_120 cwi_X0 (Or.inr ⟨_, aw_306⟩) aw_130 (by decide) (Nat.le_of_ble_eq_true rfl) rfl rfl (Nat.le_of_ble_eq_true rfl) (Nat.le_of_ble_eq_true rfl) (Nat.le_of_ble_eq_true rfl) (Nat.le_of_ble_eq_true rfl) rfl y20 (fun a21 e21 _ => ?_)
  rw [← e21 0 (Nat.le_of_ble_eq_true rfl)]
  rw [← e21 48 (Nat.le_of_ble_eq_true rfl)]
  rw [← e21 79 (Nat.le_of_ble_eq_true rfl)]
  have z21 : a21 0 = kad K 0 := (e21 0 (Nat.le_of_ble_eq_true rfl)).trans z20
  show GW K 123 [some (.ref (a21 0)), some (.int (3 : Int32))] [.ref (a21 79), .int (3 : Int32), .ref (a21 48)] 79 1728 (WI K _ _ a21)
  refine n_aast C (o := 48) (v := 79) (b := 28) (k := 3) dX9_init_123 rfl rfl (by decide) (by decide) rfl ?_
  refine n_iinc C.1 (i := 1) (y := (4 : Int32)) (L' := [some (.ref (a21 0)), some (.int (4 : Int32))]) dX9_init_124 rfl (by decide) (Nat.le_of_ble_eq_true rfl) rfl ?_
  refine n_goto C.1 (tgt := 102) dX9_init_127 (by decide) ?_
  refine n_iload_n C.1 dX9_init_102 rfl (i := 1) rfl ?_
  refine n_aload_n C.1 dX9_init_103 rfl (i := 0) rfl ?_
  refine n_get C (o := 0) (kx := 9) (k := 4) (v := .ref (a21 48)) dX9_init_104 rfl rfl rfl (by decide) (Or.inl aw_311) inA9 rfl ?_
  refine n_alen C (v := (5 : Int32)) (o := 48) dX9_init_107 rfl rfl ?_
  refine n_ge_f C.1 (tgt := 130) dX9_init_108 (by decide) (by decide) ?_
  refine n_aload_n C.1 dX9_init_111 rfl (i := 0) rfl ?_
  refine n_get C (o := 0) (kx := 9) (k := 4) (v := .ref (a21 48)) dX9_init_112 rfl rfl rfl (by decide) (Or.inl aw_311) inA9 rfl ?_
  refine n_iload_n C.1 dX9_init_115 rfl (i := 1) rfl ?_
  refine n_new C (kx := 0) (sl := [(0, 0), (0, 0), (0, 0), (0, 0), (0, 0), (0, 0)]) dX9_init_116 rfl inA0 tyX0_ok aw_219 aw_128 aw_24 (by decide) df0 (Nat.le_of_ble_eq_true rfl) (Nat.le_of_ble_eq_true rfl) (fun a22 e22 y22 => ?_)
  rw [← e22 0 (Nat.le_of_ble_eq_true rfl)]
  rw [← e22 48 (Nat.le_of_ble_eq_true rfl)]
  have z22 : a22 0 = kad K 0 := (e22 0 (Nat.le_of_ble_eq_true rfl)).trans z21
  show GW K 119 [some (.ref (a22 0)), some (.int (4 : Int32))] [.ref (a22 80), .int (4 : Int32), .ref (a22 48)] 80 1734 (WI K _ _ a22)
  refine n_dup C.1 dX9_init_119 rfl ?_
  refine n_call C (n := 80) (Y := _) cn_X0 dX9_init_120 cwi_X0 (Or.inr ⟨_, aw_306⟩) aw_130 (by decide) (Nat.le_of_ble_eq_true rfl) rfl rfl (Nat.le_of_ble_eq_true rfl) (Nat.le_of_ble_eq_true rfl) (Nat.le_of_ble_eq_true rfl) (Nat.le_of_ble_eq_true rfl) rfl y22 (fun a23 e23 _ => ?_)
  rw [← e23 0 (Nat.le_of_ble_eq_true rfl)]
  rw [← e23 48 (Nat.le_of_ble_eq_true rfl)]
  rw [← e23 80 (Nat.le_of_ble_eq_true rfl)]
  have z23 : a23 0 = kad K 0 := (e23 0 (Nat.le_of_ble_eq_true rfl)).trans z22
  show GW K 123 [some (.ref (a23 0)), some (.int (4 : Int32))] [.ref (a23 80), .int (4 : Int32), .ref (a23 48)] 80 1734 (WI K _ _ a23)
  refine n_aast C (o := 48) (v := 80) (b := 28) (k := 4) dX9_init_123 rfl rfl (by decide) (by decide) rfl ?_
  refine n_iinc C.1 (i := 1) (y := (5 : Int32)) (L' := [some (.ref (a23 0)), some (.int (5 : Int32))]) dX9_init_124 rfl (by decide) (Nat.le_of_ble_eq_true rfl) rfl ?_
  refine n_goto C.1 (tgt := 102) dX9_init_127 (by decide) ?_
  refine n_iload_n C.1 dX9_init_102 rfl (i := 1) rfl ?_
  refine n_aload_n C.1 dX9_init_103 rfl (i := 0) rfl ?_
  refine n_get C (o := 0) (kx := 9) (k := 4) (v := .ref (a23 48)) dX9_init_104 rfl rfl rfl (by decide) (Or.inl aw_311) inA9 rfl ?_
  refine n_alen C (v := (5 : Int32)) (o := 48) dX9_init_107 rfl rfl ?_
  refine n_ge_t C.1 (tgt := 130) dX9_init_108 (by decide) (by decide) ?_
  exact n_vret C hQ z23 (Nat.le_of_ble_eq_true rfl) dX9_init_130
theorem cn_X9 : Cn yX9_init cX9_init 2 3 9 [(4, 0), (4, 0), (4, 0), (4, 0), (4, 0), (4, 0), (4, 0), (4, 0), (4, 0), (0, 0), (0, 0), (0, 0)] layS9 σX9 80 1734 := cn_of (by decide) rfl (by decide) (by decide) (fun K C hN hQ => bn_X9 C hN hQ)
