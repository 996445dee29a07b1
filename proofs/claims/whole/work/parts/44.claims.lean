/-! ===== claims: what both sides reckon ===== -/
def mu (m : Mm) (d : Int) (r : Nat) (i : Nat) : Nat := if r = 1 then (d - m 7 (3 * i + 2)).toNat else 1
def sh (m : Mm) (b d : Int) (r : Nat) (h : Int) : Nat → Nat
  | 0 => 0
  | k + 1 => sh m b d r h k + (if (m 7 (3 * k + 1) = b ∧ m 7 (3 * k + 2) < d) ∧ m 7 (3 * k) = h then mu m d r k else 0)
def sa (m : Mm) (b d : Int) (r : Nat) : Nat → Nat
  | 0 => 0
  | k + 1 => sa m b d r k + (if m 7 (3 * k + 1) = b ∧ m 7 (3 * k + 2) < d then mu m d r k else 0)
/-- the line that comes first; none: -1 -/
def ff (m : Mm) (b d : Int) : Nat → Int
  | 0 => -1
  | k + 1 => if (m 7 (3 * k + 1) = b ∧ m 7 (3 * k + 2) < d) ∧ (ff m b d k = -1 ∨ m 7 (3 * k + 2) < m 7 (3 * (ff m b d k).toNat + 2)) then (k : Int) else ff m b d k
theorem mu_b {m : Mm} {d : Int} {r i : Nat} (h0 : 0 ≤ m 7 (3 * i + 2)) (h1 : m 7 (3 * i + 2) < d) (hd : d ≤ 999) : 1 ≤ mu m d r i ∧ mu m d r i ≤ 999 := by
  unfold mu
  by_cases q : r = 1
  · rw [if_pos q]; omega
  · rw [if_neg q]; omega
theorem sh_b {m : Mm} {b d : Int} {r : Nat} {h : Int} {L : Nat} (hv : ∀ k : Nat, k < L → VL1 m k) (hd : d ≤ 999) : ∀ k, k ≤ L → sh m b d r h k ≤ 999 * k
  | 0, _ => Nat.le_refl _
  | k + 1, hk => by
    have ih := sh_b (b := b) (r := r) (h := h) hv hd k (by omega)
    have v := hv k (by omega)
    show sh m b d r h k + (if _ then _ else _) ≤ _
    by_cases q : (m 7 (3 * k + 1) = b ∧ m 7 (3 * k + 2) < d) ∧ m 7 (3 * k) = h
    · rw [if_pos q]
      have := (mu_b (r := r) v.2.2.2.2.1 q.1.2 hd).2
      omega
    · rw [if_neg q]; omega
theorem sa_b {m : Mm} {b d : Int} {r : Nat} {L : Nat} (hv : ∀ k : Nat, k < L → VL1 m k) (hd : d ≤ 999) : ∀ k, k ≤ L → sa m b d r k ≤ 999 * k ∧ (ff m b d k = -1 → sa m b d r k = 0) ∧ (ff m b d k ≠ -1 → 0 < sa m b d r k ∧ 0 ≤ ff m b d k ∧ ff m b d k < (k : Int))
  | 0, _ => ⟨Nat.le_refl _, fun _ => rfl, fun h => absurd rfl h⟩
  | k + 1, hk => by
    obtain ⟨i1, i2, i3⟩ := sa_b (b := b) (r := r) hv hd k (by omega)
    have v := hv k (by omega)
    rw [show sa m b d r (k + 1) = sa m b d r k + (if m 7 (3 * k + 1) = b ∧ m 7 (3 * k + 2) < d then mu m d r k else 0) from rfl, show ff m b d (k + 1) = if (m 7 (3 * k + 1) = b ∧ m 7 (3 * k + 2) < d) ∧ (ff m b d k = -1 ∨ m 7 (3 * k + 2) < m 7 (3 * (ff m b d k).toNat + 2)) then (k : Int) else ff m b d k from rfl]
    by_cases q : m 7 (3 * k + 1) = b ∧ m 7 (3 * k + 2) < d
    · have u := mu_b (r := r) v.2.2.2.2.1 q.2 hd
      rw [if_pos q]
      by_cases q2 : ff m b d k = -1 ∨ m 7 (3 * k + 2) < m 7 (3 * (ff m b d k).toNat + 2)
      · rw [if_pos ⟨q, q2⟩]
        omega
      · rw [if_neg (fun x => q2 x.2)]
        have n1 : ff m b d k ≠ -1 := fun x => q2 (Or.inl x)
        have := i3 n1
        refine ⟨by omega, fun x => absurd x n1, fun _ => by omega⟩
    · rw [if_neg q, if_neg (fun x => q x.1)]
      refine ⟨by omega, fun x => by rw [i2 x], fun x => ?_⟩
      have := i3 x
      omega
/-- the houses' shares make all shares -/
theorem sh_sum {m : Mm} {b d : Int} {r : Nat} {L : Nat} (hv : ∀ k : Nat, k < L → VL1 m k) : ∀ k, k ≤ L → sh m b d r 0 k + sh m b d r 1 k + sh m b d r 2 k + sh m b d r 3 k + sh m b d r 4 k = sa m b d r k
  | 0, _ => rfl
  | k + 1, hk => by
    have ih := sh_sum (b := b) (d := d) (r := r) hv k (by omega)
    obtain ⟨v1, v2, -⟩ := hv k (by omega)
    show (sh m b d r 0 k + (if _ then _ else _)) + (sh m b d r 1 k + (if _ then _ else _)) + (sh m b d r 2 k + (if _ then _ else _)) + (sh m b d r 3 k + (if _ then _ else _)) + (sh m b d r 4 k + (if _ then _ else _)) = sa m b d r k + (if _ then _ else _)
    by_cases q : m 7 (3 * k + 1) = b ∧ m 7 (3 * k + 2) < d
    · rw [if_pos q]
      rcases (show m 7 (3 * k) = 0 ∨ m 7 (3 * k) = 1 ∨ m 7 (3 * k) = 2 ∨ m 7 (3 * k) = 3 ∨ m 7 (3 * k) = 4 by omega) with e | e | e | e | e
      · rw [e, if_pos ⟨q, rfl⟩, if_neg (by omega), if_neg (by omega), if_neg (by omega), if_neg (by omega)]; omega
      · rw [e, if_neg (by omega), if_pos ⟨q, rfl⟩, if_neg (by omega), if_neg (by omega), if_neg (by omega)]; omega
      · rw [e, if_neg (by omega), if_neg (by omega), if_pos ⟨q, rfl⟩, if_neg (by omega), if_neg (by omega)]; omega
      · rw [e, if_neg (by omega), if_neg (by omega), if_neg (by omega), if_pos ⟨q, rfl⟩, if_neg (by omega)]; omega
      · rw [e, if_neg (by omega), if_neg (by omega), if_neg (by omega), if_neg (by omega), if_pos ⟨q, rfl⟩]; omega
    · rw [if_neg q, if_neg (fun x => q x.1), if_neg (fun x => q x.1), if_neg (fun x => q x.1), if_neg (fun x => q x.1), if_neg (fun x => q x.1)]; omega
/-- the lines as the class holds them -/
def LR (σ : Sg) (m : Mm) (L : Nat) : Prop := rI σ 49 3 = yI (L : Int) ∧ L ≤ 10 ∧ ∀ k : Nat, k < L → VL1 m k ∧ rI σ 50 k = yI (m 7 (3 * k)) ∧ rI σ 51 k = yI (m 7 (3 * k + 1)) ∧ rI σ 52 k = yI (m 7 (3 * k + 2))
theorem f4_counts {σ : Sg} {m : Mm} {L : Nat} (h : LR σ m L) {b d : Int} (h1 : 0 ≤ b ∧ b < 5) (h2 : 0 ≤ d ∧ d ≤ 999) {i : Nat} (hi : i < L) : fX4_counts (yI (i : Int)) (yI b) (yI d) σ = some (if m 7 (3 * i + 1) = b ∧ m 7 (3 * i + 2) < d then 1 else 0, σ) := by
  obtain ⟨e1, e2, e3⟩ := h
  obtain ⟨⟨v1, v2, v3, v4, v5, v6⟩, r0, r1, r2⟩ := e3 i hi
  unfold fX4_counts fX4_counts_b0
  rw [if_pos (inb_n (by omega) (by omega)), if_pos (inb_n (by omega) (by omega)), yI_cln (by omega), r1, r2]
  simp (disch := omega) only [yI_eq, yI_le]
  by_cases q : m 7 (3 * i + 1) = b
  · rw [if_pos q]
    by_cases q2 : d ≤ m 7 (3 * i + 2)
    · rw [if_pos q2, if_neg (by omega)]
    · rw [if_neg q2, if_pos (by omega)]
  · rw [if_neg q, if_neg (fun x => q x.1)]
theorem f4_sharesOf {σ : Sg} {m : Mm} {L : Nat} (h : LR σ m L) {b d : Int} (h1 : 0 ≤ b ∧ b < 5) (h2 : 0 ≤ d ∧ d ≤ 999) {r : Nat} {y x : Int} (hx : 0 ≤ x ∧ x ≤ 4) (hy : y = if r = 1 then 1 else 0) : fX4_sharesOf (yI x) (yI b) (yI d) (yI y) σ = some (yI (sh m b d r x L : Int), σ) := by
  have hv : ∀ k : Nat, k < L → VL1 m k := fun k hk => (h.2.2 k hk).1
  have L10 := h.2.1
  have H : ∃ t, lp (fun s : Int32 × Int32 × Sg => fX4_sharesOf_b6 (yI x) (yI b) (yI d) (yI y) s.1 s.2.1 s.2.2) FU ((0 : Int32), (0 : Int32), σ) = some t ∧ t = (yI (sh m b d r x L : Int), σ) := by
    refine lp_all (fun k s => s = (yI (sh m b d r x k : Int), yI (k : Int), σ)) L _ ?_ ?_ rfl (FU_b (by omega))
    · rintro k s hk rfl
      obtain ⟨⟨v1, v2, v3, v4, v5, v6⟩, r0, r1, r2⟩ := h.2.2 k hk
      have c := f4_counts h h1 h2 hk
      refine ⟨_, ?_, rfl⟩
      dsimp only
      have es : sh m b d r x (k + 1) = sh m b d r x k + (if (m 7 (3 * k + 1) = b ∧ m 7 (3 * k + 2) < d) ∧ m 7 (3 * k) = x then mu m d r k else 0) := rfl
      unfold fX4_sharesOf_b6 fX4_sharesOf_b57 fX4_sharesOf_b60
      rw [h.1, if_neg (fun q => by have := (yI_le (by omega) (by omega) (by omega) (by omega)).mp q; omega), if_pos (inb_n (by omega) (by omega)), yI_cln (by omega), r0, add1, es]
      by_cases q : m 7 (3 * k) = x
      · rw [if_pos (by rw [q])]
        by_cases q2 : m 7 (3 * k + 1) = b ∧ m 7 (3 * k + 2) < d
        · rw [bt c q2, if_pos (show (m 7 (3 * k + 1) = b ∧ m 7 (3 * k + 2) < d) ∧ m 7 (3 * k) = x from ⟨q2, q⟩)]
          dsimp only
          by_cases q3 : r = 1
          · rw [hy, if_pos q3, if_neg (show ¬ yI 1 = 0 by decide), if_pos (inb_n (by omega) (by omega)), r2, yI_sub, yI_add]
            have : mu m d r k = (d - m 7 (3 * k + 2)).toNat := by unfold mu; rw [if_pos q3]
            rw [this]
            have e2 : ((sh m b d r x k + (d - m 7 (3 * k + 2)).toNat : Nat) : Int) = (sh m b d r x k : Int) + (d - m 7 (3 * k + 2)) := by omega
            rw [e2]
          · rw [hy, if_neg q3, if_pos (show yI 0 = 0 from rfl), add1]
            have : mu m d r k = 1 := by unfold mu; rw [if_neg q3]
            rw [this]
        · rw [bf c q2, if_neg (fun z => q2 z.1)]
          rfl
      · rw [if_neg (fun z => q (yI_inj (by omega) (by omega) (by omega) (by omega) z)), if_neg (fun z => q z.2)]
        rfl
    · rintro s rfl
      refine ⟨_, ?_, rfl⟩
      dsimp only
      unfold fX4_sharesOf_b6
      rw [h.1, if_pos ((yI_le (by omega) (by omega) (by omega) (by omega)).mpr (Int.le_refl _))]
  obtain ⟨t, k1, rfl⟩ := H
  unfold fX4_sharesOf fX4_sharesOf_b0
  rw [b1 k1]
theorem f4_all {σ : Sg} {m : Mm} {L : Nat} (h : LR σ m L) {b d : Int} (h1 : 0 ≤ b ∧ b < 5) (h2 : 0 ≤ d ∧ d ≤ 999) {r : Nat} {y : Int} (hy : y = if r = 1 then 1 else 0) : fX4_sharesOfAll (yI b) (yI d) (yI y) σ = some (yI (sa m b d r L : Int), σ) := by
  have hv : ∀ k : Nat, k < L → VL1 m k := fun k hk => (h.2.2 k hk).1
  have st : ∀ (n k a : Nat), k < 5 → lp (fun s : Int32 × Int32 × Sg => fX4_sharesOfAll_b6 (yI b) (yI d) (yI y) s.1 s.2.1 s.2.2) (n + 1) (yI (a : Int), yI (k : Int), σ) = lp (fun s : Int32 × Int32 × Sg => fX4_sharesOfAll_b6 (yI b) (yI d) (yI y) s.1 s.2.1 s.2.2) n (yI ((a + sh m b d r (k : Int) L : Nat) : Int), yI ((k + 1 : Nat) : Int), σ) := fun n k a hk => by
    refine lp_st ?_
    dsimp only
    unfold fX4_sharesOfAll_b6
    rw [if_neg (gen (v := 5) (b := 5) rfl (by omega) (by omega) (by omega)), b1 (f4_sharesOf h h1 h2 (r := r) (by omega) hy)]
    dsimp only
    rw [addn, add1]
  have en : ∀ (n a : Nat), lp (fun s : Int32 × Int32 × Sg => fX4_sharesOfAll_b6 (yI b) (yI d) (yI y) s.1 s.2.1 s.2.2) (n + 1) (yI (a : Int), yI ((5 : Nat) : Int), σ) = some (yI (a : Int), σ) := fun n a => by
    refine lp_en ?_
    dsimp only
    unfold fX4_sharesOfAll_b6
    rw [if_pos (gep (v := 5) (b := 5) rfl (by omega) (by omega) (by omega))]
  have hF : FU = 999994 + 1 + 1 + 1 + 1 + 1 + 1 := rfl
  unfold fX4_sharesOfAll fX4_sharesOfAll_b0
  rw [hF, show ((0 : Int32), (0 : Int32), σ) = (yI ((0 : Nat) : Int), yI ((0 : Nat) : Int), σ) from rfl, st _ 0 _ (by omega), st _ 1 _ (by omega), st _ 2 _ (by omega), st _ 3 _ (by omega), st _ 4 _ (by omega), en, b1 rfl]
  have := sh_sum (b := b) (d := d) (r := r) hv L (Nat.le_refl _)
  dsimp only
  rw [← this]
  have e : 0 + sh m b d r ((0 : Nat) : Int) L + sh m b d r ((1 : Nat) : Int) L + sh m b d r ((2 : Nat) : Int) L + sh m b d r ((3 : Nat) : Int) L + sh m b d r ((4 : Nat) : Int) L = sh m b d r 0 L + sh m b d r 1 L + sh m b d r 2 L + sh m b d r 3 L + sh m b d r 4 L := by
    rw [Nat.zero_add]; rfl
  rw [e]
theorem f4_first {σ : Sg} {m : Mm} {L : Nat} (h : LR σ m L) {b d : Int} (h1 : 0 ≤ b ∧ b < 5) (h2 : 0 ≤ d ∧ d ≤ 999) {x : Int} (hx : 0 ≤ x ∧ x ≤ 4) : fX4_allIfFirst (yI x) (yI b) (yI d) σ = some (if ff m b d L ≠ -1 ∧ m 7 (3 * (ff m b d L).toNat) = x then 1 else 0, σ) := by
  have hv : ∀ k : Nat, k < L → VL1 m k := fun k hk => (h.2.2 k hk).1
  have L10 := h.2.1
  have H : ∃ t, lp (fun s : Int32 × Int32 × Sg => fX4_allIfFirst_b6 (yI x) (yI b) (yI d) s.1 s.2.1 s.2.2) FU ((-1 : Int32), (0 : Int32), σ) = some t ∧ t = (yI (ff m b d L), σ) := by
    refine lp_all (fun k s => s = (yI (ff m b d k), yI (k : Int), σ)) L _ ?_ ?_ rfl (FU_b (by omega))
    · rintro k s hk rfl
      obtain ⟨⟨v1, v2, v3, v4, v5, v6⟩, r0, r1, r2⟩ := h.2.2 k hk
      have c := f4_counts h h1 h2 hk
      have fb := (sa_b (b := b) (r := 0) hv h2.2 k (by omega)).2.2
      refine ⟨_, ?_, rfl⟩
      dsimp only
      have es : ff m b d (k + 1) = if (m 7 (3 * k + 1) = b ∧ m 7 (3 * k + 2) < d) ∧ (ff m b d k = -1 ∨ m 7 (3 * k + 2) < m 7 (3 * (ff m b d k).toNat + 2)) then (k : Int) else ff m b d k := rfl
      rw [es]
      generalize ff m b d k = f at *
      unfold fX4_allIfFirst_b6 fX4_allIfFirst_b49 fX4_allIfFirst_b53
      rw [h.1, if_neg (fun q => by have := (yI_le (by omega) (by omega) (by omega) (by omega)).mp q; omega), add1]
      by_cases q2 : m 7 (3 * k + 1) = b ∧ m 7 (3 * k + 2) < d
      · rw [bt c q2]
        dsimp only
        by_cases q3 : f = -1
        · rw [if_pos (eqp (v := -1) (b := -1) rfl q3), if_pos (show (m 7 (3 * k + 1) = b ∧ m 7 (3 * k + 2) < d) ∧ (f = -1 ∨ m 7 (3 * k + 2) < m 7 (3 * f.toNat + 2)) from ⟨q2, Or.inl q3⟩)]
        · have fb2 := fb q3
          obtain ⟨g, rfl⟩ := Int.eq_ofNat_of_zero_le fb2.2.1
          obtain ⟨⟨w1, w2, w3, w4, w5, w6⟩, z0, z1, z2⟩ := h.2.2 g (by omega)
          rw [if_neg (yI_nl (v := -1) (b := -1) rfl (by omega) (by omega) q3), if_pos (inb_n (by omega) (by omega)), if_pos (inb_n (by omega) (by omega)), yI_cln (by omega), yI_cln (by omega), z2, r2, Int.toNat_natCast]
          by_cases q4 : m 7 (3 * k + 2) < m 7 (3 * g + 2)
          · rw [if_neg (fun q => by have := (yI_le (by omega) (by omega) (by omega) (by omega)).mp q; omega), if_pos (show (m 7 (3 * k + 1) = b ∧ m 7 (3 * k + 2) < d) ∧ ((g : Int) = -1 ∨ m 7 (3 * k + 2) < m 7 (3 * g + 2)) from ⟨q2, Or.inr q4⟩)]
          · rw [if_pos ((yI_le (by omega) (by omega) (by omega) (by omega)).mpr (by omega)), if_neg (show ¬ ((m 7 (3 * k + 1) = b ∧ m 7 (3 * k + 2) < d) ∧ ((g : Int) = -1 ∨ m 7 (3 * k + 2) < m 7 (3 * g + 2))) from fun q => by omega)]
      · rw [bf c q2, if_neg (fun z => q2 z.1)]
    · rintro s rfl
      refine ⟨_, ?_, rfl⟩
      dsimp only
      unfold fX4_allIfFirst_b6
      rw [h.1, if_pos ((yI_le (by omega) (by omega) (by omega) (by omega)).mpr (Int.le_refl _))]
  obtain ⟨t, k1, rfl⟩ := H
  have fb := (sa_b (b := b) (r := 0) hv h2.2 L (Nat.le_refl _)).2.2
  unfold fX4_allIfFirst fX4_allIfFirst_b0
  rw [b1 k1]
  dsimp only
  generalize ff m b d L = f at *
  by_cases q3 : f = -1
  · rw [if_pos (eqp (v := -1) (b := -1) rfl q3), if_neg (fun z => z.1 q3)]
  · have fb2 := fb q3
    obtain ⟨g, rfl⟩ := Int.eq_ofNat_of_zero_le fb2.2.1
    obtain ⟨⟨w1, w2, w3, w4, w5, w6⟩, z0, z1, z2⟩ := h.2.2 g (by omega)
    rw [if_neg (yI_nl (v := -1) (b := -1) rfl (by omega) (by omega) q3), if_pos (inb_n (by omega) (by omega)), yI_cln (by omega), z0, Int.toNat_natCast]
    by_cases q4 : m 7 (3 * g) = x
    · rw [if_pos (by rw [q4]), if_pos ⟨q3, q4⟩]
    · rw [if_neg (fun z => q4 (yI_inj (by omega) (by omega) (by omega) (by omega) z)), if_neg (fun z => q4 z.2)]
