/-! ===== claims: what both sides reckon ===== -/
def mu (m : Mm) (d : Int) (r : Nat) (i : Nat) : Nat := if r = 1 then (d - m 7 (3 * i + 2)).toNat else 1
def sh (m : Mm) (b d : Int) (r : Nat) (h : Int) : Nat → Nat
  | 0 => 0
  | k + 1 => sh m b d r h k + (if (m 7 (3 * k + 1) = b ∧ m 7 (3 * k + 2) < d) ∧ m 7 (3 * k) = h then mu m d r k else 0)
def sa (m : Mm) (b d : Int) (r : Nat) : Nat → Nat
  | 0 => 0
  | k + 1 => sa m b d r k + (if m 7 (3 * k + 1) = b ∧ m 7 (3 * k + 2) < d then mu m d r k else 0)
/-- the line that comes first; none: -1 -/
def ff (m : Mm) (b d : Int) : Nat → Int
  | 0 => -1
  | k + 1 => if (m 7 (3 * k + 1) = b ∧ m 7 (3 * k + 2) < d) ∧ (ff m b d k = -1 ∨ m 7 (3 * k + 2) < m 7 (3 * (ff m b d k).toNat + 2)) then (k : Int) else ff m b d k
theorem mu_b {m : Mm} {d : Int} {r i : Nat} (h0 : 0 ≤ m 7 (3 * i + 2)) (h1 : m 7 (3 * i + 2) < d) (hd : d ≤ 999) : 1 ≤ mu m d r i ∧ mu m d r i ≤ 999 := by
  unfold mu
  by_cases q : r = 1
  · rw [if_pos q]; omega
  · rw [if_neg q]; omega
theorem sh_b {m : Mm} {b d : Int} {r : Nat} {h : Int} {L : Nat} (hv : ∀ k : Nat, k < L → VL1 m k) (hd : d ≤ 999) : ∀ k, k ≤ L → sh m b d r h k ≤ 999 * k
  | 0, _ => Nat.le_refl _
  | k + 1, hk => by
    have ih := sh_b (b := b) (r := r) (h := h) hv hd k (by omega)
    have v := hv k (by omega)
    show sh m b d r h k + (if _ then _ else _) ≤ _
    by_cases q : (m 7 (3 * k + 1) = b ∧ m 7 (3 * k + 2) < d) ∧ m 7 (3 * k) = h
    · rw [if_pos q]
      have := (mu_b (r := r) v.2.2.2.2.1 q.1.2 hd).2
      omega
    · rw [if_neg q]; omega
theorem sa_b {m : Mm} {b d : Int} {r : Nat} {L : Nat} (hv : ∀ k : Nat, k < L → VL1 m k) (hd : d ≤ 999) : ∀ k, k ≤ L → sa m b d r k ≤ 999 * k ∧ (ff m b d k = -1 → sa m b d r k = 0) ∧ (ff m b d k ≠ -1 → 0 < sa m b d r k ∧ 0 ≤ ff m b d k ∧ ff m b d k < (k : Int))
  | 0, _ => ⟨Nat.le_refl _, fun _ => rfl, fun h => absurd rfl h⟩
  | k + 1, hk => by
    obtain ⟨i1, i2, i3⟩ := sa_b (b := b) (r := r) hv hd k (by omega)
    have v := hv k (by omega)
    rw [show sa m b d r (k + 1) = sa m b d r k + (if m 7 (3 * k + 1) = b ∧ m 7 (3 * k + 2) < d then mu m d r k else 0) from rfl, show ff m b d (k + 1) = if (m 7 (3 * k + 1) = b ∧ m 7 (3 * k + 2) < d) ∧ (ff m b d k = -1 ∨ m 7 (3 * k + 2) < m 7 (3 * (ff m b d k).toNat + 2)) then (k : Int) else ff m b d k from rfl]
    by_cases q : m 7 (3 * k + 1) = b ∧ m 7 (3 * k + 2) < d
    · have u := mu_b (r := r) v.2.2.2.2.1 q.2 hd
      rw [if_pos q]
      by_cases q2 : ff m b d k = -1 ∨ m 7 (3 * k + 2) < m 7 (3 * (ff m b d k).toNat + 2)
      · rw [if_pos ⟨q, q2⟩]
        omega
      · rw [if_neg (fun x => q2 x.2)]
        have n1 : ff m b d k ≠ -1 := fun x => q2 (Or.inl x)
        have := i3 n1
        refine ⟨by omega, fun x => absurd x n1, fun _ => by omega⟩
    · rw [if_neg q, if_neg (fun x => q x.1)]
      refine ⟨by omega, fun x => by rw [i2 x], fun x => ?_⟩
      have := i3 x
      omega
/-- the houses' shares make all shares -/
theorem sh_sum {m : Mm} {b d : Int} {r : Nat} {L : Nat} (hv : ∀ k : Nat, k < L → VL1 m k) : ∀ k, k ≤ L → sh m b d r 0 k + sh m b d r 1 k + sh m b d r 2 k + sh m b d r 3 k + sh m b d r 4 k = sa m b d r k
  | 0, _ => rfl
  | k + 1, hk => by
    have ih := sh_sum (b := b) (d := d) (r := r) hv k (by omega)
    obtain ⟨v1, v2, -⟩ := hv k (by omega)
    show (sh m b d r 0 k + (if _ then _ else _)) + (sh m b d r 1 k + (if _ then _ else _)) + (sh m b d r 2 k + (if _ then _ else _)) + (sh m b d r 3 k + (if _ then _ else _)) + (sh m b d r 4 k + (if _ then _ else _)) = sa m b d r k + (if _ then _ else _)
    by_cases q : m 7 (3 * k + 1) = b ∧ m 7 (3 * k + 2) < d
    · rw [if_pos q]
      rcases (show m 7 (3 * k) = 0 ∨ m 7 (3 * k) = 1 ∨ m 7 (3 * k) = 2 ∨ m 7 (3 * k) = 3 ∨ m 7 (3 * k) = 4 by omega) with e | e | e | e | e
      · rw [e, if_pos ⟨q, rfl⟩, if_neg (by omega), if_neg (by omega), if_neg (by omega), if_neg (by omega)]; omega
      · rw [e, if_neg (by omega), if_pos ⟨q, rfl⟩, if_neg (by omega), if_neg (by omega), if_neg (by omega)]; omega
      · rw [e, if_neg (by omega), if_neg (by omega), if_pos ⟨q, rfl⟩, if_neg (by omega), if_neg (by omega)]; omega
      · rw [e, if_neg (by omega), if_neg (by omega), if_neg (by omega), if_pos ⟨q, rfl⟩, if_neg (by omega)]; omega
      · rw [e, if_neg (by omega), if_neg (by omega), if_neg (by omega), if_neg (by omega), if_pos ⟨q, rfl⟩]; omega
    · rw [if_neg q, if_neg (fun x => q x.1), if_neg (fun x => q x.1), if_neg (fun x => q x.1), if_neg (fun x => q x.1), if_neg (fun x => q x.1)]; omega
/-- the lines as the class holds them -/
def LR (σ : Sg) (m : Mm) (L : Nat) : Prop := rI σ 49 3 = yI (L : Int) ∧ L ≤ 10 ∧ ∀ k : Nat, k < L → VL1 m k ∧ rI σ 50 k = yI (m 7 (3 * k)) ∧ rI σ 51 k = yI (m 7 (3 * k + 1)) ∧ rI σ 52 k = yI (m 7 (3 * k + 2))
