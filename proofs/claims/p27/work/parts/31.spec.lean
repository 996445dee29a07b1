/-! ===== what both sides reckon, in plain numbers (m: the model's memory) ===== -/
def qR (m : Mm) : Nat := (m 0 9).toNat
def qW (m : Mm) : Nat := (m 0 10).toNat
def qH (m : Mm) : Nat := (m 0 11).toNat
def qL (m : Mm) (c : Nat) : Nat := (m 4 c).toNat
def qad (a b : Nat) : Nat := (a - b) + (b - a)
def qfar (W H c : Nat) : Nat := qad (c / W) (H / W) + qad (c % W) (H % W)
def qF (m : Mm) (c : Nat) : Nat := qfar (qW m) (qH m) c
def qbes (R W c w : Nat) : Option Nat :=
  if w = 0 then (if W ≤ c then some (c - W) else none) else if w = 1 then (if c % W + 1 < W then some (c + 1) else none) else if w = 2 then (if c + W < R * W then some (c + W) else none) else (if 0 < c % W then some (c - 1) else none)
def qok (m : Mm) (c x : Nat) : Option Nat := if qL m x = 11 ∨ qF m c ≤ qF m x then none else some x
def qto (m : Mm) (c w : Nat) : Option Nat := (qbes (qR m) (qW m) c w).bind (qok m c)
def qone (m : Mm) (rec : Nat → List (List Nat)) (c w : Nat) : List (List Nat) :=
  match qto m c w with
  | none => []
  | some x => if x = qH m then [[w]] else (rec x).map (fun l => w :: l)
/-- the ways by the last k of the four steps -/
def qsf (m : Mm) (rec : Nat → List (List Nat)) (c : Nat) : Nat → List (List Nat)
  | 0 => []
  | k + 1 => qone m rec c (3 - k) ++ qsf m rec c k
def qwy (m : Mm) : Nat → Nat → List (List Nat)
  | 0, _ => []
  | d + 1, c => qsf m (qwy m d) c 4
def qws (m : Mm) (c : Nat) : List (List Nat) := qwy m (qF m c) c
def qcn (m : Mm) (c : Nat) : Nat := if qL m c = 11 then 0 else if c = qH m then 1 else (qws m c).length
def qnx (m : Mm) (c w : Nat) : Int :=
  match qto m c w with
  | none => -1
  | some x => if qL m c = 11 ∨ qcn m x = 0 then -1 else (x : Int)
/-- size, foot, days, seed -/
abbrev QT : Type := Nat × Nat × Nat × Nat
/-- kind, breaks every, tugs, skirt, drawn -/
abbrev QE : Type := Nat × Nat × Nat × Nat × Nat
/-- ways seen; gain, days, water and way of the best -/
abbrev QB : Type := Nat × Int × Nat × Nat × List Nat
def qmelt (kind sk w s : Nat) : Nat :=
  let a := 1 + (if kind = 3 then w + 1 else w) * s / 100
  let b := if kind = 1 ∨ kind = 4 then (a + 1) / 2 else a
  if sk = 0 then b else b - b / 3
def qsd (q : Nat) : Nat := (1103515245 * q + 12345) % 2147483648
def qdw (dr w q : Nat) : Nat × Nat := if dr = 0 then (w, q) else (w + qsd q / 65536 % 3 - 1, qsd q)
def qdy (kind ev sk w s f d q : Nat) : QT :=
  let s1 := s - qmelt kind sk w s
  let f1 := f - w
  let s2 := if f1 = 0 ∧ kind ≠ 4 then s1 - s1 / 5 else s1
  let f2 := if f1 = 0 ∧ kind ≠ 4 then 9 else f1
  let s3 := if kind = 2 ∧ (d + 1) % ev = 0 then s2 - (s2 + 9) / 10 else s2
  (s3, f2, d + 1, q)
def qday (E : QE) (w : Nat) (T : QT) : QT := qdy E.1 E.2.1 E.2.2.2.1 (qdw E.2.2.2.2 w T.2.2.2).1 T.1 T.2.1 T.2.2.1 (qdw E.2.2.2.2 w T.2.2.2).2
def qrun (E : QE) (w : Nat) : Nat → QT → QT
  | 0, T => T
  | k + 1, T => if T.1 = 0 then T else qrun E w k (qday E w T)
def qtk (fl : Int) (tugs w s : Nat) : Nat :=
  if fl = (w : Int) then max 1 (s / (20 * tugs)) else if fl ≠ -1 ∧ (fl + 2) % 4 = (w : Int) then 1 + s / (20 * tugs) + 1 else 1 + s / (20 * tugs)
def qst (m : Mm) (E : QE) (c w : Nat) (T : QT) : QT := qrun E (qL m c) (qtk (m 5 c) E.2.2.1 w T.1) T
def qgo (m : Mm) (c w : Nat) : Nat := (qto m c w).getD 0
def qtw (m : Mm) (E : QE) : List Nat → Nat → QT → QT
  | [], _, T => T
  | w :: ws, c, T => qtw m E ws (qgo m c w) (qst m E c w T)
def qgain (m : Mm) (tugs sk s d : Nat) : Int := m 0 17 * (s : Int) - m 0 18 * (tugs : Int) * (d : Int) - (if sk = 0 then 0 else m 0 19)
def qup (m : Mm) (E : QE) (c : Nat) (T : QT) (B : QB) (ws : List Nat) : QB :=
  let t := qtw m E ws c T
  let g := qgain m E.2.2.1 E.2.2.2.1 t.1 t.2.2.1
  if B.1 = 0 ∨ B.2.1 < g ∨ (g = B.2.1 ∧ t.2.2.1 < B.2.2.1) then (B.1 + 1, g, t.2.2.1, t.1, ws) else (B.1 + 1, B.2)
def qB0 : QB := (0, 0, 0, 0, [])
def qbest (m : Mm) (E : QE) (c : Nat) (T : QT) : QB := (qws m c).foldl (qup m E c T) qB0
def qE (m : Mm) (b tugs sk dr : Nat) : QE := ((m 6 (5 * b)).toNat, (m 6 (5 * b + 4)).toNat, tugs, sk, dr)
def qT (m : Mm) (b size q : Nat) : QT := (size, (m 6 (5 * b + 3)).toNat, 0, q)
def qsq (m : Mm) (b : Nat) : Nat := (m 6 (5 * b + 1)).toNat
def qsz (m : Mm) (b : Nat) : Nat := (m 6 (5 * b + 2)).toNat
def qbb (m : Mm) (b size tugs sk : Nat) : QB := qbest m (qE m b tugs sk 0) (qsq m b) (qT m b size 0)
/-- the gain of an entry of the ledger -/
def qg (m : Mm) (b e : Nat) : Int := (qbb m b (qsz m b) (e / 2) (e % 2)).2.1
/-! ===== what lasts from call to call ===== -/
def nsC (o k : Nat) : Bool := !(o == 3) && !(decide (42 ≤ o) && decide (o ≤ 46)) && !(o == 1 && decide (2 ≤ k)) && !(decide (67 ≤ o) && decide (o ≤ 75))
def nsM (o k : Nat) : Bool := (o == 0 && (k == 1 || (decide (9 ≤ k) && decide (k ≤ 20)) || (decide (40 ≤ k) && decide (k ≤ 48)))) || o == 1 || (decide (4 ≤ o) && decide (o ≤ 7)) || o == 15 || o == 16
abbrev cC (σ : Sg) : Mm := core nsC σ
abbrev cM (τ : Sg) : Mm := core nsM τ
def VP (c m : Mm) : Prop := c 1 1 = m 0 1 ∧ 0 ≤ m 0 1 ∧ m 0 1 ≤ 64 ∧ ∀ k : Nat, (k : Int) < m 0 1 → c 2 k = m 1 k ∧ 1 ≤ m 1 k ∧ m 1 k ≤ 126
/-- the sea itself: a fact of the model's memory -/
def VS (m : Mm) : Prop := 2 ≤ m 0 9 ∧ m 0 9 ≤ 5 ∧ 2 ≤ m 0 10 ∧ m 0 10 ≤ 6 ∧ 0 ≤ m 0 11 ∧ m 0 11 < m 0 9 * m 0 10 ∧ m 4 (qH m) = 10 ∧ ∀ i : Nat, (i : Int) < m 0 9 * m 0 10 → 0 ≤ m 4 i ∧ m 4 i ≤ 11 ∧ -1 ≤ m 5 i ∧ m 5 i ≤ 3 ∧ (m 4 i = 10 → i = qH m)
def VT (c m : Mm) : Prop := c 4 5 = m 0 9 * m 0 10 ∧ c 4 6 = m 0 10 ∧ c 4 7 = m 0 11 ∧ ∀ i : Nat, (i : Int) < m 0 9 * m 0 10 → c 5 i = m 4 i ∧ c 6 i = m 5 i ∧ c 7 i = (qF m i : Int) ∧ c 8 i = (qcn m i : Int) ∧ ∀ w : Nat, w < 4 → c (10 + i) w = qnx m i w
def VQ (n : Nat) (c m : Mm) : Prop := c 0 10 = m 0 12 ∧ 0 ≤ m 0 12 ∧ m 0 12 ≤ (n : Int) ∧ ((m 0 12 = 0 ∧ m 0 9 = 0 ∧ m 0 10 = 0 ∧ c 4 5 = 0) ∨ (1 ≤ m 0 12 ∧ VS m ∧ VT c m))
def VB1 (m : Mm) (b : Nat) : Prop := 0 ≤ m 6 (5 * b) ∧ m 6 (5 * b) ≤ 4 ∧ 0 ≤ m 6 (5 * b + 1) ∧ m 6 (5 * b + 1) < m 0 9 * m 0 10 ∧ m 4 (qsq m b) ≤ 9 ∧ 10 ≤ m 6 (5 * b + 2) ∧ m 6 (5 * b + 2) ≤ 999 ∧ 0 ≤ m 6 (5 * b + 3) ∧ m 6 (5 * b + 3) ≤ 99 ∧ (m 6 (5 * b) = 2 → 2 ≤ m 6 (5 * b + 4) ∧ m 6 (5 * b + 4) ≤ 9) ∧ (m 6 (5 * b) ≠ 2 → m 6 (5 * b + 4) = 0)
def VB2 (c m : Mm) (b : Nat) : Prop := c (76 + b) 0 = m 6 (5 * b) ∧ c (76 + b) 1 = m 6 (5 * b + 1) ∧ c (76 + b) 2 = m 6 (5 * b + 2) ∧ c (76 + b) 3 = m 6 (5 * b + 3) ∧ c (76 + b) 4 = m 6 (5 * b + 4) ∧ c (76 + b) 5 = (if m 6 (5 * b) = 1 ∨ m 6 (5 * b) = 4 then 1 else 0)
def VB (c m : Mm) : Prop := c 0 9 = m 0 15 ∧ 0 ≤ m 0 15 ∧ m 0 15 ≤ 5 ∧ ∀ b : Nat, (b : Int) < m 0 15 → VB1 m b ∧ VB2 c m b
def VK (p w l : Int) : Prop := 1 ≤ p ∧ p ≤ 9 ∧ 0 ≤ w ∧ w ≤ 9 ∧ 0 ≤ l ∧ l ≤ 99
def VC (c m : Mm) : Prop := c 41 0 = m 0 17 ∧ c 41 1 = m 0 18 ∧ c 41 2 = m 0 19 ∧ VK (m 0 17) (m 0 18) (m 0 19)
def VL1 (m : Mm) (k : Nat) : Prop := 0 ≤ m 7 (3 * k) ∧ m 7 (3 * k) ≤ 4 ∧ 0 ≤ m 7 (3 * k + 1) ∧ m 7 (3 * k + 1) ≤ 4 ∧ 0 ≤ m 7 (3 * k + 2) ∧ m 7 (3 * k + 2) ≤ 99
def VL (c m : Mm) : Prop := c 49 3 = m 0 20 ∧ 0 ≤ m 0 20 ∧ m 0 20 ≤ 10 ∧ ∀ k : Nat, (k : Int) < m 0 20 → VL1 m k ∧ c 50 k = m 7 (3 * k) ∧ c 51 k = m 7 (3 * k + 1) ∧ c 52 k = m 7 (3 * k + 2)
def VD (c m : Mm) : Prop := c 0 11 = m 0 40 ∧ 0 ≤ m 0 40 ∧ m 0 40 ≤ 20
def VI1 (c m : Mm) (b : Nat) : Prop := c 54 b = m 15 (5 * b + 2) ∧ c 55 b = m 15 (5 * b + 3) ∧ m 15 (5 * b) = m 6 (5 * b) ∧ m 15 (5 * b + 1) = m 6 (5 * b + 1) ∧ m 15 (5 * b + 4) = m 6 (5 * b + 4) ∧ 10 ≤ m 15 (5 * b + 2) ∧ m 15 (5 * b + 2) ≤ 999 ∧ 0 ≤ m 15 (5 * b + 3) ∧ m 15 (5 * b + 3) ≤ 99
def VI2 (c m : Mm) : Prop := c 53 3 = m 0 43 ∧ m 0 43 ≤ m 0 15 ∧ c 53 4 = m 0 48 ∧ 0 ≤ m 0 48 ∧ m 0 48 ≤ m 0 20 ∧ c 57 0 = m 0 45 ∧ c 57 1 = m 0 46 ∧ c 57 2 = m 0 47 ∧ VK (m 0 45) (m 0 46) (m 0 47) ∧ (∀ b : Nat, (b : Int) < m 0 43 → VI1 c m b) ∧ ∀ k : Nat, (k : Int) < 3 * m 0 48 → m 16 k = m 7 k
def VI (c m : Mm) : Prop := (m 0 43 = -1 ∧ c 53 5 = 0) ∨ (0 ≤ m 0 43 ∧ m 0 43 ≤ 5 ∧ 1 ≤ m 0 44 ∧ m 0 44 ≤ m 0 12 ∧ c 53 5 = m 0 44 ∧ (m 0 44 = m 0 12 → VI2 c m))
def VG1 (c m : Mm) (b : Nat) : Prop := c 66 b = (if qcn m (qsq m b) = 0 then 0 else 1) ∧ (qcn m (qsq m b) ≠ 0 → ∀ e : Nat, 2 ≤ e → e < 24 → c (60 + b) e = qg m b e)
def VG (c m : Mm) : Prop := ∀ b : Nat, (b : Int) < m 0 15 → c 65 b ≠ 0 → VG1 c m b
def IV (n : Nat) (c m : Mm) : Prop := VP c m ∧ VQ n c m ∧ VB c m ∧ VC c m ∧ VL c m ∧ VD c m ∧ VI c m ∧ VG c m
def Inv (n : Nat) (σ τ : Sg) : Prop := IV n (cC σ) (cM τ)
theorem IV_n {n : Nat} {c m : Mm} (h : IV n c m) : IV (n + 1) c m := by
  obtain ⟨h1, ⟨a, b, d, e⟩, h3⟩ := h
  exact ⟨h1, ⟨a, b, by omega, e⟩, h3⟩
theorem Inv_n (n : Nat) (σ τ : Sg) (h : Inv n σ τ) : Inv (n + 1) σ τ := IV_n h
theorem cC_r {σ : Sg} {o k : Nat} (h : nsC o k = true) : rI σ o k = yI (cC σ o k) := core_r h
theorem cM_r {σ : Sg} {o k : Nat} (h : nsM o k = true) : rI σ o k = yI (cM σ o k) := core_r h
theorem SimI_same {Inv : Nat → Sg → Sg → Prop} {f g : Sg → Option (Int32 × Sg)} (hn : ∀ n σ τ, Inv n σ τ → Inv (n + 1) σ τ) (h : ∀ n σ τ, n < 512 → Inv n σ τ → ∃ r, f σ = some (r, σ) ∧ g τ = some (r, τ)) : SimI Inv f g := fun n σ τ hl hi => by
  obtain ⟨r, h1, h2⟩ := h n σ τ hl hi
  exact ⟨r, σ, τ, h1, h2, hn n σ τ hi⟩
