/-! geometry 1: sums, crossings, separation -/
abbrev Pt : Type := Int × Int
def gm_sum : Nat → (Nat → Int) → Int
  | 0, _ => 0
  | n + 1, f => gm_sum n f + f n
theorem gm_sum_congr {n : Nat} {f g : Nat → Int} (h : ∀ k, k < n → f k = g k) : gm_sum n f = gm_sum n g := by
  induction n with
  | zero => rfl
  | succ n ih =>
    show gm_sum n f + f n = gm_sum n g + g n
    rw [ih (fun k hk => h k (Nat.lt_succ_of_lt hk)), h n (Nat.lt_succ_self n)]
theorem gm_sum_add (n : Nat) (f g : Nat → Int) : gm_sum n (fun k => f k + g k) = gm_sum n f + gm_sum n g := by
  induction n with
  | zero => rfl
  | succ n ih =>
    show gm_sum n (fun k => f k + g k) + (f n + g n) = (gm_sum n f + f n) + (gm_sum n g + g n)
    rw [ih]; omega
theorem gm_sum_sub (n : Nat) (f g : Nat → Int) : gm_sum n (fun k => f k - g k) = gm_sum n f - gm_sum n g := by
  induction n with
  | zero => rfl
  | succ n ih =>
    show gm_sum n (fun k => f k - g k) + (f n - g n) = (gm_sum n f + f n) - (gm_sum n g + g n)
    rw [ih]; omega
theorem gm_sum_zero {n : Nat} {f : Nat → Int} (h : ∀ k, k < n → f k = 0) : gm_sum n f = 0 := by
  induction n with
  | zero => rfl
  | succ n ih =>
    show gm_sum n f + f n = 0
    rw [ih (fun k hk => h k (Nat.lt_succ_of_lt hk)), h n (Nat.lt_succ_self n)]; rfl
theorem gm_sum_mul (n : Nat) (c : Int) (f : Nat → Int) : gm_sum n (fun k => c * f k) = c * gm_sum n f := by
  induction n with
  | zero => exact (Int.mul_zero c).symm
  | succ n ih =>
    show gm_sum n (fun k => c * f k) + c * f n = c * (gm_sum n f + f n)
    rw [ih, Int.mul_add]
theorem gm_sum_const (n : Nat) (c : Int) : gm_sum n (fun _ => c) = n * c := by
  induction n with
  | zero => exact (Int.zero_mul c).symm
  | succ n ih =>
    show gm_sum n (fun _ => c) + c = ((n + 1 : Nat) : Int) * c
    rw [ih, Int.natCast_add, Int.add_mul]; omega
theorem gm_sum_swap (n m : Nat) (f : Nat → Nat → Int) : gm_sum n (fun i => gm_sum m (fun j => f i j)) = gm_sum m (fun j => gm_sum n (fun i => f i j)) := by
  induction n with
  | zero => exact (gm_sum_zero (fun k hk => rfl)).symm
  | succ n ih =>
    show gm_sum n (fun i => gm_sum m (fun j => f i j)) + gm_sum m (fun j => f n j) = gm_sum m (fun j => gm_sum n (fun i => f i j) + f n j)
    rw [ih, gm_sum_add]
theorem gm_sum_one {n i : Nat} {f : Nat → Int} (hi : i < n) (h : ∀ k, k < n → k ≠ i → f k = 0) : gm_sum n f = f i := by
  induction n with
  | zero => exact absurd hi (Nat.not_lt_zero i)
  | succ n ih =>
    show gm_sum n f + f n = f i
    by_cases e : i = n
    · rw [gm_sum_zero (fun k hk => h k (Nat.lt_succ_of_lt hk) (by omega)), e]; omega
    · rw [ih (by omega) (fun k hk => h k (Nat.lt_succ_of_lt hk)), h n (Nat.lt_succ_self n) (fun q => e q.symm)]; omega
theorem gm_sum_nonneg {n : Nat} {f : Nat → Int} (h : ∀ k, k < n → 0 ≤ f k) : 0 ≤ gm_sum n f := by
  induction n with
  | zero => exact Int.le_refl 0
  | succ n ih =>
    have a := ih (fun k hk => h k (Nat.lt_succ_of_lt hk))
    have b := h n (Nat.lt_succ_self n)
    show 0 ≤ gm_sum n f + f n
    omega
theorem gm_sum_le {n : Nat} {f g : Nat → Int} (h : ∀ k, k < n → f k ≤ g k) : gm_sum n f ≤ gm_sum n g := by
  induction n with
  | zero => exact Int.le_refl 0
  | succ n ih =>
    have a := ih (fun k hk => h k (Nat.lt_succ_of_lt hk))
    have b := h n (Nat.lt_succ_self n)
    show gm_sum n f + f n ≤ gm_sum n g + g n
    omega
theorem gm_sum_shift (n : Nat) (f : Nat → Int) : gm_sum (n + 1) f = f 0 + gm_sum n (fun k => f (k + 1)) := by
  induction n with
  | zero => show (0 : Int) + f 0 = f 0 + 0; omega
  | succ n ih =>
    show gm_sum (n + 1) f + f (n + 1) = f 0 + (gm_sum n (fun k => f (k + 1)) + f (n + 1))
    rw [ih]; omega
theorem gm_sum_tele (n : Nat) (f : Nat → Int) : gm_sum n (fun k => f (k + 1) - f k) = f n - f 0 := by
  induction n with
  | zero => show (0 : Int) = f 0 - f 0; omega
  | succ n ih =>
    show gm_sum n (fun k => f (k + 1) - f k) + (f (n + 1) - f n) = f (n + 1) - f 0
    rw [ih]; omega
/-- the next corner of a ring of n -/
def gm_nx (n k : Nat) : Nat := if k + 1 = n then 0 else k + 1
theorem gm_nx_lt {n k : Nat} (h : k < n) : gm_nx n k < n := by
  unfold gm_nx
  split <;> omega
theorem gm_nx_inj {n j k : Nat} (hj : j < n) (hk : k < n) (h : gm_nx n j = gm_nx n k) : j = k := by
  unfold gm_nx at h
  split at h <;> split at h <;> omega
theorem gm_sum_nx (n : Nat) (f : Nat → Int) : gm_sum n (fun k => f (gm_nx n k)) = gm_sum n f := by
  cases n with
  | zero => rfl
  | succ n =>
    rw [gm_sum_shift n f]
    show gm_sum n (fun k => f (gm_nx (n + 1) k)) + f (gm_nx (n + 1) n) = f 0 + gm_sum n (fun k => f (k + 1))
    rw [gm_sum_congr (g := fun k => f (k + 1)) (fun k hk => by rw [show gm_nx (n + 1) k = k + 1 from if_neg (by omega)]), show gm_nx (n + 1) n = 0 from if_pos rfl]
    omega
/-- above 0: p is left of the way from a to b -/
def gm_cr (a b p : Pt) : Int := (b.1 - a.1) * (p.2 - a.2) - (b.2 - a.2) * (p.1 - a.1)
/-- the side from a to b crosses the ray from p to the right: 1 upwards, -1 downwards -/
def gm_c (p a b : Pt) : Int := if a.2 ≤ p.2 ∧ p.2 < b.2 ∧ 0 < gm_cr a b p then 1 else if b.2 ≤ p.2 ∧ p.2 < a.2 ∧ gm_cr a b p < 0 then -1 else 0
def gm_h (p q v : Pt) : Int := if p.2 < v.2 ∧ v.2 ≤ q.2 ∧ gm_cr p q v < 0 then 1 else 0
/-- a line lies between a, b and c, d -/
def gm_sep (a b c d : Pt) : Prop := ∃ α β γ : Int, α * a.1 + β * a.2 + γ < 0 ∧ α * b.1 + β * b.2 + γ < 0 ∧ 0 < α * c.1 + β * c.2 + γ ∧ 0 < α * d.1 + β * d.2 + γ
theorem gm_l1 {a b p : Pt} {α β γ : Int} (h1 : a.2 ≤ p.2) (h2 : p.2 < b.2) (fa : α * a.1 + β * a.2 + γ < 0) (fb : α * b.1 + β * b.2 + γ < 0) (fp : 0 < α * p.1 + β * p.2 + γ) : α * gm_cr a b p < 0 := by
  have e : α * gm_cr a b p = (b.2 - p.2) * (α * a.1 + β * a.2 + γ) + (p.2 - a.2) * (α * b.1 + β * b.2 + γ) - (b.2 - a.2) * (α * p.1 + β * p.2 + γ) := by
    unfold gm_cr; grind
  have k1 : (b.2 - p.2) * (α * a.1 + β * a.2 + γ) < 0 := Int.mul_neg_of_pos_of_neg (by omega) fa
  have k2 : (p.2 - a.2) * (α * b.1 + β * b.2 + γ) ≤ 0 := Int.mul_nonpos_of_nonneg_of_nonpos (by omega) (by omega)
  have k3 : 0 < (b.2 - a.2) * (α * p.1 + β * p.2 + γ) := Int.mul_pos (by omega) fp
  omega
theorem gm_cr_swap (a b p : Pt) : gm_cr b a p = - gm_cr a b p := by unfold gm_cr; grind
theorem gm_l1' {a b p : Pt} {α β γ : Int} (h1 : b.2 ≤ p.2) (h2 : p.2 < a.2) (fa : α * a.1 + β * a.2 + γ < 0) (fb : α * b.1 + β * b.2 + γ < 0) (fp : 0 < α * p.1 + β * p.2 + γ) : 0 < α * gm_cr a b p := by
  have h := gm_l1 h1 h2 fb fa fp
  rw [gm_cr_swap, Int.mul_neg] at h
  omega
theorem gm_l2 {p q v : Pt} {α β γ : Int} (h1 : p.2 < v.2) (h2 : v.2 ≤ q.2) (fp : 0 < α * p.1 + β * p.2 + γ) (fq : 0 < α * q.1 + β * q.2 + γ) (fv : α * v.1 + β * v.2 + γ < 0) : 0 < α * gm_cr p q v := by
  have e : α * gm_cr p q v = (q.2 - v.2) * (α * p.1 + β * p.2 + γ) + (v.2 - p.2) * (α * q.1 + β * q.2 + γ) - (q.2 - p.2) * (α * v.1 + β * v.2 + γ) := by
    unfold gm_cr; grind
  have k1 : 0 ≤ (q.2 - v.2) * (α * p.1 + β * p.2 + γ) := Int.mul_nonneg (by omega) (by omega)
  have k2 : 0 < (v.2 - p.2) * (α * q.1 + β * q.2 + γ) := Int.mul_pos (by omega) fq
  have k3 : (q.2 - p.2) * (α * v.1 + β * v.2 + γ) < 0 := Int.mul_neg_of_pos_of_neg (by omega) fv
  omega
theorem gm_sg {x y : Int} (h : x * y < 0) : (x < 0 ∧ 0 < y) ∨ (0 < x ∧ y < 0) := by
  rcases Int.lt_trichotomy x 0 with a | a | a
  · rcases Int.lt_trichotomy y 0 with b | b | b
    · have := Int.mul_pos_of_neg_of_neg a b; omega
    · rw [b, Int.mul_zero] at h; omega
    · exact Or.inl ⟨a, b⟩
  · rw [a, Int.zero_mul] at h; omega
  · rcases Int.lt_trichotomy y 0 with b | b | b
    · exact Or.inr ⟨a, b⟩
    · rw [b, Int.mul_zero] at h; omega
    · have := Int.mul_pos a b; omega
theorem gm_sg' {x y : Int} (h : 0 < x * y) : (x < 0 ∧ y < 0) ∨ (0 < x ∧ 0 < y) := by
  have h : x * (-y) < 0 := by rw [Int.mul_neg]; omega
  rcases gm_sg h with a | a <;> omega
/-- a side that a line parts from p and q: its crossings of the two rays differ as its ends do -/
theorem gm_edge {p q a b : Pt} (hpq : p.2 ≤ q.2) (hs : gm_sep a b p q) : gm_c p a b - gm_c q a b = gm_h p q b - gm_h p q a := by
  obtain ⟨α, β, γ, fa, fb, fp, fq⟩ := hs
  have c1 : a.2 ≤ p.2 ∧ p.2 < b.2 → (α < 0 ∧ 0 < gm_cr a b p) ∨ (0 < α ∧ gm_cr a b p < 0) := fun h => gm_sg (gm_l1 h.1 h.2 fa fb fp)
  have c2 : b.2 ≤ p.2 ∧ p.2 < a.2 → (α < 0 ∧ gm_cr a b p < 0) ∨ (0 < α ∧ 0 < gm_cr a b p) := fun h => gm_sg' (gm_l1' h.1 h.2 fa fb fp)
  have c3 : a.2 ≤ q.2 ∧ q.2 < b.2 → (α < 0 ∧ 0 < gm_cr a b q) ∨ (0 < α ∧ gm_cr a b q < 0) := fun h => gm_sg (gm_l1 h.1 h.2 fa fb fq)
  have c4 : b.2 ≤ q.2 ∧ q.2 < a.2 → (α < 0 ∧ gm_cr a b q < 0) ∨ (0 < α ∧ 0 < gm_cr a b q) := fun h => gm_sg' (gm_l1' h.1 h.2 fa fb fq)
  have c5 : p.2 < a.2 ∧ a.2 ≤ q.2 → (α < 0 ∧ gm_cr p q a < 0) ∨ (0 < α ∧ 0 < gm_cr p q a) := fun h => gm_sg' (gm_l2 h.1 h.2 fp fq fa)
  have c6 : p.2 < b.2 ∧ b.2 ≤ q.2 → (α < 0 ∧ gm_cr p q b < 0) ∨ (0 < α ∧ 0 < gm_cr p q b) := fun h => gm_sg' (gm_l2 h.1 h.2 fp fq fb)
  clear fa fb fp fq
  unfold gm_c gm_h
  generalize gm_cr a b p = u1 at c1 c2 ⊢
  generalize gm_cr a b q = u2 at c3 c4 ⊢
  generalize gm_cr p q a = u3 at c5 ⊢
  generalize gm_cr p q b = u4 at c6 ⊢
  rcases Int.lt_trichotomy α 0 with hα | hα | hα
  all_goals
    (repeat' split) <;> omega
