/-! the law's lines: the points that two lines have in common -/
theorem gm_on_dt {a b z : Pt} (hab : a ≠ b) : gm_on a b z ↔ (gm_cr a b z = 0 ∧ 0 ≤ gm_dt a b z ∧ gm_dt a b z ≤ gm_dt a b b) := by
  constructor
  · intro h
    refine ⟨h.1, ?_⟩
    by_cases ha : z = a
    · subst ha
      have hq : 0 < gm_dt z b b := gm_sq_pos (gm_ne hab)
      have e : gm_dt z b z = 0 := by unfold gm_dt; grind
      omega
    · by_cases hb : z = b
      · subst hb
        have hq : 0 < gm_dt a z z := gm_sq_pos (gm_ne hab)
        omega
      · have := gm_strict h ha hb
        omega
  · intro h
    exact gm_on_of hab h.1 h.2.1 h.2.2
theorem gm_on_lin {a b z : Pt} (hab : a ≠ b) (hc : gm_cr a b z = 0) {α β t B : Int} (et : α * (z.1 - a.1) + β * (z.2 - a.2) = t) (eB : α * (b.1 - a.1) + β * (b.2 - a.2) = B) (hB : B ≠ 0) :
    gm_on a b z ↔ ((0 ≤ t ∧ t ≤ B) ∨ (B ≤ t ∧ t ≤ 0)) := by
  have hq : 0 < gm_dt a b b := gm_sq_pos (gm_ne hab)
  have e : t * gm_dt a b b = B * gm_dt a b z := by
    rw [← et, ← eB]
    unfold gm_dt; unfold gm_cr at hc; grind
  rw [gm_on_dt hab]
  constructor
  · intro h
    exact gm_btw hq h.2.1 h.2.2 e
  · intro h
    refine ⟨hc, ?_⟩
    rcases h with h | h
    · have k := gm_btw (q := B) (u := gm_dt a b b) (s := t) (v := gm_dt a b z) (by omega) h.1 h.2 (by grind)
      omega
    · have k := gm_btw (q := -B) (u := gm_dt a b b) (s := -t) (v := gm_dt a b z) (by omega) (by omega) (by omega) (by grind)
      omega
def gm_kB (a b p q : Pt) : Int := (b.1 - a.1) * (q.2 - p.2) - (b.2 - a.2) * (q.1 - p.1)
def gm_kT (a p q : Pt) : Int := (p.1 - a.1) * (q.2 - p.2) - (p.2 - a.2) * (q.1 - p.1)
def gm_kU (a b p : Pt) : Int := (p.1 - a.1) * (b.2 - a.2) - (p.2 - a.2) * (b.1 - a.1)
def gm_cmS (T B U : Int) : Int := if T < 0 then 0 else if B < T then 0 else if U < 0 then 0 else if U ≤ B then (if T ≤ 0 then 2 else if B ≤ T then 2 else if U ≤ 0 then 2 else if B ≤ U then 2 else 1) else 0
def gm_cmI (lo hi : Int) : Int := if lo ≤ hi then (if lo = hi then 2 else 3) else 0
def gm_cmP (s t q : Int) : Int := gm_cmI (if 0 ≤ (if t ≤ s then t else s) then (if t ≤ s then t else s) else 0) (if (if t ≤ s then s else t) ≤ q then (if t ≤ s then s else t) else q)
/-- 0 none, 1 one that is no end, 2 one that is an end, 3 more than one -/
def gm_cm (a b p q : Pt) : Int :=
  if gm_kB a b p q = 0 then (if gm_kU a b p = 0 then gm_cmP (gm_dt a b p) (gm_dt a b q) (gm_dt a b b) else 0)
  else if 0 ≤ gm_kB a b p q then gm_cmS (gm_kT a p q) (gm_kB a b p q) (gm_kU a b p) else gm_cmS (-gm_kT a p q) (-gm_kB a b p q) (-gm_kU a b p)
theorem gm_cmS_1 (T B U : Int) : gm_cmS T B U = 1 ↔ (0 < T ∧ T < B ∧ 0 < U ∧ U < B) := by
  unfold gm_cmS
  (repeat' split) <;> omega
theorem gm_cmS_0 (T B U : Int) : gm_cmS T B U = 0 ↔ ¬ (0 ≤ T ∧ T ≤ B ∧ 0 ≤ U ∧ U ≤ B) := by
  unfold gm_cmS
  (repeat' split) <;> omega
theorem gm_cmS_r (T B U : Int) : gm_cmS T B U = 0 ∨ gm_cmS T B U = 1 ∨ gm_cmS T B U = 2 := by
  unfold gm_cmS
  (repeat' split) <;> omega
theorem gm_cmP_0 (s t q : Int) : gm_cmP s t q = 0 ↔ ¬ ((0 ≤ s ∨ 0 ≤ t) ∧ (s ≤ q ∨ t ≤ q) ∧ 0 ≤ q) := by
  unfold gm_cmP gm_cmI
  (repeat' split) <;> omega
theorem gm_cmP_3 (s t q : Int) : gm_cmP s t q = 3 ↔ ((0 < s ∨ 0 < t) ∧ (s < q ∨ t < q) ∧ s ≠ t ∧ 0 < q) := by
  unfold gm_cmP gm_cmI
  (repeat' split) <;> omega
theorem gm_cmP_r (s t q : Int) : gm_cmP s t q = 0 ∨ gm_cmP s t q = 2 ∨ gm_cmP s t q = 3 := by
  unfold gm_cmP gm_cmI
  (repeat' split) <;> omega
theorem gm_neg_iff (x y : Int) : x * y < 0 ↔ ((x < 0 ∧ 0 < y) ∨ (0 < x ∧ y < 0)) :=
  ⟨gm_sg, fun h => by
    rcases h with h | h
    · exact Int.mul_neg_of_neg_of_pos h.1 h.2
    · exact Int.mul_neg_of_pos_of_neg h.1 h.2⟩
section KK
variable {a b p q : Pt}
theorem gm_k1 : gm_cr a b p = - gm_kU a b p := by unfold gm_cr gm_kU; grind
theorem gm_k2 : gm_cr a b q = gm_kB a b p q - gm_kU a b p := by unfold gm_cr gm_kU gm_kB; grind
theorem gm_k3 : gm_cr p q a = gm_kT a p q := by unfold gm_cr gm_kT; grind
theorem gm_k4 : gm_cr p q b = gm_kT a p q - gm_kB a b p q := by unfold gm_cr gm_kT gm_kB; grind
theorem gm_X_lin : gm_X a b p q ↔ (((0 < gm_kU a b p ∧ gm_kU a b p < gm_kB a b p q) ∨ (gm_kB a b p q < gm_kU a b p ∧ gm_kU a b p < 0)) ∧ ((0 < gm_kT a p q ∧ gm_kT a p q < gm_kB a b p q) ∨ (gm_kB a b p q < gm_kT a p q ∧ gm_kT a p q < 0))) := by
  unfold gm_X
  rw [gm_k1, gm_k2 (p := p), gm_k3, gm_k4 (a := a), gm_neg_iff, gm_neg_iff]
  constructor <;> intro h <;> omega
theorem gm_cm_X : gm_cm a b p q = 1 ↔ gm_X a b p q := by
  rw [gm_X_lin]
  unfold gm_cm
  by_cases hB : gm_kB a b p q = 0
  · rw [if_pos hB]
    by_cases hU : gm_kU a b p = 0
    · rw [if_pos hU]
      have := gm_cmP_r (gm_dt a b p) (gm_dt a b q) (gm_dt a b b)
      constructor <;> intro h <;> omega
    · rw [if_neg hU]
      constructor <;> intro h <;> omega
  · rw [if_neg hB]
    by_cases hp : 0 ≤ gm_kB a b p q
    · rw [if_pos hp, gm_cmS_1]
      constructor <;> intro h <;> omega
    · rw [if_neg hp, gm_cmS_1]
      constructor <;> intro h <;> omega
theorem gm_on_kp (hab : a ≠ b) (hB : gm_kB a b p q ≠ 0) : gm_on a b p ↔ (gm_kU a b p = 0 ∧ ((0 ≤ gm_kT a p q ∧ gm_kT a p q ≤ gm_kB a b p q) ∨ (gm_kB a b p q ≤ gm_kT a p q ∧ gm_kT a p q ≤ 0))) := by
  have k := gm_k1 (a := a) (b := b) (p := p)
  by_cases hU : gm_kU a b p = 0
  · rw [gm_on_lin hab (z := p) (by omega) (α := q.2 - p.2) (β := -(q.1 - p.1)) (t := gm_kT a p q) (B := gm_kB a b p q) (by unfold gm_kT; grind) (by unfold gm_kB; grind) hB]
    constructor
    · intro h; exact ⟨hU, h⟩
    · intro h; exact h.2
  · constructor
    · intro h
      have := h.1
      omega
    · intro h
      omega
theorem gm_on_kq (hab : a ≠ b) (hB : gm_kB a b p q ≠ 0) : gm_on a b q ↔ (gm_kB a b p q = gm_kU a b p ∧ ((0 ≤ gm_kT a p q ∧ gm_kT a p q ≤ gm_kB a b p q) ∨ (gm_kB a b p q ≤ gm_kT a p q ∧ gm_kT a p q ≤ 0))) := by
  have k := gm_k2 (a := a) (b := b) (p := p) (q := q)
  by_cases hU : gm_kB a b p q = gm_kU a b p
  · rw [gm_on_lin hab (z := q) (by omega) (α := q.2 - p.2) (β := -(q.1 - p.1)) (t := gm_kT a p q) (B := gm_kB a b p q) (by unfold gm_kT; grind) (by unfold gm_kB; grind) hB]
    constructor
    · intro h; exact ⟨hU, h⟩
    · intro h; exact h.2
  · constructor
    · intro h
      have := h.1
      omega
    · intro h
      omega
theorem gm_on_ka (hpq : p ≠ q) (hB : gm_kB a b p q ≠ 0) : gm_on p q a ↔ (gm_kT a p q = 0 ∧ ((0 ≤ gm_kU a b p ∧ gm_kU a b p ≤ gm_kB a b p q) ∨ (gm_kB a b p q ≤ gm_kU a b p ∧ gm_kU a b p ≤ 0))) := by
  have k := gm_k3 (a := a) (p := p) (q := q)
  by_cases hU : gm_kT a p q = 0
  · rw [gm_on_lin hpq (z := a) (by omega) (α := b.2 - a.2) (β := -(b.1 - a.1)) (t := -gm_kU a b p) (B := -gm_kB a b p q) (by unfold gm_kU; grind) (by unfold gm_kB; grind) (by omega)]
    constructor <;> intro h <;> omega
  · constructor
    · intro h
      have := h.1
      omega
    · intro h
      omega
theorem gm_on_kb (hpq : p ≠ q) (hB : gm_kB a b p q ≠ 0) : gm_on p q b ↔ (gm_kT a p q = gm_kB a b p q ∧ ((0 ≤ gm_kU a b p ∧ gm_kU a b p ≤ gm_kB a b p q) ∨ (gm_kB a b p q ≤ gm_kU a b p ∧ gm_kU a b p ≤ 0))) := by
  have k := gm_k4 (a := a) (b := b) (p := p) (q := q)
  by_cases hU : gm_kT a p q = gm_kB a b p q
  · rw [gm_on_lin hpq (z := b) (by omega) (α := b.2 - a.2) (β := -(b.1 - a.1)) (t := -gm_kU a b p) (B := -gm_kB a b p q) (by unfold gm_kU; grind) (by unfold gm_kB; grind) (by omega)]
    constructor <;> intro h <;> omega
  · constructor
    · intro h
      have := h.1
      omega
    · intro h
      omega
theorem gm_par_U (hpq : p ≠ q) (hB : gm_kB a b p q = 0) (hT : gm_kT a p q = 0) : gm_kU a b p = 0 := by
  have hq : 0 < gm_dt p q q := gm_sq_pos (gm_ne hpq)
  have e : gm_kU a b p * gm_dt p q q = gm_kT a p q * ((b.1 - a.1) * (q.1 - p.1) + (b.2 - a.2) * (q.2 - p.2)) - gm_kB a b p q * ((p.1 - a.1) * (q.1 - p.1) + (p.2 - a.2) * (q.2 - p.2)) := by
    unfold gm_kU gm_kT gm_kB gm_dt; grind
  rw [hB, hT, Int.zero_mul, Int.zero_mul, Int.sub_zero] at e
  rcases Int.mul_eq_zero.mp e with h | h
  · exact h
  · omega
theorem gm_par_T (hab : a ≠ b) (hB : gm_kB a b p q = 0) (hU : gm_kU a b p = 0) : gm_kT a p q = 0 := by
  have hq : 0 < gm_dt a b b := gm_sq_pos (gm_ne hab)
  have e : gm_kT a p q * gm_dt a b b = gm_kU a b p * ((b.1 - a.1) * (q.1 - p.1) + (b.2 - a.2) * (q.2 - p.2)) + gm_kB a b p q * ((p.1 - a.1) * (b.1 - a.1) + (p.2 - a.2) * (b.2 - a.2)) := by
    unfold gm_kU gm_kT gm_kB gm_dt; grind
  rw [hB, hU, Int.zero_mul, Int.zero_mul, Int.add_zero] at e
  rcases Int.mul_eq_zero.mp e with h | h
  · exact h
  · omega
theorem gm_par_d (hab : a ≠ b) (hpq : p ≠ q) (hB : gm_kB a b p q = 0) : gm_dt a b q - gm_dt a b p ≠ 0 := by
  have h1 : 0 < gm_dt a b b := gm_sq_pos (gm_ne hab)
  have h2 : 0 < gm_dt p q q := gm_sq_pos (gm_ne hpq)
  have e : (gm_dt a b q - gm_dt a b p) * (gm_dt a b q - gm_dt a b p) + gm_kB a b p q * gm_kB a b p q = gm_dt a b b * gm_dt p q q := by
    unfold gm_kB gm_dt; grind
  intro h
  rw [h, hB, Int.zero_mul, Int.add_zero] at e
  have := Int.mul_pos h1 h2
  omega
theorem gm_cm_0 (hab : a ≠ b) (hpq : p ≠ q) : gm_cm a b p q = 0 ↔ ¬ gm_met a b p q := by
  unfold gm_met
  rw [gm_X_lin]
  unfold gm_cm
  by_cases hB : gm_kB a b p q = 0
  · rw [if_pos hB]
    by_cases hU : gm_kU a b p = 0
    · rw [if_pos hU, gm_cmP_0]
      have hq : 0 < gm_dt a b b := gm_sq_pos (gm_ne hab)
      have k1 := gm_k1 (a := a) (b := b) (p := p)
      have k2 := gm_k2 (a := a) (b := b) (p := p) (q := q)
      have k3 := gm_k3 (a := a) (p := p) (q := q)
      have k4 := gm_k4 (a := a) (b := b) (p := p) (q := q)
      have hT := gm_par_T hab hB hU
      have hd := gm_par_d hab hpq hB
      rw [gm_on_dt hab, gm_on_dt hab,
        gm_on_lin hpq (z := a) (by omega) (α := b.1 - a.1) (β := b.2 - a.2) (t := -gm_dt a b p) (B := gm_dt a b q - gm_dt a b p) (by unfold gm_dt; grind) (by unfold gm_dt; grind) hd,
        gm_on_lin hpq (z := b) (by omega) (α := b.1 - a.1) (β := b.2 - a.2) (t := gm_dt a b b - gm_dt a b p) (B := gm_dt a b q - gm_dt a b p) (by unfold gm_dt; grind) (by unfold gm_dt; grind) hd]
      constructor <;> intro h <;> omega
    · rw [if_neg hU]
      have n1 : ¬ gm_on a b p := fun h => by have := h.1; have := gm_k1 (a := a) (b := b) (p := p); omega
      have n2 : ¬ gm_on a b q := fun h => by have := h.1; have := gm_k2 (a := a) (b := b) (p := p) (q := q); omega
      have n3 : ¬ gm_on p q a := fun h => by have := h.1; have := gm_k3 (a := a) (p := p) (q := q); exact hU (gm_par_U hpq hB (by omega))
      have n4 : ¬ gm_on p q b := fun h => by have := h.1; have := gm_k4 (a := a) (b := b) (p := p) (q := q); exact hU (gm_par_U hpq hB (by omega))
      constructor
      · intro _ h
        rcases h with h | h | h | h | h
        · exact n1 h
        · exact n2 h
        · exact n3 h
        · exact n4 h
        · omega
      · intro _
        rfl
  · rw [if_neg hB, gm_on_kp hab hB, gm_on_kq hab hB, gm_on_ka hpq hB, gm_on_kb hpq hB]
    by_cases hp : 0 ≤ gm_kB a b p q
    · rw [if_pos hp, gm_cmS_0]
      constructor <;> intro h <;> omega
    · rw [if_neg hp, gm_cmS_0]
      constructor <;> intro h <;> omega
theorem gm_cm_3 (hab : a ≠ b) : gm_cm a b p q = 3 ↔ (gm_cr a b p = 0 ∧ gm_cr a b q = 0 ∧ (0 < gm_dt a b p ∨ 0 < gm_dt a b q) ∧ (gm_dt a b p < gm_dt a b b ∨ gm_dt a b q < gm_dt a b b) ∧ gm_dt a b p ≠ gm_dt a b q) := by
  have hq : 0 < gm_dt a b b := gm_sq_pos (gm_ne hab)
  have k1 := gm_k1 (a := a) (b := b) (p := p)
  have k2 := gm_k2 (a := a) (b := b) (p := p) (q := q)
  unfold gm_cm
  by_cases hB : gm_kB a b p q = 0
  · rw [if_pos hB]
    by_cases hU : gm_kU a b p = 0
    · rw [if_pos hU, gm_cmP_3]
      constructor <;> intro h <;> omega
    · rw [if_neg hU]
      constructor <;> intro h <;> omega
  · rw [if_neg hB]
    by_cases hp : 0 ≤ gm_kB a b p q
    · rw [if_pos hp]
      have := gm_cmS_r (gm_kT a p q) (gm_kB a b p q) (gm_kU a b p)
      constructor <;> intro h <;> omega
    · rw [if_neg hp]
      have := gm_cmS_r (-gm_kT a p q) (-gm_kB a b p q) (-gm_kU a b p)
      constructor <;> intro h <;> omega
theorem gm_cm_r : gm_cm a b p q = 0 ∨ gm_cm a b p q = 1 ∨ gm_cm a b p q = 2 ∨ gm_cm a b p q = 3 := by
  unfold gm_cm
  split
  · split
    · have := gm_cmP_r (gm_dt a b p) (gm_dt a b q) (gm_dt a b b)
      omega
    · omega
  · split
    · have := gm_cmS_r (gm_kT a p q) (gm_kB a b p q) (gm_kU a b p)
      omega
    · have := gm_cmS_r (-gm_kT a p q) (-gm_kB a b p q) (-gm_kU a b p)
      omega
/-- a line and a point -/
theorem gm_cm_pt (hab : a ≠ b) : (0 < gm_cm a b p p ∧ gm_on a b p) ∨ (gm_cm a b p p = 0 ∧ ¬ gm_on a b p) := by
  have hq : 0 < gm_dt a b b := gm_sq_pos (gm_ne hab)
  have hB : gm_kB a b p p = 0 := by unfold gm_kB; grind
  have k1 := gm_k1 (a := a) (b := b) (p := p)
  unfold gm_cm
  rw [if_pos hB, gm_on_dt hab]
  by_cases hU : gm_kU a b p = 0
  · rw [if_pos hU]
    have h0 := gm_cmP_0 (gm_dt a b p) (gm_dt a b p) (gm_dt a b b)
    have hr := gm_cmP_r (gm_dt a b p) (gm_dt a b p) (gm_dt a b b)
    by_cases c : 0 ≤ gm_dt a b p ∧ gm_dt a b p ≤ gm_dt a b b
    · left
      refine ⟨?_, by omega, c⟩
      have : ¬ gm_cmP (gm_dt a b p) (gm_dt a b p) (gm_dt a b b) = 0 := fun e => (h0.mp e) (by omega)
      omega
    · right
      exact ⟨h0.mpr (by omega), fun h => c h.2⟩
  · rw [if_neg hU]
    right
    exact ⟨rfl, fun h => by omega⟩
/-- two lines from one corner, in each of the four ways of telling the second -/
theorem gm_cm_A (hab : a ≠ b) : gm_cm a b a q = 3 ↔ gm_sw a b q := by
  have hq : 0 < gm_dt a b b := gm_sq_pos (gm_ne hab)
  have e0 : gm_dt a b a = 0 := by unfold gm_dt; grind
  have e1 := gm_cr_a a b
  rw [gm_cm_3 hab]
  unfold gm_sw
  constructor <;> intro h <;> omega
theorem gm_cm_A' (hab : a ≠ b) : gm_cm a b p a = 3 ↔ gm_sw a b p := by
  have hq : 0 < gm_dt a b b := gm_sq_pos (gm_ne hab)
  have e0 : gm_dt a b a = 0 := by unfold gm_dt; grind
  have e1 := gm_cr_a a b
  rw [gm_cm_3 hab]
  unfold gm_sw
  constructor <;> intro h <;> omega
theorem gm_cm_B (hab : a ≠ b) : gm_cm a b b q = 3 ↔ gm_sw b a q := by
  have hq : 0 < gm_dt a b b := gm_sq_pos (gm_ne hab)
  have e0 : gm_dt b a q = gm_dt a b b - gm_dt a b q := by unfold gm_dt; grind
  have e1 := gm_cr_b a b
  have e2 : gm_cr b a q = - gm_cr a b q := gm_cr_swap a b q
  rw [gm_cm_3 hab]
  unfold gm_sw
  constructor <;> intro h <;> omega
theorem gm_cm_B' (hab : a ≠ b) : gm_cm a b p b = 3 ↔ gm_sw b a p := by
  have hq : 0 < gm_dt a b b := gm_sq_pos (gm_ne hab)
  have e0 : gm_dt b a p = gm_dt a b b - gm_dt a b p := by unfold gm_dt; grind
  have e1 := gm_cr_b a b
  have e2 : gm_cr b a p = - gm_cr a b p := gm_cr_swap a b p
  rw [gm_cm_3 hab]
  unfold gm_sw
  constructor <;> intro h <;> omega
end KK
