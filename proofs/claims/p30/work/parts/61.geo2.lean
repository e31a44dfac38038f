/-! geometry 2: separation out of the rules -/
/-- p is on the line from a to b -/
def gm_on (a b p : Pt) : Prop := gm_cr a b p = 0 ∧ ((a.1 ≤ p.1 ∧ p.1 ≤ b.1) ∨ (b.1 ≤ p.1 ∧ p.1 ≤ a.1)) ∧ ((a.2 ≤ p.2 ∧ p.2 ≤ b.2) ∨ (b.2 ≤ p.2 ∧ p.2 ≤ a.2))
theorem gm_btw {q u s v : Int} (hq : 0 < q) (h0 : 0 ≤ s) (h1 : s ≤ q) (e : v * q = u * s) : (0 ≤ v ∧ v ≤ u) ∨ (u ≤ v ∧ v ≤ 0) := by
  rcases Int.le_total 0 u with hu | hu
  · left
    have k1 : 0 ≤ u * s := Int.mul_nonneg hu h0
    have k2 : u * s ≤ u * q := Int.mul_le_mul_of_nonneg_left h1 hu
    constructor
    · refine Int.not_lt.mp (fun hv => ?_)
      have := Int.mul_neg_of_neg_of_pos hv hq
      omega
    · refine Int.not_lt.mp (fun hv => ?_)
      have := Int.mul_lt_mul_of_pos_right hv hq
      omega
  · right
    have k1 : u * s ≤ 0 := Int.mul_nonpos_of_nonpos_of_nonneg hu h0
    have k2 : u * q ≤ u * s := Int.mul_le_mul_of_nonpos_left hu h1
    constructor
    · refine Int.not_lt.mp (fun hv => ?_)
      have := Int.mul_lt_mul_of_pos_right hv hq
      omega
    · refine Int.not_lt.mp (fun hv => ?_)
      have := Int.mul_pos hv hq
      omega
/-- how far along from a to b -/
def gm_dt (a b p : Pt) : Int := (b.1 - a.1) * (p.1 - a.1) + (b.2 - a.2) * (p.2 - a.2)
theorem gm_sq_pos {x y : Int} (h : ¬ (x = 0 ∧ y = 0)) : 0 < x * x + y * y := by
  have h1 : 0 ≤ x * x := by
    rcases Int.le_total 0 x with a | a
    · exact Int.mul_nonneg a a
    · exact Int.mul_nonneg_of_nonpos_of_nonpos a a
  have h2 : 0 ≤ y * y := by
    rcases Int.le_total 0 y with a | a
    · exact Int.mul_nonneg a a
    · exact Int.mul_nonneg_of_nonpos_of_nonpos a a
  by_cases hx : x = 0
  · have hy : y ≠ 0 := fun q => h ⟨hx, q⟩
    have h3 : 0 < y * y := by
      rcases Int.lt_or_gt_of_ne hy with a | a
      · exact Int.mul_pos_of_neg_of_neg a a
      · exact Int.mul_pos a a
    omega
  · have h3 : 0 < x * x := by
      rcases Int.lt_or_gt_of_ne hx with a | a
      · exact Int.mul_pos_of_neg_of_neg a a
      · exact Int.mul_pos a a
    omega
theorem gm_ne {a b : Pt} (h : a ≠ b) : ¬ (b.1 - a.1 = 0 ∧ b.2 - a.2 = 0) := fun q => h (Prod.ext (by omega) (by omega))
/-- on the straight line through a and b, between them -/
theorem gm_on_of {a b p : Pt} (hne : a ≠ b) (hc : gm_cr a b p = 0) (h0 : 0 ≤ gm_dt a b p) (h1 : gm_dt a b p ≤ gm_dt a b b) : gm_on a b p := by
  have hq : 0 < gm_dt a b b := gm_sq_pos (gm_ne hne)
  have e1 : (p.1 - a.1) * gm_dt a b b = (b.1 - a.1) * gm_dt a b p := by
    unfold gm_dt; unfold gm_cr at hc; grind
  have e2 : (p.2 - a.2) * gm_dt a b b = (b.2 - a.2) * gm_dt a b p := by
    unfold gm_dt; unfold gm_cr at hc; grind
  have k1 := gm_btw hq h0 h1 e1
  have k2 := gm_btw hq h0 h1 e2
  exact ⟨hc, by omega, by omega⟩
theorem gm_sep_flip {a b c d : Pt} (h : gm_sep a b c d) : gm_sep c d a b := by
  obtain ⟨α, β, γ, h1, h2, h3, h4⟩ := h
  exact ⟨-α, -β, -γ, by simp only [Int.neg_mul]; omega, by simp only [Int.neg_mul]; omega, by simp only [Int.neg_mul]; omega, by simp only [Int.neg_mul]; omega⟩
theorem gm_sep_sw1 {a b c d : Pt} (h : gm_sep a b c d) : gm_sep b a c d := by
  obtain ⟨α, β, γ, h1, h2, h3, h4⟩ := h
  exact ⟨α, β, γ, h2, h1, h3, h4⟩
theorem gm_sep_sw2 {a b c d : Pt} (h : gm_sep a b c d) : gm_sep a b d c := by
  obtain ⟨α, β, γ, h1, h2, h3, h4⟩ := h
  exact ⟨α, β, γ, h1, h2, h4, h3⟩
theorem gm_cr_form (a b p : Pt) : 2 * gm_cr a b p = (-(2 * (b.2 - a.2))) * p.1 + (2 * (b.1 - a.1)) * p.2 + 2 * ((b.2 - a.2) * a.1 - (b.1 - a.1) * a.2) := by unfold gm_cr; grind
theorem gm_cr_a (a b : Pt) : gm_cr a b a = 0 := by unfold gm_cr; grind
theorem gm_cr_b (a b : Pt) : gm_cr a b b = 0 := by unfold gm_cr; grind
/-- c and d strictly left of the way from a to b -/
theorem gm_sep_left {a b c d : Pt} (hc : 0 < gm_cr a b c) (hd : 0 < gm_cr a b d) : gm_sep a b c d := by
  refine ⟨-(2 * (b.2 - a.2)), 2 * (b.1 - a.1), 2 * ((b.2 - a.2) * a.1 - (b.1 - a.1) * a.2) - 1, ?_, ?_, ?_, ?_⟩
  · have := gm_cr_form a b a; rw [gm_cr_a] at this; omega
  · have := gm_cr_form a b b; rw [gm_cr_b] at this; omega
  · have := gm_cr_form a b c; omega
  · have := gm_cr_form a b d; omega
theorem gm_sep_right {a b c d : Pt} (hc : gm_cr a b c < 0) (hd : gm_cr a b d < 0) : gm_sep a b c d := by
  have h := gm_sep_left (a := b) (b := a) (c := c) (d := d) (by rw [gm_cr_swap]; omega) (by rw [gm_cr_swap]; omega)
  exact gm_sep_sw1 h
theorem gm_dt_form (a b p : Pt) : 2 * gm_dt a b p = (2 * (b.1 - a.1)) * p.1 + (2 * (b.2 - a.2)) * p.2 + 2 * (-((b.1 - a.1) * a.1) - (b.2 - a.2) * a.2) := by unfold gm_dt; grind
/-- along a to b: c and d behind b -/
theorem gm_sep_beyond {a b c d : Pt} (hb : 0 ≤ gm_dt a b b) (hc : gm_dt a b b < gm_dt a b c) (hd : gm_dt a b b < gm_dt a b d) : gm_sep a b c d := by
  refine ⟨2 * (b.1 - a.1), 2 * (b.2 - a.2), 2 * (-((b.1 - a.1) * a.1) - (b.2 - a.2) * a.2) - 2 * gm_dt a b b - 1, ?_, ?_, ?_, ?_⟩
  · have := gm_dt_form a b a
    have e : gm_dt a b a = 0 := by unfold gm_dt; grind
    omega
  · have := gm_dt_form a b b; omega
  · have := gm_dt_form a b c; omega
  · have := gm_dt_form a b d; omega
/-- along a to b: c and d ahead of a -/
theorem gm_sep_ahead {a b c d : Pt} (hb : 0 ≤ gm_dt a b b) (hc : gm_dt a b c < 0) (hd : gm_dt a b d < 0) : gm_sep a b c d := by
  refine ⟨-(2 * (b.1 - a.1)), -(2 * (b.2 - a.2)), -(2 * (-((b.1 - a.1) * a.1) - (b.2 - a.2) * a.2)) - 1, ?_, ?_, ?_, ?_⟩
  · have := gm_dt_form a b a
    have e : gm_dt a b a = 0 := by unfold gm_dt; grind
    simp only [Int.neg_mul]; omega
  · have := gm_dt_form a b b; simp only [Int.neg_mul]; omega
  · have := gm_dt_form a b c; simp only [Int.neg_mul]; omega
  · have := gm_dt_form a b d; simp only [Int.neg_mul]; omega
/-- a on the line c d, c and d weakly on the two sides of the line a b, not both on it -/
theorem gm_on_mid {a b c d : Pt} (h0 : gm_cr c d a = 0) (hC : gm_cr a b c ≤ 0) (hD : 0 ≤ gm_cr a b d) (hne : gm_cr a b c < gm_cr a b d) : gm_on c d a := by
  have e1 : gm_cr a b d * (c.1 - a.1) = gm_cr a b c * (d.1 - a.1) := by
    unfold gm_cr at h0 ⊢; grind
  have e2 : gm_cr a b d * (c.2 - a.2) = gm_cr a b c * (d.2 - a.2) := by
    unfold gm_cr at h0 ⊢; grind
  have key : ∀ x y C D : Int, C ≤ 0 → 0 ≤ D → C < D → D * x = C * y → (x ≤ 0 ∧ 0 ≤ y) ∨ (0 ≤ x ∧ y ≤ 0) := by
    intro x y C D h1 h2 h3 e
    rcases Int.lt_trichotomy x 0 with hx | hx | hx
    · left
      refine ⟨by omega, Int.not_lt.mp (fun hy => ?_)⟩
      rcases Int.lt_or_eq_of_le h2 with k | k
      · have a1 := Int.mul_neg_of_pos_of_neg k hx
        have a2 := Int.mul_nonneg_of_nonpos_of_nonpos h1 (Int.le_of_lt hy)
        omega
      · have hC : C < 0 := by omega
        have a1 := Int.mul_pos_of_neg_of_neg hC hy
        rw [← k, Int.zero_mul] at e
        omega
    · rcases Int.le_total 0 y with hy | hy
      · left; omega
      · right; omega
    · right
      refine ⟨by omega, Int.not_lt.mp (fun hy => ?_)⟩
      rcases Int.lt_or_eq_of_le h2 with k | k
      · have a1 := Int.mul_pos k hx
        have a2 := Int.mul_nonpos_of_nonpos_of_nonneg h1 (Int.le_of_lt hy)
        omega
      · have hC : C < 0 := by omega
        have a1 := Int.mul_neg_of_neg_of_pos hC hy
        rw [← k, Int.zero_mul] at e
        omega
  have k1 := key _ _ _ _ hC hD hne e1
  have k2 := key _ _ _ _ hC hD hne e2
  exact ⟨h0, by omega, by omega⟩
theorem gm_on_sw {a b p : Pt} (h : gm_on a b p) : gm_on b a p := ⟨by rw [gm_cr_swap, h.1]; rfl, by have := h.2.1; omega, by have := h.2.2; omega⟩
/-- two lines that neither cross nor have an end of one on the other are parted by a line -/
theorem gm_sep_of {a b c d : Pt} (hab : a ≠ b) (hcd : c ≠ d) (hx : ¬ (gm_cr a b c * gm_cr a b d < 0 ∧ gm_cr c d a * gm_cr c d b < 0))
    (h1 : ¬ gm_on a b c) (h2 : ¬ gm_on a b d) (h3 : ¬ gm_on c d a) (h4 : ¬ gm_on c d b) : gm_sep a b c d := by
  have hdiff : gm_cr c d a - gm_cr c d b = gm_cr a b d - gm_cr a b c := by unfold gm_cr; grind
  -- both strictly on one side
  by_cases p1 : 0 < gm_cr a b c ∧ 0 < gm_cr a b d
  · exact gm_sep_left p1.1 p1.2
  by_cases p2 : gm_cr a b c < 0 ∧ gm_cr a b d < 0
  · exact gm_sep_right p2.1 p2.2
  by_cases p3 : 0 < gm_cr c d a ∧ 0 < gm_cr c d b
  · exact gm_sep_flip (gm_sep_left p3.1 p3.2)
  by_cases p4 : gm_cr c d a < 0 ∧ gm_cr c d b < 0
  · exact gm_sep_flip (gm_sep_right p4.1 p4.2)
  by_cases z : gm_cr a b c = 0 ∧ gm_cr a b d = 0
  · -- all on one line
    have hq : 0 < gm_dt a b b := gm_sq_pos (gm_ne hab)
    have kc : gm_dt a b c < 0 ∨ gm_dt a b b < gm_dt a b c := by
      rcases Int.lt_or_le (gm_dt a b c) 0 with k | k
      · exact Or.inl k
      · refine Or.inr (Int.not_le.mp (fun q => h1 (gm_on_of hab z.1 k q)))
    have kd : gm_dt a b d < 0 ∨ gm_dt a b b < gm_dt a b d := by
      rcases Int.lt_or_le (gm_dt a b d) 0 with k | k
      · exact Or.inl k
      · refine Or.inr (Int.not_le.mp (fun q => h2 (gm_on_of hab z.2 k q)))
    have hA : gm_cr c d a = 0 := by
      have e : gm_cr c d a * gm_dt a b b = 0 := by
        have z1 := z.1
        have z2 := z.2
        unfold gm_cr at z1 z2 ⊢
        unfold gm_dt
        grind
      rcases Int.mul_eq_zero.mp e with k | k
      · exact k
      · omega
    have hab' : ∀ x y : Int, x ≤ 0 → 0 ≤ y → gm_dt a b c = x → gm_dt a b d = y → gm_on c d a := by
      intro x y hx0 hy0 ex ey
      have f1 : (c.1 - a.1) * gm_dt a b b = (b.1 - a.1) * gm_dt a b c := by
        have z1 := z.1
        unfold gm_cr at z1; unfold gm_dt; grind
      have f2 : (c.2 - a.2) * gm_dt a b b = (b.2 - a.2) * gm_dt a b c := by
        have z1 := z.1
        unfold gm_cr at z1; unfold gm_dt; grind
      have f3 : (d.1 - a.1) * gm_dt a b b = (b.1 - a.1) * gm_dt a b d := by
        have z1 := z.2
        unfold gm_cr at z1; unfold gm_dt; grind
      have f4 : (d.2 - a.2) * gm_dt a b b = (b.2 - a.2) * gm_dt a b d := by
        have z1 := z.2
        unfold gm_cr at z1; unfold gm_dt; grind
      rw [ex] at f1 f2
      rw [ey] at f3 f4
      have key : ∀ u v w Q : Int, 0 < Q → v * Q = u * x → w * Q = u * y → (v ≤ 0 ∧ 0 ≤ w) ∨ (0 ≤ v ∧ w ≤ 0) := by
        intro u v w Q hQ e1 e2
        rcases Int.le_total 0 u with hu | hu
        · left
          have a1 := Int.mul_nonpos_of_nonneg_of_nonpos hu hx0
          have a2 := Int.mul_nonneg hu hy0
          constructor
          · exact Int.not_lt.mp (fun k => by have := Int.mul_pos k hQ; omega)
          · exact Int.not_lt.mp (fun k => by have := Int.mul_neg_of_neg_of_pos k hQ; omega)
        · right
          have a1 := Int.mul_nonneg_of_nonpos_of_nonpos hu hx0
          have a2 := Int.mul_nonpos_of_nonpos_of_nonneg hu hy0
          constructor
          · exact Int.not_lt.mp (fun k => by have := Int.mul_neg_of_neg_of_pos k hQ; omega)
          · exact Int.not_lt.mp (fun k => by have := Int.mul_pos k hQ; omega)
      have g1 := key _ _ _ _ hq f1 f3
      have g2 := key _ _ _ _ hq f2 f4
      exact ⟨hA, by omega, by omega⟩
    have hba' : ∀ x y : Int, x ≤ 0 → 0 ≤ y → gm_dt a b d = x → gm_dt a b c = y → gm_on c d a := by
      intro x y hx0 hy0 ex ey
      have f1 : (c.1 - a.1) * gm_dt a b b = (b.1 - a.1) * gm_dt a b c := by
        have z1 := z.1
        unfold gm_cr at z1; unfold gm_dt; grind
      have f2 : (c.2 - a.2) * gm_dt a b b = (b.2 - a.2) * gm_dt a b c := by
        have z1 := z.1
        unfold gm_cr at z1; unfold gm_dt; grind
      have f3 : (d.1 - a.1) * gm_dt a b b = (b.1 - a.1) * gm_dt a b d := by
        have z1 := z.2
        unfold gm_cr at z1; unfold gm_dt; grind
      have f4 : (d.2 - a.2) * gm_dt a b b = (b.2 - a.2) * gm_dt a b d := by
        have z1 := z.2
        unfold gm_cr at z1; unfold gm_dt; grind
      rw [ey] at f1 f2
      rw [ex] at f3 f4
      have key : ∀ u v w Q : Int, 0 < Q → v * Q = u * y → w * Q = u * x → (w ≤ 0 ∧ 0 ≤ v) ∨ (0 ≤ w ∧ v ≤ 0) := by
        intro u v w Q hQ e1 e2
        rcases Int.le_total 0 u with hu | hu
        · left
          have a1 := Int.mul_nonpos_of_nonneg_of_nonpos hu hx0
          have a2 := Int.mul_nonneg hu hy0
          constructor
          · exact Int.not_lt.mp (fun k => by have := Int.mul_pos k hQ; omega)
          · exact Int.not_lt.mp (fun k => by have := Int.mul_neg_of_neg_of_pos k hQ; omega)
        · right
          have a1 := Int.mul_nonneg_of_nonpos_of_nonpos hu hx0
          have a2 := Int.mul_nonpos_of_nonpos_of_nonneg hu hy0
          constructor
          · exact Int.not_lt.mp (fun k => by have := Int.mul_neg_of_neg_of_pos k hQ; omega)
          · exact Int.not_lt.mp (fun k => by have := Int.mul_pos k hQ; omega)
      have g1 := key _ _ _ _ hq f1 f3
      have g2 := key _ _ _ _ hq f2 f4
      exact ⟨hA, by omega, by omega⟩
    rcases kc with kc | kc <;> rcases kd with kd | kd
    · exact gm_sep_ahead (Int.le_of_lt hq) kc kd
    · exact absurd (hab' _ _ (by omega) (by omega) rfl rfl) h3
    · exact absurd (hba' _ _ (by omega) (by omega) rfl rfl) h3
    · exact gm_sep_beyond (Int.le_of_lt hq) kc kd
  · -- the lines meet in one point: an end is on the other line
    exfalso
    have hne : gm_cr a b c ≠ gm_cr a b d := by
      intro e
      omega
    rcases Int.lt_or_gt_of_ne hne with hlt | hgt
    · have hC : gm_cr a b c ≤ 0 := by omega
      have hD : 0 ≤ gm_cr a b d := by omega
      have hB : gm_cr c d b ≤ 0 := by omega
      have hA : 0 ≤ gm_cr c d a := by omega
      by_cases zA : gm_cr c d a = 0
      · exact h3 (gm_on_mid zA hC hD hlt)
      by_cases zB : gm_cr c d b = 0
      · have k := gm_on_mid (a := b) (b := a) (c := d) (d := c) (by rw [gm_cr_swap, zB]; rfl) (by rw [gm_cr_swap]; omega) (by rw [gm_cr_swap]; omega) (by rw [gm_cr_swap, gm_cr_swap a b c]; omega)
        exact h4 (gm_on_sw k)
      by_cases zC : gm_cr a b c = 0
      · have k := gm_on_mid (a := c) (b := d) (c := b) (d := a) (by rw [gm_cr_swap, zC]; rfl) (by omega) (by omega) (by omega)
        exact h1 (gm_on_sw k)
      by_cases zD : gm_cr a b d = 0
      · have k := gm_on_mid (a := d) (b := c) (c := a) (d := b) zD (by rw [gm_cr_swap]; omega) (by rw [gm_cr_swap]; omega) (by rw [gm_cr_swap, gm_cr_swap c d b]; omega)
        exact h2 k
      exact hx ⟨Int.mul_neg_of_neg_of_pos (by omega) (by omega), Int.mul_neg_of_pos_of_neg (by omega) (by omega)⟩
    · have hC : 0 ≤ gm_cr a b c := by omega
      have hD : gm_cr a b d ≤ 0 := by omega
      have hB : 0 ≤ gm_cr c d b := by omega
      have hA : gm_cr c d a ≤ 0 := by omega
      by_cases zA : gm_cr c d a = 0
      · have k := gm_on_mid (a := a) (b := b) (c := d) (d := c) (by rw [gm_cr_swap, zA]; rfl) hD hC (by omega)
        exact h3 (gm_on_sw k)
      by_cases zB : gm_cr c d b = 0
      · have k := gm_on_mid (a := b) (b := a) (c := c) (d := d) zB (by rw [gm_cr_swap]; omega) (by rw [gm_cr_swap]; omega) (by rw [gm_cr_swap, gm_cr_swap a b d]; omega)
        exact h4 k
      by_cases zC : gm_cr a b c = 0
      · have k := gm_on_mid (a := c) (b := d) (c := a) (d := b) zC (by omega) (by omega) (by omega)
        exact h1 k
      by_cases zD : gm_cr a b d = 0
      · have k := gm_on_mid (a := d) (b := c) (c := b) (d := a) (by rw [gm_cr_swap, zD]; rfl) (by rw [gm_cr_swap]; omega) (by rw [gm_cr_swap]; omega) (by rw [gm_cr_swap, gm_cr_swap c d a]; omega)
        exact h2 (gm_on_sw k)
      exact hx ⟨Int.mul_neg_of_pos_of_neg (by omega) (by omega), Int.mul_neg_of_neg_of_pos (by omega) (by omega)⟩
