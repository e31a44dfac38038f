/-! geometry 9: counting the points of the paper -/
def gm_pp (f : Pt → Int) : Int := gm_sum 16 (fun i => gm_sum 16 (fun j => f ((j : Int), (i : Int))))
def gm_paper (v : Pt) : Prop := 0 ≤ v.1 ∧ v.1 ≤ 15 ∧ 0 ≤ v.2 ∧ v.2 ≤ 15
theorem gm_pp_congr {f g : Pt → Int} (h : ∀ p, gm_paper p → f p = g p) : gm_pp f = gm_pp g :=
  gm_sum_congr (fun i hi => gm_sum_congr (fun j hj => h _ ⟨Int.natCast_nonneg j, by show (j : Int) ≤ 15; omega, Int.natCast_nonneg i, by show (i : Int) ≤ 15; omega⟩))
theorem gm_pp_add (f g : Pt → Int) : gm_pp (fun p => f p + g p) = gm_pp f + gm_pp g := by
  unfold gm_pp
  rw [← gm_sum_add]
  exact gm_sum_congr (fun i hi => gm_sum_add _ _ _)
theorem gm_pp_mul (c : Int) (f : Pt → Int) : gm_pp (fun p => c * f p) = c * gm_pp f := by
  unfold gm_pp
  rw [← gm_sum_mul]
  exact gm_sum_congr (fun i hi => gm_sum_mul _ _ _)
theorem gm_pp_zero {f : Pt → Int} (h : ∀ p, gm_paper p → f p = 0) : gm_pp f = 0 := by
  rw [gm_pp_congr (g := fun _ => 0) h]
  exact gm_sum_zero (fun i hi => gm_sum_zero (fun j hj => rfl))
theorem gm_pp_sum (n : Nat) (f : Nat → Pt → Int) : gm_pp (fun p => gm_sum n (fun k => f k p)) = gm_sum n (fun k => gm_pp (f k)) := by
  unfold gm_pp
  rw [gm_sum_swap n 16 (fun k i => gm_sum 16 (fun j => f k ((j : Int), (i : Int))))]
  refine gm_sum_congr (fun i hi => ?_)
  rw [gm_sum_swap n 16 (fun k j => f k ((j : Int), (i : Int)))]
theorem gm_pp_one {f : Pt → Int} {v : Pt} (hv : gm_paper v) (h : ∀ p, gm_paper p → p ≠ v → f p = 0) : gm_pp f = f v := by
  obtain ⟨h1, h2, h3, h4⟩ := hv
  have ei : ((v.2.toNat : Nat) : Int) = v.2 := Int.toNat_of_nonneg h3
  have ej : ((v.1.toNat : Nat) : Int) = v.1 := Int.toNat_of_nonneg h1
  unfold gm_pp
  rw [gm_sum_one (i := v.2.toNat) (by omega) (fun i hi hne => ?_), gm_sum_one (i := v.1.toNat) (by omega) (fun j hj hne => ?_)]
  · rw [ei, ej]
  · exact h _ ⟨Int.natCast_nonneg j, by show (j : Int) ≤ 15; omega, by rw [ei]; exact h3, by rw [ei]; exact h4⟩ (fun e => hne (by have : (j : Int) = v.1 := congrArg Prod.fst e; omega))
  · exact gm_sum_zero (fun j hj => h _ ⟨Int.natCast_nonneg j, by show (j : Int) ≤ 15; omega, Int.natCast_nonneg i, by show (i : Int) ≤ 15; omega⟩ (fun e => hne (by have : (i : Int) = v.2 := congrArg Prod.snd e; omega)))
theorem gm_sum_range {n s d : Nat} (h : s + d ≤ n) (g : Nat → Int) : gm_sum n (fun k => if s ≤ k ∧ k < s + d then g (k - s) else 0) = gm_sum d g := by
  induction n generalizing d with
  | zero =>
    rw [show d = 0 by omega]; rfl
  | succ n ih =>
    show gm_sum n _ + (if s ≤ n ∧ n < s + d then g (n - s) else 0) = _
    by_cases hd : s + d = n + 1
    · cases d with
      | zero =>
        rw [if_neg (by omega), gm_sum_zero (fun k hk => if_neg (by omega))]; rfl
      | succ d =>
        rw [if_pos (by omega), show n - s = d by omega]
        show _ + g d = gm_sum d g + g d
        rw [← ih (d := d) (by omega)]
        refine congrArg (· + g d) (gm_sum_congr (fun k hk => ?_))
        by_cases c : s ≤ k
        · rw [if_pos ⟨c, by omega⟩, if_pos ⟨c, by omega⟩]
        · rw [if_neg (by omega), if_neg (by omega)]
    · rw [if_neg (by omega), ih (d := d) (by omega)]; omega
set_option maxRecDepth 100000 in
theorem gm_tabA : ∀ d : Nat, d < 15 → ∀ N : Nat, N < 226 → N ≤ 15 * (d + 1) → gm_sum 16 (fun j => (if j * (d + 1) < N then (1 : Int) else 0) + (if j * (d + 1) ≤ N then 1 else 0)) = ((N / (d + 1) + (N + d) / (d + 1) + 1 : Nat) : Int) := by decide +kernel
set_option maxRecDepth 100000 in
theorem gm_tabB : ∀ d : Nat, d < 15 → ∀ e : Nat, e < 31 → gm_sum (d + 1) (fun t => (((e : Int) - 15) * t) / ((d : Int) + 1) + (((e : Int) - 15) * t + d) / ((d : Int) + 1)) = ((e : Int) - 15) * ((d : Int) + 1) - ((e : Int) - 15) := by decide +kernel
set_option maxRecDepth 100000 in
theorem gm_tabC : ∀ d : Nat, d < 15 → ∀ e : Nat, e < 31 → gm_sum (d + 1) (fun t => if (((e : Int) - 15) * t) % ((d : Int) + 1) = 0 then 1 else 0) = ((((e : Int) - 15).natAbs.gcd (d + 1) : Nat) : Int) := by decide +kernel
set_option maxRecDepth 100000 in
theorem gm_tabD : ∀ d : Nat, d < 15 → ∀ N : Nat, N < 226 → N ≤ 15 * (d + 1) → gm_sum 16 (fun j => if j * (d + 1) = N then (1 : Int) else 0) = (if N % (d + 1) = 0 then 1 else 0) := by decide +kernel
/-- a row of the paper over an upward side -/
theorem gm_row {a b : Pt} (ha : gm_paper a) (hb : gm_paper b) (hab : a.2 < b.2) {y : Int} (h1 : a.2 ≤ y) (h2 : y < b.2) :
    gm_sum 16 (fun j => gm_c ((j : Int), y) a b + gm_cw ((j : Int), y) a b) = 2 * a.1 + 1 + (((b.1 - a.1) * (y - a.2)) / (b.2 - a.2) + ((b.1 - a.1) * (y - a.2) + (b.2 - a.2 - 1)) / (b.2 - a.2)) ∧
    gm_sum 16 (fun j => if gm_cr a b ((j : Int), y) = 0 then 1 else 0) = (if ((b.1 - a.1) * (y - a.2)) % (b.2 - a.2) = 0 then (1 : Int) else 0) := by
  obtain ⟨a1, a2, a3, a4⟩ := ha
  obtain ⟨b1, b2, b3, b4⟩ := hb
  obtain ⟨d, hd⟩ : ∃ d : Nat, ((d : Int) + 1) = b.2 - a.2 := ⟨(b.2 - a.2 - 1).toNat, by rw [Int.toNat_of_nonneg (by omega)]; omega⟩
  have k1 : 0 ≤ a.1 * (b.2 - y) := Int.mul_nonneg a1 (by omega)
  have k2 : 0 ≤ b.1 * (y - a.2) := Int.mul_nonneg b1 (by omega)
  have k3 : a.1 * (b.2 - y) ≤ 15 * (b.2 - y) := Int.mul_le_mul_of_nonneg_right a2 (by omega)
  have k4 : b.1 * (y - a.2) ≤ 15 * (y - a.2) := Int.mul_le_mul_of_nonneg_right b2 (by omega)
  have kN : a.1 * (b.2 - a.2) + (b.1 - a.1) * (y - a.2) = a.1 * (b.2 - y) + b.1 * (y - a.2) := by grind
  obtain ⟨N, hN⟩ : ∃ N : Nat, (N : Int) = a.1 * (b.2 - a.2) + (b.1 - a.1) * (y - a.2) := ⟨(a.1 * (b.2 - a.2) + (b.1 - a.1) * (y - a.2)).toNat, Int.toNat_of_nonneg (by omega)⟩
  have hN15 : N ≤ 15 * (d + 1) := by omega
  have hcr : ∀ j : Nat, gm_cr a b ((j : Int), y) = (N : Int) - ((j * (d + 1) : Nat) : Int) := by
    intro j
    rw [hN]
    have : ((j * (d + 1) : Nat) : Int) = (j : Int) * (b.2 - a.2) := by rw [← hd]; push_cast; rfl
    rw [this]
    unfold gm_cr
    dsimp only
    grind
  constructor
  · have e := gm_tabA d (by omega) N (by omega) hN15
    have e2 : gm_sum 16 (fun j => gm_c ((j : Int), y) a b + gm_cw ((j : Int), y) a b) = gm_sum 16 (fun j => (if j * (d + 1) < N then (1 : Int) else 0) + (if j * (d + 1) ≤ N then 1 else 0)) := by
      refine gm_sum_congr (fun j hj => ?_)
      have h := hcr j
      generalize j * (d + 1) = m at h ⊢
      unfold gm_c gm_cw
      rw [h]
      dsimp only
      (repeat' split) <;> omega
    rw [e2, e]
    have f1 : (N : Int) / ((d : Int) + 1) = a.1 + ((b.1 - a.1) * (y - a.2)) / (b.2 - a.2) := by
      rw [hN, hd, Int.add_comm, Int.add_mul_ediv_right _ _ (by omega)]
      omega
    have f2 : ((N : Int) + d) / ((d : Int) + 1) = a.1 + ((b.1 - a.1) * (y - a.2) + (b.2 - a.2 - 1)) / (b.2 - a.2) := by
      have : (N : Int) + d = ((b.1 - a.1) * (y - a.2) + (b.2 - a.2 - 1)) + a.1 * (b.2 - a.2) := by omega
      rw [this, hd, Int.add_mul_ediv_right _ _ (by omega)]
      omega
    push_cast
    rw [f1, f2]
    omega
  · have e := gm_tabD d (by omega) N (by omega) hN15
    have e2 : gm_sum 16 (fun j => if gm_cr a b ((j : Int), y) = 0 then (1 : Int) else 0) = gm_sum 16 (fun j => if j * (d + 1) = N then (1 : Int) else 0) := by
      refine gm_sum_congr (fun j hj => ?_)
      have h := hcr j
      generalize j * (d + 1) = m at h ⊢
      rw [h]
      (repeat' split) <;> omega
    rw [e2, e]
    have f1 : ((N % (d + 1) : Nat) : Int) = ((b.1 - a.1) * (y - a.2)) % (b.2 - a.2) := by
      push_cast
      rw [hN, hd, Int.add_comm, Int.add_mul_emod_self_right]
    rw [← f1]
    (repeat' split) <;> omega
/-- the crossings of all points of the paper by an upward side -/
theorem gm_up {a b : Pt} (ha : gm_paper a) (hb : gm_paper b) (hab : a.2 < b.2) :
    gm_pp (fun p => gm_c p a b + gm_cw p a b) = (a.1 + b.1) * (b.2 - a.2) + (b.2 - a.2) - (b.1 - a.1) ∧
    gm_pp (fun p => if gm_cr a b p = 0 ∧ a.2 ≤ p.2 ∧ p.2 < b.2 then 1 else 0) = (((b.1 - a.1).natAbs.gcd (b.2 - a.2).natAbs : Nat) : Int) := by
  obtain ⟨d, hd⟩ : ∃ d : Nat, ((d : Int) + 1) = b.2 - a.2 := ⟨(b.2 - a.2 - 1).toNat, by rw [Int.toNat_of_nonneg (by omega)]; omega⟩
  obtain ⟨s, hs⟩ : ∃ s : Nat, (s : Int) = a.2 := ⟨a.2.toNat, Int.toNat_of_nonneg ha.2.2.1⟩
  obtain ⟨e, he⟩ : ∃ e : Nat, (e : Int) - 15 = b.1 - a.1 := ⟨(b.1 - a.1 + 15).toNat, by
    have h1 := ha.1; have h2 := ha.2.1; have h3 := hb.1; have h4 := hb.2.1
    rw [Int.toNat_of_nonneg (by omega)]; omega⟩
  have hb4 := hb.2.2.2
  have ha2 := ha.2.1
  have ha1 := ha.1
  have hb1 := hb.1
  have hb2 := hb.2.1
  constructor
  · have rows : gm_pp (fun p => gm_c p a b + gm_cw p a b) = gm_sum 16 (fun i => if s ≤ i ∧ i < s + (d + 1) then (fun t : Nat => 2 * a.1 + 1 + ((((e : Int) - 15) * (t : Int)) / ((d : Int) + 1) + (((e : Int) - 15) * (t : Int) + d) / ((d : Int) + 1))) (i - s) else 0) := by
      refine gm_sum_congr (fun i hi => ?_)
      by_cases c : s ≤ i ∧ i < s + (d + 1)
      · rw [if_pos c]
        have := (gm_row ha hb hab (y := (i : Int)) (by omega) (by omega)).1
        rw [this]
        dsimp only
        have : (((i - s : Nat)) : Int) = (i : Int) - a.2 := by omega
        rw [this, he, hd, show b.2 - a.2 - 1 = (d : Int) by omega]
      · rw [if_neg c]
        refine gm_sum_zero (fun j hj => ?_)
        unfold gm_c gm_cw
        dsimp only
        rw [if_neg (by omega), if_neg (by omega), if_neg (by omega), if_neg (by omega)]; rfl
    refine rows.trans ((gm_sum_range (n := 16) (s := s) (d := d + 1) (by omega) (fun t : Nat => 2 * a.1 + 1 + ((((e : Int) - 15) * (t : Int)) / ((d : Int) + 1) + (((e : Int) - 15) * (t : Int) + d) / ((d : Int) + 1)))).trans ?_)
    rw [gm_sum_add, gm_sum_const, gm_tabB d (by omega) e (by omega), he, hd]
    rw [show ((d + 1 : Nat) : Int) = b.2 - a.2 by omega]
    grind
  · have rows : gm_pp (fun p => if gm_cr a b p = 0 ∧ a.2 ≤ p.2 ∧ p.2 < b.2 then (1 : Int) else 0) = gm_sum 16 (fun i => if s ≤ i ∧ i < s + (d + 1) then (fun t : Nat => if (((e : Int) - 15) * (t : Int)) % ((d : Int) + 1) = 0 then (1 : Int) else 0) (i - s) else 0) := by
      refine gm_sum_congr (fun i hi => ?_)
      by_cases c : s ≤ i ∧ i < s + (d + 1)
      · rw [if_pos c]
        have := (gm_row ha hb hab (y := (i : Int)) (by omega) (by omega)).2
        dsimp only
        have e3 : (((i - s : Nat)) : Int) = (i : Int) - a.2 := by omega
        rw [e3, he, hd, ← this]
        refine gm_sum_congr (fun j hj => ?_)
        by_cases z : gm_cr a b ((j : Int), (i : Int)) = 0
        · rw [if_pos z, if_pos ⟨z, by omega, by omega⟩]
        · rw [if_neg z, if_neg (fun q => z q.1)]
      · rw [if_neg c]
        refine gm_sum_zero (fun j hj => if_neg (fun q => ?_))
        have q1 : a.2 ≤ (i : Int) := q.2.1
        have q2 : (i : Int) < b.2 := q.2.2
        omega
    refine rows.trans ((gm_sum_range (n := 16) (s := s) (d := d + 1) (by omega) (fun t : Nat => if (((e : Int) - 15) * (t : Int)) % ((d : Int) + 1) = 0 then (1 : Int) else 0)).trans ?_)
    rw [gm_tabC d (by omega) e (by omega), he]
    rw [show (b.2 - a.2).natAbs = d + 1 by omega]
theorem gm_c_swap (p a b : Pt) : gm_c p b a = - gm_c p a b := by
  have := gm_cr_swap a b p
  unfold gm_c
  rw [this]
  (repeat' split) <;> omega
theorem gm_cw_swap (p a b : Pt) : gm_cw p b a = - gm_cw p a b := by
  have := gm_cr_swap a b p
  unfold gm_cw
  rw [this]
  (repeat' split) <;> omega
/-- the crossings of all points of the paper by a side -/
theorem gm_pp_side {a b : Pt} (ha : gm_paper a) (hb : gm_paper b) :
    gm_pp (fun p => gm_c p a b + gm_cw p a b) = (a.1 + b.1) * (b.2 - a.2) + (b.2 - a.2) - (if a.2 = b.2 then 0 else b.1 - a.1) := by
  rcases Int.lt_trichotomy a.2 b.2 with h | h | h
  · rw [(gm_up ha hb h).1, if_neg (by omega)]
  · rw [if_pos h, gm_pp_zero (fun p hp => by
      unfold gm_c gm_cw
      rw [if_neg (by omega), if_neg (by omega), if_neg (by omega), if_neg (by omega)]; rfl)]
    rw [show b.2 - a.2 = 0 by omega, Int.mul_zero]; rfl
  · have e : gm_pp (fun p => gm_c p a b + gm_cw p a b) = gm_pp (fun p => (-1) * (gm_c p b a + gm_cw p b a)) := gm_pp_congr (fun p hp => by rw [gm_c_swap p a b, gm_cw_swap p a b]; omega)
    rw [e, gm_pp_mul, (gm_up hb ha h).1, if_neg (by omega)]
    grind
/-- on the side from a to b, but not at its beginning -/
def gm_one (a b p : Pt) : Int := if (gm_cr a b p = 0 ∧ ((a.1 ≤ p.1 ∧ p.1 ≤ b.1) ∨ (b.1 ≤ p.1 ∧ p.1 ≤ a.1)) ∧ ((a.2 ≤ p.2 ∧ p.2 ≤ b.2) ∨ (b.2 ≤ p.2 ∧ p.2 ≤ a.2))) ∧ p ≠ a then 1 else 0
theorem gm_one_iff {a b p : Pt} : gm_one a b p = 1 ↔ gm_on a b p ∧ p ≠ a := by
  unfold gm_one gm_on
  split
  · exact ⟨fun _ => by assumption, fun _ => rfl⟩
  · exact ⟨fun h => absurd h (by decide), fun h => absurd h (by assumption)⟩
theorem gm_one_01 (a b p : Pt) : gm_one a b p = 0 ∨ gm_one a b p = 1 := by
  unfold gm_one
  split <;> simp
theorem gm_eq_of {a b p : Pt} (h1 : a.2 ≠ b.2) (hc : gm_cr a b p = 0) : (p.2 = a.2 → p = a) ∧ (p.2 = b.2 → p = b) := by
  unfold gm_cr at hc
  constructor
  · intro e
    refine Prod.ext ?_ e
    rw [show p.2 - a.2 = 0 by omega, Int.mul_zero] at hc
    have : (b.2 - a.2) * (p.1 - a.1) = 0 := by omega
    rcases Int.mul_eq_zero.mp this with q | q <;> omega
  · intro e
    refine Prod.ext ?_ e
    rw [show p.2 - a.2 = b.2 - a.2 by omega] at hc
    have : (b.2 - a.2) * (b.1 - p.1) = 0 := by grind
    rcases Int.mul_eq_zero.mp this with q | q <;> omega
/-- the points of the paper on a side, its beginning left out -/
theorem gm_pp_one_side {a b : Pt} (ha : gm_paper a) (hb : gm_paper b) (hne : a ≠ b) : gm_pp (gm_one a b) = (((b.1 - a.1).natAbs.gcd (b.2 - a.2).natAbs : Nat) : Int) := by
  rcases Int.lt_trichotomy a.2 b.2 with h | h | h
  · -- upwards: as many as from the beginning on without the end
    have e : gm_pp (gm_one a b) = gm_pp (fun p => (if gm_cr a b p = 0 ∧ a.2 ≤ p.2 ∧ p.2 < b.2 then 1 else 0) + ((if p = b then 1 else 0) + (-1) * (if p = a then 1 else 0))) := by
      refine gm_pp_congr (fun p hp => ?_)
      have k1 : gm_cr a b p = 0 → _ := fun hc => gm_eq_of (a := a) (b := b) (p := p) (by omega) hc
      have k2 : a.2 ≤ p.2 ∧ p.2 < b.2 → gm_cr a b p = 0 → gm_on a b p := fun hr hc => gm_on_row hc (Or.inl hr)
      rcases gm_one_01 a b p with o | o
      · rw [o]
        have no : ¬ (gm_on a b p ∧ p ≠ a) := fun q => by rw [gm_one_iff.mpr q] at o; exact absurd o (by decide)
        by_cases pa : p = a
        · subst pa
          rw [if_pos ⟨gm_cr_a p b, by omega, h⟩, if_neg hne, if_pos rfl]; rfl
        · have nb : p ≠ b := fun q => no ⟨by rw [q]; exact ⟨gm_cr_b a b, by omega, by omega⟩, pa⟩
          rw [if_neg (fun q => no ⟨k2 q.2 q.1, pa⟩), if_neg nb, if_neg pa]; rfl
      · rw [o]
        obtain ⟨on, pa⟩ := gm_one_iff.mp o
        have r := on.2.2
        by_cases pb : p = b
        · subst pb
          rw [if_neg (by omega), if_pos rfl, if_neg pa]; rfl
        · have : p.2 ≠ b.2 := fun q => pb ((k1 on.1).2 q)
          rw [if_pos ⟨on.1, by omega, by omega⟩, if_neg pb, if_neg pa]; rfl
    have e1 : gm_pp (fun p => if p = b then (1 : Int) else 0) = 1 := by rw [gm_pp_one hb (fun p hp q => if_neg q), if_pos rfl]
    have e2 : gm_pp (fun p => if p = a then (1 : Int) else 0) = 1 := by rw [gm_pp_one ha (fun p hp q => if_neg q), if_pos rfl]
    rw [e, gm_pp_add, gm_pp_add, gm_pp_mul, e1, e2, (gm_up ha hb h).2]; omega
  · -- level
    have e1 : (b.2 - a.2).natAbs = 0 := by omega
    rw [e1, Nat.gcd_zero_right]
    have on : ∀ p : Pt, gm_one a b p = if p.2 = a.2 ∧ ((a.1 < p.1 ∧ p.1 ≤ b.1) ∨ (b.1 ≤ p.1 ∧ p.1 < a.1)) then 1 else 0 := by
      intro p
      have hc : gm_cr a b p = (b.1 - a.1) * (p.2 - a.2) := by unfold gm_cr; rw [show b.2 - a.2 = 0 by omega, Int.zero_mul]; omega
      have hpa : p = a ↔ p.1 = a.1 ∧ p.2 = a.2 := ⟨fun q => by rw [q]; exact ⟨rfl, rfl⟩, fun q => Prod.ext q.1 q.2⟩
      have hz : (b.1 - a.1) * (p.2 - a.2) = 0 ↔ (b.1 = a.1 ∨ p.2 = a.2) := by
        rw [Int.mul_eq_zero]; omega
      have hne' : b.1 ≠ a.1 := fun q => hne (Prod.ext q.symm h)
      unfold gm_one
      rw [hc]
      by_cases c : p.2 = a.2 ∧ ((a.1 < p.1 ∧ p.1 ≤ b.1) ∨ (b.1 ≤ p.1 ∧ p.1 < a.1))
      · rw [if_pos c, if_pos ⟨⟨hz.mpr (Or.inr c.1), by omega, by omega⟩, fun q => by have := hpa.mp q; omega⟩]
      · rw [if_neg c, if_neg (fun q => c ?_)]
        have q1 := hz.mp q.1.1
        have q2 := q.1.2.1
        have q3 : ¬ (p.1 = a.1 ∧ p.2 = a.2) := fun z => q.2 (hpa.mpr z)
        omega
    rw [gm_pp_congr (fun p hp => on p)]
    obtain ⟨a1, a2, a3, a4⟩ := ha
    obtain ⟨b1, b2, b3, b4⟩ := hb
    obtain ⟨y, hy⟩ : ∃ y : Nat, (y : Int) = a.2 := ⟨a.2.toNat, Int.toNat_of_nonneg a3⟩
    unfold gm_pp
    rw [gm_sum_one (i := y) (by omega) (fun i hi hne => gm_sum_zero (fun j hj => if_neg (fun q => hne (by have : (i : Int) = a.2 := q.1; omega))))]
    rcases Int.lt_or_gt_of_ne (show a.1 ≠ b.1 from fun q => hne (Prod.ext q h)) with k | k
    · obtain ⟨s, hs⟩ : ∃ s : Nat, (s : Int) = a.1 + 1 := ⟨(a.1 + 1).toNat, Int.toNat_of_nonneg (by omega)⟩
      obtain ⟨d, hd⟩ : ∃ d : Nat, (d : Int) = b.1 - a.1 := ⟨(b.1 - a.1).toNat, Int.toNat_of_nonneg (by omega)⟩
      refine (gm_sum_congr (g := fun j => if s ≤ j ∧ j < s + d then (fun _ => (1 : Int)) (j - s) else 0) (fun j hj => by
        dsimp only
        by_cases c : s ≤ j ∧ j < s + d
        · rw [if_pos c, if_pos (by omega)]
        · rw [if_neg c, if_neg (by omega)])).trans ((gm_sum_range (n := 16) (s := s) (d := d) (by omega) (fun _ => (1 : Int))).trans ?_)
      rw [gm_sum_const]
      omega
    · obtain ⟨s, hs⟩ : ∃ s : Nat, (s : Int) = b.1 := ⟨b.1.toNat, Int.toNat_of_nonneg b1⟩
      obtain ⟨d, hd⟩ : ∃ d : Nat, (d : Int) = a.1 - b.1 := ⟨(a.1 - b.1).toNat, Int.toNat_of_nonneg (by omega)⟩
      refine (gm_sum_congr (g := fun j => if s ≤ j ∧ j < s + d then (fun _ => (1 : Int)) (j - s) else 0) (fun j hj => by
        dsimp only
        by_cases c : s ≤ j ∧ j < s + d
        · rw [if_pos c, if_pos (by omega)]
        · rw [if_neg c, if_neg (by omega)])).trans ((gm_sum_range (n := 16) (s := s) (d := d) (by omega) (fun _ => (1 : Int))).trans ?_)
      rw [gm_sum_const]
      omega
  · -- downwards: from its end on, without the beginning
    have e : gm_pp (gm_one a b) = gm_pp (fun p => if gm_cr b a p = 0 ∧ b.2 ≤ p.2 ∧ p.2 < a.2 then 1 else 0) := by
      refine gm_pp_congr (fun p hp => ?_)
      have sw := gm_cr_swap a b p
      have k1 : gm_cr b a p = 0 → _ := fun hc => gm_eq_of (a := b) (b := a) (p := p) (by omega) hc
      rcases gm_one_01 a b p with o | o
      · rw [o]
        refine (if_neg (fun q => ?_)).symm
        have on := gm_on_row (a := a) (b := b) (p := p) (by omega) (Or.inr q.2)
        have : p ≠ a := fun z => by rw [z] at q; omega
        rw [gm_one_iff.mpr ⟨on, this⟩] at o
        exact absurd o (by decide)
      · rw [o]
        obtain ⟨on, pa⟩ := gm_one_iff.mp o
        have on1 := on.1
        have r := on.2.2
        have : p.2 ≠ a.2 := fun q => pa ((k1 (by omega)).2 q)
        exact (if_pos ⟨by omega, by omega, by omega⟩).symm
    rw [e, (gm_up hb ha h).2]
    rw [show (a.1 - b.1).natAbs = (b.1 - a.1).natAbs by omega, show (a.2 - b.2).natAbs = (b.2 - a.2).natAbs by omega]
