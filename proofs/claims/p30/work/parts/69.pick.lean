/-! geometry 10: the points inside a ring, by Pick -/
def gm_r (n : Nat) (P : Nat → Pt) (p : Pt) : Int := gm_sum n (fun k => gm_one (P k) (P (gm_nx n k)) p)
theorem gm_pre {n k : Nat} (h3 : 3 ≤ n) (hk : k < n) : ∃ i, i < n ∧ gm_nx n i = k := by
  by_cases e : k = 0
  · exact ⟨n - 1, by omega, by rw [e]; exact if_pos (by omega)⟩
  · exact ⟨k - 1, by omega, by rw [show gm_nx n (k - 1) = k - 1 + 1 from if_neg (by omega)]; omega⟩
theorem gm_side_ne {n : Nat} {P : Nat → Pt} (hs : gm_simple n P) {k : Nat} (hk : k < n) : P k ≠ P (gm_nx n k) := by
  intro e
  refine (gm_tn_ne (hs.2.1 k hk)).1 ⟨?_, ?_⟩
  · show (P (gm_nx n k)).1 - (P k).1 = 0; rw [← e]; omega
  · show (P (gm_nx n k)).2 - (P k).2 = 0; rw [← e]; omega
theorem gm_sep_not {a b c d z : Pt} (h : gm_sep a b c d) (h1 : gm_on a b z) (h2 : gm_on c d z) : False := by
  have k1 := gm_sep_sub h h2
  have k2 := gm_sep_sub (gm_sep_flip (gm_sep_sw2 (gm_sep_r (gm_sep_sw2 k1)))) h1
  obtain ⟨α, β, γ, q1, -, q3, -⟩ := k2
  omega
theorem gm_on_one {n : Nat} {P : Nat → Pt} (hs : gm_simple n P) {j k : Nat} (hj : j < n) (hk : k < n) {z : Pt} (h1 : gm_on (P j) (P (gm_nx n j)) z) (h2 : gm_on (P k) (P (gm_nx n k)) z) (g1 : z ≠ P j) (g2 : z ≠ P k) : j = k := by
  refine Classical.byContradiction (fun hne => ?_)
  have adj : ∀ i l, i < n → l < n → gm_nx n i = l → gm_on (P i) (P (gm_nx n i)) z → gm_on (P l) (P (gm_nx n l)) z → z ≠ P l → False := by
    intro i l hi hl e o1 o2 g
    have t := hs.2.1 i hi
    rw [e] at o1 t
    by_cases zb : z = P (gm_nx n l)
    · have q := gm_sep_tn (u := P i) (v := P l) (z := z) (z' := P (gm_nx n l)) (q := 1) (s := 1) (by omega) (by omega) (by rw [zb]) (by rw [zb]) (by have : gm_tn (gm_v (P i) (P (gm_nx n i))) (gm_v (P l) (P (gm_nx n l))) := t; rw [e] at this; exact this)
      exact gm_sep_not q o1 ⟨gm_cr_a _ _, by omega, by omega⟩
    · obtain ⟨-, -, s, Q, q1, q2, e1, e2, -, -⟩ := gm_along_z o2 g zb
      have q := gm_sep_tn (u := P i) (v := P l) (z := z) (z' := P (gm_nx n l)) (q := Q) (s := s) (by omega) (by omega) e1 e2 (by have : gm_tn (gm_v (P i) (P (gm_nx n i))) (gm_v (P l) (P (gm_nx n l))) := t; rw [e] at this; exact this)
      exact gm_sep_not q o1 ⟨gm_cr_a _ _, by omega, by omega⟩
  by_cases c1 : gm_nx n j = k
  · exact adj j k hj hk c1 h1 h2 g2
  by_cases c2 : gm_nx n k = j
  · exact adj k j hk hj c2 h2 h1 g1
  exact gm_sep_not (hs.2.2 j k hj hk hne c1 c2) h1 h2
theorem gm_on_end {a b : Pt} : gm_on a b b := ⟨gm_cr_b a b, by omega, by omega⟩
theorem gm_on_beg {a b : Pt} : gm_on a b a := ⟨gm_cr_a a b, by omega, by omega⟩
/-- on the ring: on just one side and not at its beginning -/
theorem gm_on_ex {n : Nat} {P : Nat → Pt} (hs : gm_simple n P) {p : Pt} (h : ∃ k, k < n ∧ gm_on (P k) (P (gm_nx n k)) p) : ∃ k, k < n ∧ gm_one (P k) (P (gm_nx n k)) p = 1 := by
  obtain ⟨k, hk, ho⟩ := h
  by_cases e : p = P k
  · obtain ⟨i, hi, hik⟩ := gm_pre hs.1 hk
    refine ⟨i, hi, gm_one_iff.mpr ?_⟩
    have ne := gm_side_ne hs hi
    rw [hik] at ne ⊢
    rw [e]
    exact ⟨gm_on_end, fun q => ne q.symm⟩
  · exact ⟨k, hk, gm_one_iff.mpr ⟨ho, e⟩⟩
theorem gm_one_sum {n : Nat} {P : Nat → Pt} (hs : gm_simple n P) {k : Nat} (hk : k < n) {p : Pt} (h : gm_one (P k) (P (gm_nx n k)) p = 1) : ∀ j, j < n → j ≠ k → gm_one (P j) (P (gm_nx n j)) p = 0 := by
  intro j hj hne
  rcases gm_one_01 (P j) (P (gm_nx n j)) p with o | o
  · exact o
  · obtain ⟨a1, a2⟩ := gm_one_iff.mp o
    obtain ⟨b1, b2⟩ := gm_one_iff.mp h
    exact absurd (gm_on_one hs hj hk a1 b1 a2 b2) hne
theorem gm_r_on {n : Nat} {P : Nat → Pt} (hs : gm_simple n P) {p : Pt} (h : ∃ k, k < n ∧ gm_on (P k) (P (gm_nx n k)) p) : gm_r n P p = 1 := by
  obtain ⟨k, hk, ho⟩ := gm_on_ex hs h
  unfold gm_r
  rw [gm_sum_one hk (gm_one_sum hs hk ho), ho]
theorem gm_r_off {n : Nat} {P : Nat → Pt} {p : Pt} (h : ∀ k, k < n → ¬ gm_on (P k) (P (gm_nx n k)) p) : gm_r n P p = 0 := by
  refine gm_sum_zero (fun k hk => ?_)
  rcases gm_one_01 (P k) (P (gm_nx n k)) p with o | o
  · exact o
  · exact absurd (gm_one_iff.mp o).1 (h k hk)
/-- 1 for a point inside the ring, off it -/
def gm_ins (n : Nat) (P : Nat → Pt) (p : Pt) : Int := if gm_r n P p = 0 ∧ gm_w n P p ≠ 0 then 1 else 0
/-- what a side and its end add at their points -/
def gm_F (n : Nat) (P : Nat → Pt) (k : Nat) : Int := 1 - 2 * gm_u (gm_d n P k) + (if (P k).2 < (P (gm_nx n k)).2 then 1 else 0) - (if (P (gm_nx n k)).2 < (P k).2 then 1 else 0)
def gm_G (n : Nat) (P : Nat → Pt) (k : Nat) : Int := (gm_u (gm_d n P k) - (if (P k).2 < (P (gm_nx n k)).2 then 1 else 0)) - (gm_u (gm_d n P (gm_nx n k)) - (if (P (gm_nx n k)).2 < (P (gm_nx n (gm_nx n k))).2 then 1 else 0)) - gm_t (gm_d n P k) (gm_d n P (gm_nx n k))
theorem gm_point {n : Nat} {P : Nat → Pt} (hs : gm_simple n P) (p : Pt) :
    gm_w n P p + gm_ww n P p = gm_sum n (fun k => gm_one (P k) (P (gm_nx n k)) p * (2 * gm_l n P 0 - 1 + gm_F n P k) + (if p = P (gm_nx n k) then gm_G n P k else 0)) + 2 * (2 * gm_l n P 0 - 1) * gm_ins n P p := by
  by_cases hon : ∃ k, k < n ∧ gm_on (P k) (P (gm_nx n k)) p
  · have hr := gm_r_on hs hon
    have hins : gm_ins n P p = 0 := if_neg (fun q => by omega)
    obtain ⟨k, hk, ho⟩ := gm_on_ex hs hon
    have hz := gm_one_sum hs hk ho
    rw [hins, Int.mul_zero, Int.add_zero]
    rw [gm_sum_one hk (fun j hj hne => by
      rw [hz j hj hne, Int.zero_mul, Int.zero_add]
      refine if_neg (fun q => ?_)
      have : gm_one (P j) (P (gm_nx n j)) p = 1 := gm_one_iff.mpr ⟨by rw [q]; exact gm_on_end, by rw [q]; exact fun z => gm_side_ne hs hj z.symm⟩
      rw [hz j hj hne] at this
      exact absurd this (by decide)), ho, Int.one_mul]
    obtain ⟨on, nb⟩ := gm_one_iff.mp ho
    by_cases e : p = P (gm_nx n k)
    · rw [if_pos e]
      have e1 := gm_corner_ww hs hk
      have e2 := gm_l_const hs k hk
      have x1 := gm_tn_x (hs.2.1 k hk)
      have u1 := gm_u_01 (gm_d n P k)
      have u2 := gm_u_01 (gm_d n P (gm_nx n k))
      rw [e]
      generalize gm_l n P 0 = K at e2 ⊢
      unfold gm_l at e2
      unfold gm_F gm_G gm_t
      rcases u1 with u1 | u1 <;> rcases u2 with u2 | u2 <;> rw [u1, u2] at e2 x1 ⊢ <;> simp at e2 x1 ⊢
      all_goals (repeat' split at e1) <;> (try (repeat' split at e2)) <;> (repeat' split) <;> omega
    · rw [if_neg e]
      obtain ⟨e1, e2⟩ := gm_inner hs hk on nb e
      unfold gm_F
      omega
  · have hoff : ∀ k, k < n → ¬ gm_on (P k) (P (gm_nx n k)) p := fun k hk q => hon ⟨k, hk, q⟩
    have hr := gm_r_off hoff
    have h0 : gm_sum n (fun k => gm_one (P k) (P (gm_nx n k)) p * (2 * gm_l n P 0 - 1 + gm_F n P k) + (if p = P (gm_nx n k) then gm_G n P k else 0)) = 0 := by
      refine gm_sum_zero (fun k hk => ?_)
      have o : gm_one (P k) (P (gm_nx n k)) p = 0 := by
        rcases gm_one_01 (P k) (P (gm_nx n k)) p with o | o
        · exact o
        · exact absurd (gm_one_iff.mp o).1 (hoff k hk)
      rw [o, Int.zero_mul, Int.zero_add]
      exact if_neg (fun q => hoff k hk (by rw [q]; exact gm_on_end))
    have hww : gm_ww n P p = gm_w n P p := by
      refine gm_sum_congr (fun k hk => ?_)
      have c1 : gm_cr (P k) (P (gm_nx n k)) p = 0 → ¬ (((P k).2 ≤ p.2 ∧ p.2 < (P (gm_nx n k)).2) ∨ ((P (gm_nx n k)).2 ≤ p.2 ∧ p.2 < (P k).2)) := fun q r => hoff k hk (gm_on_row q r)
      unfold gm_cw gm_c
      generalize gm_cr (P k) (P (gm_nx n k)) p = X at c1 ⊢
      (repeat' split) <;> omega
    rw [h0, hww]
    have ho := gm_off hs hoff
    have h1 := gm_l_01 hs
    unfold gm_ins
    rw [hr]
    by_cases w0 : gm_w n P p = 0
    · rw [if_neg (fun q => q.2 w0), w0]; omega
    · rw [if_pos ⟨rfl, w0⟩]; omega
/-- doubled sum and points on the border -/
def gm_ds (n : Nat) (P : Nat → Pt) : Int := gm_sum n (fun k => (P k).1 * (P (gm_nx n k)).2 - (P (gm_nx n k)).1 * (P k).2)
def gm_g (a b : Pt) : Int := (((b.1 - a.1).natAbs.gcd (b.2 - a.2).natAbs : Nat) : Int)
def gm_bd (n : Nat) (P : Nat → Pt) : Int := gm_sum n (fun k => gm_g (P k) (P (gm_nx n k)))
theorem gm_pick {n : Nat} {P : Nat → Pt} (hs : gm_simple n P) (hp : ∀ k, k < n → gm_paper (P k)) :
    gm_ds n P = (2 * gm_l n P 0 - 1) * (2 * gm_pp (gm_ins n P) + gm_bd n P - 2) := by
  have lhs : gm_pp (fun p => gm_w n P p + gm_ww n P p) = gm_sum n (fun k => ((P k).1 + (P (gm_nx n k)).1) * ((P (gm_nx n k)).2 - (P k).2) + ((P (gm_nx n k)).2 - (P k).2) - (if (P k).2 = (P (gm_nx n k)).2 then 0 else (P (gm_nx n k)).1 - (P k).1)) := by
    have e : gm_pp (fun p => gm_w n P p + gm_ww n P p) = gm_pp (fun p => gm_sum n (fun k => gm_c p (P k) (P (gm_nx n k)) + gm_cw p (P k) (P (gm_nx n k)))) := gm_pp_congr (fun p _ => by rw [gm_sum_add]; rfl)
    rw [e, gm_pp_sum]
    exact gm_sum_congr (fun k hk => gm_pp_side (hp k hk) (hp _ (gm_nx_lt hk)))
  have rhs : gm_pp (fun p => gm_w n P p + gm_ww n P p) = gm_sum n (fun k => gm_g (P k) (P (gm_nx n k)) * (2 * gm_l n P 0 - 1 + gm_F n P k) + gm_G n P k) + 2 * (2 * gm_l n P 0 - 1) * gm_pp (gm_ins n P) := by
    rw [gm_pp_congr (fun p _ => gm_point hs p), gm_pp_add, gm_pp_mul, gm_pp_sum]
    refine congrArg (· + _) (gm_sum_congr (fun k hk => ?_))
    rw [gm_pp_add]
    have e1 : gm_pp (fun p => gm_one (P k) (P (gm_nx n k)) p * (2 * gm_l n P 0 - 1 + gm_F n P k)) = gm_g (P k) (P (gm_nx n k)) * (2 * gm_l n P 0 - 1 + gm_F n P k) := by
      rw [gm_pp_congr (g := fun p => (2 * gm_l n P 0 - 1 + gm_F n P k) * gm_one (P k) (P (gm_nx n k)) p) (fun p _ => Int.mul_comm _ _), gm_pp_mul, gm_pp_one_side (hp k hk) (hp _ (gm_nx_lt hk)) (gm_side_ne hs hk)]
      exact Int.mul_comm _ _
    have e2 : gm_pp (fun p => if p = P (gm_nx n k) then gm_G n P k else 0) = gm_G n P k := by
      rw [gm_pp_one (hp _ (gm_nx_lt hk)) (fun p _ q => if_neg q), if_pos rfl]
    rw [e1, e2]
  have fg : ∀ k, k < n → gm_g (P k) (P (gm_nx n k)) * gm_F n P k = if (P k).2 = (P (gm_nx n k)).2 then (P (gm_nx n k)).1 - (P k).1 else 0 := by
    intro k hk
    have ne := gm_side_ne hs hk
    have hu := gm_u_iff (gm_d n P k)
    have hu0 := gm_u_01 (gm_d n P k)
    have d1 : (gm_d n P k).1 = (P (gm_nx n k)).1 - (P k).1 := rfl
    have d2 : (gm_d n P k).2 = (P (gm_nx n k)).2 - (P k).2 := rfl
    rw [d1, d2] at hu
    by_cases e : (P k).2 = (P (gm_nx n k)).2
    · rw [if_pos e]
      have hg : gm_g (P k) (P (gm_nx n k)) = (((P (gm_nx n k)).1 - (P k).1).natAbs : Int) := by
        unfold gm_g
        rw [show ((P (gm_nx n k)).2 - (P k).2).natAbs = 0 by omega, Nat.gcd_zero_right]
      rw [hg]
      unfold gm_F
      rw [if_neg (by omega), if_neg (by omega)]
      rcases hu0 with q | q
      · rw [q]; omega
      · rw [q]; omega
    · rw [if_neg e]
      have : gm_F n P k = 0 := by
        unfold gm_F
        (repeat' split) <;> omega
      rw [this, Int.mul_zero]
  have sG : gm_sum n (fun k => gm_G n P k) = -(2 * (2 * gm_l n P 0 - 1)) := by
    unfold gm_G
    rw [gm_sum_sub, gm_umlauf hs, gm_sum_sub]
    have := gm_sum_nx n (fun k => gm_u (gm_d n P k) - (if (P k).2 < (P (gm_nx n k)).2 then 1 else 0))
    rw [this]; omega
  have rhs2 : gm_sum n (fun k => gm_g (P k) (P (gm_nx n k)) * (2 * gm_l n P 0 - 1 + gm_F n P k) + gm_G n P k) = (2 * gm_l n P 0 - 1) * gm_bd n P + gm_sum n (fun k => if (P k).2 = (P (gm_nx n k)).2 then (P (gm_nx n k)).1 - (P k).1 else 0) - 2 * (2 * gm_l n P 0 - 1) := by
    rw [gm_sum_add, sG]
    unfold gm_bd
    rw [← gm_sum_mul, ← gm_sum_add]
    rw [gm_sum_congr (g := fun k => (2 * gm_l n P 0 - 1) * gm_g (P k) (P (gm_nx n k)) + (if (P k).2 = (P (gm_nx n k)).2 then (P (gm_nx n k)).1 - (P k).1 else 0)) (fun k hk => by
      rw [Int.mul_add, fg k hk, Int.mul_comm])]
    omega
  have lhs2 : gm_sum n (fun k => ((P k).1 + (P (gm_nx n k)).1) * ((P (gm_nx n k)).2 - (P k).2) + ((P (gm_nx n k)).2 - (P k).2) - (if (P k).2 = (P (gm_nx n k)).2 then 0 else (P (gm_nx n k)).1 - (P k).1)) = gm_ds n P + gm_sum n (fun k => if (P k).2 = (P (gm_nx n k)).2 then (P (gm_nx n k)).1 - (P k).1 else 0) := by
    unfold gm_ds
    have z1 := gm_sum_nx n (fun k => (P k).1 * (P k).2 + (P k).2 - (P k).1)
    have z2 : gm_sum n (fun k => ((P (gm_nx n k)).1 * (P (gm_nx n k)).2 + (P (gm_nx n k)).2 - (P (gm_nx n k)).1) - ((P k).1 * (P k).2 + (P k).2 - (P k).1)) = 0 := by
      rw [gm_sum_sub]; omega
    rw [← gm_sum_add, ← Int.add_zero (gm_sum n (fun k => _ + _)), ← z2, ← gm_sum_add]
    refine gm_sum_congr (fun k hk => ?_)
    split <;> grind
  rw [lhs2] at lhs
  rw [rhs2] at rhs
  rw [lhs] at rhs
  grind
