/-! geometry 4: how often a ring goes around; the number at the left hand of each side is the same -/
def gm_I (p q a b : Pt) : Int := gm_c p a b - gm_c q a b - (gm_h p q b - gm_h p q a)
def gm_b (c : Prop) [Decidable c] : Int := if c then 1 else 0
/-- the side (u, v) ahead of the way from v to z -/
theorem gm_cc1u {u v z : Pt} (hu : gm_u (gm_v v z) = 1) (ht : gm_tn (gm_v u v) (gm_v v z)) : gm_I v z u v = if gm_u (gm_v u v) = 0 ∧ gm_x (gm_v u v) (gm_v v z) < 0 then 1 else 0 := by
  have h0 : (v.2 < z.2 ∨ (v.2 = z.2 ∧ z.1 < v.1)) := by
    rcases (gm_u_iff _).mp hu with k | k
    · left; have k : 0 < z.2 - v.2 := k; omega
    · right; have k : z.2 - v.2 = 0 ∧ z.1 - v.1 < 0 := k; omega
  have e1 : gm_cr u v v = 0 := gm_cr_b u v
  have e2 : gm_cr u v z = gm_x (gm_v u v) (gm_v v z) := by unfold gm_cr gm_x gm_v; grind
  have e3 : gm_cr v z v = 0 := gm_cr_a v z
  have e4 : gm_cr v z u = gm_x (gm_v u v) (gm_v v z) := by unfold gm_cr gm_x gm_v; grind
  have hd := gm_u_iff0 (gm_v u v)
  have hd1 : (gm_v u v).1 = v.1 - u.1 := rfl
  have hd2 : (gm_v u v).2 = v.2 - u.2 := rfl
  have hx : gm_x (gm_v u v) (gm_v v z) = (v.1 - u.1) * (z.2 - v.2) - (v.2 - u.2) * (z.1 - v.1) := rfl
  have n1 : v.2 = u.2 → 0 ≤ v.1 - u.1 → 0 ≤ gm_x (gm_v u v) (gm_v v z) := by
    intro a b
    have := Int.mul_nonneg b (show (0 : Int) ≤ z.2 - v.2 by omega)
    rw [hx, show v.2 - u.2 = 0 by omega, Int.zero_mul]
    omega
  unfold gm_I gm_c gm_h
  rw [e1, e2, e3, e4]
  rw [hd1, hd2] at hd
  clear e1 e2 e3 e4 hx ht hu
  generalize gm_x (gm_v u v) (gm_v v z) = X at n1 ⊢
  generalize gm_u (gm_v u v) = U at hd ⊢
  (repeat' split) <;> omega
theorem gm_cc1d {u v z : Pt} (hu : gm_u (gm_v v z) = 0) (ht : gm_tn (gm_v u v) (gm_v v z)) : gm_I z v u v = if gm_u (gm_v u v) = 1 ∧ 0 < gm_x (gm_v u v) (gm_v v z) then 1 else 0 := by
  have h0 : (z.2 < v.2 ∨ (v.2 = z.2 ∧ v.1 ≤ z.1)) := by
    rcases (gm_u_iff0 _).mp hu with k | k
    · left; have k : z.2 - v.2 < 0 := k; omega
    · right; have k : z.2 - v.2 = 0 ∧ 0 ≤ z.1 - v.1 := k; omega
  have e1 : gm_cr u v v = 0 := gm_cr_b u v
  have e2 : gm_cr u v z = gm_x (gm_v u v) (gm_v v z) := by unfold gm_cr gm_x gm_v; grind
  have e3 : gm_cr z v v = 0 := gm_cr_b z v
  have e4 : gm_cr z v u = - gm_x (gm_v u v) (gm_v v z) := by unfold gm_cr gm_x gm_v; grind
  have hd := gm_u_iff (gm_v u v)
  have hd1 : (gm_v u v).1 = v.1 - u.1 := rfl
  have hd2 : (gm_v u v).2 = v.2 - u.2 := rfl
  have hx : gm_x (gm_v u v) (gm_v v z) = (v.1 - u.1) * (z.2 - v.2) - (v.2 - u.2) * (z.1 - v.1) := rfl
  have n1 : v.2 = u.2 → 0 ≤ v.1 - u.1 → gm_x (gm_v u v) (gm_v v z) ≤ 0 := by
    intro a b
    have := Int.mul_nonpos_of_nonneg_of_nonpos b (show z.2 - v.2 ≤ 0 by omega)
    rw [hx, show v.2 - u.2 = 0 by omega, Int.zero_mul]
    omega
  have n2 : v.2 = z.2 → v.2 < u.2 → 0 ≤ gm_x (gm_v u v) (gm_v v z) := by
    intro a b
    have := Int.mul_nonpos_of_nonpos_of_nonneg (show v.2 - u.2 ≤ 0 by omega) (show (0 : Int) ≤ z.1 - v.1 by omega)
    rw [hx, show z.2 - v.2 = 0 by omega, Int.mul_zero]
    omega
  have n3 : v.2 = z.2 → u.2 ≤ v.2 → gm_x (gm_v u v) (gm_v v z) ≤ 0 := by
    intro a b
    have := Int.mul_nonneg (show (0 : Int) ≤ v.2 - u.2 by omega) (show (0 : Int) ≤ z.1 - v.1 by omega)
    rw [hx, show z.2 - v.2 = 0 by omega, Int.mul_zero]
    omega
  unfold gm_I gm_c gm_h
  rw [e1, e2, e3, e4]
  rw [hd1, hd2] at hd
  clear e1 e2 e3 e4 hx ht hu
  generalize gm_x (gm_v u v) (gm_v v z) = X at n1 n2 n3 ⊢
  generalize gm_u (gm_v u v) = U at hd ⊢
  (repeat' split) <;> omega
/-- the side (v, t) behind the way from z to v -/
theorem gm_cc2u {z v t : Pt} (hu : gm_u (gm_v z v) = 1) (ht : gm_tn (gm_v z v) (gm_v v t)) : gm_I z v v t = if gm_u (gm_v v t) = 0 ∧ gm_x (gm_v z v) (gm_v v t) < 0 then -1 else 0 := by
  have h0 : (z.2 < v.2 ∨ (v.2 = z.2 ∧ v.1 < z.1)) := by
    rcases (gm_u_iff _).mp hu with k | k
    · left; have k : 0 < v.2 - z.2 := k; omega
    · right; have k : v.2 - z.2 = 0 ∧ v.1 - z.1 < 0 := k; omega
  have e1 : gm_cr v t v = 0 := gm_cr_a v t
  have e2 : gm_cr v t z = gm_x (gm_v z v) (gm_v v t) := by unfold gm_cr gm_x gm_v; grind
  have e3 : gm_cr z v v = 0 := gm_cr_b z v
  have e4 : gm_cr z v t = gm_x (gm_v z v) (gm_v v t) := by unfold gm_cr gm_x gm_v; grind
  have hd := gm_u_iff0 (gm_v v t)
  have hd1 : (gm_v v t).1 = t.1 - v.1 := rfl
  have hd2 : (gm_v v t).2 = t.2 - v.2 := rfl
  have hx : gm_x (gm_v z v) (gm_v v t) = (v.1 - z.1) * (t.2 - v.2) - (v.2 - z.2) * (t.1 - v.1) := rfl
  have n1 : v.2 = z.2 → v.2 ≤ t.2 → gm_x (gm_v z v) (gm_v v t) ≤ 0 := by
    intro a b
    have := Int.mul_nonpos_of_nonpos_of_nonneg (show v.1 - z.1 ≤ 0 by omega) (show (0 : Int) ≤ t.2 - v.2 by omega)
    rw [hx, show v.2 - z.2 = 0 by omega, Int.zero_mul]
    omega
  have n2 : v.2 = z.2 → t.2 ≤ v.2 → 0 ≤ gm_x (gm_v z v) (gm_v v t) := by
    intro a b
    have := Int.mul_nonneg_of_nonpos_of_nonpos (show v.1 - z.1 ≤ 0 by omega) (show t.2 - v.2 ≤ 0 by omega)
    rw [hx, show v.2 - z.2 = 0 by omega, Int.zero_mul]
    omega
  have n4 : v.2 = t.2 → t.1 - v.1 < 0 → z.2 ≤ v.2 → 0 ≤ gm_x (gm_v z v) (gm_v v t) := by
    intro a b c
    have := Int.mul_nonpos_of_nonneg_of_nonpos (show (0 : Int) ≤ v.2 - z.2 by omega) (show t.1 - v.1 ≤ 0 by omega)
    rw [hx, show t.2 - v.2 = 0 by omega, Int.mul_zero]
    omega
  unfold gm_I gm_c gm_h
  rw [e1, e2, e3, e4]
  rw [hd1, hd2] at hd
  clear e1 e2 e3 e4 hx ht hu
  generalize gm_x (gm_v z v) (gm_v v t) = X at n1 n2 n4 ⊢
  generalize gm_u (gm_v v t) = U at hd ⊢
  (repeat' split) <;> omega
theorem gm_cc2d {z v t : Pt} (hu : gm_u (gm_v z v) = 0) (ht : gm_tn (gm_v z v) (gm_v v t)) : gm_I v z v t = if gm_u (gm_v v t) = 1 ∧ 0 < gm_x (gm_v z v) (gm_v v t) then -1 else 0 := by
  have h0 : (v.2 < z.2 ∨ (v.2 = z.2 ∧ z.1 ≤ v.1)) := by
    rcases (gm_u_iff0 _).mp hu with k | k
    · left; have k : v.2 - z.2 < 0 := k; omega
    · right; have k : v.2 - z.2 = 0 ∧ 0 ≤ v.1 - z.1 := k; omega
  have e1 : gm_cr v t v = 0 := gm_cr_a v t
  have e2 : gm_cr v t z = gm_x (gm_v z v) (gm_v v t) := by unfold gm_cr gm_x gm_v; grind
  have e3 : gm_cr v z v = 0 := gm_cr_a v z
  have e4 : gm_cr v z t = - gm_x (gm_v z v) (gm_v v t) := by unfold gm_cr gm_x gm_v; grind
  have hd := gm_u_iff (gm_v v t)
  have hd1 : (gm_v v t).1 = t.1 - v.1 := rfl
  have hd2 : (gm_v v t).2 = t.2 - v.2 := rfl
  have hx : gm_x (gm_v z v) (gm_v v t) = (v.1 - z.1) * (t.2 - v.2) - (v.2 - z.2) * (t.1 - v.1) := rfl
  have n1 : v.2 = z.2 → v.2 ≤ t.2 → 0 ≤ gm_x (gm_v z v) (gm_v v t) := by
    intro a b
    have := Int.mul_nonneg (show (0 : Int) ≤ v.1 - z.1 by omega) (show (0 : Int) ≤ t.2 - v.2 by omega)
    rw [hx, show v.2 - z.2 = 0 by omega, Int.zero_mul]
    omega
  have n2 : v.2 = z.2 → t.2 ≤ v.2 → gm_x (gm_v z v) (gm_v v t) ≤ 0 := by
    intro a b
    have := Int.mul_nonpos_of_nonneg_of_nonpos (show (0 : Int) ≤ v.1 - z.1 by omega) (show t.2 - v.2 ≤ 0 by omega)
    rw [hx, show v.2 - z.2 = 0 by omega, Int.zero_mul]
    omega
  have n3 : v.2 = t.2 → t.1 - v.1 < 0 → gm_x (gm_v z v) (gm_v v t) ≤ 0 := by
    intro a b
    have := Int.mul_nonneg_of_nonpos_of_nonpos (show v.2 - z.2 ≤ 0 by omega) (show t.1 - v.1 ≤ 0 by omega)
    rw [hx, show t.2 - v.2 = 0 by omega, Int.mul_zero]
    omega
  unfold gm_I gm_c gm_h
  rw [e1, e2, e3, e4]
  rw [hd1, hd2] at hd
  clear e1 e2 e3 e4 hx ht hu
  generalize gm_x (gm_v z v) (gm_v v t) = X at n1 n2 n3 ⊢
  generalize gm_u (gm_v v t) = U at hd ⊢
  (repeat' split) <;> omega

/-- the winding of the ring P of n corners around p -/
def gm_w (n : Nat) (P : Nat → Pt) (p : Pt) : Int := gm_sum n (fun k => gm_c p (P k) (P (gm_nx n k)))
def gm_d (n : Nat) (P : Nat → Pt) (k : Nat) : Pt := gm_v (P k) (P (gm_nx n k))
/-- a ring of sides that meet at common corners alone, and don't turn back -/
def gm_simple (n : Nat) (P : Nat → Pt) : Prop := 3 ≤ n ∧ (∀ k, k < n → gm_tn (gm_d n P k) (gm_d n P (gm_nx n k))) ∧
  (∀ j k, j < n → k < n → j ≠ k → gm_nx n j ≠ k → gm_nx n k ≠ j → gm_sep (P j) (P (gm_nx n j)) (P k) (P (gm_nx n k)))
theorem gm_sum_two {n i j : Nat} {f : Nat → Int} (hi : i < n) (hj : j < n) (hij : i ≠ j) (h : ∀ k, k < n → k ≠ i → k ≠ j → f k = 0) : gm_sum n f = f i + f j := by
  have e : gm_sum n f = gm_sum n (fun k => if k = i then f i else 0) + gm_sum n (fun k => if k = j then f j else 0) := by
    rw [← gm_sum_add]
    refine gm_sum_congr (fun k hk => ?_)
    by_cases k1 : k = i
    · rw [if_pos k1, if_neg (by omega), k1]; omega
    · by_cases k2 : k = j
      · rw [if_neg k1, if_pos k2, k2]; omega
      · rw [if_neg k1, if_neg k2, h k hk k1 k2]; rfl
  rw [e, gm_sum_one hi (fun k hk hne => if_neg hne), gm_sum_one hj (fun k hk hne => if_neg hne), if_pos rfl, if_pos rfl]
/-- the sum over the sides tells how the windings around p and q differ -/
theorem gm_w_diff (n : Nat) (P : Nat → Pt) (p q : Pt) : gm_w n P p - gm_w n P q = gm_sum n (fun k => gm_I p q (P k) (P (gm_nx n k))) := by
  have e : gm_sum n (fun k => gm_I p q (P k) (P (gm_nx n k))) = (gm_w n P p - gm_w n P q) - (gm_sum n (fun k => gm_h p q (P (gm_nx n k))) - gm_sum n (fun k => gm_h p q (P k))) := by
    unfold gm_w
    rw [← gm_sum_sub, ← gm_sum_sub, ← gm_sum_sub]
    exact gm_sum_congr (fun k hk => rfl)
  rw [e, gm_sum_nx n (fun k => gm_h p q (P k))]
  omega
/-- p and q on the side itself -/
theorem gm_I_self {p q a b : Pt} (h1 : gm_cr a b p = 0) (h2 : gm_cr a b q = 0) (h3 : gm_cr p q a = 0) (h4 : gm_cr p q b = 0) : gm_I p q a b = 0 := by
  unfold gm_I gm_c gm_h
  rw [h1, h2, h3, h4]
  (repeat' split) <;> omega
theorem gm_I_sep {p q a b : Pt} (hpq : p.2 ≤ q.2) (hs : gm_sep a b p q) : gm_I p q a b = 0 := by
  have := gm_edge hpq hs
  unfold gm_I
  omega
/-- the line from p to q meets no side: the same winding -/
theorem gm_w_same {n : Nat} {P : Nat → Pt} {p q : Pt} (h : ∀ k, k < n → gm_sep (P k) (P (gm_nx n k)) p q) : gm_w n P p = gm_w n P q := by
  rcases Int.le_total p.2 q.2 with k | k
  · have := gm_w_diff n P p q
    rw [gm_sum_zero (fun j hj => gm_I_sep k (h j hj))] at this
    omega
  · have := gm_w_diff n P q p
    rw [gm_sum_zero (fun j hj => gm_I_sep k (gm_sep_sw2 (h j hj)))] at this
    omega
/-- the number at the left hand, told at the end of the side k -/
def gm_l (n : Nat) (P : Nat → Pt) (k : Nat) : Int := gm_w n P (P (gm_nx n k)) + gm_u (gm_d n P k) +
  (if gm_u (gm_d n P k) = 1 ∧ gm_u (gm_d n P (gm_nx n k)) = 0 ∧ gm_x (gm_d n P k) (gm_d n P (gm_nx n k)) < 0 then -1
   else if gm_u (gm_d n P k) = 0 ∧ gm_u (gm_d n P (gm_nx n k)) = 1 ∧ 0 < gm_x (gm_d n P k) (gm_d n P (gm_nx n k)) then 1 else 0)
theorem gm_nx_ne {n k : Nat} (h3 : 3 ≤ n) (hk : k < n) : gm_nx n k ≠ k ∧ gm_nx n (gm_nx n k) ≠ k ∧ gm_nx n (gm_nx n k) ≠ gm_nx n k := by
  unfold gm_nx
  (repeat' split) <;> omega
theorem gm_l_step {n : Nat} {P : Nat → Pt} (hs : gm_simple n P) {k : Nat} (hk : k < n) : gm_l n P k = gm_l n P (gm_nx n k) := by
  obtain ⟨h3, ht, hsep⟩ := hs
  have hi := gm_nx_lt hk
  have hm := gm_nx_lt hi
  obtain ⟨n1, n2, n3⟩ := gm_nx_ne h3 hk
  obtain ⟨-, n4, -⟩ := gm_nx_ne h3 hi
  have t1 := ht k hk
  have t2 := ht (gm_nx n k) hi
  have x1 := gm_tn_x t1
  have x2 := gm_tn_x t2
  have other : ∀ j, j < n → j ≠ k → j ≠ gm_nx n (gm_nx n k) → j ≠ gm_nx n k → gm_sep (P j) (P (gm_nx n j)) (P (gm_nx n k)) (P (gm_nx n (gm_nx n k))) := fun j hj a b c =>
    hsep j (gm_nx n k) hj hi c (fun e => a (gm_nx_inj hj hk e)) (fun e => b e.symm)
  unfold gm_l
  rcases gm_u_01 (gm_d n P (gm_nx n k)) with hu | hu
  · -- downwards
    have hle : (P (gm_nx n (gm_nx n k))).2 ≤ (P (gm_nx n k)).2 := by
      rcases (gm_u_iff0 _).mp hu with q | q
      · have q : (P (gm_nx n (gm_nx n k))).2 - (P (gm_nx n k)).2 < 0 := q
        omega
      · have q : (P (gm_nx n (gm_nx n k))).2 - (P (gm_nx n k)).2 = 0 ∧ _ := q
        omega
    have e := gm_w_diff n P (P (gm_nx n (gm_nx n k))) (P (gm_nx n k))
    rw [gm_sum_two hk hm (fun e => n2 e.symm) (fun j hj a b => by
      by_cases c : j = gm_nx n k
      · rw [c]
        exact gm_I_self (gm_cr_b _ _) (gm_cr_a _ _) (gm_cr_b _ _) (gm_cr_a _ _)
      · exact gm_I_sep hle (gm_sep_sw2 (other j hj a b c)))] at e
    have c1 := gm_cc1d (u := P k) (v := P (gm_nx n k)) (z := P (gm_nx n (gm_nx n k))) hu t1
    have c2 := gm_cc2d (z := P (gm_nx n k)) (v := P (gm_nx n (gm_nx n k))) (t := P (gm_nx n (gm_nx n (gm_nx n k)))) hu t2
    rw [c1, c2] at e
    clear c1 c2 other ht hsep
    have u1 := gm_u_01 (gm_d n P k)
    have u2 := gm_u_01 (gm_d n P (gm_nx n (gm_nx n k)))
    change gm_w n P (P (gm_nx n (gm_nx n k))) - gm_w n P (P (gm_nx n k)) = (if gm_u (gm_d n P k) = 1 ∧ 0 < gm_x (gm_d n P k) (gm_d n P (gm_nx n k)) then 1 else 0) + (if gm_u (gm_d n P (gm_nx n (gm_nx n k))) = 1 ∧ 0 < gm_x (gm_d n P (gm_nx n k)) (gm_d n P (gm_nx n (gm_nx n k))) then -1 else 0) at e
    generalize gm_w n P (P (gm_nx n (gm_nx n k))) = w2 at e ⊢
    generalize gm_w n P (P (gm_nx n k)) = w1 at e ⊢
    generalize gm_x (gm_d n P k) (gm_d n P (gm_nx n k)) = X1 at e x1 ⊢
    generalize gm_x (gm_d n P (gm_nx n k)) (gm_d n P (gm_nx n (gm_nx n k))) = X2 at e x2 ⊢
    generalize gm_u (gm_d n P k) = U1 at e u1 x1 ⊢
    generalize gm_u (gm_d n P (gm_nx n (gm_nx n k))) = U3 at e u2 x2 ⊢
    generalize gm_u (gm_d n P (gm_nx n k)) = U2 at hu x1 x2 ⊢
    subst hu
    rcases u1 with u1 | u1 <;> rcases u2 with u2 | u2 <;> subst u1 <;> subst u2 <;> simp at e x1 x2 ⊢
    all_goals (try (split at e)) <;> (try (split at e)) <;> (repeat' split) <;> omega
  · have hle : (P (gm_nx n k)).2 ≤ (P (gm_nx n (gm_nx n k))).2 := by
      rcases (gm_u_iff _).mp hu with q | q
      · have q : 0 < (P (gm_nx n (gm_nx n k))).2 - (P (gm_nx n k)).2 := q
        omega
      · have q : (P (gm_nx n (gm_nx n k))).2 - (P (gm_nx n k)).2 = 0 ∧ _ := q
        omega
    have e := gm_w_diff n P (P (gm_nx n k)) (P (gm_nx n (gm_nx n k)))
    rw [gm_sum_two hk hm (fun e => n2 e.symm) (fun j hj a b => by
      by_cases c : j = gm_nx n k
      · rw [c]
        exact gm_I_self (gm_cr_a _ _) (gm_cr_b _ _) (gm_cr_a _ _) (gm_cr_b _ _)
      · exact gm_I_sep hle (other j hj a b c))] at e
    have c1 := gm_cc1u (u := P k) (v := P (gm_nx n k)) (z := P (gm_nx n (gm_nx n k))) hu t1
    have c2 := gm_cc2u (z := P (gm_nx n k)) (v := P (gm_nx n (gm_nx n k))) (t := P (gm_nx n (gm_nx n (gm_nx n k)))) hu t2
    rw [c1, c2] at e
    clear c1 c2 other ht hsep
    have u1 := gm_u_01 (gm_d n P k)
    have u2 := gm_u_01 (gm_d n P (gm_nx n (gm_nx n k)))
    change gm_w n P (P (gm_nx n k)) - gm_w n P (P (gm_nx n (gm_nx n k))) = (if gm_u (gm_d n P k) = 0 ∧ gm_x (gm_d n P k) (gm_d n P (gm_nx n k)) < 0 then 1 else 0) + (if gm_u (gm_d n P (gm_nx n (gm_nx n k))) = 0 ∧ gm_x (gm_d n P (gm_nx n k)) (gm_d n P (gm_nx n (gm_nx n k))) < 0 then -1 else 0) at e
    generalize gm_w n P (P (gm_nx n (gm_nx n k))) = w2 at e ⊢
    generalize gm_w n P (P (gm_nx n k)) = w1 at e ⊢
    generalize gm_x (gm_d n P k) (gm_d n P (gm_nx n k)) = X1 at e x1 ⊢
    generalize gm_x (gm_d n P (gm_nx n k)) (gm_d n P (gm_nx n (gm_nx n k))) = X2 at e x2 ⊢
    generalize gm_u (gm_d n P k) = U1 at e u1 x1 ⊢
    generalize gm_u (gm_d n P (gm_nx n (gm_nx n k))) = U3 at e u2 x2 ⊢
    generalize gm_u (gm_d n P (gm_nx n k)) = U2 at hu x1 x2 ⊢
    subst hu
    rcases u1 with u1 | u1 <;> rcases u2 with u2 | u2 <;> subst u1 <;> subst u2 <;> simp at e x1 x2 ⊢
    all_goals (try (split at e)) <;> (try (split at e)) <;> (repeat' split) <;> omega
theorem gm_l_const {n : Nat} {P : Nat → Pt} (hs : gm_simple n P) : ∀ k, k < n → gm_l n P k = gm_l n P 0 := by
  intro k
  induction k with
  | zero => intro _; rfl
  | succ k ih =>
    intro hk
    have e := gm_l_step hs (k := k) (by omega)
    rw [show gm_nx n k = k + 1 from if_neg (by omega)] at e
    rw [← e, ih (by omega)]
