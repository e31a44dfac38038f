/-! geometry 7: points on a ring -/
def gm_cw (p a b : Pt) : Int := if a.2 ≤ p.2 ∧ p.2 < b.2 ∧ 0 ≤ gm_cr a b p then 1 else if b.2 ≤ p.2 ∧ p.2 < a.2 ∧ gm_cr a b p ≤ 0 then -1 else 0
def gm_ww (n : Nat) (P : Nat → Pt) (p : Pt) : Int := gm_sum n (fun k => gm_cw p (P k) (P (gm_nx n k)))
theorem gm_cw_sep {a b z : Pt} (h : gm_sep a b z z) : gm_cw z a b = gm_c z a b := by
  obtain ⟨α, β, γ, fa, fb, fz, -⟩ := h
  have c1 : a.2 ≤ z.2 ∧ z.2 < b.2 → gm_cr a b z ≠ 0 := by
    intro k e
    have := gm_l1 k.1 k.2 fa fb fz
    rw [e, Int.mul_zero] at this
    omega
  have c2 : b.2 ≤ z.2 ∧ z.2 < a.2 → gm_cr a b z ≠ 0 := by
    intro k e
    have := gm_l1' k.1 k.2 fa fb fz
    rw [e, Int.mul_zero] at this
    omega
  clear fa fb fz
  unfold gm_cw gm_c
  generalize gm_cr a b z = X at c1 c2 ⊢
  (repeat' split) <;> omega
theorem gm_sgn {x y q s : Int} (hq : 0 < q) (hs : 0 < s) (e : x * q = y * s) : (0 < x ↔ 0 < y) ∧ (x < 0 ↔ y < 0) := by
  rcases Int.lt_trichotomy x 0 with hx | hx | hx <;> rcases Int.lt_trichotomy y 0 with hy | hy | hy
  · omega
  · rw [hy, Int.zero_mul] at e; have := Int.mul_neg_of_neg_of_pos hx hq; omega
  · have := Int.mul_neg_of_neg_of_pos hx hq; have := Int.mul_pos hy hs; omega
  · rw [hx, Int.zero_mul] at e; have := Int.mul_neg_of_neg_of_pos hy hs; omega
  · omega
  · rw [hx, Int.zero_mul] at e; have := Int.mul_pos hy hs; omega
  · have := Int.mul_pos hx hq; have := Int.mul_neg_of_neg_of_pos hy hs; omega
  · rw [hy, Int.zero_mul] at e; have := Int.mul_pos hx hq; omega
  · omega
theorem gm_par {d e : Pt} (hx : gm_x d e = 0) (hd : 0 < d.1 * e.1 + d.2 * e.2) : (0 < d.2 ↔ 0 < e.2) ∧ (d.2 < 0 ↔ e.2 < 0) := by
  have hq : 0 < d.1 * d.1 + d.2 * d.2 := gm_sq_pos (fun q => by rw [q.1, q.2] at hd; omega)
  refine gm_sgn hd hq ?_
  unfold gm_x at hx
  grind
theorem gm_cw_tn1 {z a b : Pt} (h : gm_tn (gm_v z a) (gm_v a b)) : gm_cw z a b = gm_c z a b := by
  have e : gm_cr a b z = gm_x (gm_v z a) (gm_v a b) := by unfold gm_cr gm_x gm_v; grind
  unfold gm_cw gm_c
  rw [e]
  by_cases hx : gm_x (gm_v z a) (gm_v a b) = 0
  · have hp := gm_par hx (by rcases h with h | h; exact absurd hx h; exact h)
    have hp : (0 < a.2 - z.2 ↔ 0 < b.2 - a.2) ∧ (a.2 - z.2 < 0 ↔ b.2 - a.2 < 0) := hp
    rw [if_neg (by omega), if_neg (by omega), if_neg (by omega), if_neg (by omega)]
  · clear e h
    generalize gm_x (gm_v z a) (gm_v a b) = X at hx ⊢
    (repeat' split) <;> omega
theorem gm_cw_tn2 {a b z : Pt} (h : gm_tn (gm_v a b) (gm_v b z)) : gm_cw z a b = gm_c z a b := by
  have e : gm_cr a b z = gm_x (gm_v a b) (gm_v b z) := by unfold gm_cr gm_x gm_v; grind
  unfold gm_cw gm_c
  rw [e]
  by_cases hx : gm_x (gm_v a b) (gm_v b z) = 0
  · have hp := gm_par hx (by rcases h with h | h; exact absurd hx h; exact h)
    have hp : (0 < b.2 - a.2 ↔ 0 < z.2 - b.2) ∧ (b.2 - a.2 < 0 ↔ z.2 - b.2 < 0) := hp
    rw [if_neg (by omega), if_neg (by omega), if_neg (by omega), if_neg (by omega)]
  · clear e h
    generalize gm_x (gm_v a b) (gm_v b z) = X at hx ⊢
    (repeat' split) <;> omega
theorem gm_sep_r {a b c d : Pt} (h : gm_sep a b c d) : gm_sep a b d d := by
  obtain ⟨α, β, γ, h1, h2, h3, h4⟩ := h
  exact ⟨α, β, γ, h1, h2, h4, h4⟩
/-- at a corner: the two ways of counting differ by the sides there alone -/
theorem gm_corner_ww {n : Nat} {P : Nat → Pt} (hs : gm_simple n P) {k : Nat} (hk : k < n) :
    gm_ww n P (P (gm_nx n k)) - gm_w n P (P (gm_nx n k)) = (if (P (gm_nx n k)).2 < (P (gm_nx n (gm_nx n k))).2 then 1 else 0) - (if (P (gm_nx n k)).2 < (P k).2 then 1 else 0) := by
  obtain ⟨h3, ht, hsep⟩ := hs
  have hi := gm_nx_lt hk
  obtain ⟨n1, n2, n3⟩ := gm_nx_ne h3 hk
  unfold gm_ww gm_w
  rw [← gm_sum_sub, gm_sum_two hi hk n1 (fun j hj a b => ?_)]
  · have e1 : gm_cr (P (gm_nx n k)) (P (gm_nx n (gm_nx n k))) (P (gm_nx n k)) = 0 := gm_cr_a _ _
    have e2 : gm_cr (P k) (P (gm_nx n k)) (P (gm_nx n k)) = 0 := gm_cr_b _ _
    unfold gm_cw gm_c
    rw [e1, e2]
    (repeat' split) <;> omega
  · by_cases c : gm_nx n j = k
    · have t := gm_cw_tn2 (a := P j) (b := P (gm_nx n j)) (z := P (gm_nx n (gm_nx n j))) (ht j hj)
      rw [c] at t
      rw [c, t]
      omega
    · have q := gm_cw_sep (gm_sep_r (hsep j k hj hk b c (fun e => a e.symm)))
      rw [q]
      omega
/-- strictly between the ends of a side -/
theorem gm_strict {a b z : Pt} (h : gm_on a b z) (ha : z ≠ a) (hb : z ≠ b) : 0 < gm_dt a b z ∧ gm_dt a b z < gm_dt a b b := by
  obtain ⟨hc, h1, h2⟩ := h
  have hab : a ≠ b := by
    intro e
    subst e
    exact ha (Prod.ext (by omega) (by omega))
  have hq : 0 < gm_dt a b b := gm_sq_pos (gm_ne hab)
  have e1 : (z.1 - a.1) * gm_dt a b b = (b.1 - a.1) * gm_dt a b z := by
    unfold gm_dt; unfold gm_cr at hc; grind
  have e2 : (z.2 - a.2) * gm_dt a b b = (b.2 - a.2) * gm_dt a b z := by
    unfold gm_dt; unfold gm_cr at hc; grind
  have nn : ∀ u v : Int, (0 ≤ v ∧ v ≤ u) ∨ (u ≤ v ∧ v ≤ 0) → 0 ≤ u * v ∧ u * v ≤ u * u := by
    intro u v k
    rcases k with k | k
    · exact ⟨Int.mul_nonneg (by omega) k.1, Int.mul_le_mul_of_nonneg_left k.2 (by omega)⟩
    · exact ⟨Int.mul_nonneg_of_nonpos_of_nonpos (by omega) k.2, Int.mul_le_mul_of_nonpos_left (by omega) k.1⟩
  have k1 := nn (b.1 - a.1) (z.1 - a.1) (by omega)
  have k2 := nn (b.2 - a.2) (z.2 - a.2) (by omega)
  have s0 : 0 ≤ gm_dt a b z := by unfold gm_dt; omega
  have s1 : gm_dt a b z ≤ gm_dt a b b := by unfold gm_dt; omega
  have s2 : gm_dt a b z ≠ 0 := by
    intro e
    rw [e, Int.mul_zero] at e1 e2
    refine ha (Prod.ext ?_ ?_)
    · rcases Int.mul_eq_zero.mp e1 with q | q <;> omega
    · rcases Int.mul_eq_zero.mp e2 with q | q <;> omega
  have s3 : gm_dt a b z ≠ gm_dt a b b := by
    intro e
    rw [e] at e1 e2
    refine hb (Prod.ext ?_ ?_)
    · have := Int.eq_of_mul_eq_mul_right (show gm_dt a b b ≠ 0 by omega) e1; omega
    · have := Int.eq_of_mul_eq_mul_right (show gm_dt a b b ≠ 0 by omega) e2; omega
  omega
/-- a way along another one -/
theorem gm_along {d e : Pt} {q s : Int} (hq : 0 < q) (hs : 0 < s) (e1 : e.1 * q = d.1 * s) (e2 : e.2 * q = d.2 * s) :
    gm_u e = gm_u d ∧ (∀ f, gm_x e f * q = gm_x d f * s) ∧ (∀ f, gm_x f e * q = gm_x f d * s) ∧ (∀ f, gm_tn d f → gm_tn e f) ∧ (∀ f, gm_tn f d → gm_tn f e) := by
  have s1 := gm_sgn hq hs e1
  have s2 := gm_sgn hq hs e2
  have x1 : ∀ f, gm_x e f * q = gm_x d f * s := by intro f; unfold gm_x; grind
  have x2 : ∀ f, gm_x f e * q = gm_x f d * s := by intro f; unfold gm_x; grind
  refine ⟨?_, x1, x2, ?_, ?_⟩
  · unfold gm_u
    (repeat' split) <;> omega
  · intro f h
    rcases h with h | h
    · left
      have := gm_sgn hq hs (x1 f)
      omega
    · right
      have := gm_sgn hq hs (show (e.1 * f.1 + e.2 * f.2) * q = (d.1 * f.1 + d.2 * f.2) * s by grind)
      omega
  · intro f h
    rcases h with h | h
    · left
      have := gm_sgn hq hs (x2 f)
      omega
    · right
      have := gm_sgn hq hs (show (f.1 * e.1 + f.2 * e.2) * q = (f.1 * d.1 + f.2 * d.2) * s by grind)
      omega
theorem gm_along_z {a b z : Pt} (h : gm_on a b z) (ha : z ≠ a) (hb : z ≠ b) :
    (gm_u (gm_v a z) = gm_u (gm_v a b) ∧ (∀ f, gm_tn (gm_v a b) f → gm_tn (gm_v a z) f) ∧ (∀ f, gm_tn f (gm_v a b) → gm_tn f (gm_v a z))) ∧
    (gm_u (gm_v z b) = gm_u (gm_v a b) ∧ (∀ f, gm_tn (gm_v a b) f → gm_tn (gm_v z b) f) ∧ (∀ f, gm_tn f (gm_v a b) → gm_tn f (gm_v z b))) ∧
    (∃ s Q : Int, 0 < s ∧ s < Q ∧ (gm_v a z).1 * Q = (gm_v a b).1 * s ∧ (gm_v a z).2 * Q = (gm_v a b).2 * s ∧ (gm_v z b).1 * Q = (gm_v a b).1 * (Q - s) ∧ (gm_v z b).2 * Q = (gm_v a b).2 * (Q - s)) := by
  have st := gm_strict h ha hb
  have hc := h.1
  have e1 : (z.1 - a.1) * gm_dt a b b = (b.1 - a.1) * gm_dt a b z := by
    unfold gm_dt; unfold gm_cr at hc; grind
  have e2 : (z.2 - a.2) * gm_dt a b b = (b.2 - a.2) * gm_dt a b z := by
    unfold gm_dt; unfold gm_cr at hc; grind
  have e3 : (b.1 - z.1) * gm_dt a b b = (b.1 - a.1) * (gm_dt a b b - gm_dt a b z) := by
    rw [Int.mul_sub, ← e1, ← Int.sub_mul]; congr 1; omega
  have e4 : (b.2 - z.2) * gm_dt a b b = (b.2 - a.2) * (gm_dt a b b - gm_dt a b z) := by
    rw [Int.mul_sub, ← e2, ← Int.sub_mul]; congr 1; omega
  have k1 := gm_along (d := gm_v a b) (e := gm_v a z) (by omega) st.1 e1 e2
  have k2 := gm_along (d := gm_v a b) (e := gm_v z b) (q := gm_dt a b b) (s := gm_dt a b b - gm_dt a b z) (by omega) (by omega) e3 e4
  exact ⟨⟨k1.1, k1.2.2.2.1, k1.2.2.2.2⟩, ⟨k2.1, k2.2.2.2.1, k2.2.2.2.2⟩, gm_dt a b z, gm_dt a b b, st.1, st.2, e1, e2, e3, e4⟩
/-- a line that parts a b from c d parts it from any point between c and d -/
theorem gm_sep_sub {a b c d z : Pt} (h : gm_sep a b c d) (hz : gm_on c d z) : gm_sep a b z d := by
  by_cases ec : z = c
  · rw [ec]; exact h
  by_cases ed : z = d
  · rw [ed]; exact gm_sep_r h
  obtain ⟨-, -, s, Q, hs, hq, e1, e2, -, -⟩ := gm_along_z hz ec ed
  obtain ⟨α, β, γ, h1, h2, h3, h4⟩ := h
  refine ⟨α, β, γ, h1, h2, ?_, h4⟩
  have e1 : (z.1 - c.1) * Q = (d.1 - c.1) * s := e1
  have e2 : (z.2 - c.2) * Q = (d.2 - c.2) * s := e2
  have k : (α * z.1 + β * z.2 + γ) * Q = (Q - s) * (α * c.1 + β * c.2 + γ) + s * (α * d.1 + β * d.2 + γ) := by grind
  have k1 := Int.mul_pos (show 0 < Q - s by omega) h3
  have k2 := Int.mul_pos hs h4
  refine Int.not_le.mp (fun k3 => ?_)
  have := Int.mul_nonpos_of_nonpos_of_nonneg k3 (show 0 ≤ Q by omega)
  omega
/-- two points in the same way behind a side's end -/
theorem gm_sep_tn {u v z z' : Pt} {q s : Int} (hq : 0 < q) (hs : 0 < s) (e1 : (gm_v v z).1 * q = (gm_v v z').1 * s) (e2 : (gm_v v z).2 * q = (gm_v v z').2 * s) (h : gm_tn (gm_v u v) (gm_v v z')) : gm_sep u v z z' := by
  have al := gm_along hq hs e1 e2
  have c1 : gm_cr u v z = gm_x (gm_v u v) (gm_v v z) := by unfold gm_cr gm_x gm_v; grind
  have c2 : gm_cr u v z' = gm_x (gm_v u v) (gm_v v z') := by unfold gm_cr gm_x gm_v; grind
  have sg := gm_sgn hq hs (al.2.2.1 (gm_v u v))
  rcases Int.lt_trichotomy (gm_x (gm_v u v) (gm_v v z')) 0 with k | k | k
  · exact gm_sep_right (by rw [c1]; omega) (by rw [c2]; exact k)
  · have d2 : 0 < (gm_v u v).1 * (gm_v v z').1 + (gm_v u v).2 * (gm_v v z').2 := by
      rcases h with h | h
      · exact absurd k h
      · exact h
    have d1 : 0 < (gm_v u v).1 * (gm_v v z).1 + (gm_v u v).2 * (gm_v v z).2 := by
      have := gm_sgn hq hs (show ((gm_v u v).1 * (gm_v v z).1 + (gm_v u v).2 * (gm_v v z).2) * q = ((gm_v u v).1 * (gm_v v z').1 + (gm_v u v).2 * (gm_v v z').2) * s by grind)
      omega
    have hb : 0 ≤ gm_dt u v v := by
      have := gm_sq_pos (x := v.1 - u.1) (y := v.2 - u.2) (fun q => by
        have d2 : 0 < (v.1 - u.1) * (z'.1 - v.1) + (v.2 - u.2) * (z'.2 - v.2) := d2
        rw [q.1, q.2] at d2; omega)
      unfold gm_dt; omega
    have f : ∀ y : Pt, gm_dt u v y = gm_dt u v v + ((gm_v u v).1 * (gm_v v y).1 + (gm_v u v).2 * (gm_v v y).2) := by intro y; unfold gm_dt gm_v; grind
    refine gm_sep_beyond hb ?_ ?_
    · rw [f z]; omega
    · rw [f z']; omega
  · exact gm_sep_left (by rw [c1]; omega) (by rw [c2]; exact k)
theorem gm_cr_rot (a b z : Pt) : gm_cr z b a = - gm_cr a b z := by unfold gm_cr; grind
theorem gm_cr_rot2 (a b z : Pt) : gm_cr b z a = gm_cr a b z := by unfold gm_cr; grind
/-- inside a side: the winding and the other way of counting -/
theorem gm_inner {n : Nat} {P : Nat → Pt} (hs : gm_simple n P) {k : Nat} (hk : k < n) {z : Pt} (hz : gm_on (P k) (P (gm_nx n k)) z) (ha : z ≠ P k) (hb : z ≠ P (gm_nx n k)) :
    gm_w n P z = gm_l n P 0 - gm_u (gm_d n P k) ∧ gm_ww n P z - gm_w n P z = (if (P k).2 < (P (gm_nx n k)).2 then 1 else 0) - (if (P (gm_nx n k)).2 < (P k).2 then 1 else 0) := by
  have hconst := gm_l_const hs k hk
  obtain ⟨h3, ht, hsep⟩ := hs
  have hi := gm_nx_lt hk
  obtain ⟨n1, n2, n3⟩ := gm_nx_ne h3 hk
  obtain ⟨⟨au1, at1, af1⟩, ⟨au2, at2, af2⟩, s, Q, hs, hq, e1, e2, e3, e4⟩ := gm_along_z hz ha hb
  have t1 := ht k hk
  have other : ∀ j, j < n → j ≠ k → j ≠ gm_nx n k → gm_sep (P j) (P (gm_nx n j)) z (P (gm_nx n k)) := by
    intro j hj a b
    by_cases c : gm_nx n j = k
    · have t := ht j hj
      have q := gm_sep_tn (u := P j) (v := P (gm_nx n j)) (z := z) (z' := P (gm_nx n (gm_nx n j))) (q := Q) (s := s) (by omega) hs (by rw [c]; exact e1) (by rw [c]; exact e2) t
      rw [c] at q
      rw [c]
      exact q
    · exact gm_sep_sub (hsep j k hj hk a c (fun e => b e.symm)) hz
  constructor
  · have hx := gm_tn_x t1
    generalize gm_l n P 0 = K at hconst ⊢
    unfold gm_l at hconst
    rcases gm_u_01 (gm_d n P k) with hu | hu
    · have hu2 : gm_u (gm_v z (P (gm_nx n k))) = 0 := au2.trans hu
      have hle : (P (gm_nx n k)).2 ≤ z.2 := by
        rcases (gm_u_iff0 _).mp hu2 with q | q
        · have q : (P (gm_nx n k)).2 - z.2 < 0 := q
          omega
        · have q : (P (gm_nx n k)).2 - z.2 = 0 ∧ _ := q
          omega
      have e := gm_w_diff n P (P (gm_nx n k)) z
      rw [gm_sum_one hi (fun j hj a => by
        by_cases c : j = k
        · rw [c]
          exact gm_I_self (gm_cr_b _ _) hz.1 (by rw [gm_cr_rot2]; exact hz.1) (gm_cr_a _ _)
        · exact gm_I_sep hle (gm_sep_sw2 (other j hj c a)))] at e
      have c2 := gm_cc2d (z := z) (v := P (gm_nx n k)) (t := P (gm_nx n (gm_nx n k))) hu2 (at2 _ t1)
      rw [c2] at e
      have sx : (0 < gm_x (gm_v z (P (gm_nx n k))) (gm_v (P (gm_nx n k)) (P (gm_nx n (gm_nx n k)))) ↔ 0 < gm_x (gm_d n P k) (gm_d n P (gm_nx n k))) :=
        (gm_sgn (show 0 < Q by omega) (show 0 < Q - s by omega) ((gm_along (d := gm_v (P k) (P (gm_nx n k))) (show 0 < Q by omega) (show 0 < Q - s by omega) e3 e4).2.1 _)).1
      rw [hu] at hconst hx ⊢
      change gm_w n P (P (gm_nx n k)) - gm_w n P z = if gm_u (gm_d n P (gm_nx n k)) = 1 ∧ 0 < gm_x (gm_v z (P (gm_nx n k))) (gm_v (P (gm_nx n k)) (P (gm_nx n (gm_nx n k)))) then (-1 : Int) else 0 at e
      have u3 := gm_u_01 (gm_d n P (gm_nx n k))
      split at e <;> (repeat' split at hconst) <;> omega
    · have hu2 : gm_u (gm_v z (P (gm_nx n k))) = 1 := au2.trans hu
      have hle : z.2 ≤ (P (gm_nx n k)).2 := by
        rcases (gm_u_iff _).mp hu2 with q | q
        · have q : 0 < (P (gm_nx n k)).2 - z.2 := q
          omega
        · have q : (P (gm_nx n k)).2 - z.2 = 0 ∧ _ := q
          omega
      have e := gm_w_diff n P z (P (gm_nx n k))
      rw [gm_sum_one hi (fun j hj a => by
        by_cases c : j = k
        · rw [c]
          exact gm_I_self hz.1 (gm_cr_b _ _) (by rw [gm_cr_rot, hz.1]; rfl) (gm_cr_b _ _)
        · exact gm_I_sep hle (other j hj c a))] at e
      have c2 := gm_cc2u (z := z) (v := P (gm_nx n k)) (t := P (gm_nx n (gm_nx n k))) hu2 (at2 _ t1)
      rw [c2] at e
      have sx : (gm_x (gm_v z (P (gm_nx n k))) (gm_v (P (gm_nx n k)) (P (gm_nx n (gm_nx n k)))) < 0 ↔ gm_x (gm_d n P k) (gm_d n P (gm_nx n k)) < 0) :=
        (gm_sgn (show 0 < Q by omega) (show 0 < Q - s by omega) ((gm_along (d := gm_v (P k) (P (gm_nx n k))) (show 0 < Q by omega) (show 0 < Q - s by omega) e3 e4).2.1 _)).2
      rw [hu] at hconst hx ⊢
      change gm_w n P z - gm_w n P (P (gm_nx n k)) = if gm_u (gm_d n P (gm_nx n k)) = 0 ∧ gm_x (gm_v z (P (gm_nx n k))) (gm_v (P (gm_nx n k)) (P (gm_nx n (gm_nx n k)))) < 0 then (-1 : Int) else 0 at e
      have u3 := gm_u_01 (gm_d n P (gm_nx n k))
      split at e <;> (repeat' split at hconst) <;> omega
  · unfold gm_ww gm_w
    rw [← gm_sum_sub, gm_sum_one hk (fun j hj a => ?_)]
    · have c0 := hz.1
      have hu1 : (0 < (P (gm_nx n k)).2 - (P k).2 ↔ 0 < z.2 - (P k).2) ∧ ((P (gm_nx n k)).2 - (P k).2 < 0 ↔ z.2 - (P k).2 < 0) := by
        have := gm_sgn (show 0 < Q by omega) hs e2
        exact ⟨this.1.symm, this.2.symm⟩
      have hu2 : (0 < (P (gm_nx n k)).2 - (P k).2 ↔ 0 < (P (gm_nx n k)).2 - z.2) ∧ ((P (gm_nx n k)).2 - (P k).2 < 0 ↔ (P (gm_nx n k)).2 - z.2 < 0) := by
        have := gm_sgn (show 0 < Q by omega) (show 0 < Q - s by omega) e4
        exact ⟨this.1.symm, this.2.symm⟩
      unfold gm_cw gm_c
      rw [c0]
      (repeat' split) <;> omega
    · by_cases c : j = gm_nx n k
      · have q := gm_cw_tn1 (z := z) (a := P (gm_nx n k)) (b := P (gm_nx n (gm_nx n k))) (at2 _ t1)
        rw [c, q]; omega
      · have o := other j hj a c
        have q := gm_cw_sep (gm_sep_r (gm_sep_sw2 o))
        rw [q]; omega
