/-! geometry 6: the number at the left hand is 0 or 1, and tells the turnings -/
theorem gm_leg {v a b : Pt} (h : ∃ α β : Int, 0 < α * (gm_v v a).1 + β * (gm_v v a).2 ∧ 0 < α * (gm_v v b).1 + β * (gm_v v b).2) : gm_t (gm_v v a) (gm_v v b) = 2 * gm_c v a b - (gm_u (gm_v v b) - gm_u (gm_v v a)) := by
  have hx : gm_u (gm_v v a) ≠ gm_u (gm_v v b) → gm_x (gm_v v a) (gm_v v b) ≠ 0 := by
    intro hu e
    obtain ⟨α, β, h1, h2⟩ := h
    have k := gm_tc h1 h2
    have k2 : gm_t (gm_v v a) (gm_v v b) = 0 := by
      unfold gm_t
      rw [if_neg hu, if_neg (by omega), if_neg (by omega)]
    rw [k2] at k
    split at k <;> omega
  have e1 : gm_cr a b v = gm_x (gm_v v a) (gm_v v b) := by unfold gm_cr gm_x gm_v; grind
  have ea := gm_u_iff (gm_v v a)
  have eb := gm_u_iff (gm_v v b)
  have ea0 := gm_u_01 (gm_v v a)
  have eb0 := gm_u_01 (gm_v v b)
  have a1 : (gm_v v a).1 = a.1 - v.1 := rfl
  have a2 : (gm_v v a).2 = a.2 - v.2 := rfl
  have b1 : (gm_v v b).1 = b.1 - v.1 := rfl
  have b2 : (gm_v v b).2 = b.2 - v.2 := rfl
  rw [a1, a2] at ea
  rw [b1, b2] at eb
  have xx : gm_x (gm_v v a) (gm_v v b) = (a.1 - v.1) * (b.2 - v.2) - (a.2 - v.2) * (b.1 - v.1) := rfl
  have m1 : b.2 = v.2 → b.1 < v.1 → a.2 ≤ v.2 → gm_x (gm_v v a) (gm_v v b) ≤ 0 := by
    intro p q r
    have := Int.mul_nonneg_of_nonpos_of_nonpos (show a.2 - v.2 ≤ 0 by omega) (show b.1 - v.1 ≤ 0 by omega)
    rw [xx, show b.2 - v.2 = 0 by omega, Int.mul_zero]; omega
  have m2 : a.2 = v.2 → a.1 < v.1 → b.2 ≤ v.2 → 0 ≤ gm_x (gm_v v a) (gm_v v b) := by
    intro p q r
    have := Int.mul_nonneg_of_nonpos_of_nonpos (show a.1 - v.1 ≤ 0 by omega) (show b.2 - v.2 ≤ 0 by omega)
    rw [xx, show a.2 - v.2 = 0 by omega, Int.zero_mul]; omega
  have m3 : a.2 = v.2 → a.1 < v.1 → v.2 < b.2 → gm_x (gm_v v a) (gm_v v b) ≤ 0 := by
    intro p q r
    have := Int.mul_nonpos_of_nonpos_of_nonneg (show a.1 - v.1 ≤ 0 by omega) (show (0 : Int) ≤ b.2 - v.2 by omega)
    rw [xx, show a.2 - v.2 = 0 by omega, Int.zero_mul]; omega
  have m4 : b.2 = v.2 → b.1 < v.1 → v.2 < a.2 → 0 ≤ gm_x (gm_v v a) (gm_v v b) := by
    intro p q r
    have := Int.mul_nonpos_of_nonneg_of_nonpos (show (0 : Int) ≤ a.2 - v.2 by omega) (show b.1 - v.1 ≤ 0 by omega)
    rw [xx, show b.2 - v.2 = 0 by omega, Int.mul_zero]; omega
  unfold gm_t gm_c
  rw [e1]
  clear e1 xx h a1 a2 b1 b2
  generalize gm_x (gm_v v a) (gm_v v b) = X at hx m1 m2 m3 m4 ⊢
  generalize gm_u (gm_v v a) = U at hx ea ea0 ⊢
  generalize gm_u (gm_v v b) = W at hx eb eb0 ⊢
  (repeat' split) <;> omega
theorem gm_umlauf {n : Nat} {P : Nat → Pt} (hs : gm_simple n P) : gm_sum n (fun k => gm_t (gm_d n P k) (gm_d n P (gm_nx n k))) = 2 * (2 * gm_l n P 0 - 1) := by
  obtain ⟨m, rfl⟩ : ∃ m, n = m + 3 := ⟨n - 3, by have := hs.1; omega⟩
  rw [gm_hopf hs]
  have hl := gm_l_const hs (m + 2) (by omega)
  obtain ⟨h3, ht, hsep⟩ := hs
  generalize hn : m + 3 = n at *
  have hm2 : m + 2 < n := by omega
  have tl : gm_tn (gm_d n P (m + 2)) (gm_d n P 0) := by
    have := ht (m + 2) hm2
    rw [show gm_nx n (m + 2) = 0 from if_pos (by omega)] at this
    exact this
  have hV0 : gm_V n P 0 = P 0 := gm_V_lt (by omega)
  have legs : gm_sum (m + 1) (fun i => gm_t (gm_S n P 0 (i + 1)) (gm_S n P 0 (i + 2))) = gm_sum (m + 1) (fun i => 2 * gm_c (P 0) (gm_V n P (i + 1)) (gm_V n P (i + 2)) - (gm_u (gm_S n P 0 (i + 2)) - gm_u (gm_S n P 0 (i + 1)))) := by
    refine gm_sum_congr (fun i hi => ?_)
    have : ∃ α β : Int, 0 < α * (gm_S n P 0 (i + 1)).1 + β * (gm_S n P 0 (i + 1)).2 ∧ 0 < α * (gm_S n P 0 (i + 2)).1 + β * (gm_S n P 0 (i + 2)).2 := by
      by_cases i0 : i = 0
      · subst i0
        have t0 := ht 0 (by omega)
        rw [show gm_nx n 0 = 1 from if_neg (by omega)] at t0
        obtain ⟨α, β, q1, q2⟩ := gm_half t0
        rw [← gm_S_d (show 0 < n by omega)] at q1
        rw [← gm_S_d (show 1 < n by omega)] at q2
        refine ⟨α, β, q1, ?_⟩
        have q1' : 0 < α * ((gm_V n P 1).1 - (gm_V n P 0).1) + β * ((gm_V n P 1).2 - (gm_V n P 0).2) := q1
        have q2' : 0 < α * ((gm_V n P 2).1 - (gm_V n P 1).1) + β * ((gm_V n P 2).2 - (gm_V n P 1).2) := q2
        show 0 < α * ((gm_V n P 2).1 - (gm_V n P 0).1) + β * ((gm_V n P 2).2 - (gm_V n P 0).2)
        simp only [Int.mul_sub] at q1' q2' ⊢
        omega
      · have q := hsep 0 (i + 1) (by omega) (by omega) (by omega) (by unfold gm_nx; split <;> omega) (by unfold gm_nx; split <;> omega)
        rw [gm_V_nx n P, gm_V_nx n P, ← gm_V_lt (P := P) (show 0 < n by omega), ← gm_V_lt (P := P) (show i + 1 < n by omega)] at q
        obtain ⟨α, β, γ, f1, -, f3, f4⟩ := q
        refine ⟨α, β, ?_, ?_⟩
        · show 0 < α * ((gm_V n P (i + 1)).1 - (gm_V n P 0).1) + β * ((gm_V n P (i + 1)).2 - (gm_V n P 0).2)
          rw [Int.mul_sub, Int.mul_sub]; omega
        · have f4 : 0 < α * (gm_V n P (i + 2)).1 + β * (gm_V n P (i + 2)).2 + γ := f4
          show 0 < α * ((gm_V n P (i + 2)).1 - (gm_V n P 0).1) + β * ((gm_V n P (i + 2)).2 - (gm_V n P 0).2)
          rw [Int.mul_sub, Int.mul_sub]; omega
    have e := gm_leg (v := gm_V n P 0) (a := gm_V n P (i + 1)) (b := gm_V n P (i + 2)) this
    rw [hV0] at e
    have e1 : gm_S n P 0 (i + 1) = gm_v (P 0) (gm_V n P (i + 1)) := by unfold gm_S; rw [hV0]
    have e2 : gm_S n P 0 (i + 2) = gm_v (P 0) (gm_V n P (i + 2)) := by unfold gm_S; rw [hV0]
    rw [e1, e2]
    exact e
  have tele : gm_sum (m + 1) (fun i => gm_u (gm_S n P 0 (i + 2)) - gm_u (gm_S n P 0 (i + 1))) = gm_u (gm_S n P 0 (m + 2)) - gm_u (gm_S n P 0 1) := gm_sum_tele (m + 1) (fun i => gm_u (gm_S n P 0 (i + 1)))
  have wind : gm_w n P (P 0) = gm_sum (m + 1) (fun i => gm_c (P 0) (gm_V n P (i + 1)) (gm_V n P (i + 2))) := by
    unfold gm_w
    rw [← hn, gm_sum_shift (m + 2)]
    show gm_c (P 0) (P 0) (P (gm_nx (m + 3) 0)) + (gm_sum (m + 1) (fun k => gm_c (P 0) (P (k + 1)) (P (gm_nx (m + 3) (k + 1)))) + gm_c (P 0) (P (m + 2)) (P (gm_nx (m + 3) (m + 2)))) = _
    rw [hn, show gm_nx n (m + 2) = 0 from if_pos (by omega)]
    have z1 : ∀ q, gm_c (P 0) (P 0) q = 0 := by
      intro q
      have := gm_cr_a (P 0) q
      unfold gm_c
      rw [this]
      (repeat' split) <;> omega
    have z2 : ∀ q, gm_c (P 0) q (P 0) = 0 := by
      intro q
      have := gm_cr_b q (P 0)
      unfold gm_c
      rw [this]
      (repeat' split) <;> omega
    rw [z1, z2]
    have : gm_sum (m + 1) (fun k => gm_c (P 0) (P (k + 1)) (P (gm_nx n (k + 1)))) = gm_sum (m + 1) (fun i => gm_c (P 0) (gm_V n P (i + 1)) (gm_V n P (i + 2))) := by
      refine gm_sum_congr (fun k hk => ?_)
      rw [gm_V_nx n P, ← gm_V_lt (P := P) (show k + 1 < n by omega)]
    omega
  have mul2 : gm_sum (m + 1) (fun i => 2 * gm_c (P 0) (gm_V n P (i + 1)) (gm_V n P (i + 2))) = 2 * gm_w n P (P 0) := by
    rw [wind, gm_sum_mul]
  rw [gm_sum_sub, tele, mul2] at legs
  have u1 : gm_S n P 0 1 = gm_d n P 0 := gm_S_d (by omega)
  have u2 : gm_u (gm_S n P 0 (m + 2)) = 1 - gm_u (gm_d n P (m + 2)) := by
    rw [← gm_u_neg (gm_tn_ne tl).1]
    have d2 : gm_d n P (m + 2) = gm_v (gm_V n P (m + 2)) (gm_V n P 0) := by
      have := gm_S_d (P := P) hm2
      rw [← this, show m + 2 + 1 = n by omega]
      unfold gm_S
      rw [show gm_V n P n = gm_V n P 0 by unfold gm_V; rw [if_pos rfl, if_neg (by omega)]]
    refine congrArg gm_u (Prod.ext ?_ ?_)
    · rw [d2]
      show (gm_V n P (m + 2)).1 - (gm_V n P 0).1 = -((gm_V n P 0).1 - (gm_V n P (m + 2)).1); omega
    · rw [d2]
      show (gm_V n P (m + 2)).2 - (gm_V n P 0).2 = -((gm_V n P 0).2 - (gm_V n P (m + 2)).2); omega
  rw [u1, u2] at legs
  rw [← hl]
  unfold gm_l
  rw [show gm_nx n (m + 2) = 0 from if_pos (by omega), legs]
  have hx := gm_tn_x tl
  have b1 := gm_u_01 (gm_d n P (m + 2))
  have b2 := gm_u_01 (gm_d n P 0)
  unfold gm_t
  generalize gm_x (gm_d n P (m + 2)) (gm_d n P 0) = X at hx ⊢
  generalize gm_u (gm_d n P (m + 2)) = U at hx b1 ⊢
  generalize gm_u (gm_d n P 0) = W at hx b2 ⊢
  generalize gm_w n P (P 0) = ω
  rcases b1 with b1 | b1 <;> rcases b2 with b2 | b2 <;> subst b1 <;> subst b2 <;> simp at hx ⊢
  all_goals (repeat' split) <;> omega
/-- a lowest corner, of several the one most to the right -/
theorem gm_lowest (P : Nat → Pt) : ∀ n, 0 < n → ∃ i, i < n ∧ ∀ k, k < n → (P i).2 < (P k).2 ∨ ((P i).2 = (P k).2 ∧ (P k).1 ≤ (P i).1) := by
  intro n
  induction n with
  | zero => intro h; exact absurd h (by omega)
  | succ n ih =>
    intro _
    by_cases hn : n = 0
    · subst hn
      exact ⟨0, by omega, fun k hk => by rw [show k = 0 by omega]; omega⟩
    · obtain ⟨i, hi, h⟩ := ih (by omega)
      by_cases c : (P i).2 < (P n).2 ∨ ((P i).2 = (P n).2 ∧ (P n).1 ≤ (P i).1)
      · refine ⟨i, by omega, fun k hk => ?_⟩
        by_cases e : k = n
        · rw [e]; exact c
        · exact h k (by omega)
      · refine ⟨n, by omega, fun k hk => ?_⟩
        by_cases e : k = n
        · rw [e]; omega
        · have := h k (by omega)
          omega
/-- around such a corner of its own, or of any ring that lies lower nowhere, nothing winds -/
theorem gm_w_low {n : Nat} {P : Nat → Pt} {v : Pt} (h : ∀ k, k < n → v.2 < (P k).2 ∨ (v.2 = (P k).2 ∧ (P k).1 ≤ v.1)) : gm_w n P v = 0 := by
  have one : ∀ a b : Pt, v.2 < a.2 ∨ (v.2 = a.2 ∧ a.1 ≤ v.1) → v.2 < b.2 ∨ (v.2 = b.2 ∧ b.1 ≤ v.1) → gm_c v a b = 0 := by
    intro a b ha hb
    have c1 : v.2 = a.2 → a.1 ≤ v.1 → v.2 ≤ b.2 → gm_cr a b v ≤ 0 := by
      intro p q r
      have := Int.mul_nonneg (show (0 : Int) ≤ b.2 - a.2 by omega) (show (0 : Int) ≤ v.1 - a.1 by omega)
      unfold gm_cr
      rw [show v.2 - a.2 = 0 by omega, Int.mul_zero]; omega
    have c2 : v.2 = b.2 → b.1 ≤ v.1 → v.2 ≤ a.2 → 0 ≤ gm_cr a b v := by
      intro p q r
      have := Int.mul_nonneg (show (0 : Int) ≤ a.2 - b.2 by omega) (show (0 : Int) ≤ v.1 - b.1 by omega)
      have e := gm_cr_swap b a v
      rw [e]
      unfold gm_cr
      rw [show v.2 - b.2 = 0 by omega, Int.mul_zero]; omega
    unfold gm_c
    generalize gm_cr a b v = X at c1 c2 ⊢
    (repeat' split) <;> omega
  exact gm_sum_zero (fun k hk => one _ _ (h k hk) (h _ (gm_nx_lt hk)))
theorem gm_l_01 {n : Nat} {P : Nat → Pt} (hs : gm_simple n P) : gm_l n P 0 = 0 ∨ gm_l n P 0 = 1 := by
  have h3 := hs.1
  obtain ⟨i, hi, hlow⟩ := gm_lowest P n (by omega)
  obtain ⟨k, hk, hki⟩ : ∃ k, k < n ∧ gm_nx n k = i := by
    by_cases e : i = 0
    · exact ⟨n - 1, by omega, by rw [e]; exact if_pos (by omega)⟩
    · exact ⟨i - 1, by omega, by rw [show gm_nx n (i - 1) = i - 1 + 1 from if_neg (by omega)]; omega⟩
  rw [← gm_l_const hs k hk]
  have t1 := hs.2.1 k hk
  have ne := gm_tn_ne t1
  unfold gm_l
  rw [hki] at ne ⊢
  rw [gm_w_low hlow]
  have ud : gm_u (gm_d n P k) = 0 := by
    refine (gm_u_iff0 _).mpr ?_
    have := hlow k hk
    show (P (gm_nx n k)).2 - (P k).2 < 0 ∨ ((P (gm_nx n k)).2 - (P k).2 = 0 ∧ 0 ≤ (P (gm_nx n k)).1 - (P k).1)
    rw [hki]; omega
  have ue : gm_u (gm_d n P i) = 1 := by
    refine (gm_u_iff _).mpr ?_
    have := hlow _ (gm_nx_lt hi)
    have n2 : ¬ ((P (gm_nx n i)).1 - (P i).1 = 0 ∧ (P (gm_nx n i)).2 - (P i).2 = 0) := ne.2
    show 0 < (P (gm_nx n i)).2 - (P i).2 ∨ ((P (gm_nx n i)).2 - (P i).2 = 0 ∧ (P (gm_nx n i)).1 - (P i).1 < 0)
    omega
  rw [ud, ue]
  simp
  omega
