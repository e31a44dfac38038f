/-! geometry 5: the turnings of a ring make one round -/
def gm_V (n : Nat) (P : Nat → Pt) (k : Nat) : Pt := P (if k = n then 0 else k)
def gm_S (n : Nat) (P : Nat → Pt) (s t : Nat) : Pt := gm_v (gm_V n P s) (gm_V n P t)
theorem gm_V_lt {n : Nat} {P : Nat → Pt} {k : Nat} (h : k < n) : gm_V n P k = P k := by
  unfold gm_V
  rw [if_neg (by omega)]
theorem gm_V_nx (n : Nat) (P : Nat → Pt) (k : Nat) : P (gm_nx n k) = gm_V n P (k + 1) := by
  unfold gm_V gm_nx
  rfl
theorem gm_S_d {n : Nat} {P : Nat → Pt} {k : Nat} (h : k < n) : gm_S n P k (k + 1) = gm_d n P k := by
  unfold gm_S gm_d
  rw [gm_V_lt h, gm_V_nx n P]
theorem gm_S_half {n : Nat} {P : Nat → Pt} {s s' t t' : Nat} (h : gm_sep (gm_V n P s) (gm_V n P s') (gm_V n P t) (gm_V n P t')) :
    gm_t (gm_S n P s t) (gm_S n P s' t) + gm_t (gm_S n P s' t) (gm_S n P s' t') = gm_t (gm_S n P s t) (gm_S n P s t') + gm_t (gm_S n P s t') (gm_S n P s' t') := by
  obtain ⟨α, β, γ, h1, h2, h3, h4⟩ := h
  have key : ∀ a b : Pt, α * a.1 + β * a.2 + γ < 0 → 0 < α * b.1 + β * b.2 + γ → 0 < α * (gm_v a b).1 + β * (gm_v a b).2 := by
    intro a b ha hb
    show 0 < α * (b.1 - a.1) + β * (b.2 - a.2)
    rw [Int.mul_sub, Int.mul_sub]
    omega
  exact gm_cell (key _ _ h1 h3) (key _ _ h2 h3) (key _ _ h2 h4) (key _ _ h1 h4)
theorem gm_hopf1 {n : Nat} {P : Nat → Pt} (hs : gm_simple n P) : ∀ t, t + 1 < n →
    gm_sum t (fun i => gm_t (gm_S n P i (i + 1)) (gm_S n P (i + 1) (i + 2))) = gm_sum t (fun i => gm_t (gm_S n P 0 (i + 1)) (gm_S n P 0 (i + 2))) + gm_sum t (fun s => gm_t (gm_S n P s (t + 1)) (gm_S n P (s + 1) (t + 1))) := by
  obtain ⟨h3, ht, hsep⟩ := hs
  intro t
  induction t with
  | zero => intro _; rfl
  | succ t ih =>
    intro hn
    have ih := ih (by omega)
    have cells : gm_sum t (fun s => gm_t (gm_S n P s (t + 1)) (gm_S n P (s + 1) (t + 1))) + (gm_t (gm_S n P t (t + 1)) (gm_S n P t (t + 2)) - gm_t (gm_S n P 0 (t + 1)) (gm_S n P 0 (t + 2))) = gm_sum t (fun s => gm_t (gm_S n P s (t + 2)) (gm_S n P (s + 1) (t + 2))) := by
      rw [← gm_sum_tele t (fun s => gm_t (gm_S n P s (t + 1)) (gm_S n P s (t + 2))), ← gm_sum_add]
      refine gm_sum_congr (fun s hs => ?_)
      have q := hsep s (t + 1) (by omega) (by omega) (by omega) (by unfold gm_nx; split <;> omega) (by unfold gm_nx; split <;> omega)
      rw [gm_V_nx n P, gm_V_nx n P, ← gm_V_lt (P := P) (show s < n by omega), ← gm_V_lt (P := P) (show t + 1 < n by omega)] at q
      have := gm_S_half (s := s) (s' := s + 1) (t := t + 1) (t' := t + 2) q
      omega
    have tri : gm_t (gm_S n P t (t + 1)) (gm_S n P t (t + 2)) + gm_t (gm_S n P t (t + 2)) (gm_S n P (t + 1) (t + 2)) = gm_t (gm_S n P t (t + 1)) (gm_S n P (t + 1) (t + 2)) := by
      refine gm_tri ?_ ?_ ?_
      · rw [gm_S_d (by omega), gm_S_d (by omega)]
        have := ht t (by omega)
        rw [show gm_nx n t = t + 1 from if_neg (by omega)] at this
        exact this
      · show (gm_V n P (t + 2)).1 - (gm_V n P t).1 = ((gm_V n P (t + 1)).1 - (gm_V n P t).1) + ((gm_V n P (t + 2)).1 - (gm_V n P (t + 1)).1)
        omega
      · show (gm_V n P (t + 2)).2 - (gm_V n P t).2 = ((gm_V n P (t + 1)).2 - (gm_V n P t).2) + ((gm_V n P (t + 2)).2 - (gm_V n P (t + 1)).2)
        omega
    show gm_sum t _ + gm_t (gm_S n P t (t + 1)) (gm_S n P (t + 1) (t + 2)) = (gm_sum t _ + gm_t (gm_S n P 0 (t + 1)) (gm_S n P 0 (t + 2))) + (gm_sum t (fun s => gm_t (gm_S n P s (t + 2)) (gm_S n P (s + 1) (t + 2))) + gm_t (gm_S n P t (t + 2)) (gm_S n P (t + 1) (t + 2)))
    rw [ih]
    omega
theorem gm_tn_ne {d e : Pt} (h : gm_tn d e) : ¬ (d.1 = 0 ∧ d.2 = 0) ∧ ¬ (e.1 = 0 ∧ e.2 = 0) := by
  constructor
  · intro q
    rcases h with h | h
    · refine h ?_
      unfold gm_x
      rw [q.1, q.2]; omega
    · rw [q.1, q.2] at h; omega
  · intro q
    rcases h with h | h
    · refine h ?_
      unfold gm_x
      rw [q.1, q.2]; omega
    · rw [q.1, q.2] at h; omega
theorem gm_tn_neg {d e : Pt} (h : gm_tn d e) : gm_tn (-d.1, -d.2) (-e.1, -e.2) := by
  rcases h with h | h
  · left
    have : gm_x (-d.1, -d.2) (-e.1, -e.2) = gm_x d e := by unfold gm_x; grind
    rw [this]; exact h
  · right
    show 0 < -d.1 * -e.1 + -d.2 * -e.2
    rw [Int.neg_mul_neg, Int.neg_mul_neg]; exact h
/-- the turnings: twice the turnings of the line from the first corner, and twice the turn there -/
theorem gm_hopf {m : Nat} {P : Nat → Pt} (hs : gm_simple (m + 3) P) :
    gm_sum (m + 3) (fun k => gm_t (gm_d (m + 3) P k) (gm_d (m + 3) P (gm_nx (m + 3) k))) =
    2 * gm_sum (m + 1) (fun i => gm_t (gm_S (m + 3) P 0 (i + 1)) (gm_S (m + 3) P 0 (i + 2))) + 2 * gm_t (gm_d (m + 3) P (m + 2)) (gm_d (m + 3) P 0) := by
  have h1 := gm_hopf1 hs (m + 1) (by omega)
  obtain ⟨h3, ht, hsep⟩ := hs
  generalize hn : m + 3 = n at *
  have hm2 : m + 2 < n := by omega
  have hV : gm_V n P n = gm_V n P 0 := by unfold gm_V; rw [if_pos rfl, if_neg (by omega)]
  have hmn : m + 2 + 1 = n := by omega
  -- the last row, without its first cell
  have cells : gm_sum m (fun s => gm_t (gm_S n P (s + 1) (m + 2)) (gm_S n P (s + 2) (m + 2))) + (gm_t (gm_S n P (m + 1) (m + 2)) (gm_S n P (m + 1) n) - gm_t (gm_S n P 1 (m + 2)) (gm_S n P 1 n)) = gm_sum m (fun s => gm_t (gm_S n P (s + 1) n) (gm_S n P (s + 2) n)) := by
    rw [← gm_sum_tele m (fun s => gm_t (gm_S n P (s + 1) (m + 2)) (gm_S n P (s + 1) n)), ← gm_sum_add]
    refine gm_sum_congr (fun s hs => ?_)
    have q := hsep (s + 1) (m + 2) (by omega) (by omega) (by omega) (by unfold gm_nx; split <;> omega) (by unfold gm_nx; split <;> omega)
    rw [gm_V_nx n P, gm_V_nx n P, ← gm_V_lt (P := P) (show s + 1 < n by omega), ← gm_V_lt (P := P) (show m + 2 < n by omega), hmn] at q
    have := gm_S_half (s := s + 1) (s' := s + 1 + 1) (t := m + 2) (t' := n) q
    rw [show s + 2 = s + 1 + 1 from rfl]
    omega
  have tri1 : gm_t (gm_S n P (m + 1) (m + 2)) (gm_S n P (m + 1) n) + gm_t (gm_S n P (m + 1) n) (gm_S n P (m + 2) n) = gm_t (gm_d n P (m + 1)) (gm_d n P (m + 2)) := by
    have e1 : gm_S n P (m + 1) (m + 2) = gm_d n P (m + 1) := gm_S_d (by omega)
    have e2 : gm_S n P (m + 2) n = gm_d n P (m + 2) := by have := gm_S_d (P := P) hm2; rw [hmn] at this; exact this
    rw [e1, e2]
    refine gm_tri ?_ ?_ ?_
    · have := ht (m + 1) (by omega)
      rw [show gm_nx n (m + 1) = m + 2 from if_neg (by omega)] at this
      exact this
    · rw [← e1, ← e2]
      show (gm_V n P n).1 - (gm_V n P (m + 1)).1 = ((gm_V n P (m + 2)).1 - (gm_V n P (m + 1)).1) + ((gm_V n P n).1 - (gm_V n P (m + 2)).1)
      omega
    · rw [← e1, ← e2]
      show (gm_V n P n).2 - (gm_V n P (m + 1)).2 = ((gm_V n P (m + 2)).2 - (gm_V n P (m + 1)).2) + ((gm_V n P n).2 - (gm_V n P (m + 2)).2)
      omega
  have tl : gm_tn (gm_d n P (m + 2)) (gm_d n P 0) := by
    have := ht (m + 2) hm2
    rw [show gm_nx n (m + 2) = 0 from if_pos (by omega)] at this
    exact this
  have d2 : gm_d n P (m + 2) = gm_v (gm_V n P (m + 2)) (gm_V n P 0) := by
    have := gm_S_d (P := P) hm2
    rw [← this, hmn]; unfold gm_S; rw [hV]
  have d0 : gm_d n P 0 = gm_v (gm_V n P 0) (gm_V n P 1) := (gm_S_d (P := P) (by omega)).symm
  have tri2 : gm_t (gm_S n P 0 (m + 2)) (gm_S n P 1 (m + 2)) + gm_t (gm_S n P 1 (m + 2)) (gm_S n P 1 n) = gm_t (gm_d n P (m + 2)) (gm_d n P 0) := by
    have e1 : gm_S n P 0 (m + 2) = (-(gm_d n P (m + 2)).1, -(gm_d n P (m + 2)).2) := by
      rw [d2]
      refine Prod.ext ?_ ?_
      · show (gm_V n P (m + 2)).1 - (gm_V n P 0).1 = -((gm_V n P 0).1 - (gm_V n P (m + 2)).1); omega
      · show (gm_V n P (m + 2)).2 - (gm_V n P 0).2 = -((gm_V n P 0).2 - (gm_V n P (m + 2)).2); omega
    have e2 : gm_S n P 1 n = (-(gm_d n P 0).1, -(gm_d n P 0).2) := by
      rw [d0]
      refine Prod.ext ?_ ?_
      · show (gm_V n P n).1 - (gm_V n P 1).1 = -((gm_V n P 1).1 - (gm_V n P 0).1); rw [hV]; omega
      · show (gm_V n P n).2 - (gm_V n P 1).2 = -((gm_V n P 1).2 - (gm_V n P 0).2); rw [hV]; omega
    rw [← gm_t_neg (gm_tn_ne tl).1 (gm_tn_ne tl).2, ← e1, ← e2]
    refine gm_tri ?_ ?_ ?_
    · rw [e1, e2]; exact gm_tn_neg tl
    · show (gm_V n P (m + 2)).1 - (gm_V n P 1).1 = ((gm_V n P (m + 2)).1 - (gm_V n P 0).1) + ((gm_V n P n).1 - (gm_V n P 1).1)
      rw [hV]; omega
    · show (gm_V n P (m + 2)).2 - (gm_V n P 1).2 = ((gm_V n P (m + 2)).2 - (gm_V n P 0).2) + ((gm_V n P n).2 - (gm_V n P 1).2)
      rw [hV]; omega
  -- the line to the first corner turns as that from it
  have hne : ∀ k, 0 < k → k < n → ¬ ((gm_S n P 0 k).1 = 0 ∧ (gm_S n P 0 k).2 = 0) := by
    intro k hk hkn q
    have q1 : (gm_V n P k).1 - (gm_V n P 0).1 = 0 := q.1
    have q2 : (gm_V n P k).2 - (gm_V n P 0).2 = 0 := q.2
    by_cases k1 : k = 1
    · subst k1
      have := (gm_tn_ne tl).2
      rw [d0] at this
      exact this ⟨q1, q2⟩
    by_cases k2 : k = m + 2
    · subst k2
      have := (gm_tn_ne tl).1
      rw [d2] at this
      refine this ⟨?_, ?_⟩
      · show (gm_V n P 0).1 - (gm_V n P (m + 2)).1 = 0; omega
      · show (gm_V n P 0).2 - (gm_V n P (m + 2)).2 = 0; omega
    obtain ⟨α, β, γ, f1, -, f3, -⟩ := hsep 0 k (by omega) hkn (by omega) (by unfold gm_nx; split <;> omega) (by unfold gm_nx; split <;> omega)
    rw [gm_V_lt hkn, gm_V_lt (show 0 < n by omega)] at q1 q2
    rw [show (P k).1 = (P 0).1 by omega, show (P k).2 = (P 0).2 by omega] at f3
    omega
  have leg2 : gm_sum (m + 1) (fun s => gm_t (gm_S n P (s + 1) n) (gm_S n P (s + 2) n)) = gm_sum (m + 1) (fun i => gm_t (gm_S n P 0 (i + 1)) (gm_S n P 0 (i + 2))) := by
    refine gm_sum_congr (fun s hs => ?_)
    have e : ∀ k, gm_S n P k n = (-(gm_S n P 0 k).1, -(gm_S n P 0 k).2) := by
      intro k
      refine Prod.ext ?_ ?_
      · show (gm_V n P n).1 - (gm_V n P k).1 = -((gm_V n P k).1 - (gm_V n P 0).1); rw [hV]; omega
      · show (gm_V n P n).2 - (gm_V n P k).2 = -((gm_V n P k).2 - (gm_V n P 0).2); rw [hV]; omega
    rw [e, e]
    exact gm_t_neg (hne _ (by omega) (by omega)) (hne _ (by omega) (by omega))
  -- together
  have all : gm_sum n (fun k => gm_t (gm_d n P k) (gm_d n P (gm_nx n k))) = gm_sum (m + 1) (fun i => gm_t (gm_S n P i (i + 1)) (gm_S n P (i + 1) (i + 2))) + gm_t (gm_d n P (m + 1)) (gm_d n P (m + 2)) + gm_t (gm_d n P (m + 2)) (gm_d n P 0) := by
    rw [← hn]
    show gm_sum (m + 1) (fun k => gm_t (gm_d (m + 3) P k) (gm_d (m + 3) P (gm_nx (m + 3) k))) + gm_t (gm_d (m + 3) P (m + 1)) (gm_d (m + 3) P (gm_nx (m + 3) (m + 1))) + gm_t (gm_d (m + 3) P (m + 2)) (gm_d (m + 3) P (gm_nx (m + 3) (m + 2))) = _
    rw [hn, show gm_nx n (m + 1) = m + 2 from if_neg (by omega), show gm_nx n (m + 2) = 0 from if_pos (by omega)]
    refine congrArg (fun z => z + _ + _) (gm_sum_congr (fun k hk => ?_))
    rw [gm_S_d (show k < n by omega), gm_S_d (show k + 1 < n by omega), show gm_nx n k = k + 1 from if_neg (by omega)]
  have sh : gm_sum (m + 1) (fun s => gm_t (gm_S n P s (m + 2)) (gm_S n P (s + 1) (m + 2))) = gm_t (gm_S n P 0 (m + 2)) (gm_S n P 1 (m + 2)) + gm_sum m (fun s => gm_t (gm_S n P (s + 1) (m + 2)) (gm_S n P (s + 2) (m + 2))) := gm_sum_shift m (fun s => gm_t (gm_S n P s (m + 2)) (gm_S n P (s + 1) (m + 2)))
  have leg3 : gm_sum m (fun s => gm_t (gm_S n P (s + 1) n) (gm_S n P (s + 2) n)) + gm_t (gm_S n P (m + 1) n) (gm_S n P (m + 2) n) = gm_sum (m + 1) (fun i => gm_t (gm_S n P 0 (i + 1)) (gm_S n P 0 (i + 2))) := leg2
  rw [all, h1]
  have h1' : gm_sum (m + 1) (fun s => gm_t (gm_S n P s (m + 1 + 1)) (gm_S n P (s + 1) (m + 1 + 1))) = gm_sum (m + 1) (fun s => gm_t (gm_S n P s (m + 2)) (gm_S n P (s + 1) (m + 2))) := rfl
  rw [h1', sh]
  omega
