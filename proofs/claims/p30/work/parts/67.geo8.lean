/-! geometry 8: points off a ring, by the nearest side to the right -/
def gm_sc (D : Int) (v : Pt) : Pt := (D * v.1, D * v.2)
theorem gm_sc_cr (D : Int) (a b p : Pt) : gm_cr (gm_sc D a) (gm_sc D b) (gm_sc D p) = D * D * gm_cr a b p := by unfold gm_cr gm_sc; grind
theorem gm_sc_le {D x y : Int} (hD : 0 < D) : D * x ≤ D * y ↔ x ≤ y := by
  constructor
  · intro h
    refine Int.not_lt.mp (fun k => ?_)
    have := Int.mul_lt_mul_of_pos_left k hD
    omega
  · intro h; exact Int.mul_le_mul_of_nonneg_left h (by omega)
theorem gm_sc_lt {D x y : Int} (hD : 0 < D) : D * x < D * y ↔ x < y := by
  constructor
  · intro h
    refine Int.not_le.mp (fun k => ?_)
    have := Int.mul_le_mul_of_nonneg_left k (show 0 ≤ D by omega)
    omega
  · intro h; exact Int.mul_lt_mul_of_pos_left h hD
theorem gm_sc_sg {D x : Int} (hD : 0 < D) : (0 < D * D * x ↔ 0 < x) ∧ (D * D * x < 0 ↔ x < 0) := by
  have h := gm_sgn (x := D * D * x) (y := x) (q := 1) (s := D * D) (by omega) (Int.mul_pos hD hD) (by rw [Int.mul_one, Int.mul_comm x])
  exact h
theorem gm_sc_c {D : Int} (hD : 0 < D) (p a b : Pt) : gm_c (gm_sc D p) (gm_sc D a) (gm_sc D b) = gm_c p a b := by
  have h1 := gm_sc_sg (x := gm_cr a b p) hD
  have h2 := gm_sc_cr D a b p
  have h3 : (gm_sc D a).2 ≤ (gm_sc D p).2 ↔ a.2 ≤ p.2 := gm_sc_le hD
  have h4 : (gm_sc D p).2 < (gm_sc D b).2 ↔ p.2 < b.2 := gm_sc_lt hD
  have h5 : (gm_sc D b).2 ≤ (gm_sc D p).2 ↔ b.2 ≤ p.2 := gm_sc_le hD
  have h6 : (gm_sc D p).2 < (gm_sc D a).2 ↔ p.2 < a.2 := gm_sc_lt hD
  unfold gm_c
  rw [h2]
  simp only [h1.1, h1.2, h3, h4, h5, h6]
theorem gm_sc_w {D : Int} (hD : 0 < D) (n : Nat) (P : Nat → Pt) (p : Pt) : gm_w n (fun k => gm_sc D (P k)) (gm_sc D p) = gm_w n P p :=
  gm_sum_congr (fun k hk => gm_sc_c hD p (P k) (P (gm_nx n k)))
theorem gm_sc_d (D : Int) (n : Nat) (P : Nat → Pt) (k : Nat) : gm_d n (fun k => gm_sc D (P k)) k = gm_sc D (gm_d n P k) := by
  unfold gm_d gm_v gm_sc
  refine Prod.ext ?_ ?_
  · exact (Int.mul_sub _ _ _).symm
  · exact (Int.mul_sub _ _ _).symm
theorem gm_sc_u {D : Int} (hD : 0 < D) (d : Pt) : gm_u (gm_sc D d) = gm_u d := by
  have h1 := gm_sgn (x := D * d.1) (y := d.1) (q := 1) (s := D) (by omega) hD (by rw [Int.mul_one, Int.mul_comm])
  have h2 := gm_sgn (x := D * d.2) (y := d.2) (q := 1) (s := D) (by omega) hD (by rw [Int.mul_one, Int.mul_comm])
  unfold gm_u gm_sc
  dsimp only
  (repeat' split) <;> omega
theorem gm_sc_x (D : Int) (d e : Pt) : gm_x (gm_sc D d) (gm_sc D e) = D * D * gm_x d e := by unfold gm_x gm_sc; grind
theorem gm_sc_l {D : Int} (hD : 0 < D) (n : Nat) (P : Nat → Pt) (k : Nat) : gm_l n (fun k => gm_sc D (P k)) k = gm_l n P k := by
  unfold gm_l
  rw [gm_sc_w hD, gm_sc_d, gm_sc_d, gm_sc_u hD, gm_sc_u hD, gm_sc_x]
  have := gm_sc_sg (x := gm_x (gm_d n P k) (gm_d n P (gm_nx n k))) hD
  simp only [this.1, this.2]
theorem gm_sc_tn {D : Int} (hD : 0 < D) {d e : Pt} (h : gm_tn d e) : gm_tn (gm_sc D d) (gm_sc D e) := by
  rcases h with h | h
  · left
    rw [gm_sc_x]
    have := gm_sc_sg (x := gm_x d e) hD
    omega
  · right
    have := gm_sc_sg (x := d.1 * e.1 + d.2 * e.2) hD
    have e : (gm_sc D d).1 * (gm_sc D e).1 + (gm_sc D d).2 * (gm_sc D e).2 = D * D * (d.1 * e.1 + d.2 * e.2) := by unfold gm_sc; grind
    rw [e]
    exact this.1.mpr h
theorem gm_sc_sep {D : Int} (hD : 0 < D) {a b c d : Pt} (h : gm_sep a b c d) : gm_sep (gm_sc D a) (gm_sc D b) (gm_sc D c) (gm_sc D d) := by
  obtain ⟨α, β, γ, h1, h2, h3, h4⟩ := h
  have e : ∀ v : Pt, α * (gm_sc D v).1 + β * (gm_sc D v).2 + D * γ = D * (α * v.1 + β * v.2 + γ) := by intro v; unfold gm_sc; grind
  refine ⟨α, β, D * γ, ?_, ?_, ?_, ?_⟩
  · rw [e]; exact Int.mul_neg_of_pos_of_neg hD h1
  · rw [e]; exact Int.mul_neg_of_pos_of_neg hD h2
  · rw [e]; exact Int.mul_pos hD h3
  · rw [e]; exact Int.mul_pos hD h4
theorem gm_sc_simple {D : Int} (hD : 0 < D) {n : Nat} {P : Nat → Pt} (h : gm_simple n P) : gm_simple n (fun k => gm_sc D (P k)) := by
  refine ⟨h.1, fun k hk => ?_, fun j k hj hk a b c => gm_sc_sep hD (h.2.2 j k hj hk a b c)⟩
  rw [gm_sc_d, gm_sc_d]
  exact gm_sc_tn hD (h.2.1 k hk)
/-- on a side: the other way of counting gives the number at the left hand or one less -/
theorem gm_ww_ring {n : Nat} {P : Nat → Pt} (hs : gm_simple n P) {k : Nat} (hk : k < n) {z : Pt} (hz : gm_on (P k) (P (gm_nx n k)) z) : gm_ww n P z = gm_l n P 0 ∨ gm_ww n P z = gm_l n P 0 - 1 := by
  have corner : ∀ i, i < n → gm_ww n P (P (gm_nx n i)) = gm_l n P 0 ∨ gm_ww n P (P (gm_nx n i)) = gm_l n P 0 - 1 := by
    intro i hi
    have e1 := gm_corner_ww hs hi
    have e2 := gm_l_const hs i hi
    have t1 := hs.2.1 i hi
    have x1 := gm_tn_x t1
    have ne := gm_tn_ne t1
    have ud := gm_u_iff (gm_d n P i)
    have ue := gm_u_iff (gm_d n P (gm_nx n i))
    have ud0 := gm_u_01 (gm_d n P i)
    have ue0 := gm_u_01 (gm_d n P (gm_nx n i))
    have d2 : (gm_d n P i).2 = (P (gm_nx n i)).2 - (P i).2 := rfl
    have f2 : (gm_d n P (gm_nx n i)).2 = (P (gm_nx n (gm_nx n i))).2 - (P (gm_nx n i)).2 := rfl
    have xx : gm_x (gm_d n P i) (gm_d n P (gm_nx n i)) = (gm_d n P i).1 * (gm_d n P (gm_nx n i)).2 - (gm_d n P i).2 * (gm_d n P (gm_nx n i)).1 := rfl
    have a1 : (gm_d n P i).2 < 0 → (gm_d n P (gm_nx n i)).2 = 0 → (gm_d n P (gm_nx n i)).1 < 0 → gm_x (gm_d n P i) (gm_d n P (gm_nx n i)) < 0 := by
      intro p q r
      have := Int.mul_pos_of_neg_of_neg p r
      rw [xx, q, Int.mul_zero]; omega
    have a2 : (gm_d n P i).2 = 0 → 0 < (gm_d n P i).1 → 0 < (gm_d n P (gm_nx n i)).2 → 0 < gm_x (gm_d n P i) (gm_d n P (gm_nx n i)) := by
      intro p q r
      have := Int.mul_pos q r
      rw [xx, p, Int.zero_mul]; omega
    have a3 : (gm_d n P i).2 = 0 → (gm_d n P (gm_nx n i)).2 = 0 → gm_x (gm_d n P i) (gm_d n P (gm_nx n i)) = 0 := by
      intro p q
      rw [xx, p, q, Int.zero_mul, Int.mul_zero]; omega
    generalize gm_l n P 0 = K at e2 ⊢
    unfold gm_l at e2
    clear xx
    (repeat' split at e1) <;> (repeat' split at e2) <;> omega
  by_cases ha : z = P k
  · obtain ⟨i, hi, hik⟩ : ∃ i, i < n ∧ gm_nx n i = k := by
      have h3 := hs.1
      by_cases e : k = 0
      · exact ⟨n - 1, by omega, by rw [e]; exact if_pos (by omega)⟩
      · exact ⟨k - 1, by omega, by rw [show gm_nx n (k - 1) = k - 1 + 1 from if_neg (by omega)]; omega⟩
    rw [ha, ← hik]
    exact corner i hi
  by_cases hb : z = P (gm_nx n k)
  · rw [hb]; exact corner k hk
  obtain ⟨e1, e2⟩ := gm_inner hs hk hz ha hb
  have ud := gm_u_iff (gm_d n P k)
  have ud0 := gm_u_01 (gm_d n P k)
  have d2 : (gm_d n P k).2 = (P (gm_nx n k)).2 - (P k).2 := rfl
  (repeat' split at e2) <;> omega
theorem gm_rat {a b c d e f : Int} (hb : 0 < b) (hd : 0 < d) (hf : 0 < f) (h1 : a * d ≤ c * b) (h2 : c * f ≤ e * d) : a * f ≤ e * b := by
  have k1 := Int.mul_le_mul_of_nonneg_right h1 (show 0 ≤ f by omega)
  have k2 := Int.mul_le_mul_of_nonneg_right h2 (show 0 ≤ b by omega)
  have e1 : d * (a * f) = a * d * f := by grind
  have e2 : d * (e * b) = e * d * b := by grind
  have e3 : c * b * f = c * f * b := by grind
  exact (gm_sc_le hd).mp (by omega)
theorem gm_argmin (S : Nat → Prop) (N D : Nat → Int) : ∀ M : Nat, (∀ j, j < M → S j → 0 < D j) → (∃ j, j < M ∧ S j) → ∃ e, e < M ∧ S e ∧ ∀ j, j < M → S j → N e * D j ≤ N j * D e := by
  intro M
  induction M with
  | zero => rintro - ⟨j, hj, -⟩; omega
  | succ M ih =>
    rintro hD ⟨j, hj, hS⟩
    by_cases hex : ∃ j, j < M ∧ S j
    · obtain ⟨e, he, hSe, hm⟩ := ih (fun j hj => hD j (by omega)) hex
      by_cases hM : S M ∧ N M * D e < N e * D M
      · refine ⟨M, by omega, hM.1, fun j hj hSj => ?_⟩
        by_cases ej : j = M
        · rw [ej]; omega
        · exact gm_rat (hD M (by omega) hM.1) (hD e (by omega) hSe) (hD j (by omega) hSj) (by omega) (hm j (by omega) hSj)
      · refine ⟨e, by omega, hSe, fun j hj hSj => ?_⟩
        by_cases ej : j = M
        · subst ej
          exact Int.not_lt.mp (fun k => hM ⟨hSj, k⟩)
        · exact hm j (by omega) hSj
    · have ej : j = M := by
        by_cases q : j = M
        · exact q
        · exact absurd ⟨j, by omega, hS⟩ hex
      subst ej
      refine ⟨j, by omega, hS, fun i hi hSi => ?_⟩
      by_cases q : i = j
      · rw [q]; omega
      · exact absurd ⟨i, by omega, hSi⟩ hex
/-- where the side meets the row of p: a fraction, its bottom above 0 for a side that isn't level -/
def gm_hD (a b : Pt) : Int := if a.2 ≤ b.2 then b.2 - a.2 else a.2 - b.2
def gm_hN (p a b : Pt) : Int := if a.2 ≤ b.2 then a.1 * (b.2 - a.2) + (b.1 - a.1) * (p.2 - a.2) else a.1 * (a.2 - b.2) - (b.1 - a.1) * (p.2 - a.2)
/-- on the row, on the straight line: on the side -/
theorem gm_on_row {a b p : Pt} (hc : gm_cr a b p = 0) (hr : (a.2 ≤ p.2 ∧ p.2 < b.2) ∨ (b.2 ≤ p.2 ∧ p.2 < a.2)) : gm_on a b p := by
  refine ⟨hc, ?_, by omega⟩
  unfold gm_cr at hc
  rcases hr with h | h
  · have := gm_btw (q := b.2 - a.2) (u := b.1 - a.1) (s := p.2 - a.2) (v := p.1 - a.1) (by omega) (by omega) (by omega) (by rw [Int.mul_comm (p.1 - a.1)]; omega)
    omega
  · have := gm_btw (q := a.2 - b.2) (u := b.1 - a.1) (s := a.2 - p.2) (v := p.1 - a.1) (by omega) (by omega) (by omega) (by grind)
    omega
/-- the side that is met first from p to the right -/
theorem gm_near {M : Nat} {A B : Nat → Pt} {p : Pt} (hoff : ∀ j, j < M → ¬ gm_on (A j) (B j) p) (hex : ∃ j, j < M ∧ gm_c p (A j) (B j) ≠ 0) :
    ∃ (e : Nat) (D : Int) (z : Pt), e < M ∧ 0 < D ∧ gm_on (gm_sc D (A e)) (gm_sc D (B e)) z ∧ ∀ j, j < M → gm_cw z (gm_sc D (A j)) (gm_sc D (B j)) = gm_c p (A j) (B j) := by
  have span : ∀ a b : Pt, gm_c p a b ≠ 0 → (a.2 ≤ p.2 ∧ p.2 < b.2 ∧ 0 < gm_cr a b p) ∨ (b.2 ≤ p.2 ∧ p.2 < a.2 ∧ gm_cr a b p < 0) := by
    intro a b h
    unfold gm_c at h
    split at h
    · exact Or.inl (by assumption)
    · split at h
      · exact Or.inr (by assumption)
      · exact absurd rfl h
  obtain ⟨e, he, hSe, hm⟩ := gm_argmin (fun j => gm_c p (A j) (B j) ≠ 0) (fun j => gm_hN p (A j) (B j)) (fun j => gm_hD (A j) (B j)) M (fun j hj hS => by
    have := span _ _ hS
    unfold gm_hD
    split <;> omega) hex
  have se := span _ _ hSe
  have hD : 0 < gm_hD (A e) (B e) := by unfold gm_hD; split <;> omega
  -- the hit lies right of p
  have hr : gm_hD (A e) (B e) * p.1 < gm_hN p (A e) (B e) := by
    unfold gm_hD gm_hN
    unfold gm_cr at se
    split
    · rcases se with se | se
      · have : (A e).1 * ((B e).2 - (A e).2) + ((B e).1 - (A e).1) * (p.2 - (A e).2) - ((B e).2 - (A e).2) * p.1 = ((B e).1 - (A e).1) * (p.2 - (A e).2) - ((B e).2 - (A e).2) * (p.1 - (A e).1) := by grind
        omega
      · omega
    · rcases se with se | se
      · omega
      · have : (A e).1 * ((A e).2 - (B e).2) - ((B e).1 - (A e).1) * (p.2 - (A e).2) - ((A e).2 - (B e).2) * p.1 = -(((B e).1 - (A e).1) * (p.2 - (A e).2) - ((B e).2 - (A e).2) * (p.1 - (A e).1)) := by grind
        omega
  refine ⟨e, gm_hD (A e) (B e), (gm_hN p (A e) (B e), gm_hD (A e) (B e) * p.2), he, hD, ?_, ?_⟩
  · refine gm_on_row ?_ ?_
    · unfold gm_cr gm_sc gm_hN gm_hD
      dsimp only
      split <;> grind
    · show ((gm_hD (A e) (B e) * (A e).2 ≤ gm_hD (A e) (B e) * p.2 ∧ gm_hD (A e) (B e) * p.2 < gm_hD (A e) (B e) * (B e).2) ∨ (gm_hD (A e) (B e) * (B e).2 ≤ gm_hD (A e) (B e) * p.2 ∧ gm_hD (A e) (B e) * p.2 < gm_hD (A e) (B e) * (A e).2))
      rw [gm_sc_le hD, gm_sc_le hD, gm_sc_lt hD, gm_sc_lt hD]
      omega
  · intro j hj
    have off := hoff j hj
    have hmj := hm j hj
    -- the sign of the turn at the hit
    have ecr : gm_cr (gm_sc (gm_hD (A e) (B e)) (A j)) (gm_sc (gm_hD (A e) (B e)) (B j)) (gm_hN p (A e) (B e), gm_hD (A e) (B e) * p.2) =
        gm_hD (A e) (B e) * (gm_hD (A e) (B e) * ((A j).1 * ((B j).2 - (A j).2) + ((B j).1 - (A j).1) * (p.2 - (A j).2)) - ((B j).2 - (A j).2) * gm_hN p (A e) (B e)) := by
      unfold gm_cr gm_sc
      dsimp only
      grind
    have ecp : gm_cr (A j) (B j) p = ((A j).1 * ((B j).2 - (A j).2) + ((B j).1 - (A j).1) * (p.2 - (A j).2)) - ((B j).2 - (A j).2) * p.1 := by
      unfold gm_cr; grind
    have r1 : (gm_sc (gm_hD (A e) (B e)) (A j)).2 ≤ gm_hD (A e) (B e) * p.2 ↔ (A j).2 ≤ p.2 := gm_sc_le hD
    have r2 : gm_hD (A e) (B e) * p.2 < (gm_sc (gm_hD (A e) (B e)) (B j)).2 ↔ p.2 < (B j).2 := gm_sc_lt hD
    have r3 : (gm_sc (gm_hD (A e) (B e)) (B j)).2 ≤ gm_hD (A e) (B e) * p.2 ↔ (B j).2 ≤ p.2 := gm_sc_le hD
    have r4 : gm_hD (A e) (B e) * p.2 < (gm_sc (gm_hD (A e) (B e)) (A j)).2 ↔ p.2 < (A j).2 := gm_sc_lt hD
    by_cases up : (A j).2 ≤ p.2 ∧ p.2 < (B j).2
    · have hn : gm_cr (A j) (B j) p ≠ 0 := fun q => off (gm_on_row q (Or.inl up))
      have hDj : gm_hD (A j) (B j) = (B j).2 - (A j).2 := if_pos (by omega)
      have hNj : gm_hN p (A j) (B j) = (A j).1 * ((B j).2 - (A j).2) + ((B j).1 - (A j).1) * (p.2 - (A j).2) := if_pos (by omega)
      by_cases pos : 0 < gm_cr (A j) (B j) p
      · have c1 : gm_c p (A j) (B j) = 1 := if_pos ⟨up.1, up.2, pos⟩
        have k := hmj (by rw [c1]; decide)
        rw [hDj, hNj] at k
        have k2 : 0 ≤ gm_cr (gm_sc (gm_hD (A e) (B e)) (A j)) (gm_sc (gm_hD (A e) (B e)) (B j)) (gm_hN p (A e) (B e), gm_hD (A e) (B e) * p.2) := by
          rw [ecr]
          refine Int.mul_nonneg (by omega) ?_
          rw [Int.mul_comm ((B j).2 - (A j).2), Int.mul_comm (gm_hD (A e) (B e))]
          omega
        rw [c1]
        exact if_pos ⟨r1.mpr up.1, r2.mpr up.2, k2⟩
      · have c1 : gm_c p (A j) (B j) = 0 := by
          unfold gm_c
          rw [if_neg (fun q => pos q.2.2), if_neg (fun q => by omega)]
        have k2 : gm_cr (gm_sc (gm_hD (A e) (B e)) (A j)) (gm_sc (gm_hD (A e) (B e)) (B j)) (gm_hN p (A e) (B e), gm_hD (A e) (B e) * p.2) < 0 := by
          rw [ecr]
          refine Int.mul_neg_of_pos_of_neg hD ?_
          have q1 := Int.mul_lt_mul_of_pos_left hr (show 0 < (B j).2 - (A j).2 by omega)
          have q2 := Int.mul_lt_mul_of_pos_left (show (A j).1 * ((B j).2 - (A j).2) + ((B j).1 - (A j).1) * (p.2 - (A j).2) < ((B j).2 - (A j).2) * p.1 by omega) hD
          have q3 : gm_hD (A e) (B e) * (((B j).2 - (A j).2) * p.1) = ((B j).2 - (A j).2) * (gm_hD (A e) (B e) * p.1) := by grind
          omega
        rw [c1]
        unfold gm_cw
        rw [if_neg (fun q => by omega), if_neg (fun q => by have := r3.mp q.1; omega)]
    · by_cases dn : (B j).2 ≤ p.2 ∧ p.2 < (A j).2
      · have hn : gm_cr (A j) (B j) p ≠ 0 := fun q => off (gm_on_row q (Or.inr dn))
        have hDj : gm_hD (A j) (B j) = (A j).2 - (B j).2 := if_neg (by omega)
        have hNj : gm_hN p (A j) (B j) = (A j).1 * ((A j).2 - (B j).2) - ((B j).1 - (A j).1) * (p.2 - (A j).2) := if_neg (by omega)
        by_cases pos : gm_cr (A j) (B j) p < 0
        · have c1 : gm_c p (A j) (B j) = -1 := by
            unfold gm_c
            rw [if_neg (fun q => by omega), if_pos ⟨dn.1, dn.2, pos⟩]
          have k := hmj (by rw [c1]; decide)
          rw [hDj, hNj] at k
          have k2 : gm_cr (gm_sc (gm_hD (A e) (B e)) (A j)) (gm_sc (gm_hD (A e) (B e)) (B j)) (gm_hN p (A e) (B e), gm_hD (A e) (B e) * p.2) ≤ 0 := by
            rw [ecr]
            refine Int.mul_nonpos_of_nonneg_of_nonpos (by omega) ?_
            have q3 : gm_hD (A e) (B e) * ((A j).1 * ((B j).2 - (A j).2) + ((B j).1 - (A j).1) * (p.2 - (A j).2)) - ((B j).2 - (A j).2) * gm_hN p (A e) (B e) = gm_hN p (A e) (B e) * ((A j).2 - (B j).2) - ((A j).1 * ((A j).2 - (B j).2) - ((B j).1 - (A j).1) * (p.2 - (A j).2)) * gm_hD (A e) (B e) := by grind
            omega
          rw [c1]
          unfold gm_cw
          rw [if_neg (fun q => up ⟨r1.mp q.1, r2.mp q.2.1⟩), if_pos ⟨r3.mpr dn.1, r4.mpr dn.2, k2⟩]
        · have c1 : gm_c p (A j) (B j) = 0 := by
            unfold gm_c
            rw [if_neg (fun q => by omega), if_neg (fun q => pos q.2.2)]
          have k2 : 0 < gm_cr (gm_sc (gm_hD (A e) (B e)) (A j)) (gm_sc (gm_hD (A e) (B e)) (B j)) (gm_hN p (A e) (B e), gm_hD (A e) (B e) * p.2) := by
            rw [ecr]
            refine Int.mul_pos hD ?_
            have q1 := Int.mul_lt_mul_of_pos_left hr (show 0 < (A j).2 - (B j).2 by omega)
            have q2 := Int.mul_lt_mul_of_pos_left (show ((B j).2 - (A j).2) * p.1 < (A j).1 * ((B j).2 - (A j).2) + ((B j).1 - (A j).1) * (p.2 - (A j).2) by omega) hD
            have q3 : gm_hD (A e) (B e) * (((B j).2 - (A j).2) * p.1) = -(((A j).2 - (B j).2) * (gm_hD (A e) (B e) * p.1)) := by grind
            have q4 : ((A j).2 - (B j).2) * gm_hN p (A e) (B e) = -(((B j).2 - (A j).2) * gm_hN p (A e) (B e)) := by grind
            omega
          rw [c1]
          unfold gm_cw
          rw [if_neg (fun q => up ⟨r1.mp q.1, r2.mp q.2.1⟩), if_neg (fun q => by omega)]
      · have c1 : gm_c p (A j) (B j) = 0 := by
          unfold gm_c
          rw [if_neg (fun q => by omega), if_neg (fun q => by omega)]
        rw [c1]
        unfold gm_cw
        rw [if_neg (fun q => up ⟨r1.mp q.1, r2.mp q.2.1⟩), if_neg (fun q => dn ⟨r3.mp q.1, r4.mp q.2.1⟩)]
/-- off the ring the winding is 0 or that of the ring's inside -/
theorem gm_off {n : Nat} {P : Nat → Pt} (hs : gm_simple n P) {p : Pt} (hoff : ∀ k, k < n → ¬ gm_on (P k) (P (gm_nx n k)) p) : gm_w n P p = 0 ∨ gm_w n P p = 2 * gm_l n P 0 - 1 := by
  by_cases hex : ∃ j, j < n ∧ gm_c p (P j) (P (gm_nx n j)) ≠ 0
  · obtain ⟨e, D, z, he, hD, hz, hj⟩ := gm_near (A := P) (B := fun k => P (gm_nx n k)) hoff hex
    have k1 : gm_w n P p = gm_ww n (fun k => gm_sc D (P k)) z := (gm_sum_congr (fun k hk => hj k hk)).symm
    have k2 := gm_ww_ring (gm_sc_simple hD hs) he hz
    rw [gm_sc_l hD] at k2
    have k3 := gm_l_01 hs
    omega
  · left
    exact gm_sum_zero (fun k hk => Classical.byContradiction (fun q => hex ⟨k, hk, q⟩))
