/-! geometry 3: turnings -/
def gm_v (a b : Pt) : Pt := (b.1 - a.1, b.2 - a.2)
def gm_x (d e : Pt) : Int := d.1 * e.2 - d.2 * e.1
/-- 1 for a way upwards (or straight to the left) -/
def gm_u (d : Pt) : Int := if 0 < d.2 ∨ (d.2 = 0 ∧ d.1 < 0) then 1 else 0
/-- half turns from d to e -/
def gm_t (d e : Pt) : Int := if gm_u d = gm_u e then 0 else if 0 < gm_x d e then 1 else if gm_x d e < 0 then -1 else 0
/-- not turned back -/
def gm_tn (d e : Pt) : Prop := gm_x d e ≠ 0 ∨ 0 < d.1 * e.1 + d.2 * e.2
theorem gm_u_01 (d : Pt) : gm_u d = 0 ∨ gm_u d = 1 := by unfold gm_u; split <;> simp
theorem gm_u_iff (d : Pt) : gm_u d = 1 ↔ (0 < d.2 ∨ (d.2 = 0 ∧ d.1 < 0)) := by unfold gm_u; split <;> simp_all
theorem gm_u_iff0 (d : Pt) : gm_u d = 0 ↔ (d.2 < 0 ∨ (d.2 = 0 ∧ 0 ≤ d.1)) := by
  unfold gm_u
  split <;> omega
theorem gm_tc {α β : Int} {d e : Pt} (hd : 0 < α * d.1 + β * d.2) (he : 0 < α * e.1 + β * e.2) : gm_t d e = if 0 < α then gm_u e - gm_u d else gm_u d - gm_u e := by
  have key : α * gm_x d e = e.2 * (α * d.1 + β * d.2) - d.2 * (α * e.1 + β * e.2) := by unfold gm_x; grind
  have pz : ∀ v : Pt, v.2 = 0 → 0 < α * v.1 + β * v.2 → 0 < α * v.1 := fun v h1 h2 => by rw [h1, Int.mul_zero] at h2; omega
  rcases Int.lt_trichotomy α 0 with ha | ha | ha
  · rw [if_neg (by omega)]
    have dn : ∀ v : Pt, 0 < α * v.1 + β * v.2 → gm_u v = 0 → v.2 < 0 := by
      intro v h1 h2
      rcases (gm_u_iff0 v).mp h2 with k | k
      · exact k
      · have := pz v k.1 h1
        have := Int.mul_nonpos_of_nonpos_of_nonneg (Int.le_of_lt ha) k.2
        omega
    have up : ∀ v : Pt, gm_u v = 1 → 0 ≤ v.2 := by
      intro v h2
      rcases (gm_u_iff v).mp h2 with k | k <;> omega
    unfold gm_t
    rcases gm_u_01 d with ud | ud <;> rcases gm_u_01 e with ue | ue <;> rw [ud, ue]
    · rfl
    · have h1 := dn d hd ud
      have h2 := up e ue
      have a1 : 0 ≤ e.2 * (α * d.1 + β * d.2) := Int.mul_nonneg h2 (Int.le_of_lt hd)
      have a2 : d.2 * (α * e.1 + β * e.2) < 0 := Int.mul_neg_of_neg_of_pos h1 he
      have a3 : 0 < α * gm_x d e := by omega
      rcases gm_sg' a3 with k | k
      · rw [if_neg (by decide), if_neg (by omega), if_pos k.2]; rfl
      · omega
    · have h1 := dn e he ue
      have h2 := up d ud
      have a1 : e.2 * (α * d.1 + β * d.2) < 0 := Int.mul_neg_of_neg_of_pos h1 hd
      have a2 : 0 ≤ d.2 * (α * e.1 + β * e.2) := Int.mul_nonneg h2 (Int.le_of_lt he)
      have a3 : α * gm_x d e < 0 := by omega
      rcases gm_sg a3 with k | k
      · rw [if_neg (by decide), if_pos k.2]; rfl
      · omega
    · rfl
  · have hy : ∀ v : Pt, 0 < α * v.1 + β * v.2 → 0 < β * v.2 := fun v h => by rw [ha, Int.zero_mul] at h; omega
    have h1 := gm_sg' (hy d hd)
    have h2 := gm_sg' (hy e he)
    have h3 : gm_u d = gm_u e := by
      rcases h1 with k | k <;> rcases h2 with q | q
      · rw [(gm_u_iff0 d).mpr (Or.inl k.2), (gm_u_iff0 e).mpr (Or.inl q.2)]
      · omega
      · omega
      · rw [(gm_u_iff d).mpr (Or.inl k.2), (gm_u_iff e).mpr (Or.inl q.2)]
    unfold gm_t
    rw [if_pos h3, h3]
    split <;> omega
  · rw [if_pos ha]
    have up : ∀ v : Pt, 0 < α * v.1 + β * v.2 → gm_u v = 1 → 0 < v.2 := by
      intro v h1 h2
      rcases (gm_u_iff v).mp h2 with k | k
      · exact k
      · have := pz v k.1 h1
        have := Int.mul_neg_of_pos_of_neg ha k.2
        omega
    have dn : ∀ v : Pt, gm_u v = 0 → v.2 ≤ 0 := by
      intro v h2
      rcases (gm_u_iff0 v).mp h2 with k | k <;> omega
    unfold gm_t
    rcases gm_u_01 d with ud | ud <;> rcases gm_u_01 e with ue | ue <;> rw [ud, ue]
    · rfl
    · have h1 := dn d ud
      have h2 := up e he ue
      have a1 : 0 < e.2 * (α * d.1 + β * d.2) := Int.mul_pos h2 hd
      have a2 : d.2 * (α * e.1 + β * e.2) ≤ 0 := Int.mul_nonpos_of_nonpos_of_nonneg h1 (Int.le_of_lt he)
      have a3 : 0 < α * gm_x d e := by omega
      rcases gm_sg' a3 with k | k
      · omega
      · rw [if_neg (by decide), if_pos k.2]; rfl
    · have h1 := dn e ue
      have h2 := up d hd ud
      have a1 : e.2 * (α * d.1 + β * d.2) ≤ 0 := Int.mul_nonpos_of_nonpos_of_nonneg h1 (Int.le_of_lt hd)
      have a2 : 0 < d.2 * (α * e.1 + β * e.2) := Int.mul_pos h2 he
      have a3 : α * gm_x d e < 0 := by omega
      rcases gm_sg a3 with k | k
      · omega
      · rw [if_neg (by decide), if_neg (by omega), if_pos k.2]; rfl
    · rfl
/-- round a cell: four ways in one half plane -/
theorem gm_cell {α β : Int} {A B C D : Pt} (hA : 0 < α * A.1 + β * A.2) (hB : 0 < α * B.1 + β * B.2) (hC : 0 < α * C.1 + β * C.2) (hD : 0 < α * D.1 + β * D.2) : gm_t A B + gm_t B C = gm_t A D + gm_t D C := by
  rw [gm_tc hA hB, gm_tc hB hC, gm_tc hA hD, gm_tc hD hC]
  split <;> omega
theorem gm_half {d e : Pt} (h : gm_tn d e) : ∃ α β : Int, 0 < α * d.1 + β * d.2 ∧ 0 < α * e.1 + β * e.2 := by
  rcases Int.lt_trichotomy (gm_x d e) 0 with k | k | k
  · refine ⟨-(e.2 - d.2), -(d.1 - e.1), ?_, ?_⟩
    · have : -(e.2 - d.2) * d.1 + -(d.1 - e.1) * d.2 = - gm_x d e := by unfold gm_x; grind
      omega
    · have : -(e.2 - d.2) * e.1 + -(d.1 - e.1) * e.2 = - gm_x d e := by unfold gm_x; grind
      omega
  · rcases h with h | h
    · exact absurd k h
    · refine ⟨d.1, d.2, ?_, h⟩
      refine gm_sq_pos (fun q => ?_)
      rw [q.1, q.2, Int.zero_mul, Int.zero_mul] at h
      exact absurd h (by decide)
  · refine ⟨e.2 - d.2, d.1 - e.1, ?_, ?_⟩
    · have : (e.2 - d.2) * d.1 + (d.1 - e.1) * d.2 = gm_x d e := by unfold gm_x; grind
      omega
    · have : (e.2 - d.2) * e.1 + (d.1 - e.1) * e.2 = gm_x d e := by unfold gm_x; grind
      omega
theorem gm_tri {d e s : Pt} (h : gm_tn d e) (h1 : s.1 = d.1 + e.1) (h2 : s.2 = d.2 + e.2) : gm_t d s + gm_t s e = gm_t d e := by
  obtain ⟨α, β, hd, he⟩ := gm_half h
  have hs : 0 < α * s.1 + β * s.2 := by rw [h1, h2, Int.mul_add, Int.mul_add]; omega
  rw [gm_tc hd hs, gm_tc hs he, gm_tc hd he]
  split <;> omega
/-- two ways of different classes that don't turn back: not along each other -/
theorem gm_tn_x {d e : Pt} (h : gm_tn d e) (hu : gm_u d ≠ gm_u e) : gm_x d e ≠ 0 := by
  intro hx
  have h2 : 0 < d.1 * e.1 + d.2 * e.2 := by
    rcases h with h | h
    · exact absurd hx h
    · exact h
  obtain ⟨α, β, hd, he⟩ := gm_half h
  have k1 := gm_tc hd he
  have k2 : gm_t d e = 0 := by
    unfold gm_t
    rw [if_neg hu, if_neg (by omega), if_neg (by omega)]
  rw [k2] at k1
  split at k1 <;> omega
theorem gm_u_neg {d : Pt} (h : ¬ (d.1 = 0 ∧ d.2 = 0)) : gm_u (-d.1, -d.2) = 1 - gm_u d := by
  rcases gm_u_01 d with k | k
  · rw [k]
    refine (gm_u_iff _).mpr ?_
    have := (gm_u_iff0 d).mp k
    show 0 < -d.2 ∨ (-d.2 = 0 ∧ -d.1 < 0)
    omega
  · rw [k]
    refine (gm_u_iff0 _).mpr ?_
    have := (gm_u_iff d).mp k
    show -d.2 < 0 ∨ (-d.2 = 0 ∧ 0 ≤ -d.1)
    omega
theorem gm_t_neg {d e : Pt} (hd : ¬ (d.1 = 0 ∧ d.2 = 0)) (he : ¬ (e.1 = 0 ∧ e.2 = 0)) : gm_t (-d.1, -d.2) (-e.1, -e.2) = gm_t d e := by
  unfold gm_t
  rw [gm_u_neg hd, gm_u_neg he]
  have hx : gm_x (-d.1, -d.2) (-e.1, -e.2) = gm_x d e := by unfold gm_x; grind
  rw [hx]
  by_cases h : gm_u d = gm_u e
  · rw [if_pos h, if_pos (by omega)]
  · rw [if_neg h, if_neg (by omega)]
