/-! the first class: numbers of a figure -/
theorem gm_pr_bd {a b : Pt} (ha : gm_paper a) (hb : gm_paper b) : -225 ≤ a.1 * b.2 - b.1 * a.2 ∧ a.1 * b.2 - b.1 * a.2 ≤ 225 := by
  unfold gm_paper at ha hb
  have k1 := gm_bdm (x := a.1) (y := b.2) (B := 15) (C := 15) (by omega) (by omega)
  have k2 := gm_bdm (x := b.1) (y := a.2) (B := 15) (C := 15) (by omega) (by omega)
  have k3 := Int.mul_nonneg (show 0 ≤ a.1 by omega) (show 0 ≤ b.2 by omega)
  have k4 := Int.mul_nonneg (show 0 ≤ b.1 by omega) (show 0 ≤ a.2 by omega)
  omega
theorem gm_sum_bd {m : Nat} {g : Nat → Int} {B : Int} (h : ∀ k, k < m → -B ≤ g k ∧ g k ≤ B) : -(B * m) ≤ gm_sum m g ∧ gm_sum m g ≤ B * m := by
  induction m with
  | zero => exact ⟨by show -(B * (0 : Int)) ≤ 0; rw [Int.mul_zero]; omega, by show (0 : Int) ≤ B * (0 : Int); rw [Int.mul_zero]; omega⟩
  | succ m ih =>
    have a := ih (fun k hk => h k (by omega))
    have b := h m (by omega)
    have e : B * ((m + 1 : Nat) : Int) = B * (m : Int) + B := by rw [Int.natCast_add, Int.mul_add]; show B * (m : Int) + B * 1 = _; rw [Int.mul_one]
    rw [e]
    show -(B * (m : Int) + B) ≤ gm_sum m g + g m ∧ gm_sum m g + g m ≤ B * (m : Int) + B
    omega
section CLASS
variable {f : Fig} {M : Nat → Nat} {n : Nat} {Q : Nat → Pt}
theorem gm_paper_P (hok : gm_ok M n Q) {r k : Nat} (hr : r < n) (hk : k < M r) : gm_paper (gm_P M Q r k) := hok.2.2.1 _ (gm_fst_lt hr hk)
theorem gm_ds_bd (hok : gm_ok M n Q) {r : Nat} (hr : r < n) : -2250 ≤ gm_ds (M r) (gm_P M Q r) ∧ gm_ds (M r) (gm_P M Q r) ≤ 2250 := by
  have := gm_sum_bd (m := M r) (B := 225) (g := fun k => (gm_P M Q r k).1 * (gm_P M Q r (gm_nx (M r) k)).2 - (gm_P M Q r (gm_nx (M r) k)).1 * (gm_P M Q r k).2) (fun k hk => gm_pr_bd (gm_paper_P hok hr hk) (gm_paper_P hok hr (gm_nx_lt hk)))
  have h10 := (hok.2.1 r hr).2
  unfold gm_ds
  omega
theorem s_product (h : RF f M n Q) {a b : Nat} (ha : a < gm_fst M n) (hb : b < gm_fst M n) : G_X2_product f (iZ (a : Int)) (iZ (b : Int)) = some (iZ (gm_pr Q a b)) := by
  unfold G_X2_product
  rw [s_xOf h ha, Option.bind_some, s_yOf h hb, Option.bind_some, s_xOf h hb, Option.bind_some, s_yOf h ha, Option.bind_some, iZ_mul, iZ_mul, iZ_sub]
  rfl
theorem s_ringSum (h : RF f M n Q) {r : Nat} (hr : r < n) : G_X2_ringSum f (iZ (r : Int)) = some (iZ (gm_ds (M r) (gm_P M Q r))) := by
  have h40 := h.n40
  have h4 := h.2.2.1
  have hM := h.2.2.2.1 r hr
  have hle : gm_fst M (r + 1) ≤ gm_fst M n := gm_fst_le hr
  have hle2 : gm_fst M (r + 1) = gm_fst M r + M r := rfl
  have lp := lp_sum (L := fun k c a => G_X2_ringSum_L11 f k c (iZ (gm_fst M r : Nat)) a (iZ (r : Int))) (N := gm_fst M r + M r) (g := fun c => gm_pr Q c (gm_nf M n c)) (K := fun a => some (iZ a))
    (fun k c a hc => by
      have hc' : c < gm_fst M n := by omega
      rw [G_X2_ringSum_L11, s_sizeOf h hr, Option.bind_some, iZ_add, ite_le (by omega)]
      by_cases q : c < gm_fst M r
      · rw [if_neg (by omega), s_nextOf h hc', Option.bind_some, s_product h hc' (gm_nf_lt hc'), Option.bind_some, iZ_1, iZ_add, iZ_add]
      · rw [if_neg (by omega), s_nextOf h hc', Option.bind_some, s_product h hc' (gm_nf_lt hc'), Option.bind_some, iZ_1, iZ_add, iZ_add])
    (fun k a => by
      rw [G_X2_ringSum_L11, s_sizeOf h hr, Option.bind_some, iZ_add, ite_le (by omega), if_pos (by omega)])
    (M r) (gm_fst M r) FU 0 rfl (by unfold FU; omega)
  unfold G_X2_ringSum
  rw [s_firstOf h (by omega), Option.bind_some]
  refine Eq.trans lp ?_
  refine congrArg (fun z => some (iZ z)) ?_
  rw [Int.zero_add]
  refine gm_sum_congr (fun k hk => ?_)
  rw [gm_nf_eq hr hk]
  rfl
theorem abs_iZ {z : Int} (h1 : -2147483648 < z) (h2 : z < 2147483648) : (if 0 ≤ iZ z then iZ z else 0 - iZ z) = iZ (gm_abs z) := by
  rw [iZ_0, ite_le (by omega), iZ_sub]
  unfold gm_abs
  split
  · rfl
  · exact congrArg iZ (by omega)
theorem s_ringArea (h : RF f M n Q) (hok : gm_ok M n Q) {r : Nat} (hr : r < n) : G_X2_ringArea f (iZ (r : Int)) = some (iZ (gm_abs (gm_ds (M r) (gm_P M Q r)))) := by
  have bd := gm_ds_bd hok hr
  unfold G_X2_ringArea
  rw [s_ringSum h hr, Option.bind_some, abs_iZ (by omega) (by omega)]
theorem gm_abs_bd (hok : gm_ok M n Q) {r : Nat} (hr : r < n) : 0 ≤ gm_abs (gm_ds (M r) (gm_P M Q r)) ∧ gm_abs (gm_ds (M r) (gm_P M Q r)) ≤ 2250 := by
  have := gm_ds_bd hok hr
  unfold gm_abs
  split <;> omega
/-- the figure's doubled area -/
def gm_area (M : Nat → Nat) (n : Nat) (Q : Nat → Pt) : Int := gm_abs (gm_ds (M 0) (gm_P M Q 0)) - gm_sum (n - 1) (fun i => gm_abs (gm_ds (M (i + 1)) (gm_P M Q (i + 1))))
theorem gm_area_bd (hok : gm_ok M n Q) : 1 ≤ gm_area M n Q ∧ gm_area M n Q ≤ 2250 := by
  have h1 := gm_area_pos (gm_ok_good hok)
  have h2 := gm_abs_bd hok (r := 0) (by have := hok.1; omega)
  have h3 := gm_sum_nonneg (n := n - 1) (f := fun i => gm_abs (gm_ds (M (i + 1)) (gm_P M Q (i + 1)))) (fun i hi => (gm_abs_bd hok (by omega)).1)
  unfold gm_area
  omega
theorem s_area (h : RF f M n Q) (hok : gm_ok M n Q) : G_X2_area f = some (iZ (gm_area M n Q)) := by
  have hn := hok.1
  have lp := lp_sum (L := fun k c a => G_X2_area_L8 f k c a) (N := n) (g := fun r => -gm_abs (gm_ds (M r) (gm_P M Q r))) (K := fun a => some (iZ a))
    (fun k c a hc => by
      rw [G_X2_area_L8, h.1, ite_le (by omega), if_neg (by omega), s_ringArea h hok hc, Option.bind_some, iZ_sub, iZ_1, iZ_add]
      refine congrArg (fun z => G_X2_area_L8 f k (iZ ((c : Int) + 1)) (iZ z)) ?_
      omega)
    (fun k a => by
      rw [G_X2_area_L8, h.1, ite_le (by omega), if_pos (by omega)])
    (n - 1) 1 FU (gm_abs (gm_ds (M 0) (gm_P M Q 0))) (by omega) (by unfold FU; omega)
  unfold G_X2_area
  have e0 := s_ringArea h hok (r := 0) (by omega)
  have e0 : G_X2_ringArea f 0 = some (iZ (gm_abs (gm_ds (M 0) (gm_P M Q 0)))) := e0
  rw [e0, Option.bind_some]
  refine Eq.trans lp (congrArg (fun z => some (iZ z)) ?_)
  unfold gm_area
  have : gm_sum (n - 1) (fun k => -gm_abs (gm_ds (M (1 + k)) (gm_P M Q (1 + k)))) = (-1) * gm_sum (n - 1) (fun i => gm_abs (gm_ds (M (i + 1)) (gm_P M Q (i + 1)))) := by
    rw [← gm_sum_mul]
    refine gm_sum_congr (fun k hk => ?_)
    rw [Nat.add_comm 1 k]; omega
  rw [this]; omega
/-- by the numbers themselves: the greatest divisor of both up to 15 is the greatest one -/
theorem gm_tabG1 : ∀ a : Nat, a < 16 → ∀ b : Nat, b < 16 → (a = 0 ∧ b = 0) ∨ (1 ≤ a.gcd b ∧ a.gcd b ≤ 15 ∧ a % (a.gcd b) = 0 ∧ b % (a.gcd b) = 0) := by decide +kernel
theorem gm_tabG (a : Nat) (ha : a < 16) (b : Nat) (hb : b < 16) : (a = 0 ∧ b = 0) ∨ (1 ≤ a.gcd b ∧ a.gcd b ≤ 15 ∧ a % (a.gcd b) = 0 ∧ b % (a.gcd b) = 0 ∧ ∀ s : Nat, s < 16 → a.gcd b < s → ¬ (a % s = 0 ∧ b % s = 0)) := by
  rcases gm_tabG1 a ha b hb with q | ⟨q1, q2, q3, q4⟩
  · exact Or.inl q
  · refine Or.inr ⟨q1, q2, q3, q4, fun s _ hs q => ?_⟩
    have := Nat.le_of_dvd q1 (Nat.dvd_gcd (Nat.dvd_of_mod_eq_zero q.1) (Nat.dvd_of_mod_eq_zero q.2))
    omega
theorem rmI_iZ {a b : Int} (h1 : -1000 ≤ a ∧ a ≤ 1000) (h2 : 1 ≤ b ∧ b ≤ 1000) : rmI (iZ a) (iZ b) = some (iZ (a.tmod b)) := by
  unfold rmI
  rw [iZ_0, if_neg (by rw [iZ_eq (by omega) (by omega) (by omega) (by omega)]; omega)]
  have e : iZ a / iZ b = iZ (a.tdiv b) := (Int32.ofInt_tdiv (by show (-2147483648 : Int) ≤ a; omega) (by show a ≤ (2147483647 : Int); omega) (by show (-2147483648 : Int) ≤ b; omega) (by show b ≤ (2147483647 : Int); omega)).symm
  rw [e, iZ_mul, iZ_sub]
  refine congrArg (fun z => some (iZ z)) ?_
  have := Int.tmod_add_mul_tdiv a b
  rw [Int.mul_comm] at this
  omega
theorem gm_tmod_0 {a b : Int} (hb : 1 ≤ b) : a.tmod b = 0 ↔ a.natAbs % b.toNat = 0 := by
  rw [← Int.dvd_iff_tmod_eq_zero, ← Int.natAbs_dvd_natAbs, show b.natAbs = b.toNat by omega, Nat.dvd_iff_mod_eq_zero]
theorem s_stepsOfSide (h : RF f M n Q) (hok : gm_ok M n Q) {c : Nat} (hc : c < gm_fst M n) : G_X1_stepsOfSide f (iZ (c : Int)) = some (iZ (gm_g (Q c) (Q (gm_nf M n c)))) := by
  have hd := gm_nf_lt hc
  have pa := hok.2.2.1 c hc
  have pb := hok.2.2.1 _ hd
  have hne := hok.2.2.2.1 c hc
  unfold gm_paper at pa pb
  unfold G_X1_stepsOfSide
  rw [s_nextOf h hc, Option.bind_some, s_xOf h hd, Option.bind_some, s_xOf h hc, Option.bind_some, Option.bind_some, s_yOf h hd, Option.bind_some, s_yOf h hc, Option.bind_some, iZ_sub, iZ_sub]
  have tab := gm_tabG ((Q (gm_nf M n c)).1 - (Q c).1).natAbs (by omega) ((Q (gm_nf M n c)).2 - (Q c).2).natAbs (by omega)
  have hg : gm_g (Q c) (Q (gm_nf M n c)) = ((((Q (gm_nf M n c)).1 - (Q c).1).natAbs.gcd ((Q (gm_nf M n c)).2 - (Q c).2).natAbs : Nat) : Int) := rfl
  rw [hg]
  have nz : ¬ (((Q (gm_nf M n c)).1 - (Q c).1).natAbs = 0 ∧ ((Q (gm_nf M n c)).2 - (Q c).2).natAbs = 0) := fun q => hne (Prod.ext (by omega) (by omega))
  generalize hx : (Q (gm_nf M n c)).1 - (Q c).1 = x at *
  generalize hy : (Q (gm_nf M n c)).2 - (Q c).2 = y at *
  obtain ⟨g1, g15, gx, gy, gs⟩ : _ ∧ _ ∧ _ ∧ _ ∧ _ := by
    rcases tab with q | q
    · exact absurd q nz
    · exact q
  generalize hG : x.natAbs.gcd y.natAbs = G at *
  clear tab nz hg
  -- the loop downwards from 15
  have run : ∀ (d k : Nat), G + d ≤ 15 → d < k → G_X1_stepsOfSide_L36 f k (iZ ((G + d : Nat) : Int)) (iZ y) (iZ x) = some (iZ (G : Int)) := by
    intro d
    induction d with
    | zero =>
      intro k hk1 hk2
      obtain ⟨m, rfl⟩ : ∃ m, k = m + 1 := ⟨k - 1, by omega⟩
      rw [Nat.add_zero, G_X1_stepsOfSide_L36, iZ_1, ite_le (by omega)]
      by_cases c1 : G = 1
      · rw [if_pos (by omega), c1]; rfl
      · rw [if_neg (by omega), rmI_iZ (by omega) (by omega), Option.bind_some, iZ_0, if_pos (by rw [(gm_tmod_0 (by omega)).mpr (by rw [Int.toNat_natCast]; exact gx)]), rmI_iZ (by omega) (by omega), Option.bind_some, if_pos (by rw [(gm_tmod_0 (by omega)).mpr (by rw [Int.toNat_natCast]; exact gy)])]; rfl
    | succ d ih =>
      intro k hk1 hk2
      obtain ⟨m, rfl⟩ : ∃ m, k = m + 1 := ⟨k - 1, by omega⟩
      have nd := gs (G + (d + 1)) (by omega) (by omega)
      have e : iZ (((G + (d + 1) : Nat) : Int) + -1) = iZ ((G + d : Nat) : Int) := congrArg iZ (by omega)
      have bx : ∀ z : Int, z.natAbs < 16 → -2147483648 ≤ z.tmod ((G + (d + 1) : Nat) : Int) ∧ z.tmod ((G + (d + 1) : Nat) : Int) < 2147483648 := by
        intro z hz
        have b1 : (z.tmod ((G + (d + 1) : Nat) : Int)).natAbs ≤ z.natAbs := by
          rw [Int.natAbs_tmod]; exact Nat.mod_le _ _
        omega
      have bxx := bx x (by omega)
      have byy := bx y (by omega)
      have tx := gm_tmod_0 (a := x) (b := ((G + (d + 1) : Nat) : Int)) (by omega)
      have ty := gm_tmod_0 (a := y) (b := ((G + (d + 1) : Nat) : Int)) (by omega)
      rw [Int.toNat_natCast] at tx ty
      rw [G_X1_stepsOfSide_L36, iZ_1, ite_le (by omega), if_neg (by omega), rmI_iZ (by omega) (by omega), Option.bind_some, iZ_0, ite_eq (by omega), rmI_iZ (by omega) (by omega), Option.bind_some, ite_eq (by omega)]
      unfold G_X1_stepsOfSide_j59
      rw [iZ_1, iZ_neg, iZ_add, e]
      by_cases c1 : x.tmod ((G + (d + 1) : Nat) : Int) = 0
      · rw [if_pos c1]
        by_cases c2 : y.tmod ((G + (d + 1) : Nat) : Int) = 0
        · exact absurd ⟨tx.mp c1, ty.mp c2⟩ nd
        · rw [if_neg c2]; exact ih m (by omega) (by omega)
      · rw [if_neg c1]; exact ih m (by omega) (by omega)
  have := run (15 - G) FU (by omega) (by unfold FU; omega)
  rw [show G + (15 - G) = 15 by omega] at this
  exact this
theorem gm_g_bd {a b : Pt} (ha : gm_paper a) (hb : gm_paper b) : 0 ≤ gm_g a b ∧ gm_g a b ≤ 15 := by
  unfold gm_paper at ha hb
  have tab := gm_tabG (b.1 - a.1).natAbs (by omega) (b.2 - a.2).natAbs (by omega)
  unfold gm_g
  rcases tab with q | q
  · rw [q.1, q.2]; decide
  · omega
theorem gm_bd_bd (hok : gm_ok M n Q) {r : Nat} (hr : r < n) : 0 ≤ gm_bd (M r) (gm_P M Q r) ∧ gm_bd (M r) (gm_P M Q r) ≤ 150 := by
  have h1 := gm_sum_bd (m := M r) (B := 15) (g := fun k => gm_g (gm_P M Q r k) (gm_P M Q r (gm_nx (M r) k))) (fun k hk => by have := gm_g_bd (gm_paper_P hok hr hk) (gm_paper_P hok hr (gm_nx_lt hk)); omega)
  have h2 := gm_sum_nonneg (n := M r) (f := fun k => gm_g (gm_P M Q r k) (gm_P M Q r (gm_nx (M r) k))) (fun k hk => (gm_g_bd (gm_paper_P hok hr hk) (gm_paper_P hok hr (gm_nx_lt hk))).1)
  have h10 := (hok.2.1 r hr).2
  unfold gm_bd
  omega
theorem s_ringBorder (h : RF f M n Q) (hok : gm_ok M n Q) {r : Nat} (hr : r < n) : G_X2_ringBorder f (iZ (r : Int)) = some (iZ (gm_bd (M r) (gm_P M Q r))) := by
  have h40 := h.n40
  have h4 := h.2.2.1
  have hM := h.2.2.2.1 r hr
  have hle : gm_fst M (r + 1) ≤ gm_fst M n := gm_fst_le hr
  have hle2 : gm_fst M (r + 1) = gm_fst M r + M r := rfl
  have lp := lp_sum (L := fun k c a => G_X2_ringBorder_L11 f k c (iZ (gm_fst M r : Nat)) a (iZ (r : Int))) (N := gm_fst M r + M r) (g := fun c => gm_g (Q c) (Q (gm_nf M n c))) (K := fun a => some (iZ a))
    (fun k c a hc => by
      have hc' : c < gm_fst M n := by omega
      rw [G_X2_ringBorder_L11, s_sizeOf h hr, Option.bind_some, iZ_add, ite_le (by omega), if_neg (by omega), s_stepsOfSide h hok hc', Option.bind_some, iZ_1, iZ_add, iZ_add])
    (fun k a => by
      rw [G_X2_ringBorder_L11, s_sizeOf h hr, Option.bind_some, iZ_add, ite_le (by omega), if_pos (by omega)])
    (M r) (gm_fst M r) FU 0 rfl (by unfold FU; omega)
  unfold G_X2_ringBorder
  rw [s_firstOf h (by omega), Option.bind_some]
  refine Eq.trans lp ?_
  refine congrArg (fun z => some (iZ z)) ?_
  rw [Int.zero_add]
  refine gm_sum_congr (fun k hk => ?_)
  rw [gm_nf_eq hr hk]
  rfl
def gm_border (M : Nat → Nat) (n : Nat) (Q : Nat → Pt) : Int := gm_sum n (fun r => gm_bd (M r) (gm_P M Q r))
theorem s_border (h : RF f M n Q) (hok : gm_ok M n Q) : G_X2_border f = some (iZ (gm_border M n Q)) := by
  have hn := hok.1
  have lp := lp_sum (L := fun k c a => G_X2_border_L4 f k c a) (N := n) (g := fun r => gm_bd (M r) (gm_P M Q r)) (K := fun a => some (iZ a))
    (fun k c a hc => by
      rw [G_X2_border_L4, h.1, ite_le (by omega), if_neg (by omega), s_ringBorder h hok hc, Option.bind_some, iZ_add, iZ_1, iZ_add])
    (fun k a => by
      rw [G_X2_border_L4, h.1, ite_le (by omega), if_pos (by omega)])
    n 0 FU 0 (by omega) (by unfold FU; omega)
  refine Eq.trans lp (congrArg (fun z => some (iZ z)) ?_)
  rw [Int.zero_add]
  exact gm_sum_congr (fun k hk => by rw [Nat.zero_add])
/-- the points inside the figure, as the first class counts them -/
theorem s_inside (h : RF f M n Q) (hok : gm_ok M n Q) : G_X2_inside f = some (iZ (gm_pp (gm_fi n M (gm_P M Q)))) := by
  have hn := hok.1
  have hg := gm_ok_good hok
  have ab : ∀ r, r < n → gm_abs (gm_ds (M r) (gm_P M Q r)) = 2 * gm_pp (gm_ins (M r) (gm_P M Q r)) + gm_bd (M r) (gm_P M Q r) - 2 := by
    intro r hr
    have := gm_ring_area (hg.2.2.2.1 r hr) (fun k hk => hg.2.2.1 r k hr hk)
    unfold gm_abs
    split <;> omega
  have dv : ∀ z : Int, -10000 ≤ z ∧ z ≤ 10000 → iZ (2 * z) / 2 = iZ z := by
    intro z hz
    have e : iZ (2 * z) / iZ 2 = iZ ((2 * z).tdiv 2) := (Int32.ofInt_tdiv (by show (-2147483648 : Int) ≤ _; omega) (by show _ ≤ (2147483647 : Int); omega) (by decide) (by decide)).symm
    rw [iZ_2, e, Int.mul_tdiv_cancel_left z (by decide)]
  have lp := lp_sum (L := fun k c a => G_X2_inside_L18 f k c a) (N := n) (g := fun r => -(gm_pp (gm_ins (M r) (gm_P M Q r)) + gm_bd (M r) (gm_P M Q r))) (K := fun a => some (iZ a))
    (fun k c a hc => by
      have b1 := gm_abs_bd hok hc
      have b2 := gm_bd_bd hok hc
      rw [ab c hc] at b1
      rw [G_X2_inside_L18, h.1, ite_le (by omega), if_neg (by omega), s_ringArea h hok hc, Option.bind_some, s_ringBorder h hok hc, Option.bind_some, ab c hc, iZ_add]
      have e2 : iZ (2 * gm_pp (gm_ins (M c) (gm_P M Q c)) + gm_bd (M c) (gm_P M Q c) - 2 + gm_bd (M c) (gm_P M Q c)) + 2 = iZ (2 * (gm_pp (gm_ins (M c) (gm_P M Q c)) + gm_bd (M c) (gm_P M Q c))) := by
        rw [iZ_2, iZ_add]; exact congrArg iZ (by omega)
      rw [e2, dv _ (by omega), iZ_sub, iZ_1, iZ_add]
      refine congrArg (fun z => G_X2_inside_L18 f k (iZ ((c : Int) + 1)) (iZ z)) ?_
      omega)
    (fun k a => by
      rw [G_X2_inside_L18, h.1, ite_le (by omega), if_pos (by omega)])
    (n - 1) 1 FU (gm_pp (gm_ins (M 0) (gm_P M Q 0))) (by omega) (by unfold FU; omega)
  have b1 := gm_abs_bd hok (r := 0) (by omega)
  have b2 := gm_bd_bd hok (r := 0) (by omega)
  rw [ab 0 (by omega)] at b1
  have e0 : G_X2_ringArea f 0 = some (iZ (gm_abs (gm_ds (M 0) (gm_P M Q 0)))) := s_ringArea h hok (r := 0) (by omega)
  have e1 : G_X2_ringBorder f 0 = some (iZ (gm_bd (M 0) (gm_P M Q 0))) := s_ringBorder h hok (r := 0) (by omega)
  unfold G_X2_inside
  rw [e0, Option.bind_some, e1, Option.bind_some, ab 0 (by omega), iZ_sub]
  have e2 : iZ (2 * gm_pp (gm_ins (M 0) (gm_P M Q 0)) + gm_bd (M 0) (gm_P M Q 0) - 2 - gm_bd (M 0) (gm_P M Q 0)) + 2 = iZ (2 * gm_pp (gm_ins (M 0) (gm_P M Q 0))) := by
    rw [iZ_2, iZ_add]; exact congrArg iZ (by omega)
  rw [e2, dv _ (by omega)]
  refine Eq.trans lp (congrArg (fun z => some (iZ z)) ?_)
  rw [gm_inside hg]
  have : gm_sum (n - 1) (fun k => -(gm_pp (gm_ins (M (1 + k)) (gm_P M Q (1 + k))) + gm_bd (M (1 + k)) (gm_P M Q (1 + k)))) = (-1) * gm_sum (n - 1) (fun i => gm_pp (gm_ins (M (i + 1)) (gm_P M Q (i + 1))) + gm_bd (M (i + 1)) (gm_P M Q (i + 1))) := by
    rw [← gm_sum_mul]
    refine gm_sum_congr (fun k hk => ?_)
    rw [Nat.add_comm 1 k]; omega
  rw [this]; omega
end CLASS
