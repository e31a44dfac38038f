/-! the second class: rows, bends, kinds, sides -/
noncomputable def gm_ro (M : Nat → Nat) (n : Nat) (Q : Nat → Pt) (y fl : Int) : Int := gm_sum 16 (fun x => if gm_whz M n Q ((x : Int), y) = 2 ∨ (fl ≠ 0 ∧ gm_whz M n Q ((x : Int), y) = 1) then 1 else 0)
section REF
variable {m : Mod} {M : Nat → Nat} {n : Nat} {Q : Nat → Pt}
theorem gm_ro_bd (y fl : Int) : 0 ≤ gm_ro M n Q y fl ∧ gm_ro M n Q y fl ≤ 16 := by
  have h1 := gm_sum_nonneg (n := 16) (f := fun x => if gm_whz M n Q ((x : Int), y) = 2 ∨ (fl ≠ 0 ∧ gm_whz M n Q ((x : Int), y) = 1) then (1 : Int) else 0) (fun k hk => by split <;> omega)
  have h2 := gm_sum_le (n := 16) (f := fun x => if gm_whz M n Q ((x : Int), y) = 2 ∨ (fl ≠ 0 ∧ gm_whz M n Q ((x : Int), y) = 1) then (1 : Int) else 0) (g := fun _ => 1) (fun k hk => by split <;> omega)
  rw [gm_sum_const] at h2
  unfold gm_ro
  omega
theorem t_pointsIn (hs : RS (m_state m) M n Q) (hok : gm_ok M n Q) (y fl : Int) (hy : 0 ≤ y ∧ y ≤ 15) (hf : -2147483648 ≤ fl ∧ fl < 2147483648) : G_X9_pointsIn m (iZ y) (iZ fl) = some (iZ (gm_ro M n Q y fl)) := by
  have lp := lp_sum (L := fun k c a => G_X9_pointsIn_L5 m k c a (iZ y) (iZ fl)) (N := 16) (g := fun x => if gm_whz M n Q ((x : Int), y) = 2 ∨ (fl ≠ 0 ∧ gm_whz M n Q ((x : Int), y) = 1) then 1 else 0) (K := fun a => some (iZ a))
    (fun k c a hc => by
      obtain ⟨h1, h2⟩ := t_where hs hok (p := ((c : Int), y)) (by unfold gm_paper; dsimp only; omega)
      have b := gm_wh_03 h1
      dsimp only at h2
      rw [G_X9_pointsIn_L5, iZ_15, ite_lt (by omega), if_neg (by omega), h2, Option.bind_some, iZ_2, iZ_0, iZ_1, ite_eq (by omega), ite_eq (by omega), ite_eq (by omega)]
      generalize gm_whz M n Q ((c : Int), y) = z at *
      by_cases c2 : z = 2
      · rw [if_pos c2, if_pos (Or.inl c2), Option.bind_some, iZ_add, iZ_add]
      · rw [if_neg c2]
        by_cases cf : fl = 0
        · rw [if_pos cf, if_neg (by omega), Option.bind_some, iZ_add, iZ_add]
        · rw [if_neg cf]
          by_cases c1 : z = 1
          · rw [if_pos c1, if_pos (Or.inr ⟨cf, c1⟩), Option.bind_some, iZ_add, iZ_add]
          · rw [if_neg c1, if_neg (by omega), Option.bind_some, iZ_add, iZ_add])
    (fun k a => by rw [G_X9_pointsIn_L5, iZ_15, ite_lt (by omega), if_pos (by omega)])
    16 0 FU 0 (by omega) (by unfold FU; omega)
  refine Eq.trans lp (congrArg (fun z => some (iZ z)) ?_)
  rw [Int.zero_add]
  exact gm_sum_congr (fun k hk => by rw [Nat.zero_add])
theorem gm_inside_row (hok : gm_ok M n Q) (hw : ∀ p, gm_paper p → gm_wh M n Q p (gm_whz M n Q p)) : gm_pp (gm_fi n M (gm_P M Q)) = gm_sum 16 (fun y => gm_ro M n Q (y : Int) 0) := by
  unfold gm_pp gm_ro
  refine gm_sum_congr (fun i hi => gm_sum_congr (fun j hj => ?_))
  rw [gm_wh_fi hok (hw _ (by unfold gm_paper; dsimp only; omega))]
  by_cases c : gm_whz M n Q ((j : Int), (i : Int)) = 2
  · rw [if_pos c, if_pos (Or.inl c)]
  · rw [if_neg c, if_neg (fun q => by rcases q with q | q; exact c q; exact q.1 rfl)]
theorem t_inside (hs : RS (m_state m) M n Q) (hok : gm_ok M n Q) : G_X9_inside m = some (iZ (gm_pp (gm_fi n M (gm_P M Q)))) := by
  have lp := lp_sum (L := fun k c a => G_X9_inside_L4 m k c a) (N := 16) (g := fun y => gm_ro M n Q (y : Int) 0) (K := fun a => some (iZ a))
    (fun k c a hc => by
      rw [G_X9_inside_L4, iZ_15, ite_lt (by omega), if_neg (by omega), iZ_0, t_pointsIn hs hok _ 0 (by omega) (by omega), Option.bind_some, iZ_add, iZ_1, iZ_add])
    (fun k a => by rw [G_X9_inside_L4, iZ_15, ite_lt (by omega), if_pos (by omega)])
    16 0 FU 0 (by omega) (by unfold FU; omega)
  refine Eq.trans lp (congrArg (fun z => some (iZ z)) ?_)
  rw [Int.zero_add, gm_inside_row hok (fun p hp => (t_where hs hok hp).1)]
  exact gm_sum_congr (fun k hk => by rw [Nat.zero_add])
theorem t_bend (hs : RS (m_state m) M n Q) {r k : Nat} (hr : r < n) (hk : k < M r) : G_X9_bend m (iZ (r : Int)) (iZ (k : Int)) = some (iZ (gm_bend M Q r k)) := by
  have hx := gm_nx_lt hk
  have hp := gm_pv_lt hk
  unfold G_X9_bend
  rw [t_before hs hr hk, Option.bind_some, t_next hs hr hk, Option.bind_some, t_x hs hr hk, Option.bind_some, t_x hs hr hp, Option.bind_some, t_y hs hr hx, Option.bind_some, t_y hs hr hk, Option.bind_some, Option.bind_some, t_y hs hr hp, Option.bind_some, t_x hs hr hx, Option.bind_some, Option.bind_some, iZ_sub, iZ_sub, iZ_mul, iZ_sub, iZ_sub, iZ_mul, iZ_sub]
  refine congrArg (fun z => some (iZ z)) ?_
  unfold gm_bend gm_cr
  generalize gm_P M Q r k = a
  generalize gm_P M Q r (gm_pv (M r) k) = b
  generalize gm_P M Q r (gm_nx (M r) k) = c
  grind
theorem t_kind (hs : RS (m_state m) M n Q) (hok : gm_ok M n Q) {r k : Nat} (hr : r < n) (hk : k < M r) : G_X9_kind m (iZ (r : Int)) (iZ (k : Int)) = some (iZ (gm_kind M Q r k)) := by
  have b1 := gm_bend_bd hok hr hk
  have b2 := gm_ds_bd hok hr
  unfold G_X9_kind
  rw [t_bend hs hr hk, Option.bind_some, t_sumOf hs hr]
  simp only [Option.bind_some]
  rw [iZ_0, iZ_1, ite_eq (by omega), ind_le (u := gm_bend M Q r k) (by omega), ind_le (u := gm_ds (M r) (gm_P M Q r)) (by omega)]
  simp only [Option.bind_some]
  rw [ite_eq (by split <;> split <;> omega)]
  unfold gm_kind
  (repeat' split) <;> first | rfl | omega
theorem t_kindsOf (hs : RS (m_state m) M n Q) (hok : gm_ok M n Q) (z : Int) (hz : -1 ≤ z ∧ z ≤ 1) : G_X9_kindsOf m (iZ z) = some (iZ (gm_kinds M Q z)) := by
  have hn := hok.1
  have hM := hok.2.1 0 (by omega)
  have s0 : G_X9_many m 0 = some (iZ (M 0 : Nat)) := t_many hs (r := 0) (by omega)
  have lp := lp_sum (L := fun k c a => G_X9_kindsOf_L4 m k c a (iZ z)) (N := M 0) (g := fun k => if gm_kind M Q 0 k = z then 1 else 0) (K := fun a => some (iZ a))
    (fun k c a hc => by
      have kb := gm_kind_bd M Q 0 c
      have sk : G_X9_kind m 0 (iZ (c : Int)) = some (iZ (gm_kind M Q 0 c)) := t_kind hs hok (r := 0) (by omega) hc
      rw [G_X9_kindsOf_L4, s0, Option.bind_some, ite_le (by omega), if_neg (by omega), sk, Option.bind_some, iZ_0, iZ_1, ind_eq (by omega), Option.bind_some, iZ_add, iZ_add])
    (fun k a => by rw [G_X9_kindsOf_L4, s0, Option.bind_some, ite_le (by omega), if_pos (by omega)])
    (M 0) 0 FU 0 (by omega) (by unfold FU; omega)
  refine Eq.trans lp (congrArg (fun z => some (iZ z)) ?_)
  rw [Int.zero_add]
  exact gm_sum_congr (fun k hk => by rw [Nat.zero_add])
theorem t_greatestX (hs : RS (m_state m) M n Q) (hok : gm_ok M n Q) : G_X9_greatestX m = some (iZ (gm_max (gm_fst M n) (fun c => (Q c).1))) := by
  have h4 := hs.2.1
  have inner : ∀ (k4 : Int32 → Int32 → Option Int32) (r : Nat), r < n → G_X9_greatestX_L16 k4 m FU 0 (iZ (r : Int)) (iZ (gm_max (gm_fst M r) (fun c => (Q c).1))) = k4 (iZ ((r : Int) + 1)) (iZ (gm_max (gm_fst M (r + 1)) (fun c => (Q c).1))) := by
    intro k4 r hr
    have hMr := (hs.2.2.1 r hr).1
    obtain ⟨z, hz, e⟩ := lp_inv (L := fun k (z : Int) c => G_X9_greatestX_L16 k4 m k c (iZ (r : Int)) (iZ z)) (N := M r) (I := fun c z => z = gm_max (gm_fst M r + c) (fun c => (Q c).1) ∧ c ≤ M r) (K := fun z => k4 (iZ ((r : Int) + 1)) (iZ z))
      (fun k c z hc hI => by
        have hfc := gm_fst_lt hr hc
        have pp := hok.2.2.1 _ hfc
        unfold gm_paper at pp
        have bd := gm_max_bd (n := gm_fst M r + c) (g := fun c => (Q c).1) (B := 15) (by omega) (fun i hi => by have := hok.2.2.1 i (by omega); unfold gm_paper at this; omega)
        refine ⟨_, ⟨rfl, by omega⟩, ?_⟩
        have ex : (gm_P M Q r c).1 = (Q (gm_fst M r + c)).1 := rfl
        rw [G_X9_greatestX_L16, t_many hs hr, Option.bind_some, ite_le (by omega), if_neg (by omega), t_x hs hr hc, Option.bind_some, hI.1, ite_le (by omega), iZ_1, iZ_add]
        show _ = G_X9_greatestX_L16 k4 m k (iZ ((c : Int) + 1)) (iZ (r : Int)) (iZ (if gm_max (gm_fst M r + c) (fun c => (Q c).1) < (Q (gm_fst M r + c)).1 then (Q (gm_fst M r + c)).1 else gm_max (gm_fst M r + c) (fun c => (Q c).1)))
        by_cases q : (gm_P M Q r c).1 ≤ gm_max (gm_fst M r + c) (fun c => (Q c).1)
        · rw [if_pos q, if_neg (by omega), Option.bind_some]
        · rw [if_neg q, if_pos (by omega), Option.bind_some, Option.bind_some, ex])
      (fun k z hI => by rw [G_X9_greatestX_L16, t_many hs hr, Option.bind_some, ite_le (by omega), if_pos (by omega), iZ_1, iZ_add])
      (M r) 0 FU (gm_max (gm_fst M r) (fun c => (Q c).1)) (by omega) (by unfold FU; omega) ⟨rfl, by omega⟩
    rw [show gm_fst M (r + 1) = gm_fst M r + M r from rfl, ← hz.1]
    exact e
  obtain ⟨z, hz, e⟩ := lp_inv (L := fun k (z : Int) c => G_X9_greatestX_L4 m k c (iZ z)) (N := n) (I := fun c z => z = gm_max (gm_fst M c) (fun c => (Q c).1)) (K := fun z => some (iZ z))
    (fun k c z hc hI => by
      refine ⟨_, rfl, ?_⟩
      rw [G_X9_greatestX_L4, t_n hs, Option.bind_some, ite_le (by omega), if_neg (by omega), hI]
      exact inner _ c hc)
    (fun k z hI => by rw [G_X9_greatestX_L4, t_n hs, Option.bind_some, ite_le (by omega), if_pos (by omega)])
    n 0 FU 0 (by omega) (by unfold FU; omega) rfl
  rw [← hz]
  exact e
theorem t_lengthOf (hs : RS (m_state m) M n Q) {r k : Nat} (hr : r < n) (hk : k < M r) : G_X9_lengthOf m (iZ (r : Int)) (iZ (k : Int)) = some (iZ (gm_len M Q r k)) := by
  have hx := gm_nx_lt hk
  unfold G_X9_lengthOf
  rw [t_next hs hr hk, Option.bind_some, t_x hs hr hx, Option.bind_some, t_x hs hr hk, Option.bind_some, t_y hs hr hx, Option.bind_some, t_y hs hr hk, Option.bind_some, iZ_sub, iZ_mul, iZ_sub, iZ_mul, iZ_add]
  rfl
theorem t_longest (hs : RS (m_state m) M n Q) (hok : gm_ok M n Q) {r : Nat} (hr : r < n) : G_X9_longest m (iZ (r : Int)) = some (iZ (gm_lg (gm_len M Q r) (M r) : Nat)) := by
  have hM := hok.2.1 r hr
  have h4 := hs.2.1
  obtain ⟨z, hz, e⟩ := lp_inv (L := fun k (z : Nat) c => G_X9_longest_L4 m k c (iZ (z : Int)) (iZ (r : Int))) (N := M r) (I := fun c z => (z = gm_lg (gm_len M Q r) c ∧ z < M r) ∧ 1 ≤ c) (K := fun z => some (iZ (z : Int)))
    (fun k c z hc hI => by
      obtain ⟨⟨i1, i2⟩, i3⟩ := hI
      have b1 := gm_len_bd hok hr hc
      have b2 := gm_len_bd hok hr i2
      refine ⟨gm_lg (gm_len M Q r) (c + 1), ⟨⟨rfl, gm_lg_lt (c + 1) (by omega) (by omega)⟩, by omega⟩, ?_⟩
      rw [G_X9_longest_L4, t_many hs hr, Option.bind_some, ite_le (by omega), if_neg (by omega), t_lengthOf hs hr hc, Option.bind_some, t_lengthOf hs hr i2, Option.bind_some, ite_le (by omega), iZ_1, iZ_add]
      unfold gm_lg
      rw [← i1]
      by_cases q : gm_len M Q r z < gm_len M Q r c
      · rw [if_neg (by omega), if_pos q, Option.bind_some]
      · rw [if_pos (by omega), if_neg q, Option.bind_some])
    (fun k z hI => by rw [G_X9_longest_L4, t_many hs hr, Option.bind_some, ite_le (by omega), if_pos (by omega)])
    (M r - 1) 1 FU 0 (by omega) (by unfold FU; omega) ⟨⟨by show 0 = gm_lg _ 1; unfold gm_lg; rw [if_neg (by unfold gm_lg; omega)]; rfl, by omega⟩, Nat.le_refl _⟩
  rw [hz.1.1] at e
  exact e
theorem t_squareOf (hs : RS (m_state m) M n Q) (hn : 1 ≤ n) {a b : Nat} (ha : a < M 0) (hb : b < M 0) : G_X9_squareOf m (iZ (a : Int)) (iZ (b : Int)) = some (iZ (gm_sqd (Q a) (Q b))) := by
  have x1 : G_X9_x m 0 (iZ (a : Int)) = some (iZ (gm_P M Q 0 a).1) := t_x hs (r := 0) (by omega) ha
  have x2 : G_X9_x m 0 (iZ (b : Int)) = some (iZ (gm_P M Q 0 b).1) := t_x hs (r := 0) (by omega) hb
  have y1 : G_X9_y m 0 (iZ (a : Int)) = some (iZ (gm_P M Q 0 a).2) := t_y hs (r := 0) (by omega) ha
  have y2 : G_X9_y m 0 (iZ (b : Int)) = some (iZ (gm_P M Q 0 b).2) := t_y hs (r := 0) (by omega) hb
  unfold G_X9_squareOf
  rw [x1, Option.bind_some, x2, Option.bind_some, y1, Option.bind_some, y2, Option.bind_some, iZ_sub, iZ_mul, iZ_sub, iZ_mul, iZ_add, gm_P0]
  rfl
end REF
