/-! the second class: numbers of a figure -/
section REF
variable {m : Mod} {M : Nat → Nat} {n : Nat} {Q : Nat → Pt}
theorem gm_sum0 (N : Nat) (g : Nat → Int) : gm_sum N (fun k => g (0 + k)) = gm_sum N g := gm_sum_congr (fun k _ => by rw [Nat.zero_add])
theorem t_sumOf (hs : RS (m_state m) M n Q) {r : Nat} (hr : r < n) : G_X9_sumOf m (iZ (r : Int)) = some (iZ (gm_ds (M r) (gm_P M Q r))) := by
  have h4 := hs.2.1
  have hM := (hs.2.2.1 r hr).1
  have lp := lp_sum (L := fun k c a => G_X9_sumOf_L4 m k c a (iZ (r : Int))) (N := M r) (g := fun k => (gm_P M Q r k).1 * (gm_P M Q r (gm_nx (M r) k)).2 - (gm_P M Q r (gm_nx (M r) k)).1 * (gm_P M Q r k).2) (K := fun a => some (iZ a))
    (fun k c a hc => by
      have hx := gm_nx_lt hc
      rw [G_X9_sumOf_L4, t_many hs hr, Option.bind_some, ite_le (by omega), if_neg (by omega), t_next hs hr hc, Option.bind_some, t_x hs hr hc, Option.bind_some, t_y hs hr hx, Option.bind_some, t_x hs hr hx, Option.bind_some, t_y hs hr hc, Option.bind_some, iZ_mul, iZ_mul, iZ_sub, iZ_add, iZ_1, iZ_add])
    (fun k a => by rw [G_X9_sumOf_L4, t_many hs hr, Option.bind_some, ite_le (by omega), if_pos (by omega)])
    (M r) 0 FU 0 (by omega) (by unfold FU; omega)
  refine Eq.trans lp (congrArg (fun z => some (iZ z)) ?_)
  rw [Int.zero_add]
  exact gm_sum_congr (fun k hk => by rw [Nat.zero_add])
theorem t_size {z : Int} (h1 : -2147483648 < z) (h2 : z < 2147483648) : G_X9_size (iZ z) = some (iZ (gm_abs z)) := by
  unfold G_X9_size gm_abs
  rw [iZ_0, ite_le (by omega), iZ_neg]
  split <;> rfl
theorem t_area (hs : RS (m_state m) M n Q) (hok : gm_ok M n Q) : G_X9_area m = some (iZ (gm_area M n Q)) := by
  have hn := hok.1
  have b0 := gm_ds_bd hok (r := 0) (by omega)
  have lp := lp_sum (L := fun k c a => G_X9_area_L11 m k c a) (N := n) (g := fun r => -gm_abs (gm_ds (M r) (gm_P M Q r))) (K := fun a => some (iZ a))
    (fun k c a hc => by
      have b := gm_ds_bd hok hc
      rw [G_X9_area_L11, t_n hs, Option.bind_some, ite_le (by omega), if_neg (by omega), t_sumOf hs hc, Option.bind_some, t_size (by omega) (by omega), Option.bind_some, iZ_sub, iZ_1, iZ_add]
      refine congrArg (fun z => G_X9_area_L11 m k (iZ ((c : Int) + 1)) (iZ z)) ?_
      omega)
    (fun k a => by rw [G_X9_area_L11, t_n hs, Option.bind_some, ite_le (by omega), if_pos (by omega)])
    (n - 1) 1 FU (gm_abs (gm_ds (M 0) (gm_P M Q 0))) (by omega) (by unfold FU; omega)
  have e0 := t_sumOf hs (r := 0) (by omega)
  have e0 : G_X9_sumOf m 0 = some (iZ (gm_ds (M 0) (gm_P M Q 0))) := e0
  unfold G_X9_area
  rw [e0, Option.bind_some, t_size (by omega) (by omega), Option.bind_some]
  refine Eq.trans lp (congrArg (fun z => some (iZ z)) ?_)
  unfold gm_area
  have : gm_sum (n - 1) (fun k => -gm_abs (gm_ds (M (1 + k)) (gm_P M Q (1 + k)))) = (-1) * gm_sum (n - 1) (fun i => gm_abs (gm_ds (M (i + 1)) (gm_P M Q (i + 1)))) := by
    rw [← gm_sum_mul]
    refine gm_sum_congr (fun k hk => ?_)
    rw [Nat.add_comm 1 k]; omega
  rw [this]; omega
theorem t_gcd : ∀ (y x k : Nat), x < 100 → y < 100 → y < k → G_X9_divisor_L10 k (iZ (y : Int)) (iZ (x : Int)) = some (iZ ((y.gcd x : Nat) : Int)) := by
  intro y
  induction y using Nat.strongRecOn with
  | ind y ih =>
    intro x k hx hy hk
    obtain ⟨k, rfl⟩ : ∃ q, k = q + 1 := ⟨k - 1, by omega⟩
    rw [G_X9_divisor_L10, iZ_0, ite_le (by omega)]
    by_cases c : y = 0
    · rw [if_pos (by omega), c, Nat.gcd_zero_left]
    · have hm : x % y < y := Nat.mod_lt x (by omega)
      have e : ((x : Int)).tmod (y : Int) = ((x % y : Nat) : Int) := rfl
      rw [if_neg (by omega), rmI_iZ (by omega) (by omega), Option.bind_some, e, ih (x % y) hm y k (by omega) (by omega) (by omega), ← Nat.gcd_rec]
theorem t_divisor {a b : Int} (ha : a.natAbs < 100) (hb : b.natAbs < 100) : G_X9_divisor (iZ a) (iZ b) = some (iZ ((a.natAbs.gcd b.natAbs : Nat) : Int)) := by
  have e : ∀ z : Int, gm_abs z = (z.natAbs : Int) := by intro z; unfold gm_abs; split <;> omega
  unfold G_X9_divisor
  rw [t_size (by omega) (by omega), Option.bind_some, t_size (by omega) (by omega), Option.bind_some, e, e, t_gcd _ _ FU ha hb (by unfold FU; omega), Nat.gcd_comm]
theorem t_pointsOf (hs : RS (m_state m) M n Q) (r1 : gm_R1 M n Q) {r k : Nat} (hr : r < n) (hk : k < M r) : G_X9_pointsOf m (iZ (r : Int)) (iZ (k : Int)) = some (iZ (gm_g (gm_P M Q r k) (gm_P M Q r (gm_nx (M r) k)))) := by
  have hx := gm_nx_lt hk
  have pa : gm_paper (gm_P M Q r k) := r1 _ (gm_fst_lt hr hk)
  have pb : gm_paper (gm_P M Q r (gm_nx (M r) k)) := r1 _ (gm_fst_lt hr hx)
  unfold gm_paper at pa pb
  unfold G_X9_pointsOf
  rw [t_next hs hr hk, Option.bind_some, t_x hs hr hx, Option.bind_some, t_x hs hr hk, Option.bind_some, t_y hs hr hx, Option.bind_some, t_y hs hr hk, Option.bind_some, iZ_sub, iZ_sub, t_divisor (by omega) (by omega), Option.bind_some]
  rfl
theorem t_ringPoints (hs : RS (m_state m) M n Q) (r1 : gm_R1 M n Q) {r : Nat} (hr : r < n) : G_X9_ringPoints m (iZ (r : Int)) = some (iZ (gm_bd (M r) (gm_P M Q r))) := by
  have h4 := hs.2.1
  have hM := (hs.2.2.1 r hr).1
  have lp := lp_sum (L := fun k c a => G_X9_ringPoints_L4 m k c a (iZ (r : Int))) (N := M r) (g := fun k => gm_g (gm_P M Q r k) (gm_P M Q r (gm_nx (M r) k))) (K := fun a => some (iZ a))
    (fun k c a hc => by
      rw [G_X9_ringPoints_L4, t_many hs hr, Option.bind_some, ite_le (by omega), if_neg (by omega), t_pointsOf hs r1 hr hc, Option.bind_some, iZ_add, iZ_1, iZ_add])
    (fun k a => by rw [G_X9_ringPoints_L4, t_many hs hr, Option.bind_some, ite_le (by omega), if_pos (by omega)])
    (M r) 0 FU 0 (by omega) (by unfold FU; omega)
  refine Eq.trans lp (congrArg (fun z => some (iZ z)) ?_)
  rw [Int.zero_add]
  exact gm_sum_congr (fun k hk => by rw [Nat.zero_add])
/-- the place of a point, as a number -/
noncomputable def gm_whz (M : Nat → Nat) (n : Nat) (Q : Nat → Pt) (p : Pt) : Int := @dite _ (∃ z, gm_wh M n Q p z) (Classical.propDecidable _) (fun h => Classical.choose h) (fun _ => 0)
theorem gm_whz_eq {p : Pt} {z : Int} (h : gm_wh M n Q p z) : gm_whz M n Q p = z := by
  have hex : ∃ z, gm_wh M n Q p z := ⟨z, h⟩
  unfold gm_whz
  rw [dif_pos hex]
  exact gm_wh_un (Classical.choose_spec hex) h
theorem gm_wh_03 {p : Pt} {z : Int} (h : gm_wh M n Q p z) : 0 ≤ z ∧ z ≤ 3 := by
  rcases h with ⟨-, a⟩ | ⟨-, ⟨-, a⟩ | ⟨-, -, a⟩ | ⟨-, -, a⟩⟩ <;> omega
theorem t_whereNotOn (hs : RS (m_state m) M n Q) (hok : gm_ok M n Q) {p : Pt} (hp : gm_paper p) (off : ∀ c, c < gm_fst M n → ¬ gm_on (Q c) (Q (gm_nf M n c)) p) :
    ∃ z : Int, gm_wh M n Q p z ∧ G_X9_whereNotOn m (iZ (2 * p.1)) (iZ (2 * p.2)) = some (iZ z) := by
  have hn := hok.1
  have hg := gm_ok_good hok
  have pp2 : 0 ≤ (gm_sc 2 p).1 ∧ (gm_sc 2 p).1 ≤ 30 ∧ 0 ≤ (gm_sc 2 p).2 ∧ (gm_sc 2 p).2 ≤ 30 := by
    unfold gm_paper at hp
    have e1 : (gm_sc 2 p).1 = 2 * p.1 := rfl
    have e2 : (gm_sc 2 p).2 = 2 * p.2 := rfl
    omega
  have sv : ∀ r, r < n → ∃ z : Int, (z = 0 ∨ z = 1) ∧ (z = 1 ↔ gm_w (M r) (gm_P M Q r) p ≠ 0) ∧ G_X9_surrounds m (iZ (r : Int)) (iZ (2 * p.1)) (iZ (2 * p.2)) = some (iZ z) := by
    intro r hr
    have e0 := t_surrounds hs hok.2.2.1 hr (p := gm_sc 2 p) pp2
    rw [show (gm_sc 2 p).1 = 2 * p.1 from rfl, show (gm_sc 2 p).2 = 2 * p.2 from rfl] at e0
    refine ⟨gm_w (M r) (gm_P2 M Q r) (gm_sc 2 p) % 2, by omega, ?_, e0⟩
    rw [gm_odd2 (hg.2.2.2.1 r hr) (gm_off_P2 hok off hr), gm_w2]
  have stop : ∀ k c, G_X9_whereNotOn_L19 m (k + 1) (iZ c) (iZ 3) (iZ (2 * p.1)) (iZ (2 * p.2)) = some (iZ 3) := by
    intro k c
    rw [G_X9_whereNotOn_L19, t_n hs, Option.bind_some, if_neg (show ¬ iZ 3 = 2 by decide)]
    split <;> rfl
  have stop0 : ∀ k c, G_X9_whereNotOn_L19 m (k + 1) (iZ c) (iZ 0) (iZ (2 * p.1)) (iZ (2 * p.2)) = some (iZ 0) := by
    intro k c
    rw [G_X9_whereNotOn_L19, t_n hs, Option.bind_some, if_neg (show ¬ iZ 0 = 2 by decide)]
    split <;> rfl
  have run : ∀ d c k, c + d = n → d + 1 < k → ((∃ r, c ≤ r ∧ r < n ∧ gm_w (M r) (gm_P M Q r) p ≠ 0) ∧ G_X9_whereNotOn_L19 m k (iZ (c : Int)) (iZ 2) (iZ (2 * p.1)) (iZ (2 * p.2)) = some (iZ 3)) ∨ ((∀ r, c ≤ r → r < n → gm_w (M r) (gm_P M Q r) p = 0) ∧ G_X9_whereNotOn_L19 m k (iZ (c : Int)) (iZ 2) (iZ (2 * p.1)) (iZ (2 * p.2)) = some (iZ 2)) := by
    intro d
    induction d with
    | zero =>
      intro c k hc hk
      obtain ⟨k, rfl⟩ : ∃ q, k = q + 1 := ⟨k - 1, by omega⟩
      right
      refine ⟨fun r a b => by omega, ?_⟩
      rw [G_X9_whereNotOn_L19, t_n hs, Option.bind_some, ite_le (by omega), if_pos (by omega)]
    | succ d ih =>
      intro c k hc hk
      obtain ⟨k, rfl⟩ : ∃ q, k = q + 1 := ⟨k - 1, by omega⟩
      obtain ⟨z, z01, hz, e⟩ := sv c (by omega)
      rw [G_X9_whereNotOn_L19, t_n hs, Option.bind_some, ite_le (by omega), if_neg (by omega), if_pos (show iZ 2 = 2 from rfl), e, Option.bind_some, iZ_0, iZ_2, iZ_3, ind_eq (by omega), Option.bind_some, iZ_1, iZ_add]
      by_cases z0 : z = 0
      · rw [if_pos z0]
        have := ih (c + 1) k (by omega) (by omega)
        rw [show (((c + 1 : Nat)) : Int) = (c : Int) + 1 by omega] at this
        rcases this with ⟨⟨r, a, b, q⟩, e2⟩ | ⟨a, e2⟩
        · exact Or.inl ⟨⟨r, by omega, b, q⟩, e2⟩
        · refine Or.inr ⟨fun r ra rb => ?_, e2⟩
          by_cases q : r = c
          · rw [q]
            exact Classical.byContradiction (fun w => by have := hz.mpr w; omega)
          · exact a r (by omega) rb
      · rw [if_neg z0]
        obtain ⟨k, rfl⟩ : ∃ q, k = q + 1 := ⟨k - 1, by omega⟩
        exact Or.inl ⟨⟨c, Nat.le_refl c, by omega, hz.mp (by omega)⟩, stop k _⟩
  obtain ⟨z, z01, hz, e⟩ := sv 0 (by omega)
  have e : G_X9_surrounds m 0 (iZ (2 * p.1)) (iZ (2 * p.2)) = some (iZ z) := e
  unfold G_X9_whereNotOn
  rw [e, Option.bind_some, iZ_0, iZ_2, ind_eq (by omega), Option.bind_some, iZ_1]
  by_cases z0 : z = 0
  · rw [if_pos z0]
    refine ⟨0, Or.inr ⟨off, Or.inl ⟨Classical.byContradiction (fun w => by have := hz.mpr w; omega), rfl⟩⟩, ?_⟩
    rw [show FU = (FU - 1) + 1 by unfold FU; rfl]
    exact stop0 _ _
  · rw [if_neg z0]
    have w0 := hz.mp (by omega)
    rcases run (n - 1) 1 FU (by omega) (by unfold FU; omega) with ⟨⟨r, a, b, q⟩, e2⟩ | ⟨a, e2⟩
    · exact ⟨3, Or.inr ⟨off, Or.inr (Or.inl ⟨w0, ⟨r, a, b, q⟩, rfl⟩)⟩, e2⟩
    · exact ⟨2, Or.inr ⟨off, Or.inr (Or.inr ⟨w0, a, rfl⟩)⟩, e2⟩
theorem t_where (hs : RS (m_state m) M n Q) (hok : gm_ok M n Q) {p : Pt} (hp : gm_paper p) : gm_wh M n Q p (gm_whz M n Q p) ∧ G_X9_where m (iZ p.1) (iZ p.2) = some (iZ (gm_whz M n Q p)) := by
  have hn := hok.1
  suffices h : ∃ z, gm_wh M n Q p z ∧ G_X9_where m (iZ p.1) (iZ p.2) = some (iZ z) by
    obtain ⟨z, h1, h2⟩ := h
    rw [gm_whz_eq h1]
    exact ⟨h1, h2⟩
  have inner : ∀ (k2 : Int32 → Int32 → Int32 → Option Int32) (r : Nat), r < n → ((∃ k, k < M r ∧ gm_on (gm_P M Q r k) (gm_P M Q r (gm_nx (M r) k)) p) ∧ G_X9_where_L15 k2 m FU 0 (iZ (r : Int)) (iZ p.1) (iZ p.2) = some 1) ∨
      ((∀ k, k < M r → ¬ gm_on (gm_P M Q r k) (gm_P M Q r (gm_nx (M r) k)) p) ∧ G_X9_where_L15 k2 m FU 0 (iZ (r : Int)) (iZ p.1) (iZ p.2) = k2 (iZ ((r : Int) + 1)) (iZ p.1) (iZ p.2)) := by
    intro k2 r hr
    have hMr := (hs.2.2.1 r hr).1
    have lp := lp_ex (L := fun k c => G_X9_where_L15 k2 m k c (iZ (r : Int)) (iZ p.1) (iZ p.2)) (N := M r) (T := fun k => gm_on (gm_P M Q r k) (gm_P M Q r (gm_nx (M r) k)) p) (r1 := some 1) (r0 := k2 (iZ ((r : Int) + 1)) (iZ p.1) (iZ p.2))
      (fun k c hc ht => by
        have hx := gm_nx_lt hc
        have pa : gm_paper (gm_P M Q r c) := gm_paper_P hok hr hc
        have pb : gm_paper (gm_P M Q r (gm_nx (M r) c)) := gm_paper_P hok hr hx
        have bo := gm_bo_01 (gm_P M Q r c) (gm_P M Q r (gm_nx (M r) c)) p
        rw [G_X9_where_L15, t_many hs hr, Option.bind_some, ite_le (by omega), if_neg (by omega), t_next hs hr hc, Option.bind_some, t_x hs hr hc, Option.bind_some, t_y hs hr hc, Option.bind_some, t_x hs hr hx, Option.bind_some, t_y hs hr hx, Option.bind_some, t_isOn pa pb hp, Option.bind_some, if_neg]
        rcases bo with q | q
        · rw [q.1]; decide
        · exact absurd ht q.2)
      (fun k c hc ht => by
        have hx := gm_nx_lt hc
        have pa : gm_paper (gm_P M Q r c) := gm_paper_P hok hr hc
        have pb : gm_paper (gm_P M Q r (gm_nx (M r) c)) := gm_paper_P hok hr hx
        have bo := gm_bo_01 (gm_P M Q r c) (gm_P M Q r (gm_nx (M r) c)) p
        rw [G_X9_where_L15, t_many hs hr, Option.bind_some, ite_le (by omega), if_neg (by omega), t_next hs hr hc, Option.bind_some, t_x hs hr hc, Option.bind_some, t_y hs hr hc, Option.bind_some, t_x hs hr hx, Option.bind_some, t_y hs hr hx, Option.bind_some, t_isOn pa pb hp, Option.bind_some, if_pos, iZ_1, iZ_add]
        rcases bo with q | q
        · exact absurd q.2 ht
        · rw [q.1]; rfl)
      (fun k => by rw [G_X9_where_L15, t_many hs hr, Option.bind_some, ite_le (by omega), if_pos (by omega), iZ_1, iZ_add])
      (M r) 0 FU (by omega) (by unfold FU; omega)
    rcases lp with ⟨⟨c, -, c2, c3⟩, e⟩ | ⟨q, e⟩
    · exact Or.inl ⟨⟨c, c2, c3⟩, e⟩
    · exact Or.inr ⟨fun k hk => q k (Nat.zero_le k) hk, e⟩
  have lp := lp_ex (L := fun k c => G_X9_where_L2 m k c (iZ p.1) (iZ p.2)) (N := n) (T := fun r => ∃ k, k < M r ∧ gm_on (gm_P M Q r k) (gm_P M Q r (gm_nx (M r) k)) p) (r1 := some 1) (r0 := G_X9_whereNotOn m (iZ (2 * p.1)) (iZ (2 * p.2)))
    (fun k c hc ht => by
      rw [G_X9_where_L2, t_n hs, Option.bind_some, ite_le (by omega), if_neg (by omega)]
      rcases inner (G_X9_where_L2 m k) c hc with ⟨-, e⟩ | ⟨q, -⟩
      · exact e
      · obtain ⟨j, j1, j2⟩ := ht
        exact absurd j2 (q j j1))
    (fun k c hc ht => by
      rw [G_X9_where_L2, t_n hs, Option.bind_some, ite_le (by omega), if_neg (by omega)]
      rcases inner (G_X9_where_L2 m k) c hc with ⟨q, -⟩ | ⟨-, e⟩
      · exact absurd q ht
      · exact e)
    (fun k => by
      rw [G_X9_where_L2, t_n hs, Option.bind_some, ite_le (by omega), if_pos (by omega), iZ_2, iZ_mul, iZ_mul]
      generalize G_X9_whereNotOn m (iZ (2 * p.1)) (iZ (2 * p.2)) = v
      cases v <;> rfl)
    n 0 FU (by omega) (by unfold FU; omega)
  rcases lp with ⟨⟨r, -, hr, k, hk, q⟩, e⟩ | ⟨q, e⟩
  · refine ⟨1, Or.inl ⟨⟨gm_fst M r + k, gm_fst_lt hr hk, ?_⟩, rfl⟩, e⟩
    rw [gm_nf_eq hr hk]
    exact q
  · have off : ∀ c, c < gm_fst M n → ¬ gm_on (Q c) (Q (gm_nf M n c)) p := by
      intro c hc
      obtain ⟨r, k, hr, hk, rfl⟩ := gm_flat hc
      rw [gm_nf_eq hr hk]
      exact fun w => q r (Nat.zero_le r) hr ⟨k, hk, w⟩
    obtain ⟨z, h1, h2⟩ := t_whereNotOn hs hok hp off
    exact ⟨z, h1, e.trans h2⟩
end REF
