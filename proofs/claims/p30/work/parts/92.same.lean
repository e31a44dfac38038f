/-! the law's comparison: class and rings show the same -/
def gs (M : Nat → Nat) (n : Nat) (g : Nat → Int) (c : Nat) : Int := gm_sum c (fun e => if e / 10 < n ∧ e % 10 < M (e / 10) then g e else 0)
section SAME
variable {M : Nat → Nat} {n : Nat} {Q : Nat → Pt} {f x y : Nat → Int32} {F : Fig}
theorem gs_yes {g : Nat → Int} {c : Nat} (t : th M n c) : gs M n g (c + 1) = gs M n g c + g c := by
  show gs M n g c + (if c / 10 < n ∧ c % 10 < M (c / 10) then g c else 0) = _
  rw [if_pos (show c / 10 < n ∧ c % 10 < M (c / 10) from t)]
theorem gs_no {g : Nat → Int} {c : Nat} (t : ¬ th M n c) : gs M n g (c + 1) = gs M n g c := by
  show gs M n g c + (if c / 10 < n ∧ c % 10 < M (c / 10) then g c else 0) = _
  rw [if_neg (show ¬ (c / 10 < n ∧ c % 10 < M (c / 10)) from t), Int.add_zero]
theorem gs_ring (h10 : ∀ r, r < n → M r ≤ 10) (g : Nat → Int) {r : Nat} (hr : r < n) : ∀ j, j ≤ 10 → gs M n g (10 * r + j) = gs M n g (10 * r) + gm_sum (if j < M r then j else M r) (fun k => g (10 * r + k)) := by
  intro j
  induction j with
  | zero =>
    intro _
    rw [show (if 0 < M r then 0 else M r) = 0 by split <;> omega]
    exact (Int.add_zero _).symm
  | succ j ih =>
    intro hj
    have i := ih (by omega)
    have e1 : (10 * r + j) / 10 = r := by omega
    have e2 : (10 * r + j) % 10 = j := by omega
    by_cases c : j < M r
    · have t : th M n (10 * r + j) := by unfold th; rw [e1, e2]; exact ⟨hr, c⟩
      rw [← Nat.add_assoc, gs_yes t, i, if_pos c]
      by_cases c2 : j + 1 < M r
      · rw [if_pos c2, Int.add_assoc]; rfl
      · rw [if_neg c2, show M r = j + 1 by omega, Int.add_assoc]; rfl
    · have t : ¬ th M n (10 * r + j) := by unfold th; rw [e1, e2]; exact fun q => c q.2
      rw [← Nat.add_assoc, gs_no t, i, if_neg c, if_neg (show ¬ j + 1 < M r by omega)]
theorem gs_rings (h10 : ∀ r, r < n → M r ≤ 10) (g : Nat → Int) : ∀ m, m ≤ n → gs M n g (10 * m) = gm_sum m (fun r => gm_sum (M r) (fun k => g (10 * r + k))) := by
  intro m
  induction m with
  | zero => intro _; rfl
  | succ m ih =>
    intro hm
    have i := ih (by omega)
    have k := gs_ring h10 g (r := m) (by omega) 10 (by omega)
    have m10 := h10 m (by omega)
    rw [show 10 * (m + 1) = 10 * m + 10 by omega, k, i]
    rw [show (if 10 < M m then 10 else M m) = M m by split <;> omega]
    rfl
theorem gs_tot (h10 : ∀ r, r < n → M r ≤ 10) (h4 : n ≤ 4) (g : Nat → Int) : gs M n g 40 = gm_sum n (fun r => gm_sum (M r) (fun k => g (10 * r + k))) := by
  rw [← gs_rings h10 g n (Nat.le_refl n)]
  have : ∀ j, 10 * n + j ≤ 40 → gs M n g (10 * n + j) = gs M n g (10 * n) := by
    intro j
    induction j with
    | zero => intro _; rfl
    | succ j ih =>
      intro hj
      rw [← Nat.add_assoc, gs_no (fun t => by have := t.1; omega), ih (by omega)]
  have := this (40 - 10 * n) (by omega)
  rw [show 10 * n + (40 - 10 * n) = 40 by omega] at this
  exact this
theorem gs_flat (h10 : ∀ r, r < n → M r ≤ 10) (h4 : n ≤ 4) (g : Nat → Int) (g' : Nat → Int) (hg : ∀ c, th M n c → g c = g' (gq M c)) : gs M n g 40 = gm_sum (gm_fst M n) g' := by
  rw [gs_tot h10 h4, gm_sum_flat]
  refine gm_sum_congr (fun r hr => gm_sum_congr (fun k hk => ?_))
  rw [hg _ (th_mk h10 hr hk).1, gq_mk h10 hr hk]
theorem gs_first (h10 : ∀ r, r < n → M r ≤ 10) (h1 : 1 ≤ n) (h4 : n ≤ 4) (g : Nat → Int) (g' : Nat → Int) (h0 : ∀ k, k < M 0 → g k = g' k) (hz : ∀ r k, 1 ≤ r → r < n → k < M r → g (10 * r + k) = 0) : gs M n g 40 = gm_sum (M 0) g' := by
  rw [gs_tot h10 h4]
  obtain ⟨m, rfl⟩ : ∃ m, n = m + 1 := ⟨n - 1, by omega⟩
  rw [gm_sum_shift, gm_sum_zero (n := m) (fun i hi => gm_sum_zero (fun k hk => hz (i + 1) k (by omega) (by omega) hk)), Int.add_zero]
  exact gm_sum_congr (fun k hk => by rw [Nat.mul_zero, Nat.zero_add]; exact h0 k hk)
theorem gs_bd {g : Nat → Int} {B : Int} (hB : 0 ≤ B) (h : ∀ e, 0 ≤ g e ∧ g e ≤ B) {c : Nat} : 0 ≤ gs M n g c ∧ gs M n g c ≤ B * c := by
  have k1 := gm_sum_nonneg (n := c) (f := fun e => if e / 10 < n ∧ e % 10 < M (e / 10) then g e else 0) (fun e _ => by split; · exact (h e).1
                                                                                                                       · omega)
  have k2 := gm_sum_bd (m := c) (B := B) (g := fun e => if e / 10 < n ∧ e % 10 < M (e / 10) then g e else 0) (fun e _ => by have := h e; split <;> omega)
  exact ⟨k1, k2.2⟩
/-- the border's points, counted point by point -/
theorem gm_border_pp (hok : gm_ok M n Q) : gm_pp (fun p => if gm_whz M n Q p = 1 then 1 else 0) = gm_border M n Q := by
  have hn := hok.1
  have h3 : ∀ r, r < n → 3 ≤ M r := fun r hr => (hok.2.1 r hr).1
  have si : ∀ r, r < n → gm_simple (M r) (gm_P M Q r) := fun r hr => gm_flat_simple h3 hok.2.2.2.1 hok.2.2.2.2.1 hok.2.2.2.2.2.1 hr
  have ap : ∀ r s, r < n → s < n → r ≠ s → gm_apart (M r) (gm_P M Q r) (M s) (gm_P M Q s) := fun r s hr hs ne => gm_flat_apart hok.2.2.2.1 hok.2.2.2.2.1 hok.2.2.2.2.2.1 hr hs ne
  unfold gm_border
  rw [gm_sum_congr (n := n) (g := fun r => gm_pp (gm_r (M r) (gm_P M Q r))) (fun r hr => (gm_pp_r (si r hr) (fun k hk => gm_paper_P hok hr hk)).symm), ← gm_pp_sum n (fun r => gm_r (M r) (gm_P M Q r))]
  refine gm_pp_congr (fun p hp => ?_)
  have onr : ∀ r k, r < n → k < M r → (gm_on (gm_P M Q r k) (gm_P M Q r (gm_nx (M r) k)) p ↔ gm_on (Q (gm_fst M r + k)) (Q (gm_nf M n (gm_fst M r + k))) p) := by
    intro r k hr hk
    rw [gm_nf_eq hr hk]
    exact Iff.rfl
  by_cases c : ∃ q, q < gm_fst M n ∧ gm_on (Q q) (Q (gm_nf M n q)) p
  · obtain ⟨q, hq, on⟩ := c
    rw [if_pos (gm_whz_eq (Or.inl ⟨⟨q, hq, on⟩, rfl⟩))]
    obtain ⟨r, k, hr, hk, rfl⟩ := gm_flat hq
    have on' := (onr r k hr hk).mpr on
    rw [gm_sum_one (i := r) hr (fun s hs ne => ?_)]
    · rcases gm_r_iff (si r hr) p with w | w
      · exact absurd on' (w.2 k hk)
      · exact w.1.symm
    · rcases gm_r_iff (si s hs) p with w | w
      · exact w.1
      · obtain ⟨k2, hk2, on2⟩ := w.2
        exact absurd on2 (gm_apart_off (ap s r hs hr ne) hk on' k2 hk2)
  · have off : ∀ q, q < gm_fst M n → ¬ gm_on (Q q) (Q (gm_nf M n q)) p := fun q hq on => c ⟨q, hq, on⟩
    have n1 : gm_whz M n Q p ≠ 1 := by
      intro e
      by_cases w0 : gm_w (M 0) (gm_P M Q 0) p = 0
      · have := gm_whz_eq (Or.inr ⟨off, Or.inl ⟨w0, rfl⟩⟩ : gm_wh M n Q p 0)
        omega
      · by_cases w1 : ∃ r, 1 ≤ r ∧ r < n ∧ gm_w (M r) (gm_P M Q r) p ≠ 0
        · have := gm_whz_eq (Or.inr ⟨off, Or.inr (Or.inl ⟨w0, w1, rfl⟩)⟩ : gm_wh M n Q p 3)
          omega
        · have := gm_whz_eq (Or.inr ⟨off, Or.inr (Or.inr ⟨w0, fun r a b => Classical.byContradiction (fun q => w1 ⟨r, a, b, q⟩), rfl⟩)⟩ : gm_wh M n Q p 2)
          omega
    rw [if_neg n1, gm_sum_zero (fun r hr => ?_)]
    rcases gm_r_iff (si r hr) p with w | w
    · exact w.1
    · obtain ⟨k, hk, on⟩ := w.2
      exact absurd ((onr r k hr hk).mp on) (off _ (gm_fst_lt hr hk))
theorem gm_inside_pp (rf : RF F M n Q) (hok : gm_ok M n Q) : gm_pp (fun p => if gm_whz M n Q p = 2 then 1 else 0) = gm_pp (gm_fi n M (gm_P M Q)) := by
  refine gm_pp_congr (fun p hp => ?_)
  obtain ⟨z, _, _, w, _⟩ := s_placeOf rf hok hp
  rw [gm_whz_eq w, gm_wh_fi hok w]
theorem p_about (rf : RF F M n Q) (hok : gm_ok M n Q) (z : Int) (hz : 0 ≤ z ∧ z ≤ 9) : G_X8_about F (iZ z) = some (.inr (iZ (gm_abt M n Q z))) := by
  rw [s_about rf hok z (by omega) (by omega), if_pos hz]
/-- the second half: points, rows, numbers -/
theorem L_same2 (h : RQ f x y M n Q) (hok : gm_ok M n Q) (rf : RF F M n Q) (row : Int) (hrow : 0 ≤ row ∧ row ≤ 15) : G_L_same_L413 5 40 40 F f x y FU 0 0 0 (iZ (gm_kinds M Q (-1))) (iZ (gm_kinds M Q 1)) (iZ (gm_ears M n Q)) (iZ (2 * gm_pairs M n Q)) (iZ (gm_fst M n : Nat)) (iZ row) = some 1 := by
  have h4 := h.2.1
  have wz : ∀ p, gm_paper p → G_L_where 5 40 40 f x y (iZ p.1) (iZ p.2) = some (iZ (gm_whz M n Q p)) ∧ 0 ≤ gm_whz M n Q p ∧ gm_whz M n Q p ≤ 3 := by
    intro p hp
    obtain ⟨z, w, e⟩ := L_wh h hok hp
    rw [gm_whz_eq w]
    have := gm_wh_03 w
    exact ⟨e, this.1, this.2⟩
  obtain ⟨on, hon⟩ : ∃ on : Nat → Nat → Int, on = (fun (j i : Nat) => if gm_whz M n Q ((i : Int), (j : Int)) = 1 then (1 : Int) else 0) := ⟨_, rfl⟩
  obtain ⟨inn, hinn⟩ : ∃ inn : Nat → Nat → Int, inn = (fun (j i : Nat) => if gm_whz M n Q ((i : Int), (j : Int)) = 2 then (1 : Int) else 0) := ⟨_, rfl⟩
  have inner : ∀ (r413 : Int32 → Int32 → Int32 → Int32 → Int32 → Int32 → Int32 → Int32 → Int32 → Option Int32) (j : Nat) (B I : Int) (l9 l8 l7 l6 l5 : Int32), j < 16 →
      G_L_same_L429 r413 5 40 40 F f x y FU 0 0 0 (iZ (j : Int)) (iZ B) (iZ I) l9 l8 l7 l6 l5 (iZ row) = r413 (iZ ((j : Int) + 1)) (iZ (B + gm_sum 16 (on j))) (iZ (I + gm_sum 16 (inn j))) l9 l8 l7 l6 l5 (iZ row) := by
    intro r413 j B I l9 l8 l7 l6 l5 hj
    have lp := lp_run (S := Int32 × Int32) (L := fun k s z => G_L_same_L429 r413 5 40 40 F f x y k z s.1 s.2 (iZ (j : Int)) (iZ B) (iZ I) l9 l8 l7 l6 l5 (iZ row)) (N := 16)
      (I := fun i s => s = (iZ (gm_sum i (on j)), iZ (gm_sum i (inn j))))
      (E := fun o => o = r413 (iZ ((j : Int) + 1)) (iZ (B + gm_sum 16 (on j))) (iZ (I + gm_sum 16 (inn j))) l9 l8 l7 l6 l5 (iZ row))
      (fun k i s hi hI => by
        left
        subst hI
        obtain ⟨e1, b1, b2⟩ := wz ((i : Int), (j : Int)) (by unfold gm_paper; dsimp only; omega)
        have ep := p_point rf hok (p := ((i : Int), (j : Int))) (by unfold gm_paper; dsimp only; omega)
        dsimp only at e1 ep
        have j502 : ∀ a b, G_L_same_j502 (G_L_same_L429 r413 5 40 40 F f x y k) 5 40 40 F f x y a b (iZ (i : Int)) (iZ (j : Int)) (iZ B) (iZ I) l9 l8 l7 l6 l5 (iZ row) = G_L_same_L429 r413 5 40 40 F f x y k (iZ ((i : Int) + 1)) a b (iZ (j : Int)) (iZ B) (iZ I) l9 l8 l7 l6 l5 (iZ row) := by
          intro a b
          unfold G_L_same_j502
          rw [iZ_1, iZ_add]
        refine ⟨(iZ (gm_sum (i + 1) (on j)), iZ (gm_sum (i + 1) (inn j))), rfl, ?_⟩
        show G_L_same_L429 r413 5 40 40 F f x y (k + 1) (iZ (i : Int)) (iZ (gm_sum i (on j))) (iZ (gm_sum i (inn j))) (iZ (j : Int)) (iZ B) (iZ I) l9 l8 l7 l6 l5 (iZ row) = G_L_same_L429 r413 5 40 40 F f x y k (iZ ((i : Int) + 1)) (iZ (gm_sum i (on j) + on j i)) (iZ (gm_sum i (inn j) + inn j i)) (iZ (j : Int)) (iZ B) (iZ I) l9 l8 l7 l6 l5 (iZ row)
        rw [G_L_same_L429, show (16 : Int32) = iZ 16 from rfl, ite_le (by omega), if_neg (show ¬ (16 : Int) ≤ (i : Int) by omega), e1, Option.bind_some, iZ_0, iZ_1, iZ_2, ind_eq (by omega), Option.bind_some, ind_eq (by omega), Option.bind_some, iZ_add, iZ_add, ep]
        have e2 : on j i = (if gm_whz M n Q ((i : Int), (j : Int)) = 1 then 1 else 0) := by rw [hon]
        have e3 : inn j i = (if gm_whz M n Q ((i : Int), (j : Int)) = 2 then 1 else 0) := by rw [hinn]
        rw [← e2, ← e3, Option.bind_some]
        dsimp only
        by_cases c : iZ (j : Int) = iZ row
        · rw [if_pos c, if_pos rfl, j502]
        · rw [if_neg c, j502])
      (fun k s hI => by
        subst hI
        have j543 : G_L_same_j543 r413 5 40 40 F f x y (iZ (gm_sum 16 (on j))) (iZ (gm_sum 16 (inn j))) (iZ (j : Int)) (iZ B) (iZ I) l9 l8 l7 l6 l5 (iZ row) = r413 (iZ ((j : Int) + 1)) (iZ (B + gm_sum 16 (on j))) (iZ (I + gm_sum 16 (inn j))) l9 l8 l7 l6 l5 (iZ row) := by
          unfold G_L_same_j543
          rw [iZ_1, iZ_add, iZ_add, iZ_add]
        have r0 : G_X8_inRow F (iZ (j : Int)) 0 = some (.inr (iZ (gm_sum 16 (inn j)))) := by
          have e := p_inRow rf hok (j : Int) 0 (by omega) (by omega)
          refine Eq.trans e (congrArg (fun z => some (Sum.inr (iZ z))) ?_)
          unfold gm_ro
          refine gm_sum_congr (fun i _ => ?_)
          rw [hinn]
          dsimp only
          by_cases c : gm_whz M n Q ((i : Int), (j : Int)) = 2
          · rw [if_pos (Or.inl c), if_pos c]
          · rw [if_neg (fun q => by rcases q with q | q; · exact c q
                                    · exact q.1 rfl), if_neg c]
        have r1 : G_X8_inRow F (iZ (j : Int)) 1 = some (.inr (iZ (gm_sum 16 (inn j)) + iZ (gm_sum 16 (on j)))) := by
          have e := p_inRow rf hok (j : Int) 1 (by omega) (by omega)
          rw [iZ_add, ← gm_sum_add]
          refine Eq.trans e (congrArg (fun z => some (Sum.inr (iZ z))) ?_)
          unfold gm_ro
          refine gm_sum_congr (fun i _ => ?_)
          rw [hinn, hon]
          dsimp only
          by_cases c : gm_whz M n Q ((i : Int), (j : Int)) = 2
          · rw [if_pos (Or.inl c), if_pos c, if_neg (by omega)]; rfl
          · by_cases c2 : gm_whz M n Q ((i : Int), (j : Int)) = 1
            · rw [if_pos (Or.inr ⟨by omega, c2⟩), if_neg c, if_pos c2]; rfl
            · rw [if_neg (fun q => by rcases q with q | q; · exact c q
                                      · exact c2 q.2), if_neg c, if_neg c2]; rfl
        show G_L_same_L429 r413 5 40 40 F f x y (k + 1) (iZ ((16 : Nat) : Int)) (iZ (gm_sum 16 (on j))) (iZ (gm_sum 16 (inn j))) (iZ (j : Int)) (iZ B) (iZ I) l9 l8 l7 l6 l5 (iZ row) = _
        rw [G_L_same_L429, show (16 : Int32) = iZ 16 from rfl, ite_le (by omega), if_pos (by omega), r0, Option.bind_some, r1, Option.bind_some, j543]
        dsimp only
        rw [if_pos (show iZ (gm_sum 16 (inn j)) = iZ (gm_sum 16 (inn j)) from rfl), if_pos (show iZ (gm_sum 16 (inn j)) + iZ (gm_sum 16 (on j)) = iZ (gm_sum 16 (inn j)) + iZ (gm_sum 16 (on j)) from rfl)]
        split <;> rfl)
      16 0 FU (0, 0) (by omega) (by unfold FU; omega) rfl
    exact lp
  have lp := lp_run (S := Int32 × Int32) (L := fun k s z => G_L_same_L413 5 40 40 F f x y k z s.1 s.2 (iZ (gm_kinds M Q (-1))) (iZ (gm_kinds M Q 1)) (iZ (gm_ears M n Q)) (iZ (2 * gm_pairs M n Q)) (iZ (gm_fst M n : Nat)) (iZ row)) (N := 16)
    (I := fun j s => s = (iZ (gm_sum j (fun j => gm_sum 16 (on j))), iZ (gm_sum j (fun j => gm_sum 16 (inn j)))))
    (E := fun o => o = some 1)
    (fun k j s hj hI => by
      left
      subst hI
      refine ⟨(iZ (gm_sum (j + 1) (fun j => gm_sum 16 (on j))), iZ (gm_sum (j + 1) (fun j => gm_sum 16 (inn j)))), rfl, ?_⟩
      show G_L_same_L413 5 40 40 F f x y (k + 1) (iZ (j : Int)) (iZ (gm_sum j (fun j => gm_sum 16 (on j)))) (iZ (gm_sum j (fun j => gm_sum 16 (inn j)))) (iZ (gm_kinds M Q (-1))) (iZ (gm_kinds M Q 1)) (iZ (gm_ears M n Q)) (iZ (2 * gm_pairs M n Q)) (iZ (gm_fst M n : Nat)) (iZ row) = G_L_same_L413 5 40 40 F f x y k (iZ ((j : Int) + 1)) (iZ (gm_sum j (fun j => gm_sum 16 (on j)) + gm_sum 16 (on j))) (iZ (gm_sum j (fun j => gm_sum 16 (inn j)) + gm_sum 16 (inn j))) (iZ (gm_kinds M Q (-1))) (iZ (gm_kinds M Q 1)) (iZ (gm_ears M n Q)) (iZ (2 * gm_pairs M n Q)) (iZ (gm_fst M n : Nat)) (iZ row)
      rw [G_L_same_L413, show (16 : Int32) = iZ 16 from rfl, ite_le (by omega), if_neg (show ¬ (16 : Int) ≤ (j : Int) by omega)]
      exact inner _ j _ _ _ _ _ _ _ hj)
    (fun k s hI => by
      subst hI
      have eB : gm_sum 16 (fun j => gm_sum 16 (on j)) = gm_border M n Q := by
        rw [← gm_border_pp hok, hon]
        rfl
      have eI : gm_sum 16 (fun j => gm_sum 16 (inn j)) = gm_pp (gm_fi n M (gm_P M Q)) := by
        rw [← gm_inside_pp rf hok, hinn]
        rfl
      have a0 : G_X8_about F 0 = some (.inr (iZ n)) := p_about rf hok 0 (by omega)
      have a1 : G_X8_about F 1 = some (.inr (iZ (gm_fst M n : Nat))) := p_about rf hok 1 (by omega)
      have a2 : G_X8_about F 2 = some (.inr (iZ (gm_area M n Q))) := p_about rf hok 2 (by omega)
      have a3 : G_X8_about F 3 = some (.inr (iZ (gm_border M n Q))) := p_about rf hok 3 (by omega)
      have a4 : G_X8_about F 4 = some (.inr (iZ (gm_pp (gm_fi n M (gm_P M Q))))) := p_about rf hok 4 (by omega)
      have a5 : G_X8_about F 5 = some (.inr (iZ (gm_kinds M Q 1))) := p_about rf hok 5 (by omega)
      have a6 : G_X8_about F 6 = some (.inr (iZ (gm_kinds M Q (-1)))) := p_about rf hok 6 (by omega)
      have a7 : G_X8_about F 7 = some (.inr (iZ (gm_ears M n Q))) := p_about rf hok 7 (by omega)
      have a8 : G_X8_about F 8 = some (.inr (iZ (gm_sum (M 0) (fun a => gm_sum (M 0) (fun b => gm_hI M Q a b))))) := p_about rf hok 8 (by omega)
      have a9 : G_X8_about F 9 = some (.inr (iZ (gm_pairs M n Q))) := p_about rf hok 9 (by omega)
      show G_L_same_L413 5 40 40 F f x y (k + 1) (iZ ((16 : Nat) : Int)) (iZ (gm_sum 16 (fun j => gm_sum 16 (on j)))) (iZ (gm_sum 16 (fun j => gm_sum 16 (inn j)))) (iZ (gm_kinds M Q (-1))) (iZ (gm_kinds M Q 1)) (iZ (gm_ears M n Q)) (iZ (2 * gm_pairs M n Q)) (iZ (gm_fst M n : Nat)) (iZ row) = some 1
      rw [eB, eI, G_L_same_L413, show (16 : Int32) = iZ 16 from rfl, ite_le (by omega), if_pos (by omega), a0, a1, a2, a3, a4, a5, a6, a7, a8, a9, rd_0 (by omega) (by omega), h.1, L_area h hok, L_hull h hok]
      simp only [Option.bind_some, if_true, iZ_2, iZ_mul])
    16 0 FU (0, 0) (by omega) (by unfold FU; omega) rfl
  exact lp
theorem L_same (h : RQ f x y M n Q) (hok : gm_ok M n Q) (rf : RF F M n Q) (row : Int) (hrow : 0 ≤ row ∧ row ≤ 15) : G_L_same 5 40 40 F f x y (iZ row) = some 1 := by
  have h4 := h.2.1
  have h10 := h.h10
  have hM0 := h10 0 (by omega)
  obtain ⟨gK, hgK⟩ : ∃ gK : Int → Nat → Int, gK = (fun z e => if e / 10 = 0 ∧ gm_kind M Q (e / 10) (e % 10) = z then 1 else 0) := ⟨_, rfl⟩
  obtain ⟨gE, hgE⟩ : ∃ gE : Nat → Int, gE = (fun e => if e / 10 = 0 then gm_ear M n Q (e % 10) else 0) := ⟨_, rfl⟩
  obtain ⟨gS, hgS⟩ : ∃ gS : Nat → Int, gS = (fun e => gm_seen M n Q (gq M e)) := ⟨_, rfl⟩
  have fstv : gm_fst M 0 = 0 := rfl
  have inner : ∀ (r18 : Int32 → Int32 → Int32 → Int32 → Int32 → Int32 → Int32 → Option Int32) (c : Nat) (A9 A8 A7 A6 : Int) (l5 : Int32), th M n c →
      G_L_same_L60 r18 5 40 40 F f x y FU 0 l5 0 (iZ ((c % 10 : Nat) : Int)) (iZ ((c / 10 : Nat) : Int)) (iZ (c : Int)) (iZ A9) (iZ A8) (iZ A7) (iZ A6) (iZ row) = r18 (iZ ((c : Int) + 1)) (iZ (A9 + gK (-1) c)) (iZ (A8 + gK 1 c)) (iZ (A7 + gE c)) (iZ (A6 + gS c)) l5 (iZ row) := by
    intro r18 c A9 A8 A7 A6 l5 t
    have hc := th_40 h4.2 t
    have lp := lp_run (L := fun k s z => G_L_same_L60 r18 5 40 40 F f x y k z l5 s (iZ ((c % 10 : Nat) : Int)) (iZ ((c / 10 : Nat) : Int)) (iZ (c : Int)) (iZ A9) (iZ A8) (iZ A7) (iZ A6) (iZ row)) (N := 40)
      (I := fun d s => s = iZ (gs M n (fun d => gm_si M n Q (gq M c) (gq M d)) d))
      (E := fun o => o = r18 (iZ ((c : Int) + 1)) (iZ (A9 + gK (-1) c)) (iZ (A8 + gK 1 c)) (iZ (A7 + gE c)) (iZ (A6 + gS c)) l5 (iZ row))
      (fun k d s hd hI => by
        left
        subst hI
        have j132 : ∀ s', G_L_same_j132 (G_L_same_L60 r18 5 40 40 F f x y k) 5 40 40 F f x y (iZ (d : Int)) l5 s' (iZ ((c % 10 : Nat) : Int)) (iZ ((c / 10 : Nat) : Int)) (iZ (c : Int)) (iZ A9) (iZ A8) (iZ A7) (iZ A6) (iZ row) = G_L_same_L60 r18 5 40 40 F f x y k (iZ ((d : Int) + 1)) l5 s' (iZ ((c % 10 : Nat) : Int)) (iZ ((c / 10 : Nat) : Int)) (iZ (c : Int)) (iZ A9) (iZ A8) (iZ A7) (iZ A6) (iZ row) := by
          intro s'
          unfold G_L_same_j132
          rw [iZ_1, iZ_add]
        rcases L_there h hd with ⟨td, etd⟩ | ⟨ntd, etd⟩
        · refine ⟨_, rfl, ?_⟩
          have es := L_sees h hok t td
          have ep := p_sees rf hok t.1 t.2 td.1 td.2
          have ep : G_X8_sees F (iZ ((c / 10 : Nat) : Int)) (iZ ((c % 10 : Nat) : Int)) (iZ ((d / 10 : Nat) : Int)) (iZ ((d % 10 : Nat) : Int)) = some (.inr (iZ (gm_si M n Q (gq M c) (gq M d)))) := ep
          have bd := gm_si_bd (M := M) (n := n) (Q := Q) (gq M c) (gq M d)
          rw [gs_yes td]
          show G_L_same_L60 r18 5 40 40 F f x y (k + 1) (iZ (d : Int)) l5 (iZ (gs M n (fun d => gm_si M n Q (gq M c) (gq M d)) d)) (iZ ((c % 10 : Nat) : Int)) (iZ ((c / 10 : Nat) : Int)) (iZ (c : Int)) (iZ A9) (iZ A8) (iZ A7) (iZ A6) (iZ row) = _
          rw [G_L_same_L60, iZ_40, ite_le (by omega), if_neg (show ¬ (40 : Int) ≤ (d : Int) by omega), etd, Option.bind_some, if_neg (show ¬ (1 : Int32) = 0 by decide), es, Option.bind_some, c_mod hd, c_div hd, ep]
          rcases gm_si_01 M n Q (gq M c) (gq M d) with w | w
          · rw [w.1, if_neg (show ¬ iZ 1 = 0 by decide), Option.bind_some, Option.bind_some]
            dsimp only
            rw [if_pos rfl, j132, iZ_1, iZ_add]
          · rw [w.1, if_pos (show iZ 0 = 0 from rfl), Option.bind_some, Option.bind_some]
            dsimp only
            rw [if_pos rfl, j132, iZ_0, iZ_add]
        · refine ⟨_, rfl, ?_⟩
          rw [gs_no ntd]
          show G_L_same_L60 r18 5 40 40 F f x y (k + 1) (iZ (d : Int)) l5 (iZ (gs M n (fun d => gm_si M n Q (gq M c) (gq M d)) d)) (iZ ((c % 10 : Nat) : Int)) (iZ ((c / 10 : Nat) : Int)) (iZ (c : Int)) (iZ A9) (iZ A8) (iZ A7) (iZ A6) (iZ row) = _
          rw [G_L_same_L60, iZ_40, ite_le (by omega), if_neg (show ¬ (40 : Int) ≤ (d : Int) by omega), etd, Option.bind_some, if_pos (show (0 : Int32) = 0 from rfl), j132])
      (fun k s hI => by
        subst hI
        have eS : gs M n (fun d => gm_si M n Q (gq M c) (gq M d)) 40 = gS c := by
          rw [hgS, gs_flat h10 h4.2 (fun d => gm_si M n Q (gq M c) (gq M d)) (fun b => gm_si M n Q (gq M c) b) (fun _ _ => rfl)]
          rfl
        have bk := gm_kind_bd M Q (c / 10) (c % 10)
        have bb := gm_bend_bd hok t.1 t.2
        obtain ⟨p0, p1, p2, p3, p4⟩ := p_corner rf hok t.1 t.2
        have p3 : G_X8_corner F (iZ ((c / 10 : Nat) : Int)) (iZ ((c % 10 : Nat) : Int)) 3 = some (.inr (iZ (gS c))) := by rw [p3, hgS]; rfl
        have lx : rd 40 x (iZ (c : Int)) = some (iZ (gm_P M Q (c / 10) (c % 10)).1) := L_x h t
        have ly : rd 40 y (iZ (c : Int)) = some (iZ (gm_P M Q (c / 10) (c % 10)).2) := L_y h t
        have i0 : (iZ ((c / 10 : Nat) : Int) = 0) = (c / 10 = 0) := by
          rw [iZ_0, iZ_eq (by omega) (by omega) (by omega) (by omega)]
          exact propext (by omega)
        have k1 : (iZ (gm_kind M Q (c / 10) (c % 10)) = 1) = (gm_kind M Q (c / 10) (c % 10) = 1) := by rw [iZ_1, iZ_eq (by omega) (by omega) (by omega) (by omega)]
        have km : (iZ (gm_kind M Q (c / 10) (c % 10)) = (-1)) = (gm_kind M Q (c / 10) (c % 10) = -1) := by rw [show (-1 : Int32) = iZ (-1) from rfl, iZ_eq (by omega) (by omega) (by omega) (by omega)]
        have b343 : ((if 0 ≤ iZ (gm_bend M Q (c / 10) (c % 10)) then some (iZ (gm_bend M Q (c / 10) (c % 10))) else some (-iZ (gm_bend M Q (c / 10) (c % 10)))) : Option Int32) = some (iZ (gm_abs (gm_bend M Q (c / 10) (c % 10)))) := by
          rw [iZ_0, iZ_neg, ind_le (by omega)]
          rfl
        have b218 : ((if iZ ((c / 10 : Nat) : Int) = 0 then (if iZ (gm_kind M Q (c / 10) (c % 10)) = 1 then some 1 else some 0) else some 0) : Option Int32) = some (iZ (gK 1 c)) := by
          rw [hgK]
          dsimp only
          by_cases q : c / 10 = 0
          · rw [if_pos (i0.mpr q)]
            by_cases q2 : gm_kind M Q (c / 10) (c % 10) = 1
            · rw [if_pos (k1.mpr q2), if_pos ⟨q, q2⟩]; rfl
            · rw [if_neg (fun w => q2 (k1.mp w)), if_neg (fun w => q2 w.2)]; rfl
          · rw [if_neg (fun w => q (i0.mp w)), if_neg (fun w => q w.1)]; rfl
        have b239 : ((if iZ ((c / 10 : Nat) : Int) = 0 then (if iZ (gm_kind M Q (c / 10) (c % 10)) = (-1) then some 1 else some 0) else some 0) : Option Int32) = some (iZ (gK (-1) c)) := by
          rw [hgK]
          dsimp only
          by_cases q : c / 10 = 0
          · rw [if_pos (i0.mpr q)]
            by_cases q2 : gm_kind M Q (c / 10) (c % 10) = -1
            · rw [if_pos (km.mpr q2), if_pos ⟨q, q2⟩]; rfl
            · rw [if_neg (fun w => q2 (km.mp w)), if_neg (fun w => q2 w.2)]; rfl
          · rw [if_neg (fun w => q (i0.mp w)), if_neg (fun w => q w.1)]; rfl
        have b169 : ((if iZ ((c / 10 : Nat) : Int) = 0 then (rd 5 f 1).bind (fun v174 => if v174 ≤ 3 then some 0 else if iZ (gm_kind M Q (c / 10) (c % 10)) = 1 then (G_L_before 5 f (iZ (c : Int))).bind (fun v188 => (G_L_next 5 f (iZ (c : Int))).bind (fun v194 => (G_L_sees 5 40 40 f x y v188 v194).bind (fun v201 => if v201 = 0 then some 0 else some 1))) else some 0) else some 0) : Option Int32) = some (iZ (gE c)) := by
          rw [hgE]
          dsimp only
          by_cases q : c / 10 = 0
          · have c10 : c % 10 = c := by omega
            obtain ⟨u, e3, _⟩ := nc_th h10 t
            obtain ⟨v, e5, _⟩ := pc_th h10 t
            have e3 : gq M (nc M c) = gm_nx (M 0) (c % 10) := by
              rw [e3]
              unfold gq
              rw [gm_nf_eq t.1 t.2, q]
              exact Nat.zero_add _
            have e5 : gq M (pc_ M c) = gm_pv (M 0) (c % 10) := by
              rw [e5, q]
              exact Nat.zero_add _
            rw [if_pos (i0.mpr q), if_pos q, L_m0 h, Option.bind_some, iZ_3, ite_le (by omega)]
            unfold gm_ear
            rw [show gm_kind M Q 0 (c % 10) = gm_kind M Q (c / 10) (c % 10) by rw [q]]
            by_cases q1 : 3 < M 0
            · rw [if_neg (show ¬ ((M 0 : Nat) : Int) ≤ 3 by omega)]
              by_cases q2 : gm_kind M Q (c / 10) (c % 10) = 1
              · rw [if_pos (k1.mpr q2), if_pos ⟨q1, q2⟩, L_before h t, Option.bind_some, L_next h t, Option.bind_some, L_sees h hok v u, Option.bind_some, e3, e5]
                rcases gm_si_01 M n Q (gm_pv (M 0) (c % 10)) (gm_nx (M 0) (c % 10)) with w | w
                · rw [w.1, if_neg (show ¬ iZ 1 = 0 by decide)]; rfl
                · rw [w.1, if_pos (show iZ 0 = 0 from rfl)]; rfl
              · rw [if_neg (fun w => q2 (k1.mp w)), if_neg (fun w => q2 w.2)]; rfl
            · rw [if_pos (show ((M 0 : Nat) : Int) ≤ 3 by omega), if_neg (fun w => q1 w.1)]; rfl
          · rw [if_neg (fun w => q (i0.mp w)), if_neg q]; rfl
        have e01 : gE c = 0 ∨ gE c = 1 := by
          rw [hgE]
          dsimp only
          split
          · exact gm_ear_01 M n Q (c % 10)
          · exact Or.inl rfl
        have j398 : G_L_same_j398 r18 5 40 40 F f x y (iZ (c : Int)) (iZ A9 + iZ (gK (-1) c)) (iZ A8 + iZ (gK 1 c)) (iZ A7 + iZ (gE c)) (iZ A6 + iZ (gS c)) l5 (iZ row) = r18 (iZ ((c : Int) + 1)) (iZ (A9 + gK (-1) c)) (iZ (A8 + gK 1 c)) (iZ (A7 + gE c)) (iZ (A6 + gS c)) l5 (iZ row) := by
          unfold G_L_same_j398
          rw [iZ_1, iZ_add, iZ_add, iZ_add, iZ_add, iZ_add]
        have b260 : ((if iZ (gE c) = 0 then some 0 else some 1) : Option Int32) = some (iZ (gE c)) := by
          rcases e01 with w | w
          · rw [w]; rfl
          · rw [w]; rfl
        have b372 : ((if iZ (gE c) = 0 then some (-9) else some (iZ (gm_abs (gm_bend M Q (c / 10) (c % 10))))) : Option Int32) = some (iZ (if gE c = 0 then -9 else gm_abs (gm_bend M Q (c / 10) (c % 10)))) := by
          rcases e01 with w | w
          · rw [w]; rfl
          · rw [w]; rfl
        show G_L_same_L60 r18 5 40 40 F f x y (k + 1) (iZ ((40 : Nat) : Int)) l5 (iZ (gs M n (fun d => gm_si M n Q (gq M c) (gq M d)) 40)) (iZ ((c % 10 : Nat) : Int)) (iZ ((c / 10 : Nat) : Int)) (iZ (c : Int)) (iZ A9) (iZ A8) (iZ A7) (iZ A6) (iZ row) = _
        rw [eS, G_L_same_L60, iZ_40, ite_le (by omega), if_pos (by omega), L_kind h hok t, Option.bind_some, L_bend h t, Option.bind_some, b169, Option.bind_some, b218, Option.bind_some, b239, Option.bind_some, b260, Option.bind_some, b343, b372, p0, p1, p2, p3, p4, lx, ly]
        simp only [Option.bind_some, if_true, j398]
        by_cases q : c / 10 = 0
        · have c10 : c % 10 = c := by omega
          have pc : G_X8_cut F (iZ ((c % 10 : Nat) : Int)) = some (.inr (iZ (if gE c = 0 then -9 else gm_abs (gm_bend M Q (c / 10) (c % 10))))) := by
            have eg : gE c = gm_ear M n Q (c % 10) := by
              rw [hgE]
              exact if_pos q
            rw [p_cut rf hok (by have := t.2; rw [q] at this; exact this), eg, q]
          rw [if_pos (i0.mpr q), pc]
          simp only [Option.bind_some, if_true]
        · rw [if_neg (fun w => q (i0.mp w))])
      40 0 FU 0 (by omega) (by unfold FU; omega) rfl
    exact lp
  have lp := lp_run (S := Int32 × Int32 × Int32 × Int32 × Int32) (L := fun k s z => G_L_same_L18 5 40 40 F f x y k z s.1 s.2.1 s.2.2.1 s.2.2.2.1 s.2.2.2.2 (iZ row)) (N := 40)
    (I := fun c s => s = (iZ (gs M n (gK (-1)) c), iZ (gs M n (gK 1) c), iZ (gs M n gE c), iZ (gs M n gS c), iZ (gs M n (fun _ => 1) c)))
    (E := fun o => o = some 1)
    (fun k c s hc hI => by
      left
      subst hI
      refine ⟨_, rfl, ?_⟩
      rcases L_there h hc with ⟨t, et⟩ | ⟨nt, et⟩
      · rw [gs_yes t, gs_yes t, gs_yes t, gs_yes t, gs_yes t]
        show G_L_same_L18 5 40 40 F f x y (k + 1) (iZ (c : Int)) (iZ (gs M n (gK (-1)) c)) (iZ (gs M n (gK 1) c)) (iZ (gs M n gE c)) (iZ (gs M n gS c)) (iZ (gs M n (fun _ => 1) c)) (iZ row) = _
        rw [G_L_same_L18, iZ_40, ite_le (by omega), if_neg (show ¬ (40 : Int) ≤ (c : Int) by omega), et, Option.bind_some, if_neg (show ¬ (1 : Int32) = 0 by decide), c_mod hc, c_div hc, inner _ c _ _ _ _ _ t, iZ_1, iZ_add]
      · rw [gs_no nt, gs_no nt, gs_no nt, gs_no nt, gs_no nt]
        show G_L_same_L18 5 40 40 F f x y (k + 1) (iZ (c : Int)) (iZ (gs M n (gK (-1)) c)) (iZ (gs M n (gK 1) c)) (iZ (gs M n gE c)) (iZ (gs M n gS c)) (iZ (gs M n (fun _ => 1) c)) (iZ row) = _
        rw [G_L_same_L18, iZ_40, ite_le (by omega), if_neg (show ¬ (40 : Int) ≤ (c : Int) by omega), et, Option.bind_some, if_pos (show (0 : Int32) = 0 from rfl)]
        unfold G_L_same_j398
        rw [iZ_1, iZ_add])
    (fun k s hI => by
      subst hI
      have k0 : ∀ i, i < M 0 → i / 10 = 0 ∧ i % 10 = i := fun i hi => by omega
      have tK : ∀ z, gs M n (gK z) 40 = gm_kinds M Q z := by
        intro z
        unfold gm_kinds
        refine gs_first h10 h4.1 h4.2 _ _ (fun i hi => ?_) (fun r i r1 hr hi => ?_)
        · rw [hgK]
          dsimp only
          rw [(k0 i hi).1, (k0 i hi).2]
          by_cases q : gm_kind M Q 0 i = z
          · rw [if_pos ⟨rfl, q⟩, if_pos q]
          · rw [if_neg (fun w => q w.2), if_neg q]
        · rw [hgK]
          dsimp only
          rw [if_neg]
          intro w
          have := w.1
          omega
      have tE : gs M n gE 40 = gm_ears M n Q := by
        unfold gm_ears
        refine gs_first h10 h4.1 h4.2 _ _ (fun i hi => ?_) (fun r i r1 hr hi => ?_)
        · rw [hgE]
          dsimp only
          rw [if_pos (k0 i hi).1, (k0 i hi).2]
        · rw [hgE]
          dsimp only
          rw [if_neg]
          omega
      have tS : gs M n gS 40 = 2 * gm_pairs M n Q := by
        rw [gs_flat h10 h4.2 gS (fun a => gm_seen M n Q a) (fun e _ => by rw [hgS])]
        exact gm_pairs_two (gm_fst M n)
      have t1 : gs M n (fun _ => 1) 40 = ((gm_fst M n : Nat) : Int) := by
        rw [gs_flat h10 h4.2 (fun _ => 1) (fun _ => 1) (fun _ _ => rfl), gm_sum_const]
        omega
      show G_L_same_L18 5 40 40 F f x y (k + 1) (iZ ((40 : Nat) : Int)) (iZ (gs M n (gK (-1)) 40)) (iZ (gs M n (gK 1) 40)) (iZ (gs M n gE 40)) (iZ (gs M n gS 40)) (iZ (gs M n (fun _ => 1) 40)) (iZ row) = some 1
      rw [tK, tK, tE, tS, t1, G_L_same_L18, iZ_40, ite_le (by omega), if_pos (by omega)]
      exact L_same2 h hok rf row hrow)
    40 0 FU (0, 0, 0, 0, 0) (by omega) (by unfold FU; omega) rfl
  exact lp
end SAME
