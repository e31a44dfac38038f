/-! the law's rings: how often around, sums, areas, where a point lies -/
/-- a loop with early ends, told by what its end must be -/
theorem lp_run {S R : Type} {L : Nat → S → Int32 → Option R} {N : Nat} {I : Nat → S → Prop} {E : Option R → Prop}
    (h1 : ∀ n c s, c < N → I c s → (∃ s', I (c + 1) s' ∧ L (n + 1) s (iZ (c : Int)) = L n s' (iZ ((c : Int) + 1))) ∨ E (L (n + 1) s (iZ (c : Int)))) (h0 : ∀ n s, I N s → E (L (n + 1) s (iZ (N : Int)))) :
    ∀ (d lo fu : Nat) (s : S), lo + d = N → d < fu → I lo s → E (L fu s (iZ (lo : Int))) := by
  intro d
  induction d with
  | zero =>
    intro lo fu s h hf hI
    obtain ⟨n, rfl⟩ : ∃ n, fu = n + 1 := ⟨fu - 1, by omega⟩
    have e : lo = N := by omega
    rw [e] at hI ⊢
    exact h0 n s hI
  | succ d ih =>
    intro lo fu s h hf hI
    obtain ⟨n, rfl⟩ : ∃ n, fu = n + 1 := ⟨fu - 1, by omega⟩
    rcases h1 n lo s (by omega) hI with ⟨s', i1, e1⟩ | q
    · rw [e1, show (lo : Int) + 1 = ((lo + 1 : Nat) : Int) by omega]
      exact ih (lo + 1) n s' (by omega) (by omega) i1
    · exact q
section AROUND
variable {M : Nat → Nat} {n : Nat} {Q : Nat → Pt} {f x y : Nat → Int32}
theorem L_m (h : RQ f x y M n Q) {r : Nat} (hr : r < n) : rd 5 f (1 + iZ (r : Int)) = some (iZ (M r : Nat)) := by
  have h4 := h.2.1.2
  rw [iZ_1, iZ_add, show (1 : Int) + (r : Int) = ((1 + r : Nat) : Int) by omega, rd_iZ (by omega) (by omega), (h.2.2.1 r hr).2.2]
theorem gq_A (h : RQ f x y M n Q) {r c : Nat} (hr : r < n) (hc : c < M r) : Q (gq M (10 * r + c)) = gm_P M Q r c ∧ Q (gm_nf M n (gq M (10 * r + c))) = gm_P M Q r (gm_nx (M r) c) := by
  rw [gq_mk h.h10 hr hc, gm_nf_eq hr hc]
  exact ⟨rfl, rfl⟩
theorem gm_c_chain {A B p2 s a : Int} (R : Int → Option Int32) (sA : A = A) :
    (if p2 < A then (if A ≤ p2 then R a else if p2 < B then R a else if 0 ≤ s then R a else R (a + -1)) else if B ≤ p2 then (if A ≤ p2 then R a else if p2 < B then R a else if 0 ≤ s then R a else R (a + -1)) else if s ≤ 0 then (if A ≤ p2 then R a else if p2 < B then R a else if 0 ≤ s then R a else R (a + -1)) else (if A ≤ p2 then R (a + 1) else if p2 < B then R (a + 1) else if 0 ≤ s then R (a + 1) else R (a + 1 + -1)))
      = R (a + (if A ≤ p2 ∧ p2 < B ∧ 0 < s then 1 else if B ≤ p2 ∧ p2 < A ∧ s < 0 then -1 else 0)) := by
  by_cases c1 : p2 < A
  · rw [if_pos c1, if_neg (show ¬ A ≤ p2 by omega), if_neg (show ¬ (A ≤ p2 ∧ p2 < B ∧ 0 < s) by omega)]
    by_cases c2 : p2 < B
    · rw [if_pos c2, if_neg (show ¬ (B ≤ p2 ∧ p2 < A ∧ s < 0) by omega), Int.add_zero]
    · rw [if_neg c2]
      by_cases c3 : 0 ≤ s
      · rw [if_pos c3, if_neg (show ¬ (B ≤ p2 ∧ p2 < A ∧ s < 0) by omega), Int.add_zero]
      · rw [if_neg c3, if_pos (show (B ≤ p2 ∧ p2 < A ∧ s < 0) by omega)]
  · rw [if_neg c1, if_pos (show A ≤ p2 by omega), if_pos (show A ≤ p2 by omega), if_neg (show ¬ (B ≤ p2 ∧ p2 < A ∧ s < 0) by omega)]
    by_cases c2 : B ≤ p2
    · rw [if_pos c2, if_neg (show ¬ (A ≤ p2 ∧ p2 < B ∧ 0 < s) by omega), Int.add_zero]
    · rw [if_neg c2]
      by_cases c3 : s ≤ 0
      · rw [if_pos c3, if_neg (show ¬ (A ≤ p2 ∧ p2 < B ∧ 0 < s) by omega), Int.add_zero]
      · rw [if_neg c3, if_pos (show (A ≤ p2 ∧ p2 < B ∧ 0 < s) by omega)]
set_option maxRecDepth 100000 in
theorem L_around (h : RQ f x y M n Q) (r1 : gm_R1 M n Q) {r : Nat} (hr : r < n) {p : Pt} (hp : 0 ≤ p.1 ∧ p.1 ≤ 30 ∧ 0 ≤ p.2 ∧ p.2 ≤ 30) :
    G_L_around 5 40 40 f x y (iZ (r : Int)) (iZ p.1) (iZ p.2) = some (iZ (gm_w (M r) (gm_P2 M Q r) p)) := by
  have h4 := h.2.1.2
  have m10 := h.h10 r hr
  have lp := lp_sum (L := fun k z a => G_L_around_L9 5 40 40 f x y k (iZ ((10 * r : Nat) : Int) + z) a (iZ (r : Int)) (iZ p.1) (iZ p.2)) (N := M r) (g := fun c => gm_c p (gm_P2 M Q r c) (gm_P2 M Q r (gm_nx (M r) c))) (K := fun a => some (iZ a))
    (fun k c a hc => by
      obtain ⟨t, e1, e2⟩ := th_mk h.h10 hr hc
      obtain ⟨u, e3, e4⟩ := nc_th h.h10 t
      obtain ⟨gA, gB⟩ := gq_A h hr hc
      have pA := r1 _ (gq_lt t)
      have pB := r1 _ (gm_nf_lt (gq_lt t))
      rw [gA] at pA
      rw [gB] at pB
      have lx := L_x h t
      have ly := L_y h t
      have lx' := L_x h u
      have ly' := L_y h u
      rw [gA] at lx ly
      rw [e3, gB] at lx' ly'
      have bd := gm_cr_bd (a := gm_P2 M Q r c) (b := gm_P2 M Q r (gm_nx (M r) c)) (p := p) (B := 30) (by unfold gm_P2 gm_sc; unfold gm_paper at pA pB; dsimp only; omega) (by unfold gm_P2 gm_sc; unfold gm_paper at pA pB; dsimp only; omega) (by unfold gm_P2 gm_sc; unfold gm_paper at pA pB; dsimp only; omega) (by unfold gm_P2 gm_sc; unfold gm_paper at pA pB; dsimp only; omega)
      have es : (2 * (gm_P M Q r (gm_nx (M r) c)).1 - 2 * (gm_P M Q r c).1) * (p.2 - 2 * (gm_P M Q r c).2) - (2 * (gm_P M Q r (gm_nx (M r) c)).2 - 2 * (gm_P M Q r c).2) * (p.1 - 2 * (gm_P M Q r c).1) = gm_cr (gm_P2 M Q r c) (gm_P2 M Q r (gm_nx (M r) c)) p := rfl
      show G_L_around_L9 5 40 40 f x y (k + 1) (iZ ((10 * r : Nat) : Int) + iZ (c : Int)) (iZ a) (iZ (r : Int)) (iZ p.1) (iZ p.2) = G_L_around_L9 5 40 40 f x y k (iZ ((10 * r : Nat) : Int) + iZ ((c : Int) + 1)) (iZ (a + gm_c p (gm_P2 M Q r c) (gm_P2 M Q r (gm_nx (M r) c)))) (iZ (r : Int)) (iZ p.1) (iZ p.2)
      rw [iZ_add, iZ_add, show ((10 * r : Nat) : Int) + (c : Int) = ((10 * r + c : Nat) : Int) by omega, show ((10 * r : Nat) : Int) + ((c : Int) + 1) = ((10 * r + c : Nat) : Int) + 1 by omega, G_L_around_L9, L_m h hr, Option.bind_some, iZ_10, iZ_mul, iZ_add, ite_le (by omega), if_neg (show ¬ 10 * (r : Int) + ((M r : Nat) : Int) ≤ ((10 * r + c : Nat) : Int) by omega)]
      unfold G_L_around_j115 G_L_around_j145
      rw [iZ_2, iZ_0, iZ_1, L_next h t, Option.bind_some, lx', Option.bind_some, lx, Option.bind_some, ly', Option.bind_some, ly, Option.bind_some, Option.bind_some, Option.bind_some, iZ_mul, iZ_mul, iZ_mul, iZ_mul, iZ_sub, iZ_sub, iZ_sub, iZ_sub, L_cross, es, Option.bind_some, Option.bind_some]
      repeat rw [Option.bind_some]
      repeat rw [iZ_mul]
      rw [iZ_neg]
      repeat rw [iZ_add]
      obtain ⟨s, hs⟩ : ∃ s, s = gm_cr (gm_P2 M Q r c) (gm_P2 M Q r (gm_nx (M r) c)) p := ⟨_, rfl⟩
      rw [← hs] at bd ⊢
      unfold gm_paper at pA pB
      simp only [ite_lt (a := p.2) (b := 2 * (gm_P M Q r c).2) (by omega), ite_le (a := 2 * (gm_P M Q r (gm_nx (M r) c)).2) (b := p.2) (by omega), ite_le (a := s) (b := 0) (by omega), ite_le (a := 2 * (gm_P M Q r c).2) (b := p.2) (by omega), ite_lt (a := p.2) (b := 2 * (gm_P M Q r (gm_nx (M r) c)).2) (by omega), ite_le (a := 0) (b := s) (by omega)]
      unfold gm_c
      rw [← hs]
      exact gm_c_chain (A := 2 * (gm_P M Q r c).2) (B := 2 * (gm_P M Q r (gm_nx (M r) c)).2) (p2 := p.2) (s := s) (a := a) (fun z => G_L_around_L9 5 40 40 f x y k (iZ (((10 * r + c : Nat) : Int) + 1)) (iZ z) (iZ (r : Int)) (iZ p.1) (iZ p.2)) rfl)
    (fun k a => by
      show G_L_around_L9 5 40 40 f x y (k + 1) (iZ ((10 * r : Nat) : Int) + iZ ((M r : Nat) : Int)) (iZ a) (iZ (r : Int)) (iZ p.1) (iZ p.2) = some (iZ a)
      rw [iZ_add, G_L_around_L9, L_m h hr, Option.bind_some, iZ_10, iZ_mul, iZ_add, ite_le (by omega), if_pos (by omega)])
    (M r) 0 FU 0 (by omega) (by unfold FU; omega)
  have lp : G_L_around_L9 5 40 40 f x y FU (iZ ((10 * r : Nat) : Int) + iZ 0) (iZ 0) (iZ (r : Int)) (iZ p.1) (iZ p.2) = _ := lp
  rw [iZ_add, Int.add_zero] at lp
  unfold G_L_around
  rw [iZ_10, iZ_mul, iZ_0, show (10 : Int) * (r : Int) = ((10 * r : Nat) : Int) by omega, lp, Int.zero_add]
  unfold gm_w
  exact congrArg (fun z => some (iZ z)) (gm_sum_congr (fun k _ => by rw [Nat.zero_add]))
theorem gm_ds2 (m : Nat) (P : Nat → Pt) : gm_sum m (fun k => ((P k).1 + (P (gm_nx m k)).1) * ((P (gm_nx m k)).2 - (P k).2)) = gm_ds m P := by
  have e := gm_sum_nx m (fun k => (P k).1 * (P k).2)
  unfold gm_ds
  rw [gm_sum_congr (g := fun k => ((P k).1 * (P (gm_nx m k)).2 - (P (gm_nx m k)).1 * (P k).2) + ((P (gm_nx m k)).1 * (P (gm_nx m k)).2 - (P k).1 * (P k).2)) (fun k _ => by grind), gm_sum_add, gm_sum_sub m (fun k => (P (gm_nx m k)).1 * (P (gm_nx m k)).2), e]
  omega
theorem L_sum (h : RQ f x y M n Q) {r : Nat} (hr : r < n) : G_L_sum 5 40 40 f x y (iZ (r : Int)) = some (iZ (gm_ds (M r) (gm_P M Q r))) := by
  have h4 := h.2.1.2
  have m10 := h.h10 r hr
  have lp := lp_sum (L := fun k z a => G_L_sum_L9 5 40 40 f x y k (iZ ((10 * r : Nat) : Int) + z) a (iZ (r : Int))) (N := M r) (g := fun c => ((gm_P M Q r c).1 + (gm_P M Q r (gm_nx (M r) c)).1) * ((gm_P M Q r (gm_nx (M r) c)).2 - (gm_P M Q r c).2)) (K := fun a => some (iZ a))
    (fun k c a hc => by
      obtain ⟨t, e1, e2⟩ := th_mk h.h10 hr hc
      obtain ⟨u, e3, e4⟩ := nc_th h.h10 t
      obtain ⟨gA, gB⟩ := gq_A h hr hc
      have lx := L_x h t
      have ly := L_y h t
      have lx' := L_x h u
      have ly' := L_y h u
      rw [gA] at lx ly
      rw [e3, gB] at lx' ly'
      show G_L_sum_L9 5 40 40 f x y (k + 1) (iZ ((10 * r : Nat) : Int) + iZ (c : Int)) (iZ a) (iZ (r : Int)) = G_L_sum_L9 5 40 40 f x y k (iZ ((10 * r : Nat) : Int) + iZ ((c : Int) + 1)) (iZ (a + _)) (iZ (r : Int))
      rw [iZ_add, iZ_add, show ((10 * r : Nat) : Int) + (c : Int) = ((10 * r + c : Nat) : Int) by omega, show ((10 * r : Nat) : Int) + ((c : Int) + 1) = ((10 * r + c : Nat) : Int) + 1 by omega, G_L_sum_L9, L_m h hr, Option.bind_some, iZ_10, iZ_mul, iZ_add, ite_le (by omega), if_neg (show ¬ 10 * (r : Int) + ((M r : Nat) : Int) ≤ ((10 * r + c : Nat) : Int) by omega)]
      simp only [L_next h t, Option.bind_some, lx, ly, lx', ly', iZ_mul, iZ_sub, iZ_1, iZ_add])
    (fun k a => by
      show G_L_sum_L9 5 40 40 f x y (k + 1) (iZ ((10 * r : Nat) : Int) + iZ ((M r : Nat) : Int)) (iZ a) (iZ (r : Int)) = some (iZ a)
      rw [iZ_add, G_L_sum_L9, L_m h hr, Option.bind_some, iZ_10, iZ_mul, iZ_add, ite_le (by omega), if_pos (by omega)])
    (M r) 0 FU 0 (by omega) (by unfold FU; omega)
  have lp : G_L_sum_L9 5 40 40 f x y FU (iZ ((10 * r : Nat) : Int) + iZ 0) (iZ 0) (iZ (r : Int)) = _ := lp
  rw [iZ_add, Int.add_zero] at lp
  unfold G_L_sum
  rw [iZ_10, iZ_mul, iZ_0, show (10 : Int) * (r : Int) = ((10 * r : Nat) : Int) by omega, lp, Int.zero_add, ← gm_ds2]
  exact congrArg (fun z => some (iZ z)) (gm_sum_congr (fun k _ => by rw [Nat.zero_add]))
theorem L_area (h : RQ f x y M n Q) (hok : gm_ok M n Q) : G_L_area 5 40 40 f x y = some (iZ (gm_area M n Q)) := by
  have h4 := h.2.1
  have lp := lp_sum (L := fun k z a => G_L_area_L5 5 40 40 f x y k z a) (N := n) (g := fun r => gm_abs (gm_ds (M r) (gm_P M Q r)) * (if r = 0 then 1 else -1)) (K := fun a => some (iZ a))
    (fun k r a hr => by
      have bd := gm_ds_bd hok hr
      show G_L_area_L5 5 40 40 f x y (k + 1) (iZ (r : Int)) (iZ a) = G_L_area_L5 5 40 40 f x y k (iZ ((r : Int) + 1)) (iZ (a + gm_abs (gm_ds (M r) (gm_P M Q r)) * (if r = 0 then 1 else -1)))
      rw [G_L_area_L5, rd_0 (by omega) (by omega), h.1, Option.bind_some, ite_le (by omega), if_neg (show ¬ (n : Int) ≤ (r : Int) by omega), L_sum h hr, Option.bind_some, iZ_neg, iZ_0, ind_le (by omega), Option.bind_some, iZ_1, iZ_neg, ind_eq (by omega), Option.bind_some, iZ_mul, iZ_add, iZ_add]
      unfold gm_abs
      by_cases c : r = 0
      · rw [if_pos (show (r : Int) = 0 by omega), if_pos c]
      · rw [if_neg (show ¬ (r : Int) = 0 by omega), if_neg c])
    (fun k a => by
      show G_L_area_L5 5 40 40 f x y (k + 1) (iZ (n : Int)) (iZ a) = some (iZ a)
      rw [G_L_area_L5, rd_0 (by omega) (by omega), h.1, Option.bind_some, ite_le (by omega), if_pos (by omega)])
    n 0 FU 0 (by omega) (by unfold FU; omega)
  have lp : G_L_area_L5 5 40 40 f x y FU (iZ 0) (iZ 0) = _ := lp
  unfold G_L_area
  rw [iZ_0, lp, Int.zero_add]
  refine congrArg (fun z => some (iZ z)) ?_
  obtain ⟨m, rfl⟩ : ∃ m, n = m + 1 := ⟨n - 1, by omega⟩
  rw [gm_sum_shift]
  unfold gm_area
  rw [gm_sum_congr (n := m) (g := fun i => (-1) * gm_abs (gm_ds (M (i + 1)) (gm_P M Q (i + 1)))) (fun i _ => by rw [Nat.zero_add, if_neg (by omega), Int.mul_comm]), gm_sum_mul, if_pos rfl]
  show gm_abs (gm_ds (M (0 + 0)) (gm_P M Q (0 + 0))) * 1 + -1 * _ = _
  rw [Nat.add_zero, Int.mul_one, show m + 1 - 1 = m by omega]
  omega
theorem L_wh (h : RQ f x y M n Q) (hok : gm_ok M n Q) {p : Pt} (hp : gm_paper p) : ∃ z : Int, gm_wh M n Q p z ∧ G_L_where 5 40 40 f x y (iZ p.1) (iZ p.2) = some (iZ z) := by
  have h4 := h.2.1
  have hp' := hp
  unfold gm_paper at hp'
  have r1 := hok.2.2.1
  have r2 := hok.2.2.2.1
  have wr : ∀ r, r < n → G_L_around 5 40 40 f x y (iZ (r : Int)) (2 * iZ p.1) (2 * iZ p.2) = some (iZ (gm_w (M r) (gm_P M Q r) p)) := by
    intro r hr
    rw [iZ_2, iZ_mul, iZ_mul]
    have e := L_around h r1 hr (p := gm_sc 2 p) (by unfold gm_sc; dsimp only; omega)
    rw [gm_w2] at e
    exact e
  have wbd : ∀ r, r < n → -10 ≤ gm_w (M r) (gm_P M Q r) p ∧ gm_w (M r) (gm_P M Q r) p ≤ 10 := by
    intro r hr
    have m10 := h.h10 r hr
    have := gm_sum_bd (m := M r) (g := fun k => gm_c p (gm_P M Q r k) (gm_P M Q r (gm_nx (M r) k))) (B := 1) (fun k _ => by unfold gm_c; (repeat' split) <;> omega)
    unfold gm_w
    omega
  have lp := lp_ex (L := fun k c => G_L_where_L3 5 40 40 f x y k c (iZ p.1) (iZ p.2)) (N := 40) (T := fun c => th M n c ∧ gm_on (Q (gq M c)) (Q (gm_nf M n (gq M c))) p) (r1 := some 1)
    (r0 := (G_L_around 5 40 40 f x y 0 (2 * iZ p.1) (2 * iZ p.2)).bind fun v85 => if v85 = 0 then some 0 else G_L_where_L96 5 40 40 f x y FU 1 (iZ p.1) (iZ p.2))
    (fun k c hc T => by
      obtain ⟨u, e3, e4⟩ := nc_th h.h10 T.1
      have pt := gm_cm_pt (p := p) (r2 _ (gq_lt T.1))
      have rg := gm_cm_r (a := Q (gq M c)) (b := Q (gm_nf M n (gq M c))) (p := p) (q := p)
      show G_L_where_L3 5 40 40 f x y (k + 1) (iZ (c : Int)) (iZ p.1) (iZ p.2) = some 1
      rcases L_there h hc with ⟨_, et⟩ | ⟨nt, _⟩
      · have lc := L_common (r1 _ (gq_lt T.1)) (r1 _ (gm_nf_lt (gq_lt T.1))) hp hp
        rw [Int32.sub_self, Int32.sub_self] at lc
        rw [G_L_where_L3, iZ_40, ite_le (by omega), if_neg (by omega), et, Option.bind_some, if_neg (show ¬ (1 : Int32) = 0 by decide), L_x h T.1, Option.bind_some, L_y h T.1, Option.bind_some, L_next h T.1, Option.bind_some, L_x h u, Option.bind_some, Option.bind_some, Option.bind_some, L_y h u, Option.bind_some, Option.bind_some, e3, lc, Option.bind_some, iZ_0, ite_le (by omega), if_neg]
        rcases pt with q | q
        · omega
        · exact absurd T.2 q.2
      · exact absurd T.1 nt)
    (fun k c hc T => by
      show G_L_where_L3 5 40 40 f x y (k + 1) (iZ (c : Int)) (iZ p.1) (iZ p.2) = G_L_where_L3 5 40 40 f x y k (iZ ((c : Int) + 1)) (iZ p.1) (iZ p.2)
      rcases L_there h hc with ⟨t, et⟩ | ⟨nt, et⟩
      · obtain ⟨u, e3, e4⟩ := nc_th h.h10 t
        have pt := gm_cm_pt (p := p) (r2 _ (gq_lt t))
        have lc := L_common (r1 _ (gq_lt t)) (r1 _ (gm_nf_lt (gq_lt t))) hp hp
        rw [Int32.sub_self, Int32.sub_self] at lc
        rcases pt with q | q
        · exact absurd ⟨t, q.2⟩ T
        · rw [G_L_where_L3, iZ_40, ite_le (by omega), if_neg (by omega), et, Option.bind_some, if_neg (show ¬ (1 : Int32) = 0 by decide), L_x h t, Option.bind_some, L_y h t, Option.bind_some, L_next h t, Option.bind_some, L_x h u, Option.bind_some, Option.bind_some, Option.bind_some, L_y h u, Option.bind_some, Option.bind_some, e3, lc, Option.bind_some, q.1, if_pos (show iZ 0 ≤ 0 by decide)]
          unfold G_L_where_j68
          rw [iZ_1, iZ_add]
      · rw [G_L_where_L3, iZ_40, ite_le (by omega), if_neg (by omega), et, Option.bind_some, if_pos (show (0 : Int32) = 0 from rfl)]
        unfold G_L_where_j68
        rw [iZ_1, iZ_add])
    (fun k => by
      show G_L_where_L3 5 40 40 f x y (k + 1) (iZ ((40 : Nat) : Int)) (iZ p.1) (iZ p.2) = _
      rw [G_L_where_L3, iZ_40, ite_le (by omega), if_pos (by omega)])
    40 0 FU (by omega) (by unfold FU; omega)
  unfold G_L_where
  rw [iZ_0]
  rcases lp with ⟨⟨c, _, _, t, on⟩, e⟩ | ⟨al, e⟩
  · exact ⟨1, Or.inl ⟨⟨gq M c, gq_lt t, on⟩, rfl⟩, e⟩
  · have off : ∀ q, q < gm_fst M n → ¬ gm_on (Q q) (Q (gm_nf M n q)) p := by
      intro q hq on
      obtain ⟨c, t, rfl⟩ := gq_on h.h10 hq
      exact al c (by omega) (th_40 h4.2 t) ⟨t, on⟩
    have w0 := wr 0 (by omega)
    have b0 := wbd 0 (by omega)
    have w0 : G_L_around 5 40 40 f x y 0 (2 * iZ p.1) (2 * iZ p.2) = some (iZ (gm_w (M 0) (gm_P M Q 0) p)) := w0
    rw [w0, Option.bind_some] at e
    by_cases c0 : gm_w (M 0) (gm_P M Q 0) p = 0
    · rw [c0, if_pos (show iZ 0 = 0 from rfl)] at e
      exact ⟨0, Or.inr ⟨off, Or.inl ⟨c0, rfl⟩⟩, e⟩
    · rw [if_neg (show ¬ iZ (gm_w (M 0) (gm_P M Q 0) p) = 0 by rw [iZ_0, iZ_eq (by omega) (by omega) (by omega) (by omega)]; exact c0)] at e
      have lq := lp_ex (L := fun k c => G_L_where_L96 5 40 40 f x y k c (iZ p.1) (iZ p.2)) (N := n) (T := fun r => gm_w (M r) (gm_P M Q r) p ≠ 0) (r1 := some 3) (r0 := some 2)
        (fun k r hr T => by
          have br := wbd r hr
          show G_L_where_L96 5 40 40 f x y (k + 1) (iZ (r : Int)) (iZ p.1) (iZ p.2) = some 3
          rw [G_L_where_L96, rd_0 (by omega) (by omega), h.1, Option.bind_some, ite_le (by omega), if_neg (show ¬ (n : Int) ≤ (r : Int) by omega), wr r hr, Option.bind_some, if_neg (show ¬ iZ (gm_w (M r) (gm_P M Q r) p) = 0 by rw [iZ_0, iZ_eq (by omega) (by omega) (by omega) (by omega)]; exact T)])
        (fun k r hr T => by
          have T : gm_w (M r) (gm_P M Q r) p = 0 := Classical.byContradiction T
          show G_L_where_L96 5 40 40 f x y (k + 1) (iZ (r : Int)) (iZ p.1) (iZ p.2) = G_L_where_L96 5 40 40 f x y k (iZ ((r : Int) + 1)) (iZ p.1) (iZ p.2)
          rw [G_L_where_L96, rd_0 (by omega) (by omega), h.1, Option.bind_some, ite_le (by omega), if_neg (show ¬ (n : Int) ≤ (r : Int) by omega), wr r hr, Option.bind_some, T, if_pos (show iZ 0 = 0 from rfl), iZ_1, iZ_add])
        (fun k => by
          show G_L_where_L96 5 40 40 f x y (k + 1) (iZ (n : Int)) (iZ p.1) (iZ p.2) = some 2
          rw [G_L_where_L96, rd_0 (by omega) (by omega), h.1, Option.bind_some, ite_le (by omega), if_pos (by omega)])
        (n - 1) 1 FU (by omega) (by unfold FU; omega)
      rcases lq with ⟨⟨r, q1, q2, q3⟩, e2⟩ | ⟨q1, e2⟩
      · exact ⟨3, Or.inr ⟨off, Or.inr (Or.inl ⟨c0, ⟨r, q1, q2, q3⟩, rfl⟩)⟩, e.trans e2⟩
      · exact ⟨2, Or.inr ⟨off, Or.inr (Or.inr ⟨c0, fun r a b => Classical.byContradiction (q1 r a b), rfl⟩)⟩, e.trans e2⟩
end AROUND
