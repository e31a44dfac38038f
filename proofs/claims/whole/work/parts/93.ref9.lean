/-! the second class: numbers about a figure -/
section REF
variable {m : Mod} {M : Nat → Nat} {n : Nat} {Q : Nat → Pt}
theorem t_seenBy (hs : RS (m_state m) M n Q) (hok : gm_ok M n Q) {r k : Nat} (hr : r < n) (hk : k < M r) :
    ∃ m', (m_state m' = m_state m ∧ SM m m') ∧ G_X9_seenBy m (iZ (r : Int)) (iZ (k : Int)) = some (iZ (gm_seen M n Q (gm_fst M r + k)), m') := by
  have h4 := hs.2.1
  have inner : ∀ (k5 : Mod → Int32 → Int32 → Int32 → Int32 → Option (Int32 × Mod)) (s : Nat) (x : Mod), s < n → (m_state x = m_state m ∧ SM m x) →
      ∃ x', (m_state x' = m_state m ∧ SM m x') ∧ G_X9_seenBy_L19 k5 FU x 0 (iZ (s : Int)) (iZ (gm_sum (gm_fst M s) (fun b => gm_si M n Q (gm_fst M r + k) b))) (iZ (r : Int)) (iZ (k : Int)) = k5 x' (iZ ((s : Int) + 1)) (iZ (gm_sum (gm_fst M (s + 1)) (fun b => gm_si M n Q (gm_fst M r + k) b))) (iZ (r : Int)) (iZ (k : Int)) := by
    intro k5 s x hs' hx
    have hMs := (hs.2.2.1 s hs').1
    obtain ⟨⟨x', acc⟩, ⟨i1, i2, i3⟩, e⟩ := lp_inv (L := fun q (S : Mod × Int) c => G_X9_seenBy_L19 k5 q S.1 c (iZ (s : Int)) (iZ S.2) (iZ (r : Int)) (iZ (k : Int))) (N := M s)
      (I := fun c S => m_state S.1 = m_state m ∧ SM m S.1 ∧ S.2 = gm_sum (gm_fst M s + c) (fun b => gm_si M n Q (gm_fst M r + k) b)) (K := fun S => k5 S.1 (iZ ((s : Int) + 1)) (iZ S.2) (iZ (r : Int)) (iZ (k : Int)))
      (fun j c S hc hI => by
        obtain ⟨y, acc⟩ := S
        obtain ⟨i1, i2, i3⟩ := hI
        dsimp only at i1 i2 i3
        have hy : RS (m_state y) M n Q := by rw [i1]; exact hs
        obtain ⟨y', ⟨j1, j2⟩, e⟩ := t_areSeeing hy hok hr hk hs' hc
        refine ⟨(y', acc + gm_si M n Q (gm_fst M r + k) (gm_fst M s + c)), ⟨j1.trans i1, SM.trans i2 j2, by dsimp only; rw [i3]; rfl⟩, ?_⟩
        dsimp only
        rw [G_X9_seenBy_L19, t_many hy hs', Option.bind_some, ite_le (by omega), if_neg (by omega), e, Option.bind_some]
        dsimp only
        rcases gm_si_01 M n Q (gm_fst M r + k) (gm_fst M s + c) with w | w
        · rw [w.1, if_neg (show ¬ iZ 1 = 0 by decide), Option.bind_some, iZ_1, iZ_add, iZ_add]
        · rw [w.1, if_pos (show iZ 0 = 0 from rfl), Option.bind_some, iZ_1, iZ_0, iZ_add, iZ_add])
      (fun j S hI => by
        have hy : RS (m_state S.1) M n Q := by rw [hI.1]; exact hs
        rw [G_X9_seenBy_L19, t_many hy hs', Option.bind_some, ite_le (by omega), if_pos (by omega), iZ_1, iZ_add])
      (M s) 0 FU (x, gm_sum (gm_fst M s) (fun b => gm_si M n Q (gm_fst M r + k) b)) (by omega) (by unfold FU; omega) ⟨hx.1, hx.2, rfl⟩
    dsimp only at i1 i2 i3 e
    rw [i3] at e
    exact ⟨x', ⟨i1, i2⟩, e⟩
  obtain ⟨x, ⟨i1, i2⟩, e⟩ := lp_inv (L := fun q (S : Mod × Nat) c => G_X9_seenBy_L5 q S.1 c (iZ (gm_sum (gm_fst M S.2) (fun b => gm_si M n Q (gm_fst M r + k) b))) (iZ (r : Int)) (iZ (k : Int))) (N := n)
    (I := fun c S => (m_state S.1 = m_state m ∧ SM m S.1) ∧ S.2 = c) (K := fun S => some (iZ (gm_sum (gm_fst M S.2) (fun b => gm_si M n Q (gm_fst M r + k) b)), S.1))
    (fun j c S hc hI => by
      obtain ⟨y, t⟩ := S
      obtain ⟨i1, i2⟩ := hI
      dsimp only at i1 i2
      subst i2
      have hy : RS (m_state y) M n Q := by rw [i1.1]; exact hs
      obtain ⟨y', j1, e⟩ := inner (G_X9_seenBy_L5 j) t y hc i1
      refine ⟨(y', t + 1), ⟨j1, rfl⟩, ?_⟩
      dsimp only
      rw [G_X9_seenBy_L5, t_n hy, Option.bind_some, ite_le (by omega), if_neg (by omega)]
      exact e)
    (fun j S hI => by
      have hy : RS (m_state S.1) M n Q := by rw [hI.1.1]; exact hs
      rw [G_X9_seenBy_L5, t_n hy, Option.bind_some, ite_le (by omega), if_pos (by omega)])
    n 0 FU (m, 0) (by omega) (by unfold FU; omega) ⟨⟨rfl, SM.rfl' m⟩, rfl⟩
  obtain ⟨x, t⟩ := x
  dsimp only at i1 i2
  rw [i2] at e
  exact ⟨x, i1, e⟩
theorem t_isEar (hs : RS (m_state m) M n Q) (hok : gm_ok M n Q) {k : Nat} (hk : k < M 0) : ∃ m', (m_state m' = m_state m ∧ SM m m') ∧ G_X9_isEar m (iZ (k : Int)) = some (iZ (gm_ear M n Q k), m') := by
  have hn := hok.1
  have hM := hok.2.1 0 (by omega)
  have s0 : G_X9_many m 0 = some (iZ (M 0 : Nat)) := t_many hs (r := 0) (by omega)
  have sk : G_X9_kind m 0 (iZ (k : Int)) = some (iZ (gm_kind M Q 0 k)) := t_kind hs hok (r := 0) (by omega) hk
  have sp : G_X9_before m 0 (iZ (k : Int)) = some (iZ (gm_pv (M 0) k : Nat)) := t_before hs (r := 0) (by omega) hk
  have sn : G_X9_next m 0 (iZ (k : Int)) = some (iZ (gm_nx (M 0) k : Nat)) := t_next hs (r := 0) (by omega) hk
  have kb := gm_kind_bd M Q 0 k
  obtain ⟨m', j, e⟩ := t_areSeeing hs hok (r := 0) (s := 0) (by omega) (gm_pv_lt hk) (by omega) (gm_nx_lt hk)
  have e : G_X9_areSeeing m 0 (iZ (gm_pv (M 0) k : Nat)) 0 (iZ (gm_nx (M 0) k : Nat)) = some (iZ (gm_si M n Q (gm_fst M 0 + gm_pv (M 0) k) (gm_fst M 0 + gm_nx (M 0) k)), m') := e
  rw [show gm_fst M 0 + gm_pv (M 0) k = gm_pv (M 0) k by show 0 + _ = _; omega, show gm_fst M 0 + gm_nx (M 0) k = gm_nx (M 0) k by show 0 + _ = _; omega] at e
  unfold G_X9_isEar gm_ear
  rw [s0, Option.bind_some, iZ_3, ite_le (by omega), sk, Option.bind_some, iZ_1, ite_eq (by omega), sp, Option.bind_some, sn, Option.bind_some, e, Option.bind_some]
  by_cases c1 : (M 0 : Int) ≤ 3
  · rw [if_pos c1, if_neg (by omega)]
    exact ⟨m, ⟨rfl, SM.rfl' m⟩, rfl⟩
  · by_cases c2 : gm_kind M Q 0 k = 1
    · have cc : 3 < M 0 ∧ gm_kind M Q 0 k = 1 := ⟨by omega, c2⟩
      rw [if_neg c1, if_pos c2, if_pos cc]
      refine ⟨m', j, ?_⟩
      rcases gm_si_01 M n Q (gm_pv (M 0) k) (gm_nx (M 0) k) with w | w
      · rw [w.1]; rfl
      · rw [w.1]; rfl
    · have cc : ¬ (3 < M 0 ∧ gm_kind M Q 0 k = 1) := fun w => c2 w.2
      rw [if_neg c1, if_neg c2, if_neg cc]
      exact ⟨m, ⟨rfl, SM.rfl' m⟩, rfl⟩
theorem gm_pairs_two (N : Nat) : gm_sum N (fun a => gm_sum N (fun b => gm_si M n Q a b)) = 2 * gm_sum N (fun a => gm_sum a (fun b => gm_si M n Q a b)) := by
  induction N with
  | zero => rfl
  | succ N ih =>
    show gm_sum N (fun a => gm_sum N (fun b => gm_si M n Q a b) + gm_si M n Q a N) + (gm_sum N (fun b => gm_si M n Q N b) + gm_si M n Q N N) = 2 * (gm_sum N (fun a => gm_sum a (fun b => gm_si M n Q a b)) + gm_sum N (fun b => gm_si M n Q N b))
    rw [gm_sum_add, ih, gm_si_0 (fun w => w.1 rfl), gm_sum_congr (f := fun a => gm_si M n Q a N) (g := fun b => gm_si M n Q N b) (fun k _ => gm_si_sym M n Q k N)]
    omega
theorem dv_iZ {z : Int} (hz : -10000 ≤ z ∧ z ≤ 10000) : iZ (2 * z) / 2 = iZ z := by
  have e : iZ (2 * z) / iZ 2 = iZ ((2 * z).tdiv 2) := (Int32.ofInt_tdiv (by show (-2147483648 : Int) ≤ _; omega) (by show _ ≤ (2147483647 : Int); omega) (by decide) (by decide)).symm
  rw [iZ_2, e, Int.mul_tdiv_cancel_left z (by decide)]
theorem gm_si_bd (a b : Nat) : 0 ≤ gm_si M n Q a b ∧ gm_si M n Q a b ≤ 1 := by
  rcases gm_si_01 M n Q a b with w | w <;> rw [w.1] <;> decide
theorem gm_pairs_bd (h40 : gm_fst M n ≤ 40) : 0 ≤ gm_pairs M n Q ∧ gm_pairs M n Q ≤ 1600 := by
  have h1 : ∀ a, a < gm_fst M n → 0 ≤ gm_sum a (fun b => gm_si M n Q a b) ∧ gm_sum a (fun b => gm_si M n Q a b) ≤ 40 := by
    intro a ha
    have k1 := gm_sum_bd (m := a) (B := 1) (g := fun b => gm_si M n Q a b) (fun b _ => by have := gm_si_bd (M := M) (n := n) (Q := Q) a b; omega)
    have k2 := gm_sum_nonneg (n := a) (f := fun b => gm_si M n Q a b) (fun b _ => (gm_si_bd a b).1)
    omega
  have k1 := gm_sum_bd (m := gm_fst M n) (B := 40) (g := fun a => gm_sum a (fun b => gm_si M n Q a b)) (fun a ha => by have := h1 a ha; omega)
  have k2 := gm_sum_nonneg (n := gm_fst M n) (f := fun a => gm_sum a (fun b => gm_si M n Q a b)) (fun a ha => (h1 a ha).1)
  unfold gm_pairs
  omega
/-- the number about a figure -/
noncomputable def gm_abt (M : Nat → Nat) (n : Nat) (Q : Nat → Pt) (z : Int) : Int :=
  if z = 0 then n else if z = 1 then gm_fst M n else if z = 2 then gm_area M n Q else if z = 3 then gm_border M n Q else if z = 4 then gm_pp (gm_fi n M (gm_P M Q)) else if z = 5 then gm_kinds M Q 1 else if z = 6 then gm_kinds M Q (-1) else if z = 7 then gm_ears M n Q else if z = 8 then gm_sum (M 0) (fun a => gm_sum (M 0) (fun b => gm_hI M Q a b)) else if z = 9 then gm_pairs M n Q else 0
theorem t_border (hs : RS (m_state m) M n Q) (hok : gm_ok M n Q) : G_X9_about_L95 FU m 0 0 = some (iZ (gm_border M n Q), m) := by
  have hn := hok.1
  have lp := lp_sum (L := fun k c a => G_X9_about_L95 k m c a) (N := n) (g := fun r => gm_bd (M r) (gm_P M Q r)) (K := fun a => some (iZ a, m))
    (fun k c a hc => by
      rw [G_X9_about_L95, t_n hs, Option.bind_some, ite_le (by omega), if_neg (by omega), t_ringPoints hs hok.2.2.1 hc, Option.bind_some, iZ_add, iZ_1, iZ_add])
    (fun k a => by rw [G_X9_about_L95, t_n hs, Option.bind_some, ite_le (by omega), if_pos (by omega)])
    n 0 FU 0 (by omega) (by unfold FU; omega)
  refine Eq.trans lp (congrArg (fun z => some (iZ z, m)) ?_)
  rw [Int.zero_add]
  exact gm_sum_congr (fun k hk => by rw [Nat.zero_add])
theorem t_ears (hs : RS (m_state m) M n Q) (hok : gm_ok M n Q) : ∃ m', (m_state m' = m_state m ∧ SM m m') ∧ G_X9_about_L140 FU m 0 0 = some (iZ (gm_ears M n Q), m') := by
  have hn := hok.1
  have hM := hok.2.1 0 (by omega)
  obtain ⟨⟨x, acc⟩, ⟨i1, i2⟩, e⟩ := lp_inv (L := fun q (S : Mod × Int) c => G_X9_about_L140 q S.1 c (iZ S.2)) (N := M 0)
    (I := fun c S => (m_state S.1 = m_state m ∧ SM m S.1) ∧ S.2 = gm_sum c (fun k => gm_ear M n Q k)) (K := fun S => some (iZ S.2, S.1))
    (fun j c S hc hI => by
      obtain ⟨y, acc⟩ := S
      obtain ⟨i1, i2⟩ := hI
      dsimp only at i1 i2
      have hy : RS (m_state y) M n Q := by rw [i1.1]; exact hs
      have s0 : G_X9_many y 0 = some (iZ (M 0 : Nat)) := t_many hy (r := 0) (by omega)
      obtain ⟨y', ⟨j1, j2⟩, e⟩ := t_isEar hy hok hc
      refine ⟨(y', acc + gm_ear M n Q c), ⟨⟨j1.trans i1.1, SM.trans i1.2 j2⟩, by dsimp only; rw [i2]; rfl⟩, ?_⟩
      dsimp only
      rw [G_X9_about_L140, s0, Option.bind_some, ite_le (by omega), if_neg (by omega), e, Option.bind_some]
      dsimp only
      rcases gm_ear_01 M n Q c with w | w
      · rw [w, if_pos (show iZ 0 = 0 from rfl), Option.bind_some, iZ_1, iZ_0, iZ_add, iZ_add]
      · rw [w, if_neg (show ¬ iZ 1 = 0 by decide), Option.bind_some, iZ_1, iZ_add, iZ_add])
    (fun j S hI => by
      have hy : RS (m_state S.1) M n Q := by rw [hI.1.1]; exact hs
      have s0 : G_X9_many S.1 0 = some (iZ (M 0 : Nat)) := t_many hy (r := 0) (by omega)
      rw [G_X9_about_L140, s0, Option.bind_some, ite_le (by omega), if_pos (by omega)])
    (M 0) 0 FU (m, 0) (by omega) (by unfold FU; omega) ⟨⟨rfl, SM.rfl' m⟩, rfl⟩
  dsimp only at i1 i2 e
  rw [i2] at e
  exact ⟨x, i1, e⟩
theorem t_pairs (hs : RS (m_state m) M n Q) (hok : gm_ok M n Q) : ∃ m', (m_state m' = m_state m ∧ SM m m') ∧ G_X9_about_L180 FU m 0 0 = some (iZ (gm_pairs M n Q), m') := by
  have h4 := hs.2.1
  have h40 : gm_fst M n ≤ 40 := gm_fst_40 h4 (fun r hr => (hs.2.2.1 r hr).1)
  have inner : ∀ (k180 : Mod → Int32 → Int32 → Option (Int32 × Mod)) (s : Nat) (x : Mod), s < n → (m_state x = m_state m ∧ SM m x) →
      ∃ x', (m_state x' = m_state m ∧ SM m x') ∧ G_X9_about_L193 k180 FU x 0 (iZ (s : Int)) (iZ (gm_sum (gm_fst M s) (fun a => gm_seen M n Q a))) = k180 x' (iZ ((s : Int) + 1)) (iZ (gm_sum (gm_fst M (s + 1)) (fun a => gm_seen M n Q a))) := by
    intro k180 s x hs' hx
    have hMs := (hs.2.2.1 s hs').1
    obtain ⟨⟨x', acc⟩, ⟨i1, i2, i3⟩, e⟩ := lp_inv (L := fun q (S : Mod × Int) c => G_X9_about_L193 k180 q S.1 c (iZ (s : Int)) (iZ S.2)) (N := M s)
      (I := fun c S => m_state S.1 = m_state m ∧ SM m S.1 ∧ S.2 = gm_sum (gm_fst M s + c) (fun a => gm_seen M n Q a)) (K := fun S => k180 S.1 (iZ ((s : Int) + 1)) (iZ S.2))
      (fun j c S hc hI => by
        obtain ⟨y, acc⟩ := S
        obtain ⟨i1, i2, i3⟩ := hI
        dsimp only at i1 i2 i3
        have hy : RS (m_state y) M n Q := by rw [i1]; exact hs
        obtain ⟨y', ⟨j1, j2⟩, e⟩ := t_seenBy hy hok hs' hc
        refine ⟨(y', acc + gm_seen M n Q (gm_fst M s + c)), ⟨j1.trans i1, SM.trans i2 j2, by dsimp only; rw [i3]; rfl⟩, ?_⟩
        dsimp only
        rw [G_X9_about_L193, t_many hy hs', Option.bind_some, ite_le (by omega), if_neg (by omega), e, Option.bind_some]
        dsimp only
        rw [iZ_1, iZ_add, iZ_add])
      (fun j S hI => by
        have hy : RS (m_state S.1) M n Q := by rw [hI.1]; exact hs
        rw [G_X9_about_L193, t_many hy hs', Option.bind_some, ite_le (by omega), if_pos (by omega), iZ_1, iZ_add])
      (M s) 0 FU (x, gm_sum (gm_fst M s) (fun a => gm_seen M n Q a)) (by omega) (by unfold FU; omega) ⟨hx.1, hx.2, rfl⟩
    dsimp only at i1 i2 i3 e
    rw [i3] at e
    exact ⟨x', ⟨i1, i2⟩, e⟩
  have fin : gm_sum (gm_fst M n) (fun a => gm_seen M n Q a) = 2 * gm_pairs M n Q := gm_pairs_two (gm_fst M n)
  have pb := gm_pairs_bd (Q := Q) h40
  obtain ⟨x, ⟨i1, i2⟩, e⟩ := lp_inv (L := fun q (S : Mod × Nat) c => G_X9_about_L180 q S.1 c (iZ (gm_sum (gm_fst M S.2) (fun a => gm_seen M n Q a)))) (N := n)
    (I := fun c S => (m_state S.1 = m_state m ∧ SM m S.1) ∧ S.2 = c) (K := fun S => some (iZ (gm_sum (gm_fst M S.2) (fun a => gm_seen M n Q a)) / 2, S.1))
    (fun j c S hc hI => by
      obtain ⟨y, t⟩ := S
      obtain ⟨i1, i2⟩ := hI
      dsimp only at i1 i2
      subst i2
      have hy : RS (m_state y) M n Q := by rw [i1.1]; exact hs
      obtain ⟨y', j1, e⟩ := inner (G_X9_about_L180 j) t y hc i1
      refine ⟨(y', t + 1), ⟨j1, rfl⟩, ?_⟩
      dsimp only
      rw [G_X9_about_L180, t_n hy, Option.bind_some, ite_le (by omega), if_neg (by omega)]
      exact e)
    (fun j S hI => by
      have hy : RS (m_state S.1) M n Q := by rw [hI.1.1]; exact hs
      rw [G_X9_about_L180, t_n hy, Option.bind_some, ite_le (by omega), if_pos (by omega)])
    n 0 FU (m, 0) (by omega) (by unfold FU; omega) ⟨⟨rfl, SM.rfl' m⟩, rfl⟩
  obtain ⟨x, t⟩ := x
  dsimp only at i1 i2 e
  rw [i2, fin, dv_iZ (by omega)] at e
  exact ⟨x, i1, e⟩
theorem t_about (hs : RS (m_state m) M n Q) (hok : gm_ok M n Q) (z : Int) (h1 : -2147483648 ≤ z) (h2 : z < 2147483648) :
    ∃ m', (m_state m' = m_state m ∧ SM (ms_thrown m (iZ (if 0 ≤ z ∧ z ≤ 9 then 0 else 1))) m') ∧ G_X9_about m (iZ z) = some (iZ (gm_abt M n Q z), m') := by
  generalize hx : ms_thrown m (iZ (if 0 ≤ z ∧ z ≤ 9 then 0 else 1)) = x
  have g := mg_thrown m (iZ (if 0 ≤ z ∧ z ≤ 9 then 0 else 1))
  rw [hx] at g
  obtain ⟨-, g2, -⟩ := g
  have hsx : RS (m_state x) M n Q := by rw [g2]; exact hs
  have e0 : G_X9_about m (iZ z) = (if iZ z = 0 then (rd 85 (m_state x) 0).bind fun v81 => some (v81, x) else if iZ z = 1 then (G_X9_cornerMany x).bind fun v84 => some (v84, x) else if iZ z = 2 then (G_X9_area x).bind fun v89 => some (v89, x) else if iZ z = 3 then G_X9_about_L95 FU x 0 0 else if iZ z = 4 then (G_X9_inside x).bind fun v122 => some (v122, x) else if iZ z = 5 then (G_X9_kindsOf x 1).bind fun v128 => some (v128, x) else if iZ z = 6 then (G_X9_kindsOf x (-1)).bind fun v134 => some (v134, x) else if iZ z = 7 then G_X9_about_L140 FU x 0 0 else if iZ z = 8 then (G_X9_hull x).bind fun v174 => some (v174, x) else if iZ z = 9 then G_X9_about_L180 FU x 0 0 else some (0, x)) := by
    unfold G_X9_about
    rw [iZ_0, iZ_9, s_within z 0 9 h1 h2 (by omega) (by omega) (by omega) (by omega), Option.bind_some, iZ_1, ind_eq (by split <;> omega), Option.bind_some]
    have : (if (if 0 ≤ z ∧ z ≤ 9 then (1 : Int) else 0) = 0 then (1 : Int) else 0) = if 0 ≤ z ∧ z ≤ 9 then 0 else 1 := by (repeat' split) <;> first | rfl | omega
    rw [this, hx]
  have k1 : G_X9_kindsOf x 1 = some (iZ (gm_kinds M Q 1)) := t_kindsOf hsx hok 1 (by omega)
  have k2 := t_kindsOf hsx hok (-1) (by omega)
  rw [show iZ (-1) = (-1 : Int32) by decide] at k2
  obtain ⟨y1, j1, a1⟩ := t_ears hsx hok
  obtain ⟨y2, j2, a2⟩ := t_pairs hsx hok
  rw [e0, t_n hsx, t_cornerMany hsx, t_area hsx hok, t_border hsx hok, t_inside hsx hok, k1, k2, a1, t_hull hsx hok, a2]
  simp only [Option.bind_some]
  rw [show (2 : Int32) = iZ 2 from rfl, show (3 : Int32) = iZ 3 from rfl, show (4 : Int32) = iZ 4 from rfl, show (5 : Int32) = iZ 5 from rfl, show (6 : Int32) = iZ 6 from rfl, show (7 : Int32) = iZ 7 from rfl, show (8 : Int32) = iZ 8 from rfl, show (9 : Int32) = iZ 9 from rfl, show (1 : Int32) = iZ 1 from rfl, show (0 : Int32) = iZ 0 from rfl]
  rw [ite_eq (by omega), ite_eq (by omega), ite_eq (by omega), ite_eq (by omega), ite_eq (by omega), ite_eq (by omega), ite_eq (by omega), ite_eq (by omega), ite_eq (by omega), ite_eq (by omega)]
  unfold gm_abt
  have hxx : m_state x = m_state m ∧ SM x x := ⟨g2, SM.rfl' x⟩
  have hy1 : m_state y1 = m_state m ∧ SM x y1 := ⟨j1.1.trans g2, j1.2⟩
  have hy2 : m_state y2 = m_state m ∧ SM x y2 := ⟨j2.1.trans g2, j2.2⟩
  by_cases c0 : z = 0
  · rw [if_pos c0, if_pos c0]; exact ⟨x, hxx, rfl⟩
  rw [if_neg c0, if_neg c0]
  by_cases c1 : z = 1
  · rw [if_pos c1, if_pos c1]; exact ⟨x, hxx, rfl⟩
  rw [if_neg c1, if_neg c1]
  by_cases c2 : z = 2
  · rw [if_pos c2, if_pos c2]; exact ⟨x, hxx, rfl⟩
  rw [if_neg c2, if_neg c2]
  by_cases c3 : z = 3
  · rw [if_pos c3, if_pos c3]; exact ⟨x, hxx, rfl⟩
  rw [if_neg c3, if_neg c3]
  by_cases c4 : z = 4
  · rw [if_pos c4, if_pos c4]; exact ⟨x, hxx, rfl⟩
  rw [if_neg c4, if_neg c4]
  by_cases c5 : z = 5
  · rw [if_pos c5, if_pos c5]; exact ⟨x, hxx, rfl⟩
  rw [if_neg c5, if_neg c5]
  by_cases c6 : z = 6
  · rw [if_pos c6, if_pos c6]; exact ⟨x, hxx, rfl⟩
  rw [if_neg c6, if_neg c6]
  by_cases c7 : z = 7
  · rw [if_pos c7, if_pos c7]; exact ⟨y1, hy1, rfl⟩
  rw [if_neg c7, if_neg c7]
  by_cases c8 : z = 8
  · rw [if_pos c8, if_pos c8]; exact ⟨x, hxx, rfl⟩
  rw [if_neg c8, if_neg c8]
  by_cases c9 : z = 9
  · rw [if_pos c9, if_pos c9]; exact ⟨y2, hy2, rfl⟩
  rw [if_neg c9, if_neg c9]
  exact ⟨x, hxx, rfl⟩
end REF
