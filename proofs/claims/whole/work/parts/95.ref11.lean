/-! the second class: corners put in, taken out, holes, shifts, turns -/
section REF
variable {m : Mod} {M : Nat → Nat} {n : Nat} {Q : Nat → Pt}
theorem t_xr (m : Mod) {r k : Nat} (hr : r < 4) (hk : k < 10) : G_X9_x m (iZ (r : Int)) (iZ (k : Int)) = some (m_state m (5 + 20 * r + 2 * k)) := by
  unfold G_X9_x
  rw [iZ_5, iZ_20, iZ_2, iZ_mul, iZ_mul, iZ_add, iZ_add, show (5 : Int) + 20 * (r : Int) + 2 * (k : Int) = ((5 + 20 * r + 2 * k : Nat) : Int) by omega, rd_iZ (by omega) (by omega), Option.bind_some]
theorem t_yr (m : Mod) {r k : Nat} (hr : r < 4) (hk : k < 10) : G_X9_y m (iZ (r : Int)) (iZ (k : Int)) = some (m_state m (5 + 20 * r + 2 * k + 1)) := by
  unfold G_X9_y
  rw [iZ_5, iZ_20, iZ_2, iZ_mul, iZ_mul, iZ_add, iZ_add, iZ_1, iZ_add, show (5 : Int) + 20 * (r : Int) + 2 * (k : Int) + 1 = ((5 + 20 * r + 2 * k + 1 : Nat) : Int) by omega, rd_iZ (by omega) (by omega), Option.bind_some]
theorem t_manyr (m : Mod) {r : Nat} (hr : r < 4) : G_X9_many m (iZ (r : Int)) = some (m_state m (1 + r)) := by
  unfold G_X9_many
  rw [iZ_1, iZ_add, show (1 : Int) + (r : Int) = ((1 + r : Nat) : Int) by omega, rd_iZ (by omega) (by omega), Option.bind_some]
theorem t_tryInsert (hs : RS (m_state m) M n Q) (hok : gm_ok M n Q) (r k x y : Int) (br : -2147483648 ≤ r ∧ r < 2147483648) (bk : -2147483648 ≤ k ∧ k < 2147483648) (bx : -2147483648 ≤ x ∧ x < 2147483648) (bY : -2147483648 ≤ y ∧ y < 2147483648) :
    (¬ (0 ≤ r ∧ r < n ∧ 0 ≤ k ∧ k < M r.toNat) ∧ G_X9_tryInsert m (iZ r) (iZ k) (iZ x) (iZ y) = some (iZ 1, m)) ∨
    ((0 ≤ r ∧ r < n ∧ 0 ≤ k ∧ k < M r.toNat) ∧ M r.toNat = 10 ∧ G_X9_tryInsert m (iZ r) (iZ k) (iZ x) (iZ y) = some (iZ 2, m)) ∨
    ((0 ≤ r ∧ r < n ∧ 0 ≤ k ∧ k < M r.toNat) ∧ M r.toNat < 10 ∧ ∃ z m', TR m m' (gm_iM M r.toNat) n (gm_iQ Q (gm_fst M r.toNat + (k.toNat + 1)) (x, y)) z (G_X9_tryInsert m (iZ r) (iZ k) (iZ x) (iZ y))) := by
  have hn := hok.1
  have hc := t_isCorner hs hn.1 r k br.1 br.2 bk.1 bk.2
  unfold G_X9_tryInsert
  rw [hc, Option.bind_some]
  by_cases c : 0 ≤ r ∧ r < n ∧ 0 ≤ k ∧ k < M r.toNat
  · right
    obtain ⟨i, rfl⟩ : ∃ i : Nat, r = i := ⟨r.toNat, by omega⟩
    obtain ⟨j, rfl⟩ : ∃ j : Nat, k = j := ⟨k.toNat, by omega⟩
    rw [Int.toNat_natCast] at c
    rw [Int.toNat_natCast, Int.toNat_natCast, if_pos c, if_neg (show ¬ iZ 1 = 0 by decide)]
    have hi : i < n := by omega
    have hj : j < M i := by omega
    have hM := hok.2.1 i hi
    rw [t_many hs hi, Option.bind_some, iZ_10, ite_eq (by omega)]
    by_cases c10 : M i = 10
    · left
      refine ⟨c, c10, ?_⟩
      rw [if_pos (by omega)]; rfl
    right
    refine ⟨c, by omega, ?_⟩
    obtain ⟨m1, e1, s1, k1, q1⟩ := t_begin m
    have hs1 : RS (m_state m1) M n Q := by rw [s1]; exact hs
    rw [if_neg (by omega), e1, Option.bind_some, t_many hs1 hi, Option.bind_some]
    -- the corners behind are moved
    obtain ⟨s', ⟨i1, i2, i3, i4, i5⟩, e⟩ := lp_dec (L := fun q (s : Mod) c => G_X9_tryInsert_L34 q s c (iZ (i : Int)) (iZ (j : Int)) (iZ x) (iZ y)) (lo := j + 1)
      (I := fun c s => (∀ t, ¬ (5 + 20 * i + 2 * (c + 1) ≤ t ∧ t < 5 + 20 * i + 2 * (M i + 1)) → m_state s t = m_state m t) ∧ (∀ t, c < t → t ≤ M i → m_state s (5 + 20 * i + 2 * t) = m_state m (5 + 20 * i + 2 * (t - 1)) ∧ m_state s (5 + 20 * i + 2 * t + 1) = m_state m (5 + 20 * i + 2 * (t - 1) + 1)) ∧ m_kept s = m_kept m1 ∧ SK m1 s ∧ c ≤ M i)
      (K := fun s => G_X9_tryInsert_L34 1 s (iZ ((j + 1 : Nat) : Int)) (iZ (i : Int)) (iZ (j : Int)) (iZ x) (iZ y))
      (fun u c s hc hI => by
        obtain ⟨i1, i2, i3, i4, i5⟩ := hI
        obtain ⟨s2, e2, w1, w2, w3⟩ := t_setCorner s (r := i) (k := c + 1) (by omega) (by omega) (m_state s (5 + 20 * i + 2 * c)) (m_state s (5 + 20 * i + 2 * c + 1))
        refine ⟨s2, ⟨fun t ht => ?_, fun t h1 h2 => ?_, w2.trans i3, SK.trans i4 w3, by omega⟩, ?_⟩
        · rw [w1, upd_ne (by omega), upd_ne (by omega)]
          exact i1 t (by omega)
        · rw [w1]
          by_cases ec : t = c + 1
          · rw [ec, upd_ne (by omega), upd_same, upd_same]
            exact ⟨i1 _ (by omega), i1 _ (by omega)⟩
          · rw [upd_ne (by omega), upd_ne (by omega), upd_ne (by omega), upd_ne (by omega)]
            exact i2 t (by omega) h2
        · have e0 : iZ (((c + 1 : Nat) : Int) - 1) = iZ (c : Int) := congrArg iZ (by omega)
          have e1 : iZ (((c + 1 : Nat) : Int) + -1) = iZ (c : Int) := congrArg iZ (by omega)
          rw [G_X9_tryInsert_L34, iZ_1, iZ_add, ite_le (by omega), if_neg (by omega), iZ_sub, e0, t_xr s (by omega) (by omega), Option.bind_some, t_yr s (by omega) (by omega), Option.bind_some, e2, Option.bind_some, iZ_neg, iZ_add, e1])
      (fun u s hI => by
        rw [G_X9_tryInsert_L34, G_X9_tryInsert_L34, iZ_1, iZ_add, ite_le (by omega), if_pos (by omega), ite_le (by omega), if_pos (by omega)])
      (M i - (j + 1)) FU m1 (by unfold FU; omega) ⟨fun t _ => by rw [s1], fun t h1 h2 => by omega, rfl, SK.rfl' m1, by omega⟩
    rw [show j + 1 + (M i - (j + 1)) = M i by omega] at e
    rw [e, G_X9_tryInsert_L34, iZ_1, iZ_add, ite_le (by omega), if_pos (by omega), show (j : Int) + 1 = ((j + 1 : Nat) : Int) by omega]
    obtain ⟨s2, e2, w1, w2, w3⟩ := t_setCorner s' (r := i) (k := j + 1) (by omega) (by omega) (iZ x) (iZ y)
    have hm : m_state s2 (1 + i) = iZ (M i : Nat) := by
      rw [w1, upd_ne (by omega), upd_ne (by omega), i1 _ (by omega)]
      exact (hs.2.2.1 i hi).2
    rw [e2, Option.bind_some, iZ_add, show (1 : Int) + (i : Int) = ((1 + i : Nat) : Int) by omega, rd_iZ (by omega) (by omega), Option.bind_some, wr_iZ (by omega) (by omega), Option.bind_some, hm, iZ_add, show ((M i : Nat) : Int) + 1 = ((M i + 1 : Nat) : Int) by omega]
    generalize hx : ms_state s2 (upd (m_state s2) (1 + i) (iZ ((M i + 1 : Nat) : Int))) = s3
    have g := mg_state s2 (upd (m_state s2) (1 + i) (iZ ((M i + 1 : Nat) : Int)))
    rw [hx] at g
    obtain ⟨g01, g02, g03, g04, g05, g06, g07, g08, g09, g10, g11, g12, g13, g14, g15, g16, g17, g18⟩ := g
    have hM' : ∀ a, a < n → 3 ≤ gm_iM M i a ∧ gm_iM M i a ≤ 10 := by
      intro a ha
      have := hok.2.1 a ha
      unfold gm_iM
      split
      · rename_i ea; subst ea; omega
      · exact this
    have hle : gm_fst M (i + 1) ≤ gm_fst M n := gm_fst_le hi
    have hle2 : gm_fst M (i + 1) = gm_fst M i + M i := rfl
    have fit : gm_fit (gm_iM M i) n (gm_iQ Q (gm_fst M i + (j + 1)) (x, y)) := by
      intro a ha
      rw [gm_iM_fst, if_pos hi] at ha
      have f0 := gm_fit_of hok.2.2.1
      unfold gm_iQ
      by_cases a1 : a < gm_fst M i + (j + 1)
      · rw [if_pos a1]; exact f0 a (by omega)
      · rw [if_neg a1]
        by_cases a2 : a = gm_fst M i + (j + 1)
        · rw [if_pos a2]; dsimp only; omega
        · rw [if_neg a2]; exact f0 (a - 1) (by omega)
    refine t_finish ?_ fit hn.1 (fun r hr => (hM' r hr).1) (SK.trans q1 (SK.trans i4 (SK.trans w3 ⟨g01, g04, g05, g06, g07, g08, g09, g10, g18⟩))) (fun a ha => by rw [g03, w2, i3]; exact k1 a ha)
    rw [g02, w1]
    refine ⟨?_, hs.2.1, fun a ha => ⟨(hM' a ha).2, ?_⟩, fun a l ha hl => ?_⟩
    · rw [upd_ne (by omega), upd_ne (by omega), upd_ne (by omega), i1 _ (by omega)]
      exact hs.1
    · unfold gm_iM
      by_cases ea : a = i
      · rw [if_pos ea, ea, upd_same]
      · rw [if_neg ea, upd_ne (by omega), upd_ne (by omega), upd_ne (by omega), i1 _ (by omega)]
        exact (hs.2.2.1 a ha).2
    · have hMa := hok.2.1 a ha
      rw [gm_iM_fst]
      unfold gm_iM at hl
      unfold gm_iQ
      by_cases ea : a = i
      · subst ea
        rw [if_pos rfl] at hl
        rw [if_neg (Nat.lt_irrefl a), Nat.add_zero, upd_ne (by omega)]
        by_cases l1 : l < j + 1
        · rw [if_pos (by omega), upd_ne (by omega), upd_ne (by omega), upd_ne (by omega), upd_ne (by omega), upd_ne (by omega), i1 _ (by omega), i1 _ (by omega)]
          exact hs.2.2.2 a l ha (by omega)
        · rw [if_neg (by omega)]
          by_cases l2 : l = j + 1
          · rw [if_pos (by omega), l2, upd_ne (by omega), upd_same, upd_ne (by omega), upd_same]
            exact ⟨rfl, rfl⟩
          · rw [if_neg (by omega), upd_ne (by omega), upd_ne (by omega), upd_ne (by omega), upd_ne (by omega), upd_ne (by omega)]
            have w := i2 l (by omega) (by omega)
            rw [w.1, w.2, show gm_fst M a + 0 + l - 1 = gm_fst M a + (l - 1) by omega]
            exact hs.2.2.2 a (l - 1) ha (by omega)
      · rw [if_neg ea] at hl
        rw [upd_ne (by omega), upd_ne (by omega), upd_ne (by omega), upd_ne (by omega), upd_ne (by omega), upd_ne (by omega), i1 _ (by omega), i1 _ (by omega)]
        by_cases al : i < a
        · have hge : gm_fst M (i + 1) ≤ gm_fst M a := gm_fst_le al
          rw [if_pos al, if_neg (by omega), if_neg (by omega), show gm_fst M a + 1 + l - 1 = gm_fst M a + l by omega]
          exact hs.2.2.2 a l ha hl
        · have hge : gm_fst M (a + 1) ≤ gm_fst M i := gm_fst_le (by omega)
          have hge2 : gm_fst M (a + 1) = gm_fst M a + M a := rfl
          rw [if_neg al, Nat.add_zero, if_pos (by omega)]
          exact hs.2.2.2 a l ha hl
  · left
    refine ⟨c, ?_⟩
    rw [if_neg c, if_pos (show iZ 0 = 0 from rfl)]
    rfl
theorem t_tryRemove (hs : RS (m_state m) M n Q) (hok : gm_ok M n Q) (r k : Int) (br : -2147483648 ≤ r ∧ r < 2147483648) (bk : -2147483648 ≤ k ∧ k < 2147483648) :
    (¬ (0 ≤ r ∧ r < n ∧ 0 ≤ k ∧ k < M r.toNat) ∧ G_X9_tryRemove m (iZ r) (iZ k) = some (iZ 1, m)) ∨
    ((0 ≤ r ∧ r < n ∧ 0 ≤ k ∧ k < M r.toNat) ∧ M r.toNat = 3 ∧ G_X9_tryRemove m (iZ r) (iZ k) = some (iZ 2, m)) ∨
    ((0 ≤ r ∧ r < n ∧ 0 ≤ k ∧ k < M r.toNat) ∧ 3 < M r.toNat ∧ ∃ z m', TR m m' (gm_tM M r.toNat) n (gm_tQ Q (gm_fst M r.toNat + k.toNat)) z (G_X9_tryRemove m (iZ r) (iZ k))) := by
  have hn := hok.1
  have hc := t_isCorner hs hn.1 r k br.1 br.2 bk.1 bk.2
  unfold G_X9_tryRemove
  rw [hc, Option.bind_some]
  by_cases c : 0 ≤ r ∧ r < n ∧ 0 ≤ k ∧ k < M r.toNat
  · right
    obtain ⟨i, rfl⟩ : ∃ i : Nat, r = i := ⟨r.toNat, by omega⟩
    obtain ⟨j, rfl⟩ : ∃ j : Nat, k = j := ⟨k.toNat, by omega⟩
    rw [Int.toNat_natCast] at c
    rw [Int.toNat_natCast, Int.toNat_natCast, if_pos c, if_neg (show ¬ iZ 1 = 0 by decide)]
    have hi : i < n := by omega
    have hj : j < M i := by omega
    have hM := hok.2.1 i hi
    rw [t_many hs hi, Option.bind_some, iZ_3, ite_eq (by omega)]
    by_cases c3 : M i = 3
    · left
      refine ⟨c, c3, ?_⟩
      rw [if_pos (by omega)]; rfl
    right
    refine ⟨c, by omega, ?_⟩
    obtain ⟨m1, e1, s1, k1, q1⟩ := t_begin m
    have hs1 : RS (m_state m1) M n Q := by rw [s1]; exact hs
    rw [if_neg (by omega), e1, Option.bind_some]
    obtain ⟨s2, ⟨i1, i2, i3, i4, i5⟩, e⟩ := lp_inv (L := fun q (s : Mod) c => G_X9_tryRemove_L28 q s c (iZ (i : Int))) (N := M i - 1)
      (I := fun c s => (∀ t, ¬ (5 + 20 * i + 2 * j ≤ t ∧ t < 5 + 20 * i + 2 * c) → m_state s t = m_state m t) ∧ (∀ t, j ≤ t → t < c → m_state s (5 + 20 * i + 2 * t) = m_state m (5 + 20 * i + 2 * (t + 1)) ∧ m_state s (5 + 20 * i + 2 * t + 1) = m_state m (5 + 20 * i + 2 * (t + 1) + 1)) ∧ m_kept s = m_kept m1 ∧ SK m1 s ∧ j ≤ c)
      (K := fun s => G_X9_tryRemove_L28 1 s (iZ ((M i - 1 : Nat) : Int)) (iZ (i : Int)))
      (fun u c s hc hI => by
        obtain ⟨i1, i2, i3, i4, i5⟩ := hI
        obtain ⟨s2, e2, w1, w2, w3⟩ := t_setCorner s (r := i) (k := c) (by omega) (by omega) (m_state s (5 + 20 * i + 2 * (c + 1))) (m_state s (5 + 20 * i + 2 * (c + 1) + 1))
        have hm : m_state s (1 + i) = iZ (M i : Nat) := by
          rw [i1 _ (by omega)]
          exact (hs.2.2.1 i hi).2
        refine ⟨s2, ⟨fun t ht => ?_, fun t h1 h2 => ?_, w2.trans i3, SK.trans i4 w3, by omega⟩, ?_⟩
        · rw [w1, upd_ne (by omega), upd_ne (by omega)]
          exact i1 t (by omega)
        · rw [w1]
          by_cases ec : t = c
          · rw [ec, upd_ne (by omega), upd_same, upd_same]
            exact ⟨i1 _ (by omega), i1 _ (by omega)⟩
          · rw [upd_ne (by omega), upd_ne (by omega), upd_ne (by omega), upd_ne (by omega)]
            exact i2 t h1 (by omega)
        · rw [G_X9_tryRemove_L28, t_manyr s (by omega), Option.bind_some, hm, iZ_1, iZ_add, ite_le (by omega), if_neg (by omega), show (c : Int) + 1 = ((c + 1 : Nat) : Int) by omega, t_xr s (by omega) (by omega), Option.bind_some, t_yr s (by omega) (by omega), Option.bind_some, e2, Option.bind_some])
      (fun u s hI => by
        have hm : m_state s (1 + i) = iZ (M i : Nat) := by
          rw [hI.1 _ (by omega)]
          exact (hs.2.2.1 i hi).2
        rw [G_X9_tryRemove_L28, G_X9_tryRemove_L28, t_manyr s (by omega), Option.bind_some, Option.bind_some, hm, iZ_1, iZ_add, ite_le (by omega), if_pos (by omega), ite_le (by omega), if_pos (by omega)])
      (M i - 1 - j) j FU m1 (by omega) (by unfold FU; omega) ⟨fun t _ => by rw [s1], fun t h1 h2 => by omega, rfl, SK.rfl' m1, Nat.le_refl j⟩
    have hm : m_state s2 (1 + i) = iZ (M i : Nat) := by
      rw [i1 _ (by omega)]
      exact (hs.2.2.1 i hi).2
    rw [e, G_X9_tryRemove_L28, t_manyr s2 (by omega), Option.bind_some, hm, iZ_1, iZ_add, ite_le (by omega), if_pos (by omega), iZ_add, show (1 : Int) + (i : Int) = ((1 + i : Nat) : Int) by omega, rd_iZ (by omega) (by omega), Option.bind_some, wr_iZ (by omega) (by omega), Option.bind_some, hm, iZ_sub, show ((M i : Nat) : Int) - 1 = ((M i - 1 : Nat) : Int) by omega]
    generalize hx : ms_state s2 (upd (m_state s2) (1 + i) (iZ ((M i - 1 : Nat) : Int))) = s3
    have g := mg_state s2 (upd (m_state s2) (1 + i) (iZ ((M i - 1 : Nat) : Int)))
    rw [hx] at g
    obtain ⟨g01, g02, g03, g04, g05, g06, g07, g08, g09, g10, g11, g12, g13, g14, g15, g16, g17, g18⟩ := g
    have hM' : ∀ a, a < n → 3 ≤ gm_tM M i a ∧ gm_tM M i a ≤ 10 := by
      intro a ha
      have := hok.2.1 a ha
      unfold gm_tM
      split
      · rename_i ea; subst ea; omega
      · exact this
    have hle : gm_fst M (i + 1) ≤ gm_fst M n := gm_fst_le hi
    have hle2 : gm_fst M (i + 1) = gm_fst M i + M i := rfl
    have fit : gm_fit (gm_tM M i) n (gm_tQ Q (gm_fst M i + j)) := by
      intro a ha
      have := gm_tM_fst (M := M) (r := i) (by omega) n
      rw [if_pos hi] at this
      have f0 := gm_fit_of hok.2.2.1
      unfold gm_tQ
      by_cases a1 : a < gm_fst M i + j
      · rw [if_pos a1]; exact f0 a (by omega)
      · rw [if_neg a1]; exact f0 (a + 1) (by omega)
    refine t_finish ?_ fit hn.1 (fun r hr => (hM' r hr).1) (SK.trans q1 (SK.trans i4 ⟨g01, g04, g05, g06, g07, g08, g09, g10, g18⟩)) (fun a ha => by rw [g03, i3]; exact k1 a ha)
    rw [g02]
    refine ⟨?_, hs.2.1, fun a ha => ⟨(hM' a ha).2, ?_⟩, fun a l ha hl => ?_⟩
    · rw [upd_ne (by omega), i1 _ (by omega)]
      exact hs.1
    · unfold gm_tM
      by_cases ea : a = i
      · rw [if_pos ea, ea, upd_same]
      · rw [if_neg ea, upd_ne (by omega), i1 _ (by omega)]
        exact (hs.2.2.1 a ha).2
    · have hMa := hok.2.1 a ha
      have hf := gm_tM_fst (M := M) (r := i) (by omega) a
      unfold gm_tM at hl
      unfold gm_tQ
      rw [upd_ne (by omega), upd_ne (by omega)]
      by_cases ea : a = i
      · subst ea
        rw [if_pos rfl] at hl
        rw [if_neg (Nat.lt_irrefl a), Nat.add_zero] at hf
        rw [hf]
        by_cases l1 : l < j
        · rw [if_pos (by omega), i1 _ (by omega), i1 _ (by omega)]
          exact hs.2.2.2 a l ha (by omega)
        · have w := i2 l (by omega) (by omega)
          rw [if_neg (by omega), w.1, w.2]
          exact hs.2.2.2 a (l + 1) ha (by omega)
      · rw [if_neg ea] at hl
        rw [i1 _ (by omega), i1 _ (by omega)]
        by_cases al : i < a
        · have hge : gm_fst M (i + 1) ≤ gm_fst M a := gm_fst_le al
          rw [if_pos al] at hf
          rw [if_neg (by omega), show gm_fst (gm_tM M i) a + l + 1 = gm_fst M a + l by omega]
          exact hs.2.2.2 a l ha hl
        · have hge : gm_fst M (a + 1) ≤ gm_fst M i := gm_fst_le (by omega)
          have hge2 : gm_fst M (a + 1) = gm_fst M a + M a := rfl
          rw [if_neg al, Nat.add_zero] at hf
          rw [hf, if_pos (by omega)]
          exact hs.2.2.2 a l ha hl
  · left
    refine ⟨c, ?_⟩
    rw [if_neg c, if_pos (show iZ 0 = 0 from rfl)]
    rfl
end REF
