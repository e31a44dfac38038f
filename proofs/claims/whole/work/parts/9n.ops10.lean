/-! the operations: ring, corner -/
section OPS
variable {F : Fig} {P : PastS} {m : Mod} {M : Nat → Nat} {n : Nat} {Q : Nat → Pt}
theorem s_checkR (h : RF F M n Q) (z : Int) (h1 : -2147483648 ≤ z) (h2 : z < 2147483648) :
    ((0 ≤ z ∧ z < n) ∧ G_X8_checkRing F (iZ z) = some (.inr ())) ∨ (¬ (0 ≤ z ∧ z < n) ∧ G_X8_checkRing F (iZ z) = some (.inl 1)) := by
  unfold G_X8_checkRing
  rw [s_hasRing h z h1 h2, Option.bind_some]
  by_cases c : 0 ≤ z ∧ z < n
  · rw [if_pos c, if_neg (show ¬ iZ 1 = 0 by decide)]
    exact Or.inl ⟨c, rfl⟩
  · rw [if_neg c, if_pos (show iZ 0 = 0 from rfl)]
    exact Or.inr ⟨c, rfl⟩
theorem o_c05 (w : Int) (h1 : -2147483648 ≤ w) (h2 : w < 2147483648) : (¬ (0 ≤ w ∧ w ≤ 5) ∧ ¬ iZ w = 0 ∧ ¬ iZ w = 1 ∧ ¬ iZ w = 2 ∧ ¬ iZ w = 3 ∧ ¬ iZ w = 4 ∧ ¬ iZ w = 5) ∨ ((0 ≤ w ∧ w ≤ 5) ∧ (w = 0 ∨ w = 1 ∨ w = 2 ∨ w = 3 ∨ w = 4 ∨ w = 5)) := by
  by_cases c : 0 ≤ w ∧ w ≤ 5
  · right
    exact ⟨c, by omega⟩
  · left
    refine ⟨c, ?_, ?_, ?_, ?_, ?_, ?_⟩
    · rw [show (0 : Int32) = iZ 0 from rfl, iZ_eq h1 h2 (by omega) (by omega)]; omega
    · rw [show (1 : Int32) = iZ 1 from rfl, iZ_eq h1 h2 (by omega) (by omega)]; omega
    · rw [show (2 : Int32) = iZ 2 from rfl, iZ_eq h1 h2 (by omega) (by omega)]; omega
    · rw [show (3 : Int32) = iZ 3 from rfl, iZ_eq h1 h2 (by omega) (by omega)]; omega
    · rw [show (4 : Int32) = iZ 4 from rfl, iZ_eq h1 h2 (by omega) (by omega)]; omega
    · rw [show (5 : Int32) = iZ 5 from rfl, iZ_eq h1 h2 (by omega) (by omega)]; omega
theorem o_ring (iv : IV F P m) (x y : Int32) : ∃ a v m', G_X8_ring F x y = some a ∧ G_X9_ring m x y = some (v, m') ∧ IV F P m' ∧ SZ m m' ∧ AN a v (m_thrown m') 1 2 := by
  obtain ⟨r, r1, r2, rfl⟩ := iZ_all x
  obtain ⟨w, w1, w2, rfl⟩ := iZ_all y
  have t0 := iv.thr 0
  have t1 := iv.thr 1
  have t2 := iv.thr 2
  obtain ⟨M, n, Q, c, H, hok, h, hs, hp, hh, hH⟩ := iv
  have hn := hok.1
  have i1 := t_isRing hs hn.1 r r1 r2
  have i2 : G_X9_within (iZ w) 0 5 = some (iZ (if 0 ≤ w ∧ w ≤ 5 then 1 else 0)) := s_within w 0 5 w1 w2 (by omega) (by omega) (by omega) (by omega)
  have d1 : ¬ (1 : Int32) ≤ 0 := by decide
  have d2 : ¬ (2 : Int32) ≤ 0 := by decide
  have d0 : (0 : Int32) ≤ 0 := by decide
  have z1 : ¬ iZ 1 = 0 := by decide
  have z0 : iZ 0 = 0 := rfl
  unfold G_X8_ring G_X9_ring
  rw [i1, i2]
  simp only [Option.bind_some]
  rcases s_checkR h r r1 r2 with ⟨c1, e1⟩ | ⟨c1, e1⟩
  · rw [e1, if_pos c1, if_neg z1]
    simp only [Option.bind_some]
    obtain ⟨i, rfl⟩ : ∃ i : Nat, r = i := ⟨r.toNat, by omega⟩
    have hi : i < n := by omega
    have hs0 : RS (m_state (ms_thrown m 0)) M n Q := by rw [(mg_thrown m 0).2.1]; exact hs
    have hM := hok.2.1 i hi
    have r1' := hok.2.2.1
    rcases o_c05 w w1 w2 with ⟨c2, q0, q1, q2, q3, q4, q5⟩ | ⟨c2, q⟩
    · rw [if_neg c2, if_pos z0]
      simp only [if_neg q0, if_neg q1, if_neg q2, if_neg q3, if_neg q4, if_neg q5, Option.bind_some]
      rw [t2.2.2, if_neg d2]
      exact ⟨_, _, _, rfl, rfl, t2.1, t2.2.1, Or.inr (Or.inr ⟨rfl, rfl, t2.2.2⟩)⟩
    · rw [if_pos c2, if_neg z1]
      simp only [Option.bind_some]
      rw [t0.2.2, if_pos d0]
      have hL := gm_lg_lt (g := gm_len M Q i) (m := M i) (M i) (by omega) (Nat.le_refl _)
      rcases q with rfl | rfl | rfl | rfl | rfl | rfl
      · simp only [if_pos (show iZ 0 = 0 from rfl)]
        rw [s_sizeOf h hi, t_many hs0 hi, Option.bind_some, Option.bind_some]
        exact ⟨_, _, _, rfl, rfl, t0.1, t0.2.1, Or.inl ⟨rfl, t0.2.2⟩⟩
      · simp only [if_neg (show ¬ iZ 1 = 0 by decide), if_pos (show iZ 1 = 1 from rfl)]
        have bb := gm_ds_bd hok hi
        rw [s_ringArea h hok hi, t_sumOf hs0 hi, Option.bind_some, Option.bind_some, t_size (by omega) (by omega), Option.bind_some]
        exact ⟨_, _, _, rfl, rfl, t0.1, t0.2.1, Or.inl ⟨rfl, t0.2.2⟩⟩
      · simp only [if_neg (show ¬ iZ 2 = 0 by decide), if_neg (show ¬ iZ 2 = 1 by decide), if_pos (show iZ 2 = 2 from rfl)]
        rw [s_ringSum h hi, t_sumOf hs0 hi, Option.bind_some, Option.bind_some]
        by_cases s : iZ (gm_ds (M i) (gm_P M Q i)) ≤ 0
        · rw [if_pos s, if_pos s]
          exact ⟨_, _, _, rfl, rfl, t0.1, t0.2.1, Or.inl ⟨rfl, t0.2.2⟩⟩
        · rw [if_neg s, if_neg s]
          exact ⟨_, _, _, rfl, rfl, t0.1, t0.2.1, Or.inl ⟨rfl, t0.2.2⟩⟩
      · simp only [if_neg (show ¬ iZ 3 = 0 by decide), if_neg (show ¬ iZ 3 = 1 by decide), if_neg (show ¬ iZ 3 = 2 by decide), if_pos (show iZ 3 = 3 from rfl)]
        rw [s_ringBorder h hok hi, t_ringPoints hs0 r1' hi, Option.bind_some, Option.bind_some]
        exact ⟨_, _, _, rfl, rfl, t0.1, t0.2.1, Or.inl ⟨rfl, t0.2.2⟩⟩
      · simp only [if_neg (show ¬ iZ 4 = 0 by decide), if_neg (show ¬ iZ 4 = 1 by decide), if_neg (show ¬ iZ 4 = 2 by decide), if_neg (show ¬ iZ 4 = 3 by decide), if_pos (show iZ 4 = 4 from rfl)]
        rw [s_longestSide h hok hi, t_longest hs0 hok hi, Option.bind_some, Option.bind_some, s_firstOf h (by omega), Option.bind_some, iZ_sub, show ((gm_fst M i + gm_lg (gm_len M Q i) (M i) : Nat) : Int) - ((gm_fst M i : Nat) : Int) = ((gm_lg (gm_len M Q i) (M i) : Nat) : Int) by omega]
        exact ⟨_, _, _, rfl, rfl, t0.1, t0.2.1, Or.inl ⟨rfl, t0.2.2⟩⟩
      · simp only [if_neg (show ¬ iZ 5 = 0 by decide), if_neg (show ¬ iZ 5 = 1 by decide), if_neg (show ¬ iZ 5 = 2 by decide), if_neg (show ¬ iZ 5 = 3 by decide), if_neg (show ¬ iZ 5 = 4 by decide), if_pos (show iZ 5 = 5 from rfl)]
        rw [s_longestSide h hok hi, t_longest hs0 hok hi, Option.bind_some, Option.bind_some, s_len h hi hL, t_lengthOf hs0 hi hL, Option.bind_some, Option.bind_some]
        exact ⟨_, _, _, rfl, rfl, t0.1, t0.2.1, Or.inl ⟨rfl, t0.2.2⟩⟩
  · rw [e1, if_neg c1, if_pos z0]
    simp only [Option.bind_some]
    rw [t1.2.2, if_neg d1]
    exact ⟨_, _, _, rfl, rfl, t1.1, t1.2.1, Or.inr (Or.inl ⟨rfl, rfl, t1.2.2⟩)⟩
theorem o_corner (iv : IV F P m) (x y u : Int32) : ∃ a v m', G_X8_corner F x y u = some a ∧ G_X9_corner m x y u = some (v, m') ∧ IV F P m' ∧ SZ m m' ∧ AN a v (m_thrown m') 1 2 := by
  obtain ⟨r, r1, r2, rfl⟩ := iZ_all x
  obtain ⟨k, k1, k2, rfl⟩ := iZ_all y
  obtain ⟨w, w1, w2, rfl⟩ := iZ_all u
  have t0 := iv.thr 0
  have t1 := iv.thr 1
  have t2 := iv.thr 2
  have iv0 := iv
  obtain ⟨M, n, Q, c, H, hok, h, hs, hp, hh, hH⟩ := iv
  have hn := hok.1
  have i1 := t_isCorner hs hn.1 r k r1 r2 k1 k2
  have i2 : G_X9_within (iZ w) 0 5 = some (iZ (if 0 ≤ w ∧ w ≤ 5 then 1 else 0)) := s_within w 0 5 w1 w2 (by omega) (by omega) (by omega) (by omega)
  have d1 : ¬ (1 : Int32) ≤ 0 := by decide
  have d2 : ¬ (2 : Int32) ≤ 0 := by decide
  have d0 : (0 : Int32) ≤ 0 := by decide
  have z1 : ¬ iZ 1 = 0 := by decide
  have z0 : iZ 0 = 0 := rfl
  unfold G_X8_corner G_X9_corner
  rw [i1, i2]
  simp only [Option.bind_some]
  rcases s_check h r k r1 r2 k1 k2 with ⟨c1, e1⟩ | ⟨c1, e1⟩
  · rw [e1, if_pos c1, if_neg z1]
    simp only [Option.bind_some]
    obtain ⟨i, rfl⟩ : ∃ i : Nat, r = i := ⟨r.toNat, by omega⟩
    obtain ⟨j, rfl⟩ : ∃ j : Nat, k = j := ⟨k.toNat, by omega⟩
    rw [Int.toNat_natCast] at c1
    have hi : i < n := by omega
    have hj : j < M i := by omega
    have hc := gm_fst_lt hi hj
    have hs0 : RS (m_state (ms_thrown m 0)) M n Q := by rw [(mg_thrown m 0).2.1]; exact hs
    rw [s_at h (by omega), show ((gm_fst M i : Nat) : Int) + (j : Int) = ((gm_fst M i + j : Nat) : Int) by omega]
    simp only [Option.bind_some]
    rcases o_c05 w w1 w2 with ⟨c2, q0, q1, q2, q3, q4, q5⟩ | ⟨c2, q⟩
    · rw [if_neg c2, if_pos z0]
      simp only [if_neg q0, if_neg q1, if_neg q2, if_neg q3, if_neg q4, if_neg q5, Option.bind_some]
      rw [t2.2.2, if_neg d2]
      exact ⟨_, _, _, rfl, rfl, t2.1, t2.2.1, Or.inr (Or.inr ⟨rfl, rfl, t2.2.2⟩)⟩
    · rw [if_pos c2, if_neg z1]
      simp only [Option.bind_some]
      rw [t0.2.2, if_pos d0]
      rcases q with rfl | rfl | rfl | rfl | rfl | rfl
      · simp only [if_pos (show iZ 0 = 0 from rfl)]
        rw [s_xOf h hc, t_x hs0 hi hj, Option.bind_some, Option.bind_some]
        exact ⟨_, _, _, rfl, rfl, t0.1, t0.2.1, Or.inl ⟨rfl, t0.2.2⟩⟩
      · simp only [if_neg (show ¬ iZ 1 = 0 by decide), if_pos (show iZ 1 = 1 from rfl)]
        rw [s_yOf h hc, t_y hs0 hi hj, Option.bind_some, Option.bind_some]
        exact ⟨_, _, _, rfl, rfl, t0.1, t0.2.1, Or.inl ⟨rfl, t0.2.2⟩⟩
      · simp only [if_neg (show ¬ iZ 2 = 0 by decide), if_neg (show ¬ iZ 2 = 1 by decide), if_pos (show iZ 2 = 2 from rfl)]
        rw [s_kind h hok hi hj, t_kind hs0 hok hi hj, Option.bind_some, Option.bind_some]
        exact ⟨_, _, _, rfl, rfl, t0.1, t0.2.1, Or.inl ⟨rfl, t0.2.2⟩⟩
      · simp only [if_neg (show ¬ iZ 3 = 0 by decide), if_neg (show ¬ iZ 3 = 1 by decide), if_neg (show ¬ iZ 3 = 2 by decide), if_pos (show iZ 3 = 3 from rfl)]
        obtain ⟨m', ⟨q1, q2⟩, q3⟩ := t_seenBy hs0 hok hi hj
        obtain ⟨v1, v2, v3⟩ := iv0.su q1 q2
        rw [s_seenFrom h hok hc, q3, Option.bind_some, Option.bind_some]
        exact ⟨_, _, _, rfl, rfl, v1, v2, Or.inl ⟨rfl, v3⟩⟩
      · simp only [if_neg (show ¬ iZ 4 = 0 by decide), if_neg (show ¬ iZ 4 = 1 by decide), if_neg (show ¬ iZ 4 = 2 by decide), if_neg (show ¬ iZ 4 = 3 by decide), if_pos (show iZ 4 = 4 from rfl)]
        have bb := gm_bend_bd hok hi hj
        rw [s_bendAt h hi hj, t_bend hs0 hi hj, Option.bind_some, Option.bind_some, abs_iZ (by omega) (by omega), t_size (by omega) (by omega), Option.bind_some]
        exact ⟨_, _, _, rfl, rfl, t0.1, t0.2.1, Or.inl ⟨rfl, t0.2.2⟩⟩
      · simp only [if_neg (show ¬ iZ 5 = 0 by decide), if_neg (show ¬ iZ 5 = 1 by decide), if_neg (show ¬ iZ 5 = 2 by decide), if_neg (show ¬ iZ 5 = 3 by decide), if_neg (show ¬ iZ 5 = 4 by decide), if_pos (show iZ 5 = 5 from rfl)]
        rw [s_stepsOfSide h hok hc, gm_nf_eq hi hj, t_pointsOf hs0 hok.2.2.1 hi hj, Option.bind_some, Option.bind_some]
        exact ⟨_, _, _, rfl, rfl, t0.1, t0.2.1, Or.inl ⟨rfl, t0.2.2⟩⟩
  · rw [e1, if_neg c1, if_pos z0]
    simp only [Option.bind_some]
    rw [t1.2.2, if_neg d1]
    exact ⟨_, _, _, rfl, rfl, t1.1, t1.2.1, Or.inr (Or.inl ⟨rfl, rfl, t1.2.2⟩)⟩
theorem o_whyNot (iv : IV F P m) (D : Fig) (x y u w : Int32) : ∃ a D' v m', G_X8_whyNot F D x y u w = some (a, D') ∧ G_X9_whyNot m x y u w = some (v, m') ∧ IV F P m' ∧ SZ m m' ∧ ((a = .inr v ∧ m_thrown m' = 0) ∨ (a = .inl 1 ∧ v = 0 ∧ m_thrown m' = 1)) := by
  obtain ⟨r, r1, r2, rfl⟩ := iZ_all x
  obtain ⟨k, k1, k2, rfl⟩ := iZ_all y
  obtain ⟨a, a1, a2, rfl⟩ := iZ_all u
  obtain ⟨b, b1, b2, rfl⟩ := iZ_all w
  have t1 := iv.thr 1
  obtain ⟨M, n, Q, c, H, hok, h, hs, hp, hh, hH⟩ := iv
  have hn := hok.1
  have i1 := t_isCorner hs hn.1 r k r1 r2 k1 k2
  have d1 : ¬ (1 : Int32) ≤ 0 := by decide
  have d0 : (0 : Int32) ≤ 0 := by decide
  have z1 : ¬ iZ 1 = 0 := by decide
  have z0 : iZ 0 = 0 := rfl
  unfold G_X8_whyNot G_X9_whyNot
  rw [i1]
  simp only [Option.bind_some]
  rcases s_check h r k r1 r2 k1 k2 with ⟨c1, e1⟩ | ⟨c1, e1⟩
  · rw [e1, if_pos c1, if_neg z1]
    simp only [Option.bind_some]
    obtain ⟨i, rfl⟩ : ∃ i : Nat, r = i := ⟨r.toNat, by omega⟩
    obtain ⟨j, rfl⟩ : ∃ j : Nat, k = j := ⟨k.toNat, by omega⟩
    rw [Int.toNat_natCast] at c1
    have hi : i < n := by omega
    have hj : j < M i := by omega
    have hc := gm_fst_lt hi hj
    have hM := hok.2.1 i hi
    obtain ⟨g01, g02, g03, g04, g05, g06, g07, g08, g09, g10, g11, g12, g13, g14, g15, g16, g17, g18⟩ := mg_thrown m 0
    have hs0 : RS (m_state (ms_thrown m 0)) M n Q := by rw [g02]; exact hs
    have fit : gm_fit M n (upQ Q (gm_fst M i + j) (a, b)) := gm_fit_up (gm_fit_of hok.2.2.1) ⟨a1, a2, b1, b2⟩
    obtain ⟨f1, ec, q1⟩ := s_copyFrom (f := D) h
    obtain ⟨f2, ep, q2⟩ := s_place q1 hc (a, b)
    obtain ⟨y1, -, -, br1, eb⟩ := s_firstBroken q2 fit (fun r hr => (hok.2.1 r hr).1) hn.1
    have ep : G_X1_place f1 (iZ ((gm_fst M i + j : Nat) : Int)) (iZ a) (iZ b) = some f2 := ep
    rw [ec, Option.bind_some, s_at q1 (by omega), show ((gm_fst M i : Nat) : Int) + (j : Int) = ((gm_fst M i + j : Nat) : Int) by omega, Option.bind_some, ep, Option.bind_some, eb, Option.bind_some]
    obtain ⟨m1, e2, s1, kp1, sk1⟩ := t_begin (ms_thrown m 0)
    obtain ⟨m2, e3, s2, kp2, sk2⟩ := t_setCorner m1 (r := i) (k := j) (by omega) (by omega) (iZ a) (iZ b)
    have hs2 : RS (m_state m2) M n (upQ Q (gm_fst M i + j) (a, b)) := by
      rw [s2, s1]
      exact RS.place hs0 hi hj a b
    obtain ⟨y2, m3, -, br2, e4, s3, sm3⟩ := t_broken hs2 fit hn.1 (fun r hr => (hok.2.1 r hr).1)
    obtain ⟨wv, e5, c5, -⟩ := t_copy (n0 := 85) (n1 := 85) (w0 := m_kept m3) (w1 := m_state m3) (p := 0) (z := 0) (by omega) (by omega) (by omega) (by omega)
    have e5 : G_X9_copy 85 85 (m_kept m3) (m_state m3) 0 0 = some wv := e5
    rw [g01, if_pos d0, e2, Option.bind_some, e3, Option.bind_some, e4, Option.bind_some]
    dsimp only
    rw [e5, Option.bind_some, gm_brk_un br2 br1]
    obtain ⟨k01, k02, k03, k04, k05, k06, k07, k08, k09, k10, k11, k12, k13, k14, k15, k16, k17, k18⟩ := mg_state m3 wv
    obtain ⟨u1, u2, u3, u4, u5, u6, u7, u8, u9⟩ := SK.trans sk1 (SK.trans sk2 sm3.toSK)
    refine ⟨_, _, _, _, rfl, rfl, ⟨M, n, Q, c, H, hok, h, ?_, hp, RH.of hh (k05.trans (u3.trans g05)) (k06.trans (u4.trans g06)), hH⟩, ⟨k07.trans (u5.trans g07), k08.trans (u6.trans g08), k09.trans (u7.trans g09), k10.trans (u8.trans g10)⟩, Or.inl ⟨rfl, k01.trans (u1.trans g01)⟩⟩
    rw [k02]
    refine RS.congr hs (fun q hq => ?_)
    have := c5 q hq
    rw [Nat.zero_add] at this
    rw [this, sm3.2.1, kp2, kp1 q hq, g02]
  · rw [e1, if_neg c1, if_pos z0]
    simp only [Option.bind_some]
    rw [t1.2.2, if_neg d1]
    exact ⟨_, _, _, _, rfl, rfl, t1.1, t1.2.1, Or.inr ⟨rfl, rfl, t1.2.2⟩⟩
end OPS
