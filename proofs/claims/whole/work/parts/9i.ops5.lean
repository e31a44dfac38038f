/-! the operations: about, bestMove, cuttings -/
section OPS
variable {F : Fig} {P : PastS} {m : Mod} {M : Nat → Nat} {n : Nat} {Q : Nat → Pt}
theorem s_about (h : RF F M n Q) (hok : gm_ok M n Q) (z : Int) (h1 : -2147483648 ≤ z) (h2 : z < 2147483648) : G_X8_about F (iZ z) = some (if 0 ≤ z ∧ z ≤ 9 then .inr (iZ (gm_abt M n Q z)) else .inl 2) := by
  have k1 : G_X2_outlineCorners F 1 = some (iZ (gm_kinds M Q 1)) := s_outlineCorners h hok 1 (by omega)
  have k2 := s_outlineCorners h hok (-1) (by omega)
  rw [show iZ (-1) = (-1 : Int32) by decide] at k2
  unfold G_X8_about gm_abt
  rw [h.1, h.2.1, s_area h hok, s_border h hok, s_inside h hok, k1, k2, s_ears h hok, s_hull h hok, s_pairs h hok]
  simp only [Option.bind_some]
  rw [show (2 : Int32) = iZ 2 from rfl, show (3 : Int32) = iZ 3 from rfl, show (4 : Int32) = iZ 4 from rfl, show (5 : Int32) = iZ 5 from rfl, show (6 : Int32) = iZ 6 from rfl, show (7 : Int32) = iZ 7 from rfl, show (8 : Int32) = iZ 8 from rfl, show (9 : Int32) = iZ 9 from rfl, show (1 : Int32) = iZ 1 from rfl, show (0 : Int32) = iZ 0 from rfl]
  rw [ite_eq (by omega), ite_eq (by omega), ite_eq (by omega), ite_eq (by omega), ite_eq (by omega), ite_eq (by omega), ite_eq (by omega), ite_eq (by omega), ite_eq (by omega), ite_eq (by omega)]
  by_cases c0 : z = 0
  · rw [if_pos c0, if_pos (show 0 ≤ z ∧ z ≤ 9 by omega), if_pos c0]
  rw [if_neg c0, if_neg c0]
  by_cases c1 : z = 1
  · rw [if_pos c1, if_pos (show 0 ≤ z ∧ z ≤ 9 by omega), if_pos c1]
  rw [if_neg c1, if_neg c1]
  by_cases c2 : z = 2
  · rw [if_pos c2, if_pos (show 0 ≤ z ∧ z ≤ 9 by omega), if_pos c2]
  rw [if_neg c2, if_neg c2]
  by_cases c3 : z = 3
  · rw [if_pos c3, if_pos (show 0 ≤ z ∧ z ≤ 9 by omega), if_pos c3]
  rw [if_neg c3, if_neg c3]
  by_cases c4 : z = 4
  · rw [if_pos c4, if_pos (show 0 ≤ z ∧ z ≤ 9 by omega), if_pos c4]
  rw [if_neg c4, if_neg c4]
  by_cases c5 : z = 5
  · rw [if_pos c5, if_pos (show 0 ≤ z ∧ z ≤ 9 by omega), if_pos c5]
  rw [if_neg c5, if_neg c5]
  by_cases c6 : z = 6
  · rw [if_pos c6, if_pos (show 0 ≤ z ∧ z ≤ 9 by omega), if_pos c6]
  rw [if_neg c6, if_neg c6]
  by_cases c7 : z = 7
  · rw [if_pos c7, if_pos (show 0 ≤ z ∧ z ≤ 9 by omega), if_pos c7]
  rw [if_neg c7, if_neg c7]
  by_cases c8 : z = 8
  · rw [if_pos c8, if_pos (show 0 ≤ z ∧ z ≤ 9 by omega), if_pos c8]
  rw [if_neg c8, if_neg c8]
  by_cases c9 : z = 9
  · rw [if_pos c9, if_pos (show 0 ≤ z ∧ z ≤ 9 by omega), if_pos c9]
  rw [if_neg c9, if_neg c9, if_neg (show ¬ (0 ≤ z ∧ z ≤ 9) by omega)]
theorem o_about (iv : IV F P m) (x : Int32) : ∃ a v m', G_X8_about F x = some a ∧ G_X9_about m x = some (v, m') ∧ IV F P m' ∧ SZ m m' ∧ ((a = .inr v ∧ m_thrown m' = 0) ∨ (a = .inl 2 ∧ v = 0 ∧ m_thrown m' = 1)) := by
  obtain ⟨M, n, Q, c, H, hok, h, hs, hp, hh, hH⟩ := iv
  obtain ⟨z, z1, z2, rfl⟩ := iZ_all x
  obtain ⟨m', ⟨e1, s1, s2, s3, s4, s5, s6, s7, s8, s9, s10⟩, e2⟩ := t_about hs hok z z1 z2
  obtain ⟨g01, g02, g03, g04, g05, g06, g07, g08, g09, g10, g11, g12, g13, g14, g15, g16, g17, g18⟩ := mg_thrown m (iZ (if 0 ≤ z ∧ z ≤ 9 then 0 else 1))
  refine ⟨_, _, m', s_about h hok z z1 z2, e2, ⟨M, n, Q, c, H, hok, h, by rw [e1]; exact hs, hp, RH.of hh (s4.trans g05) (s5.trans g06), hH⟩, ⟨s6.trans g07, s7.trans g08, s8.trans g09, s9.trans g10⟩, ?_⟩
  have th := s1.trans g01
  by_cases cz : 0 ≤ z ∧ z ≤ 9
  · rw [if_pos cz] at th ⊢
    exact Or.inl ⟨rfl, th⟩
  · rw [if_neg cz] at th ⊢
    refine Or.inr ⟨rfl, ?_, th⟩
    unfold gm_abt
    rw [if_neg (by omega), if_neg (by omega), if_neg (by omega), if_neg (by omega), if_neg (by omega), if_neg (by omega), if_neg (by omega), if_neg (by omega), if_neg (by omega), if_neg (by omega)]
    rfl
theorem o_bestMove (iv : IV F P m) (D : Fig) : ∃ v D' m', G_X8_bestMove F D = some (v, D') ∧ G_X9_bestMove m = some (v, m') ∧ IV F P m' ∧ SZ m m' ∧ m_thrown m' = 0 := by
  obtain ⟨M, n, Q, c, H, hok, h, hs, hp, hh, hH⟩ := iv
  obtain ⟨D', e1⟩ := s_bestMove h hok D
  obtain ⟨m', e2, ⟨s1, s2, s3, s4, s5, s6, s7, s8, s9⟩, same⟩ := t_bestMove hs hok
  obtain ⟨g01, g02, g03, g04, g05, g06, g07, g08, g09, g10, g11, g12, g13, g14, g15, g16, g17, g18⟩ := mg_thrown m 0
  exact ⟨_, D', m', e1, e2, ⟨M, n, Q, c, H, hok, h, RS.congr hs same, hp, RH.of hh (s3.trans g05) (s4.trans g06), hH⟩, ⟨s5.trans g07, s6.trans g08, s7.trans g09, s8.trans g10⟩, s1.trans g01⟩
theorem o_cuttings (iv : IV F P m) (W : Nat → Int32) : ∃ v W' m', G_X8_cuttings F W = some (v, W') ∧ G_X9_cuttings m = some (v, m') ∧ IV F P m' ∧ SZ m m' ∧ m_thrown m' = 0 := by
  obtain ⟨M, n, Q, c, H, hok, h, hs, hp, hh, hH⟩ := iv
  have hn := hok.1
  have kb := gm_kinds_bd M Q 0
  have hM := hok.2.1 0 (by omega)
  obtain ⟨m', e2, s1, s2, s3, s4, s5, s6, s7, s8, s9, s10⟩ := t_cuttings hs hok
  obtain ⟨g01, g02, g03, g04, g05, g06, g07, g08, g09, g10, g11, g12, g13, g14, g15, g16, g17, g18⟩ := mg_thrown m 0
  obtain ⟨W', e1⟩ := s_triangulations h hok W
  have e0 : ∃ W', G_X8_cuttings F W = some (gm_cts M n Q, W') := by
    have k0 : G_X2_outlineCorners F 0 = some (iZ (gm_kinds M Q 0)) := s_outlineCorners h hok 0 (by omega)
    unfold G_X8_cuttings gm_cts
    rw [h.1, iZ_1, ite_lt (by omega), k0, Option.bind_some, iZ_0, ite_le (by omega), e1, Option.bind_some]
    by_cases c1 : 1 < n
    · rw [if_pos (show (1 : Int) < n by omega), if_pos c1]
      exact ⟨_, rfl⟩
    · rw [if_neg (show ¬ (1 : Int) < n by omega), if_neg c1]
      by_cases c2 : 0 < gm_kinds M Q 0
      · rw [if_neg (show ¬ gm_kinds M Q 0 ≤ 0 by omega), if_pos c2]
        exact ⟨_, rfl⟩
      · rw [if_pos (show gm_kinds M Q 0 ≤ 0 by omega), if_neg c2]
        exact ⟨_, rfl⟩
  obtain ⟨W2, e0⟩ := e0
  refine ⟨_, W2, m', e0, e2, ⟨M, n, Q, c, H, hok, h, by rw [s2, g02]; exact hs, hp, RH.of hh (s5.trans g05) (s6.trans g06), hH⟩, ⟨s7.trans g07, s8.trans g08, s9.trans g09, s10.trans g10⟩, s1.trans g01⟩
end OPS
