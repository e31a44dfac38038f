/-! the operations: point, inRow -/
section OPS
variable {F : Fig} {P : PastS} {m : Mod} {M : Nat → Nat} {n : Nat} {Q : Nat → Pt}
theorem IV.thr (iv : IV F P m) (w : Int32) : IV F P (ms_thrown m w) ∧ SZ m (ms_thrown m w) ∧ m_thrown (ms_thrown m w) = w := by
  obtain ⟨M, n, Q, c, H, hok, h, hs, hp, hh, hH⟩ := iv
  obtain ⟨g01, g02, g03, g04, g05, g06, g07, g08, g09, g10, g11, g12, g13, g14, g15, g16, g17, g18⟩ := mg_thrown m w
  exact ⟨⟨M, n, Q, c, H, hok, h, by rw [g02]; exact hs, hp, RH.of hh g05 g06, hH⟩, ⟨g07, g08, g09, g10⟩, g01⟩
theorem o_point (iv : IV F P m) (x y : Int32) : ∃ a v m', G_X8_point F x y = some a ∧ G_X9_point m x y = some (v, m') ∧ IV F P m' ∧ SZ m m' ∧ ((a = .inr v ∧ m_thrown m' = 0) ∨ (a = .inl 2 ∧ v = 0 ∧ m_thrown m' = 1)) := by
  obtain ⟨a, a1, a2, rfl⟩ := iZ_all x
  obtain ⟨b, b1, b2, rfl⟩ := iZ_all y
  have t0 := iv.thr 0
  have t1 := iv.thr 1
  obtain ⟨M, n, Q, c, H, hok, h, hs, hp, hh, hH⟩ := iv
  unfold G_X8_point G_X9_point G_X9_isPoint
  rw [iZ_0, iZ_15, s_inRange a 0 15 a1 a2 (by omega) (by omega) (by omega) (by omega), s_inRange b 0 15 b1 b2 (by omega) (by omega) (by omega) (by omega), s_within a 0 15 a1 a2 (by omega) (by omega) (by omega) (by omega), s_within b 0 15 b1 b2 (by omega) (by omega) (by omega) (by omega)]
  simp only [Option.bind_some]
  have d1 : ¬ (1 : Int32) = iZ 0 := by decide
  have d2 : ¬ (1 : Int32) ≤ iZ 0 := by decide
  have d3 : iZ 0 ≤ iZ 0 := by decide
  by_cases ca : 0 ≤ a ∧ a ≤ 15
  · rw [if_pos ca, if_neg (show ¬ iZ 1 = iZ 0 by decide), if_neg (show ¬ iZ 1 = iZ 0 by decide)]
    by_cases cb : 0 ≤ b ∧ b ≤ 15
    · have hs0 : RS (m_state (ms_thrown m 0)) M n Q := by rw [(mg_thrown m 0).2.1]; exact hs
      have e := gm_wh_z h hs0 hok (p := (a, b)) (by unfold gm_paper; dsimp only; omega)
      dsimp only at e
      have e2 : G_X9_where (ms_thrown m (iZ 0)) (iZ a) (iZ b) = some (iZ (gm_whz M n Q (a, b))) := e.2
      have t03 : m_thrown (ms_thrown m (iZ 0)) = iZ 0 := t0.2.2
      rw [if_pos cb, if_neg (show ¬ iZ 1 = iZ 0 by decide), if_neg (show ¬ iZ 1 = iZ 0 by decide), e.1, Option.bind_some, Option.bind_some, if_neg d1, Option.bind_some, t03, if_pos d3, e2, Option.bind_some]
      exact ⟨_, _, _, rfl, rfl, t0.1, t0.2.1, Or.inl ⟨rfl, t0.2.2⟩⟩
    · rw [if_neg cb, if_pos rfl, if_pos rfl, Option.bind_some, if_pos rfl, Option.bind_some, t1.2.2, if_neg d2]
      exact ⟨_, _, _, rfl, rfl, t1.1, t1.2.1, Or.inr ⟨rfl, rfl, t1.2.2⟩⟩
  · rw [if_neg ca, if_pos rfl, if_pos rfl, Option.bind_some, if_pos rfl, Option.bind_some, t1.2.2, if_neg d2]
    exact ⟨_, _, _, rfl, rfl, t1.1, t1.2.1, Or.inr ⟨rfl, rfl, t1.2.2⟩⟩
end OPS
