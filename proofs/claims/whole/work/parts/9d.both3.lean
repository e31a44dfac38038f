/-! both classes: a command -/
theorem div_iZ {a b : Int} (h1 : 0 ≤ a) (h2 : a < 2147483648) (h3 : 1 ≤ b) (h4 : b < 2147483648) : iZ a / iZ b = iZ (a / b) := by
  rw [← Int.tdiv_eq_ediv_of_nonneg h1]
  exact (Int32.ofInt_tdiv (by show (-2147483648 : Int) ≤ _; omega) (by show _ ≤ (2147483647 : Int); omega) (by show (-2147483648 : Int) ≤ _; omega) (by show _ ≤ (2147483647 : Int); omega)).symm
section BOTH
variable {f : Fig} {m : Mod} {M : Nat → Nat} {n : Nat} {Q : Nat → Pt}
theorem j_command (h : RF f M n Q) (hs : RS (m_state m) M n Q) (hok : gm_ok M n Q) {z : Int} (z0 : 0 ≤ z) (z1 : z < 1000000) : JC m (G_X5_succeeds f (iZ z)) (G_X9_commands m (iZ z)) := by
  have hd : ∃ d : Int, (0 ≤ d ∧ d ≤ 9) ∧ iZ z / 10000 - iZ z / 10000 / 10 * 10 = iZ d := by
    refine ⟨z / 10000 - z / 10000 / 10 * 10, by omega, ?_⟩
    rw [show (10000 : Int32) = iZ 10000 from rfl, iZ_10, div_iZ z0 (by omega) (by omega) (by omega), div_iZ (by omega) (by omega) (by omega) (by omega), iZ_mul, iZ_sub]
  generalize iZ z = v at *
  unfold G_X5_succeeds G_X9_commands
  obtain ⟨d, hd9, ed⟩ := hd
  by_cases c1 : v / 100000 = 1
  · rw [if_pos c1, if_pos c1]
    obtain ⟨x, x1, x2, ex⟩ := iZ_all (v / 100 - v / 100 / 100 * 100)
    obtain ⟨y, y1, y2, ey⟩ := iZ_all (v - v / 100 * 100)
    rw [ed, ex, ey]
    exact (j_move h hs hok 0 d x y (by omega) (by omega) ⟨x1, x2⟩ ⟨y1, y2⟩).c1
  rw [if_neg c1, if_neg c1]
  by_cases c2 : v / 100000 = 2
  · rw [if_pos c2, if_pos c2]
    obtain ⟨x, x1, x2, ex⟩ := iZ_all (v / 100 - v / 100 / 100 * 100)
    obtain ⟨y, y1, y2, ey⟩ := iZ_all (v - v / 100 * 100)
    rw [ed, ex, ey]
    exact (j_insert h hs hok 0 d x y (by omega) (by omega) ⟨x1, x2⟩ ⟨y1, y2⟩).c1
  rw [if_neg c2, if_neg c2]
  by_cases c3 : v / 100000 = 3
  · rw [if_pos c3, if_pos c3]
    by_cases w : v - v / 1000 * 1000 = 0
    · rw [if_pos w, if_pos w]
      obtain ⟨x, x1, x2, ex⟩ := iZ_all (v / 1000 - v / 1000 / 10 * 10)
      rw [ed, ex]
      exact (j_remove h hs hok d x (by omega) ⟨x1, x2⟩).c2
    · rw [if_neg w, if_neg w]
      exact JC.no f m
  rw [if_neg c3, if_neg c3]
  by_cases c4 : v / 100000 = 4
  · rw [if_pos c4, if_pos c4]
    by_cases w : v - v / 10 * 10 = 0
    · rw [if_pos w, if_pos w]
      obtain ⟨x, x1, x2, ex⟩ := iZ_all (v / 1000 - v / 1000 / 100 * 100)
      obtain ⟨y, y1, y2, ey⟩ := iZ_all (v / 10 - v / 10 / 100 * 100)
      rw [ex, ey]
      exact (j_hole h hs hok x y ⟨x1, x2⟩ ⟨y1, y2⟩).c2
    · rw [if_neg w, if_neg w]
      exact JC.no f m
  rw [if_neg c4, if_neg c4]
  by_cases c5 : v / 100000 = 5
  · rw [if_pos c5, if_pos c5]
    by_cases w : v / 10000 - v / 10000 / 10 * 10 = 0
    · rw [if_pos w, if_pos w]
      obtain ⟨x, x1, x2, ex⟩ := iZ_all (v / 100 - v / 100 / 100 * 100 - 15)
      obtain ⟨y, y1, y2, ey⟩ := iZ_all (v - v / 100 * 100 - 15)
      rw [ex, ey]
      exact (j_shift h hs hok x y ⟨x1, x2⟩ ⟨y1, y2⟩).c2
    · rw [if_neg w, if_neg w]
      exact JC.no f m
  rw [if_neg c5, if_neg c5]
  by_cases c6 : v / 100000 = 6
  · rw [if_pos c6, if_pos c6]
    by_cases w : v - v / 10000 * 10000 = 0
    · rw [if_pos w, if_pos w, ed]
      exact j_turn h hs hok d hd9
    · rw [if_neg w, if_neg w]
      exact JC.no f m
  rw [if_neg c6, if_neg c6]
  by_cases c7 : v / 100000 = 7
  · rw [if_pos c7, if_pos c7]
    by_cases w : v / 10000 - v / 10000 / 10 * 10 = 0
    · rw [if_pos w, if_pos w]
      by_cases w2 : v / 1000 - v / 1000 / 10 * 10 = 0
      · rw [if_pos w2, if_pos w2, s_area h hok, t_area hs hok, Option.bind_some, Option.bind_some]
        by_cases w3 : iZ (gm_area M n Q) < v - v / 1000 * 1000
        · rw [if_pos w3, if_pos w3]
          exact JC.no f m
        · rw [if_neg w3, if_neg w3]
          exact JC.yes h hs hok
      · rw [if_neg w2, if_neg w2]
        exact JC.no f m
    · rw [if_neg w, if_neg w]
      exact JC.no f m
  rw [if_neg c7, if_neg c7]
  by_cases c8 : v / 100000 = 8
  · rw [if_pos c8, if_pos c8]
    exact j_at h hs hok _ _ _
  rw [if_neg c8, if_neg c8]
  by_cases c9 : v / 100000 = 9
  · rw [if_pos c9, if_pos c9]
    by_cases w : v / 10000 - v / 10000 / 10 * 10 = 0
    · rw [if_pos w, if_pos w]
      by_cases w2 : v / 1000 - v / 1000 / 10 * 10 = 0
      · rw [if_pos w2, if_pos w2, s_inside h hok, t_inside hs hok, Option.bind_some, Option.bind_some]
        by_cases w3 : v - v / 1000 * 1000 < iZ (gm_pp (gm_fi n M (gm_P M Q)))
        · rw [if_pos w3, if_pos w3]
          exact JC.no f m
        · rw [if_neg w3, if_neg w3]
          exact JC.yes h hs hok
      · rw [if_neg w2, if_neg w2]
        exact JC.no f m
    · rw [if_neg w, if_neg w]
      exact JC.no f m
  rw [if_neg c9, if_neg c9]
  exact JC.no f m
end BOTH
