/-! the operations: undo, about -/
section OPS
variable {F : Fig} {P : PastS} {m : Mod} {M : Nat → Nat} {n : Nat} {Q : Nat → Pt}
theorem o_undo (iv : IV F P m) : ∃ a F' P' v m', G_X8_undo F P = some (a, F', P') ∧ G_X9_undo m = some (v, m') ∧ IV F' P' m' ∧ SZ m m' ∧ ((a = .inr v ∧ m_thrown m' = 0) ∨ (a = .inl 3 ∧ v = 0 ∧ m_thrown m' = 1)) := by
  obtain ⟨M, n, Q, c, H, hok, h, hs, hp, hh, hH⟩ := iv
  have hc := hp.1
  have pc := hp.2.1
  have hr := hh.2.1
  unfold G_X8_undo G_X9_undo
  rw [pc, hr, iZ_0, ite_eq (by omega), ite_le (by omega)]
  by_cases c0 : c = 0
  · rw [if_pos (show (c : Int) = 0 by omega), if_pos (show (c : Int) ≤ 0 by omega), Option.bind_some]
    obtain ⟨g01, g02, g03, g04, g05, g06, g07, g08, g09, g10, g11, g12, g13, g14, g15, g16, g17, g18⟩ := mg_thrown m 1
    rw [g01, if_neg (show ¬ (1 : Int32) ≤ iZ 0 by decide)]
    exact ⟨_, _, _, _, _, rfl, rfl, ⟨M, n, Q, c, H, hok, h, by rw [g02]; exact hs, hp, RH.of hh g05 g06, hH⟩, ⟨g07, g08, g09, g10⟩, Or.inr ⟨rfl, rfl, g01⟩⟩
  · obtain ⟨P', f', e, rp, rc, rf⟩ := s_takeBack (f := F) hp (by omega)
    rw [if_neg (show ¬ (c : Int) = 0 by omega), if_neg (show ¬ (c : Int) ≤ 0 by omega), Option.bind_some, e, Option.bind_some]
    dsimp only
    generalize hx : ms_thrown m (iZ 0) = x
    have g := mg_thrown m (iZ 0)
    rw [hx] at g
    obtain ⟨g01, g02, g03, g04, g05, g06, g07, g08, g09, g10, g11, g12, g13, g14, g15, g16, g17, g18⟩ := g
    rw [g01, if_pos (show iZ 0 ≤ iZ 0 by decide), Option.bind_some, g06, hr, iZ_1, iZ_sub, show (c : Int) - 1 = ((c - 1 : Nat) : Int) by omega, Option.bind_some]
    generalize hy : ms_remembered x (iZ ((c - 1 : Nat) : Int)) = y
    have q := mg_remembered x (iZ ((c - 1 : Nat) : Int))
    rw [hy] at q
    obtain ⟨q01, q02, q03, q04, q05, q06, q07, q08, q09, q10, q11, q12, q13, q14, q15, q16, q17, q18⟩ := q
    obtain ⟨w, ew, w1, -⟩ := t_copy (n0 := 1190) (n1 := 85) (w0 := m_history y) (w1 := m_state y) (p := (c - 1) * 85) (z := 0) (by omega) (by omega) (by omega) (by omega)
    have ew : G_X9_copy 1190 85 (m_history y) (m_state y) (iZ (((c - 1) * 85 : Nat) : Int)) (iZ 0) = some w := ew
    rw [q06, iZ_85, iZ_mul, show ((c - 1 : Nat) : Int) * 85 = (((c - 1) * 85 : Nat) : Int) by omega, ew, Option.bind_some]
    generalize hu : ms_state y w = u
    have k := mg_state y w
    rw [hu] at k
    obtain ⟨k01, k02, k03, k04, k05, k06, k07, k08, k09, k10, k11, k12, k13, k14, k15, k16, k17, k18⟩ := k
    have rs : RS (m_state u) (H (c - 1)).2.1 (H (c - 1)).1 (H (c - 1)).2.2 := by
      rw [k02]
      refine RS.congr (hh.2.2 (c - 1) (by omega)) (fun i hi => ?_)
      have := w1 i hi
      rw [Nat.zero_add, q05, g05] at this
      rw [this, Nat.mul_comm]
    have rh : RH u (c - 1) H := by
      refine ⟨by omega, k06.trans q06, fun i hi => ?_⟩
      rw [k05, q05, g05]
      exact hh.2.2 i (by omega)
    refine ⟨_, _, _, _, _, rfl, rfl, ⟨_, _, _, c - 1, H, hH (c - 1) (by omega), rf, rs, rp, rh, fun i hi => hH i (by omega)⟩, ⟨k07.trans (q07.trans g07), k08.trans (q08.trans g08), k09.trans (q09.trans g09), k10.trans (q10.trans g10)⟩, Or.inl ⟨?_, k01.trans (q01.trans g01)⟩⟩
    rw [k06, q06, rc]
end OPS
