/-! the operations: cut -/
section OPS
variable {F : Fig} {P : PastS} {m : Mod} {M : Nat → Nat} {n : Nat} {Q : Nat → Pt}
theorem o_cut (iv : IV F P m) (x : Int32) : ∃ a v m', G_X8_cut F x = some a ∧ G_X9_cut m x = some (v, m') ∧ IV F P m' ∧ SZ m m' ∧ ((a = .inr v ∧ m_thrown m' = 0) ∨ (a = .inl 1 ∧ v = 0 ∧ m_thrown m' = 1)) := by
  obtain ⟨k, k1, k2, rfl⟩ := iZ_all x
  have t1 := iv.thr 1
  have iv0 := iv
  obtain ⟨M, n, Q, c, H, hok, h, hs, hp, hh, hH⟩ := iv
  have hn := hok.1
  have i1 := t_isCorner hs hn.1 0 k (by omega) (by omega) k1 k2
  have i1 : G_X9_isCorner m 0 (iZ k) = some (iZ (if 0 ≤ (0 : Int) ∧ (0 : Int) < n ∧ 0 ≤ k ∧ k < M (0 : Int).toNat then 1 else 0)) := i1
  have d2 : ¬ (1 : Int32) ≤ 0 := by decide
  unfold G_X8_cut G_X9_cut
  rw [i1]
  simp only [Option.bind_some]
  rcases s_check h 0 k (by omega) (by omega) k1 k2 with ⟨c1, e1⟩ | ⟨c1, e1⟩
  · have e1 : G_X8_checkCorner F 0 (iZ k) = some (.inr ()) := e1
    rw [e1, if_pos c1, if_neg (show ¬ iZ 1 = 0 by decide)]
    simp only [Option.bind_some]
    obtain ⟨j, rfl⟩ : ∃ j : Nat, k = j := ⟨k.toNat, by omega⟩
    have hj : j < M 0 := by
      have := c1.2.2.2
      have : (j : Int) < M 0 := this
      omega
    have hs0 : RS (m_state (ms_thrown m 0)) M n Q := by rw [(mg_thrown m 0).2.1]; exact hs
    obtain ⟨m', ⟨q1, q2⟩, q3⟩ := t_isEar hs0 hok hj
    obtain ⟨v1, v2, v3⟩ := iv0.su q1 q2
    have hs2 : RS (m_state m') M n Q := by rw [q1]; exact hs0
    have bb := gm_bend_bd hok (r := 0) (by omega) hj
    have b1 : G_X1_bendAt F 0 (iZ (j : Int)) = some (iZ (gm_bend M Q 0 j)) := s_bendAt h (r := 0) (by omega) hj
    have b2 : G_X9_bend m' 0 (iZ (j : Int)) = some (iZ (gm_bend M Q 0 j)) := t_bend hs2 (r := 0) (by omega) hj
    rw [(mg_thrown m 0).1, if_pos (show (0 : Int32) ≤ 0 by decide), s_isEar h hok hj, q3, Option.bind_some, Option.bind_some]
    dsimp only
    rcases gm_ear_01 M n Q j with w | w
    · rw [w, if_pos (show iZ 0 = 0 from rfl), if_pos (show iZ 0 = 0 from rfl)]
      exact ⟨_, _, _, rfl, rfl, v1, v2, Or.inl ⟨rfl, v3⟩⟩
    · rw [w, if_neg (show ¬ iZ 1 = 0 by decide), if_neg (show ¬ iZ 1 = 0 by decide), b1, b2, Option.bind_some, Option.bind_some, abs_iZ (by omega) (by omega), t_size (by omega) (by omega), Option.bind_some]
      exact ⟨_, _, _, rfl, rfl, v1, v2, Or.inl ⟨rfl, v3⟩⟩
  · have e1 : G_X8_checkCorner F 0 (iZ k) = some (.inl 1) := e1
    rw [e1, if_neg c1, if_pos (show iZ 0 = 0 from rfl)]
    simp only [Option.bind_some]
    rw [t1.2.2, if_neg d2]
    exact ⟨_, _, _, rfl, rfl, t1.1, t1.2.1, Or.inr ⟨rfl, rfl, t1.2.2⟩⟩
end OPS
