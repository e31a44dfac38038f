/-! the operations: more changes -/
section OPS
variable {F : Fig} {P : PastS} {m : Mod} {M : Nat → Nat} {n : Nat} {Q : Nat → Pt} {k : Nat} {H : Nat → FG}
theorem o_insert (iv : IV F P m) (D : Fig) (r k x y : Int32) : ∃ a F' D' P' v m', G_X8_insert F D P r k x y = some (a, F', D', P') ∧ G_X9_insert m r k x y = some (v, m') ∧ IV F' P' m' ∧ SZ m m' ∧ AN a v (m_thrown m') 1 3 := by
  obtain ⟨M, n, Q, c, H, hok, h, hs, hp, hh, hH⟩ := iv
  obtain ⟨r, r1, r2, rfl⟩ := iZ_all r
  obtain ⟨k, k1, k2, rfl⟩ := iZ_all k
  obtain ⟨x, x1, x2, rfl⟩ := iZ_all x
  obtain ⟨y, y1, y2, rfl⟩ := iZ_all y
  obtain ⟨f1, ec, q1⟩ := s_copyFrom (f := D) h
  obtain ⟨f', m1, w⟩ := o_try h hs hok hp hh hH (j_insert q1 hs hok r k x y ⟨r1, r2⟩ ⟨k1, k2⟩ ⟨x1, x2⟩ ⟨y1, y2⟩)
  unfold G_X8_insert G_X9_insert
  rcases s_check h r k r1 r2 k1 k2 with ⟨c1, e1⟩ | ⟨c1, e1⟩
  · rw [e1, Option.bind_some]
    dsimp only
    rw [ec, Option.bind_some]
    rcases w with ⟨e, e', q⟩ | ⟨-, e, e', g1, M', n', Q', F2, P2, m2, ok', rf2, rs2, ek, em, iv2, sz, th⟩
    · rcases e' with ⟨c2, -⟩ | ⟨-, e'⟩
      · exact absurd c1 c2
      · obtain ⟨q1, q2, q3⟩ := q 2
        rw [e, e', Option.bind_some, Option.bind_some]
        dsimp only
        rw [if_pos rfl, q3, if_neg (show ¬ (2 : Int32) ≤ 0 by decide)]
        exact ⟨_, _, _, _, _, _, rfl, rfl, q1, q2, Or.inr (Or.inr ⟨rfl, rfl, q3⟩)⟩
    · rw [e, e', Option.bind_some, Option.bind_some]
      dsimp only
      rw [if_neg (show ¬ (1 : Int32) = 0 by decide), g1, if_pos (show (0 : Int32) ≤ 0 by decide), ek, em, Option.bind_some, Option.bind_some, s_area rf2 ok', t_area rs2 ok', Option.bind_some, Option.bind_some]
      exact ⟨_, _, _, _, _, _, rfl, rfl, iv2, sz, Or.inl ⟨rfl, th⟩⟩
  · rw [e1, Option.bind_some]
    dsimp only
    rcases w with ⟨e, e', q⟩ | ⟨c2, -⟩
    · rcases e' with ⟨-, e'⟩ | ⟨c2, -⟩
      · obtain ⟨q1, q2, q3⟩ := q 1
        rw [e', Option.bind_some]
        dsimp only
        rw [q3, if_neg (show ¬ (1 : Int32) ≤ 0 by decide)]
        exact ⟨_, _, _, _, _, _, rfl, rfl, q1, q2, Or.inr (Or.inl ⟨rfl, rfl, q3⟩)⟩
      · exact absurd c2 c1
    · exact absurd c2 c1
theorem o_remove (iv : IV F P m) (D : Fig) (r k : Int32) : ∃ a F' D' P' v m', G_X8_remove F D P r k = some (a, F', D', P') ∧ G_X9_remove m r k = some (v, m') ∧ IV F' P' m' ∧ SZ m m' ∧ AN a v (m_thrown m') 1 3 := by
  obtain ⟨M, n, Q, c, H, hok, h, hs, hp, hh, hH⟩ := iv
  obtain ⟨r, r1, r2, rfl⟩ := iZ_all r
  obtain ⟨k, k1, k2, rfl⟩ := iZ_all k
  obtain ⟨f1, ec, q1⟩ := s_copyFrom (f := D) h
  obtain ⟨f', m1, w⟩ := o_try h hs hok hp hh hH (j_remove q1 hs hok r k ⟨r1, r2⟩ ⟨k1, k2⟩)
  unfold G_X8_remove G_X9_remove
  rcases s_check h r k r1 r2 k1 k2 with ⟨c1, e1⟩ | ⟨c1, e1⟩
  · rw [e1, Option.bind_some]
    dsimp only
    rw [ec, Option.bind_some]
    rcases w with ⟨e, e', q⟩ | ⟨-, e, e', g1, M', n', Q', F2, P2, m2, ok', rf2, rs2, ek, em, iv2, sz, th⟩
    · rcases e' with ⟨c2, -⟩ | ⟨-, e'⟩
      · exact absurd c1 c2
      · obtain ⟨q1, q2, q3⟩ := q 2
        rw [e, e', Option.bind_some, Option.bind_some]
        dsimp only
        rw [if_pos rfl, q3, if_neg (show ¬ (2 : Int32) ≤ 0 by decide)]
        exact ⟨_, _, _, _, _, _, rfl, rfl, q1, q2, Or.inr (Or.inr ⟨rfl, rfl, q3⟩)⟩
    · rw [e, e', Option.bind_some, Option.bind_some]
      dsimp only
      rw [if_neg (show ¬ (1 : Int32) = 0 by decide), g1, if_pos (show (0 : Int32) ≤ 0 by decide), ek, em, Option.bind_some, Option.bind_some, s_area rf2 ok', t_area rs2 ok', Option.bind_some, Option.bind_some]
      exact ⟨_, _, _, _, _, _, rfl, rfl, iv2, sz, Or.inl ⟨rfl, th⟩⟩
  · rw [e1, Option.bind_some]
    dsimp only
    rcases w with ⟨e, e', q⟩ | ⟨c2, -⟩
    · rcases e' with ⟨-, e'⟩ | ⟨c2, -⟩
      · obtain ⟨q1, q2, q3⟩ := q 1
        rw [e', Option.bind_some]
        dsimp only
        rw [q3, if_neg (show ¬ (1 : Int32) ≤ 0 by decide)]
        exact ⟨_, _, _, _, _, _, rfl, rfl, q1, q2, Or.inr (Or.inl ⟨rfl, rfl, q3⟩)⟩
      · exact absurd c2 c1
    · exact absurd c2 c1
theorem o_addHole (iv : IV F P m) (D : Fig) (x y : Int32) : ∃ a F' D' P' v m', G_X8_addHole F D P x y = some (a, F', D', P') ∧ G_X9_addHole m x y = some (v, m') ∧ IV F' P' m' ∧ SZ m m' ∧ AN a v (m_thrown m') 2 3 := by
  obtain ⟨M, n, Q, c, H, hok, h, hs, hp, hh, hH⟩ := iv
  have hn := hok.1
  obtain ⟨x, x1, x2, rfl⟩ := iZ_all x
  obtain ⟨y, y1, y2, rfl⟩ := iZ_all y
  obtain ⟨f1, ec, q1⟩ := s_copyFrom (f := D) h
  obtain ⟨f', m1, w⟩ := o_try h hs hok hp hh hH (j_hole q1 hs hok x y ⟨x1, x2⟩ ⟨y1, y2⟩)
  have el : (0 : Int32) = iZ (0) := rfl
  have eh : (14 : Int32) = iZ 14 := rfl
  have ra := s_inRange x (0) 14 x1 x2 (by omega) (by omega) (by omega) (by omega)
  have rb := s_inRange y (0) 14 y1 y2 (by omega) (by omega) (by omega) (by omega)
  rw [← el, ← eh] at ra rb
  unfold G_X8_addHole G_X9_addHole
  rw [ra, rb, Option.bind_some, Option.bind_some]
  by_cases c1 : 0 ≤ x ∧ x ≤ 14 ∧ 0 ≤ y ∧ y ≤ 14
  · rw [if_pos (show 0 ≤ x ∧ x ≤ 14 by omega), if_pos (show 0 ≤ y ∧ y ≤ 14 by omega), if_neg (show ¬ iZ 1 = 0 by decide), if_neg (show ¬ iZ 1 = 0 by decide), ec, Option.bind_some]
    rcases w with ⟨e, e', q⟩ | ⟨-, e, e', g1, M', n', Q', F2, P2, m2, ok', rf2, rs2, ek, em, iv2, sz, th⟩
    · rcases e' with ⟨c2, -⟩ | ⟨-, e'⟩
      · exact absurd c1 c2
      · obtain ⟨q1, q2, q3⟩ := q 2
        rw [e, e', Option.bind_some, Option.bind_some]
        dsimp only
        rw [if_pos rfl, q3, if_neg (show ¬ (2 : Int32) ≤ 0 by decide)]
        exact ⟨_, _, _, _, _, _, rfl, rfl, q1, q2, Or.inr (Or.inr ⟨rfl, rfl, q3⟩)⟩
    · rw [e, e', Option.bind_some, Option.bind_some]
      dsimp only
      rw [if_neg (show ¬ (1 : Int32) = 0 by decide), g1, if_pos (show (0 : Int32) ≤ 0 by decide), ek, em, Option.bind_some, Option.bind_some, rf2.1, t_n rs2, Option.bind_some]
      exact ⟨_, _, _, _, _, _, rfl, rfl, iv2, sz, Or.inl ⟨rfl, th⟩⟩
  · have out : ∀ A : Option ((Sum Nat Int32) × Fig × Fig × PastS), (if iZ (if 0 ≤ x ∧ x ≤ 14 then 1 else 0) = 0 then some (.inl 2, F, D, P) else if iZ (if 0 ≤ y ∧ y ≤ 14 then 1 else 0) = 0 then some (.inl 2, F, D, P) else A) = some (.inl 2, F, D, P) := by
      intro A
      by_cases cx : 0 ≤ x ∧ x ≤ 14
      · rw [if_pos cx, if_neg (show ¬ iZ 1 = 0 by decide), if_neg (show ¬ (0 ≤ y ∧ y ≤ 14) by omega), if_pos (show iZ 0 = 0 from rfl)]
      · rw [if_neg cx, if_pos (show iZ 0 = 0 from rfl)]
    rw [out]
    rcases w with ⟨e, e', q⟩ | ⟨c2, -⟩
    · rcases e' with ⟨-, e'⟩ | ⟨c2, -⟩
      · obtain ⟨q1, q2, q3⟩ := q 1
        rw [e', Option.bind_some]
        dsimp only
        rw [q3, if_neg (show ¬ (1 : Int32) ≤ 0 by decide)]
        exact ⟨_, _, _, _, _, _, rfl, rfl, q1, q2, Or.inr (Or.inl ⟨rfl, rfl, q3⟩)⟩
      · exact absurd c2 c1
    · exact absurd c2 c1
theorem o_turn (iv : IV F P m) (D : Fig) : ∃ F' D' P' v m', G_X8_turn F D P = some (v, F', D', P') ∧ G_X9_turn m = some (v, m') ∧ IV F' P' m' ∧ SZ m m' ∧ m_thrown m' = 0 := by
  obtain ⟨M, n, Q, k, H, hok, h, hs, hp, hh, hH⟩ := iv
  obtain ⟨f1, ec, q1⟩ := s_copyFrom (f := D) h
  obtain ⟨f2, e1, q2⟩ := s_turnQuarter q1
  obtain ⟨g01, g02, g03, g04, g05, g06, g07, g08, g09, g10, g11, g12, g13, g14, g15, g16, g17, g18⟩ := mg_thrown m 0
  have hsx : RS (m_state (ms_thrown m 0)) M n Q := by rw [g02]; exact hs
  obtain ⟨m1, e2, r1, r2, s1, s2, s3, s4, s5, s6, s7, s8, s9⟩ := t_turned hsx 0 (by omega)
  have e2 : G_X9_turned (ms_thrown m 0) 0 = some m1 := e2
  have q2 : RF f2 M n (fun c => gm_tm 0 (Q c)) := RF.congr q2 (fun _ _ => rfl) (fun c _ => if_pos rfl)
  have ok' := gm_tm_ok hok 0
  obtain ⟨F2, P2, ek, k1, k2⟩ := s_keepDraft hp h q2
  have hk : RS (m_kept m1) M n Q := RS.congr hsx r2
  obtain ⟨m2, em, hh2, t1, t2, t3, t4, t5, t6, t7, t8, t9⟩ := t_remember (RH.of hh (s3.trans g05) (s4.trans g06)) hk
  have rs2 : RS (m_state m2) M n (fun c => gm_tm 0 (Q c)) := by rw [t2]; exact r1
  unfold G_X8_turn G_X9_turn
  rw [ec, Option.bind_some, e1, Option.bind_some, ek, Option.bind_some, e2, Option.bind_some, em, Option.bind_some, s_greatestX k1 ok', t_greatestX rs2 ok', Option.bind_some, Option.bind_some]
  exact ⟨_, _, _, _, _, rfl, rfl, ⟨M, n, _, _, _, ok', k1, rs2, k2, hh2, gm_rem_ok hok hH⟩, ⟨t5.trans (s5.trans g07), t6.trans (s6.trans g08), t7.trans (s7.trans g09), t8.trans (s8.trans g10)⟩, t1.trans (s1.trans g01)⟩
theorem o_mirror (iv : IV F P m) (D : Fig) : ∃ F' D' P' v m', G_X8_mirror F D P = some (v, F', D', P') ∧ G_X9_mirror m = some (v, m') ∧ IV F' P' m' ∧ SZ m m' ∧ m_thrown m' = 0 := by
  obtain ⟨M, n, Q, k, H, hok, h, hs, hp, hh, hH⟩ := iv
  obtain ⟨f1, ec, q1⟩ := s_copyFrom (f := D) h
  obtain ⟨f2, e1, q2⟩ := s_mirrorAll q1
  obtain ⟨g01, g02, g03, g04, g05, g06, g07, g08, g09, g10, g11, g12, g13, g14, g15, g16, g17, g18⟩ := mg_thrown m 0
  have hsx : RS (m_state (ms_thrown m 0)) M n Q := by rw [g02]; exact hs
  obtain ⟨m1, e2, r1, r2, s1, s2, s3, s4, s5, s6, s7, s8, s9⟩ := t_turned hsx 1 (by omega)
  have e2 : G_X9_turned (ms_thrown m 0) 1 = some m1 := e2
  have q2 : RF f2 M n (fun c => gm_tm 1 (Q c)) := RF.congr q2 (fun _ _ => rfl) (fun c _ => if_neg (by decide))
  have ok' := gm_tm_ok hok 1
  obtain ⟨F2, P2, ek, k1, k2⟩ := s_keepDraft hp h q2
  have hk : RS (m_kept m1) M n Q := RS.congr hsx r2
  obtain ⟨m2, em, hh2, t1, t2, t3, t4, t5, t6, t7, t8, t9⟩ := t_remember (RH.of hh (s3.trans g05) (s4.trans g06)) hk
  have rs2 : RS (m_state m2) M n (fun c => gm_tm 1 (Q c)) := by rw [t2]; exact r1
  unfold G_X8_mirror G_X9_mirror
  rw [ec, Option.bind_some, e1, Option.bind_some, ek, Option.bind_some, e2, Option.bind_some, em, Option.bind_some, s_greatestX k1 ok', t_greatestX rs2 ok', Option.bind_some, Option.bind_some]
  exact ⟨_, _, _, _, _, rfl, rfl, ⟨M, n, _, _, _, ok', k1, rs2, k2, hh2, gm_rem_ok hok hH⟩, ⟨t5.trans (s5.trans g07), t6.trans (s6.trans g08), t7.trans (s7.trans g09), t8.trans (s8.trans g10)⟩, t1.trans (s1.trans g01)⟩
end OPS
