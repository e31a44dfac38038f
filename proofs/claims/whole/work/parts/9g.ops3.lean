/-! the operations: shift -/
section OPS
variable {F : Fig} {P : PastS} {m : Mod} {M : Nat → Nat} {n : Nat} {Q : Nat → Pt} {k : Nat} {H : Nat → FG}
theorem o_shift (iv : IV F P m) (D : Fig) (x y : Int32) : ∃ a F' D' P' v m', G_X8_shift F D P x y = some (a, F', D', P') ∧ G_X9_shift m x y = some (v, m') ∧ IV F' P' m' ∧ SZ m m' ∧ AN a v (m_thrown m') 2 3 := by
  obtain ⟨M, n, Q, c, H, hok, h, hs, hp, hh, hH⟩ := iv
  have hn := hok.1
  obtain ⟨x, x1, x2, rfl⟩ := iZ_all x
  obtain ⟨y, y1, y2, rfl⟩ := iZ_all y
  obtain ⟨f1, ec, q1⟩ := s_copyFrom (f := D) h
  obtain ⟨f', m1, w⟩ := o_try h hs hok hp hh hH (j_shift q1 hs hok x y ⟨x1, x2⟩ ⟨y1, y2⟩)
  have el : (-15 : Int32) = iZ (-15) := rfl
  have eh : (15 : Int32) = iZ 15 := rfl
  have ra := s_inRange x ((-15)) 15 x1 x2 (by omega) (by omega) (by omega) (by omega)
  have rb := s_inRange y ((-15)) 15 y1 y2 (by omega) (by omega) (by omega) (by omega)
  rw [← el, ← eh] at ra rb
  unfold G_X8_shift G_X9_shift
  rw [ra, rb, Option.bind_some, Option.bind_some]
  by_cases c1 : -15 ≤ x ∧ x ≤ 15 ∧ -15 ≤ y ∧ y ≤ 15
  · rw [if_pos (show (-15) ≤ x ∧ x ≤ 15 by omega), if_pos (show (-15) ≤ y ∧ y ≤ 15 by omega), if_neg (show ¬ iZ 1 = 0 by decide), if_neg (show ¬ iZ 1 = 0 by decide), ec, Option.bind_some]
    rcases w with ⟨e, e', q⟩ | ⟨-, e, e', g1, M', n', Q', F2, P2, m2, ok', rf2, rs2, ek, em, iv2, sz, th⟩
    · rcases e' with ⟨c2, -⟩ | ⟨-, e'⟩
      · exact absurd c1 c2
      · obtain ⟨q1, q2, q3⟩ := q 2
        rw [e, e', Option.bind_some, Option.bind_some]
        dsimp only
        rw [if_pos rfl, q3, if_neg (show ¬ (2 : Int32) ≤ 0 by decide)]
        exact ⟨_, _, _, _, _, _, rfl, rfl, q1, q2, Or.inr (Or.inr ⟨rfl, rfl, q3⟩)⟩
    · rw [e, e', Option.bind_some, Option.bind_some]
      dsimp only
      rw [if_neg (show ¬ (1 : Int32) = 0 by decide), g1, if_pos (show (0 : Int32) ≤ 0 by decide), ek, em, Option.bind_some, Option.bind_some, s_greatestX rf2 ok', t_greatestX rs2 ok', Option.bind_some, Option.bind_some]
      exact ⟨_, _, _, _, _, _, rfl, rfl, iv2, sz, Or.inl ⟨rfl, th⟩⟩
  · have out : ∀ A : Option ((Sum Nat Int32) × Fig × Fig × PastS), (if iZ (if (-15) ≤ x ∧ x ≤ 15 then 1 else 0) = 0 then some (.inl 2, F, D, P) else if iZ (if (-15) ≤ y ∧ y ≤ 15 then 1 else 0) = 0 then some (.inl 2, F, D, P) else A) = some (.inl 2, F, D, P) := by
      intro A
      by_cases cx : (-15) ≤ x ∧ x ≤ 15
      · rw [if_pos cx, if_neg (show ¬ iZ 1 = 0 by decide), if_neg (show ¬ ((-15) ≤ y ∧ y ≤ 15) by omega), if_pos (show iZ 0 = 0 from rfl)]
      · rw [if_neg cx, if_pos (show iZ 0 = 0 from rfl)]
    rw [out]
    rcases w with ⟨e, e', q⟩ | ⟨c2, -⟩
    · rcases e' with ⟨-, e'⟩ | ⟨c2, -⟩
      · obtain ⟨q1, q2, q3⟩ := q 1
        rw [e', Option.bind_some]
        dsimp only
        rw [q3, if_neg (show ¬ (1 : Int32) ≤ 0 by decide)]
        exact ⟨_, _, _, _, _, _, rfl, rfl, q1, q2, Or.inr (Or.inl ⟨rfl, rfl, q3⟩)⟩
      · exact absurd c2 c1
    · exact absurd c2 c1
end OPS
