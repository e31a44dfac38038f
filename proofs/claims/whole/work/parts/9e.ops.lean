/-! the operations: what both hold, and the changes -/
/-- both hold the same figure and remember the same figures -/
def IV (F : Fig) (P : PastS) (m : Mod) : Prop := ∃ M n Q c H, gm_ok M n Q ∧ RF F M n Q ∧ RS (m_state m) M n Q ∧ RP P c H ∧ RH m c H ∧ ∀ i, i < c → gm_ok (H i).2.1 (H i).1 (H i).2.2
def SZ (m m' : Mod) : Prop := m_slots m' = m_slots m ∧ m_isSaved m' = m_isSaved m ∧ m_text m' = m_text m ∧ m_textLength m' = m_textLength m
section OPS
variable {F : Fig} {P : PastS} {m : Mod} {M : Nat → Nat} {n : Nat} {Q : Nat → Pt} {k : Nat} {H : Nat → FG}
theorem gm_rem_ok (hok : gm_ok M n Q) (hH : ∀ i, i < k → gm_ok (H i).2.1 (H i).1 (H i).2.2) : ∀ i, i < (if k = 14 then 14 else k + 1) → gm_ok (gm_rem k H (n, M, Q) i).2.1 (gm_rem k H (n, M, Q) i).1 (gm_rem k H (n, M, Q) i).2.2 := by
  intro i hi
  unfold gm_rem
  by_cases k14 : k = 14
  · rw [if_pos k14] at hi ⊢
    by_cases i13 : i = 13
    · rw [if_pos i13]; exact hok
    · rw [if_neg i13]; exact hH (i + 1) (by omega)
  · rw [if_neg k14] at hi ⊢
    by_cases ik : i = k
    · rw [if_pos ik]; exact hok
    · rw [if_neg ik]; exact hH i (by omega)
theorem o_try {c : Prop} {o : Option (Int32 × Fig)} {o' : Option (Int32 × Mod)} (h : RF F M n Q) (hs : RS (m_state m) M n Q) (hok : gm_ok M n Q) (hp : RP P k H) (hh : RH m k H) (hH : ∀ i, i < k → gm_ok (H i).2.1 (H i).1 (H i).2.2) (j : JT c m o o') :
    ∃ f' m1, (o = some (0, f') ∧ ((¬ c ∧ o' = some (1, m1)) ∨ (c ∧ o' = some (2, m1))) ∧ ∀ w, IV F P (ms_thrown m1 w) ∧ SZ m (ms_thrown m1 w) ∧ m_thrown (ms_thrown m1 w) = w) ∨
      (c ∧ o = some (1, f') ∧ o' = some (0, m1) ∧ m_thrown (ms_thrown m1 0) = 0 ∧ ∃ M' n' Q' F2 P2 m2, gm_ok M' n' Q' ∧ RF F2 M' n' Q' ∧ RS (m_state m2) M' n' Q' ∧ G_X8_keepDraft F f' P = some (F2, P2) ∧ G_X9_remember (ms_thrown m1 0) = some m2 ∧ IV F2 P2 m2 ∧ SZ m m2 ∧ m_thrown m2 = 0) := by
  obtain ⟨f', m1, ⟨s1, s2, s3, s4, s5, s6, s7, s8, s9⟩, w⟩ := j
  refine ⟨f', m1, ?_⟩
  rcases w with ⟨e, same, e'⟩ | ⟨hc, e, e', kept, M', n', Q', ok', rf', rs'⟩
  · left
    refine ⟨e, e', fun w => ?_⟩
    obtain ⟨g01, g02, g03, g04, g05, g06, g07, g08, g09, g10, g11, g12, g13, g14, g15, g16, g17, g18⟩ := mg_thrown m1 w
    refine ⟨⟨M, n, Q, k, H, hok, h, ?_, hp, RH.of hh (g05.trans s3) (g06.trans s4), hH⟩, ⟨g07.trans s5, g08.trans s6, g09.trans s7, g10.trans s8⟩, g01⟩
    rw [g02]
    exact RS.congr hs same
  · right
    obtain ⟨g01, g02, g03, g04, g05, g06, g07, g08, g09, g10, g11, g12, g13, g14, g15, g16, g17, g18⟩ := mg_thrown m1 0
    obtain ⟨F2, P2, ek, q1, q2⟩ := s_keepDraft hp h rf'
    have hk : RS (m_kept (ms_thrown m1 0)) M n Q := by
      rw [g03]
      exact RS.congr hs kept
    obtain ⟨m2, em, hh2, t1, t2, t3, t4, t5, t6, t7, t8, t9⟩ := t_remember (RH.of hh (g05.trans s3) (g06.trans s4)) hk
    have rs2 : RS (m_state m2) M' n' Q' := by rw [t2, g02]; exact rs'
    exact ⟨hc, e, e', g01, M', n', Q', F2, P2, m2, ok', q1, rs2, ek, em, ⟨M', n', Q', _, _, ok', q1, rs2, q2, hh2, gm_rem_ok hok hH⟩, ⟨t5.trans (g07.trans s5), t6.trans (g08.trans s6), t7.trans (g09.trans s7), t8.trans (g10.trans s8)⟩, t1.trans g01⟩
theorem s_check (h : RF F M n Q) (z w : Int) (h1 : -2147483648 ≤ z) (h2 : z < 2147483648) (h3 : -2147483648 ≤ w) (h4 : w < 2147483648) :
    ((0 ≤ z ∧ z < n ∧ 0 ≤ w ∧ w < M z.toNat) ∧ G_X8_checkCorner F (iZ z) (iZ w) = some (.inr ())) ∨ (¬ (0 ≤ z ∧ z < n ∧ 0 ≤ w ∧ w < M z.toNat) ∧ G_X8_checkCorner F (iZ z) (iZ w) = some (.inl 1)) := by
  unfold G_X8_checkCorner
  rw [s_hasCorner h z w h1 h2 h3 h4, Option.bind_some]
  by_cases c : 0 ≤ z ∧ z < n ∧ 0 ≤ w ∧ w < M z.toNat
  · rw [if_pos c, if_neg (show ¬ iZ 1 = 0 by decide)]
    exact Or.inl ⟨c, rfl⟩
  · rw [if_neg c, if_pos (show iZ 0 = 0 from rfl)]
    exact Or.inr ⟨c, rfl⟩
/-- the answers go together: code 1 and 2 for what is thrown -/
def AN (a : Sum Nat Int32) (v : Int32) (t : Int32) (k1 k2 : Nat) : Prop := (a = .inr v ∧ t = 0) ∨ (a = .inl k1 ∧ v = 0 ∧ t = 1) ∨ (a = .inl k2 ∧ v = 0 ∧ t = 2)
theorem o_move (iv : IV F P m) (D : Fig) (r k x y : Int32) : ∃ a F' D' P' v m', G_X8_move F D P r k x y = some (a, F', D', P') ∧ G_X9_move m r k x y = some (v, m') ∧ IV F' P' m' ∧ SZ m m' ∧ AN a v (m_thrown m') 1 3 := by
  obtain ⟨M, n, Q, c, H, hok, h, hs, hp, hh, hH⟩ := iv
  obtain ⟨r, r1, r2, rfl⟩ := iZ_all r
  obtain ⟨k, k1, k2, rfl⟩ := iZ_all k
  obtain ⟨x, x1, x2, rfl⟩ := iZ_all x
  obtain ⟨y, y1, y2, rfl⟩ := iZ_all y
  obtain ⟨f1, ec, q1⟩ := s_copyFrom (f := D) h
  obtain ⟨f', m1, w⟩ := o_try h hs hok hp hh hH (j_move q1 hs hok r k x y ⟨r1, r2⟩ ⟨k1, k2⟩ ⟨x1, x2⟩ ⟨y1, y2⟩)
  unfold G_X8_move G_X9_move
  rcases s_check h r k r1 r2 k1 k2 with ⟨c1, e1⟩ | ⟨c1, e1⟩
  · rw [e1, Option.bind_some]
    dsimp only
    rw [ec, Option.bind_some]
    rcases w with ⟨e, e', q⟩ | ⟨-, e, e', g1, M', n', Q', F2, P2, m2, ok', rf2, rs2, ek, em, iv2, sz, th⟩
    · rcases e' with ⟨c2, -⟩ | ⟨-, e'⟩
      · exact absurd c1 c2
      · obtain ⟨q1, q2, q3⟩ := q 2
        rw [e, e', Option.bind_some, Option.bind_some]
        dsimp only
        rw [if_pos rfl, q3, if_neg (show ¬ (2 : Int32) ≤ 0 by decide)]
        exact ⟨_, _, _, _, _, _, rfl, rfl, q1, q2, Or.inr (Or.inr ⟨rfl, rfl, q3⟩)⟩
    · rw [e, e', Option.bind_some, Option.bind_some]
      dsimp only
      rw [if_neg (show ¬ (1 : Int32) = 0 by decide), g1, if_pos (show (0 : Int32) ≤ 0 by decide), ek, em, Option.bind_some, Option.bind_some, s_area rf2 ok', t_area rs2 ok', Option.bind_some, Option.bind_some]
      exact ⟨_, _, _, _, _, _, rfl, rfl, iv2, sz, Or.inl ⟨rfl, th⟩⟩
  · rw [e1, Option.bind_some]
    dsimp only
    rcases w with ⟨e, e', q⟩ | ⟨c2, -⟩
    · rcases e' with ⟨-, e'⟩ | ⟨c2, -⟩
      · obtain ⟨q1, q2, q3⟩ := q 1
        rw [e', Option.bind_some]
        dsimp only
        rw [q3, if_neg (show ¬ (1 : Int32) ≤ 0 by decide)]
        exact ⟨_, _, _, _, _, _, rfl, rfl, q1, q2, Or.inr (Or.inl ⟨rfl, rfl, q3⟩)⟩
      · exact absurd c2 c1
    · exact absurd c2 c1
end OPS
