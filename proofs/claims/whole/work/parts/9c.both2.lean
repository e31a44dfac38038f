/-! both classes: shifts, turns, a script's commands -/
section BOTH
variable {f : Fig} {m : Mod} {M : Nat → Nat} {n : Nat} {Q : Nat → Pt}
theorem j_shift (h : RF f M n Q) (hs : RS (m_state m) M n Q) (hok : gm_ok M n Q) (dx dy : Int) (bx : -2147483648 ≤ dx ∧ dx < 2147483648) (bY : -2147483648 ≤ dy ∧ dy < 2147483648) :
    JT (-15 ≤ dx ∧ dx ≤ 15 ∧ -15 ≤ dy ∧ dy ≤ 15) m (G_X0_shifted f (iZ dx) (iZ dy)) (G_X9_tryShift m (iZ dx) (iZ dy)) := by
  rcases s_shifted h hok dx dy bx bY with ⟨c1, e1⟩ | ⟨c1, f', q, w⟩
  · rcases t_tryShift hs hok dx dy bx bY with ⟨c2, e2⟩ | ⟨c2, -⟩
    · exact j_no c1 e1 e2
    · exact absurd c2 c1
  · rcases t_tryShift hs hok dx dy bx bY with ⟨c2, e2⟩ | ⟨c2, z, m', t⟩
    · exact absurd c1 c2
    · have zb := t.2.1
      rcases w with ⟨r1, e1⟩ | ⟨r1, e1⟩
      · have ok2 := gm_ok_shift hok r1
        have z0 : z = 0 := gm_brk_un zb (gm_ok_brk ok2)
        refine j_of c1 hok.1 hok.2.1 q zb ?_ t
        rw [if_pos z0]; exact e1
      · refine j_of c1 hok.1 hok.2.1 q zb ?_ t
        have z0 : ¬ z = 0 := by
          intro z0
          rw [z0] at zb
          exact r1 (gm_brk_ok hok.1 hok.2.1 zb).2.2.1
        rw [if_neg z0]; exact e1
/-- both do a command alike -/
def JC (m : Mod) (o : Option (Int32 × Fig)) (o' : Option (Int32 × Mod)) : Prop :=
  ∃ f' m', SK m m' ∧ ((o = some (0, f') ∧ o' = some (0, m')) ∨ (o = some (1, f') ∧ o' = some (1, m') ∧ ∃ M' n' Q', gm_ok M' n' Q' ∧ RF f' M' n' Q' ∧ RS (m_state m') M' n' Q'))
theorem JC.no (f : Fig) (m : Mod) : JC m (some (0, f)) (some (0, m)) := ⟨f, m, SK.rfl' m, Or.inl ⟨rfl, rfl⟩⟩
theorem JC.yes (h : RF f M n Q) (hs : RS (m_state m) M n Q) (hok : gm_ok M n Q) : JC m (some (1, f)) (some (1, m)) := ⟨f, m, SK.rfl' m, Or.inr ⟨rfl, rfl, M, n, Q, hok, h, hs⟩⟩
theorem JT.c1 {c : Prop} {o : Option (Int32 × Fig)} {o' : Option (Int32 × Mod)} (h : JT c m o o') : JC m (o.bind fun v => (bck v.1).bind fun w => some (w, v.2)) (o'.bind fun v => if v.1 = 0 then some (1, v.2) else some (0, v.2)) := by
  obtain ⟨f', m', k, w⟩ := h
  refine ⟨f', m', k, ?_⟩
  rcases w with ⟨e, -, e'⟩ | ⟨-, e, e', -, x⟩
  · left
    rw [e]
    refine ⟨rfl, ?_⟩
    rcases e' with ⟨-, e'⟩ | ⟨-, e'⟩ <;> rw [e'] <;> rfl
  · right
    rw [e, e']
    exact ⟨rfl, rfl, x⟩
theorem JT.c2 {c : Prop} {o : Option (Int32 × Fig)} {o' : Option (Int32 × Mod)} (h : JT c m o o') : JC m (o.bind fun v => if v.1 = 0 then some (0, v.2) else some (1, v.2)) (o'.bind fun v => if v.1 = 0 then some (1, v.2) else some (0, v.2)) := by
  obtain ⟨f', m', k, w⟩ := h
  refine ⟨f', m', k, ?_⟩
  rcases w with ⟨e, -, e'⟩ | ⟨-, e, e', -, x⟩
  · left
    rw [e]
    refine ⟨rfl, ?_⟩
    rcases e' with ⟨-, e'⟩ | ⟨-, e'⟩ <;> rw [e'] <;> rfl
  · right
    rw [e, e']
    exact ⟨rfl, rfl, x⟩
theorem gm_tm_ok (hok : gm_ok M n Q) (w : Int) : gm_ok M n (fun c => gm_tm w (Q c)) := by
  unfold gm_tm
  by_cases w0 : w = 0
  · have := gm_ok_turn hok
    have e : (fun c => if w = 0 then ((15 - (Q c).2, (Q c).1) : Pt) else (15 - (Q c).1, (Q c).2)) = fun c => (15 - (Q c).2, (Q c).1) := by
      funext c
      rw [if_pos w0]
    rw [e]; exact this
  · have := gm_ok_mirror hok
    have e : (fun c => if w = 0 then ((15 - (Q c).2, (Q c).1) : Pt) else (15 - (Q c).1, (Q c).2)) = fun c => (15 - (Q c).1, (Q c).2) := by
      funext c
      rw [if_neg w0]
    rw [e]; exact this
theorem j_turn (h : RF f M n Q) (hs : RS (m_state m) M n Q) (hok : gm_ok M n Q) (d : Int) (hd : 0 ≤ d ∧ d ≤ 9) :
    JC m ((G_X5_turnsOrMirrors f (iZ d)).bind fun v => if v.1 = 0 then some (0, v.2) else some (1, v.2)) ((G_X9_isTurned m (iZ d)).bind fun v => if v.1 = 0 then some (0, v.2) else some (1, v.2)) := by
  unfold G_X5_turnsOrMirrors G_X5_turnsOrMirrors_j20 G_X9_isTurned G_X9_isTurned_j19
  rw [iZ_0, iZ_1, iZ_2, ite_le (by omega)]
  by_cases d2 : 2 ≤ d
  · rw [if_pos d2, ite_eq (by omega), if_neg (by omega), ite_eq (by omega), if_neg (by omega), ite_eq (by omega), if_neg (by omega), ite_eq (by omega), if_neg (by omega), ite_le (by omega), if_pos d2]
    exact JC.no f m
  · rw [if_neg d2]
    by_cases d0 : d = 0
    · subst d0
      obtain ⟨f', e1, q1⟩ := s_turnQuarter h
      obtain ⟨m', e2, q2, -, q3⟩ := t_turned hs 0 (by omega)
      rw [if_pos rfl, e1, Option.bind_some, if_pos rfl, if_neg (show ¬ iZ 0 = iZ 1 by decide), Option.bind_some, Option.bind_some, e2, Option.bind_some, if_neg (show ¬ iZ 2 ≤ iZ 0 by decide)]
      refine ⟨f', m', q3, Or.inr ⟨rfl, rfl, M, n, _, gm_tm_ok hok 0, ?_, q2⟩⟩
      exact RF.congr q1 (fun _ _ => rfl) (fun c _ => if_pos rfl)
    · have d1 : d = 1 := by omega
      subst d1
      obtain ⟨f', e1, q1⟩ := s_mirrorAll h
      obtain ⟨m', e2, q2, -, q3⟩ := t_turned hs 1 (by omega)
      rw [if_neg (show ¬ iZ 1 = iZ 0 by decide), if_pos rfl, e1, Option.bind_some, if_neg (show ¬ iZ 1 = iZ 0 by decide), if_pos rfl, Option.bind_some, if_pos rfl, Option.bind_some, e2, Option.bind_some, if_neg (show ¬ iZ 2 ≤ iZ 1 by decide)]
      refine ⟨f', m', q3, Or.inr ⟨rfl, rfl, M, n, _, gm_tm_ok hok 1, ?_, q2⟩⟩
      exact RF.congr q1 (fun _ _ => rfl) (fun c _ => if_neg (by decide))
theorem gm_wh_z (h : RF f M n Q) (hs : RS (m_state m) M n Q) (hok : gm_ok M n Q) {p : Pt} (hp : gm_paper p) : G_X1_placeOf f (iZ p.1) (iZ p.2) = some (iZ (gm_whz M n Q p)) ∧ G_X9_where m (iZ p.1) (iZ p.2) = some (iZ (gm_whz M n Q p)) := by
  obtain ⟨z, -, -, hz, e⟩ := s_placeOf h hok hp
  rw [← gm_whz_eq hz] at e
  exact ⟨e, (t_where hs hok hp).2⟩
theorem j_at (h : RF f M n Q) (hs : RS (m_state m) M n Q) (hok : gm_ok M n Q) (x y v : Int32) :
    JC m ((G_X5_isAt f x y v).bind fun w => (bck w).bind fun u => some (u, f)) ((G_X9_isPoint x y).bind fun w => if w = 0 then some (0, m) else (G_X9_where m x y).bind fun u => if u = v then some (1, m) else some (0, m)) := by
  obtain ⟨a, a1, a2, rfl⟩ := iZ_all x
  obtain ⟨b, b1, b2, rfl⟩ := iZ_all y
  unfold G_X5_isAt G_X9_isPoint
  rw [iZ_0, iZ_15, s_inRange a 0 15 a1 a2 (by omega) (by omega) (by omega) (by omega), s_inRange b 0 15 b1 b2 (by omega) (by omega) (by omega) (by omega), s_within a 0 15 a1 a2 (by omega) (by omega) (by omega) (by omega), s_within b 0 15 b1 b2 (by omega) (by omega) (by omega) (by omega)]
  simp only [Option.bind_some]
  by_cases ca : 0 ≤ a ∧ a ≤ 15
  · rw [if_pos ca, if_neg (show ¬ iZ 1 = iZ 0 by decide), if_neg (show ¬ iZ 1 = iZ 0 by decide)]
    by_cases cb : 0 ≤ b ∧ b ≤ 15
    · have e := gm_wh_z h hs hok (p := (a, b)) (by unfold gm_paper; dsimp only; omega)
      dsimp only at e
      rw [if_pos cb, if_neg (show ¬ iZ 1 = iZ 0 by decide), if_neg (show ¬ iZ 1 = iZ 0 by decide), e.1, Option.bind_some, Option.bind_some, if_neg (show ¬ (1 : Int32) = iZ 0 by decide), e.2, Option.bind_some]
      by_cases cv : iZ (gm_whz M n Q (a, b)) = v
      · rw [if_pos cv, if_pos cv]
        exact JC.yes h hs hok
      · rw [if_neg cv, if_neg cv]
        exact JC.no f m
    · rw [if_neg cb, if_pos rfl, if_pos rfl]
      exact JC.no f m
  · rw [if_neg ca, if_pos rfl, if_pos rfl]
    exact JC.no f m
end BOTH
