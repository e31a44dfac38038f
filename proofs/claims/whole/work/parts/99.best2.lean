/-! the second class: the best step -/
section BEST
variable {m : Mod} {M : Nat → Nat} {n : Nat} {Q : Nat → Pt}
/-- the best area, as the second class holds it -/
noncomputable def gm_ba (M : Nat → Nat) (n : Nat) (Q : Nat → Pt) (t : Nat) : Int := if (gm_bs M n Q t).1 = -9 then 0 else (gm_bs M n Q t).2
theorem t_bestMove (hs : RS (m_state m) M n Q) (hok : gm_ok M n Q) : ∃ m', G_X9_bestMove m = some (iZ (gm_bs M n Q (4 * M 0)).1, m') ∧ SK (ms_thrown m 0) m' ∧ (∀ i, i < 85 → m_state m' i = m_state m i) := by
  have hn := hok.1
  have hM := hok.2.1 0 (by omega)
  have e4 : (4 : Int32) = iZ 4 := rfl
  have e9 : (-9 : Int32) = iZ (-9) := rfl
  unfold G_X9_bestMove
  generalize hx : ms_thrown m 0 = x
  have g := mg_thrown m 0
  rw [hx] at g
  obtain ⟨-, g2, -⟩ := g
  have inner : ∀ (k12 : Mod → Int32 → Int32 → Int32 → Option (Int32 × Mod)) (k : Nat) (s : Mod), k < M 0 → (SK x s ∧ ∀ i, i < 85 → m_state s i = m_state m i) →
      ∃ s', (SK x s' ∧ ∀ i, i < 85 → m_state s' i = m_state m i) ∧ G_X9_bestMove_L24 k12 FU s 0 (iZ (k : Int)) (iZ (gm_ba M n Q (4 * k))) (iZ (gm_bs M n Q (4 * k)).1) = k12 s' (iZ ((k : Int) + 1)) (iZ (gm_ba M n Q (4 * (k + 1)))) (iZ (gm_bs M n Q (4 * (k + 1))).1) := by
    intro k12 k s hk hI0
    obtain ⟨⟨s', t⟩, ⟨i0, i1⟩, e⟩ := lp_inv (L := fun u (S : Mod × Nat) c => G_X9_bestMove_L24 k12 u S.1 c (iZ (k : Int)) (iZ (gm_ba M n Q S.2)) (iZ (gm_bs M n Q S.2).1)) (N := 4) (I := fun c S => (SK x S.1 ∧ ∀ i, i < 85 → m_state S.1 i = m_state m i) ∧ S.2 = 4 * k + c) (K := fun S => k12 S.1 (iZ ((k : Int) + 1)) (iZ (gm_ba M n Q S.2)) (iZ (gm_bs M n Q S.2).1))
      (fun u c S hc hI => by
        obtain ⟨s, t⟩ := S
        obtain ⟨⟨j1, j2⟩, hI⟩ := hI
        dsimp only at j1 j2 hI
        subst hI
        have hss : RS (m_state s) M n Q := RS.congr hs j2
        obtain ⟨z, s1, z05, zb, ez, k1, k2, k3, k4⟩ := t_isStepped hss hok hk hc
        have bb := gm_bs_bd hok (4 * k + c)
        have ek : (((4 * k + c) / 4 : Nat) : Int) = (k : Int) := by omega
        have em : (((4 * k + c) % 4 : Nat) : Int) = (c : Int) := by omega
        have fin : G_X9_bestMove_L24 k12 (u + 1) s (iZ (c : Int)) (iZ (k : Int)) (iZ (gm_ba M n Q (4 * k + c))) (iZ (gm_bs M n Q (4 * k + c)).1) = (G_X9_isStepped s (iZ (k : Int)) (iZ (c : Int))).bind fun v34 =>
            if v34.1 = 0 then G_X9_bestMove_j105 (G_X9_bestMove_L24 k12 u) v34.2 (iZ (c : Int)) (iZ (k : Int)) (iZ (gm_ba M n Q (4 * k + c))) (iZ (gm_bs M n Q (4 * k + c)).1)
            else ((if iZ (gm_bs M n Q (4 * k + c)).1 = (-9) then some 1 else (G_X9_area v34.2).bind fun v47 => if v47 ≤ iZ (gm_ba M n Q (4 * k + c)) then some 0 else some 1) : Option Int32).bind fun b43 =>
              ((if b43 = 0 then some (iZ (gm_bs M n Q (4 * k + c)).1) else some ((10 * iZ (k : Int)) + iZ (c : Int))) : Option Int32).bind fun b63 =>
              ((if b43 = 0 then some (iZ (gm_ba M n Q (4 * k + c))) else (G_X9_area v34.2).bind fun v84 => some v84) : Option Int32).bind fun b80 =>
              (G_X9_copy 85 85 (m_kept v34.2) (m_state v34.2) 0 0).bind fun v102 => G_X9_bestMove_j105 (G_X9_bestMove_L24 k12 u) (ms_state v34.2 v102) (iZ (c : Int)) (iZ (k : Int)) b80 b63 := by
          rw [G_X9_bestMove_L24, e4, ite_le (by omega), if_neg (by omega)]
        by_cases z0 : z = 0
        · -- the step can be made
          rw [z0] at zb
          have hok2 := gm_brk_ok hok.1 hok.2.1 zb
          have ab := gm_area_bd hok2
          have ea := t_area (k3 z0) hok2
          obtain ⟨w, ew, h1, -⟩ := t_copy (n0 := 85) (n1 := 85) (w0 := m_kept s1) (w1 := m_state s1) (p := 0) (z := 0) (by omega) (by omega) (by omega) (by omega)
          have ew : G_X9_copy 85 85 (m_kept s1) (m_state s1) 0 0 = some w := ew
          generalize hy : ms_state s1 w = y
          have f := mg_state s1 w
          rw [hy] at f
          obtain ⟨f01, f02, f03, f04, f05, f06, f07, f08, f09, f10, f11, f12, f13, f14, f15, f16, f17, f18⟩ := f
          refine ⟨(y, 4 * k + (c + 1)), ⟨⟨SK.trans j1 (SK.trans k1 ⟨f01, f04, f05, f06, f07, f08, f09, f10, f18⟩), fun i hi => ?_⟩, rfl⟩, ?_⟩
          · dsimp only
            rw [f02, ← j2 i hi, ← k2 i hi]
            have := h1 i hi
            rw [Nat.zero_add] at this
            exact this
          · dsimp only
            rw [show 4 * k + (c + 1) = (4 * k + c) + 1 by omega]
            rw [fin, ez, Option.bind_some, if_pos z0]
            dsimp only
            rw [if_neg (show ¬ iZ 1 = 0 by decide), ea, Option.bind_some, Option.bind_some, ew]
            simp only [Option.bind_some]
            rw [hy]
            unfold G_X9_bestMove_j105
            by_cases cc : gm_area M n (gm_st Q (4 * k + c)) ≤ (gm_bs M n Q (4 * k + c)).2
            · have c3 : ¬ (gm_brk M n (gm_st Q (4 * k + c)) 0 ∧ (gm_bs M n Q (4 * k + c)).2 < gm_area M n (gm_st Q (4 * k + c))) := fun w => by have := w.2; omega
              have eb : gm_bs M n Q (4 * k + c + 1) = gm_bs M n Q (4 * k + c) := if_neg c3
              have ee : gm_ba M n Q (4 * k + c + 1) = gm_ba M n Q (4 * k + c) := by unfold gm_ba; rw [eb]
              have ev : gm_ba M n Q (4 * k + c) = (gm_bs M n Q (4 * k + c)).2 := if_neg (by omega)
              rw [eb, ee, ev, e9, ite_eq (by omega), if_neg (by omega), ite_le (by omega), if_pos cc, Option.bind_some, if_pos rfl, Option.bind_some, if_pos rfl, Option.bind_some, iZ_1, iZ_add]
            · have c3 : gm_brk M n (gm_st Q (4 * k + c)) 0 ∧ (gm_bs M n Q (4 * k + c)).2 < gm_area M n (gm_st Q (4 * k + c)) := ⟨zb, by omega⟩
              have eb : gm_bs M n Q (4 * k + c + 1) = (10 * (((4 * k + c) / 4 : Nat) : Int) + (((4 * k + c) % 4 : Nat) : Int), gm_area M n (gm_st Q (4 * k + c))) := if_pos c3
              rw [ek, em] at eb
              have ee : gm_ba M n Q (4 * k + c + 1) = gm_area M n (gm_st Q (4 * k + c)) := by
                unfold gm_ba
                rw [eb]
                dsimp only
                rw [if_neg (by omega)]
              have d1 : ¬ (1 : Int32) = 0 := by decide
              have hb : ((if iZ (gm_bs M n Q (4 * k + c)).1 = (-9) then some 1 else if iZ (gm_area M n (gm_st Q (4 * k + c))) ≤ iZ (gm_ba M n Q (4 * k + c)) then some 0 else some 1) : Option Int32) = some 1 := by
                rw [e9, ite_eq (by omega)]
                by_cases c9 : (gm_bs M n Q (4 * k + c)).1 = -9
                · rw [if_pos c9]
                · have ev : gm_ba M n Q (4 * k + c) = (gm_bs M n Q (4 * k + c)).2 := if_neg c9
                  rw [if_neg c9, ev, ite_le (by omega), if_neg (by omega)]
              rw [hb, Option.bind_some, if_neg d1, Option.bind_some, if_neg d1, Option.bind_some, eb, ee, iZ_1, iZ_add, iZ_10, iZ_mul, iZ_add]
        · have c3 : ¬ (gm_brk M n (gm_st Q (4 * k + c)) 0 ∧ (gm_bs M n Q (4 * k + c)).2 < gm_area M n (gm_st Q (4 * k + c))) := fun w => z0 (gm_brk_un zb w.1)
          have eb : gm_bs M n Q (4 * k + c + 1) = gm_bs M n Q (4 * k + c) := if_neg c3
          have ee : gm_ba M n Q (4 * k + c + 1) = gm_ba M n Q (4 * k + c) := by unfold gm_ba; rw [eb]
          refine ⟨(s1, 4 * k + (c + 1)), ⟨⟨SK.trans j1 k1, fun i hi => (k4 z0 i hi).trans (j2 i hi)⟩, rfl⟩, ?_⟩
          dsimp only
          rw [show 4 * k + (c + 1) = (4 * k + c) + 1 by omega]
          rw [fin, ez, Option.bind_some, if_neg z0]
          dsimp only
          unfold G_X9_bestMove_j105
          rw [if_pos (show iZ 0 = 0 from rfl), eb, ee, iZ_1, iZ_add])
      (fun u S hI => by rw [G_X9_bestMove_L24, e4, ite_le (by omega), if_pos (by omega), iZ_1, iZ_add])
      4 0 FU (s, 4 * k) (by omega) (by unfold FU; omega) ⟨hI0, rfl⟩
    dsimp only at i0 i1 e
    rw [i1] at e
    exact ⟨s', i0, e⟩
  obtain ⟨⟨s', t⟩, ⟨i0, i1⟩, e⟩ := lp_inv (L := fun u (S : Mod × Nat) c => G_X9_bestMove_L12 u S.1 c (iZ (gm_ba M n Q (4 * S.2))) (iZ (gm_bs M n Q (4 * S.2)).1)) (N := M 0) (I := fun c S => (SK x S.1 ∧ ∀ i, i < 85 → m_state S.1 i = m_state m i) ∧ S.2 = c) (K := fun S => some (iZ (gm_bs M n Q (4 * S.2)).1, S.1))
    (fun u c S hc hI => by
      obtain ⟨s, t⟩ := S
      obtain ⟨j, hI⟩ := hI
      dsimp only at j hI
      subst hI
      have hss : RS (m_state s) M n Q := RS.congr hs j.2
      have s0 : G_X9_many s 0 = some (iZ (M 0 : Nat)) := t_many hss (r := 0) (by omega)
      obtain ⟨s', j', e⟩ := inner (G_X9_bestMove_L12 u) t s hc j
      refine ⟨(s', t + 1), ⟨j', rfl⟩, ?_⟩
      dsimp only
      rw [G_X9_bestMove_L12, s0, Option.bind_some, ite_le (by omega), if_neg (by omega)]
      exact e)
    (fun u S hI => by
      have hss : RS (m_state S.1) M n Q := RS.congr hs hI.1.2
      have s0 : G_X9_many S.1 0 = some (iZ (M 0 : Nat)) := t_many hss (r := 0) (by omega)
      rw [G_X9_bestMove_L12, s0, Option.bind_some, ite_le (by omega), if_pos (by omega)])
    (M 0) 0 FU (x, 0) (by omega) (by unfold FU; omega) ⟨⟨SK.rfl' x, fun i _ => by rw [g2]⟩, rfl⟩
  dsimp only at i0 i1 e
  rw [i1] at e
  exact ⟨s', e, i0.1, i0.2⟩
end BEST
