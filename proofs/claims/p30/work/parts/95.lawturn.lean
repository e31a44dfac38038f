/-! the law's turns: twelve of them, each as it should -/
theorem iZ_6' : (6 : Int32) = iZ 6 := rfl
section TURN
variable {M : Nat → Nat} {n : Nat} {Q : Nat → Pt} {F D : Fig} {P : PastS} {R : RT} {L : Nat} {xs : AR} {w5 w6 w7 w8 : AR}
theorem L_hole_turn (ic : IC F P M n Q) (h : RQ w5 w6 w7 M n Q) {g u v : AR} (hc : RQ g u v M n Q) {px py : Nat} (hx : px < 17) (hy : py < 17) (w : Int32) (i : Nat) :
    NXT R i ((rd 5 w5 0).bind fun v651 =>
            if 4 ≤ v651 then
              G_L_law_j805 R L xs F D P w5 w6 w7 g u v w (iZ (i : Int))
            else
              (rd 5 g 0).bind fun v662 =>
              (wr 5 g 0 (v662 + 1)).bind fun g666 =>
              (rd 5 g666 0).bind fun v675 =>
              (wr 5 g666 v675 3).bind fun g677 =>
              (wr 40 u (10 * v662) (iZ (px : Int))).bind fun g684 =>
              (wr 40 v (10 * v662) (iZ (py : Int))).bind fun g691 =>
              (wr 40 g684 ((10 * v662) + 1) (iZ (px : Int) + 1)).bind fun g702 =>
              (wr 40 g691 ((10 * v662) + 1) (iZ (py : Int))).bind fun g711 =>
              (wr 40 g702 ((10 * v662) + 2) (iZ (px : Int))).bind fun g720 =>
              (wr 40 g711 ((10 * v662) + 2) (iZ (py : Int) + 1)).bind fun g731 =>
              (G_L_broken 5 40 40 g677 g720 g731).bind fun v738 =>
              (G_L_addHole F D P (iZ (px : Int)) (iZ (py : Int))).bind fun v748 =>
              ((if 14 < iZ (px : Int) then
                  some (-1)
                else
                  if iZ (py : Int) ≤ 14 then
                    if v738 ≤ 0 then
                      (rd 5 w5 0).bind fun v781 =>
                      some v781
                    else
                      some (-2)
                  else
                    some (-1)) : Option (Int32)).bind fun b755 =>
              if v748.1 = b755 then
                if v738 = 0 then
                  (G_L_copy 5 40 40 5 40 40 g677 g720 g731 w5 w6 w7).bind fun v802 =>
                  G_L_law_j805 R L xs v748.2.1 v748.2.2.1 v748.2.2.2 v802.1 v802.2.1 v802.2.2 g677 g720 g731 w (iZ (i : Int))
                else
                  G_L_law_j805 R L xs v748.2.1 v748.2.2.1 v748.2.2.2 w5 w6 w7 g677 g720 g731 w (iZ (i : Int))
              else
                some 0) := by
  have h4 := h.2.1
  have hok := ic.1
  rw [rd_0 (by omega) (by omega), h.1, Option.bind_some, iZ_4, ite_le (by omega)]
  by_cases c4 : n < 4
  · rw [if_neg (show ¬ (4 : Int) ≤ (n : Int) by omega)]
    have e0 : rd 5 g 0 = some (iZ (n : Int)) := by rw [rd_0 (by omega) (by omega), hc.1]
    have e1 : iZ (n : Int) + 1 = iZ ((n : Int) + 1) := by rw [iZ_1, iZ_add]
    have e2 : 10 * iZ (n : Int) = iZ ((10 * n : Nat) : Int) := by rw [iZ_10, iZ_mul]; exact congrArg iZ (by omega)
    have e3 : iZ ((10 * n : Nat) : Int) + 1 = iZ ((10 * n + 1 : Nat) : Int) := by rw [iZ_1, iZ_add]; exact congrArg iZ (by omega)
    have e4 : iZ ((10 * n : Nat) : Int) + 2 = iZ ((10 * n + 2 : Nat) : Int) := by rw [iZ_2, iZ_add]; exact congrArg iZ (by omega)
    have e5 : wr 5 g 0 (iZ ((n : Int) + 1)) = some (upd g 0 (iZ ((n : Int) + 1))) := by rw [iZ_0]; exact wr_iZ (k := 0) (by omega) (by omega)
    have e6 : rd 5 (upd g 0 (iZ ((n : Int) + 1))) 0 = some (iZ ((n + 1 : Nat) : Int)) := by rw [rd_0 (by omega) (by omega), upd_same]; exact congrArg some (congrArg iZ (by omega))
    have e7 : iZ (px : Int) + 1 = iZ ((px : Int) + 1) := by rw [iZ_1, iZ_add]
    have e8 : iZ (py : Int) + 1 = iZ ((py : Int) + 1) := by rw [iZ_1, iZ_add]
    have q' := hc.hole c4 (px : Int) (py : Int)
    obtain ⟨z, z0, z5, br, eb⟩ := L_broken q' (fit_h hok (by omega))
    rw [e0, Option.bind_some, e1, e5, Option.bind_some, e6, Option.bind_some, show (3 : Int32) = iZ 3 from rfl, wr_iZ (by omega) (by omega), Option.bind_some, e2, wr_iZ (by omega) (by omega), Option.bind_some, wr_iZ (by omega) (by omega), Option.bind_some, e3, e7, wr_iZ (by omega) (by omega), Option.bind_some, wr_iZ (by omega) (by omega), Option.bind_some, e4, wr_iZ (by omega) (by omega), Option.bind_some, e8, wr_iZ (by omega) (by omega), Option.bind_some, eb, Option.bind_some,
      show (14 : Int32) = iZ 14 from rfl, ite_lt (by omega), ite_le (a := (py : Int)) (by omega), iZ_0, ite_le (a := z) (by omega)]
    rcases p_addHole ic D c4 (px : Int) (py : Int) (by omega) (by omega) with ⟨far, e⟩ | ⟨near, z2, br2, em⟩
    · have nz : z ≠ 0 := by
        intro e
        subst e
        have ok' := gm_brk_ok (by omega) (gm_hM_ok hok) br
        have r1 := ok'.2.2.1
        have lim := (gm_hM_fst (M := M) (n := n)).2
        have p1 := r1 (gm_fst M n + 1) (by omega)
        have p2 := r1 (gm_fst M n + 2) (by omega)
        unfold gm_hQ at p1 p2
        rw [if_neg (by omega), if_neg (by omega), if_pos rfl] at p1
        rw [if_neg (by omega), if_neg (by omega), if_neg (by omega)] at p2
        unfold gm_paper at p1 p2
        dsimp only at p1 p2
        omega
      have b : ((if (14 : Int) < (px : Int) then some (-1) else if (py : Int) ≤ 14 then (if z ≤ 0 then (some (iZ (n : Int))).bind fun v781 => some v781 else some (-2)) else some (-1)) : Option Int32) = some (-1) := by
        by_cases c : (14 : Int) < (px : Int)
        · rw [if_pos c]
        · rw [if_neg c, if_neg (by omega)]
      rw [b, e, Option.bind_some, Option.bind_some]
      dsimp only
      rw [if_pos rfl, if_neg (show ¬ iZ z = iZ 0 by rw [iZ_eq (by omega) (by omega) (by omega) (by omega)]; exact nz)]
      exact L_j805 ic h _ _ w i
    · obtain rfl := gm_brk_un br2 br
      rw [if_neg (show ¬ (14 : Int) < (px : Int) by omega), if_pos (show (py : Int) ≤ 14 by omega)]
      rcases em with ⟨rfl, F2, D3, P2, e, ic2⟩ | ⟨hz, D3, e⟩
      · obtain ⟨g2, u2, v2, ec, c1, c2⟩ := L_copyT (upd (upd g 0 (iZ ((n : Int) + 1))) (n + 1) (iZ 3)) (upd (upd (upd u (10 * n) (iZ (px : Int))) (10 * n + 1) (iZ ((px : Int) + 1))) (10 * n + 2) (iZ (px : Int))) (upd (upd (upd v (10 * n) (iZ (py : Int))) (10 * n + 1) (iZ (py : Int))) (10 * n + 2) (iZ ((py : Int) + 1))) w5 w6 w7
        rw [if_pos (show (0 : Int) ≤ 0 by omega), Option.bind_some, e, Option.bind_some, Option.bind_some]
        dsimp only
        rw [if_pos rfl, if_pos (show iZ 0 = iZ 0 from rfl)]
        rw [ec, Option.bind_some]
        exact L_j805 ic2 (q'.copy c1 c2) _ _ w i
      · rw [if_neg (show ¬ z2 ≤ 0 by omega), e, Option.bind_some, Option.bind_some]
        dsimp only
        rw [if_pos rfl, if_neg (show ¬ iZ z2 = iZ 0 by rw [iZ_eq (by omega) (by omega) (by omega) (by omega)]; exact hz)]
        exact L_j805 ic h _ _ w i
  · rw [if_pos (show (4 : Int) ≤ (n : Int) by omega)]
    exact L_j805 ic h _ _ w i
theorem law_G (hL : L ≤ 260) : ∀ (d fu i : Nat), i + d = 12 → d < fu → ∀ (F D : Fig) (P : PastS) (w5 w6 w7 w8 w9 w10 : AR) (M : Nat → Nat) (n : Nat) (Q : Nat → Pt), IC F P M n Q → RQ w5 w6 w7 M n Q → G_L_law_L69 L xs fu F D P w5 w6 w7 w8 w9 w10 (iZ (i : Int)) = some 1 := by
  intro d
  induction d with
  | zero =>
    intro fu i hi hf F D P w5 w6 w7 w8 w9 w10 M n Q ic h
    obtain ⟨m, rfl⟩ : ∃ m, fu = m + 1 := ⟨fu - 1, by omega⟩
    rw [G_L_law_L69, show (12 : Int32) = iZ 12 from rfl, ite_le (by omega), if_pos (by omega)]
  | succ d ih =>
    intro fu i hi hf F D P w5 w6 w7 w8 w9 w10 M n Q ic h
    obtain ⟨m, rfl⟩ : ∃ m, fu = m + 1 := ⟨fu - 1, by omega⟩
    have fin : ∀ o : Option Int32, NXT (G_L_law_L69 L xs m) i o → o = some 1 := by
      intro o ⟨F, D, P, w5, w6, w7, w8, w9, w10, M, n, Q, ic, h, e⟩
      rw [e, show (i : Int) + 1 = ((i + 1 : Nat) : Int) by omega]
      exact ih m (i + 1) (by omega) (by omega) F D P w5 w6 w7 w8 w9 w10 M n Q ic h
    have h4 := h.2.1
    obtain ⟨w, ew⟩ := L_cellT xs hL (i := i) (by omega)
    obtain ⟨kd, hkd, e1⟩ := L_low w (m := 8) (by omega)
    obtain ⟨r, hr, e2⟩ := L_low (w >>> ((3 : Int32) &&& 31)) (m := n) (by omega)
    have m10 := h.h10 r hr
    have m3 := (h.2.2.1 r hr).1
    obtain ⟨k, hk, e3⟩ := L_low (w >>> ((5 : Int32) &&& 31)) (m := M r) (by omega)
    obtain ⟨px, hx, e4⟩ := L_low (w >>> ((9 : Int32) &&& 31)) (m := 17) (by omega)
    obtain ⟨py, hy, e5⟩ := L_low (w >>> ((14 : Int32) &&& 31)) (m := 17) (by omega)
    obtain ⟨g, u, v, ec, c1, c2⟩ := L_copyT w5 w6 w7 w8 w9 w10
    have hc := h.copy c1 c2
    have e1 : G_L_low w 8 = some (iZ (kd : Int)) := e1
    have e4 : G_L_low (w >>> ((9 : Int32) &&& 31)) 17 = some (iZ (px : Int)) := e4
    have e5 : G_L_low (w >>> ((14 : Int32) &&& 31)) 17 = some (iZ (py : Int)) := e5
    have e6 : 10 * iZ (r : Int) + iZ (k : Int) = iZ ((10 * r + k : Nat) : Int) := by rw [iZ_10, iZ_mul, iZ_add]; exact congrArg iZ (by omega)
    refine fin _ ?_
    rw [G_L_law_L69, show (12 : Int32) = iZ 12 from rfl, ite_le (by omega), if_neg (show ¬ (12 : Int) ≤ (i : Int) by omega), ew, Option.bind_some, e1, Option.bind_some]
    have ern : rd 5 w5 0 = some (iZ (n : Int)) := by rw [rd_0 (by omega) (by omega), h.1]
    by_cases k4 : kd < 4
    · rw [ern, Option.bind_some, e2, Option.bind_some, L_m h hr, Option.bind_some, e3, Option.bind_some, e4, Option.bind_some, e5, Option.bind_some, ec, Option.bind_some, e6, iZ_4, iZ_6', ite_le (by omega), if_neg (show ¬ (4 : Int) ≤ (kd : Int) by omega)]
      exact L_move_turn ic h hc hr hk hx hy w i
    · by_cases k6 : kd < 6
      · rw [ern, Option.bind_some, e2, Option.bind_some, L_m h hr, Option.bind_some, e3, Option.bind_some, e4, Option.bind_some, e5, Option.bind_some, ec, Option.bind_some, e6, iZ_4, iZ_6', ite_le (by omega), if_pos (show (4 : Int) ≤ (kd : Int) by omega), ite_le (by omega), if_neg (show ¬ (6 : Int) ≤ (kd : Int) by omega)]
        have t := L_ins_turn (R := G_L_law_L69 L xs m) (L := L) (xs := xs) (D := D) ic h hc hr hk hx hy w i
        rw [L_m h hr] at t
        exact t
      · by_cases k7 : kd = 6
        · rw [ern, Option.bind_some, e2, Option.bind_some, L_m h hr, Option.bind_some, e3, Option.bind_some, e4, Option.bind_some, e5, Option.bind_some, ec, Option.bind_some, e6, iZ_4, iZ_6', ite_le (by omega), if_pos (show (4 : Int) ≤ (kd : Int) by omega), ite_le (by omega), if_pos (show (6 : Int) ≤ (kd : Int) by omega), ite_eq (by omega), if_pos (show (kd : Int) = 6 by omega)]
          have t := L_rem_turn (R := G_L_law_L69 L xs m) (L := L) (xs := xs) (D := D) ic h hc hr hk w i
          rw [L_m h hr] at t
          exact t
        · rw [ern, Option.bind_some, e2, Option.bind_some, L_m h hr, Option.bind_some, e3, Option.bind_some, e4, Option.bind_some, e5, Option.bind_some, ec, Option.bind_some, e6, iZ_4, iZ_6', ite_le (by omega), if_pos (show (4 : Int) ≤ (kd : Int) by omega), ite_le (by omega), if_pos (show (6 : Int) ≤ (kd : Int) by omega), ite_eq (by omega), if_neg (show ¬ (kd : Int) = 6 by omega), ← iZ_4]
          have t := L_hole_turn (R := G_L_law_L69 L xs m) (L := L) (xs := xs) (D := D) ic h hc hx hy w i
          rw [ern] at t
          exact t
end TURN
