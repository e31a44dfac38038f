/-! the operations: sees, inRow -/
section OPS
variable {F : Fig} {P : PastS} {m : Mod} {M : Nat → Nat} {n : Nat} {Q : Nat → Pt}
theorem s_inRowL (h : RF F M n Q) (hok : gm_ok M n Q) (hw : ∀ p, gm_paper p → G_X1_placeOf F (iZ p.1) (iZ p.2) = some (iZ (gm_whz M n Q p)) ∧ 0 ≤ gm_whz M n Q p ∧ gm_whz M n Q p ≤ 3) (y fl : Int) (hy : 0 ≤ y ∧ y ≤ 15) (hf : -2147483648 ≤ fl ∧ fl < 2147483648) : G_X8_inRow_L26 F FU 0 0 (iZ y) (iZ fl) = some (.inr (iZ (gm_ro M n Q y fl))) := by
  have lp := lp_sum (L := fun k c a => G_X8_inRow_L26 F k c a (iZ y) (iZ fl)) (N := 16) (g := fun x => if gm_whz M n Q ((x : Int), y) = 2 ∨ (fl ≠ 0 ∧ gm_whz M n Q ((x : Int), y) = 1) then 1 else 0) (K := fun a => some (Sum.inr (iZ a)))
    (fun k c a hc => by
      obtain ⟨h2, b1, b2⟩ := hw ((c : Int), y) (by unfold gm_paper; dsimp only; omega)
      dsimp only at h2
      rw [G_X8_inRow_L26, iZ_15, ite_lt (by omega), if_neg (by omega), h2, Option.bind_some, iZ_2, iZ_0, iZ_1, ite_eq (by omega), ite_eq (by omega), ite_eq (by omega)]
      unfold G_X8_inRow_j61 G_X8_inRow_j64
      generalize gm_whz M n Q ((c : Int), y) = z at *
      rw [iZ_1, iZ_add, iZ_add]
      by_cases c2 : z = 2
      · rw [if_pos c2, if_pos (Or.inl c2)]
      · rw [if_neg c2]
        by_cases cf : fl = 0
        · rw [if_pos cf, if_neg (by omega), Int.add_zero]
        · rw [if_neg cf]
          by_cases c1 : z = 1
          · rw [if_pos c1, if_pos (Or.inr ⟨cf, c1⟩)]
          · rw [if_neg c1, if_neg (by omega), Int.add_zero])
    (fun k a => by rw [G_X8_inRow_L26, iZ_15, ite_lt (by omega), if_pos (by omega)])
    16 0 FU 0 (by omega) (by unfold FU; omega)
  refine Eq.trans lp (congrArg (fun z => some (Sum.inr (iZ z))) ?_)
  rw [Int.zero_add]
  exact gm_sum_congr (fun k hk => by rw [Nat.zero_add])
theorem o_inRow (iv : IV F P m) (x y : Int32) : ∃ a v m', G_X8_inRow F x y = some a ∧ G_X9_inRow m x y = some (v, m') ∧ IV F P m' ∧ SZ m m' ∧ ((a = .inr v ∧ m_thrown m' = 0) ∨ (a = .inl 2 ∧ v = 0 ∧ m_thrown m' = 1)) := by
  obtain ⟨a, a1, a2, rfl⟩ := iZ_all x
  obtain ⟨b, b1, b2, rfl⟩ := iZ_all y
  have t0 := iv.thr 0
  have t1 := iv.thr 1
  obtain ⟨M, n, Q, c, H, hok, h, hs, hp, hh, hH⟩ := iv
  have d1 : ¬ (1 : Int32) = iZ 0 := by decide
  have d2 : ¬ (1 : Int32) ≤ iZ 0 := by decide
  have d3 : iZ 0 ≤ iZ 0 := by decide
  unfold G_X8_inRow G_X9_inRow
  rw [iZ_0, iZ_15, s_inRange a 0 15 a1 a2 (by omega) (by omega) (by omega) (by omega), s_within a 0 15 a1 a2 (by omega) (by omega) (by omega) (by omega)]
  simp only [Option.bind_some]
  by_cases ca : 0 ≤ a ∧ a ≤ 15
  · have hs0 : RS (m_state (ms_thrown m 0)) M n Q := by rw [(mg_thrown m 0).2.1]; exact hs
    have e1 := s_inRowL h hok (fun p hp => ⟨(gm_wh_z h hs hok hp).1, gm_wh_03 (t_where hs hok hp).1⟩) a b ca ⟨b1, b2⟩
    have e1 : G_X8_inRow_L26 F FU (iZ 0) (iZ 0) (iZ a) (iZ b) = some (.inr (iZ (gm_ro M n Q a b))) := e1
    have e2 := t_pointsIn hs0 hok a b ca ⟨b1, b2⟩
    have e2 : G_X9_pointsIn (ms_thrown m (iZ 0)) (iZ a) (iZ b) = some (iZ (gm_ro M n Q a b)) := e2
    have t03 : m_thrown (ms_thrown m (iZ 0)) = iZ 0 := t0.2.2
    rw [if_pos ca, if_neg (show ¬ iZ 1 = iZ 0 by decide), if_neg (show ¬ iZ 1 = iZ 0 by decide), e1, Option.bind_some, t03, if_pos d3, e2, Option.bind_some]
    exact ⟨_, _, _, rfl, rfl, t0.1, t0.2.1, Or.inl ⟨rfl, t0.2.2⟩⟩
  · rw [if_neg ca, if_pos rfl, if_pos rfl, Option.bind_some, t1.2.2, if_neg d2]
    exact ⟨_, _, _, rfl, rfl, t1.1, t1.2.1, Or.inr ⟨rfl, rfl, t1.2.2⟩⟩
end OPS
