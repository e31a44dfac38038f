/-! the best step: both classes -/
def gm_st (Q : Nat → Pt) (t : Nat) : Nat → Pt := upQ Q (t / 4) ((Q (t / 4)).1 + gm_dx ((t % 4 : Nat) : Int), (Q (t / 4)).2 + gm_dy ((t % 4 : Nat) : Int))
noncomputable def gm_bs (M : Nat → Nat) (n : Nat) (Q : Nat → Pt) : Nat → Int × Int
  | 0 => (-9, -9)
  | t + 1 => @ite (Int × Int) (gm_brk M n (gm_st Q t) 0 ∧ (gm_bs M n Q t).2 < gm_area M n (gm_st Q t)) (Classical.propDecidable _) (10 * ((t / 4 : Nat) : Int) + ((t % 4 : Nat) : Int), gm_area M n (gm_st Q t)) (gm_bs M n Q t)
section BEST
variable {M : Nat → Nat} {n : Nat} {Q : Nat → Pt}
theorem gm_bs_bd (hok : gm_ok M n Q) : ∀ t, (-9 ≤ (gm_bs M n Q t).2 ∧ (gm_bs M n Q t).2 ≤ 2250) ∧ (-9 ≤ (gm_bs M n Q t).1 ∧ (gm_bs M n Q t).1 ≤ 10 * (t : Int) + 3) ∧ (((gm_bs M n Q t).1 = -9 ∧ (gm_bs M n Q t).2 = -9) ∨ (0 ≤ (gm_bs M n Q t).1 ∧ 1 ≤ (gm_bs M n Q t).2)) := by
  intro t
  induction t with
  | zero =>
    show (-9 ≤ (-9 : Int) ∧ (-9 : Int) ≤ 2250) ∧ (-9 ≤ (-9 : Int) ∧ (-9 : Int) ≤ 10 * ((0 : Nat) : Int) + 3) ∧ (((-9 : Int) = -9 ∧ (-9 : Int) = -9) ∨ (0 ≤ (-9 : Int) ∧ 1 ≤ (-9 : Int)))
    omega
  | succ t ih =>
    unfold gm_bs
    by_cases c : gm_brk M n (gm_st Q t) 0 ∧ (gm_bs M n Q t).2 < gm_area M n (gm_st Q t)
    · rw [if_pos c]
      have a := gm_area_bd (gm_brk_ok hok.1 hok.2.1 c.1)
      dsimp only
      omega
    · rw [if_neg c]
      omega
section CLASS
variable {F : Fig}
theorem s_bestMove (h : RF F M n Q) (hok : gm_ok M n Q) (D : Fig) : ∃ D', G_X8_bestMove F D = some (iZ (gm_bs M n Q (4 * M 0)).1, D') := by
  have hn := hok.1
  have hM := hok.2.1 0 (by omega)
  have s0 : G_X1_sizeOf F 0 = some (iZ (M 0 : Nat)) := s_sizeOf h (r := 0) (by omega)
  have e4 : (4 : Int32) = iZ 4 := rfl
  have e9 : (-9 : Int32) = iZ (-9) := rfl
  have inner : ∀ (k8 : Fig → Int32 → Int32 → Int32 → Option (Int32 × Fig)) (k : Nat) (D : Fig), k < M 0 →
      ∃ D', G_X8_bestMove_L23 k8 F FU D 0 (iZ (k : Int)) (iZ (gm_bs M n Q (4 * k)).2) (iZ (gm_bs M n Q (4 * k)).1) = k8 D' (iZ ((k : Int) + 1)) (iZ (gm_bs M n Q (4 * (k + 1))).2) (iZ (gm_bs M n Q (4 * (k + 1))).1) := by
    intro k8 k D hk
    obtain ⟨⟨D', t⟩, i1, e⟩ := lp_inv (L := fun u (S : Fig × Nat) c => G_X8_bestMove_L23 k8 F u S.1 c (iZ (k : Int)) (iZ (gm_bs M n Q S.2).2) (iZ (gm_bs M n Q S.2).1)) (N := 4) (I := fun c S => S.2 = 4 * k + c) (K := fun S => k8 S.1 (iZ ((k : Int) + 1)) (iZ (gm_bs M n Q S.2).2) (iZ (gm_bs M n Q S.2).1))
      (fun u c S hc hI => by
        obtain ⟨D, t⟩ := S
        dsimp only at hI
        subst hI
        obtain ⟨f1, c1, r1⟩ := s_copyFrom (f := D) h
        obtain ⟨f2, z, z0, z5, zb, hz⟩ := s_nudged r1 hok hk (c : Int) (by omega)
        have est : upQ Q k ((Q k).1 + gm_dx (c : Int), (Q k).2 + gm_dy (c : Int)) = gm_st Q (4 * k + c) := by
          unfold gm_st
          rw [show (4 * k + c) / 4 = k by omega, show (4 * k + c) % 4 = c by omega]
        rw [est] at zb hz
        have bb := gm_bs_bd hok (4 * k + c)
        have ek : (((4 * k + c) / 4 : Nat) : Int) = (k : Int) := by omega
        have em : (((4 * k + c) % 4 : Nat) : Int) = (c : Int) := by omega
        refine ⟨(f2, 4 * k + (c + 1)), rfl, ?_⟩
        dsimp only
        rw [show 4 * k + (c + 1) = (4 * k + c) + 1 by omega]
        have tail : ∀ v : Int, -9 ≤ v ∧ v ≤ 2250 → (if iZ v ≤ iZ (gm_bs M n Q (4 * k + c)).2 then G_X8_bestMove_j84 (G_X8_bestMove_L23 k8 F u) F f2 (iZ (c : Int)) (iZ (k : Int)) (iZ (gm_bs M n Q (4 * k + c)).2) (iZ (gm_bs M n Q (4 * k + c)).1) else G_X8_bestMove_j84 (G_X8_bestMove_L23 k8 F u) F f2 (iZ (c : Int)) (iZ (k : Int)) (iZ v) ((10 * iZ (k : Int)) + iZ (c : Int))) =
            if v ≤ (gm_bs M n Q (4 * k + c)).2 then G_X8_bestMove_L23 k8 F u f2 (iZ ((c : Int) + 1)) (iZ (k : Int)) (iZ (gm_bs M n Q (4 * k + c)).2) (iZ (gm_bs M n Q (4 * k + c)).1) else G_X8_bestMove_L23 k8 F u f2 (iZ ((c : Int) + 1)) (iZ (k : Int)) (iZ v) (iZ (10 * (k : Int) + (c : Int))) := by
          intro v hv
          rw [ite_le (by omega)]
          unfold G_X8_bestMove_j84
          rw [iZ_1, iZ_add, iZ_10, iZ_mul, iZ_add]
        rw [G_X8_bestMove_L23, e4, ite_le (by omega), if_neg (by omega), c1, Option.bind_some]
        rcases hz with ⟨z0', r2, e2⟩ | ⟨zne, r2, e2⟩
        · rw [z0'] at zb
          have hok2 := gm_brk_ok hok.1 hok.2.1 zb
          have ab := gm_area_bd hok2
          rw [e2, Option.bind_some]
          dsimp only
          rw [if_neg (show ¬ (1 : Int32) = 0 by decide), s_area r2 hok2, Option.bind_some, Option.bind_some, tail _ (by omega)]
          conv => rhs; unfold gm_bs
          by_cases cc : gm_area M n (gm_st Q (4 * k + c)) ≤ (gm_bs M n Q (4 * k + c)).2
          · have c3 : ¬ (gm_brk M n (gm_st Q (4 * k + c)) 0 ∧ (gm_bs M n Q (4 * k + c)).2 < gm_area M n (gm_st Q (4 * k + c))) := fun w => by have := w.2; omega
            rw [if_pos cc, if_neg c3]
          · have c3 : gm_brk M n (gm_st Q (4 * k + c)) 0 ∧ (gm_bs M n Q (4 * k + c)).2 < gm_area M n (gm_st Q (4 * k + c)) := ⟨zb, by omega⟩
            rw [if_neg cc, if_pos c3, ek, em]
        · rw [e2, Option.bind_some]
          dsimp only
          have c3 : ¬ (gm_brk M n (gm_st Q (4 * k + c)) 0 ∧ (gm_bs M n Q (4 * k + c)).2 < gm_area M n (gm_st Q (4 * k + c))) := fun w => zne (gm_brk_un zb w.1)
          rw [if_pos rfl, Option.bind_some, e9, tail _ (by omega), if_pos (by omega)]
          conv => rhs; unfold gm_bs
          rw [if_neg c3])
      (fun u S hI => by rw [G_X8_bestMove_L23, e4, ite_le (by omega), if_pos (by omega), iZ_1, iZ_add])
      4 0 FU (D, 4 * k) (by omega) (by unfold FU; omega) rfl
    dsimp only at i1 e
    rw [i1] at e
    exact ⟨D', e⟩
  obtain ⟨⟨D', t⟩, i1, e⟩ := lp_inv (L := fun u (S : Fig × Nat) c => G_X8_bestMove_L8 F u S.1 c (iZ (gm_bs M n Q (4 * S.2)).2) (iZ (gm_bs M n Q (4 * S.2)).1)) (N := M 0) (I := fun c S => S.2 = c) (K := fun S => some (iZ (gm_bs M n Q (4 * S.2)).1, S.1))
    (fun u c S hc hI => by
      obtain ⟨D, t⟩ := S
      dsimp only at hI
      subst hI
      obtain ⟨D', e⟩ := inner (G_X8_bestMove_L8 F u) t D hc
      refine ⟨(D', t + 1), rfl, ?_⟩
      dsimp only
      rw [G_X8_bestMove_L8, s0, Option.bind_some, ite_le (by omega), if_neg (by omega)]
      exact e)
    (fun u S hI => by rw [G_X8_bestMove_L8, s0, Option.bind_some, ite_le (by omega), if_pos (by omega)])
    (M 0) 0 FU (D, 0) (by omega) (by unfold FU; omega) rfl
  dsimp only at i1 e
  rw [i1] at e
  exact ⟨D', e⟩
end CLASS
section REF
variable {m : Mod}
theorem t_isStepped (hs : RS (m_state m) M n Q) (hok : gm_ok M n Q) {k d : Nat} (hk : k < M 0) (hd : d < 4) : ∃ z m', (0 ≤ z ∧ z ≤ 5) ∧ gm_brk M n (gm_st Q (4 * k + d)) z ∧ G_X9_isStepped m (iZ (k : Int)) (iZ (d : Int)) = some (iZ (if z = 0 then 1 else 0), m') ∧ SK m m' ∧ (∀ i, i < 85 → m_kept m' i = m_state m i) ∧ (z = 0 → RS (m_state m') M n (gm_st Q (4 * k + d))) ∧ (z ≠ 0 → ∀ i, i < 85 → m_state m' i = m_state m i) := by
  have hn := hok.1
  have hM := hok.2.1 0 (by omega)
  have pk := hok.2.2.1 k (gm_lt0 hn.1 hk)
  unfold gm_paper at pk
  have bdx : -1 ≤ gm_dx (d : Int) ∧ gm_dx (d : Int) ≤ 1 := by unfold gm_dx; (repeat' split) <;> omega
  have bdy : -1 ≤ gm_dy (d : Int) ∧ gm_dy (d : Int) ≤ 1 := by unfold gm_dy; (repeat' split) <;> omega
  have e1 : G_X9_stepX (iZ (d : Int)) = some (iZ (gm_dx (d : Int))) := by
    unfold G_X9_stepX
    rw [iZ_0, iZ_1, iZ_2, ite_eq (by omega), ite_eq (by omega)]
    unfold gm_dx
    (repeat' split) <;> rfl
  have e2 : G_X9_stepY (iZ (d : Int)) = some (iZ (gm_dy (d : Int))) := by
    unfold G_X9_stepY
    rw [iZ_1, iZ_3, iZ_0, ite_eq (by omega), ite_eq (by omega)]
    unfold gm_dy
    (repeat' split) <;> rfl
  have x0 : G_X9_x m 0 (iZ (k : Int)) = some (iZ (Q k).1) := by
    have e : G_X9_x m 0 (iZ (k : Int)) = some (iZ (gm_P M Q 0 k).1) := t_x hs (r := 0) (by omega) hk
    rw [e, gm_P0]
  have y0 : G_X9_y m 0 (iZ (k : Int)) = some (iZ (Q k).2) := by
    have e : G_X9_y m 0 (iZ (k : Int)) = some (iZ (gm_P M Q 0 k).2) := t_y hs (r := 0) (by omega) hk
    rw [e, gm_P0]
  have est : upQ Q k ((Q k).1 + gm_dx (d : Int), (Q k).2 + gm_dy (d : Int)) = gm_st Q (4 * k + d) := by
    unfold gm_st
    rw [show (4 * k + d) / 4 = k by omega, show (4 * k + d) % 4 = d by omega]
  have mv := t_tryMove hs hok 0 (k : Int) ((Q k).1 + gm_dx (d : Int)) ((Q k).2 + gm_dy (d : Int)) (by omega) (by omega) (by omega) (by omega)
  unfold G_X9_isStepped
  rw [x0, Option.bind_some, e1, Option.bind_some, y0, Option.bind_some, e2, Option.bind_some, iZ_add, iZ_add, iZ_0]
  rcases mv with ⟨w, -⟩ | ⟨-, z, m', zb, hb, e, h1, h2, h3, h4⟩
  · refine absurd ⟨Int.le_refl 0, by omega, by omega, ?_⟩ w
    show (k : Int) < M 0
    omega
  · have ek : gm_fst M (0 : Int).toNat + ((k : Nat) : Int).toNat = k := by rw [Int.toNat_natCast]; show 0 + k = k; omega
    rw [ek, est] at hb h3
    refine ⟨z, m', zb, hb, ?_, h1, h2, h3, h4⟩
    rw [e, Option.bind_some]
    dsimp only
    by_cases z0 : z = 0
    · rw [if_pos z0, if_pos rfl, if_pos z0]; rfl
    · rw [if_neg z0, if_neg (show ¬ iZ 2 = iZ 0 by decide), if_neg z0]
end REF
end BEST
