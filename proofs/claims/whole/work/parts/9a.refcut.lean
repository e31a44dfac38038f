/-! the second class: ways to cut -/
def SU (m m' : Mod) : Prop := m_thrown m' = m_thrown m ∧ m_state m' = m_state m ∧ m_kept m' = m_kept m ∧ m_scriptKept m' = m_scriptKept m ∧ m_history m' = m_history m ∧ m_remembered m' = m_remembered m ∧ m_slots m' = m_slots m ∧ m_isSaved m' = m_isSaved m ∧ m_text m' = m_text m ∧ m_textLength m' = m_textLength m
theorem SU.rfl' (m : Mod) : SU m m := ⟨rfl, rfl, rfl, rfl, rfl, rfl, rfl, rfl, rfl, rfl⟩
theorem SU.trans {a b c : Mod} (h : SU a b) (k : SU b c) : SU a c := by
  obtain ⟨h1, h2, h3, h4, h5, h6, h7, h8, h9, h10⟩ := h
  obtain ⟨k1, k2, k3, k4, k5, k6, k7, k8, k9, k10⟩ := k
  exact ⟨k1.trans h1, k2.trans h2, k3.trans h3, k4.trans h4, k5.trans h5, k6.trans h6, k7.trans h7, k8.trans h8, k9.trans h9, k10.trans h10⟩
theorem SM.toSU {a b : Mod} (h : SM a b) (hs : m_state b = m_state a) : SU a b := by
  obtain ⟨h1, h2, h3, h4, h5, h6, h7, h8, h9, h10⟩ := h
  exact ⟨h1, hs, h2, h3, h4, h5, h6, h7, h8, h9⟩
noncomputable def gm_cts (M : Nat → Nat) (n : Nat) (Q : Nat → Pt) : Int32 := if 1 < n then -9 else if 0 < gm_kinds M Q 0 then -9 else gm_cut M n Q (M 0 - 1) 0 (M 0 - 1)
section REF
variable {m : Mod} {M : Nat → Nat} {n : Nat} {Q : Nat → Pt}
theorem t_cut101 {k41 : Mod → Int32 → Int32 → Int32 → Option (Int32 × Mod)} {y : Mod} {s a : Nat} {z : Int} (z01 : z = 0 ∨ z = 1) (h10 : M 0 ≤ 10) (hab : a + (s + 1) < M 0) (hw : gm_WI M n Q s a (m_cuts y)) (hz : s = 0 ∨ (z = 1 ↔ gm_nx (M 0) (a + (s + 1)) = a ∨ gm_si M n Q a (a + (s + 1)) = 1)) :
    G_X9_cuttings_L101 k41 FU y (iZ ((a : Int) + 1)) (iZ (if s = 0 then 1 else 0)) (iZ z) (iZ ((a + (s + 1) : Nat) : Int)) (iZ (a : Int)) (iZ ((s + 1 : Nat) : Int)) (iZ (M 0 : Nat)) =
      G_X9_cuttings_j150 k41 y (gm_cut M n Q (s + 1) a (a + (s + 1))) (iZ ((a + (s + 1) : Nat) : Int)) (iZ (a : Int)) (iZ ((s + 1 : Nat) : Int)) (iZ (M 0 : Nat)) := by
  have val : gm_cut M n Q (s + 1) a (a + (s + 1)) = if s = 0 then 1 else if gm_nx (M 0) (a + (s + 1)) = a ∨ gm_si M n Q a (a + (s + 1)) = 1 then gm_csum (fun t => gm_cut M n Q s a (a + 1 + t) * gm_cut M n Q s (a + 1 + t) (a + (s + 1))) s else 0 := if_pos rfl
  obtain ⟨w, ⟨w1, w2⟩, e⟩ := lp_inv (L := fun u (acc : Int32) c => G_X9_cuttings_L101 k41 u y c acc (iZ 1) (iZ ((a + (s + 1) : Nat) : Int)) (iZ (a : Int)) (iZ ((s + 1 : Nat) : Int)) (iZ (M 0 : Nat))) (N := a + (s + 1))
    (I := fun c acc => (acc = if s = 0 then 1 else gm_csum (fun t => gm_cut M n Q s a (a + 1 + t) * gm_cut M n Q s (a + 1 + t) (a + (s + 1))) (c - (a + 1))) ∧ a + 1 ≤ c) (K := fun acc => G_X9_cuttings_j150 k41 y acc (iZ ((a + (s + 1) : Nat) : Int)) (iZ (a : Int)) (iZ ((s + 1 : Nat) : Int)) (iZ (M 0 : Nat)))
    (fun u c acc hc hI => by
      obtain ⟨i1, i2⟩ := hI
      obtain ⟨t, rfl⟩ : ∃ t, c = a + 1 + t := ⟨c - (a + 1), by omega⟩
      have s0 : ¬ s = 0 := by omega
      rw [if_neg s0, Nat.add_sub_cancel_left] at i1
      have e1 := hw a (a + 1 + t) (by omega) (by omega) (Or.inl (by omega))
      have e2 := hw (a + 1 + t) (a + (s + 1)) (by omega) (by omega) (Or.inl (by omega))
      rw [gm_cut_mono (by omega)] at e1 e2
      refine ⟨gm_csum (fun t => gm_cut M n Q s a (a + 1 + t) * gm_cut M n Q s (a + 1 + t) (a + (s + 1))) (t + 1), ⟨by rw [if_neg s0, show a + 1 + t + 1 - (a + 1) = t + 1 by omega], by omega⟩, ?_⟩
      rw [G_X9_cuttings_L101, ite_le (by omega), if_neg (by omega), if_neg (show ¬ iZ 1 = 0 by decide), iZ_10, iZ_mul, iZ_add, iZ_mul, iZ_add, show (10 : Int) * (a : Int) + ((a + 1 + t : Nat) : Int) = ((10 * a + (a + 1 + t) : Nat) : Int) by omega, rd_iZ (by omega) (by omega), Option.bind_some, e1,
        show (10 : Int) * ((a + 1 + t : Nat) : Int) + ((a + (s + 1) : Nat) : Int) = ((10 * (a + 1 + t) + (a + (s + 1)) : Nat) : Int) by omega, rd_iZ (by omega) (by omega), Option.bind_some, e2, iZ_1, iZ_add, i1]
      rfl)
    (fun u acc hI => by rw [G_X9_cuttings_L101, ite_le (by omega), if_pos (by omega)])
    s (a + 1) FU (iZ (if s = 0 then 1 else 0)) (by omega) (by unfold FU; omega) ⟨by
      by_cases s0 : s = 0
      · rw [if_pos s0, if_pos s0]; rfl
      · rw [if_neg s0, if_neg s0, Nat.sub_self]; rfl, Nat.le_refl _⟩
  rw [show a + (s + 1) - (a + 1) = s by omega] at w1
  rw [show (((a + 1 : Nat)) : Int) = (a : Int) + 1 by omega] at e
  by_cases s0 : s = 0
  · rw [if_pos s0] at w1 val
    rw [if_pos s0] at e ⊢
    rw [val]
    rcases z01 with q0 | q0
    · rw [q0, show FU = (FU - 1) + 1 by unfold FU; rfl, G_X9_cuttings_L101, if_pos (show iZ 0 = 0 from rfl)]
      have e5 : ∀ {c : Prop} {i : Decidable c} (A : Option (Int32 × Mod)), @ite _ c i A A = A := by
        intro c i A
        split <;> rfl
      rw [e5]
      rfl
    · rw [q0, e, w1]
  · rw [if_neg s0] at w1 val
    rw [if_neg s0] at e ⊢
    rw [val]
    rcases hz with hz | hz
    · exact absurd hz s0
    rcases z01 with q0 | q0
    · have cc : ¬ (gm_nx (M 0) (a + (s + 1)) = a ∨ gm_si M n Q a (a + (s + 1)) = 1) := fun w => by have := hz.mpr w; omega
      rw [q0, if_neg cc, show FU = (FU - 1) + 1 by unfold FU; rfl, G_X9_cuttings_L101, if_pos (show iZ 0 = 0 from rfl)]
      have e5 : ∀ {c : Prop} {i : Decidable c} (A : Option (Int32 × Mod)), @ite _ c i A A = A := by
        intro c i A
        split <;> rfl
      rw [e5]
      rfl
    · rw [q0, if_pos (hz.mp q0), e, w1]
theorem t_cuttings (hs : RS (m_state m) M n Q) (hok : gm_ok M n Q) : ∃ m', G_X9_cuttings m = some (gm_cts M n Q, m') ∧ SU (ms_thrown m 0) m' := by
  have hn := hok.1
  have hM := hok.2.1 0 (by omega)
  unfold G_X9_cuttings
  generalize hx : ms_thrown m 0 = x
  have g := mg_thrown m 0
  rw [hx] at g
  obtain ⟨-, g2, -⟩ := g
  have hsx : RS (m_state x) M n Q := by rw [g2]; exact hs
  have kb := gm_kinds_bd M Q 0
  have k0 : G_X9_kindsOf x 0 = some (iZ (gm_kinds M Q 0)) := t_kindsOf hsx hok 0 (by omega)
  have s0 : G_X9_many x 0 = some (iZ (M 0 : Nat)) := t_many hsx (r := 0) (by omega)
  unfold gm_cts
  rw [t_n hsx, Option.bind_some, iZ_1, ite_lt (by omega), k0, Option.bind_some, iZ_0, ite_le (by omega), ← iZ_0, s0, Option.bind_some]
  by_cases c1 : 1 < n
  · rw [if_pos (show (1 : Int) < n by omega), if_pos c1]
    exact ⟨x, rfl, SU.rfl' x⟩
  rw [if_neg (show ¬ (1 : Int) < n by omega), if_neg c1]
  by_cases c2 : 0 < gm_kinds M Q 0
  · rw [if_neg (show ¬ gm_kinds M Q 0 ≤ 0 by omega), if_pos c2]
    exact ⟨x, rfl, SU.rfl' x⟩
  rw [if_pos (show gm_kinds M Q 0 ≤ 0 by omega), if_neg c2]
  have inner : ∀ (k34 : Mod → Int32 → Int32 → Option (Int32 × Mod)) (s : Nat) (y : Mod), s + 1 < M 0 → (gm_WI M n Q s 0 (m_cuts y) ∧ SU x y) →
      ∃ y', (gm_WI M n Q (s + 1) 0 (m_cuts y') ∧ SU x y') ∧ G_X9_cuttings_L41 k34 FU y 0 (iZ ((s + 1 : Nat) : Int)) (iZ (M 0 : Nat)) = k34 y' (iZ (((s + 1 : Nat) : Int) + 1)) (iZ (M 0 : Nat)) := by
    intro k34 s y hsM hI0
    obtain ⟨y', ⟨hw', hu'⟩, e⟩ := lp_inv (L := fun u (y : Mod) c => G_X9_cuttings_L41 k34 u y c (iZ ((s + 1 : Nat) : Int)) (iZ (M 0 : Nat))) (N := M 0 - (s + 1)) (I := fun a y => gm_WI M n Q s a (m_cuts y) ∧ SU x y) (K := fun y => k34 y (iZ (((s + 1 : Nat) : Int) + 1)) (iZ (M 0 : Nat)))
      (fun u a y ha hI => by
        obtain ⟨i1, i2⟩ := hI
        have hy : RS (m_state y) M n Q := by rw [i2.2.1]; exact hsx
        -- whether the line is free
        obtain ⟨y1, z, z01, hz, hcuts, hu1, ef⟩ : ∃ y1 z, (z = 0 ∨ z = 1) ∧ (s = 0 ∨ (z = 1 ↔ gm_nx (M 0) (a + (s + 1)) = a ∨ gm_si M n Q a (a + (s + 1)) = 1)) ∧ m_cuts y1 = m_cuts y ∧ SU y y1 ∧
            ((if iZ ((s + 1 : Nat) : Int) = 1 then some (1, y) else if iZ ((s + 1 : Nat) : Int) = iZ (M 0 : Nat) - 1 then some (1, y) else (G_X9_areSeeing y 0 (iZ (a : Int)) 0 (iZ (a : Int) + iZ ((s + 1 : Nat) : Int))).bind fun v71 => if v71.1 = 0 then some (0, v71.2) else some (1, v71.2)) : Option (Int32 × Mod)) = some (iZ z, y1) := by
          rw [iZ_1, iZ_sub, ite_eq (by omega), ite_eq (by omega), iZ_add, show (a : Int) + ((s + 1 : Nat) : Int) = ((a + (s + 1) : Nat) : Int) by omega]
          by_cases d1 : s = 0
          · refine ⟨y, 1, Or.inr rfl, Or.inl d1, rfl, SU.rfl' y, ?_⟩
            rw [if_pos (by omega)]
          · rw [if_neg (show ¬ ((s + 1 : Nat) : Int) = 1 by omega)]
            by_cases d2 : s + 1 = M 0 - 1
            · refine ⟨y, 1, Or.inr rfl, Or.inr ⟨fun _ => Or.inl ?_, fun _ => rfl⟩, rfl, SU.rfl' y, ?_⟩
              · unfold gm_nx
                rw [if_pos (by omega)]; omega
              · rw [if_pos (by omega)]
            · rw [if_neg (show ¬ ((s + 1 : Nat) : Int) = (M 0 : Nat) - 1 by omega)]
              obtain ⟨y1, ⟨j1, j2⟩, e⟩ := t_areSeeing hy hok (r := 0) (k := a) (s := 0) (l := a + (s + 1)) (by omega) (by omega) (by omega) (by omega)
              have e : G_X9_areSeeing y 0 (iZ (a : Int)) 0 (iZ ((a + (s + 1) : Nat) : Int)) = some (iZ (gm_si M n Q (gm_fst M 0 + a) (gm_fst M 0 + (a + (s + 1)))), y1) := e
              rw [show gm_fst M 0 + a = a by show 0 + _ = _; omega, show gm_fst M 0 + (a + (s + 1)) = a + (s + 1) by show 0 + _ = _; omega] at e
              have nn : ¬ gm_nx (M 0) (a + (s + 1)) = a := by
                unfold gm_nx
                split <;> omega
              refine ⟨y1, gm_si M n Q a (a + (s + 1)), ?_, Or.inr ⟨fun w => Or.inr w, fun w => ?_⟩, j2.2.2.2.2.2.2.2.2.2, j2.toSU j1, ?_⟩
              · rcases gm_si_01 M n Q a (a + (s + 1)) with w | w
                · exact Or.inr w.1
                · exact Or.inl w.1
              · rcases w with w | w
                · exact absurd w nn
                · exact w
              · rw [e, Option.bind_some]
                dsimp only
                rcases gm_si_01 M n Q a (a + (s + 1)) with w | w
                · rw [w.1, if_neg (show ¬ iZ 1 = 0 by decide)]
                · rw [w.1, if_pos (show iZ 0 = 0 from rfl)]; rfl
        have e1 : ((if iZ ((s + 1 : Nat) : Int) = 1 then some 1 else some 0) : Option Int32) = some (iZ (if s = 0 then 1 else 0)) := by
          rw [iZ_1, iZ_0, ind_eq (by omega)]
          by_cases d1 : s = 0
          · rw [if_pos (by omega), if_pos d1]
          · rw [if_neg (by omega), if_neg d1]
        have e101 := t_cut101 (k41 := G_X9_cuttings_L41 k34 u) (y := y1) (s := s) (a := a) z01 (by omega) (by omega) (by rw [hcuts]; exact i1) hz
        generalize hv : gm_cut M n Q (s + 1) a (a + (s + 1)) = v at e101
        generalize hy2 : ms_cuts y1 (upd (m_cuts y1) (10 * a + (a + (s + 1))) v) = y2
        have f := mg_cuts y1 (upd (m_cuts y1) (10 * a + (a + (s + 1))) v)
        rw [hy2] at f
        obtain ⟨f01, f02, f03, f04, f05, f06, f07, f08, f09, f10, f11, f12, f13, f14, f15, f16, f17, f18⟩ := f
        refine ⟨y2, ⟨fun p r hpr hr hd => ?_, SU.trans i2 (SU.trans hu1 ⟨f01, f02, f03, f04, f05, f06, f07, f08, f09, f10⟩)⟩, ?_⟩
        · rw [f18, hcuts]
          by_cases d : 10 * p + r = 10 * a + (a + (s + 1))
          · have : p = a ∧ r = a + (s + 1) := by omega
            rw [this.1, this.2, upd_same]
            exact hv.symm
          · rw [upd_ne d]
            refine i1 p r hpr hr ?_
            rcases hd with hd | ⟨hd1, hd2⟩
            · exact Or.inl hd
            · refine Or.inr ⟨hd1, ?_⟩
              refine Classical.byContradiction (fun w => d ?_)
              have : p = a := by omega
              omega
        · rw [G_X9_cuttings_L41, iZ_add, ite_le (by omega), if_neg (by omega)]
          rw [iZ_add] at ef
          rw [ef, Option.bind_some, e1, Option.bind_some]
          dsimp only
          rw [iZ_1, iZ_add, show (a : Int) + ((s + 1 : Nat) : Int) = ((a + (s + 1) : Nat) : Int) by omega, e101]
          unfold G_X9_cuttings_j150
          rw [iZ_10, iZ_mul, iZ_add, show (10 : Int) * (a : Int) + ((a + (s + 1) : Nat) : Int) = ((10 * a + (a + (s + 1)) : Nat) : Int) by omega, wr_iZ (by omega) (by omega), Option.bind_some, hy2, iZ_1, iZ_add])
      (fun u y hI => by
        rw [G_X9_cuttings_L41, iZ_add, ite_le (by omega), if_pos (by omega), iZ_1, iZ_add])
      (M 0 - (s + 1)) 0 FU y (by omega) (by unfold FU; omega) hI0
    refine ⟨y', ⟨fun p r hpr hr hd => ?_, hu'⟩, e⟩
    rcases hd with hd | ⟨hd1, hd2⟩
    · rw [gm_cut_mono hd]
      exact hw' p r hpr hr (by omega)
    · omega
  obtain ⟨y', ⟨hw', -, hu'⟩, e⟩ := lp_inv (L := fun u (y : Mod) c => G_X9_cuttings_L34 u y c (iZ (M 0 : Nat))) (N := M 0) (I := fun s y => gm_WI M n Q (s - 1) 0 (m_cuts y) ∧ 1 ≤ s ∧ SU x y) (K := fun y => some (m_cuts y (M 0 - 1), y))
    (fun u s y hsM hI => by
      obtain ⟨t, rfl⟩ : ∃ t, s = t + 1 := ⟨s - 1, by omega⟩
      obtain ⟨y', ⟨j1, j2⟩, e⟩ := inner (G_X9_cuttings_L34 u) t y hsM ⟨hI.1, hI.2.2⟩
      refine ⟨y', ⟨j1, by omega, j2⟩, ?_⟩
      rw [G_X9_cuttings_L34, ite_le (by omega), if_neg (by omega)]
      exact e)
    (fun u y hI => by
      rw [G_X9_cuttings_L34, ite_le (by omega), if_pos (by omega), iZ_1, iZ_sub, show ((M 0 : Nat) : Int) - 1 = ((M 0 - 1 : Nat) : Int) by omega, rd_iZ (by omega) (by omega), Option.bind_some])
    (M 0 - 1) 1 FU x (by omega) (by unfold FU; omega) ⟨fun p r hpr hr hd => by omega, Nat.le_refl 1, SU.rfl' x⟩
  have val := hw' 0 (M 0 - 1) (by omega) (by omega) (Or.inl (by omega))
  rw [show 10 * 0 + (M 0 - 1) = M 0 - 1 by omega, gm_cut_mono (by omega)] at val
  rw [val] at e
  exact ⟨y', e, hu'⟩
end REF
