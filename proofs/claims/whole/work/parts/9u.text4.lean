/-! the operations errorPosition and load -/
section OPS
variable {F : Fig} {P : PastS} {m : Mod} {M : Nat → Nat} {n : Nat} {Q : Nat → Pt} {SL : Nat → Fig} {SV : Nat → Int32} {T : TextS}
theorem x_read {L : Nat} {ch : Nat → Int} (hT : TXT T L ch) (hm : TXM m L ch) (D : Fig) : TE m (G_X7_readInto T D) (G_X9_readText m) := by
  have l9 := hT.1
  have e1 : wr 85 (m_state m) 0 0 = some (upd (m_state m) 0 0) := wr_iZ (n := 85) (k := 0) (by omega) (by omega)
  have sm := SM.st m (upd (m_state m) 0 0)
  have g02 := (mg_state m (upd (m_state m) 0 0)).2.1
  unfold G_X7_readInto G_X9_readText G_X1_clear
  rw [e1, Option.bind_some, Option.bind_some, Option.bind_some]
  generalize hx : ms_state m (upd (m_state m) 0 0) = x at *
  have hm1 : TXM x L ch := hm.of sm
  have rf0 : RF0 (fs_corners (fs_rings D 0) 0) (fun _ => 0) 0 (fun _ => (0, 0)) := ⟨rfl, rfl, by omega, fun r hr => absurd hr (Nat.not_lt_zero r), fun r hr => absurd hr (Nat.not_lt_zero r), fun r hr => absurd hr (Nat.not_lt_zero r)⟩
  have rf : RF (fs_corners (fs_rings D 0) 0) (fun _ => 0) 0 (fun _ => (0, 0)) := ⟨rfl, rfl, by omega, fun r hr => absurd hr (Nat.not_lt_zero r), fun r hr => absurd hr (Nat.not_lt_zero r), fun r hr => absurd hr (Nat.not_lt_zero r), fun r hr => absurd hr (Nat.not_lt_zero r)⟩
  rw [hT.2.1, hm1.1, iZ_0, ite_eq (by omega), ite_eq (by omega)]
  by_cases c : L = 0
  · rw [if_pos (by omega), if_pos (by omega)]
    exact TE.err (p := 0) sm (by omega)
  · have hc := hT.2.2 0 (by omega)
    have d1 : rd 90 (t_signs T) (iZ 0) = some (t_signs T 0) := rd_iZ (n := 90) (k := 0) (by omega) (by omega)
    have d2 : rd 90 (m_text x) (iZ 0) = some (m_text x 0) := rd_iZ (n := 90) (k := 0) (by omega) (by omega)
    rw [if_neg (by omega), if_neg (by omega), d1, d2, Option.bind_some, Option.bind_some, hc.1, hm1.2 0 (by omega), show (70 : Int32) = iZ 70 from rfl, ite_eq (by omega), ite_eq (by omega)]
    by_cases c7 : ch 0 = 70
    · have rs0 : RS (m_state x) (fun _ => 0) 0 (fun _ => (0, 0)) := ⟨by rw [g02, upd_same]; rfl, by omega, fun r hr => absurd hr (Nat.not_lt_zero r), fun r k hr => absurd hr (Nat.not_lt_zero r)⟩
      obtain ⟨f2, m2, b1, b2, b3, b4⟩ := TI.ring (m0 := m) rf (by omega) (fun i hi => absurd hi (Nat.not_lt_zero i)) (fun i hi => absurd hi (Nat.not_lt_zero i)) rs0 sm
      have b1 : G_X1_openRing (fs_corners (fs_rings D (iZ 0)) (iZ 0)) = some f2 := b1
      have e0 : rd 85 (m_state x) 0 = some (iZ ((0 : Nat) : Int)) := by
        have := rd_iZ (n := 85) (k := 0) (f := m_state x) (by omega) (by omega)
        rw [rs0.1] at this
        exact this
      have b2 : wr 85 (m_state x) (1 + iZ ((0 : Nat) : Int)) 0 = some (upd (m_state x) (1 + 0) 0) := b2
      rw [if_pos c7, if_pos c7, b1, Option.bind_some]
      obtain ⟨v, hv⟩ : ∃ v, FU = v + 1 := ⟨999999, rfl⟩
      have fin := x_loop hT hm 91 1 (by omega) (by omega) 1 0 0 FU v FU f2 m2 _ _ (by omega) b4 (by unfold FU; omega) (by unfold FU at hv; omega) (by unfold FU; omega)
      have e2 : G_X9_readText_L29 FU x 1 = G_X9_readText_L47 (G_X9_readText_L29 v) FU m2 1 (iZ ((0 : Nat) : Int)) 1 := by
        have : G_X9_readText_L29 (v + 1) x 1 = G_X9_readText_L47 (G_X9_readText_L29 v) FU m2 1 (iZ ((0 : Nat) : Int)) 1 := by
          rw [G_X9_readText_L29, e0, Option.bind_some, b2, Option.bind_some, b3]
        rw [← hv] at this
        exact this
      rw [e2]
      exact fin
    · rw [if_neg c7, if_neg c7]
      exact TE.err (p := 0) sm (by omega)
theorem o_errorPosition (iw : IW F P SL SV T m) (D : Fig) : ∃ v D' m', G_X8_errorPosition D T = some (v, D') ∧ G_X9_errorPosition m = some (v, m') ∧ IW F P SL SV T m' := by
  have iw0 := iw
  obtain ⟨⟨M, n, Q, c, H, hok, h, hs, hp, hh, hH⟩, is, L, ch, hT, hm⟩ := iw
  obtain ⟨g01, g02, g03, g04, g05, g06, g07, g08, g09, g10, g11, g12, g13, g14, g15, g16, g17, g18⟩ := mg_thrown m 0
  obtain ⟨w, ew, w1, -⟩ := t_copy (n0 := 85) (n1 := 85) (w0 := m_state (ms_thrown m 0)) (w1 := m_kept (ms_thrown m 0)) (p := 0) (z := 0) (by omega) (by omega) (by omega) (by omega)
  have ew : G_X9_copy 85 85 (m_state (ms_thrown m 0)) (m_kept (ms_thrown m 0)) 0 0 = some w := ew
  unfold G_X8_errorPosition G_X9_errorPosition
  rw [Option.bind_some, ew, Option.bind_some]
  have k := mg_kept (ms_thrown m 0) w
  generalize hy : ms_kept (ms_thrown m 0) w = y at *
  obtain ⟨k01, k02, k03, k04, k05, k06, k07, k08, k09, k10, k11, k12, k13, k14, k15, k16, k17, k18⟩ := k
  have hmy : TXM y L ch := ⟨(k10.trans g10).trans hm.1, fun i hi => by rw [k09, g09]; exact hm.2 i hi⟩
  obtain ⟨e, f', m', e1, e2, ⟨s1, s2, s3, s4, s5, s6, s7, s8, s9, s10⟩, -⟩ := x_read hT hmy D
  obtain ⟨w3, ew3, w31, -⟩ := t_copy (n0 := 85) (n1 := 85) (w0 := m_kept m') (w1 := m_state m') (p := 0) (z := 0) (by omega) (by omega) (by omega) (by omega)
  have ew3 : G_X9_copy 85 85 (m_kept m') (m_state m') 0 0 = some w3 := ew3
  rw [e1, e2, Option.bind_some, Option.bind_some]
  dsimp only
  rw [ew3, Option.bind_some]
  obtain ⟨q01, q02, q03, q04, q05, q06, q07, q08, q09, q10, q11, q12, q13, q14, q15, q16, q17, q18⟩ := mg_state m' w3
  refine ⟨_, _, _, rfl, rfl, iw0.up ⟨M, n, Q, c, H, hok, h, ?_, hp, RH.of hh (q05.trans (s4.trans (k05.trans g05))) (q06.trans (s5.trans (k06.trans g06))), hH⟩ ⟨q07.trans (s6.trans (k07.trans g07)), q08.trans (s7.trans (k08.trans g08)), q09.trans (s8.trans (k09.trans g09)), q10.trans (s9.trans (k10.trans g10))⟩⟩
  rw [q02]
  refine RS.congr hs (fun i hi => ?_)
  have a := w31 i hi
  have b := w1 i hi
  rw [Nat.zero_add] at a b
  rw [a, s2, k03, b, g02]
theorem o_load (iw : IW F P SL SV T m) (D : Fig) : ∃ a F' D' P' SV' v m', G_X8_load F D P SV T = some (a, F', D', P', SV') ∧ G_X9_load m = some (v, m') ∧ IW F' P' SL SV' T m' ∧ ((a = .inr v ∧ m_thrown m' = 0) ∨ (a = .inl 3 ∧ v = 0 ∧ m_thrown m' = 1)) := by
  have iw0 := iw
  obtain ⟨⟨M, n, Q, c, H, hok, h, hs, hp, hh, hH⟩, is, L, ch, hT, hm⟩ := iw
  obtain ⟨w, ew, w1, -⟩ := t_copy (n0 := 85) (n1 := 85) (w0 := m_state m) (w1 := m_kept m) (p := 0) (z := 0) (by omega) (by omega) (by omega) (by omega)
  have ew : G_X9_copy 85 85 (m_state m) (m_kept m) 0 0 = some w := ew
  unfold G_X8_load G_X9_load
  rw [ew, Option.bind_some]
  have k := mg_kept m w
  generalize hy : ms_kept m w = y at *
  obtain ⟨k01, k02, k03, k04, k05, k06, k07, k08, k09, k10, k11, k12, k13, k14, k15, k16, k17, k18⟩ := k
  have hmy : TXM y L ch := ⟨k10.trans hm.1, fun i hi => by rw [k09]; exact hm.2 i hi⟩
  obtain ⟨e, f', m', e1, e2, ⟨s1, s2, s3, s4, s5, s6, s7, s8, s9, s10⟩, hgood⟩ := x_read hT hmy D
  rw [e1, e2, Option.bind_some, Option.bind_some]
  dsimp only
  by_cases c9 : e = -9
  · obtain ⟨M', n', Q', ok', rf', rs'⟩ := hgood c9
    obtain ⟨f2, ec, q2⟩ := s_copyFrom (f := F) rf'
    obtain ⟨P2, ep, rp⟩ := s_forgetAll (P := P) H
    obtain ⟨g01, g02, g03, g04, g05, g06, g07, g08, g09, g10, g11, g12, g13, g14, g15, g16, g17, g18⟩ := mg_thrown m' 0
    have l1 : wr 2 SV 0 0 = some (upd SV 0 0) := wr_iZ (n := 2) (k := 0) (by omega) (by omega)
    have l2 : wr 2 (upd SV 0 0) 1 0 = some (upd (upd SV 0 0) 1 0) := wr_iZ (n := 2) (k := 1) (by omega) (by omega)
    have n20 : ¬ (2 : Int32) ≤ 0 := by decide
    have n21 : ¬ (2 : Int32) ≤ 0 + 1 := by decide
    have n22 : (2 : Int32) ≤ 0 + 1 + 1 := by decide
    have p1 : (0 : Int32) + 1 = 1 := by decide
    have eL : G_X8_load_L46 T FU f2 f' P2 SV 0 = some (.inr (f_rings f2), f2, f', P2, upd (upd SV 0 0) 1 0) := by
      obtain ⟨v, hv⟩ : ∃ v, FU = v + 3 := ⟨999997, rfl⟩
      rw [hv, G_X8_load_L46, if_neg n20, l1, Option.bind_some, G_X8_load_L46, if_neg n21, p1, l2, Option.bind_some, G_X8_load_L46, if_pos (show (2 : Int32) ≤ 1 + 1 by decide)]
    rw [if_pos c9, if_pos c9, Option.bind_some, g01, if_pos (show (0 : Int32) ≤ 0 by decide), ec, Option.bind_some, ep, Option.bind_some, eL, Option.bind_some, Option.bind_some]
    generalize hx : ms_thrown m' 0 = x at *
    have a := mg_remembered x 0
    generalize hz : ms_remembered x 0 = z at *
    obtain ⟨a01, a02, a03, a04, a05, a06, a07, a08, a09, a10, a11, a12, a13, a14, a15, a16, a17, a18⟩ := a
    have l3 : wr 2 (m_isSaved z) 0 0 = some (upd (m_isSaved z) 0 0) := wr_iZ (n := 2) (k := 0) (by omega) (by omega)
    rw [l3, Option.bind_some, Option.bind_some]
    have b := mg_isSaved z (upd (m_isSaved z) 0 0)
    generalize hb : ms_isSaved z (upd (m_isSaved z) 0 0) = z2 at *
    obtain ⟨b01, b02, b03, b04, b05, b06, b07, b08, b09, b10, b11, b12, b13, b14, b15, b16, b17, b18⟩ := b
    have l4 : wr 2 (m_isSaved z2) 1 0 = some (upd (m_isSaved z2) 1 0) := wr_iZ (n := 2) (k := 1) (by omega) (by omega)
    rw [l4, Option.bind_some]
    have d := mg_isSaved z2 (upd (m_isSaved z2) 1 0)
    generalize hd : ms_isSaved z2 (upd (m_isSaved z2) 1 0) = z3 at *
    obtain ⟨d01, d02, d03, d04, d05, d06, d07, d08, d09, d10, d11, d12, d13, d14, d15, d16, d17, d18⟩ := d
    have rs3 : RS (m_state z3) M' n' Q' := by rw [d02, b02, a02, g02]; exact rs'
    have l5 : rd 85 (m_state z3) 0 = some (iZ n') := t_n rs3
    rw [l5, Option.bind_some, q2.1]
    refine ⟨_, _, _, _, _, _, _, rfl, rfl, ⟨⟨M', n', Q', 0, H, ok', q2, rs3, rp, ⟨by omega, d06.trans (b06.trans a06), fun i hi => absurd hi (Nat.not_lt_zero i)⟩, fun i hi => absurd hi (Nat.not_lt_zero i)⟩, fun i hi => ?_, L, ch, hT, (d10.trans (b10.trans (a10.trans (g10.trans (s9.trans (k10)))))).trans hm.1, fun i hi => by rw [d09, b09, a09, g09, s8, k09]; exact hm.2 i hi⟩, Or.inl ⟨rfl, d01.trans (b01.trans (a01.trans g01))⟩⟩
    rw [d08, b08]
    rcases (by omega : i = 0 ∨ i = 1) with rfl | rfl
    · exact ⟨rfl, Or.inl rfl⟩
    · exact ⟨rfl, Or.inl rfl⟩
  · obtain ⟨g01, g02, g03, g04, g05, g06, g07, g08, g09, g10, g11, g12, g13, g14, g15, g16, g17, g18⟩ := mg_thrown m' 1
    rw [if_neg c9, if_neg c9, Option.bind_some, g01, if_neg (show ¬ (1 : Int32) ≤ 0 by decide), Option.bind_some]
    obtain ⟨w3, ew3, w31, -⟩ := t_copy (n0 := 85) (n1 := 85) (w0 := m_kept (ms_thrown m' 1)) (w1 := m_state (ms_thrown m' 1)) (p := 0) (z := 0) (by omega) (by omega) (by omega) (by omega)
    have ew3 : G_X9_copy 85 85 (m_kept (ms_thrown m' 1)) (m_state (ms_thrown m' 1)) 0 0 = some w3 := ew3
    rw [ew3, Option.bind_some]
    obtain ⟨q01, q02, q03, q04, q05, q06, q07, q08, q09, q10, q11, q12, q13, q14, q15, q16, q17, q18⟩ := mg_state (ms_thrown m' 1) w3
    refine ⟨_, _, _, _, _, _, _, rfl, rfl, iw0.up ⟨M, n, Q, c, H, hok, h, ?_, hp, RH.of hh (q05.trans (g05.trans (s4.trans k05))) (q06.trans (g06.trans (s5.trans k06))), hH⟩ ⟨q07.trans (g07.trans (s6.trans k07)), q08.trans (g08.trans (s7.trans k08)), q09.trans (g09.trans (s8.trans k09)), q10.trans (g10.trans (s9.trans k10))⟩, Or.inr ⟨rfl, rfl, q01.trans g01⟩⟩
    rw [q02]
    refine RS.congr hs (fun i hi => ?_)
    have a := w31 i hi
    have b := w1 i hi
    rw [Nat.zero_add] at a b
    rw [a, g03, s2, k03, b]
end OPS
