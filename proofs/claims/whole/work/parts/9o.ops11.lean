/-! the operation dropHole -/
section OPS
variable {F : Fig} {P : PastS} {m : Mod} {M : Nat → Nat} {n : Nat} {Q : Nat → Pt}
/-- the row that row i has come from, when the rows behind r, below s, have moved down -/
def gm_sr (r s i : Nat) : Nat := if r ≤ i ∧ i < s then i + 1 else i
theorem gm_sr_ne {r s i : Nat} (h : i ≠ s) : gm_sr r (s + 1) i = gm_sr r s i := by
  unfold gm_sr
  by_cases c : r ≤ i ∧ i < s
  · rw [if_pos c, if_pos (by omega)]
  · rw [if_neg c, if_neg (by omega)]
theorem gm_sr_at {r s : Nat} (h : r ≤ s) : gm_sr r (s + 1) s = s + 1 := if_pos (by omega)
theorem gm_sr_ge {r s i : Nat} (h : s ≤ i) : gm_sr r s i = i := if_neg (by omega)
theorem gm_sr_id (r i : Nat) : gm_sr r r i = i := if_neg (by omega)
def DB (z st : Nat → Int32) (r s l : Nat) : Prop := st 0 = z 0 ∧ (∀ i, i < 4 → st (1 + i) = z (1 + gm_sr r (s + 1) i)) ∧
  ∀ i k, i < 4 → k < 10 → st (5 + 20 * i + 2 * k) = z (5 + 20 * (if k < l then gm_sr r (s + 1) i else gm_sr r s i) + 2 * k) ∧ st (5 + 20 * i + 2 * k + 1) = z (5 + 20 * (if k < l then gm_sr r (s + 1) i else gm_sr r s i) + 2 * k + 1)
def DA (z st : Nat → Int32) (r s : Nat) : Prop := st 0 = z 0 ∧ (∀ i, i < 4 → st (1 + i) = z (1 + gm_sr r s i)) ∧
  ∀ i k, i < 4 → k < 10 → st (5 + 20 * i + 2 * k) = z (5 + 20 * gm_sr r s i + 2 * k) ∧ st (5 + 20 * i + 2 * k + 1) = z (5 + 20 * gm_sr r s i + 2 * k + 1)
theorem t_dropRow (z : Nat → Int32) (m1 : Mod) {r s : Nat} (hr : r ≤ s) (hs : s + 1 < 4) (k40 : Mod → Int32 → Option (Int32 × Mod)) (m2 : Mod) (hI : DB z (m_state m2) r s 0 ∧ m_kept m2 = m_kept m1 ∧ SK m1 m2) :
    ∃ m3, (DA z (m_state m3) r (s + 1) ∧ m_kept m3 = m_kept m1 ∧ SK m1 m3) ∧ G_X9_dropHole_L69 k40 FU m2 0 (iZ (s : Int)) = k40 m3 (iZ ((s : Int) + 1)) := by
  obtain ⟨m3, ⟨i1, i2, i3⟩, e⟩ := lp_inv (L := fun u (w : Mod) c => G_X9_dropHole_L69 k40 u w c (iZ (s : Int))) (N := 10) (I := fun c w => DB z (m_state w) r s c ∧ m_kept w = m_kept m1 ∧ SK m1 w) (K := fun w => k40 w (iZ ((s : Int) + 1)))
    (fun u c w hc hI => by
      obtain ⟨⟨i1, i2, i3⟩, i4, i5⟩ := hI
      obtain ⟨w2, e2, w1, w3, w4⟩ := t_setCorner w (r := s) (k := c) (by omega) hc (m_state w (5 + 20 * (s + 1) + 2 * c)) (m_state w (5 + 20 * (s + 1) + 2 * c + 1))
      refine ⟨w2, ⟨⟨?_, fun i hi => ?_, fun i k hi hk => ?_⟩, w3.trans i4, SK.trans i5 w4⟩, ?_⟩
      · rw [w1, upd_ne (by omega), upd_ne (by omega)]; exact i1
      · rw [w1, upd_ne (by omega), upd_ne (by omega)]; exact i2 i hi
      · have a1 := i3 (s + 1) c (by omega) hc
        rw [if_neg (Nat.lt_irrefl c), gm_sr_ge (by omega)] at a1
        rw [w1]
        by_cases e : i = s ∧ k = c
        · obtain ⟨rfl, rfl⟩ := e
          rw [if_pos (by omega), gm_sr_at hr, upd_ne (by omega), upd_same, upd_same]
          exact a1
        · rw [upd_ne (by omega), upd_ne (by omega), upd_ne (by omega), upd_ne (by omega)]
          have a2 := i3 i k hi hk
          by_cases k1 : k < c
          · rw [if_pos k1] at a2
            rw [if_pos (by omega)]
            exact a2
          · rw [if_neg k1] at a2
            by_cases k2 : k < c + 1
            · rw [if_pos k2, gm_sr_ne (by omega)]
              exact a2
            · rw [if_neg k2]
              exact a2
      · rw [G_X9_dropHole_L69, iZ_10, ite_le (by omega), if_neg (by omega), iZ_1, iZ_add, show (s : Int) + 1 = ((s + 1 : Nat) : Int) by omega, t_xr w (by omega) hc, Option.bind_some, t_yr w (by omega) hc, Option.bind_some, e2, Option.bind_some, iZ_add])
    (fun u w hI => by rw [G_X9_dropHole_L69, iZ_10, ite_le (by omega), if_pos (by omega), iZ_1, iZ_add])
    10 0 FU m2 (by omega) (by unfold FU; omega) hI
  refine ⟨m3, ⟨⟨i1.1, i1.2.1, fun i k hi hk => ?_⟩, i2, i3⟩, e⟩
  have := i1.2.2 i k hi hk
  rw [if_pos hk] at this
  exact this
theorem t_dropLoop {z : Nat → Int32} {m1 : Mod} (hn : 1 ≤ n ∧ n ≤ 4) (hz : z 0 = iZ n) {r : Nat} (hr : r < n) (hI : DA z (m_state m1) r r) :
    ∃ m3, (DA z (m_state m3) r (n - 1) ∧ m_kept m3 = m_kept m1 ∧ SK m1 m3) ∧ G_X9_dropHole_L40 FU m1 (iZ (r : Int)) = (G_X9_remember (ms_state m3 (upd (m_state m3) 0 (iZ ((n - 1 : Nat) : Int))))).bind fun v120 => (G_X9_area v120).bind fun v124 => some (v124, v120) := by
  obtain ⟨m3, ⟨i1, i2, i3, i4⟩, e⟩ := lp_inv (L := fun u (w : Mod) c => G_X9_dropHole_L40 u w c) (N := n - 1) (I := fun c w => DA z (m_state w) r c ∧ m_kept w = m_kept m1 ∧ SK m1 w ∧ r ≤ c) (K := fun w => (G_X9_remember (ms_state w (upd (m_state w) 0 (iZ ((n - 1 : Nat) : Int))))).bind fun v120 => (G_X9_area v120).bind fun v124 => some (v124, v120))
    (fun u c w hc hI => by
      obtain ⟨⟨j1, j2, j3⟩, i4, i5, i6⟩ := hI
      have e0 : rd 85 (m_state w) 0 = some (iZ n) := by
        have := rd_iZ (n := 85) (k := 0) (f := m_state w) (by omega) (by omega)
        rw [j1, hz] at this
        exact this
      have a1 := j2 (c + 1) (by omega)
      rw [gm_sr_ge (by omega)] at a1
      generalize hx : ms_state w (upd (m_state w) (1 + c) (m_state w (1 + (c + 1)))) = x
      have g := mg_state w (upd (m_state w) (1 + c) (m_state w (1 + (c + 1))))
      rw [hx] at g
      obtain ⟨g01, g02, g03, g04, g05, g06, g07, g08, g09, g10, g11, g12, g13, g14, g15, g16, g17, g18⟩ := g
      obtain ⟨w3, ⟨b1, b2, b3⟩, b4⟩ := t_dropRow z m1 (r := r) (s := c) i6 (by omega) (G_X9_dropHole_L40 u) x ⟨⟨by rw [g02, upd_ne (by omega)]; exact j1, fun i hi => by
        rw [g02]
        by_cases e : i = c
        · rw [e, upd_same, gm_sr_at i6]; exact a1
        · rw [upd_ne (by omega), gm_sr_ne e]; exact j2 i hi, fun i k hi hk => by
        rw [g02, upd_ne (by omega), upd_ne (by omega), if_neg (Nat.not_lt_zero k)]
        exact j3 i k hi hk⟩, g03.trans i4, SK.trans i5 ⟨g01, g04, g05, g06, g07, g08, g09, g10, g18⟩⟩
      refine ⟨w3, ⟨b1, b2, b3, by omega⟩, ?_⟩
      rw [← b4, ← hx, G_X9_dropHole_L40, e0, Option.bind_some, iZ_1, iZ_add, ite_le (by omega), if_neg (by omega), show (c : Int) + 1 = ((c + 1 : Nat) : Int) by omega, t_manyr w (by omega), Option.bind_some, iZ_add, show (1 : Int) + (c : Int) = ((1 + c : Nat) : Int) by omega, wr_iZ (by omega) (by omega), Option.bind_some])
    (fun u w hI => by
      obtain ⟨⟨j1, j2, j3⟩, i4, i5, i6⟩ := hI
      have e0 : rd 85 (m_state w) 0 = some (iZ n) := by
        have := rd_iZ (n := 85) (k := 0) (f := m_state w) (by omega) (by omega)
        rw [j1, hz] at this
        exact this
      have e1 : wr 85 (m_state w) 0 (iZ ((n - 1 : Nat) : Int)) = some (upd (m_state w) 0 (iZ ((n - 1 : Nat) : Int))) := wr_iZ (n := 85) (k := 0) (by omega) (by omega)
      rw [G_X9_dropHole_L40, e0, Option.bind_some, Option.bind_some, iZ_1, iZ_add, ite_le (by omega), if_pos (by omega), iZ_sub, show (n : Int) - 1 = ((n - 1 : Nat) : Int) by omega, e1, Option.bind_some])
    (n - 1 - r) r FU m1 (by omega) (by unfold FU; omega) ⟨hI, rfl, SK.rfl' m1, Nat.le_refl r⟩
  exact ⟨m3, ⟨i1, i2, i3⟩, e⟩
theorem RS.drop {z st : Nat → Int32} (h : RS z M n Q) {r : Nat} (hr : r < n) (hI : DA z st r (n - 1)) : RS (upd st 0 (iZ ((n - 1 : Nat) : Int))) (gm_dM M r) (n - 1) (gm_dQ M Q r) := by
  obtain ⟨h1, h2, h3, h4⟩ := h
  obtain ⟨j1, j2, j3⟩ := hI
  refine ⟨upd_same _ _ _, by omega, fun i hi => ?_, fun i k hi hk => ?_⟩
  · rw [upd_ne (by omega), j2 i (by omega)]
    unfold gm_sr gm_dM
    by_cases c : i < r
    · rw [if_pos c, if_neg (by omega)]
      exact h3 i (by omega)
    · rw [if_neg c, if_pos (by omega)]
      exact h3 (i + 1) (by omega)
  · have hf := gm_dM_fst (M := M) (r := r) i
    unfold gm_dM at hk
    rw [upd_ne (by omega), upd_ne (by omega)]
    unfold gm_dQ
    by_cases c : i < r
    · rw [if_pos c] at hk
      have hM := (h3 i (by omega)).1
      have a := j3 i k (by omega) (by omega)
      have s : gm_sr r (n - 1) i = i := if_neg (by omega)
      rw [s] at a
      rw [a.1, a.2, hf.1 (by omega)]
      have hge : gm_fst M (i + 1) ≤ gm_fst M r := gm_fst_le (by omega)
      have hge2 : gm_fst M (i + 1) = gm_fst M i + M i := rfl
      rw [if_pos (by omega)]
      exact h4 i k (by omega) hk
    · rw [if_neg c] at hk
      have hM := (h3 (i + 1) (by omega)).1
      have a := j3 i k (by omega) (by omega)
      have s : gm_sr r (n - 1) i = i + 1 := if_pos (by omega)
      rw [s] at a
      rw [a.1, a.2]
      have f2 := hf.2 (by omega)
      have f3 : gm_fst (gm_dM M r) r = gm_fst M r := (gm_dM_fst (M := M) (r := r) r).1 (Nat.le_refl r)
      have hge : gm_fst (gm_dM M r) r ≤ gm_fst (gm_dM M r) i := gm_fst_le (by omega)
      rw [if_neg (by omega), show gm_fst (gm_dM M r) i + k + M r = gm_fst M (i + 1) + k by omega]
      exact h4 (i + 1) k (by omega) hk
theorem o_dropHole (iv : IV F P m) (D : Fig) (x : Int32) : ∃ a F' D' P' v m', G_X8_dropHole F D P x = some (a, F', D', P') ∧ G_X9_dropHole m x = some (v, m') ∧ IV F' P' m' ∧ SZ m m' ∧ AN a v (m_thrown m') 1 3 := by
  obtain ⟨r, r1, r2, rfl⟩ := iZ_all x
  have t1 := iv.thr 1
  have t2 := iv.thr 2
  obtain ⟨M, n, Q, c, H, hok, h, hs, hp, hh, hH⟩ := iv
  have hn := hok.1
  have i1 := t_isRing hs hn.1 r r1 r2
  have d1 : ¬ (1 : Int32) ≤ 0 := by decide
  have d2 : ¬ (2 : Int32) ≤ 0 := by decide
  have d0 : (0 : Int32) ≤ 0 := by decide
  have z1 : ¬ iZ 1 = 0 := by decide
  have z0 : iZ 0 = 0 := rfl
  unfold G_X8_dropHole G_X9_dropHole
  rw [i1]
  simp only [Option.bind_some]
  rcases s_checkR h r r1 r2 with ⟨c1, e1⟩ | ⟨c1, e1⟩
  · rw [e1, if_pos c1, if_neg z1]
    simp only [Option.bind_some]
    by_cases c0 : r = 0
    · subst c0
      rw [if_pos z0, if_pos z0]
      simp only [Option.bind_some]
      rw [t2.2.2, if_neg d2]
      exact ⟨_, _, _, _, _, _, rfl, rfl, t2.1, t2.2.1, Or.inr (Or.inr ⟨rfl, rfl, t2.2.2⟩)⟩
    · have nz : ¬ iZ r = 0 := by
        rw [show (0 : Int32) = iZ 0 from rfl, iZ_eq r1 r2 (by omega) (by omega)]
        exact c0
      obtain ⟨i, rfl⟩ : ∃ i : Nat, r = i := ⟨r.toNat, by omega⟩
      have hi : i < n := by omega
      have hi1 : 1 ≤ i := by omega
      rw [if_neg nz, if_neg nz]
      simp only [Option.bind_some]
      obtain ⟨f1, ec, q1⟩ := s_copyFrom (f := D) h
      obtain ⟨f2, ed, q2⟩ := s_dropRing q1 hi
      obtain ⟨F2, P2, ek, q3, q4⟩ := s_keepDraft hp h q2
      have ok' := gm_ok_drop hok hi1 hi
      obtain ⟨g01, g02, g03, g04, g05, g06, g07, g08, g09, g10, g11, g12, g13, g14, g15, g16, g17, g18⟩ := mg_thrown m 0
      have hs0 : RS (m_state (ms_thrown m 0)) M n Q := by rw [g02]; exact hs
      obtain ⟨m1, e2, s1, kp1, sk1⟩ := t_begin (ms_thrown m 0)
      have hs1 : RS (m_state m1) M n Q := by rw [s1]; exact hs0
      obtain ⟨m3, ⟨l1, l2, l3⟩, e3⟩ := t_dropLoop (m1 := m1) (z := m_state m1) hn hs1.1 hi ⟨rfl, fun a _ => by rw [gm_sr_id], fun a b _ _ => by rw [gm_sr_id]; exact ⟨rfl, rfl⟩⟩
      have rs3 := RS.drop hs1 hi l1
      generalize hy : ms_state m3 (upd (m_state m3) 0 (iZ ((n - 1 : Nat) : Int))) = m4
      have k := mg_state m3 (upd (m_state m3) 0 (iZ ((n - 1 : Nat) : Int)))
      rw [hy] at k e3
      obtain ⟨k01, k02, k03, k04, k05, k06, k07, k08, k09, k10, k11, k12, k13, k14, k15, k16, k17, k18⟩ := k
      obtain ⟨u1, u2, u3, u4, u5, u6, u7, u8, u9⟩ := SK.trans sk1 (SK.trans l3 ⟨k01, k04, k05, k06, k07, k08, k09, k10, k18⟩)
      have hk : RS (m_kept m4) M n Q := by
        rw [k03, l2]
        exact RS.congr hs0 kp1
      obtain ⟨m5, em, hh2, v1, v2, v3, v4, v5, v6, v7, v8, v9⟩ := t_remember (RH.of hh (u3.trans g05) (u4.trans g06)) hk
      have rs5 : RS (m_state m5) (gm_dM M i) (n - 1) (gm_dQ M Q i) := by rw [v2, k02]; exact rs3
      rw [g01, if_pos d0, ec, Option.bind_some, ed, Option.bind_some, ek, Option.bind_some, e2, Option.bind_some, e3, em, Option.bind_some, t_area rs5 ok', Option.bind_some]
      dsimp only
      rw [s_area q3 ok', Option.bind_some]
      exact ⟨_, _, _, _, _, _, rfl, rfl, ⟨_, _, _, _, _, ok', q3, rs5, q4, hh2, gm_rem_ok hok hH⟩, ⟨v5.trans (u5.trans g07), v6.trans (u6.trans g08), v7.trans (u7.trans g09), v8.trans (u8.trans g10)⟩, Or.inl ⟨rfl, v1.trans (u1.trans g01)⟩⟩
  · rw [e1, if_neg c1, if_pos z0]
    simp only [Option.bind_some]
    rw [t1.2.2, if_neg d1]
    exact ⟨_, _, _, _, _, _, rfl, rfl, t1.1, t1.2.1, Or.inr (Or.inl ⟨rfl, rfl, t1.2.2⟩)⟩
end OPS
