/-! the operation simulate -/
def rNd (x : Int64) : Int32 := (((x.toUInt64 >>> ((33 : Int32).toInt64.toUInt64 &&& Int64.toUInt64 63)).toInt64).toInt32)
theorem rNd_iZ (x : Int64) : ∃ p : Nat, p < 2147483648 ∧ rNd x = iZ (p : Int) := by
  have e33 : ((33 : Int32).toInt64.toUInt64 &&& Int64.toUInt64 63) = 33 := by decide
  refine ⟨(x.toUInt64 >>> 33).toNat, ?_, ?_⟩
  · rw [UInt64.toNat_shiftRight]
    have := x.toUInt64.toNat_lt
    rw [show ((33 : UInt64).toNat % 64) = 33 by decide, Nat.shiftRight_eq_div_pow]
    omega
  · unfold rNd iZ
    rw [e33, Int32.ofInt_eq_ofNat, ← Int64.toInt32_ofNat', ← UInt64.toInt64_ofNat', UInt64.ofNat_toNat]
section OPS
variable {F : Fig} {P : PastS} {m : Mod} {M : Nat → Nat} {n : Nat} {Q : Nat → Pt}
theorem rmI_pos {a b : Nat} (ha : a < 2147483648) (hb : 1 ≤ b ∧ b < 1000) : rmI (iZ (a : Int)) (iZ (b : Int)) = some (iZ ((a % b : Nat) : Int)) := by
  unfold rmI
  rw [if_neg (show ¬ iZ (b : Int) = 0 by rw [show (0 : Int32) = iZ 0 from rfl, iZ_eq (by omega) (by omega) (by omega) (by omega)]; omega), div_iZ (by omega) (by omega) (by omega) (by omega), iZ_mul, iZ_sub]
  have e : (a : Int) - (a : Int) / (b : Int) * (b : Int) = ((a % b : Nat) : Int) := by
    have := Int.emod_def (a : Int) (b : Int)
    rw [Int.mul_comm] at this
    rw [← this]
    exact (Int.natCast_emod a b).symm
  rw [e]
theorem o_simL (F : Fig) (hM0 : 3 ≤ M 0 ∧ M 0 ≤ 10) : ∀ d : Nat, ∀ (i u : Nat) (f : Fig) (m : Mod) (Q : Nat → Pt) (x : Int64) (po : Int32), i + d ≤ 60 → RF f M n Q → RS (m_state m) M n Q → gm_ok M n Q →
    ∃ v f' m', G_X8_simulate_L51 F (u + d + 1) f (iZ (i : Int)) x po (iZ ((M 0 : Nat) : Int)) (iZ ((i + d : Nat) : Int)) = some (.inr v, f') ∧
      G_X9_simulate_L50 (u + d + 1) m (iZ (i : Int)) po x (iZ ((i + d : Nat) : Int)) = ((G_X9_copy 85 85 (m_scriptKept m') (m_state m') 0 0).bind fun w => some (v, ms_state m' w)) ∧ SK m m' := by
  intro d
  induction d with
  | zero =>
    intro i u f m Q x po hi h hs hok
    refine ⟨1000 * po + iZ (gm_area M n Q), f, m, ?_, ?_, SK.rfl' m⟩
    · rw [G_X8_simulate_L51, ite_le (by omega), if_pos (by omega)]
      unfold G_X8_simulate_j112
      rw [s_area h hok, Option.bind_some]
    · rw [G_X9_simulate_L50, ite_le (by omega), if_pos (by omega), t_area hs hok, Option.bind_some]
  | succ d ih =>
    intro i u f m Q x po hi h hs hok
    have hn := hok.1
    obtain ⟨p, p1, ep⟩ := rNd_iZ (x * 6364136223846793005 + 1442695040888963407)
    have ep : (((((x * 6364136223846793005) + 1442695040888963407).toUInt64 >>> ((33 : Int32).toInt64.toUInt64 &&& Int64.toUInt64 63)).toInt64).toInt32) = iZ (p : Int) := ep
    have e4 : iZ (p : Int) / 4 = iZ ((p / 4 : Nat) : Int) := by
      rw [iZ_4, div_iZ (by omega) (by omega) (by omega) (by omega), show (p : Int) / 4 = ((p / 4 : Nat) : Int) by omega]
    have e5 : iZ (p : Int) - iZ ((p / 4 : Nat) : Int) * 4 = iZ ((p % 4 : Nat) : Int) := by
      rw [iZ_4, iZ_mul, iZ_sub, show (p : Int) - ((p / 4 : Nat) : Int) * 4 = ((p % 4 : Nat) : Int) by omega]
    have e6 := rmI_pos (a := p / 4) (b := M 0) (by omega) (by omega)
    have hk : p / 4 % M 0 < M 0 := Nat.mod_lt _ (by omega)
    have hd : p % 4 < 4 := Nat.mod_lt _ (by omega)
    obtain ⟨f', y1, -, -, b1, w⟩ := s_nudged h hok hk ((p % 4 : Nat) : Int) (by omega)
    obtain ⟨y2, m', -, b2, e2, sk, -, rs', same⟩ := t_isStepped hs hok hk hd
    have est : gm_st Q (4 * (p / 4 % M 0) + p % 4) = upQ Q (p / 4 % M 0) ((Q (p / 4 % M 0)).1 + gm_dx ((p % 4 : Nat) : Int), (Q (p / 4 % M 0)).2 + gm_dy ((p % 4 : Nat) : Int)) := by
      unfold gm_st
      rw [show (4 * (p / 4 % M 0) + p % 4) / 4 = p / 4 % M 0 by omega, show (4 * (p / 4 % M 0) + p % 4) % 4 = p % 4 by omega]
    rw [est] at b2 rs'
    have ey := gm_brk_un b2 b1
    subst ey
    have hnx : iZ (i : Int) + 1 = iZ ((i + 1 : Nat) : Int) := by rw [iZ_1, iZ_add, show (i : Int) + 1 = ((i + 1 : Nat) : Int) by omega]
    have hM00 : ¬ iZ ((M 0 : Nat) : Int) ≤ 0 := by rw [show (0 : Int32) = iZ 0 from rfl, iZ_le (by omega) (by omega) (by omega) (by omega)]; omega
    have em : G_X9_many m 0 = some (iZ ((M 0 : Nat) : Int)) := t_many hs (r := 0) (by omega)
    rw [G_X8_simulate_L51, G_X9_simulate_L50, ite_le (by omega), if_neg (show ¬ ((i + (d + 1) : Nat) : Int) ≤ (i : Int) by omega), if_neg hM00, ite_le (by omega), if_neg (show ¬ ((i + (d + 1) : Nat) : Int) ≤ (i : Int) by omega), em, Option.bind_some, ep, e4, e5, e6, Option.bind_some, Option.bind_some, e2, Option.bind_some]
    dsimp only
    rcases w with ⟨c0, q1, q2⟩ | ⟨c0, q1, q2⟩
    · have rs1 := rs' c0
      have ok' := gm_brk_ok hok.1 hok.2.1 (c0 ▸ b1)
      rw [if_pos c0, q2, Option.bind_some, if_neg (show ¬ iZ 1 = 0 by decide)]
      dsimp only
      rw [if_neg (show ¬ (1 : Int32) = 0 by decide), Option.bind_some]
      unfold G_X8_simulate_j106
      obtain ⟨v, f2, m2, a1, a2, a3⟩ := ih (i + 1) u f' m' _ (x * 6364136223846793005 + 1442695040888963407) (po + 1) (by omega) q1 rs1 ok'
      rw [hnx, show i + (d + 1) = i + 1 + d by omega, show u + (d + 1) = u + d + 1 by omega]
      exact ⟨v, f2, m2, a1, a2, SK.trans sk a3⟩
    · have rs1 : RS (m_state m') M n Q := RS.congr hs (same c0)
      rw [if_neg c0, q2, Option.bind_some, if_pos (show iZ 0 = 0 from rfl)]
      dsimp only
      rw [if_pos (show (0 : Int32) = 0 from rfl), Option.bind_some]
      unfold G_X8_simulate_j106
      obtain ⟨v, f2, m2, a1, a2, a3⟩ := ih (i + 1) u f' m' Q (x * 6364136223846793005 + 1442695040888963407) po (by omega) q1 rs1 hok
      rw [hnx, show i + (d + 1) = i + 1 + d by omega, show u + (d + 1) = u + d + 1 by omega, Int32.add_zero]
      exact ⟨v, f2, m2, a1, a2, SK.trans sk a3⟩
theorem o_simulate (iv : IV F P m) (D : Fig) (y : Int64) (x : Int32) : ∃ a D' v m', G_X8_simulate F D y x = some (a, D') ∧ G_X9_simulate m y x = some (v, m') ∧ IV F P m' ∧ SZ m m' ∧ ((a = .inr v ∧ m_thrown m' = 0) ∨ (a = .inl 2 ∧ v = 0 ∧ m_thrown m' = 1)) := by
  obtain ⟨r, r1, r2, rfl⟩ := iZ_all x
  have t1 := iv.thr 1
  obtain ⟨M, n, Q, c, H, hok, h, hs, hp, hh, hH⟩ := iv
  have hn := hok.1
  have i1 : G_X8_inRange (iZ r) 1 60 = some (iZ (if 1 ≤ r ∧ r ≤ 60 then 1 else 0)) := s_inRange r 1 60 r1 r2 (by omega) (by omega) (by omega) (by omega)
  have i2 : G_X9_within (iZ r) 1 60 = some (iZ (if 1 ≤ r ∧ r ≤ 60 then 1 else 0)) := s_within r 1 60 r1 r2 (by omega) (by omega) (by omega) (by omega)
  have d1 : ¬ (1 : Int32) ≤ 0 := by decide
  have d0 : (0 : Int32) ≤ 0 := by decide
  unfold G_X8_simulate G_X9_simulate
  rw [i1, i2, Option.bind_some, Option.bind_some]
  by_cases cr : 1 ≤ r ∧ r ≤ 60
  · obtain ⟨d, rfl⟩ : ∃ d : Nat, r = d := ⟨r.toNat, by omega⟩
    rw [if_pos cr, if_neg (show ¬ iZ 1 = 0 by decide), if_neg (show ¬ iZ 1 = 0 by decide), Option.bind_some]
    obtain ⟨f1, ec, q1⟩ := s_copyFrom (f := D) h
    obtain ⟨g01, g02, g03, g04, g05, g06, g07, g08, g09, g10, g11, g12, g13, g14, g15, g16, g17, g18⟩ := mg_thrown m 0
    obtain ⟨w, m1, ew, em, s1, s2, s3, s4, s5, ⟨s6, s7, s8, s9⟩⟩ := t_keepS (ms_thrown m 0)
    have hs1 : RS (m_state m1) M n Q := by rw [s1, g02]; exact hs
    obtain ⟨u, hu⟩ : ∃ u, FU = u + d + 1 := ⟨999999 - d, by unfold FU; omega⟩
    obtain ⟨v, f2, m2, a1, a2, a3⟩ := o_simL F (hok.2.1 0 (by omega)) d 0 u f1 m1 Q y 0 (by omega) q1 hs1 hok
    rw [Nat.zero_add] at a1 a2
    rw [← hu] at a1 a2
    have a1 : G_X8_simulate_L51 F FU f1 0 y 0 (iZ ((M 0 : Nat) : Int)) (iZ (d : Int)) = some (.inr v, f2) := a1
    have a2 : G_X9_simulate_L50 FU m1 0 0 y (iZ (d : Int)) = ((G_X9_copy 85 85 (m_scriptKept m2) (m_state m2) 0 0).bind fun w => some (v, ms_state m2 w)) := a2
    have e0 : G_X1_sizeOf f1 0 = some (iZ ((M 0 : Nat) : Int)) := s_sizeOf q1 (r := 0) (by omega)
    obtain ⟨w3, m3, e3, em3, b1, b2, b3, b4, ⟨b5, b6, b7, b8⟩⟩ := t_backS a3
    rw [ec, Option.bind_some, e0, Option.bind_some, a1, g01, if_pos d0, Option.bind_some, ew, Option.bind_some, em, a2, e3, Option.bind_some, em3]
    refine ⟨_, _, _, _, rfl, rfl, ⟨M, n, Q, c, H, hok, h, ?_, hp, RH.of hh (b3.trans (s4.trans g05)) (b4.trans (s5.trans g06)), hH⟩, ⟨b5.trans (s6.trans g07), b6.trans (s7.trans g08), b7.trans (s8.trans g09), b8.trans (s9.trans g10)⟩, Or.inl ⟨rfl, b2.trans (s3.trans g01)⟩⟩
    exact RS.congr hs (fun i hi => by rw [b1 i hi, s2 i hi, g02])
  · rw [if_neg cr, if_pos (show iZ 0 = 0 from rfl), if_pos (show iZ 0 = 0 from rfl), Option.bind_some, t1.2.2, if_neg d1]
    exact ⟨_, _, _, _, rfl, rfl, t1.1, t1.2.1, Or.inr ⟨rfl, rfl, t1.2.2⟩⟩
end OPS
