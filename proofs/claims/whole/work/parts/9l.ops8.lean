/-! the operations: sees -/
section OPS
variable {F : Fig} {P : PastS} {m : Mod} {M : Nat → Nat} {n : Nat} {Q : Nat → Pt}
theorem IV.su (iv : IV F P m) {w : Int32} {m' : Mod} (e : m_state m' = m_state (ms_thrown m w)) (s : SM (ms_thrown m w) m') : IV F P m' ∧ SZ m m' ∧ m_thrown m' = w := by
  obtain ⟨M, n, Q, c, H, hok, h, hs, hp, hh, hH⟩ := iv
  obtain ⟨g01, g02, g03, g04, g05, g06, g07, g08, g09, g10, g11, g12, g13, g14, g15, g16, g17, g18⟩ := mg_thrown m w
  obtain ⟨s1, s2, s3, s4, s5, s6, s7, s8, s9, s10⟩ := s
  exact ⟨⟨M, n, Q, c, H, hok, h, by rw [e, g02]; exact hs, hp, RH.of hh (s4.trans g05) (s5.trans g06), hH⟩, ⟨s6.trans g07, s7.trans g08, s8.trans g09, s9.trans g10⟩, s1.trans g01⟩
theorem o_sees (iv : IV F P m) (x y u w : Int32) : ∃ a v m', G_X8_sees F x y u w = some a ∧ G_X9_sees m x y u w = some (v, m') ∧ IV F P m' ∧ SZ m m' ∧ ((a = .inr v ∧ m_thrown m' = 0) ∨ (a = .inl 1 ∧ v = 0 ∧ m_thrown m' = 1)) := by
  obtain ⟨r, r1, r2, rfl⟩ := iZ_all x
  obtain ⟨k, k1, k2, rfl⟩ := iZ_all y
  obtain ⟨s, s1, s2, rfl⟩ := iZ_all u
  obtain ⟨l, l1, l2, rfl⟩ := iZ_all w
  have t1 := iv.thr 1
  have iv0 := iv
  obtain ⟨M, n, Q, c, H, hok, h, hs, hp, hh, hH⟩ := iv
  have hn := hok.1
  have i1 := t_isCorner hs hn.1 r k r1 r2 k1 k2
  have i2 := t_isCorner hs hn.1 s l s1 s2 l1 l2
  have d0 : ¬ (1 : Int32) = 0 := by decide
  unfold G_X8_sees G_X9_sees
  rw [i1, i2]
  simp only [Option.bind_some]
  rcases s_check h r k r1 r2 k1 k2 with ⟨c1, e1⟩ | ⟨c1, e1⟩
  · rw [e1, if_pos c1, if_neg (show ¬ iZ 1 = 0 by decide)]
    simp only [Option.bind_some]
    rcases s_check h s l s1 s2 l1 l2 with ⟨c2, e2⟩ | ⟨c2, e2⟩
    · rw [e2, if_pos c2, if_neg (show ¬ iZ 1 = 0 by decide)]
      simp only [Option.bind_some]
      obtain ⟨i, rfl⟩ : ∃ i : Nat, r = i := ⟨r.toNat, by omega⟩
      obtain ⟨j, rfl⟩ : ∃ j : Nat, k = j := ⟨k.toNat, by omega⟩
      obtain ⟨p, rfl⟩ : ∃ p : Nat, s = p := ⟨s.toNat, by omega⟩
      obtain ⟨t, rfl⟩ : ∃ t : Nat, l = t := ⟨l.toNat, by omega⟩
      rw [Int.toNat_natCast] at c1 c2
      have hs0 : RS (m_state (ms_thrown m 0)) M n Q := by rw [(mg_thrown m 0).2.1]; exact hs
      have hi : i < n := by omega
      have hj : j < M i := by omega
      have hp' : p < n := by omega
      have ht : t < M p := by omega
      obtain ⟨m', ⟨q1, q2⟩, q3⟩ := t_areSeeing hs0 hok hi hj hp' ht
      obtain ⟨v1, v2, v3⟩ := iv0.su q1 q2
      have si := gm_si_01 M n Q (gm_fst M i + j) (gm_fst M p + t)
      rw [(mg_thrown m 0).1, if_pos rfl, q3, s_at h (by omega), s_at h (by omega), Option.bind_some, Option.bind_some, Option.bind_some, show ((gm_fst M i : Nat) : Int) + (j : Int) = ((gm_fst M i + j : Nat) : Int) by omega, show ((gm_fst M p : Nat) : Int) + (t : Int) = ((gm_fst M p + t : Nat) : Int) by omega, s_between h hok (gm_fst_lt hi hj) (gm_fst_lt hp' ht), Option.bind_some]
      rcases si with w | w
      · rw [w.1, if_neg (show ¬ iZ 1 = 0 by decide)]
        exact ⟨_, _, _, rfl, rfl, v1, v2, Or.inl ⟨rfl, v3⟩⟩
      · rw [w.1, if_pos (show iZ 0 = 0 from rfl)]
        exact ⟨_, _, _, rfl, rfl, v1, v2, Or.inl ⟨rfl, v3⟩⟩
    · rw [e2, if_neg c2, if_pos (show iZ 0 = 0 from rfl)]
      simp only [Option.bind_some]
      rw [t1.2.2, if_neg d0]
      exact ⟨_, _, _, rfl, rfl, t1.1, t1.2.1, Or.inr ⟨rfl, rfl, t1.2.2⟩⟩
  · rw [e1, if_neg c1, if_pos (show iZ 0 = 0 from rfl)]
    simp only [Option.bind_some]
    rw [t1.2.2, if_neg d0]
    exact ⟨_, _, _, rfl, rfl, t1.1, t1.2.1, Or.inr ⟨rfl, rfl, t1.2.2⟩⟩
end OPS
