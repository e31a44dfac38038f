/-! the operations of the text and of the slots, and what both hold in all -/
def IS (SL : Nat → Fig) (SV : Nat → Int32) (m : Mod) : Prop := ∀ i, i < 2 → m_isSaved m i = SV i ∧ (SV i = 0 ∨ (SV i = 1 ∧ ∃ M n Q, gm_ok M n Q ∧ RF (SL i) M n Q ∧ RS (fun j => m_slots m (85 * i + j)) M n Q))
def IT (T : TextS) (m : Mod) : Prop := ∃ L ch, TXT T L ch ∧ TXM m L ch
theorem IS.of {SL : Nat → Fig} {SV : Nat → Int32} {m m' : Mod} (h : IS SL SV m) (z : SZ m m') : IS SL SV m' := by
  obtain ⟨z1, z2, z3, z4⟩ := z
  intro i hi
  have := h i hi
  rw [z1, z2]
  exact this
theorem IT.of {T : TextS} {m m' : Mod} (h : IT T m) (z : SZ m m') : IT T m' := by
  obtain ⟨z1, z2, z3, z4⟩ := z
  obtain ⟨L, ch, a, b⟩ := h
  exact ⟨L, ch, a, z4.trans b.1, fun i hi => by rw [z3]; exact b.2 i hi⟩
def IW (F : Fig) (P : PastS) (SL : Nat → Fig) (SV : Nat → Int32) (T : TextS) (m : Mod) : Prop := IV F P m ∧ IS SL SV m ∧ IT T m
theorem IW.up {F F' : Fig} {P P' : PastS} {SL : Nat → Fig} {SV : Nat → Int32} {T : TextS} {m m' : Mod} (h : IW F P SL SV T m) (iv : IV F' P' m') (z : SZ m m') : IW F' P' SL SV T m' := ⟨iv, h.2.1.of z, h.2.2.of z⟩
section OPS
variable {F : Fig} {P : PastS} {m : Mod} {M : Nat → Nat} {n : Nat} {Q : Nat → Pt} {SL : Nat → Fig} {SV : Nat → Int32} {T : TextS}
theorem o_clearText (iw : IW F P SL SV T m) : ∃ v T' m', G_X8_clearText T = some (v, T') ∧ G_X9_clearText m = some (v, m') ∧ IW F P SL SV T' m' := by
  obtain ⟨iv, is, L, ch, hT, hm⟩ := iw
  have t0 := iv.thr 0
  unfold G_X8_clearText G_X9_clearText
  rw [Option.bind_some]
  generalize hx : ms_thrown m 0 = x at *
  have g := mg_thrown m 0
  rw [hx] at g
  obtain ⟨g01, g02, g03, g04, g05, g06, g07, g08, g09, g10, g11, g12, g13, g14, g15, g16, g17, g18⟩ := g
  have k := mg_textLength x 0
  generalize hy : ms_textLength x 0 = y at *
  obtain ⟨k01, k02, k03, k04, k05, k06, k07, k08, k09, k10, k11, k12, k13, k14, k15, k16, k17, k18⟩ := k
  rw [hT.2.1, g10, hm.1]
  refine ⟨_, _, y, rfl, rfl, ?_, ?_, 0, ch, ⟨by omega, rfl, fun i hi => absurd hi (Nat.not_lt_zero i)⟩, k10, fun i hi => absurd hi (Nat.not_lt_zero i)⟩
  · obtain ⟨M, n, Q, c, H, hok, h, hs, hp, hh, hH⟩ := t0.1
    exact ⟨M, n, Q, c, H, hok, h, by rw [k02]; exact hs, hp, RH.of hh k05 k06, hH⟩
  · intro i hi
    rw [k07, k08, g07, g08]
    exact is i hi
theorem x_char {c : Int} (h : 0 ≤ c ∧ c ≤ 255) : ((iZ c).toUInt32 % 65536).toInt32 = iZ c := by
  obtain ⟨k, rfl⟩ : ∃ k : Nat, c = k := ⟨c.toNat, by omega⟩
  unfold iZ
  rw [Int32.ofInt_eq_ofNat]
  show ((Int32.ofNat k).toUInt32 % 65536).toInt32 = Int32.ofNat k
  have e : (Int32.ofNat k).toUInt32 = UInt32.ofNat k := rfl
  have e2 : UInt32.ofNat k % 65536 = UInt32.ofNat k := by
    apply UInt32.toNat.inj
    rw [UInt32.toNat_mod, UInt32.toNat_ofNat_of_lt' (by show k < 4294967296; omega)]
    show k % 65536 = k
    omega
  rw [e, e2]
  rfl
theorem o_append (iw : IW F P SL SV T m) (x : Int32) : ∃ a T' v m', G_X8_append T x = some (a, T') ∧ G_X9_append m x = some (v, m') ∧ IW F P SL SV T' m' ∧ AN a v (m_thrown m') 2 3 := by
  obtain ⟨c, c1, c2, rfl⟩ := iZ_all x
  have iw0 := iw
  obtain ⟨iv, is, L, ch, hT, hm⟩ := iw
  have t0 := iv.thr 0
  have t1 := iv.thr 1
  have t2 := iv.thr 2
  have i1 : G_X8_inRange (iZ c) 0 255 = some (iZ (if 0 ≤ c ∧ c ≤ 255 then 1 else 0)) := s_inRange c 0 255 c1 c2 (by omega) (by omega) (by omega) (by omega)
  have i2 : G_X9_within (iZ c) 0 255 = some (iZ (if 0 ≤ c ∧ c ≤ 255 then 1 else 0)) := s_within c 0 255 c1 c2 (by omega) (by omega) (by omega) (by omega)
  have d1 : ¬ (1 : Int32) ≤ 0 := by decide
  have d2 : ¬ (2 : Int32) ≤ 0 := by decide
  have d0 : (0 : Int32) ≤ 0 := by decide
  have l9 := hT.1
  unfold G_X8_append G_X9_append
  rw [i1, i2, Option.bind_some, Option.bind_some]
  by_cases cr : 0 ≤ c ∧ c ≤ 255
  · rw [if_pos cr, if_neg (show ¬ iZ 1 = 0 by decide), if_neg (show ¬ iZ 1 = 0 by decide), hT.2.1, hm.1, show (90 : Int32) = iZ 90 from rfl, ite_lt (by omega), ite_eq (by omega)]
    by_cases cl : L < 90
    · rw [if_pos (by omega), if_neg (by omega), Option.bind_some, t0.2.2, if_pos d0]
      unfold G_X7_add
      rw [hT.2.1, show (90 : Int32) = iZ 90 from rfl, ite_le (by omega), if_neg (by omega), wr_iZ (by omega) (by omega), Option.bind_some, Option.bind_some, x_char cr]
      generalize hx : ms_thrown m 0 = x at *
      have g := mg_thrown m 0
      rw [hx] at g
      obtain ⟨g01, g02, g03, g04, g05, g06, g07, g08, g09, g10, g11, g12, g13, g14, g15, g16, g17, g18⟩ := g
      rw [Option.bind_some, g10, hm.1, Option.bind_some, wr_iZ (by omega) (by omega), Option.bind_some, Option.bind_some]
      have k := mg_text x (upd (m_text x) L (iZ c))
      generalize hy : ms_text x (upd (m_text x) L (iZ c)) = y at *
      obtain ⟨k01, k02, k03, k04, k05, k06, k07, k08, k09, k10, k11, k12, k13, k14, k15, k16, k17, k18⟩ := k
      have e1 : m_textLength y + 1 = iZ ((L + 1 : Nat) : Int) := by rw [k10, g10, hm.1, iZ_1, iZ_add, show (L : Int) + 1 = ((L + 1 : Nat) : Int) by omega]
      rw [e1]
      have q := mg_textLength y (iZ ((L + 1 : Nat) : Int))
      generalize hu : ms_textLength y (iZ ((L + 1 : Nat) : Int)) = u at *
      obtain ⟨q01, q02, q03, q04, q05, q06, q07, q08, q09, q10, q11, q12, q13, q14, q15, q16, q17, q18⟩ := q
      have e2 : t_length (ts_signs T (upd (t_signs T) L (iZ c))) + 1 = iZ ((L + 1 : Nat) : Int) := by
        show t_length T + 1 = _
        rw [hT.2.1, iZ_1, iZ_add, show (L : Int) + 1 = ((L + 1 : Nat) : Int) by omega]
      rw [e2, q10]
      refine ⟨_, _, _, _, rfl, rfl, ⟨?_, ?_, L + 1, fun i => if i = L then c else ch i, ⟨by omega, rfl, fun i hi => ?_⟩, q10, fun i hi => ?_⟩, Or.inl ⟨rfl, q01.trans (k01.trans g01)⟩⟩
      · obtain ⟨M, n, Q, c, H, hok, h, hs, hp, hh, hH⟩ := t0.1
        exact ⟨M, n, Q, c, H, hok, h, by rw [q02, k02]; exact hs, hp, RH.of hh (q05.trans k05) (q06.trans k06), hH⟩
      · intro i hi
        rw [q07, q08, k07, k08, g07, g08]
        exact is i hi
      · show upd (t_signs T) L (iZ c) i = _ ∧ _
        dsimp only
        by_cases e : i = L
        · rw [if_pos e, e, upd_same]
          exact ⟨rfl, cr⟩
        · rw [if_neg e, upd_ne e]
          exact hT.2.2 i (by omega)
      · rw [q09, k09]
        dsimp only
        by_cases e : i = L
        · rw [if_pos e, e, upd_same]
        · rw [if_neg e, upd_ne e, g09]
          exact hm.2 i (by omega)
    · rw [if_neg (by omega), if_pos (by omega), Option.bind_some, t2.2.2, if_neg d2]
      exact ⟨_, _, _, _, rfl, rfl, iw0.up t2.1 t2.2.1, Or.inr (Or.inr ⟨rfl, rfl, t2.2.2⟩)⟩
  · rw [if_neg cr, if_pos (show iZ 0 = 0 from rfl), if_pos (show iZ 0 = 0 from rfl), Option.bind_some, t1.2.2, if_neg d1]
    exact ⟨_, _, _, _, rfl, rfl, iw0.up t1.1 t1.2.1, Or.inr (Or.inl ⟨rfl, rfl, t1.2.2⟩)⟩
theorem s_checkSlot (z : Int) (h1 : -2147483648 ≤ z) (h2 : z < 2147483648) : ((0 ≤ z ∧ z ≤ 1) ∧ G_X8_checkSlot (iZ z) = some (.inr ()) ∧ G_X9_isSlot (iZ z) = some 1) ∨ (¬ (0 ≤ z ∧ z ≤ 1) ∧ G_X8_checkSlot (iZ z) = some (.inl 1) ∧ G_X9_isSlot (iZ z) = some 0) := by
  have i1 : G_X8_inRange (iZ z) 0 1 = some (iZ (if 0 ≤ z ∧ z ≤ 1 then 1 else 0)) := s_inRange z 0 1 h1 h2 (by omega) (by omega) (by omega) (by omega)
  unfold G_X8_checkSlot G_X9_isSlot
  rw [i1, Option.bind_some]
  by_cases c : 0 ≤ z ∧ z ≤ 1
  · left
    refine ⟨c, ?_, ?_⟩
    · rw [if_pos c, if_neg (show ¬ iZ 1 = 0 by decide)]
    · rcases (by omega : z = 0 ∨ z = 1) with rfl | rfl
      · rfl
      · rfl
  · right
    refine ⟨c, ?_, ?_⟩
    · rw [if_neg c, if_pos (show iZ 0 = 0 from rfl)]
    · rw [if_neg (show ¬ iZ z = 0 by rw [show (0 : Int32) = iZ 0 from rfl, iZ_eq h1 h2 (by omega) (by omega)]; omega), if_neg (show ¬ iZ z = 1 by rw [show (1 : Int32) = iZ 1 from rfl, iZ_eq h1 h2 (by omega) (by omega)]; omega)]
theorem o_save (iw : IW F P SL SV T m) (x : Int32) : ∃ a SL' SV' v m', G_X8_save F SL SV x = some (a, SL', SV') ∧ G_X9_save m x = some (v, m') ∧ IW F P SL' SV' T m' ∧ ((a = .inr v ∧ m_thrown m' = 0) ∨ (a = .inl 1 ∧ v = 0 ∧ m_thrown m' = 1)) := by
  obtain ⟨z, z1, z2, rfl⟩ := iZ_all x
  have t1 := iw.1.thr 1
  have iw0 := iw
  obtain ⟨⟨M, n, Q, c, H, hok, h, hs, hp, hh, hH⟩, is, it⟩ := iw
  have d1 : ¬ (1 : Int32) ≤ 0 := by decide
  have d0 : (0 : Int32) ≤ 0 := by decide
  unfold G_X8_save G_X9_save
  rcases s_checkSlot z z1 z2 with ⟨c1, e1, e2⟩ | ⟨c1, e1, e2⟩
  · obtain ⟨i, rfl⟩ : ∃ i : Nat, z = i := ⟨z.toNat, by omega⟩
    have hi : i < 2 := by omega
    obtain ⟨f1, ec, q1⟩ := s_copyFrom (f := SL i) h
    obtain ⟨g01, g02, g03, g04, g05, g06, g07, g08, g09, g10, g11, g12, g13, g14, g15, g16, g17, g18⟩ := mg_thrown m 0
    obtain ⟨w, ew, w1, w2⟩ := t_copy (n0 := 85) (n1 := 170) (w0 := m_state (ms_thrown m 0)) (w1 := m_slots (ms_thrown m 0)) (p := 0) (z := 85 * i) (by omega) (by omega) (by omega) (by omega)
    have ew : G_X9_copy 85 170 (m_state (ms_thrown m 0)) (m_slots (ms_thrown m 0)) 0 (iZ ((85 * i : Nat) : Int)) = some w := ew
    rw [e1, e2, Option.bind_some, Option.bind_some]
    dsimp only
    rw [rdx_iZ hi (by omega), Option.bind_some, ec, Option.bind_some, wr_iZ hi (by omega), Option.bind_some, if_neg (show ¬ (1 : Int32) = 0 by decide), Option.bind_some, g01, if_pos d0, Option.bind_some, iZ_85, iZ_mul, show (85 : Int) * (i : Int) = ((85 * i : Nat) : Int) by omega, ew, Option.bind_some, Option.bind_some]
    have k := mg_slots (ms_thrown m 0) w
    generalize hy : ms_slots (ms_thrown m 0) w = y at *
    obtain ⟨k01, k02, k03, k04, k05, k06, k07, k08, k09, k10, k11, k12, k13, k14, k15, k16, k17, k18⟩ := k
    rw [wr_iZ hi (by omega), Option.bind_some]
    have q := mg_isSaved y (upd (m_isSaved y) i 1)
    generalize hu : ms_isSaved y (upd (m_isSaved y) i 1) = u at *
    obtain ⟨q01, q02, q03, q04, q05, q06, q07, q08, q09, q10, q11, q12, q13, q14, q15, q16, q17, q18⟩ := q
    have hsu : RS (m_state u) M n Q := by rw [q02, k02, g02]; exact hs
    rw [t_cornerMany hsu, Option.bind_some, h.2.1]
    refine ⟨_, _, _, _, _, rfl, rfl, ⟨⟨M, n, Q, c, H, hok, h, hsu, hp, RH.of hh (q05.trans (k05.trans g05)) (q06.trans (k06.trans g06)), hH⟩, fun a ha => ?_, ?_⟩, Or.inl ⟨rfl, q01.trans (k01.trans g01)⟩⟩
    · have old := is a ha
      unfold updF
      rw [q07, q08, k07, k08, g08]
      by_cases e : a = i
      · rw [if_pos e, e, upd_same, upd_same]
        refine ⟨rfl, Or.inr ⟨rfl, M, n, Q, hok, q1, RS.congr hs (fun j hj => ?_)⟩⟩
        have := w1 j hj
        rw [Nat.zero_add, g02] at this
        exact this
      · rw [if_neg e, upd_ne e, upd_ne e]
        refine ⟨old.1, ?_⟩
        rcases old.2 with o | ⟨o, M', n', Q', o1, o2, o3⟩
        · exact Or.inl o
        · refine Or.inr ⟨o, M', n', Q', o1, o2, RS.congr o3 (fun j hj => ?_)⟩
          rw [w2 _ (by omega), g07]
    · obtain ⟨L, ch, hT, hm⟩ := it
      exact ⟨L, ch, hT, (q10.trans (k10.trans g10)).trans hm.1, fun a ha => by rw [q09, k09, g09]; exact hm.2 a ha⟩
  · rw [e1, e2, Option.bind_some, Option.bind_some]
    dsimp only
    rw [if_pos (show (0 : Int32) = 0 from rfl), Option.bind_some, t1.2.2, if_neg d1]
    exact ⟨_, _, _, _, _, rfl, rfl, iw0.up t1.1 t1.2.1, Or.inr ⟨rfl, rfl, t1.2.2⟩⟩
theorem o_restore (iw : IW F P SL SV T m) (x : Int32) : ∃ a F' P' v m', G_X8_restore F P SL SV x = some (a, F', P') ∧ G_X9_restore m x = some (v, m') ∧ IW F' P' SL SV T m' ∧ AN a v (m_thrown m') 1 3 := by
  obtain ⟨z, z1, z2, rfl⟩ := iZ_all x
  have t1 := iw.1.thr 1
  have t2 := iw.1.thr 2
  have iw0 := iw
  obtain ⟨⟨M, n, Q, c, H, hok, h, hs, hp, hh, hH⟩, is, it⟩ := iw
  have d1 : ¬ (1 : Int32) ≤ 0 := by decide
  have d2 : ¬ (2 : Int32) ≤ 0 := by decide
  have d0 : (0 : Int32) ≤ 0 := by decide
  have d10 : ¬ (1 : Int32) = 0 := by decide
  unfold G_X8_restore G_X9_restore
  rcases s_checkSlot z z1 z2 with ⟨c1, e1, e2⟩ | ⟨c1, e1, e2⟩
  · obtain ⟨i, rfl⟩ : ∃ i : Nat, z = i := ⟨z.toNat, by omega⟩
    have hi : i < 2 := by omega
    have old := is i hi
    rw [e1, e2, Option.bind_some, Option.bind_some]
    dsimp only
    rw [rd_iZ hi (by omega), Option.bind_some, if_neg d10, rd_iZ hi (by omega), Option.bind_some, old.1]
    rcases old.2 with o | ⟨o, M', n', Q', o1, o2, o3⟩
    · rw [o, if_pos rfl, if_neg (show ¬ (0 : Int32) = 1 by decide), Option.bind_some, t2.2.2, if_neg d2]
      exact ⟨_, _, _, _, _, rfl, rfl, iw0.up t2.1 t2.2.1, Or.inr (Or.inr ⟨rfl, rfl, t2.2.2⟩)⟩
    · obtain ⟨f1, ec, q1⟩ := s_copyFrom (f := F) o2
      obtain ⟨P', ep, rp⟩ := s_forgetAll (P := P) H
      obtain ⟨g01, g02, g03, g04, g05, g06, g07, g08, g09, g10, g11, g12, g13, g14, g15, g16, g17, g18⟩ := mg_thrown m 0
      obtain ⟨w, ew, w1, w2⟩ := t_copy (n0 := 170) (n1 := 85) (w0 := m_slots (ms_thrown m 0)) (w1 := m_state (ms_thrown m 0)) (p := 85 * i) (z := 0) (by omega) (by omega) (by omega) (by omega)
      have ew : G_X9_copy 170 85 (m_slots (ms_thrown m 0)) (m_state (ms_thrown m 0)) (iZ ((85 * i : Nat) : Int)) 0 = some w := ew
      rw [o, if_neg d10, if_pos rfl, Option.bind_some, rdx_iZ hi (by omega), Option.bind_some, ec, Option.bind_some, ep, Option.bind_some, g01, if_pos d0, Option.bind_some, iZ_85, iZ_mul, show (85 : Int) * (i : Int) = ((85 * i : Nat) : Int) by omega, ew, Option.bind_some, Option.bind_some]
      have k := mg_state (ms_thrown m 0) w
      generalize hy : ms_state (ms_thrown m 0) w = y at *
      obtain ⟨k01, k02, k03, k04, k05, k06, k07, k08, k09, k10, k11, k12, k13, k14, k15, k16, k17, k18⟩ := k
      have q := mg_remembered y 0
      generalize hu : ms_remembered y 0 = u at *
      obtain ⟨q01, q02, q03, q04, q05, q06, q07, q08, q09, q10, q11, q12, q13, q14, q15, q16, q17, q18⟩ := q
      have hsu : RS (m_state u) M' n' Q' := by
        rw [q02, k02]
        refine RS.congr o3 (fun j hj => ?_)
        have := w1 j hj
        rw [Nat.zero_add, g07] at this
        exact this
      rw [t_cornerMany hsu, Option.bind_some, q1.2.1]
      refine ⟨_, _, _, _, _, rfl, rfl, ⟨⟨M', n', Q', 0, H, o1, q1, hsu, rp, ⟨by omega, q06, fun a ha => absurd ha (Nat.not_lt_zero a)⟩, fun a ha => absurd ha (Nat.not_lt_zero a)⟩, is.of ⟨q07.trans (k07.trans g07), q08.trans (k08.trans g08), q09.trans (k09.trans g09), q10.trans (k10.trans g10)⟩, it.of ⟨q07.trans (k07.trans g07), q08.trans (k08.trans g08), q09.trans (k09.trans g09), q10.trans (k10.trans g10)⟩⟩, Or.inl ⟨rfl, q01.trans (k01.trans g01)⟩⟩
  · rw [e1, e2, Option.bind_some, Option.bind_some]
    dsimp only
    rw [if_pos (show (0 : Int32) = 0 from rfl), Option.bind_some, t1.2.2, if_neg d1]
    exact ⟨_, _, _, _, _, rfl, rfl, iw0.up t1.1 t1.2.1, Or.inr (Or.inl ⟨rfl, rfl, t1.2.2⟩)⟩
end OPS
