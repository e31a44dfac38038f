/-! the operations runScript and simulate -/
def iL (z : Int) : Int64 := Int64.ofInt z
theorem iL_all (x : Int64) : ∃ z : Int, -9223372036854775808 ≤ z ∧ z < 9223372036854775808 ∧ x = iL z := ⟨x.toInt, Int64.le_toInt x, Int64.toInt_lt x, (Int64.ofInt_toInt x).symm⟩
theorem iL_toInt {z : Int} (h1 : -9223372036854775808 ≤ z) (h2 : z < 9223372036854775808) : (iL z).toInt = z := Int64.toInt_ofInt_of_le h1 h2
theorem ite_lcmp {α : Type} {a b : Int} {x y : α} {i : Decidable (lg_cmp (iL a) (iL b) < 0)} (h : -9223372036854775808 ≤ a ∧ a < 9223372036854775808 ∧ -9223372036854775808 ≤ b ∧ b < 9223372036854775808) : @ite α (lg_cmp (iL a) (iL b) < 0) i x y = if a < b then x else y := by
  have e : (lg_cmp (iL a) (iL b) < 0) ↔ a < b := by rw [lg_cmp_lt, Int64.lt_iff_toInt_lt, iL_toInt h.1 h.2.1, iL_toInt h.2.2.1 h.2.2.2]
  by_cases c : a < b
  · rw [if_pos c, if_pos (e.mpr c)]
  · rw [if_neg c, if_neg (fun w => c (e.mp w))]
theorem iL_div {a b : Int} (h1 : 0 ≤ a) (h2 : a < 9223372036854775808) (h3 : 1 ≤ b) (h4 : b < 9223372036854775808) : iL a / iL b = iL (a / b) := by
  rw [← Int.tdiv_eq_ediv_of_nonneg h1]
  exact (Int64.ofInt_tdiv (by show (-9223372036854775808 : Int) ≤ _; omega) (by show _ ≤ (9223372036854775807 : Int); omega) (by show (-9223372036854775808 : Int) ≤ _; omega) (by show _ ≤ (9223372036854775807 : Int); omega)).symm
theorem iL_six {q : Int} (h1 : 0 ≤ q) (h2 : q < 9223372036854775808) : ∃ z : Int, (0 ≤ z ∧ z < 1000000) ∧ ((iL q - iL q / 1000000 * 1000000).toInt32) = iZ z := by
  refine ⟨q - q / 1000000 * 1000000, by omega, ?_⟩
  rw [show (1000000 : Int64) = iL 1000000 from rfl, iL_div h1 h2 (by omega) (by omega)]
  unfold iL
  rw [← Int64.ofInt_mul, ← Int64.ofInt_sub, Int64.toInt32_ofInt]
  rfl
def uN : Nat → Int64
  | 0 => 0
  | 1 => 1
  | 2 => 1000000
  | _ => 1000000000000
def uZ : Nat → Int
  | 0 => 0
  | 1 => 1
  | 2 => 1000000
  | _ => 1000000000000
theorem uN_c {d : Nat} (h : d < 3) : uN (d + 1) = iL (uZ (d + 1)) ∧ (1 ≤ uZ (d + 1) ∧ uZ (d + 1) ≤ 1000000000000) ∧ uN (d + 1) / 1000000 = uN d ∧ ¬ lg_cmp (uN (d + 1)) 0 ≤ 0 ∧ ¬ uN (d + 1) = 0 := by
  rcases (by omega : d = 0 ∨ d = 1 ∨ d = 2) with rfl | rfl | rfl
  · exact ⟨rfl, ⟨by decide, by decide⟩, by decide, by decide, by decide⟩
  · exact ⟨rfl, ⟨by decide, by decide⟩, by decide, by decide, by decide⟩
  · exact ⟨rfl, ⟨by decide, by decide⟩, by decide, by decide, by decide⟩
theorem bnd_64 {c d : Prop} {i : Decidable c} {j : Decidable d} {a b e : Int64} {β : Type} {k : Int64 → Option β} : ((@ite (Option Int64) c i (some a) (@ite (Option Int64) d j (some b) (some e))).bind k) = k (@ite Int64 c i a (@ite Int64 d j b e)) := by
  by_cases h : c
  · rw [if_pos h, if_pos h]; rfl
  · rw [if_neg h, if_neg h]
    by_cases g : d
    · rw [if_pos g, if_pos g]; rfl
    · rw [if_neg g, if_neg g]; rfl
section OPS
variable {F : Fig} {P : PastS} {m : Mod} {M : Nat → Nat} {n : Nat} {Q : Nat → Pt}
theorem o_scrL (F : Fig) {z : Int} (z0 : 0 ≤ z) (z1 : z < 1000000000000000000) : ∀ d : Nat, d ≤ 3 → ∀ (i u : Nat) (f : Fig) (m : Mod) (M : Nat → Nat) (n : Nat) (Q : Nat → Pt), i + d ≤ 3 → RF f M n Q → RS (m_state m) M n Q → gm_ok M n Q →
    ∃ v f' m', G_X8_runScript_L88 F (u + d + 1) f (iZ (i : Int)) (uN d) (iZ ((i + d : Nat) : Int)) (iL z) = some (.inr v, f') ∧ G_X9_runScript_L96 (u + d + 1) m (iZ (i : Int)) (uN d) (-9) (iZ ((i + d : Nat) : Int)) (iL z) = G_X9_runScript_j148 m' v ∧ SK m m' := by
  intro d
  induction d with
  | zero =>
    intro hd i u f m M n Q hi h hs hok
    refine ⟨-9, f, m, ?_, ?_, SK.rfl' m⟩
    · rw [G_X8_runScript_L88, ite_le (by omega), if_pos (by omega)]
    · rw [G_X9_runScript_L96, ite_le (by omega), if_pos (by omega)]
  | succ d ih =>
    intro hd i u f m M n Q hi h hs hok
    obtain ⟨u1, ⟨u2, u2'⟩, u3, u4, u5⟩ := uN_c (d := d) (by omega)
    have dv : dvL (iL z) (uN (d + 1)) = some (iL (z / uZ (d + 1))) := by
      unfold dvL
      rw [if_neg u5, u1, iL_div z0 (by omega) u2 (by omega)]
    have q0 : 0 ≤ z / uZ (d + 1) := Int.ediv_nonneg z0 (by omega)
    have q1 : z / uZ (d + 1) ≤ z := Int.ediv_le_self _ z0
    obtain ⟨c, ⟨c0, c1⟩, ec⟩ := iL_six q0 (by omega)
    obtain ⟨f', m', sk, w⟩ := j_command h hs hok c0 c1
    rw [G_X8_runScript_L88, G_X9_runScript_L96, ite_le (by omega), if_neg (show ¬ ((i + (d + 1) : Nat) : Int) ≤ (i : Int) by omega), if_neg u4, ite_le (by omega), if_neg (show ¬ ((i + (d + 1) : Nat) : Int) ≤ (i : Int) by omega), if_pos rfl, dv, Option.bind_some, Option.bind_some, ec]
    rcases w with ⟨e, e'⟩ | ⟨e, e', M', n', Q', ok', rf', rs'⟩
    · rw [e, e', Option.bind_some, Option.bind_some]
      dsimp only
      rw [if_pos rfl, if_pos rfl, Option.bind_some]
      refine ⟨_, f', m', rfl, ?_, sk⟩
      rw [show u + (d + 1) = (u + d) + 1 by omega, G_X9_runScript_L96, iZ_1, iZ_add, ite_le (by omega)]
      by_cases g : ((i + (d + 1) : Nat) : Int) ≤ (i : Int) + 1
      · rw [if_pos g]
      · rw [if_neg g, if_neg (show ¬ iZ (i : Int) = -9 by rw [show (-9 : Int32) = iZ (-9) from rfl, iZ_eq (by omega) (by omega) (by omega) (by omega)]; omega)]
    · rw [e, e', Option.bind_some, Option.bind_some]
      dsimp only
      rw [if_neg (show ¬ (1 : Int32) = 0 by decide), if_neg (show ¬ (1 : Int32) = 0 by decide), Option.bind_some, u3]
      obtain ⟨v, f2, m2, a1, a2, a3⟩ := ih (by omega) (i + 1) u f' m' M' n' Q' (by omega) rf' rs' ok'
      refine ⟨v, f2, m2, ?_, ?_, SK.trans sk a3⟩
      · rw [iZ_1, iZ_add, show (i : Int) + 1 = ((i + 1 : Nat) : Int) by omega, show i + (d + 1) = i + 1 + d by omega, show u + (d + 1) = u + d + 1 by omega]
        exact a1
      · rw [iZ_1, iZ_add, show (i : Int) + 1 = ((i + 1 : Nat) : Int) by omega, show i + (d + 1) = i + 1 + d by omega, show u + (d + 1) = u + d + 1 by omega]
        exact a2
def uB : Nat → Int
  | 0 => 1
  | 1 => 1000000
  | 2 => 1000000000000
  | _ => 1000000000000000000
theorem s_script (F D : Fig) {d : Nat} (hd : 1 ≤ d ∧ d ≤ 3) {z : Int} (h1 : -9223372036854775808 ≤ z) (h2 : z < 9223372036854775808) : G_X8_runScript F D (iZ (d : Int)) (iL z) = if 0 ≤ z ∧ z < uB d then (G_X1_copyFrom D F).bind (fun v => G_X8_runScript_L88 F FU v 0 (uN d) (iZ (d : Int)) (iL z)) else some (.inl 2, D) := by
  have i1 : G_X8_inRange (iZ (d : Int)) 1 3 = some (iZ (if 1 ≤ (d : Int) ∧ (d : Int) ≤ 3 then 1 else 0)) := s_inRange (d : Int) 1 3 (by omega) (by omega) (by omega) (by omega) (by omega) (by omega)
  have fin : ∀ (u : Nat), G_X8_runScript_L26 F (u + 1) D (iZ (d : Int)) (uN d) (iZ (d : Int)) (iL z) = if 0 ≤ z ∧ z < uB d then (G_X1_copyFrom D F).bind (fun v => G_X8_runScript_L88 F FU v 0 (uN d) (iZ (d : Int)) (iL z)) else some (.inl 2, D) := by
    intro u
    obtain ⟨e, rfl⟩ : ∃ e, d = e + 1 := ⟨d - 1, by omega⟩
    obtain ⟨u1, ⟨u2, u2'⟩, u3, u4, u5⟩ := uN_c (d := e) (by omega)
    rw [G_X8_runScript_L26, ite_le (by omega), if_pos (by omega), show (0 : Int64) = iL 0 from rfl, ite_lcmp (by omega)]
    by_cases c0 : z < 0
    · rw [if_pos c0, if_neg (by omega)]
    · have dv : dvL (iL z) (uN (e + 1)) = some (iL (z / uZ (e + 1))) := by
        unfold dvL
        rw [if_neg u5, u1, iL_div (by omega) h2 u2 (by omega)]
      have q0 : 0 ≤ z / uZ (e + 1) := Int.ediv_nonneg (by omega) (by omega)
      have q1 : z / uZ (e + 1) ≤ z := Int.ediv_le_self _ (by omega)
      rw [if_neg c0, dv, Option.bind_some, show (1000000 : Int64) = iL 1000000 from rfl, ite_lcmp (by omega)]
      have eq : z / uZ (e + 1) < 1000000 ↔ z < uB (e + 1) := by
        rcases (by omega : e = 0 ∨ e = 1 ∨ e = 2) with rfl | rfl | rfl
        · show z / 1 < 1000000 ↔ z < 1000000
          omega
        · show z / 1000000 < 1000000 ↔ z < 1000000000000
          omega
        · show z / 1000000000000 < 1000000 ↔ z < 1000000000000000000
          omega
      by_cases c : z < uB (e + 1)
      · rw [if_pos (eq.mpr c), if_pos ⟨by omega, c⟩]
      · rw [if_neg (fun w => c (eq.mp w)), if_neg (fun w => c w.2)]
  obtain ⟨u, hu⟩ : ∃ u, FU = u + 3 := ⟨999997, rfl⟩
  unfold G_X8_runScript
  rw [i1, Option.bind_some, if_pos (show 1 ≤ (d : Int) ∧ (d : Int) ≤ 3 by omega), if_neg (show ¬ iZ 1 = 0 by decide)]
  have m1 : (1 : Int64) * 1000000 = uN 2 := by decide
  have m2 : uN 2 * 1000000 = uN 3 := by decide
  have p1 : (1 : Int32) + 1 = iZ ((2 : Nat) : Int) := by decide
  have p2 : iZ ((2 : Nat) : Int) + 1 = iZ ((3 : Nat) : Int) := by decide
  rcases (by omega : d = 1 ∨ d = 2 ∨ d = 3) with rfl | rfl | rfl
  · have := fin (u + 2)
    rw [← hu] at this
    exact this
  · have e : G_X8_runScript_L26 F FU D 1 1 (iZ ((2 : Nat) : Int)) (iL z) = G_X8_runScript_L26 F (u + 1 + 1) D (iZ ((2 : Nat) : Int)) (uN 2) (iZ ((2 : Nat) : Int)) (iL z) := by
      rw [hu, G_X8_runScript_L26, if_neg (show ¬ iZ ((2 : Nat) : Int) ≤ 1 by decide), m1, p1]
    rw [e]
    exact fin (u + 1)
  · have e : G_X8_runScript_L26 F FU D 1 1 (iZ ((3 : Nat) : Int)) (iL z) = G_X8_runScript_L26 F (u + 1) D (iZ ((3 : Nat) : Int)) (uN 3) (iZ ((3 : Nat) : Int)) (iL z) := by
      rw [hu, G_X8_runScript_L26, if_neg (show ¬ iZ ((3 : Nat) : Int) ≤ 1 by decide), m1, p1, G_X8_runScript_L26, if_neg (show ¬ iZ ((3 : Nat) : Int) ≤ iZ ((2 : Nat) : Int) by decide), m2, p2]
    rw [e]
    exact fin u
theorem t_script (m : Mod) {d : Nat} (hd : 1 ≤ d ∧ d ≤ 3) {z : Int} (h1 : -9223372036854775808 ≤ z) (h2 : z < 9223372036854775808) : G_X9_runScript m (iZ (d : Int)) (iL z) = if 0 ≤ z ∧ z < uB d then (G_X9_copy 85 85 (m_state (ms_thrown m 0)) (m_scriptKept (ms_thrown m 0)) 0 0).bind (fun v => G_X9_runScript_L96 FU (ms_scriptKept (ms_thrown m 0) v) 0 (uN d) (-9) (iZ (d : Int)) (iL z)) else some (0, ms_thrown m 1) := by
  have t0 : m_thrown (ms_thrown m 0) = 0 := (mg_thrown m 0).1
  have t1 : m_thrown (ms_thrown m 1) = 1 := (mg_thrown m 1).1
  have d1 : ¬ (1 : Int32) ≤ 0 := by decide
  have d0 : (0 : Int32) ≤ 0 := by decide
  have key : ∀ b : Int, uB d = b → b < 9223372036854775808 → iL b / 1000000 = uN d → 0 ≤ b → (((if lg_cmp (iL z) 0 < 0 then some 1 else if lg_cmp (iL z) (iL b) < 0 then some 0 else some 1) : Option (Int32)).bind fun b30 =>
  if m_thrown (ms_thrown m b30) ≤ 0 then
    (some (ms_thrown m b30)).bind fun z0_78 =>
    (G_X9_copy 85 85 (m_state (z0_78)) (m_scriptKept (z0_78)) 0 0).bind fun v78 =>
    G_X9_runScript_L96 FU (ms_scriptKept z0_78 v78) 0 (iL b / 1000000) (-9) (iZ (d : Int)) (iL z)
  else
    some (0, ms_thrown m b30)) = if 0 ≤ z ∧ z < uB d then (G_X9_copy 85 85 (m_state (ms_thrown m 0)) (m_scriptKept (ms_thrown m 0)) 0 0).bind (fun v => G_X9_runScript_L96 FU (ms_scriptKept (ms_thrown m 0) v) 0 (uN d) (-9) (iZ (d : Int)) (iL z)) else some (0, ms_thrown m 1) := by
    intro b eb hb ed hb0
    rw [eb, ed, show (0 : Int64) = iL 0 from rfl, ite_lcmp (by omega), ite_lcmp (by omega)]
    by_cases c0 : z < 0
    · rw [if_pos c0, Option.bind_some, t1, if_neg d1, if_neg (by omega)]
    · rw [if_neg c0]
      by_cases c1 : z < b
      · rw [if_pos c1, Option.bind_some, t0, if_pos d0, Option.bind_some, if_pos (by omega)]
      · rw [if_neg c1, Option.bind_some, t1, if_neg d1, if_neg (by omega)]
  unfold G_X9_runScript
  rcases (by omega : d = 1 ∨ d = 2 ∨ d = 3) with rfl | rfl | rfl
  · rw [if_pos (show iZ ((1 : Nat) : Int) = 1 from rfl), Option.bind_some, if_neg (show ¬ iZ ((1 : Nat) : Int) < 1 by decide), if_neg (show ¬ 3 < iZ ((1 : Nat) : Int) by decide)]
    exact key 1000000 rfl (by decide) (by decide) (by decide)
  · rw [if_neg (show ¬ iZ ((2 : Nat) : Int) = 1 by decide), if_pos (show iZ ((2 : Nat) : Int) = 2 from rfl), Option.bind_some, if_neg (show ¬ iZ ((2 : Nat) : Int) < 1 by decide), if_neg (show ¬ 3 < iZ ((2 : Nat) : Int) by decide)]
    exact key 1000000000000 rfl (by decide) (by decide) (by decide)
  · rw [if_neg (show ¬ iZ ((3 : Nat) : Int) = 1 by decide), if_neg (show ¬ iZ ((3 : Nat) : Int) = 2 by decide), Option.bind_some, if_neg (show ¬ iZ ((3 : Nat) : Int) < 1 by decide), if_neg (show ¬ 3 < iZ ((3 : Nat) : Int) by decide)]
    exact key 1000000000000000000 rfl (by decide) (by decide) (by decide)
theorem uB_le {d : Nat} : uB d ≤ 1000000000000000000 := by
  unfold uB
  split <;> decide
/-- a scratch copy of the state, and the state put back out of it -/
theorem t_keepS (m : Mod) : ∃ w m1, G_X9_copy 85 85 (m_state m) (m_scriptKept m) 0 0 = some w ∧ ms_scriptKept m w = m1 ∧ m_state m1 = m_state m ∧ (∀ i, i < 85 → m_scriptKept m1 i = m_state m i) ∧ m_thrown m1 = m_thrown m ∧ m_history m1 = m_history m ∧ m_remembered m1 = m_remembered m ∧ SZ m m1 := by
  obtain ⟨w, e, c, -⟩ := t_copy (n0 := 85) (n1 := 85) (w0 := m_state m) (w1 := m_scriptKept m) (p := 0) (z := 0) (by omega) (by omega) (by omega) (by omega)
  obtain ⟨g01, g02, g03, g04, g05, g06, g07, g08, g09, g10, g11, g12, g13, g14, g15, g16, g17, g18⟩ := mg_scriptKept m w
  refine ⟨w, ms_scriptKept m w, e, rfl, g02, fun i hi => ?_, g01, g05, g06, g07, g08, g09, g10⟩
  have := c i hi
  rw [Nat.zero_add] at this
  rw [g04]; exact this
theorem t_backS {m1 m2 : Mod} (sk : SK m1 m2) : ∃ w m3, G_X9_copy 85 85 (m_scriptKept m2) (m_state m2) 0 0 = some w ∧ ms_state m2 w = m3 ∧ (∀ i, i < 85 → m_state m3 i = m_scriptKept m1 i) ∧ m_thrown m3 = m_thrown m1 ∧ m_history m3 = m_history m1 ∧ m_remembered m3 = m_remembered m1 ∧ SZ m1 m3 := by
  obtain ⟨u1, u2, u3, u4, u5, u6, u7, u8, u9⟩ := sk
  obtain ⟨w, e, c, -⟩ := t_copy (n0 := 85) (n1 := 85) (w0 := m_scriptKept m2) (w1 := m_state m2) (p := 0) (z := 0) (by omega) (by omega) (by omega) (by omega)
  obtain ⟨g01, g02, g03, g04, g05, g06, g07, g08, g09, g10, g11, g12, g13, g14, g15, g16, g17, g18⟩ := mg_state m2 w
  refine ⟨w, ms_state m2 w, e, rfl, fun i hi => ?_, g01.trans u1, g05.trans u3, g06.trans u4, g07.trans u5, g08.trans u6, g09.trans u7, g10.trans u8⟩
  have := c i hi
  rw [Nat.zero_add] at this
  rw [g02, this, u2]
theorem o_runScript (iv : IV F P m) (D : Fig) (x : Int32) (y : Int64) : ∃ a D' v m', G_X8_runScript F D x y = some (a, D') ∧ G_X9_runScript m x y = some (v, m') ∧ IV F P m' ∧ SZ m m' ∧ ((a = .inr v ∧ m_thrown m' = 0) ∨ (a = .inl 2 ∧ v = 0 ∧ m_thrown m' = 1)) := by
  obtain ⟨r, r1, r2, rfl⟩ := iZ_all x
  obtain ⟨z, z1, z2, rfl⟩ := iL_all y
  have t1 := iv.thr 1
  obtain ⟨M, n, Q, c, H, hok, h, hs, hp, hh, hH⟩ := iv
  by_cases cr : 1 ≤ r ∧ r ≤ 3
  · obtain ⟨d, rfl⟩ : ∃ d : Nat, r = d := ⟨r.toNat, by omega⟩
    rw [s_script F D (by omega) z1 z2, t_script m (by omega) z1 z2]
    by_cases cz : 0 ≤ z ∧ z < uB d
    · rw [if_pos cz, if_pos cz]
      have := uB_le (d := d)
      obtain ⟨f1, ec, q1⟩ := s_copyFrom (f := D) h
      obtain ⟨g01, g02, g03, g04, g05, g06, g07, g08, g09, g10, g11, g12, g13, g14, g15, g16, g17, g18⟩ := mg_thrown m 0
      obtain ⟨w, m1, ew, em, s1, s2, s3, s4, s5, ⟨s6, s7, s8, s9⟩⟩ := t_keepS (ms_thrown m 0)
      have hs1 : RS (m_state m1) M n Q := by rw [s1, g02]; exact hs
      obtain ⟨u, hu⟩ : ∃ u, FU = u + d + 1 := ⟨999999 - d, by unfold FU; omega⟩
      obtain ⟨v, f2, m2, a1, a2, a3⟩ := o_scrL F cz.1 (by omega) d (by omega) 0 u f1 m1 M n Q (by omega) q1 hs1 hok
      rw [Nat.zero_add] at a1 a2
      rw [← hu] at a1 a2
      have a1 : G_X8_runScript_L88 F FU f1 0 (uN d) (iZ (d : Int)) (iL z) = some (.inr v, f2) := a1
      have a2 : G_X9_runScript_L96 FU m1 0 (uN d) (-9) (iZ (d : Int)) (iL z) = G_X9_runScript_j148 m2 v := a2
      obtain ⟨w3, m3, e3, em3, b1, b2, b3, b4, ⟨b5, b6, b7, b8⟩⟩ := t_backS a3
      rw [ec, Option.bind_some, a1, ew, Option.bind_some, em, a2]
      unfold G_X9_runScript_j148
      rw [e3, Option.bind_some, em3]
      refine ⟨_, _, _, _, rfl, rfl, ⟨M, n, Q, c, H, hok, h, ?_, hp, RH.of hh (b3.trans (s4.trans g05)) (b4.trans (s5.trans g06)), hH⟩, ⟨b5.trans (s6.trans g07), b6.trans (s7.trans g08), b7.trans (s8.trans g09), b8.trans (s9.trans g10)⟩, Or.inl ⟨rfl, b2.trans (s3.trans g01)⟩⟩
      exact RS.congr hs (fun i hi => by rw [b1 i hi, s2 i hi, g02])
    · rw [if_neg cz, if_neg cz]
      exact ⟨_, _, _, _, rfl, rfl, t1.1, t1.2.1, Or.inr ⟨rfl, rfl, t1.2.2⟩⟩
  · have i1 : G_X8_inRange (iZ r) 1 3 = some (iZ (if 1 ≤ r ∧ r ≤ 3 then 1 else 0)) := s_inRange r 1 3 (by omega) (by omega) (by omega) (by omega) (by omega) (by omega)
    have d1 : ¬ (1 : Int32) ≤ 0 := by decide
    unfold G_X8_runScript G_X9_runScript
    rw [i1, Option.bind_some, if_neg cr, if_pos (show iZ 0 = 0 from rfl), bnd_64, show (1 : Int32) = iZ 1 from rfl, show (3 : Int32) = iZ 3 from rfl]
    refine ⟨_, _, 0, ms_thrown m 1, rfl, ?_, t1.1, t1.2.1, Or.inr ⟨rfl, rfl, t1.2.2⟩⟩
    by_cases c1 : r < 1
    · rw [ite_lt (by omega), if_pos c1, Option.bind_some]
      have q := t1.2.2
      have q : m_thrown (ms_thrown m (iZ 1)) = iZ 1 := q
      rw [q, if_neg (show ¬ iZ 1 ≤ 0 by decide)]
      rfl
    · rw [ite_lt (by omega), if_neg c1, ite_lt (by omega), if_pos (by omega), Option.bind_some]
      have q := t1.2.2
      have q : m_thrown (ms_thrown m (iZ 1)) = iZ 1 := q
      rw [q, if_neg (show ¬ iZ 1 ≤ 0 by decide)]
      rfl
end OPS
