/-! the second class: its cells when it changes -/
def SK (m m' : Mod) : Prop := m_thrown m' = m_thrown m ∧ m_scriptKept m' = m_scriptKept m ∧ m_history m' = m_history m ∧ m_remembered m' = m_remembered m ∧ m_slots m' = m_slots m ∧ m_isSaved m' = m_isSaved m ∧ m_text m' = m_text m ∧ m_textLength m' = m_textLength m ∧ m_cuts m' = m_cuts m
theorem SK.rfl' (m : Mod) : SK m m := ⟨rfl, rfl, rfl, rfl, rfl, rfl, rfl, rfl, rfl⟩
theorem SK.trans {a b c : Mod} (h : SK a b) (k : SK b c) : SK a c := by
  obtain ⟨h1, h2, h3, h4, h5, h6, h7, h8, h9⟩ := h
  obtain ⟨k1, k2, k3, k4, k5, k6, k7, k8, k9⟩ := k
  exact ⟨k1.trans h1, k2.trans h2, k3.trans h3, k4.trans h4, k5.trans h5, k6.trans h6, k7.trans h7, k8.trans h8, k9.trans h9⟩
theorem SM.toSK {a b : Mod} (h : SM a b) : SK a b := by
  obtain ⟨h1, h2, h3, h4, h5, h6, h7, h8, h9, h10⟩ := h
  exact ⟨h1, h3, h4, h5, h6, h7, h8, h9, h10⟩
theorem RS.congr {st st' : Nat → Int32} {M : Nat → Nat} {n : Nat} {Q : Nat → Pt} (h : RS st M n Q) (e : ∀ i, i < 85 → st' i = st i) : RS st' M n Q := by
  obtain ⟨h1, h2, h3, h4⟩ := h
  refine ⟨(e 0 (by omega)).trans h1, h2, fun r hr => ⟨(h3 r hr).1, (e _ (by omega)).trans (h3 r hr).2⟩, fun r k hr hk => ?_⟩
  have := (h3 r hr).1
  exact ⟨(e _ (by omega)).trans (h4 r k hr hk).1, (e _ (by omega)).trans (h4 r k hr hk).2⟩
theorem t_copy {n0 n1 : Nat} {w0 w1 : Nat → Int32} {p z : Nat} (h0 : p + 85 ≤ n0) (h1 : z + 85 ≤ n1) (b0 : n0 < 100000) (b1 : n1 < 100000) :
    ∃ w', G_X9_copy n0 n1 w0 w1 (iZ (p : Int)) (iZ (z : Int)) = some w' ∧ (∀ i, i < 85 → w' (z + i) = w0 (p + i)) ∧ (∀ j, (j < z ∨ z + 85 ≤ j) → w' j = w1 j) := by
  obtain ⟨w', ⟨i1, i2⟩, e⟩ := lp_inv (L := fun k (w : Nat → Int32) c => G_X9_copy_L3 n0 n1 w0 k w c (iZ (p : Int)) (iZ (z : Int))) (N := 85) (I := fun c w => (∀ i, i < c → w (z + i) = w0 (p + i)) ∧ (∀ j, (j < z ∨ z + 85 ≤ j) → w j = w1 j)) (K := fun w => some w)
    (fun k c w hc hI => by
      refine ⟨upd w (z + c) (w0 (p + c)), ⟨fun i hi => ?_, fun j hj => ?_⟩, ?_⟩
      · by_cases e : i = c
        · rw [e, upd_same]
        · rw [upd_ne (by omega)]; exact hI.1 i (by omega)
      · rw [upd_ne (by omega)]; exact hI.2 j hj
      · rw [G_X9_copy_L3, iZ_85, ite_le (by omega), if_neg (by omega), iZ_add, iZ_add, show (p : Int) + (c : Int) = ((p + c : Nat) : Int) by omega, show (z : Int) + (c : Int) = ((z + c : Nat) : Int) by omega, rd_iZ (by omega) (by omega), Option.bind_some, wr_iZ (by omega) (by omega), Option.bind_some, iZ_1, iZ_add])
    (fun k w hI => by rw [G_X9_copy_L3, iZ_85, ite_le (by omega), if_pos (by omega)])
    85 0 FU w1 (by omega) (by unfold FU; omega) ⟨fun i hi => absurd hi (Nat.not_lt_zero i), fun j _ => rfl⟩
  exact ⟨w', e, i1, i2⟩
section REF
variable {m : Mod} {M : Nat → Nat} {n : Nat} {Q : Nat → Pt}
theorem t_begin (m : Mod) : ∃ m', G_X9_begin m = some m' ∧ m_state m' = m_state m ∧ (∀ i, i < 85 → m_kept m' i = m_state m i) ∧ SK m m' := by
  obtain ⟨w, e, h1, -⟩ := t_copy (n0 := 85) (n1 := 85) (w0 := m_state m) (w1 := m_kept m) (p := 0) (z := 0) (by omega) (by omega) (by omega) (by omega)
  have e : G_X9_copy 85 85 (m_state m) (m_kept m) 0 0 = some w := e
  unfold G_X9_begin
  rw [e, Option.bind_some]
  generalize hx : ms_kept m w = x
  have g := mg_kept m w
  rw [hx] at g
  obtain ⟨g01, g02, g03, g04, g05, g06, g07, g08, g09, g10, g11, g12, g13, g14, g15, g16, g17, g18⟩ := g
  refine ⟨x, rfl, g02, fun i hi => ?_, g01, g04, g05, g06, g07, g08, g09, g10, g18⟩
  rw [g03]
  have := h1 i hi
  rw [Nat.zero_add] at this
  exact this
theorem t_setCorner (m : Mod) {r k : Nat} (hr : r < 4) (hk : k < 10) (x y : Int32) : ∃ m', G_X9_setCorner m (iZ (r : Int)) (iZ (k : Int)) x y = some m' ∧ m_state m' = upd (upd (m_state m) (5 + 20 * r + 2 * k) x) (5 + 20 * r + 2 * k + 1) y ∧ m_kept m' = m_kept m ∧ SK m m' := by
  unfold G_X9_setCorner
  rw [iZ_5, iZ_20, iZ_2, iZ_mul, iZ_mul, iZ_add, iZ_add, iZ_1, iZ_add, show (5 : Int) + 20 * (r : Int) + 2 * (k : Int) + 1 = ((5 + 20 * r + 2 * k + 1 : Nat) : Int) by omega, show (5 : Int) + 20 * (r : Int) + 2 * (k : Int) = ((5 + 20 * r + 2 * k : Nat) : Int) by omega, wr_iZ (by omega) (by omega), Option.bind_some, Option.bind_some]
  generalize h1 : ms_state m (upd (m_state m) (5 + 20 * r + 2 * k) x) = s1
  have a := mg_state m (upd (m_state m) (5 + 20 * r + 2 * k) x)
  rw [h1] at a
  obtain ⟨a01, a02, a03, a04, a05, a06, a07, a08, a09, a10, a11, a12, a13, a14, a15, a16, a17, a18⟩ := a
  rw [a02, wr_iZ (by omega) (by omega), Option.bind_some]
  generalize h2 : ms_state s1 (upd (upd (m_state m) (5 + 20 * r + 2 * k) x) (5 + 20 * r + 2 * k + 1) y) = s2
  have b := mg_state s1 (upd (upd (m_state m) (5 + 20 * r + 2 * k) x) (5 + 20 * r + 2 * k + 1) y)
  rw [h2] at b
  obtain ⟨b01, b02, b03, b04, b05, b06, b07, b08, b09, b10, b11, b12, b13, b14, b15, b16, b17, b18⟩ := b
  exact ⟨s2, rfl, b02, b03.trans a03, b01.trans a01, b04.trans a04, b05.trans a05, b06.trans a06, b07.trans a07, b08.trans a08, b09.trans a09, b10.trans a10, b18.trans a18⟩
theorem RS.place {st : Nat → Int32} (h : RS st M n Q) {r k : Nat} (hr : r < n) (hk : k < M r) (x y : Int) : RS (upd (upd st (5 + 20 * r + 2 * k) (iZ x)) (5 + 20 * r + 2 * k + 1) (iZ y)) M n (upQ Q (gm_fst M r + k) (x, y)) := by
  obtain ⟨h1, h2, h3, h4⟩ := h
  have hM := (h3 r hr).1
  refine ⟨?_, h2, fun s hs => ⟨(h3 s hs).1, ?_⟩, fun s l hs hl => ?_⟩
  · rw [upd_ne (by omega), upd_ne (by omega)]; exact h1
  · rw [upd_ne (by omega), upd_ne (by omega)]; exact (h3 s hs).2
  · have hMs := (h3 s hs).1
    unfold upQ
    by_cases c : s = r ∧ l = k
    · obtain ⟨rfl, rfl⟩ := c
      rw [if_pos rfl, upd_ne (by omega), upd_same, upd_same]
      exact ⟨rfl, rfl⟩
    · have ne : gm_fst M s + l ≠ gm_fst M r + k := fun w => c (gm_flat_inj hs hl hr hk w)
      rw [if_neg ne, upd_ne (by omega), upd_ne (by omega), upd_ne (by omega), upd_ne (by omega)]
      exact h4 s l hs hl
theorem t_end (hs : RS (m_state m) M n Q) (hq : gm_fit M n Q) (hn : 1 ≤ n) (h3 : ∀ r, r < n → 3 ≤ M r) :
    ∃ z m', (0 ≤ z ∧ z ≤ 5) ∧ gm_brk M n Q z ∧ G_X9_end m = some (iZ (if z = 0 then 0 else 2), m') ∧ SK m m' ∧ m_kept m' = m_kept m ∧ (z = 0 → m_state m' = m_state m) ∧ (z ≠ 0 → ∀ i, i < 85 → m_state m' i = m_kept m i) := by
  obtain ⟨z, m1, zb, hb, e, hst, hsm⟩ := t_broken hs hq hn h3
  have d1 : ¬ (1 : Int32) = 0 := by decide
  unfold G_X9_end
  rw [e, Option.bind_some]
  dsimp only
  rw [iZ_0, ite_eq (by omega)]
  by_cases z0 : z = 0
  · rw [if_pos z0, Option.bind_some, ← iZ_0, if_neg d1]
    unfold G_X9_end_j30
    rw [if_neg d1]
    refine ⟨z, m1, zb, hb, ?_, hsm.toSK, hsm.2.1, fun _ => hst, fun w => absurd z0 w⟩
    rw [if_pos z0]; rfl
  · rw [if_neg z0, Option.bind_some, if_pos rfl]
    obtain ⟨w, ew, h1, -⟩ := t_copy (n0 := 85) (n1 := 85) (w0 := m_kept m1) (w1 := m_state m1) (p := 0) (z := 0) (by omega) (by omega) (by omega) (by omega)
    have ew : G_X9_copy 85 85 (m_kept m1) (m_state m1) (iZ 0) (iZ 0) = some w := ew
    rw [ew, Option.bind_some]
    generalize hx : ms_state m1 w = x
    have g := mg_state m1 w
    rw [hx] at g
    obtain ⟨g01, g02, g03, g04, g05, g06, g07, g08, g09, g10, g11, g12, g13, g14, g15, g16, g17, g18⟩ := g
    unfold G_X9_end_j30
    rw [if_pos (show iZ 0 = 0 from rfl)]
    refine ⟨z, x, zb, hb, ?_, SK.trans hsm.toSK ⟨g01, g04, g05, g06, g07, g08, g09, g10, g18⟩, g03.trans hsm.2.1, fun w => absurd w z0, fun _ i hi => ?_⟩
    · rw [if_neg z0]; rfl
    · rw [g02, ← hsm.2.1]
      have := h1 i hi
      rw [Nat.zero_add] at this
      exact this
/-- how a try ends -/
def TR (m m' : Mod) (M : Nat → Nat) (n : Nat) (Q : Nat → Pt) (z : Int) (o : Option (Int32 × Mod)) : Prop :=
  (0 ≤ z ∧ z ≤ 5) ∧ gm_brk M n Q z ∧ o = some (iZ (if z = 0 then 0 else 2), m') ∧ SK m m' ∧ (∀ i, i < 85 → m_kept m' i = m_state m i) ∧ (z = 0 → RS (m_state m') M n Q) ∧ (z ≠ 0 → ∀ i, i < 85 → m_state m' i = m_state m i)
theorem t_finish {m0 : Mod} (hs : RS (m_state m) M n Q) (hq : gm_fit M n Q) (hn : 1 ≤ n) (h3 : ∀ r, r < n → 3 ≤ M r) (k1 : SK m0 m) (k2 : ∀ i, i < 85 → m_kept m i = m_state m0 i) :
    ∃ z m', TR m0 m' M n Q z ((G_X9_end m).bind fun v => some (v.1, v.2)) := by
  obtain ⟨z, m', zb, hb, e, h1, h2, h5, h6⟩ := t_end hs hq hn h3
  refine ⟨z, m', zb, hb, by rw [e, Option.bind_some], SK.trans k1 h1, fun i hi => by rw [h2]; exact k2 i hi, fun z0 => by rw [h5 z0]; exact hs, fun z0 i hi => by rw [h6 z0 i hi]; exact k2 i hi⟩
theorem t_tryMove (hs : RS (m_state m) M n Q) (hok : gm_ok M n Q) (r k x y : Int) (br : -2147483648 ≤ r ∧ r < 2147483648) (bk : -2147483648 ≤ k ∧ k < 2147483648) (bx : -2147483648 ≤ x ∧ x < 2147483648) (bY : -2147483648 ≤ y ∧ y < 2147483648) :
    (¬ (0 ≤ r ∧ r < n ∧ 0 ≤ k ∧ k < M r.toNat) ∧ G_X9_tryMove m (iZ r) (iZ k) (iZ x) (iZ y) = some (iZ 1, m)) ∨
    ((0 ≤ r ∧ r < n ∧ 0 ≤ k ∧ k < M r.toNat) ∧ ∃ z m', TR m m' M n (upQ Q (gm_fst M r.toNat + k.toNat) (x, y)) z (G_X9_tryMove m (iZ r) (iZ k) (iZ x) (iZ y))) := by
  have hn := hok.1
  have hc := t_isCorner hs hn.1 r k br.1 br.2 bk.1 bk.2
  unfold G_X9_tryMove
  rw [hc, Option.bind_some]
  by_cases c : 0 ≤ r ∧ r < n ∧ 0 ≤ k ∧ k < M r.toNat
  · right
    refine ⟨c, ?_⟩
    obtain ⟨i, rfl⟩ : ∃ i : Nat, r = i := ⟨r.toNat, by omega⟩
    obtain ⟨j, rfl⟩ : ∃ j : Nat, k = j := ⟨k.toNat, by omega⟩
    rw [Int.toNat_natCast] at c
    have hi : i < n := by omega
    have hj : j < M i := by omega
    have hM := hok.2.1 i hi
    rw [Int.toNat_natCast, Int.toNat_natCast, if_pos c, if_neg (show ¬ iZ 1 = 0 by decide)]
    obtain ⟨m1, e1, s1, k1, q1⟩ := t_begin m
    obtain ⟨m2, e2, s2, k2, q2⟩ := t_setCorner m1 (r := i) (k := j) (by omega) (by omega) (iZ x) (iZ y)
    rw [e1, Option.bind_some, e2, Option.bind_some]
    refine t_finish ?_ (gm_fit_up (gm_fit_of hok.2.2.1) (by dsimp only; omega)) hn.1 (fun r hr => (hok.2.1 r hr).1) (SK.trans q1 q2) (fun a ha => by rw [k2]; exact k1 a ha)
    rw [s2, s1]
    exact RS.place hs hi hj x y
  · left
    refine ⟨c, ?_⟩
    rw [if_neg c, if_pos (show iZ 0 = 0 from rfl)]
    rfl
end REF
