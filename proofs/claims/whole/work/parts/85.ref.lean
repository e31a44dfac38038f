/-! the second class: its state; reads -/
def RS (st : Nat → Int32) (M : Nat → Nat) (n : Nat) (Q : Nat → Pt) : Prop := st 0 = iZ n ∧ n ≤ 4 ∧ (∀ r, r < n → M r ≤ 10 ∧ st (1 + r) = iZ (M r : Nat)) ∧
  ∀ r k, r < n → k < M r → st (5 + 20 * r + 2 * k) = iZ (Q (gm_fst M r + k)).1 ∧ st (5 + 20 * r + 2 * k + 1) = iZ (Q (gm_fst M r + k)).2
def gm_sgi (z : Int) : Int := if z ≤ 0 then (if 0 ≤ z then 0 else -1) else 1
theorem gm_sgi_bd (z : Int) : -1 ≤ gm_sgi z ∧ gm_sgi z ≤ 1 ∧ (gm_sgi z = 0 ↔ z = 0) ∧ (0 < gm_sgi z ↔ 0 < z) ∧ (gm_sgi z < 0 ↔ z < 0) := by unfold gm_sgi; (repeat' split) <;> omega
theorem gm_sgi_mul (x y : Int) : gm_sgi x * gm_sgi y < 0 ↔ x * y < 0 := by
  have hx := gm_sgi_bd x
  have hy := gm_sgi_bd y
  constructor
  · intro h
    rcases gm_sg h with q | q
    · exact Int.mul_neg_of_neg_of_pos (by omega) (by omega)
    · exact Int.mul_neg_of_pos_of_neg (by omega) (by omega)
  · intro h
    rcases gm_sg h with q | q
    · exact Int.mul_neg_of_neg_of_pos (by omega) (by omega)
    · exact Int.mul_neg_of_pos_of_neg (by omega) (by omega)
theorem t_turnOf {a b p : Pt} (ha : gm_paper a) (hb : gm_paper b) (hp : gm_paper p) : G_X9_turnOf (iZ a.1) (iZ a.2) (iZ b.1) (iZ b.2) (iZ p.1) (iZ p.2) = some (iZ (gm_sgi (gm_cr a b p))) := by
  have bd := gm_cr_450 ha hb hp
  unfold G_X9_turnOf
  simp only [iZ_sub, iZ_mul]
  have e : (b.1 - a.1) * (p.2 - a.2) - (b.2 - a.2) * (p.1 - a.1) = gm_cr a b p := rfl
  rw [e, iZ_0, ite_le (by omega), ite_le (by omega)]
  unfold gm_sgi
  (repeat' split) <;> rfl
theorem t_isOn {a b p : Pt} (ha : gm_paper a) (hb : gm_paper b) (hp : gm_paper p) : G_X9_isOn (iZ a.1) (iZ a.2) (iZ b.1) (iZ b.2) (iZ p.1) (iZ p.2) = some (iZ (gm_bo a b p)) := by
  have bd := gm_cr_450 ha hb hp
  have sg := gm_sgi_bd (gm_cr a b p)
  have tn := t_turnOf ha hb hp
  unfold gm_paper at ha hb hp
  unfold G_X9_isOn
  rw [tn, ind_le (p := b.1) (q := a.1) (by omega), ind_le (p := a.1) (q := b.1) (by omega), ind_le (p := b.2) (q := a.2) (by omega), ind_le (p := a.2) (q := b.2) (by omega)]
  simp only [Option.bind_some]
  unfold gm_bo
  obtain ⟨l1, hl1⟩ : ∃ z, z = (if b.1 ≤ a.1 then b.1 else a.1) := ⟨_, rfl⟩
  obtain ⟨u1, hu1⟩ : ∃ z, z = (if b.1 ≤ a.1 then a.1 else b.1) := ⟨_, rfl⟩
  obtain ⟨l2, hl2⟩ : ∃ z, z = (if b.2 ≤ a.2 then b.2 else a.2) := ⟨_, rfl⟩
  obtain ⟨u2, hu2⟩ : ∃ z, z = (if b.2 ≤ a.2 then a.2 else b.2) := ⟨_, rfl⟩
  rw [← hl1, ← hu1, ← hl2, ← hu2]
  have q1 : (l1 ≤ u1 ∧ (l1 ≤ p.1 ∧ p.1 ≤ u1 ↔ (a.1 ≤ p.1 ∧ p.1 ≤ b.1) ∨ (b.1 ≤ p.1 ∧ p.1 ≤ a.1)) ∧ 0 ≤ l1 ∧ u1 ≤ 15) := by
    split at hl1 <;> split at hu1 <;> omega
  have q2 : (l2 ≤ u2 ∧ (l2 ≤ p.2 ∧ p.2 ≤ u2 ↔ (a.2 ≤ p.2 ∧ p.2 ≤ b.2) ∨ (b.2 ≤ p.2 ∧ p.2 ≤ a.2)) ∧ 0 ≤ l2 ∧ u2 ≤ 15) := by
    split at hl2 <;> split at hu2 <;> omega
  obtain ⟨q11, q12, q13, q14⟩ := q1
  obtain ⟨q21, q22, q23, q24⟩ := q2
  simp only [← q12, ← q22]
  clear hl1 hu1 hl2 hu2 q12 q22 tn
  rw [s_within p.1 l1 u1 (by omega) (by omega) (by omega) (by omega) (by omega) (by omega), s_within p.2 l2 u2 (by omega) (by omega) (by omega) (by omega) (by omega) (by omega)]
  simp only [Option.bind_some]
  rw [iZ_0, iZ_1, ind_eq (by split <;> omega)]
  have d10 : (iZ 1 = iZ 0) = False := eq_false (by decide)
  have e10 : ((1 : Int) = 0) = False := eq_false (by decide)
  by_cases c1 : l1 ≤ p.1 ∧ p.1 ≤ u1 <;> by_cases c2 : l2 ≤ p.2 ∧ p.2 ≤ u2 <;> simp only [c1, c2, and_self, and_true, and_false, d10, e10, if_true, if_false, Option.bind_some]
  rw [ite_eq (by omega)]
  (repeat' split) <;> first | rfl | omega
/-! the second class: its arrays -/
section REF
variable {m : Mod} {M : Nat → Nat} {n : Nat} {Q : Nat → Pt}
theorem t_many (h : RS (m_state m) M n Q) {r : Nat} (hr : r < n) : G_X9_many m (iZ (r : Int)) = some (iZ (M r : Nat)) := by
  have h4 := h.2.1
  unfold G_X9_many
  rw [iZ_1, iZ_add, show (1 : Int) + (r : Int) = ((1 + r : Nat) : Int) by omega, rd_iZ (by omega) (by omega), Option.bind_some, (h.2.2.1 r hr).2]
theorem t_x (h : RS (m_state m) M n Q) {r k : Nat} (hr : r < n) (hk : k < M r) : G_X9_x m (iZ (r : Int)) (iZ (k : Int)) = some (iZ (gm_P M Q r k).1) := by
  have h4 := h.2.1
  have hM := (h.2.2.1 r hr).1
  unfold G_X9_x
  rw [iZ_5, iZ_20, iZ_2, iZ_mul, iZ_mul, iZ_add, iZ_add, show (5 : Int) + 20 * (r : Int) + 2 * (k : Int) = ((5 + 20 * r + 2 * k : Nat) : Int) by omega, rd_iZ (by omega) (by omega), Option.bind_some, (h.2.2.2 r k hr hk).1]
  rfl
theorem t_y (h : RS (m_state m) M n Q) {r k : Nat} (hr : r < n) (hk : k < M r) : G_X9_y m (iZ (r : Int)) (iZ (k : Int)) = some (iZ (gm_P M Q r k).2) := by
  have h4 := h.2.1
  have hM := (h.2.2.1 r hr).1
  unfold G_X9_y
  rw [iZ_5, iZ_20, iZ_2, iZ_mul, iZ_mul, iZ_add, iZ_add, iZ_1, iZ_add, show (5 : Int) + 20 * (r : Int) + 2 * (k : Int) + 1 = ((5 + 20 * r + 2 * k + 1 : Nat) : Int) by omega, rd_iZ (by omega) (by omega), Option.bind_some, (h.2.2.2 r k hr hk).2]
  rfl
theorem t_next (h : RS (m_state m) M n Q) {r k : Nat} (hr : r < n) (hk : k < M r) : G_X9_next m (iZ (r : Int)) (iZ (k : Int)) = some (iZ (gm_nx (M r) k : Nat)) := by
  have h4 := h.2.1
  have hM := (h.2.2.1 r hr).1
  unfold G_X9_next
  rw [t_many h hr, Option.bind_some, iZ_1, iZ_add, ite_eq (by omega), iZ_0]
  unfold gm_nx
  split <;> split <;> first | rfl | omega
theorem t_before (h : RS (m_state m) M n Q) {r k : Nat} (hr : r < n) (hk : k < M r) : G_X9_before m (iZ (r : Int)) (iZ (k : Int)) = some (iZ (gm_pv (M r) k : Nat)) := by
  have h4 := h.2.1
  have hM := (h.2.2.1 r hr).1
  unfold G_X9_before
  rw [iZ_0, ite_eq (by omega), t_many h hr, Option.bind_some, iZ_1, iZ_sub, iZ_sub]
  unfold gm_pv
  split <;> split <;> first | omega | exact congrArg (fun z => some (iZ z)) (by omega)
theorem t_n (h : RS (m_state m) M n Q) : rd 85 (m_state m) 0 = some (iZ n) := by
  have e := rd_iZ (f := m_state m) (show 0 < 85 by omega) (by omega)
  rw [h.1] at e
  exact e
theorem t_isRing (h : RS (m_state m) M n Q) (hn : 1 ≤ n) (z : Int) (h1 : -2147483648 ≤ z) (h2 : z < 2147483648) : G_X9_isRing m (iZ z) = some (iZ (if 0 ≤ z ∧ z < n then 1 else 0)) := by
  have h4 := h.2.1
  unfold G_X9_isRing
  rw [t_n h, Option.bind_some, iZ_1, iZ_sub, iZ_0, s_within z 0 _ h1 h2 (by omega) (by omega) (by omega) (by omega), Option.bind_some, bck_01 (by split <;> omega), Option.bind_some]
  refine congrArg (fun z => some (iZ z)) ?_
  split <;> split <;> first | rfl | omega
theorem t_isCorner (h : RS (m_state m) M n Q) (hn : 1 ≤ n) (z w : Int) (h1 : -2147483648 ≤ z) (h2 : z < 2147483648) (h3 : -2147483648 ≤ w) (h4 : w < 2147483648) :
    G_X9_isCorner m (iZ z) (iZ w) = some (iZ (if 0 ≤ z ∧ z < n ∧ 0 ≤ w ∧ w < M z.toNat then 1 else 0)) := by
  have h5 := h.2.1
  unfold G_X9_isCorner
  rw [t_isRing h hn z h1 h2, Option.bind_some, iZ_0, ite_eq (by split <;> omega)]
  by_cases c : 0 ≤ z ∧ z < n
  · obtain ⟨r, rfl⟩ : ∃ r : Nat, z = r := ⟨z.toNat, by omega⟩
    have hM := (h.2.2.1 r (by omega)).1
    rw [if_pos c, if_neg (by omega), t_many h (by omega), Option.bind_some, iZ_1, iZ_sub, s_within w 0 _ h3 h4 (by omega) (by omega) (by omega) (by omega), Option.bind_some, ite_eq (by split <;> omega), Int.toNat_natCast]
    (repeat' split) <;> first | rfl | omega
  · rw [if_neg c, if_pos rfl, if_neg (by omega)]
theorem t_cornerMany (h : RS (m_state m) M n Q) : G_X9_cornerMany m = some (iZ (gm_fst M n : Nat)) := by
  have h4 := h.2.1
  have lp := lp_sum (L := fun k c a => G_X9_cornerMany_L4 m k c a) (N := n) (g := fun r => (M r : Int)) (K := fun a => some (iZ a))
    (fun k c a hc => by
      rw [G_X9_cornerMany_L4, t_n h, Option.bind_some, ite_le (by omega), if_neg (by omega), t_many h hc, Option.bind_some, iZ_1, iZ_add, iZ_add])
    (fun k a => by rw [G_X9_cornerMany_L4, t_n h, Option.bind_some, ite_le (by omega), if_pos (by omega)])
    n 0 FU 0 (by omega) (by unfold FU; omega)
  refine Eq.trans lp (congrArg (fun z => some (iZ z)) ?_)
  have e : ∀ q : Nat, gm_sum q (fun k => ((M (0 + k) : Nat) : Int)) = ((gm_fst M q : Nat) : Int) := by
    intro q
    induction q with
    | zero => rfl
    | succ q ih =>
      show gm_sum q _ + ((M (0 + q) : Nat) : Int) = ((gm_fst M q + M q : Nat) : Int)
      rw [ih, Nat.zero_add]; omega
  rw [e]; omega
/-- the other cells are as they were -/
def SM (m m' : Mod) : Prop := m_thrown m' = m_thrown m ∧ m_kept m' = m_kept m ∧ m_scriptKept m' = m_scriptKept m ∧ m_history m' = m_history m ∧ m_remembered m' = m_remembered m ∧ m_slots m' = m_slots m ∧ m_isSaved m' = m_isSaved m ∧ m_text m' = m_text m ∧ m_textLength m' = m_textLength m ∧ m_cuts m' = m_cuts m
theorem SM.rfl' (m : Mod) : SM m m := ⟨rfl, rfl, rfl, rfl, rfl, rfl, rfl, rfl, rfl, rfl⟩
theorem SM.trans {a b c : Mod} (h : SM a b) (k : SM b c) : SM a c :=
  ⟨k.1.trans h.1, k.2.1.trans h.2.1, k.2.2.1.trans h.2.2.1, k.2.2.2.1.trans h.2.2.2.1, k.2.2.2.2.1.trans h.2.2.2.2.1, k.2.2.2.2.2.1.trans h.2.2.2.2.2.1, k.2.2.2.2.2.2.1.trans h.2.2.2.2.2.2.1, k.2.2.2.2.2.2.2.1.trans h.2.2.2.2.2.2.2.1, k.2.2.2.2.2.2.2.2.1.trans h.2.2.2.2.2.2.2.2.1, k.2.2.2.2.2.2.2.2.2.trans h.2.2.2.2.2.2.2.2.2⟩
/-- the sides, as findSides lays them -/
def SD (m : Mod) (M : Nat → Nat) (n : Nat) (Q : Nat → Pt) (c0 : Nat) : Prop := m_sides m = iZ (c0 : Int) ∧ ∀ c, c < c0 → m_ringOf m c = iZ (gm_rr M n c : Nat) ∧ m_cornerOf m c = iZ ((c - gm_fst M (gm_rr M n c) : Nat) : Int) ∧ m_ax m c = iZ (Q c).1 ∧ m_ay m c = iZ (Q c).2 ∧ m_bx m c = iZ (Q (gm_nf M n c)).1 ∧ m_by m c = iZ (Q (gm_nf M n c)).2
theorem t_findSides (h : RS (m_state m) M n Q) : ∃ m', G_X9_findSides m = some m' ∧ m_state m' = m_state m ∧ SM m m' ∧ SD m' M n Q (gm_fst M n) := by
  have h4 := h.2.1
  have h40 : gm_fst M n ≤ 40 := gm_fst_40 h4 (fun r hr => (h.2.2.1 r hr).1)
  have inner : ∀ (k7 : Mod → Int32 → Option Mod) (r : Nat) (s : Mod), r < n → (m_state s = m_state m ∧ SM m s ∧ SD s M n Q (gm_fst M r)) →
      ∃ s', (m_state s' = m_state m ∧ SM m s' ∧ SD s' M n Q (gm_fst M (r + 1))) ∧ G_X9_findSides_L19 k7 FU s 0 (iZ (r : Int)) = k7 s' (iZ ((r : Int) + 1)) := by
    intro k7 r s hr hs
    have hM := (h.2.2.1 r hr).1
    refine lp_inv (L := fun k (s : Mod) c => G_X9_findSides_L19 k7 k s c (iZ (r : Int))) (N := M r) (I := fun j s => m_state s = m_state m ∧ SM m s ∧ SD s M n Q (gm_fst M r + j)) (K := fun s => k7 s (iZ ((r : Int) + 1)))
      (fun k j s hj hI => ?_) (fun k s hI => ?_) (M r) 0 FU s (by omega) (by unfold FU; omega) hs
    · obtain ⟨i1, i2, i3, i4⟩ := hI
      have hc := gm_fst_lt hr hj
      have hs' : RS (m_state s) M n Q := by rw [i1]; exact h
      have hx := gm_nx_lt hj
      suffices H : ∃ s', G_X9_findSides_L19 k7 (k + 1) s (iZ (j : Int)) (iZ (r : Int)) = G_X9_findSides_L19 k7 k s' (iZ ((j : Int) + 1)) (iZ (r : Int)) ∧ (m_state s' = m_state s ∧ SM s s') ∧ m_sides s' = iZ ((gm_fst M r + j : Nat) : Int) + 1 ∧
          m_ringOf s' = upd (m_ringOf s) (gm_fst M r + j) (iZ (r : Int)) ∧ m_cornerOf s' = upd (m_cornerOf s) (gm_fst M r + j) (iZ (j : Int)) ∧ m_ax s' = upd (m_ax s) (gm_fst M r + j) (iZ (gm_P M Q r j).1) ∧ m_ay s' = upd (m_ay s) (gm_fst M r + j) (iZ (gm_P M Q r j).2) ∧
          m_bx s' = upd (m_bx s) (gm_fst M r + j) (iZ (gm_P M Q r (gm_nx (M r) j)).1) ∧ m_by s' = upd (m_by s) (gm_fst M r + j) (iZ (gm_P M Q r (gm_nx (M r) j)).2) by
        obtain ⟨s', e, ⟨e1, e2⟩, e3, e4, e5, e6, e7, e8, e9⟩ := H
        refine ⟨s', ⟨e1.trans i1, SM.trans i2 e2, ?_, fun c hc => ?_⟩, e⟩
        · rw [e3, iZ_1, iZ_add]; exact congrArg iZ (by omega)
        · rw [e4, e5, e6, e7, e8, e9]
          by_cases e : c = gm_fst M r + j
          · subst e
            rw [upd_same, upd_same, upd_same, upd_same, upd_same, upd_same, gm_rr_eq hr hj, Nat.add_sub_cancel_left, gm_nf_eq hr hj]
            exact ⟨rfl, rfl, rfl, rfl, rfl, rfl⟩
          · rw [upd_ne e, upd_ne e, upd_ne e, upd_ne e, upd_ne e, upd_ne e]
            exact i4 c (by omega)
      rw [G_X9_findSides_L19, t_many hs' hr, Option.bind_some, ite_le (by omega), if_neg (by omega), i3, wr_iZ (by omega) (by omega), Option.bind_some, Option.bind_some]
      generalize h1 : ms_ringOf s (upd (m_ringOf s) (gm_fst M r + j) (iZ (r : Int))) = s1
      have a1 := mg_ringOf s (upd (m_ringOf s) (gm_fst M r + j) (iZ (r : Int)))
      rw [h1] at a1
      obtain ⟨a01, a02, a03, a04, a05, a06, a07, a08, a09, a10, a11, a12, a13, a14, a15, a16, a17, a18⟩ := a1
      rw [a11, i3, a13, wr_iZ (by omega) (by omega), Option.bind_some]
      generalize h2 : ms_cornerOf s1 (upd (m_cornerOf s) (gm_fst M r + j) (iZ (j : Int))) = s2
      have a2 := mg_cornerOf s1 (upd (m_cornerOf s) (gm_fst M r + j) (iZ (j : Int)))
      rw [h2] at a2
      obtain ⟨b01, b02, b03, b04, b05, b06, b07, b08, b09, b10, b11, b12, b13, b14, b15, b16, b17, b18⟩ := a2
      have r2 : RS (m_state s2) M n Q := by rw [b02, a02]; exact hs'
      rw [t_x r2 hr hj, Option.bind_some, Option.bind_some, b11, a11, i3, b14, a14, wr_iZ (by omega) (by omega), Option.bind_some]
      generalize h3 : ms_ax s2 (upd (m_ax s) (gm_fst M r + j) (iZ (gm_P M Q r j).1)) = s3
      have a3 := mg_ax s2 (upd (m_ax s) (gm_fst M r + j) (iZ (gm_P M Q r j).1))
      rw [h3] at a3
      obtain ⟨c01, c02, c03, c04, c05, c06, c07, c08, c09, c10, c11, c12, c13, c14, c15, c16, c17, c18⟩ := a3
      have r3 : RS (m_state s3) M n Q := by rw [c02]; exact r2
      rw [t_y r3 hr hj, Option.bind_some, Option.bind_some, c11, b11, a11, i3, c15, b15, a15, wr_iZ (by omega) (by omega), Option.bind_some]
      generalize h4 : ms_ay s3 (upd (m_ay s) (gm_fst M r + j) (iZ (gm_P M Q r j).2)) = s4
      have a4 := mg_ay s3 (upd (m_ay s) (gm_fst M r + j) (iZ (gm_P M Q r j).2))
      rw [h4] at a4
      obtain ⟨d01, d02, d03, d04, d05, d06, d07, d08, d09, d10, d11, d12, d13, d14, d15, d16, d17, d18⟩ := a4
      have r4 : RS (m_state s4) M n Q := by rw [d02]; exact r3
      rw [t_next r4 hr hj, Option.bind_some, t_x r4 hr hx, Option.bind_some, Option.bind_some, d11, c11, b11, a11, i3, d16, c16, b16, a16, wr_iZ (by omega) (by omega), Option.bind_some]
      generalize h5 : ms_bx s4 (upd (m_bx s) (gm_fst M r + j) (iZ (gm_P M Q r (gm_nx (M r) j)).1)) = s5
      have a5 := mg_bx s4 (upd (m_bx s) (gm_fst M r + j) (iZ (gm_P M Q r (gm_nx (M r) j)).1))
      rw [h5] at a5
      obtain ⟨e01, e02, e03, e04, e05, e06, e07, e08, e09, e10, e11, e12, e13, e14, e15, e16, e17, e18⟩ := a5
      have r5 : RS (m_state s5) M n Q := by rw [e02]; exact r4
      rw [t_next r5 hr hj, Option.bind_some, t_y r5 hr hx, Option.bind_some, Option.bind_some, e11, d11, c11, b11, a11, i3, e17, d17, c17, b17, a17, wr_iZ (by omega) (by omega), Option.bind_some, Option.bind_some]
      generalize h6 : ms_by s5 (upd (m_by s) (gm_fst M r + j) (iZ (gm_P M Q r (gm_nx (M r) j)).2)) = s6
      have a6 := mg_by s5 (upd (m_by s) (gm_fst M r + j) (iZ (gm_P M Q r (gm_nx (M r) j)).2))
      rw [h6] at a6
      obtain ⟨f01, f02, f03, f04, f05, f06, f07, f08, f09, f10, f11, f12, f13, f14, f15, f16, f17, f18⟩ := a6
      rw [f11, e11, d11, c11, b11, a11, i3, iZ_1, iZ_add, iZ_add]
      generalize h7 : ms_sides s6 (iZ (((gm_fst M r + j : Nat) : Int) + 1)) = s7
      have a7 := mg_sides s6 (iZ (((gm_fst M r + j : Nat) : Int) + 1))
      rw [h7] at a7
      obtain ⟨g01, g02, g03, g04, g05, g06, g07, g08, g09, g10, g11, g12, g13, g14, g15, g16, g17, g18⟩ := a7
      refine ⟨s7, rfl, ⟨?_, ?_, ?_, ?_, ?_, ?_, ?_, ?_, ?_, ?_, ?_⟩, g11, ?_, ?_, ?_, ?_, ?_, ?_⟩
      · rw [g02, f02, e02, d02, c02, b02, a02]
      · rw [g01, f01, e01, d01, c01, b01, a01]
      · rw [g03, f03, e03, d03, c03, b03, a03]
      · rw [g04, f04, e04, d04, c04, b04, a04]
      · rw [g05, f05, e05, d05, c05, b05, a05]
      · rw [g06, f06, e06, d06, c06, b06, a06]
      · rw [g07, f07, e07, d07, c07, b07, a07]
      · rw [g08, f08, e08, d08, c08, b08, a08]
      · rw [g09, f09, e09, d09, c09, b09, a09]
      · rw [g10, f10, e10, d10, c10, b10, a10]
      · rw [g18, f18, e18, d18, c18, b18, a18]
      · rw [g12, f12, e12, d12, c12, b12, a12]
      · rw [g13, f13, e13, d13, c13, b13]
      · rw [g14, f14, e14, d14, c14]
      · rw [g15, f15, e15, d15]
      · rw [g16, f16, e16]
      · rw [g17, f17]
    · have hs' : RS (m_state s) M n Q := by rw [hI.1]; exact h
      rw [G_X9_findSides_L19, t_many hs' hr, Option.bind_some, ite_le (by omega), if_pos (by omega), iZ_1, iZ_add]
  obtain ⟨s', hI, e⟩ := lp_inv (L := fun k (s : Mod) c => G_X9_findSides_L7 k s c) (N := n) (I := fun r s => m_state s = m_state m ∧ SM m s ∧ SD s M n Q (gm_fst M r)) (K := fun s => some s)
    (fun k r s hr hI => by
      obtain ⟨s', q1, q2⟩ := inner (G_X9_findSides_L7 k) r s hr hI
      refine ⟨s', q1, ?_⟩
      have hs' : RS (m_state s) M n Q := by rw [hI.1]; exact h
      rw [G_X9_findSides_L7, t_n hs', Option.bind_some, ite_le (by omega), if_neg (by omega)]
      exact q2)
    (fun k s hI => by
      have hs' : RS (m_state s) M n Q := by rw [hI.1]; exact h
      rw [G_X9_findSides_L7, t_n hs', Option.bind_some, ite_le (by omega), if_pos (by omega)])
    n 0 FU (ms_sides m 0) (by omega) (by unfold FU; omega) ⟨rfl, SM.rfl' m, rfl, fun c hc => absurd hc (Nat.not_lt_zero c)⟩
  exact ⟨s', e, hI.1, hI.2.1, hI.2.2⟩
end REF
