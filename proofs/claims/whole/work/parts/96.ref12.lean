/-! the second class: holes, shifts, turns -/
def gm_part (Q : Nat → Pt) (T : Pt → Pt) (c : Nat) (i : Nat) : Pt := if i < c then T (Q i) else Q i
theorem gm_part_0 (Q : Nat → Pt) (T : Pt → Pt) : gm_part Q T 0 = Q := by
  funext i
  unfold gm_part
  rw [if_neg (Nat.not_lt_zero i)]
theorem gm_part_s (Q : Nat → Pt) (T : Pt → Pt) (c : Nat) : upQ (gm_part Q T c) c (T (Q c)) = gm_part Q T (c + 1) := by
  funext i
  unfold upQ gm_part
  by_cases e : i = c
  · rw [if_pos e, if_pos (by omega), e]
  · rw [if_neg e]
    by_cases l : i < c
    · rw [if_pos l, if_pos (by omega)]
    · rw [if_neg l, if_neg (by omega)]
theorem RS.ext {st : Nat → Int32} {M : Nat → Nat} {n : Nat} {Q Q' : Nat → Pt} (h : RS st M n Q) (e : ∀ c, c < gm_fst M n → Q' c = Q c) : RS st M n Q' := by
  obtain ⟨h1, h2, h3, h4⟩ := h
  refine ⟨h1, h2, h3, fun r k hr hk => ?_⟩
  rw [e _ (gm_fst_lt hr hk)]
  exact h4 r k hr hk
section REF
variable {m : Mod} {M : Nat → Nat} {n : Nat} {Q : Nat → Pt}
theorem t_tryHole (hs : RS (m_state m) M n Q) (hok : gm_ok M n Q) (x y : Int) (bx : -2147483648 ≤ x ∧ x < 2147483648) (bY : -2147483648 ≤ y ∧ y < 2147483648) :
    (¬ (0 ≤ x ∧ x ≤ 14 ∧ 0 ≤ y ∧ y ≤ 14) ∧ G_X9_tryHole m (iZ x) (iZ y) = some (iZ 1, m)) ∨
    ((0 ≤ x ∧ x ≤ 14 ∧ 0 ≤ y ∧ y ≤ 14) ∧ n = 4 ∧ G_X9_tryHole m (iZ x) (iZ y) = some (iZ 2, m)) ∨
    ((0 ≤ x ∧ x ≤ 14 ∧ 0 ≤ y ∧ y ≤ 14) ∧ n < 4 ∧ ∃ z m', TR m m' (gm_hM M n) (n + 1) (gm_hQ Q (gm_fst M n) x y) z (G_X9_tryHole m (iZ x) (iZ y))) := by
  have hn := hok.1
  unfold G_X9_tryHole
  rw [iZ_0, iZ_14, s_within x 0 14 bx.1 bx.2 (by omega) (by omega) (by omega) (by omega), s_within y 0 14 bY.1 bY.2 (by omega) (by omega) (by omega) (by omega), Option.bind_some, Option.bind_some, ite_eq (by split <;> omega), ite_eq (by split <;> omega)]
  by_cases cx : 0 ≤ x ∧ x ≤ 14
  · rw [if_pos cx, if_neg (by omega)]
    by_cases cy : 0 ≤ y ∧ y ≤ 14
    · rw [if_pos cy, if_neg (by omega)]
      right
      have hn0 : rd 85 (m_state m) (iZ 0) = some (iZ n) := t_n hs
      rw [hn0, Option.bind_some, iZ_4, ite_eq (by omega)]
      by_cases c4 : n = 4
      · left
        refine ⟨by omega, c4, ?_⟩
        rw [if_pos (by omega)]; rfl
      right
      refine ⟨by omega, by omega, ?_⟩
      obtain ⟨m1, e1, s1, k1, q1⟩ := t_begin m
      have hs1 : RS (m_state m1) M n Q := by rw [s1]; exact hs
      have hn1 : rd 85 (m_state m1) (iZ 0) = some (iZ n) := t_n hs1
      have hw : wr 85 (m_state m1) (iZ 0) (iZ ((n + 1 : Nat) : Int)) = some (upd (m_state m1) 0 (iZ ((n + 1 : Nat) : Int))) := wr_iZ (k := 0) (by omega) (by omega)
      rw [if_neg (by omega), e1, Option.bind_some, hn1, Option.bind_some, iZ_1, iZ_add, show (n : Int) + 1 = ((n + 1 : Nat) : Int) by omega, hw, Option.bind_some, Option.bind_some]
      generalize hx1 : ms_state m1 (upd (m_state m1) 0 (iZ ((n + 1 : Nat) : Int))) = a1
      have g := mg_state m1 (upd (m_state m1) 0 (iZ ((n + 1 : Nat) : Int)))
      rw [hx1] at g
      obtain ⟨g01, g02, g03, g04, g05, g06, g07, g08, g09, g10, g11, g12, g13, g14, g15, g16, g17, g18⟩ := g
      rw [iZ_add, show (1 : Int) + (n : Int) = ((1 + n : Nat) : Int) by omega, wr_iZ (by omega) (by omega), Option.bind_some]
      generalize hx2 : ms_state a1 (upd (m_state a1) (1 + n) 3) = a2
      have f := mg_state a1 (upd (m_state a1) (1 + n) 3)
      rw [hx2] at f
      obtain ⟨f01, f02, f03, f04, f05, f06, f07, f08, f09, f10, f11, f12, f13, f14, f15, f16, f17, f18⟩ := f
      obtain ⟨b1, d1, u1, v1, w1⟩ := t_setCorner a2 (r := n) (k := 0) (by omega) (by omega) (iZ x) (iZ y)
      obtain ⟨b2, d2, u2, v2, w2⟩ := t_setCorner b1 (r := n) (k := 1) (by omega) (by omega) (iZ (x + 1)) (iZ y)
      obtain ⟨b3, d3, u3, v3, w3⟩ := t_setCorner b2 (r := n) (k := 2) (by omega) (by omega) (iZ x) (iZ (y + 1))
      have d1 : G_X9_setCorner a2 (iZ (n : Int)) (iZ 0) (iZ x) (iZ y) = some b1 := d1
      have d2 : G_X9_setCorner b1 (iZ (n : Int)) (iZ 1) (iZ (x + 1)) (iZ y) = some b2 := d2
      have d3 : G_X9_setCorner b2 (iZ (n : Int)) (iZ 2) (iZ x) (iZ (y + 1)) = some b3 := d3
      rw [d1, Option.bind_some, iZ_add, d2, Option.bind_some, iZ_2, iZ_add, d3, Option.bind_some]
      have fit : gm_fit (gm_hM M n) (n + 1) (gm_hQ Q (gm_fst M n) x y) := by
        intro a ha
        have f0 := gm_fit_of hok.2.2.1
        unfold gm_hQ
        by_cases c1 : a < gm_fst M n
        · rw [if_pos c1]; exact f0 a c1
        · rw [if_neg c1]
          (repeat' split) <;> dsimp only <;> omega
      refine t_finish ?_ fit (by omega) (fun r hr => (gm_hM_ok hok r hr).1) (SK.trans q1 (SK.trans ⟨g01, g04, g05, g06, g07, g08, g09, g10, g18⟩ (SK.trans ⟨f01, f04, f05, f06, f07, f08, f09, f10, f18⟩ (SK.trans w1 (SK.trans w2 w3))))) (fun a ha => by rw [v3, v2, v1, f03, g03]; exact k1 a ha)
      rw [u3, u2, u1, f02, g02, s1]
      refine ⟨?_, by omega, fun a ha => ⟨(gm_hM_ok hok a ha).2, ?_⟩, fun a l ha hl => ?_⟩
      · rw [upd_ne (by omega), upd_ne (by omega), upd_ne (by omega), upd_ne (by omega), upd_ne (by omega), upd_ne (by omega), upd_ne (by omega), upd_same]
      · rw [upd_ne (by omega), upd_ne (by omega), upd_ne (by omega), upd_ne (by omega), upd_ne (by omega), upd_ne (by omega)]
        unfold gm_hM
        by_cases ea : a = n
        · rw [if_pos ea, ea, upd_same]; rfl
        · rw [if_neg ea, upd_ne (by omega), upd_ne (by omega)]
          exact (hs.2.2.1 a (by omega)).2
      · have hfe : gm_fst (gm_hM M n) a = gm_fst M a := gm_fst_congr (n := n) (fun i hi => if_neg (by omega)) a (by omega)
        rw [hfe]
        unfold gm_hM at hl
        unfold gm_hQ
        by_cases ea : a = n
        · subst ea
          rw [if_pos rfl] at hl
          rw [if_neg (by omega)]
          by_cases l0 : l = 0
          · subst l0
            rw [if_pos (by omega), upd_ne (by omega), upd_ne (by omega), upd_ne (by omega), upd_ne (by omega), upd_ne (by omega), upd_same, upd_ne (by omega), upd_ne (by omega), upd_ne (by omega), upd_ne (by omega), upd_same]
            exact ⟨rfl, rfl⟩
          · by_cases l1 : l = 1
            · subst l1
              rw [if_neg (by omega), if_pos (by omega), upd_ne (by omega), upd_ne (by omega), upd_ne (by omega), upd_same, upd_ne (by omega), upd_ne (by omega), upd_same]
              exact ⟨rfl, rfl⟩
            · have l2 : l = 2 := by omega
              subst l2
              rw [if_neg (by omega), if_neg (by omega), upd_ne (by omega), upd_same, upd_same]
              exact ⟨rfl, rfl⟩
        · rw [if_neg ea] at hl
          have hMa := hok.2.1 a (by omega)
          have hlt := gm_fst_lt (M := M) (n := n) (r := a) (by omega) hl
          rw [if_pos hlt, upd_ne (by omega), upd_ne (by omega), upd_ne (by omega), upd_ne (by omega), upd_ne (by omega), upd_ne (by omega), upd_ne (by omega), upd_ne (by omega), upd_ne (by omega), upd_ne (by omega), upd_ne (by omega), upd_ne (by omega), upd_ne (by omega), upd_ne (by omega), upd_ne (by omega), upd_ne (by omega)]
          exact hs.2.2.2 a l (by omega) hl
    · rw [if_neg cy, if_pos rfl]
      left
      exact ⟨by omega, rfl⟩
  · rw [if_neg cx, if_pos rfl]
    left
    exact ⟨by omega, rfl⟩
theorem gm_fit_part (hok : gm_ok M n Q) {T : Pt → Pt} (hT : ∀ p, gm_paper p → -2147483648 ≤ (T p).1 ∧ (T p).1 < 2147483648 ∧ -2147483648 ≤ (T p).2 ∧ (T p).2 < 2147483648) : gm_fit M n (fun c => T (Q c)) := fun c hc => hT _ (hok.2.2.1 c hc)
theorem t_shiftLoop {m1 : Mod} (hs : RS (m_state m1) M n Q) (dx dy : Int) :
    ∃ m', RS (m_state m') M n (fun c => ((Q c).1 + dx, (Q c).2 + dy)) ∧ m_kept m' = m_kept m1 ∧ SK m1 m' ∧ G_X9_tryShift_L30 FU m1 0 (iZ dx) (iZ dy) = (G_X9_end m').bind fun v91 => some (v91.1, v91.2) := by
  have h4 := hs.2.1
  have inner : ∀ (k30 : Mod → Int32 → Int32 → Int32 → Option (Int32 × Mod)) (r : Nat) (s : Mod), r < n → (RS (m_state s) M n (gm_part Q (fun p => (p.1 + dx, p.2 + dy)) (gm_fst M r)) ∧ m_kept s = m_kept m1 ∧ SK m1 s) →
      ∃ s', (RS (m_state s') M n (gm_part Q (fun p => (p.1 + dx, p.2 + dy)) (gm_fst M (r + 1))) ∧ m_kept s' = m_kept m1 ∧ SK m1 s') ∧ G_X9_tryShift_L43 k30 FU s 0 (iZ (r : Int)) (iZ dx) (iZ dy) = k30 s' (iZ ((r : Int) + 1)) (iZ dx) (iZ dy) := by
    intro k30 r s hr hI
    have hM := (hs.2.2.1 r hr).1
    exact lp_inv (L := fun u (s : Mod) c => G_X9_tryShift_L43 k30 u s c (iZ (r : Int)) (iZ dx) (iZ dy)) (N := M r) (I := fun c s => RS (m_state s) M n (gm_part Q (fun p => (p.1 + dx, p.2 + dy)) (gm_fst M r + c)) ∧ m_kept s = m_kept m1 ∧ SK m1 s) (K := fun s => k30 s (iZ ((r : Int) + 1)) (iZ dx) (iZ dy))
      (fun u c s hc hI => by
        obtain ⟨i1, i2, i3⟩ := hI
        have hq : gm_P M (gm_part Q (fun p => (p.1 + dx, p.2 + dy)) (gm_fst M r + c)) r c = Q (gm_fst M r + c) := if_neg (Nat.lt_irrefl _)
        obtain ⟨s2, e2, w1, w2, w3⟩ := t_setCorner s (r := r) (k := c) (by omega) (by omega) (iZ ((Q (gm_fst M r + c)).1 + dx)) (iZ ((Q (gm_fst M r + c)).2 + dy))
        refine ⟨s2, ⟨?_, w2.trans i2, SK.trans i3 w3⟩, ?_⟩
        · rw [w1]
          have := RS.place i1 hr hc ((Q (gm_fst M r + c)).1 + dx) ((Q (gm_fst M r + c)).2 + dy)
          have e3 := gm_part_s Q (fun p => (p.1 + dx, p.2 + dy)) (gm_fst M r + c)
          rw [e3] at this
          exact this
        · rw [G_X9_tryShift_L43, t_many i1 hr, Option.bind_some, ite_le (by omega), if_neg (by omega), t_x i1 hr hc, Option.bind_some, t_y i1 hr hc, Option.bind_some, hq, iZ_add, iZ_add, e2, Option.bind_some, iZ_1, iZ_add])
      (fun u s hI => by rw [G_X9_tryShift_L43, t_many hI.1 hr, Option.bind_some, ite_le (by omega), if_pos (by omega), iZ_1, iZ_add])
      (M r) 0 FU s (by omega) (by unfold FU; omega) hI
  obtain ⟨s', ⟨i1, i2, i3⟩, e⟩ := lp_inv (L := fun u (s : Mod) c => G_X9_tryShift_L30 u s c (iZ dx) (iZ dy)) (N := n) (I := fun c s => RS (m_state s) M n (gm_part Q (fun p => (p.1 + dx, p.2 + dy)) (gm_fst M c)) ∧ m_kept s = m_kept m1 ∧ SK m1 s) (K := fun s => (G_X9_end s).bind fun v91 => some (v91.1, v91.2))
    (fun u c s hc hI => by
      obtain ⟨s', j, e⟩ := inner (G_X9_tryShift_L30 u) c s hc hI
      refine ⟨s', j, ?_⟩
      rw [G_X9_tryShift_L30, t_n hI.1, Option.bind_some, ite_le (by omega), if_neg (by omega)]
      exact e)
    (fun u s hI => by rw [G_X9_tryShift_L30, t_n hI.1, Option.bind_some, ite_le (by omega), if_pos (by omega)])
    n 0 FU m1 (by omega) (by unfold FU; omega) ⟨by rw [show gm_fst M 0 = 0 from rfl, gm_part_0]; exact hs, rfl, SK.rfl' m1⟩
  exact ⟨s', RS.ext i1 (fun c hc => (if_pos hc).symm), i2, i3, e⟩
theorem t_tryShift (hs : RS (m_state m) M n Q) (hok : gm_ok M n Q) (dx dy : Int) (bx : -2147483648 ≤ dx ∧ dx < 2147483648) (bY : -2147483648 ≤ dy ∧ dy < 2147483648) :
    (¬ (-15 ≤ dx ∧ dx ≤ 15 ∧ -15 ≤ dy ∧ dy ≤ 15) ∧ G_X9_tryShift m (iZ dx) (iZ dy) = some (iZ 1, m)) ∨
    ((-15 ≤ dx ∧ dx ≤ 15 ∧ -15 ≤ dy ∧ dy ≤ 15) ∧ ∃ z m', TR m m' M n (fun c => ((Q c).1 + dx, (Q c).2 + dy)) z (G_X9_tryShift m (iZ dx) (iZ dy))) := by
  have hn := hok.1
  unfold G_X9_tryShift
  have e15 : (-15 : Int32) = iZ (-15) := rfl
  rw [e15, iZ_15, s_within dx (-15) 15 bx.1 bx.2 (by omega) (by omega) (by omega) (by omega), s_within dy (-15) 15 bY.1 bY.2 (by omega) (by omega) (by omega) (by omega), Option.bind_some, Option.bind_some, iZ_0, ite_eq (by split <;> omega), ite_eq (by split <;> omega)]
  by_cases cx : -15 ≤ dx ∧ dx ≤ 15
  · rw [if_pos cx, if_neg (by omega)]
    by_cases cy : -15 ≤ dy ∧ dy ≤ 15
    · rw [if_pos cy, if_neg (by omega)]
      right
      refine ⟨by omega, ?_⟩
      obtain ⟨m1, e1, s1, k1, q1⟩ := t_begin m
      have hs1 : RS (m_state m1) M n Q := by rw [s1]; exact hs
      obtain ⟨m2, h1, h2, h3, e⟩ := t_shiftLoop hs1 dx dy
      have e : G_X9_tryShift_L30 FU m1 (iZ 0) (iZ dx) (iZ dy) = (G_X9_end m2).bind fun v91 => some (v91.1, v91.2) := e
      rw [e1, Option.bind_some, e]
      refine t_finish h1 (gm_fit_part hok (T := fun p => (p.1 + dx, p.2 + dy)) (fun p hp => by unfold gm_paper at hp; dsimp only; omega)) hn.1 (fun r hr => (hok.2.1 r hr).1) (SK.trans q1 h3) (fun a ha => by rw [h2]; exact k1 a ha)
    · rw [if_neg cy, if_pos rfl]
      left
      exact ⟨by omega, rfl⟩
  · rw [if_neg cx, if_pos rfl]
    left
    exact ⟨by omega, rfl⟩
/-- a quarter turn (0) or the mirror (else) -/
def gm_tm (w : Int) (p : Pt) : Pt := if w = 0 then (15 - p.2, p.1) else (15 - p.1, p.2)
theorem t_turned (hs : RS (m_state m) M n Q) (w : Int) (hw : 0 ≤ w ∧ w ≤ 1) : ∃ m', G_X9_turned m (iZ w) = some m' ∧ RS (m_state m') M n (fun c => gm_tm w (Q c)) ∧ (∀ i, i < 85 → m_kept m' i = m_state m i) ∧ SK m m' := by
  obtain ⟨m1, e1, s1, k1, q1⟩ := t_begin m
  have hs1 : RS (m_state m1) M n Q := by rw [s1]; exact hs
  have h4 := hs.2.1
  have inner : ∀ (k6 : Mod → Int32 → Int32 → Option Mod) (r : Nat) (s : Mod), r < n → (RS (m_state s) M n (gm_part Q (gm_tm w) (gm_fst M r)) ∧ m_kept s = m_kept m1 ∧ SK m1 s) →
      ∃ s', (RS (m_state s') M n (gm_part Q (gm_tm w) (gm_fst M (r + 1))) ∧ m_kept s' = m_kept m1 ∧ SK m1 s') ∧ G_X9_turned_L18 k6 FU s 0 (iZ (r : Int)) (iZ w) = k6 s' (iZ ((r : Int) + 1)) (iZ w) := by
    intro k6 r s hr hI
    have hM := (hs.2.2.1 r hr).1
    exact lp_inv (L := fun u (s : Mod) c => G_X9_turned_L18 k6 u s c (iZ (r : Int)) (iZ w)) (N := M r) (I := fun c s => RS (m_state s) M n (gm_part Q (gm_tm w) (gm_fst M r + c)) ∧ m_kept s = m_kept m1 ∧ SK m1 s) (K := fun s => k6 s (iZ ((r : Int) + 1)) (iZ w))
      (fun u c s hc hI => by
        obtain ⟨i1, i2, i3⟩ := hI
        have hq : gm_P M (gm_part Q (gm_tm w) (gm_fst M r + c)) r c = Q (gm_fst M r + c) := if_neg (Nat.lt_irrefl _)
        obtain ⟨s2, e2, w1, w2, w3⟩ := t_setCorner s (r := r) (k := c) (by omega) (by omega) (iZ (gm_tm w (Q (gm_fst M r + c))).1) (iZ (gm_tm w (Q (gm_fst M r + c))).2)
        refine ⟨s2, ⟨?_, w2.trans i2, SK.trans i3 w3⟩, ?_⟩
        · have e3 := gm_part_s Q (gm_tm w) (gm_fst M r + c)
          rw [w1, show gm_fst M r + (c + 1) = gm_fst M r + c + 1 by omega, ← e3]
          exact RS.place i1 hr hc _ _
        · rw [G_X9_turned_L18, t_many i1 hr, Option.bind_some, ite_le (by omega), if_neg (by omega), t_x i1 hr hc, Option.bind_some, t_y i1 hr hc, Option.bind_some, hq, iZ_15, iZ_0, ite_eq (by omega), ite_eq (by omega), iZ_sub, iZ_sub, iZ_1, iZ_add]
          unfold gm_tm at e2
          by_cases w0 : w = 0
          · rw [if_pos w0] at e2
            dsimp only at e2
            rw [if_pos w0, if_pos w0, Option.bind_some, Option.bind_some, e2, Option.bind_some]
          · rw [if_neg w0] at e2
            dsimp only at e2
            rw [if_neg w0, if_neg w0, Option.bind_some, Option.bind_some, e2, Option.bind_some])
      (fun u s hI => by rw [G_X9_turned_L18, t_many hI.1 hr, Option.bind_some, ite_le (by omega), if_pos (by omega), iZ_1, iZ_add])
      (M r) 0 FU s (by omega) (by unfold FU; omega) hI
  obtain ⟨s', ⟨i1, i2, i3⟩, e⟩ := lp_inv (L := fun u (s : Mod) c => G_X9_turned_L6 u s c (iZ w)) (N := n) (I := fun c s => RS (m_state s) M n (gm_part Q (gm_tm w) (gm_fst M c)) ∧ m_kept s = m_kept m1 ∧ SK m1 s) (K := fun s => some s)
    (fun u c s hc hI => by
      obtain ⟨s', j, e⟩ := inner (G_X9_turned_L6 u) c s hc hI
      refine ⟨s', j, ?_⟩
      rw [G_X9_turned_L6, t_n hI.1, Option.bind_some, ite_le (by omega), if_neg (by omega)]
      exact e)
    (fun u s hI => by rw [G_X9_turned_L6, t_n hI.1, Option.bind_some, ite_le (by omega), if_pos (by omega)])
    n 0 FU m1 (by omega) (by unfold FU; omega) ⟨by rw [show gm_fst M 0 = 0 from rfl, gm_part_0]; exact hs1, rfl, SK.rfl' m1⟩
  have e : G_X9_turned_L6 FU m1 0 (iZ w) = some s' := e
  unfold G_X9_turned
  rw [e1, Option.bind_some, e]
  exact ⟨s', rfl, RS.ext i1 (fun c hc => (if_pos hc).symm), fun a ha => by rw [i2]; exact k1 a ha, SK.trans q1 i3⟩
end REF
