/-! the first class: lines, points, rules -/
theorem gm_bdm {x y B C : Int} (hx : -B ≤ x ∧ x ≤ B) (hy : -C ≤ y ∧ y ≤ C) : -(B * C) ≤ x * y ∧ x * y ≤ B * C := by
  have hB : 0 ≤ B := by omega
  rcases Int.le_total 0 x with h | h
  · have k1 := Int.mul_le_mul_of_nonneg_left hy.2 h
    have k2 := Int.mul_le_mul_of_nonneg_left hy.1 h
    have k3 := Int.mul_le_mul_of_nonneg_right hx.2 (show 0 ≤ C by omega)
    have k4 : x * -C = -(x * C) := Int.mul_neg x C
    omega
  · have k1 := Int.mul_le_mul_of_nonpos_left h hy.2
    have k2 := Int.mul_le_mul_of_nonpos_left h hy.1
    have k3 := Int.mul_le_mul_of_nonneg_right hx.1 (show 0 ≤ C by omega)
    have k4 : x * -C = -(x * C) := Int.mul_neg x C
    have k5 : -B * C = -(B * C) := Int.neg_mul B C
    omega
theorem bnd_ite {α β : Type} {c : Prop} {i : Decidable c} {a b : α} {k : α → Option β} : ((@ite (Option α) c i (some a) (some b)).bind k) = if c then k a else k b := by
  by_cases h : c
  · rw [if_pos h, if_pos h]; rfl
  · rw [if_neg h, if_neg h]; rfl
theorem ite_iZ {c : Prop} {i : Decidable c} {a b : Int} : (@ite Int32 c i (iZ a) (iZ b)) = iZ (if c then a else b) := by
  by_cases h : c
  · rw [if_pos h, if_pos h]
  · rw [if_neg h, if_neg h]
def gm_bo (a b p : Pt) : Int := if gm_cr a b p = 0 ∧ ((a.1 ≤ p.1 ∧ p.1 ≤ b.1) ∨ (b.1 ≤ p.1 ∧ p.1 ≤ a.1)) ∧ ((a.2 ≤ p.2 ∧ p.2 ≤ b.2) ∨ (b.2 ≤ p.2 ∧ p.2 ≤ a.2)) then 1 else 0
theorem gm_bo_01 (a b p : Pt) : (gm_bo a b p = 1 ∧ gm_on a b p) ∨ (gm_bo a b p = 0 ∧ ¬ gm_on a b p) := by
  unfold gm_bo gm_on
  split
  · exact Or.inl ⟨rfl, by assumption⟩
  · exact Or.inr ⟨rfl, by assumption⟩
def gm_bx (a b c d : Pt) : Int := if gm_cr a b c * gm_cr a b d < 0 ∧ gm_cr c d a * gm_cr c d b < 0 then 1 else 0
theorem gm_bx_01 (a b c d : Pt) : (gm_bx a b c d = 1 ∧ gm_X a b c d) ∨ (gm_bx a b c d = 0 ∧ ¬ gm_X a b c d) := by
  unfold gm_bx gm_X
  split
  · exact Or.inl ⟨rfl, by assumption⟩
  · exact Or.inr ⟨rfl, by assumption⟩
/-- the first class's test whether a side is passed -/
def gm_pc (p a b : Pt) : Int := if (a.2 ≤ p.2 ∧ p.2 < b.2 ∧ 0 < gm_cr a b p) ∨ (b.2 ≤ p.2 ∧ p.2 < a.2 ∧ gm_cr a b p ≤ 0) then 1 else 0
theorem gm_cr_bd {a b p : Pt} {B : Int} (h1 : -B ≤ b.1 - a.1 ∧ b.1 - a.1 ≤ B) (h2 : -B ≤ b.2 - a.2 ∧ b.2 - a.2 ≤ B) (h3 : -B ≤ p.1 - a.1 ∧ p.1 - a.1 ≤ B) (h4 : -B ≤ p.2 - a.2 ∧ p.2 - a.2 ≤ B) : -(2 * (B * B)) ≤ gm_cr a b p ∧ gm_cr a b p ≤ 2 * (B * B) := by
  have k1 := gm_bdm h1 h4
  have k2 := gm_bdm h2 h3
  unfold gm_cr
  omega
theorem gm_cr_450 {a b p : Pt} (ha : gm_paper a) (hb : gm_paper b) (hp : gm_paper p) : -450 ≤ gm_cr a b p ∧ gm_cr a b p ≤ 450 := by
  unfold gm_paper at ha hb hp
  exact gm_cr_bd (B := 15) (by omega) (by omega) (by omega) (by omega)
theorem min_iZ {a b : Int} (h : -2147483648 ≤ a ∧ a < 2147483648 ∧ -2147483648 ≤ b ∧ b < 2147483648) {i : Decidable (iZ b < iZ a)} : (@ite Int32 (iZ b < iZ a) i (iZ b) (iZ a)) = iZ (if b < a then b else a) := by
  rw [ite_lt (by omega)]
  split <;> rfl
theorem max_iZ {a b : Int} (h : -2147483648 ≤ a ∧ a < 2147483648 ∧ -2147483648 ≤ b ∧ b < 2147483648) {i : Decidable (iZ a < iZ b)} : (@ite Int32 (iZ a < iZ b) i (iZ b) (iZ a)) = iZ (if a < b then b else a) := by
  rw [ite_lt (by omega)]
  split <;> rfl
theorem ind_le {u v p q : Int} (h : -2147483648 ≤ u ∧ u < 2147483648 ∧ -2147483648 ≤ v ∧ v < 2147483648) {i : Decidable (iZ u ≤ iZ v)} : (@ite (Option Int32) (iZ u ≤ iZ v) i (some (iZ p)) (some (iZ q))) = some (iZ (if u ≤ v then p else q)) := by
  rw [ite_le (by omega)]
  split <;> rfl
theorem ind_lt {u v p q : Int} (h : -2147483648 ≤ u ∧ u < 2147483648 ∧ -2147483648 ≤ v ∧ v < 2147483648) {i : Decidable (iZ u < iZ v)} : (@ite (Option Int32) (iZ u < iZ v) i (some (iZ p)) (some (iZ q))) = some (iZ (if u < v then p else q)) := by
  rw [ite_lt (by omega)]
  split <;> rfl
theorem ind_eq {u v p q : Int} (h : -2147483648 ≤ u ∧ u < 2147483648 ∧ -2147483648 ≤ v ∧ v < 2147483648) {i : Decidable (iZ u = iZ v)} : (@ite (Option Int32) (iZ u = iZ v) i (some (iZ p)) (some (iZ q))) = some (iZ (if u = v then p else q)) := by
  rw [ite_eq (by omega)]
  split <;> rfl
section CLASS
variable {f : Fig} {M : Nat → Nat} {n : Nat} {Q : Nat → Pt}
theorem s_bend (h : RF f M n Q) {a b c : Nat} (ha : a < gm_fst M n) (hb : b < gm_fst M n) (hc : c < gm_fst M n) : G_X1_bend f (iZ (a : Int)) (iZ (b : Int)) (iZ (c : Int)) = some (iZ (gm_cr (Q a) (Q b) (Q c))) := by
  have h40 := h.n40
  have ea := h.2.2.2.2.2.1 a ha
  have eb := h.2.2.2.2.2.1 b hb
  have ec := h.2.2.2.2.2.1 c hc
  unfold G_X1_bend
  simp (disch := omega) only [h.2.1, iZ_0, ite_lt, ite_le, if_pos, if_neg, rd_iZ, Option.bind_some, ea.1, ea.2, eb.1, eb.2, ec.1, ec.2, iZ_sub, iZ_mul]
  refine congrArg (fun z => some (iZ z)) ?_
  unfold gm_cr
  grind
theorem s_linesCross (h : RF f M n Q) {a b c d : Nat} (ha : a < gm_fst M n) (hb : b < gm_fst M n) (hc : c < gm_fst M n) (hd : d < gm_fst M n) (pa : gm_paper (Q a)) (pb : gm_paper (Q b)) (pc : gm_paper (Q c)) (pd : gm_paper (Q d)) :
    G_X1_linesCross f (iZ (a : Int)) (iZ (b : Int)) (iZ (c : Int)) (iZ (d : Int)) = some (iZ (gm_bx (Q a) (Q b) (Q c) (Q d))) := by
  have b1 := gm_bdm (gm_cr_450 pa pb pc) (gm_cr_450 pa pb pd)
  have b2 := gm_bdm (gm_cr_450 pc pd pa) (gm_cr_450 pc pd pb)
  unfold G_X1_linesCross
  rw [s_bend h ha hb hc, Option.bind_some, s_bend h ha hb hd, Option.bind_some, iZ_mul, iZ_0, iZ_1, ite_le (by omega), s_bend h hc hd ha, Option.bind_some, s_bend h hc hd hb, Option.bind_some, iZ_mul, ite_le (by omega)]
  unfold gm_bx
  (repeat' split) <;> first | rfl | omega
/-- numbers that the machine holds as they are -/
def gm_fit (M : Nat → Nat) (n : Nat) (Q : Nat → Pt) : Prop := ∀ c, c < gm_fst M n → -2147483648 ≤ (Q c).1 ∧ (Q c).1 < 2147483648 ∧ -2147483648 ≤ (Q c).2 ∧ (Q c).2 < 2147483648
theorem s_leavesPaper (h : RF f M n Q) (hq : gm_fit M n Q) : (gm_R1 M n Q ∧ G_X4_leavesPaper f = some 0) ∨ (¬ gm_R1 M n Q ∧ G_X4_leavesPaper f = some 1) := by
  have h40 := h.n40
  have lp := lp_ex (L := fun k c => G_X4_leavesPaper_L2 f k c) (N := gm_fst M n) (T := fun c => ¬ gm_paper (Q c)) (r1 := some 1) (r0 := some 0)
    (fun k c hc ht => by
      have q := hq c hc
      unfold gm_paper at ht
      rw [G_X4_leavesPaper_L2, h.2.1, ite_le (by omega), if_neg (by omega), s_xOf h hc, Option.bind_some, iZ_0, iZ_15, s_inRange _ _ _ (by omega) (by omega) (by omega) (by omega) (by omega) (by omega), Option.bind_some, ite_eq (by split <;> omega), s_yOf h hc, Option.bind_some, s_inRange _ _ _ (by omega) (by omega) (by omega) (by omega) (by omega) (by omega), Option.bind_some, ite_eq (by split <;> omega)]
      by_cases c1 : 0 ≤ (Q c).1 ∧ (Q c).1 ≤ 15
      · rw [if_pos c1, if_neg (by omega), if_neg (show ¬ (0 ≤ (Q c).2 ∧ (Q c).2 ≤ 15) by omega), if_pos rfl]
      · rw [if_neg c1, if_pos rfl])
    (fun k c hc ht => by
      have q := hq c hc
      have ht : gm_paper (Q c) := Classical.byContradiction ht
      unfold gm_paper at ht
      rw [G_X4_leavesPaper_L2, h.2.1, ite_le (by omega), if_neg (by omega), s_xOf h hc, Option.bind_some, iZ_0, iZ_15, s_inRange _ _ _ (by omega) (by omega) (by omega) (by omega) (by omega) (by omega), Option.bind_some, ite_eq (by split <;> omega), s_yOf h hc, Option.bind_some, s_inRange _ _ _ (by omega) (by omega) (by omega) (by omega) (by omega) (by omega), Option.bind_some, ite_eq (by split <;> omega)]
      rw [if_pos (show 0 ≤ (Q c).1 ∧ (Q c).1 ≤ 15 by omega), if_neg (by omega), if_pos (show 0 ≤ (Q c).2 ∧ (Q c).2 ≤ 15 by omega), if_neg (by omega), iZ_1, iZ_add])
    (fun k => by rw [G_X4_leavesPaper_L2, h.2.1, ite_le (by omega), if_pos (by omega)])
    (gm_fst M n) 0 FU (by omega) (by unfold FU; omega)
  rcases lp with ⟨⟨c, -, c2, c3⟩, e⟩ | ⟨a, e⟩
  · exact Or.inr ⟨fun q => c3 (q c c2), e⟩
  · exact Or.inl ⟨fun c hc => Classical.byContradiction (a c (Nat.zero_le c) hc), e⟩
theorem s_squareOfSide (h : RF f M n Q) {c : Nat} (hc : c < gm_fst M n) : G_X1_squareOfSide f (iZ (c : Int)) = some (iZ (gm_sqd (Q (gm_nf M n c)) (Q c))) := by
  have hd := gm_nf_lt hc
  unfold G_X1_squareOfSide
  rw [s_nextOf h hc, Option.bind_some, s_xOf h hd, Option.bind_some, s_xOf h hc, Option.bind_some, Option.bind_some, s_yOf h hd, Option.bind_some, s_yOf h hc, Option.bind_some, iZ_sub, iZ_sub, iZ_mul, iZ_mul, iZ_add]
  rfl
theorem gm_sqd_bd {a b : Pt} (ha : gm_paper a) (hb : gm_paper b) : 0 ≤ gm_sqd a b ∧ gm_sqd a b ≤ 450 := by
  unfold gm_paper at ha hb
  have k1 := gm_bdm (x := a.1 - b.1) (y := a.1 - b.1) (B := 15) (C := 15) (by omega) (by omega)
  have k2 := gm_bdm (x := a.2 - b.2) (y := a.2 - b.2) (B := 15) (C := 15) (by omega) (by omega)
  refine ⟨gm_sqd_nonneg a b, ?_⟩
  unfold gm_sqd
  omega
theorem gm_sqd_zero {a b : Pt} : gm_sqd a b = 0 ↔ a = b := by
  constructor
  · intro e
    refine Classical.byContradiction (fun q => ?_)
    have := gm_sq_pos (x := a.1 - b.1) (y := a.2 - b.2) (fun z => q (Prod.ext (by omega) (by omega)))
    unfold gm_sqd at e
    omega
  · intro e
    rw [e]
    exact gm_sqd_self b
theorem s_hasEmptySide (h : RF f M n Q) (r1 : gm_R1 M n Q) : (gm_R2 M n Q ∧ G_X4_hasEmptySide f = some 0) ∨ (¬ gm_R2 M n Q ∧ G_X4_hasEmptySide f = some 1) := by
  have h40 := h.n40
  have lp := lp_ex (L := fun k c => G_X4_hasEmptySide_L2 f k c) (N := gm_fst M n) (T := fun c => Q c = Q (gm_nf M n c)) (r1 := some 1) (r0 := some 0)
    (fun k c hc ht => by
      have bd := gm_sqd_bd (r1 _ (gm_nf_lt hc)) (r1 c hc)
      rw [G_X4_hasEmptySide_L2, h.2.1, ite_le (by omega), if_neg (by omega), s_squareOfSide h hc, Option.bind_some, iZ_0, ite_eq (by omega), if_pos (gm_sqd_zero.mpr ht.symm)])
    (fun k c hc ht => by
      have bd := gm_sqd_bd (r1 _ (gm_nf_lt hc)) (r1 c hc)
      rw [G_X4_hasEmptySide_L2, h.2.1, ite_le (by omega), if_neg (by omega), s_squareOfSide h hc, Option.bind_some, iZ_0, ite_eq (by omega), if_neg (fun z => ht (gm_sqd_zero.mp z).symm), iZ_1, iZ_add])
    (fun k => by rw [G_X4_hasEmptySide_L2, h.2.1, ite_le (by omega), if_pos (by omega)])
    (gm_fst M n) 0 FU (by omega) (by unfold FU; omega)
  rcases lp with ⟨⟨c, -, c2, c3⟩, e⟩ | ⟨a, e⟩
  · exact Or.inr ⟨fun q => q c c2 c3, e⟩
  · exact Or.inl ⟨fun c hc => a c (Nat.zero_le c) hc, e⟩
theorem s_hasCrossing (h : RF f M n Q) (r1 : gm_R1 M n Q) : (gm_R3 M n Q ∧ G_X4_hasCrossing f = some 0) ∨ (¬ gm_R3 M n Q ∧ G_X4_hasCrossing f = some 1) := by
  have h40 := h.n40
  have inner : ∀ (r2 : Int32 → Option Int32) (a : Nat), a < gm_fst M n → ((∃ b, b < a ∧ gm_X (Q a) (Q (gm_nf M n a)) (Q b) (Q (gm_nf M n b))) ∧ G_X4_hasCrossing_L18 r2 f FU 0 (iZ (gm_nf M n a : Nat)) (iZ (a : Int)) = some 1) ∨
      ((∀ b, b < a → ¬ gm_X (Q a) (Q (gm_nf M n a)) (Q b) (Q (gm_nf M n b))) ∧ G_X4_hasCrossing_L18 r2 f FU 0 (iZ (gm_nf M n a : Nat)) (iZ (a : Int)) = r2 (iZ ((a : Int) + 1))) := by
    intro r2 a ha
    have lp := lp_ex (L := fun k c => G_X4_hasCrossing_L18 r2 f k c (iZ (gm_nf M n a : Nat)) (iZ (a : Int))) (N := a) (T := fun b => gm_X (Q a) (Q (gm_nf M n a)) (Q b) (Q (gm_nf M n b))) (r1 := some 1) (r0 := r2 (iZ ((a : Int) + 1)))
      (fun k b hb ht => by
        have hb' : b < gm_fst M n := by omega
        have hx := gm_bx_01 (Q a) (Q (gm_nf M n a)) (Q b) (Q (gm_nf M n b))
        rw [G_X4_hasCrossing_L18, ite_le (by omega), if_neg (by omega), s_nextOf h hb', Option.bind_some, s_linesCross h ha (gm_nf_lt ha) hb' (gm_nf_lt hb') (r1 _ ha) (r1 _ (gm_nf_lt ha)) (r1 _ hb') (r1 _ (gm_nf_lt hb')), Option.bind_some, iZ_0, ite_eq (by omega), if_neg]
        intro z
        rcases hx with q | q
        · omega
        · exact q.2 ht)
      (fun k b hb ht => by
        have hb' : b < gm_fst M n := by omega
        have hx := gm_bx_01 (Q a) (Q (gm_nf M n a)) (Q b) (Q (gm_nf M n b))
        rw [G_X4_hasCrossing_L18, ite_le (by omega), if_neg (by omega), s_nextOf h hb', Option.bind_some, s_linesCross h ha (gm_nf_lt ha) hb' (gm_nf_lt hb') (r1 _ ha) (r1 _ (gm_nf_lt ha)) (r1 _ hb') (r1 _ (gm_nf_lt hb')), Option.bind_some, iZ_0, ite_eq (by omega), if_pos (by
          rcases hx with q | q
          · exact absurd q.2 ht
          · exact q.1), iZ_1, iZ_add])
      (fun k => by rw [G_X4_hasCrossing_L18, ite_le (by omega), if_pos (by omega), iZ_1, iZ_add])
      a 0 FU (by omega) (by unfold FU; omega)
    rcases lp with ⟨⟨c, -, c2, c3⟩, e⟩ | ⟨a, e⟩
    · exact Or.inl ⟨⟨c, c2, c3⟩, e⟩
    · exact Or.inr ⟨fun b hb => a b (Nat.zero_le b) hb, e⟩
  have lp := lp_ex (L := fun k c => G_X4_hasCrossing_L2 f k c) (N := gm_fst M n) (T := fun a => ∃ b, b < a ∧ gm_X (Q a) (Q (gm_nf M n a)) (Q b) (Q (gm_nf M n b))) (r1 := some 1) (r0 := some 0)
    (fun k a ha ht => by
      rw [G_X4_hasCrossing_L2, h.2.1, ite_le (by omega), if_neg (by omega), s_nextOf h ha, Option.bind_some]
      rcases inner (G_X4_hasCrossing_L2 f k) a ha with q | q
      · exact q.2
      · obtain ⟨b, hb, hx⟩ := ht
        exact absurd hx (q.1 b hb))
    (fun k a ha ht => by
      rw [G_X4_hasCrossing_L2, h.2.1, ite_le (by omega), if_neg (by omega), s_nextOf h ha, Option.bind_some]
      rcases inner (G_X4_hasCrossing_L2 f k) a ha with q | q
      · exact absurd q.1 ht
      · exact q.2)
    (fun k => by rw [G_X4_hasCrossing_L2, h.2.1, ite_le (by omega), if_pos (by omega)])
    (gm_fst M n) 0 FU (by omega) (by unfold FU; omega)
  rcases lp with ⟨⟨c, -, c2, b, hb, hx⟩, e⟩ | ⟨a, e⟩
  · exact Or.inr ⟨fun q => q c c2 b hb hx, e⟩
  · exact Or.inl ⟨fun c hc b hb hx => a c (Nat.zero_le c) hc ⟨b, hb, hx⟩, e⟩
theorem s_onLine (h : RF f M n Q) {a b : Nat} (ha : a < gm_fst M n) (hb : b < gm_fst M n) (pa : gm_paper (Q a)) (pb : gm_paper (Q b)) {p : Pt} (pp : gm_paper p) : G_X1_onLine f (iZ p.1) (iZ p.2) (iZ (a : Int)) (iZ (b : Int)) = some (iZ (gm_bo (Q a) (Q b) p)) := by
  have h40 := h.n40
  have xa : rd 40 (f_xs f) (iZ (a : Int)) = some (iZ (Q a).1) := by rw [rd_iZ (by omega) (by omega), (h.2.2.2.2.2.1 a ha).1]
  have ya : rd 40 (f_ys f) (iZ (a : Int)) = some (iZ (Q a).2) := by rw [rd_iZ (by omega) (by omega), (h.2.2.2.2.2.1 a ha).2]
  have xb : rd 40 (f_xs f) (iZ (b : Int)) = some (iZ (Q b).1) := by rw [rd_iZ (by omega) (by omega), (h.2.2.2.2.2.1 b hb).1]
  have yb : rd 40 (f_ys f) (iZ (b : Int)) = some (iZ (Q b).2) := by rw [rd_iZ (by omega) (by omega), (h.2.2.2.2.2.1 b hb).2]
  unfold gm_paper at pa pb pp
  have k1 := gm_bdm (x := (Q b).1 - (Q a).1) (y := p.2 - (Q a).2) (B := 15) (C := 15) (by omega) (by omega)
  have k2 := gm_bdm (x := (Q b).2 - (Q a).2) (y := p.1 - (Q a).1) (B := 15) (C := 15) (by omega) (by omega)
  unfold G_X1_onLine
  have hc : gm_cr (Q a) (Q b) p = ((Q b).1 - (Q a).1) * (p.2 - (Q a).2) - ((Q b).2 - (Q a).2) * (p.1 - (Q a).1) := rfl
  unfold gm_bo
  rw [hc, h.2.1, iZ_0, ite_lt (by omega), if_neg (by omega), ite_lt (by omega), if_neg (by omega), ite_le (by omega), if_neg (by omega), ite_lt (by omega), if_pos (by omega)]
  simp only [xa, ya, xb, yb, Option.bind_some, iZ_sub, iZ_mul]
  clear xa ya xb yb
  generalize ((Q b).1 - (Q a).1) * (p.2 - (Q a).2) = A at k1 ⊢
  generalize ((Q b).2 - (Q a).2) * (p.1 - (Q a).1) = B at k2 ⊢
  rw [min_iZ (a := (Q a).1) (b := (Q b).1) (by omega), max_iZ (a := (Q a).1) (b := (Q b).1) (by omega), min_iZ (a := (Q a).2) (b := (Q b).2) (by omega), max_iZ (a := (Q a).2) (b := (Q b).2) (by omega)]
  obtain ⟨l1, hl1⟩ : ∃ z, z = (if (Q b).1 < (Q a).1 then (Q b).1 else (Q a).1) := ⟨_, rfl⟩
  obtain ⟨u1, hu1⟩ : ∃ z, z = (if (Q a).1 < (Q b).1 then (Q b).1 else (Q a).1) := ⟨_, rfl⟩
  obtain ⟨l2, hl2⟩ : ∃ z, z = (if (Q b).2 < (Q a).2 then (Q b).2 else (Q a).2) := ⟨_, rfl⟩
  obtain ⟨u2, hu2⟩ : ∃ z, z = (if (Q a).2 < (Q b).2 then (Q b).2 else (Q a).2) := ⟨_, rfl⟩
  rw [← hl1, ← hu1, ← hl2, ← hu2]
  have q1 : ((a : Int) = a) ∧ (l1 ≤ u1 ∧ (l1 ≤ p.1 ∧ p.1 ≤ u1 ↔ ((Q a).1 ≤ p.1 ∧ p.1 ≤ (Q b).1) ∨ ((Q b).1 ≤ p.1 ∧ p.1 ≤ (Q a).1)) ∧ 0 ≤ l1 ∧ u1 ≤ 15) := by
    refine ⟨rfl, ?_⟩
    split at hl1 <;> split at hu1 <;> omega
  have q2 : (l2 ≤ u2 ∧ (l2 ≤ p.2 ∧ p.2 ≤ u2 ↔ ((Q a).2 ≤ p.2 ∧ p.2 ≤ (Q b).2) ∨ ((Q b).2 ≤ p.2 ∧ p.2 ≤ (Q a).2)) ∧ 0 ≤ l2 ∧ u2 ≤ 15) := by
    split at hl2 <;> split at hu2 <;> omega
  obtain ⟨-, q11, q12, q13, q14⟩ := q1
  obtain ⟨q21, q22, q23, q24⟩ := q2
  simp only [← q12, ← q22]
  clear hl1 hu1 hl2 hu2 q12 q22
  rw [ite_eq (by omega), ite_lt (by omega), ite_lt (by omega), ite_lt (by omega), ite_lt (by omega)]
  (repeat' split) <;> first | rfl | omega
theorem s_cornerOnLine (h : RF f M n Q) {c a b : Nat} (hc : c < gm_fst M n) (ha : a < gm_fst M n) (hb : b < gm_fst M n) (pc : gm_paper (Q c)) (pa : gm_paper (Q a)) (pb : gm_paper (Q b)) :
    G_X1_cornerOnLine f (iZ (c : Int)) (iZ (a : Int)) (iZ (b : Int)) = some (iZ (if c ≠ a ∧ c ≠ b then gm_bo (Q a) (Q b) (Q c) else 0)) := by
  have h40 := h.n40
  unfold G_X1_cornerOnLine
  rw [ite_eq (by omega), ite_eq (by omega), s_xOf h hc, Option.bind_some, s_yOf h hc, Option.bind_some, s_onLine h ha hb pa pb pc, Option.bind_some, iZ_0, iZ_1]
  have k := gm_bo_01 (Q a) (Q b) (Q c)
  rw [ite_eq (by omega)]
  have k : gm_bo (Q a) (Q b) (Q c) = 1 ∨ gm_bo (Q a) (Q b) (Q c) = 0 := by
    rcases k with k | k
    · exact Or.inl k.1
    · exact Or.inr k.1
  rcases k with k | k <;> rw [k] <;> (repeat' split) <;> first | rfl | omega
theorem s_hasTouching (h : RF f M n Q) (r1 : gm_R1 M n Q) : (gm_R4 M n Q ∧ G_X4_hasTouching f = some 0) ∨ (¬ gm_R4 M n Q ∧ G_X4_hasTouching f = some 1) := by
  have h40 := h.n40
  have val : ∀ s c, s < gm_fst M n → c < gm_fst M n → ∃ z : Int, G_X1_cornerOnLine f (iZ (c : Int)) (iZ (s : Int)) (iZ (gm_nf M n s : Nat)) = some (iZ z) ∧ ((z = 1 ∧ (c ≠ s ∧ c ≠ gm_nf M n s ∧ gm_on (Q s) (Q (gm_nf M n s)) (Q c))) ∨ (z = 0 ∧ ¬ (c ≠ s ∧ c ≠ gm_nf M n s ∧ gm_on (Q s) (Q (gm_nf M n s)) (Q c)))) := by
    intro s c hs hc
    have hs' := gm_nf_lt hs
    refine ⟨_, s_cornerOnLine h hc hs hs' (r1 _ hc) (r1 _ hs) (r1 _ hs'), ?_⟩
    by_cases q : c ≠ s ∧ c ≠ gm_nf M n s
    · rw [if_pos q]
      rcases gm_bo_01 (Q s) (Q (gm_nf M n s)) (Q c) with k | k
      · exact Or.inl ⟨k.1, q.1, q.2, k.2⟩
      · exact Or.inr ⟨k.1, fun z => k.2 z.2.2⟩
    · rw [if_neg q]
      exact Or.inr ⟨rfl, fun z => q ⟨z.1, z.2.1⟩⟩
  have inner : ∀ (r2 : Int32 → Option Int32) (s : Nat), s < gm_fst M n → ((∃ c, c < gm_fst M n ∧ (c ≠ s ∧ c ≠ gm_nf M n s ∧ gm_on (Q s) (Q (gm_nf M n s)) (Q c))) ∧ G_X4_hasTouching_L18 r2 f FU 0 (iZ (gm_nf M n s : Nat)) (iZ (s : Int)) = some 1) ∨
      ((∀ c, c < gm_fst M n → ¬ (c ≠ s ∧ c ≠ gm_nf M n s ∧ gm_on (Q s) (Q (gm_nf M n s)) (Q c))) ∧ G_X4_hasTouching_L18 r2 f FU 0 (iZ (gm_nf M n s : Nat)) (iZ (s : Int)) = r2 (iZ ((s : Int) + 1))) := by
    intro r2 s hs
    have lp := lp_ex (L := fun k c => G_X4_hasTouching_L18 r2 f k c (iZ (gm_nf M n s : Nat)) (iZ (s : Int))) (N := gm_fst M n) (T := fun c => (c ≠ s ∧ c ≠ gm_nf M n s ∧ gm_on (Q s) (Q (gm_nf M n s)) (Q c))) (r1 := some 1) (r0 := r2 (iZ ((s : Int) + 1)))
      (fun k c hc ht => by
        obtain ⟨z, e, hz⟩ := val s c hs hc
        have z1 : z = 1 := by
          rcases hz with q | q
          · exact q.1
          · exact absurd ht q.2
        rw [G_X4_hasTouching_L18, h.2.1, ite_le (by omega), if_neg (by omega), e, Option.bind_some, iZ_0, ite_eq (by omega), if_neg (by omega)])
      (fun k c hc ht => by
        obtain ⟨z, e, hz⟩ := val s c hs hc
        have z1 : z = 0 := by
          rcases hz with q | q
          · exact absurd q.2 ht
          · exact q.1
        rw [G_X4_hasTouching_L18, h.2.1, ite_le (by omega), if_neg (by omega), e, Option.bind_some, iZ_0, ite_eq (by omega), if_pos z1, iZ_1, iZ_add])
      (fun k => by rw [G_X4_hasTouching_L18, h.2.1, ite_le (by omega), if_pos (by omega), iZ_1, iZ_add])
      (gm_fst M n) 0 FU (by omega) (by unfold FU; omega)
    rcases lp with ⟨⟨c, -, c2, c3⟩, e⟩ | ⟨a, e⟩
    · exact Or.inl ⟨⟨c, c2, c3⟩, e⟩
    · exact Or.inr ⟨fun b hb => a b (Nat.zero_le b) hb, e⟩
  have lp := lp_ex (L := fun k c => G_X4_hasTouching_L2 f k c) (N := gm_fst M n) (T := fun s => ∃ c, c < gm_fst M n ∧ (c ≠ s ∧ c ≠ gm_nf M n s ∧ gm_on (Q s) (Q (gm_nf M n s)) (Q c))) (r1 := some 1) (r0 := some 0)
    (fun k s hs ht => by
      rw [G_X4_hasTouching_L2, h.2.1, ite_le (by omega), if_neg (by omega), s_nextOf h hs, Option.bind_some]
      rcases inner (G_X4_hasTouching_L2 f k) s hs with q | q
      · exact q.2
      · obtain ⟨b, hb, hx⟩ := ht
        exact absurd hx (q.1 b hb))
    (fun k s hs ht => by
      rw [G_X4_hasTouching_L2, h.2.1, ite_le (by omega), if_neg (by omega), s_nextOf h hs, Option.bind_some]
      rcases inner (G_X4_hasTouching_L2 f k) s hs with q | q
      · exact absurd q.1 ht
      · exact q.2)
    (fun k => by rw [G_X4_hasTouching_L2, h.2.1, ite_le (by omega), if_pos (by omega)])
    (gm_fst M n) 0 FU (by omega) (by unfold FU; omega)
  rcases lp with ⟨⟨s, -, s2, c, hc, c1, c2, c3⟩, e⟩ | ⟨a, e⟩
  · exact Or.inr ⟨fun q => q s s2 c hc c1 c2 c3, e⟩
  · exact Or.inl ⟨fun s hs c hc c1 c2 c3 => a s (Nat.zero_le s) hs ⟨c, hc, c1, c2, c3⟩, e⟩
theorem s_pass (h : RF f M n Q) {c : Nat} (hc : c < gm_fst M n) (pa : gm_paper (Q c)) (pb : gm_paper (Q (gm_nf M n c))) {p : Pt} (hp : 0 ≤ p.1 ∧ p.1 ≤ 30 ∧ 0 ≤ p.2 ∧ p.2 ≤ 30) :
    G_X1_passesRightOf f (iZ (c : Int)) (iZ p.1) (iZ p.2) = some (iZ (gm_pc p (gm_sc 2 (Q c)) (gm_sc 2 (Q (gm_nf M n c))))) := by
  have h40 := h.n40
  have hd := gm_nf_lt hc
  have ea := h.2.2.2.2.2.1 c hc
  have eb := h.2.2.2.2.2.1 _ hd
  have en := h.2.2.2.2.2.2 c hc
  unfold gm_paper at pa pb
  have k1 := gm_bdm (x := 2 * (Q (gm_nf M n c)).1 - 2 * (Q c).1) (y := p.2 - 2 * (Q c).2) (B := 30) (C := 30) (by omega) (by omega)
  have k2 := gm_bdm (x := p.1 - 2 * (Q c).1) (y := 2 * (Q (gm_nf M n c)).2 - 2 * (Q c).2) (B := 30) (C := 30) (by omega) (by omega)
  have hcr : gm_cr (gm_sc 2 (Q c)) (gm_sc 2 (Q (gm_nf M n c))) p = (2 * (Q (gm_nf M n c)).1 - 2 * (Q c).1) * (p.2 - 2 * (Q c).2) - (p.1 - 2 * (Q c).1) * (2 * (Q (gm_nf M n c)).2 - 2 * (Q c).2) := by
    unfold gm_cr gm_sc; dsimp only; grind
  have s1 : (gm_sc 2 (Q c)).2 = 2 * (Q c).2 := rfl
  have s2 : (gm_sc 2 (Q (gm_nf M n c))).2 = 2 * (Q (gm_nf M n c)).2 := rfl
  have xa : rd 40 (f_xs f) (iZ (c : Int)) = some (iZ (Q c).1) := by rw [rd_iZ (by omega) (by omega), ea.1]
  have ya : rd 40 (f_ys f) (iZ (c : Int)) = some (iZ (Q c).2) := by rw [rd_iZ (by omega) (by omega), ea.2]
  have xb : rd 40 (f_xs f) (iZ (gm_nf M n c : Nat)) = some (iZ (Q (gm_nf M n c)).1) := by rw [rd_iZ (by omega) (by omega), eb.1]
  have yb : rd 40 (f_ys f) (iZ (gm_nf M n c : Nat)) = some (iZ (Q (gm_nf M n c)).2) := by rw [rd_iZ (by omega) (by omega), eb.2]
  have rn : rd 40 (f_next f) (iZ (c : Int)) = some (iZ (gm_nf M n c : Nat)) := by rw [rd_iZ (by omega) (by omega), en]
  unfold G_X1_passesRightOf gm_pc
  rw [hcr, s1, s2, h.2.1, iZ_0, iZ_1, iZ_2]
  simp only [xa, ya, xb, yb, rn, Option.bind_some, iZ_mul, iZ_sub]
  rw [ite_lt (by omega), if_neg (by omega), ite_le (by omega), if_neg (by omega), ite_lt (by omega), if_neg (by omega), ite_lt (by omega), if_pos (by omega)]
  clear xa ya xb yb rn hcr ea eb en s1 s2
  generalize (2 * (Q (gm_nf M n c)).1 - 2 * (Q c).1) * (p.2 - 2 * (Q c).2) = A at k1 ⊢
  generalize (p.1 - 2 * (Q c).1) * (2 * (Q (gm_nf M n c)).2 - 2 * (Q c).2) = B at k2 ⊢
  rw [ind_le (u := 2 * (Q c).2) (v := p.2) (by omega), ind_le (u := 2 * (Q (gm_nf M n c)).2) (v := p.2) (by omega), ind_le (u := A) (by omega), ind_le (u := 2 * (Q (gm_nf M n c)).2) (v := 2 * (Q c).2) (by omega)]
  simp only [Option.bind_some]
  rw [ite_eq (by split <;> split <;> omega), ite_eq (by split <;> split <;> omega)]
  (repeat' split) <;> first | rfl | omega
end CLASS
