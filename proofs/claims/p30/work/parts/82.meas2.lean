/-! the first class: places, hull, kinds, sides -/
theorem gm_sc_on {D : Int} (hD : 0 < D) {a b p : Pt} (h : gm_on (gm_sc D a) (gm_sc D b) (gm_sc D p)) : gm_on a b p := by
  obtain ⟨h0, h1, h2⟩ := h
  rw [gm_sc_cr] at h0
  have z : gm_cr a b p = 0 := by
    rcases Int.mul_eq_zero.mp h0 with q | q
    · have := Int.mul_pos hD hD; omega
    · exact q
  have e1 : ∀ u v : Pt, (gm_sc D u).1 ≤ (gm_sc D v).1 ↔ u.1 ≤ v.1 := fun u v => gm_sc_le hD
  have e2 : ∀ u v : Pt, (gm_sc D u).2 ≤ (gm_sc D v).2 ↔ u.2 ≤ v.2 := fun u v => gm_sc_le hD
  rw [e1, e1, e1, e1] at h1
  rw [e2, e2, e2, e2] at h2
  exact ⟨z, h1, h2⟩
/-- where a point is: 0 outside, 1 on the border, 2 inside, 3 in a hole -/
def gm_wh (M : Nat → Nat) (n : Nat) (Q : Nat → Pt) (p : Pt) (z : Int) : Prop :=
  ((∃ c, c < gm_fst M n ∧ gm_on (Q c) (Q (gm_nf M n c)) p) ∧ z = 1) ∨
  ((∀ c, c < gm_fst M n → ¬ gm_on (Q c) (Q (gm_nf M n c)) p) ∧
    ((gm_w (M 0) (gm_P M Q 0) p = 0 ∧ z = 0) ∨ (gm_w (M 0) (gm_P M Q 0) p ≠ 0 ∧ (∃ r, 1 ≤ r ∧ r < n ∧ gm_w (M r) (gm_P M Q r) p ≠ 0) ∧ z = 3) ∨ (gm_w (M 0) (gm_P M Q 0) p ≠ 0 ∧ (∀ r, 1 ≤ r → r < n → gm_w (M r) (gm_P M Q r) p = 0) ∧ z = 2)))
theorem gm_wh_un {M : Nat → Nat} {n : Nat} {Q : Nat → Pt} {p : Pt} {z y : Int} (h1 : gm_wh M n Q p z) (h2 : gm_wh M n Q p y) : z = y := by
  rcases h1 with ⟨⟨c, hc, a1⟩, a⟩ | ⟨a0, ⟨a1, a⟩ | ⟨a1, ⟨r, r1, r2, a2⟩, a⟩ | ⟨a1, a2, a⟩⟩ <;> rcases h2 with ⟨⟨d, hd, b1⟩, b⟩ | ⟨b0, ⟨b1, b⟩ | ⟨b1, ⟨s, s1, s2, b2⟩, b⟩ | ⟨b1, b2, b⟩⟩ <;>
    first | omega | exact absurd a1 (b0 c hc) | exact absurd b1 (a0 d hd) | exact absurd a1 b1 | exact absurd b1 a1 | exact absurd (b2 r r1 r2) a2 | exact absurd (a2 s s1 s2) b2
theorem gm_wh_fi {M : Nat → Nat} {n : Nat} {Q : Nat → Pt} (hok : gm_ok M n Q) {p : Pt} {z : Int} (h : gm_wh M n Q p z) : gm_fi n M (gm_P M Q) p = if z = 2 then 1 else 0 := by
  have hn := hok.1
  have hg := gm_ok_good hok
  have ex : ∀ r, r < n → (gm_r (M r) (gm_P M Q r) p = 0 ↔ ∀ k, k < M r → ¬ gm_on (gm_P M Q r k) (gm_P M Q r (gm_nx (M r) k)) p) := by
    intro r hr
    rcases gm_r_iff (hg.2.2.2.1 r hr) p with ⟨q1, q2⟩ | ⟨q1, k, hk, q2⟩
    · exact ⟨fun _ => q2, fun _ => q1⟩
    · exact ⟨fun q => by omega, fun q => absurd q2 (q k hk)⟩
  have cv : ∀ r k, r < n → k < M r → (gm_on (Q (gm_fst M r + k)) (Q (gm_nf M n (gm_fst M r + k))) p ↔ gm_on (gm_P M Q r k) (gm_P M Q r (gm_nx (M r) k)) p) := by
    intro r k hr hk
    rw [gm_nf_eq hr hk]; rfl
  unfold gm_fi
  rcases h with ⟨⟨c, hc, a1⟩, a⟩ | ⟨a0, a⟩
  · rw [if_neg (show ¬ z = 2 by omega), if_neg]
    rintro ⟨q, -⟩
    obtain ⟨r, k, hr, hk, rfl⟩ := gm_flat hc
    exact (ex r hr).mp (q r hr) k hk ((cv r k hr hk).mp a1)
  · have off : ∀ r, r < n → gm_r (M r) (gm_P M Q r) p = 0 := fun r hr => (ex r hr).mpr (fun k hk q => a0 _ (gm_fst_lt hr hk) ((cv r k hr hk).mpr q))
    rcases a with ⟨a1, a⟩ | ⟨a1, ⟨r, r1, r2, a2⟩, a⟩ | ⟨a1, a2, a⟩
    · rw [if_neg (show ¬ z = 2 by omega), if_neg (fun q => q.2.1 a1)]
    · rw [if_neg (show ¬ z = 2 by omega), if_neg (fun q => a2 (q.2.2 r r2 r1))]
    · rw [if_pos a, if_pos ⟨off, a1, fun r hr h1 => a2 r h1 hr⟩]
def gm_max : Nat → (Nat → Int) → Int
  | 0, _ => 0
  | n + 1, g => if gm_max n g < g n then g n else gm_max n g
theorem gm_max_bd {n : Nat} {g : Nat → Int} {B : Int} (hB : 0 ≤ B) (h : ∀ k, k < n → g k ≤ B) : 0 ≤ gm_max n g ∧ gm_max n g ≤ B := by
  induction n with
  | zero => exact ⟨Int.le_refl 0, hB⟩
  | succ n ih =>
    have a := ih (fun k hk => h k (by omega))
    have b := h n (by omega)
    unfold gm_max
    split <;> omega
def gm_pv (m k : Nat) : Nat := if k = 0 then m - 1 else k - 1
theorem gm_pv_lt {m k : Nat} (h : k < m) : gm_pv m k < m := by unfold gm_pv; split <;> omega
/-- the bend at a corner -/
def gm_bend (M : Nat → Nat) (Q : Nat → Pt) (r k : Nat) : Int := gm_cr (gm_P M Q r (gm_pv (M r) k)) (gm_P M Q r k) (gm_P M Q r (gm_nx (M r) k))
def gm_kind (M : Nat → Nat) (Q : Nat → Pt) (r k : Nat) : Int := if gm_bend M Q r k = 0 then 0 else if (0 < gm_bend M Q r k ↔ 0 < gm_ds (M r) (gm_P M Q r)) then 1 else -1
theorem gm_kind_bd (M : Nat → Nat) (Q : Nat → Pt) (r k : Nat) : -1 ≤ gm_kind M Q r k ∧ gm_kind M Q r k ≤ 1 := by unfold gm_kind; (repeat' split) <;> omega
/-- the first of the greatest -/
def gm_lg (g : Nat → Int) : Nat → Nat
  | 0 => 0
  | k + 1 => if g (gm_lg g k) < g k then k else gm_lg g k
theorem gm_lg_lt {g : Nat → Int} {m : Nat} (k : Nat) (h0 : 0 < m) (hk : k ≤ m) : gm_lg g k < m := by
  induction k with
  | zero => exact h0
  | succ k ih =>
    unfold gm_lg
    split
    · omega
    · exact ih (by omega)
section CLASS
variable {f : Fig} {M : Nat → Nat} {n : Nat} {Q : Nat → Pt}
theorem gm_P0 : gm_P M Q 0 = Q := by
  funext k
  show Q (0 + k) = Q k
  rw [Nat.zero_add]
theorem gm_lt0 (hn : 1 ≤ n) {k : Nat} (hk : k < M 0) : k < gm_fst M n := by
  have := gm_fst_lt (M := M) (r := 0) (n := n) (by omega) hk
  rw [show gm_fst M 0 = 0 from rfl] at this
  omega
theorem gm_nf0 (hn : 1 ≤ n) {k : Nat} (hk : k < M 0) : gm_nf M n k = gm_nx (M 0) k := by
  have := gm_nf_eq (M := M) (r := 0) (n := n) (by omega) hk
  rw [show gm_fst M 0 = 0 from rfl, Nat.zero_add, Nat.zero_add] at this
  exact this
theorem gm_off_P2 (hok : gm_ok M n Q) {p : Pt} (off : ∀ c, c < gm_fst M n → ¬ gm_on (Q c) (Q (gm_nf M n c)) p) {r : Nat} (hr : r < n) : gm_off2 M Q r (gm_sc 2 p) := by
  intro k hk q
  refine off _ (gm_fst_lt hr hk) ?_
  rw [gm_nf_eq hr hk]
  exact gm_sc_on (show (0 : Int) < 2 by omega) q
theorem s_placeOf (h : RF f M n Q) (hok : gm_ok M n Q) {p : Pt} (hp : gm_paper p) : ∃ z : Int, 0 ≤ z ∧ z ≤ 3 ∧ gm_wh M n Q p z ∧ G_X1_placeOf f (iZ p.1) (iZ p.2) = some (iZ z) := by
  have hn := hok.1
  have h40 := h.n40
  have hg := gm_ok_good hok
  have pp2 : 0 ≤ (gm_sc 2 p).1 ∧ (gm_sc 2 p).1 ≤ 30 ∧ 0 ≤ (gm_sc 2 p).2 ∧ (gm_sc 2 p).2 ≤ 30 := by
    unfold gm_paper at hp
    have e1 : (gm_sc 2 p).1 = 2 * p.1 := rfl
    have e2 : (gm_sc 2 p).2 = 2 * p.2 := rfl
    omega
  obtain ⟨z, z01, e, ez⟩ := s_surrounds h hok.2.2.1 (r := 0) (by omega) pp2
  obtain ⟨y, y01, e', ey⟩ := s_inSomeHole h hok.2.2.1 hn.1 pp2
  have lp := lp_ex (L := fun k c => G_X1_placeOf_L2 f k c (iZ p.1) (iZ p.2)) (N := gm_fst M n) (T := fun c => gm_on (Q c) (Q (gm_nf M n c)) p) (r1 := some (iZ 1)) (r0 := some (iZ (if z = 0 then 0 else if y = 0 then 2 else 3)))
    (fun k c hc ht => by
      have hd := gm_nf_lt hc
      have b := gm_bo_01 (Q c) (Q (gm_nf M n c)) p
      rw [G_X1_placeOf_L2, h.2.1, ite_le (by omega), if_neg (by omega), s_nextOf h hc, Option.bind_some, s_onLine h hc hd (hok.2.2.1 c hc) (hok.2.2.1 _ hd) hp, Option.bind_some, iZ_0, ite_eq (by omega), if_neg]
      · rfl
      · intro q
        rcases b with b | b
        · omega
        · exact b.2 ht)
    (fun k c hc ht => by
      have hd := gm_nf_lt hc
      have b := gm_bo_01 (Q c) (Q (gm_nf M n c)) p
      rw [G_X1_placeOf_L2, h.2.1, ite_le (by omega), if_neg (by omega), s_nextOf h hc, Option.bind_some, s_onLine h hc hd (hok.2.2.1 c hc) (hok.2.2.1 _ hd) hp, Option.bind_some, iZ_0, ite_eq (by omega), if_pos, iZ_1, iZ_add]
      rcases b with b | b
      · exact absurd b.2 ht
      · exact b.1)
    (fun k => by
      have e : G_X1_surrounds f 0 (iZ (2 * p.1)) (iZ (2 * p.2)) = some (iZ z) := e
      have e' : G_X1_inSomeHole f (iZ (2 * p.1)) (iZ (2 * p.2)) = some (iZ y) := e'
      rw [G_X1_placeOf_L2, h.2.1, ite_le (by omega), if_pos (by omega), iZ_2, iZ_mul, iZ_mul, e, Option.bind_some, e', Option.bind_some, iZ_0, ite_eq (by omega), ite_eq (by omega), iZ_3]
      (repeat' split) <;> rfl)
    (gm_fst M n) 0 FU (by omega) (by unfold FU; omega)
  unfold G_X1_placeOf
  rcases lp with ⟨⟨c, -, c2, c3⟩, e⟩ | ⟨a, e⟩
  · exact ⟨1, by omega, by omega, Or.inl ⟨⟨c, c2, c3⟩, rfl⟩, e⟩
  · have off : ∀ c, c < gm_fst M n → ¬ gm_on (Q c) (Q (gm_nf M n c)) p := fun c hc => a c (Nat.zero_le c) hc
    have o2 : ∀ r, r < n → gm_off2 M Q r (gm_sc 2 p) := fun r hr => gm_off_P2 hok off hr
    have w : ∀ r, r < n → (gm_w (M r) (gm_P2 M Q r) (gm_sc 2 p) % 2 = 1 ↔ gm_w (M r) (gm_P M Q r) p ≠ 0) := by
      intro r hr
      rw [gm_odd2 (hg.2.2.2.1 r hr) (o2 r hr), gm_w2]
    have z1 := ez (o2 0 (by omega))
    have y1 := ey o2
    have w0 := w 0 (by omega)
    refine ⟨if z = 0 then 0 else if y = 0 then 2 else 3, by (repeat' split) <;> omega, by (repeat' split) <;> omega, Or.inr ⟨off, ?_⟩, e⟩
    by_cases c0 : z = 0
    · left
      rw [if_pos c0]
      refine ⟨Classical.byContradiction (fun q => ?_), rfl⟩
      have := w0.mpr q
      omega
    · have n0 : gm_w (M 0) (gm_P M Q 0) p ≠ 0 := w0.mp (by omega)
      rw [if_neg c0]
      by_cases cy : y = 0
      · right; right
        rw [if_pos cy]
        refine ⟨n0, fun r r1 r2 => Classical.byContradiction (fun q => ?_), rfl⟩
        have := y1.mpr ⟨r, r1, r2, (w r r2).mpr q⟩
        omega
      · right; left
        rw [if_neg cy]
        obtain ⟨r, r1, r2, q⟩ := y1.mp (by omega)
        exact ⟨n0, ⟨r, r1, r2, (w r r2).mp q⟩, rfl⟩
theorem s_priorOf (h : RF f M n Q) {r k : Nat} (hr : r < n) (hk : k < M r) : G_X1_priorOf f (iZ (r : Int)) (iZ (k : Int)) = some (iZ ((gm_fst M r + gm_pv (M r) k : Nat) : Int)) := by
  have hM := h.2.2.2.1 r hr
  unfold G_X1_priorOf
  rw [s_firstOf h (by omega), Option.bind_some, iZ_0, ite_le (by omega)]
  unfold gm_pv
  by_cases c : k = 0
  · rw [if_pos (show (k : Int) ≤ 0 by omega), s_sizeOf h hr, Option.bind_some, iZ_1, iZ_add, iZ_sub, if_pos c]
    exact congrArg (fun z => some (iZ z)) (by omega)
  · rw [if_neg (show ¬ (k : Int) ≤ 0 by omega), iZ_1, iZ_add, iZ_sub, if_neg c]
    exact congrArg (fun z => some (iZ z)) (by omega)
theorem s_bendAt (h : RF f M n Q) {r k : Nat} (hr : r < n) (hk : k < M r) : G_X1_bendAt f (iZ (r : Int)) (iZ (k : Int)) = some (iZ (gm_bend M Q r k)) := by
  have hc := gm_fst_lt hr hk
  unfold G_X1_bendAt
  rw [s_at h (by omega), Option.bind_some, s_priorOf h hr hk, Option.bind_some, show ((gm_fst M r : Nat) : Int) + (k : Int) = ((gm_fst M r + k : Nat) : Int) by omega, s_nextOf h hc, Option.bind_some, s_bend h (gm_fst_lt hr (gm_pv_lt hk)) hc (gm_nf_lt hc), Option.bind_some, gm_nf_eq hr hk]
  rfl
theorem gm_bend_bd (hok : gm_ok M n Q) {r k : Nat} (hr : r < n) (hk : k < M r) : -450 ≤ gm_bend M Q r k ∧ gm_bend M Q r k ≤ 450 :=
  gm_cr_450 (gm_paper_P hok hr (gm_pv_lt hk)) (gm_paper_P hok hr hk) (gm_paper_P hok hr (gm_nx_lt hk))
theorem s_kind (h : RF f M n Q) (hok : gm_ok M n Q) {r k : Nat} (hr : r < n) (hk : k < M r) : G_X2_kind f (iZ (r : Int)) (iZ (k : Int)) = some (iZ (gm_kind M Q r k)) := by
  have b1 := gm_bend_bd hok hr hk
  have b2 := gm_ds_bd hok hr
  unfold G_X2_kind
  rw [s_bendAt h hr hk, Option.bind_some, s_ringSum h hr]
  simp only [Option.bind_some]
  rw [iZ_0, iZ_1, ite_eq (by omega), ind_le (u := gm_bend M Q r k) (by omega), ind_le (u := gm_ds (M r) (gm_P M Q r)) (by omega)]
  simp only [Option.bind_some]
  rw [ite_eq (by split <;> split <;> omega)]
  unfold gm_kind
  (repeat' split) <;> first | rfl | omega
/-- how many corners of the outline are of a kind -/
def gm_kinds (M : Nat → Nat) (Q : Nat → Pt) (z : Int) : Int := gm_sum (M 0) (fun k => if gm_kind M Q 0 k = z then 1 else 0)
theorem gm_kinds_bd (M : Nat → Nat) (Q : Nat → Pt) (z : Int) : 0 ≤ gm_kinds M Q z ∧ gm_kinds M Q z ≤ M 0 := by
  have h1 := gm_sum_nonneg (n := M 0) (f := fun k => if gm_kind M Q 0 k = z then (1 : Int) else 0) (fun k hk => by split <;> omega)
  have h2 := gm_sum_le (n := M 0) (f := fun k => if gm_kind M Q 0 k = z then (1 : Int) else 0) (g := fun _ => 1) (fun k hk => by split <;> omega)
  rw [gm_sum_const] at h2
  unfold gm_kinds
  omega
theorem s_outlineCorners (h : RF f M n Q) (hok : gm_ok M n Q) (z : Int) (hz : -1 ≤ z ∧ z ≤ 1) : G_X2_outlineCorners f (iZ z) = some (iZ (gm_kinds M Q z)) := by
  have hn := hok.1
  have hM := hok.2.1 0 (by omega)
  have s0 : G_X1_sizeOf f 0 = some (iZ (M 0 : Nat)) := s_sizeOf h (r := 0) (by omega)
  have lp := lp_sum (L := fun k c a => G_X2_outlineCorners_L4 f k c a (iZ z)) (N := M 0) (g := fun k => if gm_kind M Q 0 k = z then 1 else 0) (K := fun a => some (iZ a))
    (fun k c a hc => by
      have kb := gm_kind_bd M Q 0 c
      have sk : G_X2_kind f 0 (iZ (c : Int)) = some (iZ (gm_kind M Q 0 c)) := s_kind h hok (r := 0) (by omega) hc
      rw [G_X2_outlineCorners_L4, s0, Option.bind_some, ite_le (by omega), if_neg (by omega), sk, Option.bind_some, ite_eq (by omega)]
      unfold G_X2_outlineCorners_j26
      rw [iZ_1, iZ_add, iZ_add]
      split
      · rfl
      · rw [Int.add_zero])
    (fun k a => by
      rw [G_X2_outlineCorners_L4, s0, Option.bind_some, ite_le (by omega), if_pos (by omega)])
    (M 0) 0 FU 0 (by omega) (by unfold FU; omega)
  refine Eq.trans lp (congrArg (fun z => some (iZ z)) ?_)
  rw [Int.zero_add]
  exact gm_sum_congr (fun k hk => by rw [Nat.zero_add])
/-- the square of a side's length -/
def gm_len (M : Nat → Nat) (Q : Nat → Pt) (r k : Nat) : Int := gm_sqd (gm_P M Q r (gm_nx (M r) k)) (gm_P M Q r k)
theorem gm_len_bd (hok : gm_ok M n Q) {r k : Nat} (hr : r < n) (hk : k < M r) : 0 ≤ gm_len M Q r k ∧ gm_len M Q r k ≤ 450 := gm_sqd_bd (gm_paper_P hok hr (gm_nx_lt hk)) (gm_paper_P hok hr hk)
theorem s_len (h : RF f M n Q) {r k : Nat} (hr : r < n) (hk : k < M r) : G_X1_squareOfSide f (iZ ((gm_fst M r + k : Nat) : Int)) = some (iZ (gm_len M Q r k)) := by
  rw [s_squareOfSide h (gm_fst_lt hr hk), gm_nf_eq hr hk]
  rfl
theorem s_isHullSide (h : RF f M n Q) (hok : gm_ok M n Q) {a b : Nat} (ha : a < M 0) (hb : b < M 0) : ((∀ c, c < M 0 → 0 ≤ gm_cr (Q a) (Q b) (Q c) ∧ (gm_cr (Q a) (Q b) (Q c) = 0 → gm_on (Q a) (Q b) (Q c))) ∧ G_X2_isHullSide f (iZ (a : Int)) (iZ (b : Int)) = some 1) ∨
    (¬ (∀ c, c < M 0 → 0 ≤ gm_cr (Q a) (Q b) (Q c) ∧ (gm_cr (Q a) (Q b) (Q c) = 0 → gm_on (Q a) (Q b) (Q c))) ∧ G_X2_isHullSide f (iZ (a : Int)) (iZ (b : Int)) = some 0) := by
  have hn := hok.1
  have hM := hok.2.1 0 (by omega)
  have s0 : G_X1_sizeOf f 0 = some (iZ (M 0 : Nat)) := s_sizeOf h (r := 0) (by omega)
  have ha' := gm_lt0 (n := n) (M := M) hn.1 ha
  have hb' := gm_lt0 (n := n) (M := M) hn.1 hb
  have lp := lp_ex (L := fun k c => G_X2_isHullSide_L2 f k c (iZ (a : Int)) (iZ (b : Int))) (N := M 0) (T := fun c => ¬ (0 ≤ gm_cr (Q a) (Q b) (Q c) ∧ (gm_cr (Q a) (Q b) (Q c) = 0 → gm_on (Q a) (Q b) (Q c)))) (r1 := some 0) (r0 := some 1)
    (fun k c hc ht => by
      have hc' := gm_lt0 (n := n) (M := M) hn.1 hc
      have bd := gm_cr_450 (hok.2.2.1 a ha') (hok.2.2.1 b hb') (hok.2.2.1 c hc')
      have bo := gm_bo_01 (Q a) (Q b) (Q c)
      rw [G_X2_isHullSide_L2, s0, Option.bind_some, ite_le (by omega), if_neg (by omega), s_bend h ha' hb' hc', Option.bind_some, iZ_0, ite_lt (by omega)]
      by_cases c1 : gm_cr (Q a) (Q b) (Q c) < 0
      · rw [if_pos c1]
      · rw [if_neg c1, ite_eq (by omega)]
        by_cases c2 : gm_cr (Q a) (Q b) (Q c) = 0
        · rw [if_pos c2, s_xOf h hc', Option.bind_some, s_yOf h hc', Option.bind_some, s_onLine h ha' hb' (hok.2.2.1 a ha') (hok.2.2.1 b hb') (hok.2.2.1 c hc'), Option.bind_some, ite_eq (by omega), if_pos]
          rcases bo with q | q
          · exact absurd ⟨by omega, fun _ => q.2⟩ ht
          · exact q.1
        · exact absurd ⟨by omega, fun q => absurd q c2⟩ ht)
    (fun k c hc ht => by
      have ht : (0 ≤ gm_cr (Q a) (Q b) (Q c) ∧ (gm_cr (Q a) (Q b) (Q c) = 0 → gm_on (Q a) (Q b) (Q c))) := Classical.byContradiction ht
      have hc' := gm_lt0 (n := n) (M := M) hn.1 hc
      have bd := gm_cr_450 (hok.2.2.1 a ha') (hok.2.2.1 b hb') (hok.2.2.1 c hc')
      have bo := gm_bo_01 (Q a) (Q b) (Q c)
      rw [G_X2_isHullSide_L2, s0, Option.bind_some, ite_le (by omega), if_neg (by omega), s_bend h ha' hb' hc', Option.bind_some, iZ_0, ite_lt (by omega), if_neg (by omega), ite_eq (by omega)]
      unfold G_X2_isHullSide_j51
      by_cases c2 : gm_cr (Q a) (Q b) (Q c) = 0
      · rw [if_pos c2, s_xOf h hc', Option.bind_some, s_yOf h hc', Option.bind_some, s_onLine h ha' hb' (hok.2.2.1 a ha') (hok.2.2.1 b hb') (hok.2.2.1 c hc'), Option.bind_some, ite_eq (by omega), if_neg, iZ_1, iZ_add]
        rcases bo with q | q
        · omega
        · exact absurd (ht.2 c2) q.2
      · rw [if_neg c2, iZ_1, iZ_add])
    (fun k => by rw [G_X2_isHullSide_L2, s0, Option.bind_some, ite_le (by omega), if_pos (by omega)])
    (M 0) 0 FU (by omega) (by unfold FU; omega)
  rcases lp with ⟨⟨c, -, c2, c3⟩, e⟩ | ⟨q, e⟩
  · exact Or.inr ⟨fun z => c3 (z c c2), e⟩
  · exact Or.inl ⟨fun c hc => Classical.byContradiction (q c (Nat.zero_le c) hc), e⟩
/-- what the first class adds for two corners of the outline -/
noncomputable def gm_hI (M : Nat → Nat) (Q : Nat → Pt) (a b : Nat) : Int := @ite Int (gm_hs (M 0) Q a b) (Classical.propDecidable _) (gm_pr Q a b) 0
theorem s_hull (h : RF f M n Q) (hok : gm_ok M n Q) : G_X2_hull f = some (iZ (gm_sum (M 0) (fun a => gm_sum (M 0) (fun b => gm_hI M Q a b)))) := by
  have hn := hok.1
  have hM := hok.2.1 0 (by omega)
  have s0 : G_X1_sizeOf f 0 = some (iZ (M 0 : Nat)) := s_sizeOf h (r := 0) (by omega)
  have inner : ∀ (k4 : Int32 → Int32 → Option Int32) (a : Nat) (acc : Int), a < M 0 → G_X2_hull_L15 k4 f FU 0 (iZ (a : Int)) (iZ acc) = k4 (iZ ((a : Int) + 1)) (iZ (acc + gm_sum (M 0) (fun b => gm_hI M Q a b))) := by
    intro k4 a acc ha
    have lp := lp_sum (L := fun k c acc => G_X2_hull_L15 k4 f k c (iZ (a : Int)) acc) (N := M 0) (g := fun b => gm_hI M Q a b) (K := fun acc => k4 (iZ ((a : Int) + 1)) (iZ acc))
      (fun k b acc hb => by
        have ha' := gm_lt0 (n := n) (M := M) hn.1 ha
        have hb' := gm_lt0 (n := n) (M := M) hn.1 hb
        rw [G_X2_hull_L15, s0, Option.bind_some, ite_le (by omega), if_neg (by omega), ite_eq (by omega)]
        unfold G_X2_hull_j47 gm_hI
        by_cases e : a = b
        · rw [if_pos (by omega), if_neg (fun q => q.2.2.1 e), iZ_1, iZ_add, Int.add_zero]
        · rw [if_neg (by omega)]
          rcases s_isHullSide h hok ha hb with ⟨q1, q2⟩ | ⟨q1, q2⟩
          · rw [q2, Option.bind_some, iZ_0, iZ_1, ite_eq (by omega), if_neg (by omega), s_product h ha' hb', Option.bind_some, iZ_add, iZ_add, if_pos ⟨ha, hb, e, q1⟩]
          · rw [q2, Option.bind_some, if_pos rfl, iZ_1, iZ_add, if_neg (fun q => q1 q.2.2.2), Int.add_zero])
      (fun k acc => by
        rw [G_X2_hull_L15, s0, Option.bind_some, ite_le (by omega), if_pos (by omega), iZ_1, iZ_add])
      (M 0) 0 FU acc (by omega) (by unfold FU; omega)
    refine Eq.trans lp (congrArg (fun z => k4 (iZ ((a : Int) + 1)) (iZ (acc + z))) ?_)
    exact gm_sum_congr (fun k hk => by rw [Nat.zero_add])
  have lp := lp_sum (L := fun k c a => G_X2_hull_L4 f k c a) (N := M 0) (g := fun a => gm_sum (M 0) (fun b => gm_hI M Q a b)) (K := fun a => some (iZ a))
    (fun k c a hc => by
      rw [G_X2_hull_L4, s0, Option.bind_some, ite_le (by omega), if_neg (by omega), inner _ c a hc])
    (fun k a => by
      rw [G_X2_hull_L4, s0, Option.bind_some, ite_le (by omega), if_pos (by omega)])
    (M 0) 0 FU 0 (by omega) (by unfold FU; omega)
  refine Eq.trans lp (congrArg (fun z => some (iZ z)) ?_)
  rw [Int.zero_add]
  exact gm_sum_congr (fun k hk => by rw [Nat.zero_add])
end CLASS
