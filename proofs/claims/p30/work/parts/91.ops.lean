/-! the class alone: its operations -/
section OPS
variable {F : Fig} {P : PastS} {M : Nat → Nat} {n : Nat} {Q : Nat → Pt}
noncomputable def gm_whz (M : Nat → Nat) (n : Nat) (Q : Nat → Pt) (p : Pt) : Int := @dite _ (∃ z, gm_wh M n Q p z) (Classical.propDecidable _) (fun h => Classical.choose h) (fun _ => 0)
theorem gm_whz_eq {p : Pt} {z : Int} (h : gm_wh M n Q p z) : gm_whz M n Q p = z := by
  have hex : ∃ z, gm_wh M n Q p z := ⟨z, h⟩
  unfold gm_whz
  rw [dif_pos hex]
  exact gm_wh_un (Classical.choose_spec hex) h
theorem gm_wh_03 {p : Pt} {z : Int} (h : gm_wh M n Q p z) : 0 ≤ z ∧ z ≤ 3 := by
  rcases h with ⟨-, a⟩ | ⟨-, ⟨-, a⟩ | ⟨-, -, a⟩ | ⟨-, -, a⟩⟩ <;> omega
noncomputable def gm_ro (M : Nat → Nat) (n : Nat) (Q : Nat → Pt) (y fl : Int) : Int := gm_sum 16 (fun x => if gm_whz M n Q ((x : Int), y) = 2 ∨ (fl ≠ 0 ∧ gm_whz M n Q ((x : Int), y) = 1) then 1 else 0)
theorem gm_pairs_two (N : Nat) : gm_sum N (fun a => gm_sum N (fun b => gm_si M n Q a b)) = 2 * gm_sum N (fun a => gm_sum a (fun b => gm_si M n Q a b)) := by
  induction N with
  | zero => rfl
  | succ N ih =>
    show gm_sum N (fun a => gm_sum N (fun b => gm_si M n Q a b) + gm_si M n Q a N) + (gm_sum N (fun b => gm_si M n Q N b) + gm_si M n Q N N) = 2 * (gm_sum N (fun a => gm_sum a (fun b => gm_si M n Q a b)) + gm_sum N (fun b => gm_si M n Q N b))
    rw [gm_sum_add, ih, gm_si_0 (fun w => w.1 rfl), gm_sum_congr (f := fun a => gm_si M n Q a N) (g := fun b => gm_si M n Q N b) (fun k _ => gm_si_sym M n Q k N)]
    omega
theorem gm_si_bd (a b : Nat) : 0 ≤ gm_si M n Q a b ∧ gm_si M n Q a b ≤ 1 := by
  rcases gm_si_01 M n Q a b with w | w <;> rw [w.1] <;> decide
theorem gm_pairs_bd (h40 : gm_fst M n ≤ 40) : 0 ≤ gm_pairs M n Q ∧ gm_pairs M n Q ≤ 1600 := by
  have h1 : ∀ a, a < gm_fst M n → 0 ≤ gm_sum a (fun b => gm_si M n Q a b) ∧ gm_sum a (fun b => gm_si M n Q a b) ≤ 40 := by
    intro a ha
    have k1 := gm_sum_bd (m := a) (B := 1) (g := fun b => gm_si M n Q a b) (fun b _ => by have := gm_si_bd (M := M) (n := n) (Q := Q) a b; omega)
    have k2 := gm_sum_nonneg (n := a) (f := fun b => gm_si M n Q a b) (fun b _ => (gm_si_bd a b).1)
    omega
  have k1 := gm_sum_bd (m := gm_fst M n) (B := 40) (g := fun a => gm_sum a (fun b => gm_si M n Q a b)) (fun a ha => by have := h1 a ha; omega)
  have k2 := gm_sum_nonneg (n := gm_fst M n) (f := fun a => gm_sum a (fun b => gm_si M n Q a b)) (fun a ha => (h1 a ha).1)
  unfold gm_pairs
  omega
noncomputable def gm_abt (M : Nat → Nat) (n : Nat) (Q : Nat → Pt) (z : Int) : Int :=
  if z = 0 then n else if z = 1 then gm_fst M n else if z = 2 then gm_area M n Q else if z = 3 then gm_border M n Q else if z = 4 then gm_pp (gm_fi n M (gm_P M Q)) else if z = 5 then gm_kinds M Q 1 else if z = 6 then gm_kinds M Q (-1) else if z = 7 then gm_ears M n Q else if z = 8 then gm_sum (M 0) (fun a => gm_sum (M 0) (fun b => gm_hI M Q a b)) else if z = 9 then gm_pairs M n Q else 0
theorem gm_iM_ok (hok : gm_ok M n Q) {i : Nat} (h10 : M i < 10) : ∀ a, a < n → 3 ≤ gm_iM M i a ∧ gm_iM M i a ≤ 10 := by
  intro a ha
  have := hok.2.1 a ha
  unfold gm_iM
  split
  · rename_i ea; subst ea; omega
  · exact this
theorem gm_tM_ok (hok : gm_ok M n Q) {i : Nat} (h3 : 3 < M i) : ∀ a, a < n → 3 ≤ gm_tM M i a ∧ gm_tM M i a ≤ 10 := by
  intro a ha
  have := hok.2.1 a ha
  unfold gm_tM
  split
  · rename_i ea; subst ea; omega
  · exact this
theorem s_check (h : RF F M n Q) (z w : Int) (h1 : -2147483648 ≤ z) (h2 : z < 2147483648) (h3 : -2147483648 ≤ w) (h4 : w < 2147483648) :
    ((0 ≤ z ∧ z < n ∧ 0 ≤ w ∧ w < M z.toNat) ∧ G_X8_checkCorner F (iZ z) (iZ w) = some (.inr ())) ∨ (¬ (0 ≤ z ∧ z < n ∧ 0 ≤ w ∧ w < M z.toNat) ∧ G_X8_checkCorner F (iZ z) (iZ w) = some (.inl 1)) := by
  unfold G_X8_checkCorner
  rw [s_hasCorner h z w h1 h2 h3 h4, Option.bind_some]
  by_cases c : 0 ≤ z ∧ z < n ∧ 0 ≤ w ∧ w < M z.toNat
  · rw [if_pos c, if_neg (show ¬ iZ 1 = 0 by decide)]
    exact Or.inl ⟨c, rfl⟩
  · rw [if_neg c, if_pos (show iZ 0 = 0 from rfl)]
    exact Or.inr ⟨c, rfl⟩
theorem s_about (h : RF F M n Q) (hok : gm_ok M n Q) (z : Int) (h1 : -2147483648 ≤ z) (h2 : z < 2147483648) : G_X8_about F (iZ z) = some (if 0 ≤ z ∧ z ≤ 9 then .inr (iZ (gm_abt M n Q z)) else .inl 2) := by
  have k1 : G_X2_outlineCorners F 1 = some (iZ (gm_kinds M Q 1)) := s_outlineCorners h hok 1 (by omega)
  have k2 := s_outlineCorners h hok (-1) (by omega)
  rw [show iZ (-1) = (-1 : Int32) by decide] at k2
  unfold G_X8_about gm_abt
  rw [h.1, h.2.1, s_area h hok, s_border h hok, s_inside h hok, k1, k2, s_ears h hok, s_hull h hok, s_pairs h hok]
  simp only [Option.bind_some]
  rw [show (2 : Int32) = iZ 2 from rfl, show (3 : Int32) = iZ 3 from rfl, show (4 : Int32) = iZ 4 from rfl, show (5 : Int32) = iZ 5 from rfl, show (6 : Int32) = iZ 6 from rfl, show (7 : Int32) = iZ 7 from rfl, show (8 : Int32) = iZ 8 from rfl, show (9 : Int32) = iZ 9 from rfl, show (1 : Int32) = iZ 1 from rfl, show (0 : Int32) = iZ 0 from rfl]
  rw [ite_eq (by omega), ite_eq (by omega), ite_eq (by omega), ite_eq (by omega), ite_eq (by omega), ite_eq (by omega), ite_eq (by omega), ite_eq (by omega), ite_eq (by omega), ite_eq (by omega)]
  by_cases c0 : z = 0
  · rw [if_pos c0, if_pos (show 0 ≤ z ∧ z ≤ 9 by omega), if_pos c0]
  rw [if_neg c0, if_neg c0]
  by_cases c1 : z = 1
  · rw [if_pos c1, if_pos (show 0 ≤ z ∧ z ≤ 9 by omega), if_pos c1]
  rw [if_neg c1, if_neg c1]
  by_cases c2 : z = 2
  · rw [if_pos c2, if_pos (show 0 ≤ z ∧ z ≤ 9 by omega), if_pos c2]
  rw [if_neg c2, if_neg c2]
  by_cases c3 : z = 3
  · rw [if_pos c3, if_pos (show 0 ≤ z ∧ z ≤ 9 by omega), if_pos c3]
  rw [if_neg c3, if_neg c3]
  by_cases c4 : z = 4
  · rw [if_pos c4, if_pos (show 0 ≤ z ∧ z ≤ 9 by omega), if_pos c4]
  rw [if_neg c4, if_neg c4]
  by_cases c5 : z = 5
  · rw [if_pos c5, if_pos (show 0 ≤ z ∧ z ≤ 9 by omega), if_pos c5]
  rw [if_neg c5, if_neg c5]
  by_cases c6 : z = 6
  · rw [if_pos c6, if_pos (show 0 ≤ z ∧ z ≤ 9 by omega), if_pos c6]
  rw [if_neg c6, if_neg c6]
  by_cases c7 : z = 7
  · rw [if_pos c7, if_pos (show 0 ≤ z ∧ z ≤ 9 by omega), if_pos c7]
  rw [if_neg c7, if_neg c7]
  by_cases c8 : z = 8
  · rw [if_pos c8, if_pos (show 0 ≤ z ∧ z ≤ 9 by omega), if_pos c8]
  rw [if_neg c8, if_neg c8]
  by_cases c9 : z = 9
  · rw [if_pos c9, if_pos (show 0 ≤ z ∧ z ≤ 9 by omega), if_pos c9]
  rw [if_neg c9, if_neg c9, if_neg (show ¬ (0 ≤ z ∧ z ≤ 9) by omega)]
theorem s_inRowL (h : RF F M n Q) (hok : gm_ok M n Q) (hw : ∀ p, gm_paper p → G_X1_placeOf F (iZ p.1) (iZ p.2) = some (iZ (gm_whz M n Q p)) ∧ 0 ≤ gm_whz M n Q p ∧ gm_whz M n Q p ≤ 3) (y fl : Int) (hy : 0 ≤ y ∧ y ≤ 15) (hf : -2147483648 ≤ fl ∧ fl < 2147483648) : G_X8_inRow_L26 F FU 0 0 (iZ y) (iZ fl) = some (.inr (iZ (gm_ro M n Q y fl))) := by
  have lp := lp_sum (L := fun k c a => G_X8_inRow_L26 F k c a (iZ y) (iZ fl)) (N := 16) (g := fun x => if gm_whz M n Q ((x : Int), y) = 2 ∨ (fl ≠ 0 ∧ gm_whz M n Q ((x : Int), y) = 1) then 1 else 0) (K := fun a => some (Sum.inr (iZ a)))
    (fun k c a hc => by
      obtain ⟨h2, b1, b2⟩ := hw ((c : Int), y) (by unfold gm_paper; dsimp only; omega)
      dsimp only at h2
      rw [G_X8_inRow_L26, iZ_15, ite_lt (by omega), if_neg (by omega), h2, Option.bind_some, iZ_2, iZ_0, iZ_1, ite_eq (by omega), ite_eq (by omega), ite_eq (by omega)]
      unfold G_X8_inRow_j61 G_X8_inRow_j64
      generalize gm_whz M n Q ((c : Int), y) = z at *
      rw [iZ_1, iZ_add, iZ_add]
      by_cases c2 : z = 2
      · rw [if_pos c2, if_pos (Or.inl c2)]
      · rw [if_neg c2]
        by_cases cf : fl = 0
        · rw [if_pos cf, if_neg (by omega), Int.add_zero]
        · rw [if_neg cf]
          by_cases c1 : z = 1
          · rw [if_pos c1, if_pos (Or.inr ⟨cf, c1⟩)]
          · rw [if_neg c1, if_neg (by omega), Int.add_zero])
    (fun k a => by rw [G_X8_inRow_L26, iZ_15, ite_lt (by omega), if_pos (by omega)])
    16 0 FU 0 (by omega) (by unfold FU; omega)
  refine Eq.trans lp (congrArg (fun z => some (Sum.inr (iZ z))) ?_)
  rw [Int.zero_add]
  exact gm_sum_congr (fun k hk => by rw [Nat.zero_add])
def IC (F : Fig) (P : PastS) (M : Nat → Nat) (n : Nat) (Q : Nat → Pt) : Prop := gm_ok M n Q ∧ RF F M n Q ∧ ∃ (c : Nat) (H : Nat → FG), RP P c H
theorem p_check (h : RF F M n Q) {r k : Nat} (hr : r < n) (hk : k < M r) : G_X8_checkCorner F (iZ (r : Int)) (iZ (k : Int)) = some (.inr ()) := by
  have h4 := h.2.2.1
  have m10 := h.2.2.2.1 r hr
  rcases s_check h (r : Int) (k : Int) (by omega) (by omega) (by omega) (by omega) with ⟨_, e⟩ | ⟨c, _⟩
  · exact e
  · exact absurd ⟨by omega, by omega, by omega, by rw [Int.toNat_natCast]; omega⟩ c
theorem p_at (h : RF F M n Q) {r k : Nat} (hr : r < n) : G_X1_at F (iZ (r : Int)) (iZ (k : Int)) = some (iZ ((gm_fst M r + k : Nat) : Int)) := by
  rw [s_at h (by omega), show ((gm_fst M r : Nat) : Int) + (k : Int) = ((gm_fst M r + k : Nat) : Int) by omega]
theorem p_sees (h : RF F M n Q) (hok : gm_ok M n Q) {r k s l : Nat} (hr : r < n) (hk : k < M r) (hs : s < n) (hl : l < M s) : G_X8_sees F (iZ (r : Int)) (iZ (k : Int)) (iZ (s : Int)) (iZ (l : Int)) = some (.inr (iZ (gm_si M n Q (gm_fst M r + k) (gm_fst M s + l)))) := by
  unfold G_X8_sees
  rw [p_check h hr hk, p_check h hs hl, p_at h hr, p_at h hs]
  simp only [Option.bind_some]
  rw [s_between h hok (gm_fst_lt hr hk) (gm_fst_lt hs hl), Option.bind_some]
  rcases gm_si_01 M n Q (gm_fst M r + k) (gm_fst M s + l) with w | w
  · rw [w.1]; rfl
  · rw [w.1]; rfl
theorem p_corner (h : RF F M n Q) (hok : gm_ok M n Q) {r k : Nat} (hr : r < n) (hk : k < M r) :
    G_X8_corner F (iZ (r : Int)) (iZ (k : Int)) 0 = some (.inr (iZ (gm_P M Q r k).1)) ∧ G_X8_corner F (iZ (r : Int)) (iZ (k : Int)) 1 = some (.inr (iZ (gm_P M Q r k).2)) ∧
    G_X8_corner F (iZ (r : Int)) (iZ (k : Int)) 2 = some (.inr (iZ (gm_kind M Q r k))) ∧ G_X8_corner F (iZ (r : Int)) (iZ (k : Int)) 3 = some (.inr (iZ (gm_seen M n Q (gm_fst M r + k)))) ∧ G_X8_corner F (iZ (r : Int)) (iZ (k : Int)) 4 = some (.inr (iZ (gm_abs (gm_bend M Q r k)))) := by
  have hc := gm_fst_lt hr hk
  have bb := gm_bend_bd hok hr hk
  unfold G_X8_corner
  rw [p_check h hr hk, p_at h hr]
  simp only [Option.bind_some]
  rw [s_xOf h hc, s_yOf h hc, s_kind h hok hr hk, s_seenFrom h hok hc, s_bendAt h hr hk]
  simp only [Option.bind_some]
  rw [abs_iZ (by omega) (by omega)]
  refine ⟨?_, ?_, ?_, ?_, ?_⟩
  · rw [if_pos trivial]; rfl
  · rw [if_neg (show ¬ (1 : Int32) = 0 by decide), if_pos trivial]; rfl
  · rw [if_neg (show ¬ (2 : Int32) = 0 by decide), if_neg (show ¬ (2 : Int32) = 1 by decide), if_pos trivial]
  · rw [if_neg (show ¬ (3 : Int32) = 0 by decide), if_neg (show ¬ (3 : Int32) = 1 by decide), if_neg (show ¬ (3 : Int32) = 2 by decide), if_pos trivial]
  · rw [if_neg (show ¬ (4 : Int32) = 0 by decide), if_neg (show ¬ (4 : Int32) = 1 by decide), if_neg (show ¬ (4 : Int32) = 2 by decide), if_neg (show ¬ (4 : Int32) = 3 by decide), if_pos trivial]
theorem p_cut (h : RF F M n Q) (hok : gm_ok M n Q) {k : Nat} (hk : k < M 0) : G_X8_cut F (iZ (k : Int)) = some (.inr (iZ (if gm_ear M n Q k = 0 then -9 else gm_abs (gm_bend M Q 0 k)))) := by
  have hn := hok.1
  have bb := gm_bend_bd hok (r := 0) (by omega) hk
  have b1 : G_X1_bendAt F 0 (iZ (k : Int)) = some (iZ (gm_bend M Q 0 k)) := s_bendAt h (r := 0) (by omega) hk
  have e1 : G_X8_checkCorner F 0 (iZ (k : Int)) = some (.inr ()) := p_check h (r := 0) (by omega) hk
  unfold G_X8_cut
  rw [e1]
  simp only [Option.bind_some]
  rw [s_isEar h hok hk, Option.bind_some]
  rcases gm_ear_01 M n Q k with w | w
  · rw [w, if_pos (show iZ 0 = 0 from rfl), if_pos rfl]; rfl
  · rw [w, if_neg (show ¬ iZ 1 = 0 by decide), b1, Option.bind_some, abs_iZ (by omega) (by omega), if_neg (by omega)]
theorem p_place (h : RF F M n Q) (hok : gm_ok M n Q) : ∀ p, gm_paper p → G_X1_placeOf F (iZ p.1) (iZ p.2) = some (iZ (gm_whz M n Q p)) ∧ 0 ≤ gm_whz M n Q p ∧ gm_whz M n Q p ≤ 3 := by
  intro p hp
  obtain ⟨z, z0, z3, w, e⟩ := s_placeOf h hok hp
  rw [gm_whz_eq w]
  exact ⟨e, z0, z3⟩
theorem p_point (h : RF F M n Q) (hok : gm_ok M n Q) {p : Pt} (hp : gm_paper p) : G_X8_point F (iZ p.1) (iZ p.2) = some (.inr (iZ (gm_whz M n Q p))) := by
  have hp' := hp
  unfold gm_paper at hp'
  unfold G_X8_point
  rw [iZ_0, iZ_15, s_inRange p.1 0 15 (by omega) (by omega) (by omega) (by omega) (by omega) (by omega), s_inRange p.2 0 15 (by omega) (by omega) (by omega) (by omega) (by omega) (by omega), Option.bind_some, if_pos (show 0 ≤ p.1 ∧ p.1 ≤ 15 by omega), if_neg (show ¬ iZ 1 = iZ 0 by decide), Option.bind_some, if_pos (show 0 ≤ p.2 ∧ p.2 ≤ 15 by omega), if_neg (show ¬ iZ 1 = iZ 0 by decide), (p_place h hok p hp).1, Option.bind_some]
theorem p_inRow (h : RF F M n Q) (hok : gm_ok M n Q) (y fl : Int) (hy : 0 ≤ y ∧ y ≤ 15) (hf : -2147483648 ≤ fl ∧ fl < 2147483648) : G_X8_inRow F (iZ y) (iZ fl) = some (.inr (iZ (gm_ro M n Q y fl))) := by
  unfold G_X8_inRow
  rw [show G_X8_inRange (iZ y) 0 15 = some (iZ 1) by rw [iZ_0, iZ_15, s_inRange y 0 15 (by omega) (by omega) (by omega) (by omega) (by omega) (by omega), if_pos (show 0 ≤ y ∧ y ≤ 15 by omega)], Option.bind_some, if_neg (show ¬ iZ 1 = 0 by decide)]
  exact s_inRowL h hok (p_place h hok) y fl hy hf
theorem p_whyNot (h : RF F M n Q) (hok : gm_ok M n Q) (D : Fig) {r k : Nat} (hr : r < n) (hk : k < M r) (x y : Int) (bx : -2147483648 ≤ x ∧ x < 2147483648) (bY : -2147483648 ≤ y ∧ y < 2147483648) :
    ∃ z D', gm_brk M n (upQ Q (gm_fst M r + k) (x, y)) z ∧ G_X8_whyNot F D (iZ (r : Int)) (iZ (k : Int)) (iZ x) (iZ y) = some (.inr (iZ z), D') := by
  have fit : gm_fit M n (upQ Q (gm_fst M r + k) (x, y)) := gm_fit_up (gm_fit_of hok.2.2.1) ⟨bx.1, bx.2, bY.1, bY.2⟩
  obtain ⟨f1, ec, q1⟩ := s_copyFrom (f := D) h
  obtain ⟨f2, ep, q2⟩ := s_place q1 (gm_fst_lt hr hk) (x, y)
  obtain ⟨z, -, -, br, eb⟩ := s_firstBroken q2 fit (fun r hr => (hok.2.1 r hr).1) hok.1.1
  have ep : G_X1_place f1 (iZ ((gm_fst M r + k : Nat) : Int)) (iZ x) (iZ y) = some f2 := ep
  refine ⟨z, f2, br, ?_⟩
  unfold G_X8_whyNot
  rw [p_check h hr hk, Option.bind_some]
  dsimp only
  rw [ec, Option.bind_some, p_at q1 hr, Option.bind_some, ep, Option.bind_some, eb, Option.bind_some]
theorem p_keep {M' : Nat → Nat} {n' : Nat} {Q' : Nat → Pt} {f' : Fig} (ic : IC F P M n Q) (rf : RF f' M' n' Q') (ok : gm_ok M' n' Q') : ∃ F2 P2, G_X8_keepDraft F f' P = some (F2, P2) ∧ IC F2 P2 M' n' Q' ∧ G_X2_area F2 = some (iZ (gm_area M' n' Q')) ∧ f_rings F2 = iZ n' := by
  obtain ⟨hok, h, c, H, hp⟩ := ic
  obtain ⟨F2, P2, ek, q1, q2⟩ := s_keepDraft hp h rf
  exact ⟨F2, P2, ek, ⟨ok, q1, _, _, q2⟩, s_area q1 ok, q1.1⟩
theorem p_move (ic : IC F P M n Q) (D : Fig) {r k : Nat} (hr : r < n) (hk : k < M r) (x y : Int) (bx : -2147483648 ≤ x ∧ x < 2147483648) (bY : -2147483648 ≤ y ∧ y < 2147483648) :
    ∃ z, gm_brk M n (upQ Q (gm_fst M r + k) (x, y)) z ∧ ((z = 0 ∧ ∃ F' D' P', G_L_move F D P (iZ (r : Int)) (iZ (k : Int)) (iZ x) (iZ y) = some (iZ (gm_area M n (upQ Q (gm_fst M r + k) (x, y))), F', D', P') ∧ IC F' P' M n (upQ Q (gm_fst M r + k) (x, y))) ∨
      (z ≠ 0 ∧ ∃ D', G_L_move F D P (iZ (r : Int)) (iZ (k : Int)) (iZ x) (iZ y) = some (-2, F, D', P))) := by
  have hok := ic.1
  have h := ic.2.1
  have hn := hok.1
  have hM := hok.2.1 r hr
  obtain ⟨f1, ec, q1⟩ := s_copyFrom (f := D) h
  unfold G_L_move G_X8_move
  rw [p_check h hr hk, Option.bind_some]
  dsimp only
  rw [ec, Option.bind_some]
  rcases s_movedCorner q1 hok r k x y (by omega) (by omega) bx bY with ⟨c1, _⟩ | ⟨_, f', z, z0, z5, rf, br, e⟩
  · exact absurd ⟨by omega, by omega, by omega, by rw [Int.toNat_natCast]; omega⟩ c1
  rw [Int.toNat_natCast, Int.toNat_natCast] at rf br
  refine ⟨z, br, ?_⟩
  by_cases c : z = 0
  · left
    subst c
    obtain ⟨F2, P2, ek, ic2, ea, _⟩ := p_keep ic rf (gm_brk_ok hn hok.2.1 br)
    rw [if_pos rfl] at e
    rw [e, Option.bind_some]
    dsimp only
    rw [if_neg (show ¬ iZ 1 = 0 by decide), ek, Option.bind_some]
    dsimp only
    rw [ea, Option.bind_some]
    exact ⟨rfl, _, _, _, rfl, ic2⟩
  · right
    rw [if_neg c] at e
    rw [e, Option.bind_some]
    dsimp only
    rw [if_pos (show iZ 0 = 0 from rfl)]
    exact ⟨c, _, rfl⟩
theorem p_insert (ic : IC F P M n Q) (D : Fig) {r k : Nat} (hr : r < n) (hk : k < M r) (x y : Int) (bx : -2147483648 ≤ x ∧ x < 2147483648) (bY : -2147483648 ≤ y ∧ y < 2147483648) :
    (M r = 10 ∧ ∃ D', G_L_insert F D P (iZ (r : Int)) (iZ (k : Int)) (iZ x) (iZ y) = some (-2, F, D', P)) ∨
    (M r < 10 ∧ ∃ z, gm_brk (gm_iM M r) n (gm_iQ Q (gm_fst M r + (k + 1)) (x, y)) z ∧ ((z = 0 ∧ ∃ F' D' P', G_L_insert F D P (iZ (r : Int)) (iZ (k : Int)) (iZ x) (iZ y) = some (iZ (gm_area (gm_iM M r) n (gm_iQ Q (gm_fst M r + (k + 1)) (x, y))), F', D', P') ∧ IC F' P' (gm_iM M r) n (gm_iQ Q (gm_fst M r + (k + 1)) (x, y))) ∨
      (z ≠ 0 ∧ ∃ D', G_L_insert F D P (iZ (r : Int)) (iZ (k : Int)) (iZ x) (iZ y) = some (-2, F, D', P)))) := by
  have hok := ic.1
  have h := ic.2.1
  have hn := hok.1
  have hM := hok.2.1 r hr
  obtain ⟨f1, ec, q1⟩ := s_copyFrom (f := D) h
  unfold G_L_insert G_X8_insert
  rw [p_check h hr hk, Option.bind_some]
  dsimp only
  rw [ec, Option.bind_some]
  rcases s_addedCorner q1 hok r k x y (by omega) (by omega) bx bY with ⟨c1, _⟩ | ⟨_, m10, e⟩ | ⟨_, m10, f', z, z0, z5, rf, br, e⟩
  · exact absurd ⟨by omega, by omega, by omega, by rw [Int.toNat_natCast]; omega⟩ c1
  · left
    rw [Int.toNat_natCast] at m10
    rw [e, Option.bind_some]
    dsimp only
    rw [if_pos (show (0 : Int32) = 0 from rfl)]
    exact ⟨m10, _, rfl⟩
  right
  rw [Int.toNat_natCast] at m10
  rw [Int.toNat_natCast, Int.toNat_natCast] at rf br
  refine ⟨m10, z, br, ?_⟩
  by_cases c : z = 0
  · left
    subst c
    obtain ⟨F2, P2, ek, ic2, ea, _⟩ := p_keep ic rf (gm_brk_ok hn (gm_iM_ok hok m10) br)
    rw [if_pos rfl] at e
    rw [e, Option.bind_some]
    dsimp only
    rw [if_neg (show ¬ iZ 1 = 0 by decide), ek, Option.bind_some]
    dsimp only
    rw [ea, Option.bind_some]
    exact ⟨rfl, _, _, _, rfl, ic2⟩
  · right
    rw [if_neg c] at e
    rw [e, Option.bind_some]
    dsimp only
    rw [if_pos (show iZ 0 = 0 from rfl)]
    exact ⟨c, _, rfl⟩
theorem p_remove (ic : IC F P M n Q) (D : Fig) {r k : Nat} (hr : r < n) (hk : k < M r) :
    (M r = 3 ∧ ∃ D', G_L_remove F D P (iZ (r : Int)) (iZ (k : Int)) = some (-2, F, D', P)) ∨
    (3 < M r ∧ ∃ z, gm_brk (gm_tM M r) n (gm_tQ Q (gm_fst M r + k)) z ∧ ((z = 0 ∧ ∃ F' D' P', G_L_remove F D P (iZ (r : Int)) (iZ (k : Int)) = some (iZ (gm_area (gm_tM M r) n (gm_tQ Q (gm_fst M r + k))), F', D', P') ∧ IC F' P' (gm_tM M r) n (gm_tQ Q (gm_fst M r + k))) ∨
      (z ≠ 0 ∧ ∃ D', G_L_remove F D P (iZ (r : Int)) (iZ (k : Int)) = some (-2, F, D', P)))) := by
  have hok := ic.1
  have h := ic.2.1
  have hn := hok.1
  have hM := hok.2.1 r hr
  obtain ⟨f1, ec, q1⟩ := s_copyFrom (f := D) h
  unfold G_L_remove G_X8_remove
  rw [p_check h hr hk, Option.bind_some]
  dsimp only
  rw [ec, Option.bind_some]
  rcases s_lostCorner q1 hok r k (by omega) (by omega) with ⟨c1, _⟩ | ⟨_, m3, e⟩ | ⟨_, m3, f', z, z0, z5, rf, br, e⟩
  · exact absurd ⟨by omega, by omega, by omega, by rw [Int.toNat_natCast]; omega⟩ c1
  · left
    rw [Int.toNat_natCast] at m3
    rw [e, Option.bind_some]
    dsimp only
    rw [if_pos (show (0 : Int32) = 0 from rfl)]
    exact ⟨m3, _, rfl⟩
  right
  rw [Int.toNat_natCast] at m3
  rw [Int.toNat_natCast, Int.toNat_natCast] at rf br
  refine ⟨m3, z, br, ?_⟩
  by_cases c : z = 0
  · left
    subst c
    obtain ⟨F2, P2, ek, ic2, ea, _⟩ := p_keep ic rf (gm_brk_ok hn (gm_tM_ok hok m3) br)
    rw [if_pos rfl] at e
    rw [e, Option.bind_some]
    dsimp only
    rw [if_neg (show ¬ iZ 1 = 0 by decide), ek, Option.bind_some]
    dsimp only
    rw [ea, Option.bind_some]
    exact ⟨rfl, _, _, _, rfl, ic2⟩
  · right
    rw [if_neg c] at e
    rw [e, Option.bind_some]
    dsimp only
    rw [if_pos (show iZ 0 = 0 from rfl)]
    exact ⟨c, _, rfl⟩
theorem p_addHole (ic : IC F P M n Q) (D : Fig) (hn4 : n < 4) (x y : Int) (bx : 0 ≤ x ∧ x ≤ 16) (bY : 0 ≤ y ∧ y ≤ 16) :
    ((14 < x ∨ 14 < y) ∧ G_L_addHole F D P (iZ x) (iZ y) = some (-1, F, D, P)) ∨
    ((x ≤ 14 ∧ y ≤ 14) ∧ ∃ z, gm_brk (gm_hM M n) (n + 1) (gm_hQ Q (gm_fst M n) x y) z ∧ ((z = 0 ∧ ∃ F' D' P', G_L_addHole F D P (iZ x) (iZ y) = some (iZ n, F', D', P') ∧ IC F' P' (gm_hM M n) (n + 1) (gm_hQ Q (gm_fst M n) x y)) ∨
      (z ≠ 0 ∧ ∃ D', G_L_addHole F D P (iZ x) (iZ y) = some (-2, F, D', P)))) := by
  have hok := ic.1
  have h := ic.2.1
  have hn := hok.1
  obtain ⟨f1, ec, q1⟩ := s_copyFrom (f := D) h
  have ra : G_X8_inRange (iZ x) 0 14 = some (iZ (if 0 ≤ x ∧ x ≤ 14 then 1 else 0)) := s_inRange x 0 14 (by omega) (by omega) (by omega) (by omega) (by omega) (by omega)
  have rb : G_X8_inRange (iZ y) 0 14 = some (iZ (if 0 ≤ y ∧ y ≤ 14 then 1 else 0)) := s_inRange y 0 14 (by omega) (by omega) (by omega) (by omega) (by omega) (by omega)
  unfold G_L_addHole G_X8_addHole
  rw [ra, rb, Option.bind_some]
  by_cases cx : x ≤ 14
  · rw [if_pos (show 0 ≤ x ∧ x ≤ 14 by omega), if_neg (show ¬ iZ 1 = 0 by decide), Option.bind_some]
    by_cases cy : y ≤ 14
    · right
      rw [if_pos (show 0 ≤ y ∧ y ≤ 14 by omega), if_neg (show ¬ iZ 1 = 0 by decide), ec, Option.bind_some]
      refine ⟨⟨cx, cy⟩, ?_⟩
      rcases s_addedHole q1 hok x y (by omega) (by omega) with ⟨c1, _⟩ | ⟨_, f', z, z0, z5, rf, br, e⟩
      · exact absurd ⟨by omega, cx, by omega, cy, hn4⟩ c1
      refine ⟨z, br, ?_⟩
      by_cases c : z = 0
      · left
        subst c
        obtain ⟨F2, P2, ek, ic2, _, er⟩ := p_keep ic rf (gm_brk_ok (by omega) (gm_hM_ok hok) br)
        rw [if_pos rfl] at e
        rw [e, Option.bind_some]
        dsimp only
        rw [if_neg (show ¬ iZ 1 = 0 by decide), ek, Option.bind_some]
        dsimp only
        rw [er, iZ_1, iZ_sub, show ((n + 1 : Nat) : Int) - 1 = (n : Int) by omega]
        exact ⟨rfl, _, _, _, rfl, ic2⟩
      · right
        rw [if_neg c] at e
        rw [e, Option.bind_some]
        dsimp only
        rw [if_pos (show iZ 0 = 0 from rfl)]
        exact ⟨c, _, rfl⟩
    · left
      rw [if_neg (show ¬ (0 ≤ y ∧ y ≤ 14) by omega), if_pos (show iZ 0 = 0 from rfl)]
      exact ⟨Or.inr (by omega), rfl⟩
  · left
    rw [if_neg (show ¬ (0 ≤ x ∧ x ≤ 14) by omega), if_pos (show iZ 0 = 0 from rfl)]
    exact ⟨Or.inl (by omega), rfl⟩
end OPS
