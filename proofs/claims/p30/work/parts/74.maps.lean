/-! geometry 15: shifting, turning, mirroring, dropping a hole keep the rules -/
theorem gm_ok_map {M : Nat → Nat} {n : Nat} {Q : Nat → Pt} {T : Pt → Pt} {s : Int} (hs : s = 1 ∨ s = -1) (h : gm_ok M n Q) (r1 : gm_R1 M n (fun c => T (Q c)))
    (hcr : ∀ a b p, gm_cr (T a) (T b) (T p) = s * gm_cr a b p) (hon : ∀ a b p, gm_on (T a) (T b) (T p) → gm_on a b p) (hinj : ∀ a b, T a = T b → a = b)
    (hw : ∀ (m : Nat) (P : Nat → Pt) (p : Pt), (∀ k, k < m → ¬ gm_on (P k) (P (gm_nx m k)) p) → (gm_w m (fun k => T (P k)) (T p) ≠ 0 ↔ gm_w m P p ≠ 0)) : gm_ok M n (fun c => T (Q c)) := by
  obtain ⟨hn, hM, r1', r2, r3, r4, r5⟩ := h
  have h3 : ∀ r, r < n → 3 ≤ M r := fun r hr => (hM r hr).1
  refine ⟨hn, hM, r1, fun c hc e => r2 c hc (hinj _ _ e), fun a ha b hb hx => r3 a ha b hb ?_, fun x hx c hc h1 h2 ho => r4 x hx c hc h1 h2 (hon _ _ _ ho), fun r h1 h2 x hx hne => ?_⟩
  · obtain ⟨x1, x2⟩ := hx
    rw [hcr, hcr] at x1 x2
    have ss : s * s = 1 := by rcases hs with rfl | rfl <;> rfl
    have e : ∀ u v : Int, s * u * (s * v) = u * v := by
      intro u v
      have : s * u * (s * v) = (s * s) * (u * v) := by grind
      rw [this, ss, Int.one_mul]
    rw [e] at x1 x2
    exact ⟨x1, x2⟩
  · have pos : 0 < M r := by have := h3 r h2; omega
    have off := gm_apart_off (gm_flat_apart r2 r3 r4 hx h2 hne) pos (z := gm_P M Q r 0) gm_on_beg
    exact (hw (M x) (gm_P M Q x) (gm_P M Q r 0) off).trans (r5 r h1 h2 x hx hne)
theorem gm_ok_shift {M : Nat → Nat} {n : Nat} {Q : Nat → Pt} {dx dy : Int} (h : gm_ok M n Q) (r1 : gm_R1 M n (fun c => ((Q c).1 + dx, (Q c).2 + dy))) : gm_ok M n (fun c => ((Q c).1 + dx, (Q c).2 + dy)) := by
  have hcr : ∀ a b p : Pt, gm_cr (a.1 + dx, a.2 + dy) (b.1 + dx, b.2 + dy) (p.1 + dx, p.2 + dy) = 1 * gm_cr a b p := by intro a b p; unfold gm_cr; dsimp only; grind
  refine gm_ok_map (T := fun v => (v.1 + dx, v.2 + dy)) (s := 1) (Or.inl rfl) h r1 hcr ?_ ?_ ?_
  · intro a b p ho
    obtain ⟨c0, c1, c2⟩ := ho
    rw [hcr, Int.one_mul] at c0
    dsimp only at c1 c2
    exact ⟨c0, by omega, by omega⟩
  · intro a b e
    have e1 : a.1 + dx = b.1 + dx := congrArg Prod.fst e
    have e2 : a.2 + dy = b.2 + dy := congrArg Prod.snd e
    exact Prod.ext (by omega) (by omega)
  · intro m P p off
    have : gm_w m (fun k => ((P k).1 + dx, (P k).2 + dy)) (p.1 + dx, p.2 + dy) = gm_w m P p := by
      refine gm_sum_congr (fun k hk => ?_)
      have e := hcr (P k) (P (gm_nx m k)) p
      rw [Int.one_mul] at e
      unfold gm_c
      rw [e]
      dsimp only
      (repeat' split) <;> omega
    rw [this]
theorem gm_ok_mirror {M : Nat → Nat} {n : Nat} {Q : Nat → Pt} (h : gm_ok M n Q) : gm_ok M n (fun c => (15 - (Q c).1, (Q c).2)) := by
  have hcr : ∀ a b p : Pt, gm_cr (15 - a.1, a.2) (15 - b.1, b.2) (15 - p.1, p.2) = (-1) * gm_cr a b p := by intro a b p; unfold gm_cr; dsimp only; grind
  refine gm_ok_map (T := fun v => (15 - v.1, v.2)) (s := -1) (Or.inr rfl) h ?_ hcr ?_ ?_ ?_
  · intro c hc
    have := h.2.2.1 c hc
    unfold gm_paper at this ⊢
    dsimp only
    omega
  · intro a b p ho
    obtain ⟨c0, c1, c2⟩ := ho
    rw [hcr] at c0
    dsimp only at c1 c2
    exact ⟨by omega, by omega, by omega⟩
  · intro a b e
    obtain ⟨e1, e2⟩ := Prod.mk.inj e
    exact Prod.ext (by omega) (by omega)
  · intro m P p off
    have e : gm_sum m (fun k => (if p.2 < (P (gm_nx m k)).2 then (1 : Int) else 0) - (if p.2 < (P k).2 then 1 else 0)) = 0 := by
      rw [gm_sum_sub, gm_sum_nx m (fun k => if p.2 < (P k).2 then (1 : Int) else 0)]; omega
    have : gm_w m (fun k => (15 - (P k).1, (P k).2)) (15 - p.1, p.2) + gm_w m P p = 0 := by
      rw [← e]
      unfold gm_w
      rw [← gm_sum_add]
      refine gm_sum_congr (fun k hk => ?_)
      have c1 : gm_cr (P k) (P (gm_nx m k)) p = 0 → ¬ (((P k).2 ≤ p.2 ∧ p.2 < (P (gm_nx m k)).2) ∨ ((P (gm_nx m k)).2 ≤ p.2 ∧ p.2 < (P k).2)) := fun q r => off k hk (gm_on_row q r)
      have e := hcr (P k) (P (gm_nx m k)) p
      unfold gm_c
      rw [e]
      dsimp only
      generalize gm_cr (P k) (P (gm_nx m k)) p = X at c1 ⊢
      (repeat' split) <;> omega
    omega
theorem gm_sgp (x y : Int) : (0 ≤ x → 0 ≤ y → 0 ≤ x * y) ∧ (x ≤ 0 → y ≤ 0 → 0 ≤ x * y) ∧ (0 ≤ x → y ≤ 0 → x * y ≤ 0) ∧ (x ≤ 0 → 0 ≤ y → x * y ≤ 0) ∧ (0 < x → 0 < y → 0 < x * y) ∧ (x < 0 → y < 0 → 0 < x * y) ∧ (0 < x → y < 0 → x * y < 0) ∧ (x < 0 → 0 < y → x * y < 0) :=
  ⟨Int.mul_nonneg, Int.mul_nonneg_of_nonpos_of_nonpos, Int.mul_nonpos_of_nonneg_of_nonpos, Int.mul_nonpos_of_nonpos_of_nonneg, Int.mul_pos, Int.mul_pos_of_neg_of_neg, Int.mul_neg_of_pos_of_neg, Int.mul_neg_of_neg_of_pos⟩
theorem gm_dich (x y : Int) : (x ≤ y ∧ (x ≤ y) = True ∧ (y < x) = False) ∨ (y < x ∧ (x ≤ y) = False ∧ (y < x) = True) := by
  rcases Int.lt_or_le y x with h | h
  · exact Or.inr ⟨h, eq_false (by omega), eq_true h⟩
  · exact Or.inl ⟨h, eq_true h, eq_false (by omega)⟩
theorem gm_turn_edge {a1 a2 b1 b2 p1 p2 X : Int} (hX : X = (b1 - p1) * (p2 - a2) + (p1 - a1) * (p2 - b2))
    (c1 : X = 0 → ¬ ((a2 ≤ p2 ∧ p2 < b2) ∨ (b2 ≤ p2 ∧ p2 < a2))) (c2 : X = 0 → ¬ ((a1 ≤ p1 ∧ p1 < b1) ∨ (b1 ≤ p1 ∧ p1 < a1))) :
    ((if a1 ≤ p1 ∧ p1 < b1 ∧ 0 < X then (1 : Int) else if b1 ≤ p1 ∧ p1 < a1 ∧ X < 0 then -1 else 0) - (if a2 ≤ p2 ∧ p2 < b2 ∧ 0 < X then 1 else if b2 ≤ p2 ∧ p2 < a2 ∧ X < 0 then -1 else 0)) =
    (if p1 < b1 ∧ b2 ≤ p2 then 1 else 0) - (if p1 < a1 ∧ a2 ≤ p2 then 1 else 0) := by
  have s1 : a1 ≤ p1 → p1 < b1 → a2 ≤ p2 → b2 ≤ p2 → 0 ≤ X := fun h1 h2 h3 h4 => by
    have k1 := Int.mul_nonneg (show 0 ≤ b1 - p1 by omega) (show 0 ≤ p2 - a2 by omega)
    have k2 := Int.mul_nonneg (show 0 ≤ p1 - a1 by omega) (show 0 ≤ p2 - b2 by omega)
    omega
  have s2 : a1 ≤ p1 → p1 < b1 → p2 < a2 → p2 < b2 → X < 0 := fun h1 h2 h3 h4 => by
    have k1 := Int.mul_neg_of_pos_of_neg (show 0 < b1 - p1 by omega) (show p2 - a2 < 0 by omega)
    have k2 := Int.mul_nonpos_of_nonneg_of_nonpos (show 0 ≤ p1 - a1 by omega) (show p2 - b2 ≤ 0 by omega)
    omega
  have s3 : b1 ≤ p1 → p1 < a1 → a2 ≤ p2 → b2 ≤ p2 → X ≤ 0 := fun h1 h2 h3 h4 => by
    have k1 := Int.mul_nonpos_of_nonpos_of_nonneg (show b1 - p1 ≤ 0 by omega) (show 0 ≤ p2 - a2 by omega)
    have k2 := Int.mul_nonpos_of_nonpos_of_nonneg (show p1 - a1 ≤ 0 by omega) (show 0 ≤ p2 - b2 by omega)
    omega
  have s4 : b1 ≤ p1 → p1 < a1 → p2 < a2 → p2 < b2 → 0 < X := fun h1 h2 h3 h4 => by
    have k1 := Int.mul_nonneg_of_nonpos_of_nonpos (show b1 - p1 ≤ 0 by omega) (show p2 - a2 ≤ 0 by omega)
    have k2 := Int.mul_pos_of_neg_of_neg (show p1 - a1 < 0 by omega) (show p2 - b2 < 0 by omega)
    omega
  have s5 : a1 ≤ p1 → b1 ≤ p1 → a2 ≤ p2 → p2 < b2 → X ≤ 0 := fun h1 h2 h3 h4 => by
    have k1 := Int.mul_nonpos_of_nonpos_of_nonneg (show b1 - p1 ≤ 0 by omega) (show 0 ≤ p2 - a2 by omega)
    have k2 := Int.mul_nonpos_of_nonneg_of_nonpos (show 0 ≤ p1 - a1 by omega) (show p2 - b2 ≤ 0 by omega)
    omega
  have s6 : a1 ≤ p1 → b1 ≤ p1 → b2 ≤ p2 → p2 < a2 → 0 ≤ X := fun h1 h2 h3 h4 => by
    have k1 := Int.mul_nonneg_of_nonpos_of_nonpos (show b1 - p1 ≤ 0 by omega) (show p2 - a2 ≤ 0 by omega)
    have k2 := Int.mul_nonneg (show 0 ≤ p1 - a1 by omega) (show 0 ≤ p2 - b2 by omega)
    omega
  have s7 : p1 < a1 → p1 < b1 → a2 ≤ p2 → p2 < b2 → 0 < X := fun h1 h2 h3 h4 => by
    have k1 := Int.mul_nonneg (show 0 ≤ b1 - p1 by omega) (show 0 ≤ p2 - a2 by omega)
    have k2 := Int.mul_pos_of_neg_of_neg (show p1 - a1 < 0 by omega) (show p2 - b2 < 0 by omega)
    omega
  have s8 : p1 < a1 → p1 < b1 → b2 ≤ p2 → p2 < a2 → X < 0 := fun h1 h2 h3 h4 => by
    have k1 := Int.mul_neg_of_pos_of_neg (show 0 < b1 - p1 by omega) (show p2 - a2 < 0 by omega)
    have k2 := Int.mul_nonpos_of_nonpos_of_nonneg (show p1 - a1 ≤ 0 by omega) (show 0 ≤ p2 - b2 by omega)
    omega
  clear hX
  rcases gm_dich a1 p1 with ⟨-, A, A'⟩ | ⟨-, A, A'⟩ <;> rcases gm_dich b1 p1 with ⟨-, B, B'⟩ | ⟨-, B, B'⟩ <;> rcases gm_dich a2 p2 with ⟨-, C, C'⟩ | ⟨-, C, C'⟩ <;> rcases gm_dich b2 p2 with ⟨-, E, E'⟩ | ⟨-, E, E'⟩ <;>
    simp only [A, A', B, B', C, C', E, E', true_and, and_true, false_and, and_false, or_false, false_or, or_self, not_true, not_false_iff, if_true, if_false, forall_const, false_imp_iff, imp_self, implies_true, true_imp_iff, imp_false] at s1 s2 s3 s4 s5 s6 s7 s8 c1 c2 ⊢ <;>
    (repeat' split) <;> first | rfl | omega
theorem gm_ok_turn {M : Nat → Nat} {n : Nat} {Q : Nat → Pt} (h : gm_ok M n Q) : gm_ok M n (fun c => (15 - (Q c).2, (Q c).1)) := by
  have hcr : ∀ a b p : Pt, gm_cr (15 - a.2, a.1) (15 - b.2, b.1) (15 - p.2, p.1) = 1 * gm_cr a b p := by intro a b p; unfold gm_cr; dsimp only; grind
  refine gm_ok_map (T := fun v => (15 - v.2, v.1)) (s := 1) (Or.inl rfl) h ?_ hcr ?_ ?_ ?_
  · intro c hc
    have := h.2.2.1 c hc
    unfold gm_paper at this ⊢
    dsimp only
    omega
  · intro a b p ho
    obtain ⟨c0, c1, c2⟩ := ho
    rw [hcr] at c0
    dsimp only at c1 c2
    exact ⟨by omega, by omega, by omega⟩
  · intro a b e
    obtain ⟨e1, e2⟩ := Prod.mk.inj e
    exact Prod.ext (by omega) (by omega)
  · intro m P p off
    have e : gm_sum m (fun k => (if p.1 < (P (gm_nx m k)).1 ∧ (P (gm_nx m k)).2 ≤ p.2 then (1 : Int) else 0) - (if p.1 < (P k).1 ∧ (P k).2 ≤ p.2 then 1 else 0)) = 0 := by
      rw [gm_sum_sub, gm_sum_nx m (fun k => if p.1 < (P k).1 ∧ (P k).2 ≤ p.2 then (1 : Int) else 0)]; omega
    have : gm_w m (fun k => (15 - (P k).2, (P k).1)) (15 - p.2, p.1) - gm_w m P p = 0 := by
      rw [← e]
      unfold gm_w
      rw [← gm_sum_sub]
      refine gm_sum_congr (fun k hk => ?_)
      have c1 : gm_cr (P k) (P (gm_nx m k)) p = 0 → ¬ (((P k).2 ≤ p.2 ∧ p.2 < (P (gm_nx m k)).2) ∨ ((P (gm_nx m k)).2 ≤ p.2 ∧ p.2 < (P k).2)) := fun q r => off k hk (gm_on_row q r)
      -- the same with the columns
      have c2 : gm_cr (P k) (P (gm_nx m k)) p = 0 → ¬ (((P k).1 ≤ p.1 ∧ p.1 < (P (gm_nx m k)).1) ∨ ((P (gm_nx m k)).1 ≤ p.1 ∧ p.1 < (P k).1)) := by
        intro q r
        refine off k hk ?_
        have t : gm_on (15 - (P k).2, (P k).1) (15 - (P (gm_nx m k)).2, (P (gm_nx m k)).1) (15 - p.2, p.1) := gm_on_row (by rw [hcr, q]; rfl) r
        obtain ⟨t0, t1, t2⟩ := t
        dsimp only at t1 t2
        exact ⟨q, by omega, by omega⟩
      have e := hcr (P k) (P (gm_nx m k)) p
      rw [Int.one_mul] at e
      have ex : gm_cr (P k) (P (gm_nx m k)) p = ((P (gm_nx m k)).1 - p.1) * (p.2 - (P k).2) + (p.1 - (P k).1) * (p.2 - (P (gm_nx m k)).2) := by unfold gm_cr; grind
      unfold gm_c
      rw [e]
      exact gm_turn_edge ex c1 c2
    have e2 : gm_w m (fun k => (15 - (P k).2, (P k).1)) (15 - p.2, p.1) = gm_w m P p := by omega
    rw [e2]
/-- the rings without ring r -/
def gm_dM (M : Nat → Nat) (r i : Nat) : Nat := if i < r then M i else M (i + 1)
def gm_dQ (M : Nat → Nat) (Q : Nat → Pt) (r c : Nat) : Pt := if c < gm_fst M r then Q c else Q (c + M r)
theorem gm_dM_fst {M : Nat → Nat} {r : Nat} : ∀ i, (i ≤ r → gm_fst (gm_dM M r) i = gm_fst M i) ∧ (r ≤ i → gm_fst (gm_dM M r) i + M r = gm_fst M (i + 1)) := by
  have a : ∀ i, i ≤ r → gm_fst (gm_dM M r) i = gm_fst M i := by
    intro i
    induction i with
    | zero => intro _; rfl
    | succ i ih =>
      intro h
      show gm_fst (gm_dM M r) i + gm_dM M r i = gm_fst M i + M i
      rw [ih (by omega)]
      unfold gm_dM
      rw [if_pos (by omega)]
  intro i
  refine ⟨a i, ?_⟩
  induction i with
  | zero =>
    intro h
    rw [a 0 (by omega), show r = 0 by omega]; rfl
  | succ i ih =>
    intro h
    by_cases e : r = i + 1
    · rw [a (i + 1) (by omega), e]; rfl
    · have := ih (by omega)
      show gm_fst (gm_dM M r) i + gm_dM M r i + M r = gm_fst M (i + 1) + M (i + 1)
      unfold gm_dM at this ⊢
      rw [if_neg (by omega)]
      omega
theorem gm_ok_drop {M : Nat → Nat} {n : Nat} {Q : Nat → Pt} (h : gm_ok M n Q) {r : Nat} (hr1 : 1 ≤ r) (hr : r < n) : gm_ok (gm_dM M r) (n - 1) (gm_dQ M Q r) := by
  obtain ⟨hn, hM, r1, r2, r3, r4, r5⟩ := h
  have hM' : ∀ i, i < n - 1 → 3 ≤ gm_dM M r i ∧ gm_dM M r i ≤ 10 := by
    intro i hi
    unfold gm_dM
    split
    · exact hM i (by omega)
    · exact hM (i + 1) (by omega)
  -- where a corner was
  have pl : ∀ i k, i < n - 1 → k < gm_dM M r i → ∃ j, j < n ∧ (j = if i < r then i else i + 1) ∧ M j = gm_dM M r i ∧ (∀ t, t < M j → (if gm_fst (gm_dM M r) i + t < gm_fst M r then gm_fst (gm_dM M r) i + t else gm_fst (gm_dM M r) i + t + M r) = gm_fst M j + t) := by
    intro i k hi hk
    by_cases c : i < r
    · refine ⟨i, by omega, by rw [if_pos c], by unfold gm_dM; rw [if_pos c], fun t ht => ?_⟩
      rw [(gm_dM_fst i).1 (by omega), if_pos (gm_fst_lt c ht)]
    · refine ⟨i + 1, by omega, by rw [if_neg c], by unfold gm_dM; rw [if_neg c], fun t ht => ?_⟩
      have e := (gm_dM_fst (M := M) (r := r) i).2 (by omega)
      have l : gm_fst M (r + 1) ≤ gm_fst M (i + 1) := gm_fst_le (by omega)
      have l2 : gm_fst M (r + 1) = gm_fst M r + M r := rfl
      rw [if_neg (by omega)]
      omega
  have Qφ : ∀ c, gm_dQ M Q r c = Q (if c < gm_fst M r then c else c + M r) := by
    intro c
    unfold gm_dQ
    split <;> rfl
  have φ : ∀ c, c < gm_fst (gm_dM M r) (n - 1) → (if c < gm_fst M r then c else c + M r) < gm_fst M n ∧ (if gm_nf (gm_dM M r) (n - 1) c < gm_fst M r then gm_nf (gm_dM M r) (n - 1) c else gm_nf (gm_dM M r) (n - 1) c + M r) = gm_nf M n (if c < gm_fst M r then c else c + M r) := by
    intro c hc
    obtain ⟨i, k, hi, hk, rfl⟩ := gm_flat hc
    obtain ⟨j, hj, -, eM, e⟩ := pl i k hi hk
    rw [← eM] at hk
    rw [e k hk, gm_nf_eq hi (by rw [← eM]; exact hk), ← eM, e _ (gm_nx_lt hk), gm_nf_eq hj hk]
    exact ⟨gm_fst_lt hj hk, rfl⟩
  have φinj : ∀ a b : Nat, (if a < gm_fst M r then a else a + M r) = (if b < gm_fst M r then b else b + M r) → a = b := by
    intro a b
    split <;> split <;> omega
  have Pφ : ∀ i k, i < n - 1 → k < gm_dM M r i → gm_P (gm_dM M r) (gm_dQ M Q r) i k = gm_P M Q (if i < r then i else i + 1) k := by
    intro i k hi hk
    obtain ⟨j, hj, ej, eM, e⟩ := pl i k hi hk
    unfold gm_P
    rw [Qφ, e k (by rw [eM]; exact hk), ej]
  refine ⟨⟨by omega, by omega⟩, hM', fun c hc => ?_, fun c hc => ?_, fun a ha b hb => ?_, fun s hs c hc h1 h2 => ?_, fun i h1 h2 s hs hne => ?_⟩
  · rw [Qφ]; exact r1 _ (φ c hc).1
  · rw [Qφ, Qφ, (φ c hc).2]; exact r2 _ (φ c hc).1
  · have hb' : b < gm_fst (gm_dM M r) (n - 1) := by omega
    rw [Qφ, Qφ, Qφ, Qφ, (φ a ha).2, (φ b hb').2]
    exact r3 _ (φ a ha).1 _ (by split <;> split <;> omega)
  · rw [Qφ, Qφ, Qφ, (φ s hs).2]
    refine r4 _ (φ s hs).1 _ (φ c hc).1 (fun e => h1 (φinj _ _ e)) (fun e => h2 (φinj _ _ ?_))
    rw [(φ s hs).2]; exact e
  · have p0 : 0 < gm_dM M r i := by have := (hM' i h2).1; omega
    rw [Pφ i 0 h2 p0]
    have e : gm_w (gm_dM M r s) (gm_P (gm_dM M r) (gm_dQ M Q r) s) (gm_P M Q (if i < r then i else i + 1) 0) = gm_w (M (if s < r then s else s + 1)) (gm_P M Q (if s < r then s else s + 1)) (gm_P M Q (if i < r then i else i + 1) 0) := by
      have eM : M (if s < r then s else s + 1) = gm_dM M r s := by unfold gm_dM; split <;> rfl
      rw [eM]
      refine gm_sum_congr (fun k hk => ?_)
      rw [Pφ s k hs hk, Pφ s _ hs (gm_nx_lt hk)]
    rw [e]
    have := r5 (if i < r then i else i + 1) (by split <;> omega) (by split <;> omega) (if s < r then s else s + 1) (by split <;> omega) (by split <;> split <;> omega)
    rw [this]
    split <;> omega
