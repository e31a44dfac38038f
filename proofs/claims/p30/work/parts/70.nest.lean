/-! geometry 11: rings in each other; the points inside the figure; its area -/
/-- a figure that keeps the rules: n rings of M r corners P r k -/
def gm_good (n : Nat) (M : Nat → Nat) (P : Nat → Nat → Pt) : Prop := (1 ≤ n ∧ n ≤ 4) ∧ (∀ r, r < n → 3 ≤ M r ∧ M r ≤ 10) ∧ (∀ r k, r < n → k < M r → gm_paper (P r k)) ∧ (∀ r, r < n → gm_simple (M r) (P r)) ∧
  (∀ r s j k, r < n → s < n → r ≠ s → j < M r → k < M s → gm_sep (P r j) (P r (gm_nx (M r) j)) (P s k) (P s (gm_nx (M s) k))) ∧
  (∀ r s k, 1 ≤ r → r < n → s < n → s ≠ r → k < M r → (gm_w (M s) (P s) (P r k) ≠ 0 ↔ s = 0))
/-- two rings that don't meet -/
def gm_apart (m1 : Nat) (P1 : Nat → Pt) (m2 : Nat) (P2 : Nat → Pt) : Prop := ∀ j k, j < m1 → k < m2 → gm_sep (P1 j) (P1 (gm_nx m1 j)) (P2 k) (P2 (gm_nx m2 k))
theorem gm_apart_sw {m1 m2 : Nat} {P1 P2 : Nat → Pt} (h : gm_apart m1 P1 m2 P2) : gm_apart m2 P2 m1 P1 := fun j k hj hk => gm_sep_flip (h k j hk hj)
theorem gm_apart_const {m1 m2 : Nat} {P1 P2 : Nat → Pt} (h : gm_apart m1 P1 m2 P2) : ∀ k, k < m2 → gm_w m1 P1 (P2 k) = gm_w m1 P1 (P2 0) := by
  intro k
  induction k with
  | zero => intro _; rfl
  | succ k ih =>
    intro hk
    rw [← ih (by omega)]
    have := gm_w_same (n := m1) (P := P1) (p := P2 k) (q := P2 (gm_nx m2 k)) (fun j hj => h j k hj (by omega))
    rw [show gm_nx m2 k = k + 1 from if_neg (by omega)] at this
    exact this.symm
/-- all points of a ring have the same winding about another one -/
theorem gm_apart_on {m1 m2 : Nat} {P1 P2 : Nat → Pt} (h : gm_apart m1 P1 m2 P2) {k : Nat} (hk : k < m2) {z : Pt} (hz : gm_on (P2 k) (P2 (gm_nx m2 k)) z) : gm_w m1 P1 z = gm_w m1 P1 (P2 0) := by
  rw [← gm_apart_const h _ (gm_nx_lt hk)]
  exact gm_w_same (fun j hj => gm_sep_sub (h j k hj hk) hz)
theorem gm_apart_off {m1 m2 : Nat} {P1 P2 : Nat → Pt} (h : gm_apart m1 P1 m2 P2) {k : Nat} (hk : k < m2) {z : Pt} (hz : gm_on (P2 k) (P2 (gm_nx m2 k)) z) : ∀ j, j < m1 → ¬ gm_on (P1 j) (P1 (gm_nx m1 j)) z :=
  fun j hj q => gm_sep_not (h j k hj hk) q hz
theorem gm_apart_sc {D : Int} (hD : 0 < D) {m1 m2 : Nat} {P1 P2 : Nat → Pt} (h : gm_apart m1 P1 m2 P2) : gm_apart m1 (fun k => gm_sc D (P1 k)) m2 (fun k => gm_sc D (P2 k)) := fun j k hj hk => gm_sc_sep hD (h j k hj hk)
/-- one of two rings that don't meet isn't inside the other -/
theorem gm_apart_low {m1 m2 : Nat} {P1 P2 : Nat → Pt} (h1 : 0 < m1) (h2 : 0 < m2) (h : gm_apart m1 P1 m2 P2) : gm_w m1 P1 (P2 0) = 0 ∨ gm_w m2 P2 (P1 0) = 0 := by
  obtain ⟨i, hi, li⟩ := gm_lowest P1 m1 h1
  obtain ⟨j, hj, lj⟩ := gm_lowest P2 m2 h2
  by_cases c : (P2 j).2 < (P1 i).2 ∨ ((P2 j).2 = (P1 i).2 ∧ (P1 i).1 ≤ (P2 j).1)
  · left
    rw [← gm_apart_const h j hj]
    refine gm_w_low (fun k hk => ?_)
    have := li k hk
    omega
  · right
    rw [← gm_apart_const (gm_apart_sw h) i hi]
    refine gm_w_low (fun k hk => ?_)
    have := lj k hk
    omega
/-- a point inside ring 1 and off both, ring 2 outside of ring 1: the point is to ring 2 as ring 1 is -/
theorem gm_apart_in {m1 m2 : Nat} {P1 P2 : Nat → Pt} (h : gm_apart m1 P1 m2 P2) {p : Pt} (o1 : ∀ j, j < m1 → ¬ gm_on (P1 j) (P1 (gm_nx m1 j)) p) (o2 : ∀ j, j < m2 → ¬ gm_on (P2 j) (P2 (gm_nx m2 j)) p)
    (hw : gm_w m1 P1 p ≠ 0) (hz : gm_w m1 P1 (P2 0) = 0) : gm_w m2 P2 p = gm_w m2 P2 (P1 0) := by
  have hex : ∃ j, j < m1 ∧ gm_c p (P1 j) (P1 (gm_nx m1 j)) ≠ 0 := Classical.byContradiction (fun q => hw (gm_sum_zero (fun k hk => Classical.byContradiction (fun r => q ⟨k, hk, r⟩))))
  obtain ⟨j0, hj0, hc0⟩ := hex
  obtain ⟨e, D, z, he, hD, hon, hall⟩ := gm_near (M := m1 + m2) (A := fun j => if j < m1 then P1 j else P2 (j - m1)) (B := fun j => if j < m1 then P1 (gm_nx m1 j) else P2 (gm_nx m2 (j - m1))) (p := p)
    (fun j hj => by
      by_cases c : j < m1
      · rw [if_pos c, if_pos c]; exact o1 j c
      · rw [if_neg c, if_neg c]; exact o2 _ (by omega))
    ⟨j0, by omega, by rw [if_pos hj0, if_pos hj0]; exact hc0⟩
  have a1 : ∀ j, j < m1 → gm_cw z (gm_sc D (P1 j)) (gm_sc D (P1 (gm_nx m1 j))) = gm_c p (P1 j) (P1 (gm_nx m1 j)) := by
    intro j hj
    have := hall j (by omega)
    rw [if_pos hj, if_pos hj] at this
    exact this
  have a2 : ∀ j, j < m2 → gm_cw z (gm_sc D (P2 j)) (gm_sc D (P2 (gm_nx m2 j))) = gm_c p (P2 j) (P2 (gm_nx m2 j)) := by
    intro j hj
    have := hall (m1 + j) (by omega)
    rw [if_neg (by omega), if_neg (by omega), Nat.add_sub_cancel_left] at this
    exact this
  -- a ring that the hit isn't on
  have other : ∀ (m : Nat) (Q : Nat → Pt), (∀ j, j < m → gm_cw z (gm_sc D (Q j)) (gm_sc D (Q (gm_nx m j))) = gm_c p (Q j) (Q (gm_nx m j))) → (∀ j, j < m → ¬ gm_on (gm_sc D (Q j)) (gm_sc D (Q (gm_nx m j))) z) → gm_w m Q p = gm_w m (fun k => gm_sc D (Q k)) z := by
    intro m Q ha ho
    refine gm_sum_congr (fun k hk => ?_)
    rw [← ha k hk]
    show gm_cw z (gm_sc D (Q k)) (gm_sc D (Q (gm_nx m k))) = gm_c z (gm_sc D (Q k)) (gm_sc D (Q (gm_nx m k)))
    have c1 : gm_cr (gm_sc D (Q k)) (gm_sc D (Q (gm_nx m k))) z = 0 → ¬ (((gm_sc D (Q k)).2 ≤ z.2 ∧ z.2 < (gm_sc D (Q (gm_nx m k))).2) ∨ ((gm_sc D (Q (gm_nx m k))).2 ≤ z.2 ∧ z.2 < (gm_sc D (Q k)).2)) := fun q r => ho k hk (gm_on_row q r)
    unfold gm_cw gm_c
    generalize gm_cr (gm_sc D (Q k)) (gm_sc D (Q (gm_nx m k))) z = X at c1 ⊢
    (repeat' split) <;> omega
  have hsc := gm_apart_sc hD h
  by_cases c : e < m1
  · rw [if_pos c, if_pos c] at hon
    have off2 := gm_apart_off (gm_apart_sw hsc) c hon
    rw [other m2 P2 a2 off2, gm_apart_on (gm_apart_sw hsc) c hon]
    exact gm_sc_w hD m2 P2 (P1 0)
  · rw [if_neg c, if_neg c] at hon
    have off1 := gm_apart_off hsc (k := e - m1) (by omega) hon
    exfalso
    refine hw ?_
    rw [other m1 P1 a1 off1, gm_apart_on hsc (k := e - m1) (by omega) hon]
    rw [gm_sc_w hD m1 P1 (P2 0)]
    exact hz
/-- 1 for a point inside the figure -/
def gm_fi (n : Nat) (M : Nat → Nat) (P : Nat → Nat → Pt) (p : Pt) : Int := if (∀ r, r < n → gm_r (M r) (P r) p = 0) ∧ gm_w (M 0) (P 0) p ≠ 0 ∧ (∀ r, r < n → 1 ≤ r → gm_w (M r) (P r) p = 0) then 1 else 0
theorem gm_r_iff {n : Nat} {P : Nat → Pt} (hs : gm_simple n P) (p : Pt) : (gm_r n P p = 0 ∧ ∀ k, k < n → ¬ gm_on (P k) (P (gm_nx n k)) p) ∨ (gm_r n P p = 1 ∧ ∃ k, k < n ∧ gm_on (P k) (P (gm_nx n k)) p) := by
  by_cases h : ∃ k, k < n ∧ gm_on (P k) (P (gm_nx n k)) p
  · exact Or.inr ⟨gm_r_on hs h, h⟩
  · exact Or.inl ⟨gm_r_off (fun k hk q => h ⟨k, hk, q⟩), fun k hk q => h ⟨k, hk, q⟩⟩
theorem gm_nest {n : Nat} {M : Nat → Nat} {P : Nat → Nat → Pt} (hg : gm_good n M P) (p : Pt) :
    gm_fi n M P p = gm_ins (M 0) (P 0) p - gm_sum (n - 1) (fun i => gm_ins (M (i + 1)) (P (i + 1)) p + gm_r (M (i + 1)) (P (i + 1)) p) := by
  obtain ⟨⟨n1, n4⟩, hM, hpap, hsim, hsep, h5⟩ := hg
  have ap : ∀ r s, r < n → s < n → r ≠ s → gm_apart (M r) (P r) (M s) (P s) := fun r s hr hs hrs j k hj hk => hsep r s j k hr hs hrs hj hk
  have pos : ∀ r, r < n → 0 < M r := fun r hr => by have := (hM r hr).1; omega
  have w0 : ∀ r, 1 ≤ r → r < n → gm_w (M 0) (P 0) (P r 0) ≠ 0 := fun r h1 h2 => (h5 r 0 0 h1 h2 (by omega) (by omega) (pos r h2)).mpr rfl
  have wr0 : ∀ r, 1 ≤ r → r < n → gm_w (M r) (P r) (P 0 0) = 0 := by
    intro r h1 h2
    rcases gm_apart_low (pos 0 (by omega)) (pos r h2) (ap 0 r (by omega) h2 (by omega)) with q | q
    · exact absurd q (w0 r h1 h2)
    · exact q
  have wrs : ∀ r s, 1 ≤ r → r < n → 1 ≤ s → s < n → r ≠ s → gm_w (M s) (P s) (P r 0) = 0 := by
    intro r s h1 h2 h3 h4 hne
    refine Classical.byContradiction (fun q => ?_)
    have := (h5 r s 0 h1 h2 h4 (fun e => hne e.symm) (pos r h2)).mp q
    omega
  have ir : ∀ r, r < n → (gm_ins (M r) (P r) p = 0 ∨ gm_ins (M r) (P r) p = 1) := fun r hr => by unfold gm_ins; split <;> simp
  -- in a hole, or on it: off the outline and inside of it, and outside of the other holes
  have inhole : ∀ r, 1 ≤ r → r < n → gm_ins (M r) (P r) p + gm_r (M r) (P r) p ≠ 0 → gm_ins (M r) (P r) p + gm_r (M r) (P r) p = 1 ∧ gm_ins (M 0) (P 0) p = 1 ∧ ∀ s, 1 ≤ s → s < n → s ≠ r → gm_ins (M s) (P s) p + gm_r (M s) (P s) p = 0 := by
    intro r h1 h2 hne
    rcases gm_r_iff (hsim r h2) p with ⟨rr, roff⟩ | ⟨rr, k, hk, ron⟩
    · -- inside
      have wn : gm_w (M r) (P r) p ≠ 0 := by
        intro q
        refine hne ?_
        unfold gm_ins
        rw [rr, if_neg (fun z => z.2 q)]; rfl
      have ins1 : gm_ins (M r) (P r) p = 1 := if_pos ⟨rr, wn⟩
      refine ⟨by omega, ?_, ?_⟩
      · rcases gm_r_iff (hsim 0 (by omega)) p with ⟨r0, off0⟩ | ⟨r0, k, hk, on0⟩
        · refine if_pos ⟨r0, ?_⟩
          rw [gm_apart_in (ap r 0 h2 (by omega) (by omega)) roff off0 wn (wr0 r h1 h2)]
          exact w0 r h1 h2
        · exfalso
          refine wn ?_
          rw [gm_apart_on (ap r 0 h2 (by omega) (by omega)) hk on0]
          exact wr0 r h1 h2
      · intro s s1 s2 hne2
        rcases gm_r_iff (hsim s s2) p with ⟨r0, off0⟩ | ⟨r0, k, hk, on0⟩
        · have : gm_w (M s) (P s) p = 0 := by
            rw [gm_apart_in (ap r s h2 s2 (by omega)) roff off0 wn (wrs s r s1 s2 h1 h2 hne2)]
            exact wrs r s h1 h2 s1 s2 (by omega)
          unfold gm_ins
          rw [r0, if_neg (fun z => z.2 this)]; rfl
        · exfalso
          refine wn ?_
          rw [gm_apart_on (ap r s h2 s2 (by omega)) hk on0]
          exact wrs s r s1 s2 h1 h2 hne2
    · -- on it
      have ins0 : gm_ins (M r) (P r) p = 0 := if_neg (fun q => by omega)
      refine ⟨by omega, ?_, ?_⟩
      · have off0 := gm_apart_off (ap 0 r (by omega) h2 (by omega)) hk ron
        refine if_pos ⟨gm_r_off off0, ?_⟩
        rw [gm_apart_on (ap 0 r (by omega) h2 (by omega)) hk ron]
        exact w0 r h1 h2
      · intro s s1 s2 hne2
        have off0 := gm_apart_off (ap s r s2 h2 hne2) hk ron
        have : gm_w (M s) (P s) p = 0 := by
          rw [gm_apart_on (ap s r s2 h2 hne2) hk ron]
          exact wrs r s h1 h2 s1 s2 (by omega)
        unfold gm_ins
        rw [gm_r_off off0, if_neg (fun z => z.2 this)]; rfl
  by_cases hh : ∃ r, 1 ≤ r ∧ r < n ∧ gm_ins (M r) (P r) p + gm_r (M r) (P r) p ≠ 0
  · obtain ⟨r, h1, h2, hne⟩ := hh
    obtain ⟨e1, e2, e3⟩ := inhole r h1 h2 hne
    rw [gm_sum_one (i := r - 1) (by omega) (fun i hi hne2 => e3 (i + 1) (by omega) (by omega) (by omega)), show r - 1 + 1 = r by omega, e1, e2]
    refine if_neg (fun q => hne ?_)
    have q1 := q.1 r h2
    have q2 := q.2.2 r h2 h1
    unfold gm_ins
    rw [q1, if_neg (fun z => z.2 q2)]; rfl
  · have hz : ∀ r, 1 ≤ r → r < n → gm_ins (M r) (P r) p + gm_r (M r) (P r) p = 0 := fun r h1 h2 => Classical.byContradiction (fun q => hh ⟨r, h1, h2, q⟩)
    rw [gm_sum_zero (fun i hi => hz (i + 1) (by omega) (by omega))]
    have split0 : ∀ r, 1 ≤ r → r < n → gm_r (M r) (P r) p = 0 ∧ gm_w (M r) (P r) p = 0 := by
      intro r h1 h2
      have := hz r h1 h2
      rcases gm_r_iff (hsim r h2) p with ⟨rr, -⟩ | ⟨rr, -⟩
      · refine ⟨rr, Classical.byContradiction (fun q => ?_)⟩
        have : gm_ins (M r) (P r) p = 1 := if_pos ⟨rr, q⟩
        omega
      · have := ir r h2
        omega
    unfold gm_fi gm_ins
    by_cases c : gm_r (M 0) (P 0) p = 0 ∧ gm_w (M 0) (P 0) p ≠ 0
    · rw [if_pos c, if_pos]
      · rfl
      · refine ⟨fun r hr => ?_, c.2, fun r hr h1 => (split0 r h1 hr).2⟩
        by_cases e : r = 0
        · rw [e]; exact c.1
        · exact (split0 r (by omega) hr).1
    · rw [if_neg c, if_neg (fun q => c ⟨q.1 0 (by omega), q.2.1⟩)]; rfl
theorem gm_pp_r {n : Nat} {P : Nat → Pt} (hs : gm_simple n P) (hp : ∀ k, k < n → gm_paper (P k)) : gm_pp (gm_r n P) = gm_bd n P := by
  have := gm_pp_sum n (fun k => gm_one (P k) (P (gm_nx n k)))
  refine Eq.trans this (gm_sum_congr (fun k hk => ?_))
  exact gm_pp_one_side (hp k hk) (hp _ (gm_nx_lt hk)) (gm_side_ne hs hk)
theorem gm_g_pos {a b : Pt} (h : a ≠ b) : 1 ≤ gm_g a b := by
  unfold gm_g
  have : 0 < (b.1 - a.1).natAbs.gcd (b.2 - a.2).natAbs := by
    refine Nat.pos_of_ne_zero (fun q => ?_)
    have := Nat.gcd_eq_zero_iff.mp q
    exact h (Prod.ext (by omega) (by omega))
  omega
theorem gm_bd_ge {n : Nat} {P : Nat → Pt} (hs : gm_simple n P) : (n : Int) ≤ gm_bd n P := by
  have := gm_sum_le (n := n) (f := fun _ => 1) (g := fun k => gm_g (P k) (P (gm_nx n k))) (fun k hk => gm_g_pos (gm_side_ne hs hk))
  rw [gm_sum_const] at this
  unfold gm_bd
  omega
theorem gm_ins_nonneg (n : Nat) (P : Nat → Pt) : 0 ≤ gm_pp (gm_ins n P) := gm_sum_nonneg (fun i hi => gm_sum_nonneg (fun j hj => by unfold gm_ins; split <;> omega))
/-- a ring's doubled area -/
theorem gm_ring_area {n : Nat} {P : Nat → Pt} (hs : gm_simple n P) (hp : ∀ k, k < n → gm_paper (P k)) :
    (gm_ds n P = 2 * gm_pp (gm_ins n P) + gm_bd n P - 2 ∧ gm_l n P 0 = 1 ∨ gm_ds n P = -(2 * gm_pp (gm_ins n P) + gm_bd n P - 2) ∧ gm_l n P 0 = 0) ∧ 1 ≤ 2 * gm_pp (gm_ins n P) + gm_bd n P - 2 := by
  have h1 := gm_pick hs hp
  have h2 := gm_bd_ge hs
  have h3 := gm_ins_nonneg n P
  have h4 := hs.1
  refine ⟨?_, by omega⟩
  rcases gm_l_01 hs with q | q
  · right
    rw [q] at h1
    refine ⟨?_, q⟩
    rw [h1]; omega
  · left
    rw [q] at h1
    refine ⟨?_, q⟩
    rw [h1]; omega
/-- the points inside the figure, by the rings' areas and borders -/
theorem gm_inside {n : Nat} {M : Nat → Nat} {P : Nat → Nat → Pt} (hg : gm_good n M P) :
    gm_pp (gm_fi n M P) = gm_pp (gm_ins (M 0) (P 0)) - gm_sum (n - 1) (fun i => gm_pp (gm_ins (M (i + 1)) (P (i + 1))) + gm_bd (M (i + 1)) (P (i + 1))) := by
  have hg' := hg
  obtain ⟨⟨n1, n4⟩, hM, hpap, hsim, hsep, h5⟩ := hg'
  rw [gm_pp_congr (fun p _ => gm_nest hg p)]
  have e : gm_pp (fun p => gm_ins (M 0) (P 0) p - gm_sum (n - 1) (fun i => gm_ins (M (i + 1)) (P (i + 1)) p + gm_r (M (i + 1)) (P (i + 1)) p)) = gm_pp (fun p => gm_ins (M 0) (P 0) p + (-1) * gm_sum (n - 1) (fun i => gm_ins (M (i + 1)) (P (i + 1)) p + gm_r (M (i + 1)) (P (i + 1)) p)) := gm_pp_congr (fun p _ => by omega)
  rw [e, gm_pp_add, gm_pp_mul, gm_pp_sum]
  have e2 : gm_sum (n - 1) (fun k => gm_pp (fun p => gm_ins (M (k + 1)) (P (k + 1)) p + gm_r (M (k + 1)) (P (k + 1)) p)) = gm_sum (n - 1) (fun i => gm_pp (gm_ins (M (i + 1)) (P (i + 1))) + gm_bd (M (i + 1)) (P (i + 1))) := by
    refine gm_sum_congr (fun k hk => ?_)
    rw [gm_pp_add]
    exact congrArg (_ + ·) (gm_pp_r (hsim (k + 1) (by omega)) (fun j hj => hpap (k + 1) j (by omega) hj))
  rw [e2]
  show gm_pp (gm_ins (M 0) (P 0)) + _ = _
  omega
theorem gm_fi_nonneg (n : Nat) (M : Nat → Nat) (P : Nat → Nat → Pt) : 0 ≤ gm_pp (gm_fi n M P) := gm_sum_nonneg (fun i hi => gm_sum_nonneg (fun j hj => by unfold gm_fi; split <;> omega))
def gm_abs (x : Int) : Int := if 0 ≤ x then x else -x
/-- the figure's doubled area is above 0 -/
theorem gm_area_pos {n : Nat} {M : Nat → Nat} {P : Nat → Nat → Pt} (hg : gm_good n M P) : 1 ≤ gm_abs (gm_ds (M 0) (P 0)) - gm_sum (n - 1) (fun i => gm_abs (gm_ds (M (i + 1)) (P (i + 1)))) := by
  have h1 := gm_inside hg
  have h2 := gm_fi_nonneg n M P
  obtain ⟨⟨n1, n4⟩, hM, hpap, hsim, hsep, h5⟩ := hg
  have ab : ∀ r, r < n → gm_abs (gm_ds (M r) (P r)) = 2 * gm_pp (gm_ins (M r) (P r)) + gm_bd (M r) (P r) - 2 := by
    intro r hr
    have := gm_ring_area (hsim r hr) (fun k hk => hpap r k hr hk)
    unfold gm_abs
    split <;> omega
  rw [ab 0 (by omega), gm_sum_congr (g := fun i => 2 * (gm_pp (gm_ins (M (i + 1)) (P (i + 1))) + gm_bd (M (i + 1)) (P (i + 1))) + (-(gm_bd (M (i + 1)) (P (i + 1)) + 2))) (fun i hi => by rw [ab (i + 1) (by omega)]; omega), gm_sum_add, gm_sum_mul]
  have h3 := gm_sum_le (n := n - 1) (f := fun i => -(gm_bd (M (i + 1)) (P (i + 1)) + 2)) (g := fun _ => 0) (fun i hi => by
    have := gm_bd_ge (hsim (i + 1) (by omega))
    omega)
  rw [gm_sum_const] at h3
  have h4 := gm_bd_ge (hsim 0 (by omega))
  have h5 := (hM 0 (by omega)).1
  omega
