/-! geometry 12: the corners of all rings in one row; the rules -/
def gm_fst (M : Nat → Nat) : Nat → Nat
  | 0 => 0
  | r + 1 => gm_fst M r + M r
def gm_rr (M : Nat → Nat) : Nat → Nat → Nat
  | 0, _ => 0
  | n + 1, c => if gm_fst M n ≤ c then n else gm_rr M n c
theorem gm_fst_le {M : Nat → Nat} {r s : Nat} (h : r ≤ s) : gm_fst M r ≤ gm_fst M s := by
  induction s with
  | zero => rw [show r = 0 by omega]; exact Nat.le_refl _
  | succ s ih =>
    by_cases e : r = s + 1
    · rw [e]; exact Nat.le_refl _
    · have := ih (by omega)
      show gm_fst M r ≤ gm_fst M s + M s
      omega
theorem gm_fst_lt {M : Nat → Nat} {r k n : Nat} (hr : r < n) (hk : k < M r) : gm_fst M r + k < gm_fst M n := by
  have h1 : gm_fst M (r + 1) ≤ gm_fst M n := gm_fst_le hr
  have h2 : gm_fst M (r + 1) = gm_fst M r + M r := rfl
  omega
theorem gm_rr_spec {M : Nat → Nat} {n c : Nat} (h : c < gm_fst M n) : gm_rr M n c < n ∧ gm_fst M (gm_rr M n c) ≤ c ∧ c - gm_fst M (gm_rr M n c) < M (gm_rr M n c) := by
  induction n with
  | zero => exact absurd h (Nat.not_lt_zero c)
  | succ n ih =>
    unfold gm_rr
    by_cases q : gm_fst M n ≤ c
    · rw [if_pos q]
      have h : c < gm_fst M n + M n := h
      omega
    · rw [if_neg q]
      have := ih (by omega)
      omega
theorem gm_rr_eq {M : Nat → Nat} {n r k : Nat} (hr : r < n) (hk : k < M r) : gm_rr M n (gm_fst M r + k) = r := by
  induction n with
  | zero => exact absurd hr (Nat.not_lt_zero r)
  | succ n ih =>
    unfold gm_rr
    by_cases e : r = n
    · rw [if_pos (by rw [e]; omega), e]
    · rw [if_neg (by have := gm_fst_lt (n := n) (show r < n by omega) hk; omega)]
      exact ih (by omega)
/-- the next corner, by the number of all corners -/
def gm_nf (M : Nat → Nat) (n c : Nat) : Nat := gm_fst M (gm_rr M n c) + gm_nx (M (gm_rr M n c)) (c - gm_fst M (gm_rr M n c))
theorem gm_nf_eq {M : Nat → Nat} {n r k : Nat} (hr : r < n) (hk : k < M r) : gm_nf M n (gm_fst M r + k) = gm_fst M r + gm_nx (M r) k := by
  unfold gm_nf
  rw [gm_rr_eq hr hk, Nat.add_sub_cancel_left]
theorem gm_flat {M : Nat → Nat} {n c : Nat} (h : c < gm_fst M n) : ∃ r k, r < n ∧ k < M r ∧ c = gm_fst M r + k := by
  have := gm_rr_spec h
  exact ⟨gm_rr M n c, c - gm_fst M (gm_rr M n c), this.1, this.2.2, by omega⟩
theorem gm_flat_inj {M : Nat → Nat} {n r k s j : Nat} (hr : r < n) (hk : k < M r) (hs : s < n) (hj : j < M s) (h : gm_fst M r + k = gm_fst M s + j) : r = s ∧ k = j := by
  have h1 := gm_rr_eq hr hk
  rw [h, gm_rr_eq hs hj] at h1
  subst h1
  exact ⟨rfl, by omega⟩
theorem gm_nf_lt {M : Nat → Nat} {n c : Nat} (h : c < gm_fst M n) : gm_nf M n c < gm_fst M n := by
  obtain ⟨r, k, hr, hk, rfl⟩ := gm_flat h
  rw [gm_nf_eq hr hk]
  exact gm_fst_lt hr (gm_nx_lt hk)
theorem gm_nf_inj {M : Nat → Nat} {n a b : Nat} (ha : a < gm_fst M n) (hb : b < gm_fst M n) (h : gm_nf M n a = gm_nf M n b) : a = b := by
  obtain ⟨r, k, hr, hk, rfl⟩ := gm_flat ha
  obtain ⟨s, j, hs, hj, rfl⟩ := gm_flat hb
  rw [gm_nf_eq hr hk, gm_nf_eq hs hj] at h
  obtain ⟨e, h⟩ := gm_flat_inj hr (gm_nx_lt hk) hs (gm_nx_lt hj) h
  subst e
  rw [gm_nx_inj hk hj h]
theorem gm_nf_ne {M : Nat → Nat} {n a : Nat} (h3 : ∀ r, r < n → 3 ≤ M r) (ha : a < gm_fst M n) : gm_nf M n a ≠ a ∧ gm_nf M n (gm_nf M n a) ≠ a := by
  obtain ⟨r, k, hr, hk, rfl⟩ := gm_flat ha
  rw [gm_nf_eq hr hk, gm_nf_eq hr (gm_nx_lt hk)]
  have := gm_nx_ne (h3 r hr) hk
  omega
theorem gm_sum_flat (M : Nat → Nat) (n : Nat) (f : Nat → Int) : gm_sum (gm_fst M n) f = gm_sum n (fun r => gm_sum (M r) (fun k => f (gm_fst M r + k))) := by
  have app : ∀ a b : Nat, gm_sum (a + b) f = gm_sum a f + gm_sum b (fun k => f (a + k)) := by
    intro a b
    induction b with
    | zero => show gm_sum a f = gm_sum a f + 0; omega
    | succ b ih =>
      show gm_sum (a + b) f + f (a + b) = gm_sum a f + (gm_sum b (fun k => f (a + k)) + f (a + b))
      rw [ih]; omega
  induction n with
  | zero => rfl
  | succ n ih =>
    show gm_sum (gm_fst M n + M n) f = gm_sum n _ + gm_sum (M n) _
    rw [app, ih]
/-- sides that cross -/
def gm_X (a b c d : Pt) : Prop := gm_cr a b c * gm_cr a b d < 0 ∧ gm_cr c d a * gm_cr c d b < 0
def gm_R1 (M : Nat → Nat) (n : Nat) (Q : Nat → Pt) : Prop := ∀ c, c < gm_fst M n → gm_paper (Q c)
def gm_R2 (M : Nat → Nat) (n : Nat) (Q : Nat → Pt) : Prop := ∀ c, c < gm_fst M n → Q c ≠ Q (gm_nf M n c)
def gm_R3 (M : Nat → Nat) (n : Nat) (Q : Nat → Pt) : Prop := ∀ a, a < gm_fst M n → ∀ b, b < a → ¬ gm_X (Q a) (Q (gm_nf M n a)) (Q b) (Q (gm_nf M n b))
def gm_R4 (M : Nat → Nat) (n : Nat) (Q : Nat → Pt) : Prop := ∀ s, s < gm_fst M n → ∀ c, c < gm_fst M n → c ≠ s → c ≠ gm_nf M n s → ¬ gm_on (Q s) (Q (gm_nf M n s)) (Q c)
/-- two lines from q go the same way -/
def gm_sw (q p r : Pt) : Prop := gm_cr q p r = 0 ∧ 0 < gm_dt q p r
def gm_met (a b p q : Pt) : Prop := gm_on a b p ∨ gm_on a b q ∨ gm_on p q a ∨ gm_on p q b ∨ gm_X a b p q
def gm_tch (M : Nat → Nat) (n : Nat) (Q : Nat → Pt) (i j : Nat) : Prop :=
  (gm_nf M n i = j → gm_sw (Q (gm_nf M n i)) (Q i) (Q (gm_nf M n j))) ∧ (gm_nf M n i ≠ j → gm_nf M n j = i → gm_sw (Q (gm_nf M n j)) (Q j) (Q (gm_nf M n i))) ∧
  (gm_nf M n i ≠ j → gm_nf M n j ≠ i → gm_met (Q i) (Q (gm_nf M n i)) (Q j) (Q (gm_nf M n j)))
def gm_R4' (M : Nat → Nat) (n : Nat) (Q : Nat → Pt) : Prop := ∀ i, i < gm_fst M n → ∀ j, j < i → ¬ gm_tch M n Q i j
theorem gm_X_sw {a b c d : Pt} (h : gm_X a b c d) : gm_X c d a b := ⟨h.2, h.1⟩
theorem gm_flat_sep {M : Nat → Nat} {n : Nat} {Q : Nat → Pt} (r2 : gm_R2 M n Q) (r3 : gm_R3 M n Q) (r4 : gm_R4 M n Q) {a b : Nat} (ha : a < gm_fst M n) (hb : b < gm_fst M n) (h1 : a ≠ b) (h2 : gm_nf M n a ≠ b) (h3 : gm_nf M n b ≠ a) :
    gm_sep (Q a) (Q (gm_nf M n a)) (Q b) (Q (gm_nf M n b)) := by
  have inj : gm_nf M n a ≠ gm_nf M n b := fun e => h1 (gm_nf_inj ha hb e)
  refine gm_sep_of (r2 a ha) (r2 b hb) ?_ (r4 a ha b hb (fun e => h1 e.symm) (fun e => h2 e.symm)) (r4 a ha _ (gm_nf_lt hb) h3 (fun e => inj e.symm)) (r4 b hb a ha h1 (fun e => h3 e.symm)) (r4 b hb _ (gm_nf_lt ha) h2 inj)
  intro hx
  by_cases c : b < a
  · exact r3 a ha b c hx
  · exact r3 b hb a (by omega) (gm_X_sw hx)
theorem gm_flat_tn {M : Nat → Nat} {n : Nat} {Q : Nat → Pt} (h3 : ∀ r, r < n → 3 ≤ M r) (r2 : gm_R2 M n Q) (r4 : gm_R4 M n Q) {a : Nat} (ha : a < gm_fst M n) :
    gm_tn (gm_v (Q a) (Q (gm_nf M n a))) (gm_v (Q (gm_nf M n a)) (Q (gm_nf M n (gm_nf M n a)))) := by
  have hb := gm_nf_lt ha
  have ht := gm_nf_lt hb
  obtain ⟨n1, n2⟩ := gm_nf_ne h3 ha
  obtain ⟨n3, n4⟩ := gm_nf_ne h3 hb
  have ne1 := r2 a ha
  have ne2 := r2 _ hb
  have f1 := r4 a ha _ ht n2 n3
  have f2 := r4 _ hb a ha (fun e => n1 e.symm) (fun e => n2 e.symm)
  generalize gm_nf M n (gm_nf M n a) = c at *
  generalize gm_nf M n a = b at *
  refine Classical.byContradiction (fun hn => ?_)
  have hx : gm_x (gm_v (Q a) (Q b)) (gm_v (Q b) (Q c)) = 0 := Classical.byContradiction (fun q => hn (Or.inl q))
  have hd : ¬ 0 < (gm_v (Q a) (Q b)).1 * (gm_v (Q b) (Q c)).1 + (gm_v (Q a) (Q b)).2 * (gm_v (Q b) (Q c)).2 := fun q => hn (Or.inr q)
  have c1 : gm_cr (Q b) (Q a) (Q c) = 0 := by
    unfold gm_x gm_v at hx
    unfold gm_cr
    dsimp only at hx
    grind
  have w0 : 0 < gm_dt (Q b) (Q a) (Q a) := gm_sq_pos (gm_ne (fun e => ne1 e.symm))
  have we : 0 ≤ gm_dt (Q b) (Q a) (Q c) := by
    have : gm_dt (Q b) (Q a) (Q c) = -((gm_v (Q a) (Q b)).1 * (gm_v (Q b) (Q c)).1 + (gm_v (Q a) (Q b)).2 * (gm_v (Q b) (Q c)).2) := by
      unfold gm_dt gm_v; grind
    omega
  by_cases le : gm_dt (Q b) (Q a) (Q c) ≤ gm_dt (Q b) (Q a) (Q a)
  · exact f1 (gm_on_sw (gm_on_of (fun e => ne1 e.symm) c1 we le))
  · refine f2 (gm_on_of ne2 (by have := gm_cr_rot2 (Q b) (Q a) (Q c); unfold gm_cr at c1 ⊢; grind) (by unfold gm_dt at we ⊢; grind) ?_)
    have sq : gm_dt (Q b) (Q a) (Q c) * gm_dt (Q b) (Q a) (Q c) = gm_dt (Q b) (Q a) (Q a) * gm_dt (Q b) (Q c) (Q c) := by
      unfold gm_cr at c1
      unfold gm_dt
      grind
    have sy : gm_dt (Q b) (Q c) (Q a) = gm_dt (Q b) (Q a) (Q c) := by unfold gm_dt; grind
    rw [sy]
    generalize gm_dt (Q b) (Q a) (Q c) = s at *
    generalize gm_dt (Q b) (Q a) (Q a) = w at *
    generalize gm_dt (Q b) (Q c) (Q c) = e at *
    refine Int.not_lt.mp (fun k => ?_)
    have k1 := Int.mul_lt_mul_of_pos_left k w0
    have k2 := Int.mul_lt_mul_of_pos_right (show w < s by omega) (show 0 < s by omega)
    omega
theorem gm_R4_iff {M : Nat → Nat} {n : Nat} {Q : Nat → Pt} (h3 : ∀ r, r < n → 3 ≤ M r) (r2 : gm_R2 M n Q) (r3 : gm_R3 M n Q) : gm_R4 M n Q ↔ gm_R4' M n Q := by
  constructor
  · intro r4 i hi j hj hn
    have hj' : j < gm_fst M n := by omega
    obtain ⟨t1, t2, t3⟩ := hn
    have nosw : ∀ a b, a < gm_fst M n → gm_nf M n a = b → ¬ gm_sw (Q (gm_nf M n a)) (Q a) (Q (gm_nf M n b)) := by
      intro a b ha e hs
      have t := gm_flat_tn h3 r2 r4 ha
      rw [e] at t hs
      obtain ⟨s1, s2⟩ := hs
      rcases t with t | t
      · refine t ?_
        unfold gm_cr at s1
        unfold gm_x gm_v
        grind
      · have : gm_dt (Q b) (Q a) (Q (gm_nf M n b)) = -((gm_v (Q a) (Q b)).1 * (gm_v (Q b) (Q (gm_nf M n b))).1 + (gm_v (Q a) (Q b)).2 * (gm_v (Q b) (Q (gm_nf M n b))).2) := by
          unfold gm_dt gm_v; grind
        omega
    by_cases c1 : gm_nf M n i = j
    · exact nosw i j hi c1 (t1 c1)
    by_cases c2 : gm_nf M n j = i
    · exact nosw j i hj' c2 (t2 c1 c2)
    have inj : gm_nf M n i ≠ gm_nf M n j := fun e => by have := gm_nf_inj hi hj' e; omega
    rcases t3 c1 c2 with q | q | q | q | q
    · exact r4 i hi j hj' (by omega) (fun e => c1 e.symm) q
    · exact r4 i hi _ (gm_nf_lt hj') c2 (fun e => inj e.symm) q
    · exact r4 j hj' i hi (by omega) (fun e => c2 e.symm) q
    · exact r4 j hj' _ (gm_nf_lt hi) c1 inj q
    · exact r3 i hi j hj q
  · intro r4 s hs c hc hne1 hne2 hon
    have csw : gm_nf M n c = s → gm_sw (Q (gm_nf M n c)) (Q c) (Q (gm_nf M n s)) := by
      intro e
      rw [e]
      have ne : Q c ≠ Q s := by have := r2 c hc; rw [e] at this; exact this
      have ne2 := r2 s hs
      have k1 := hon.1
      refine ⟨by unfold gm_cr at k1 ⊢; grind, ?_⟩
      have hq : 0 < gm_dt (Q s) (Q (gm_nf M n s)) (Q c) := by
        by_cases eb : Q c = Q (gm_nf M n s)
        · rw [eb]; exact gm_sq_pos (gm_ne ne2)
        · exact (gm_strict hon ne eb).1
      have : gm_dt (Q s) (Q c) (Q (gm_nf M n s)) = gm_dt (Q s) (Q (gm_nf M n s)) (Q c) := by unfold gm_dt; grind
      omega
    by_cases lt : c < s
    · refine r4 s hs c lt ⟨fun e => absurd e.symm hne2, fun _ e => csw e, fun _ _ => Or.inl hon⟩
    · refine r4 c hc s (by omega) ⟨fun e => csw e, fun _ e => absurd e.symm hne2, fun _ _ => Or.inr (Or.inr (Or.inl hon))⟩
def gm_P (M : Nat → Nat) (Q : Nat → Pt) (r k : Nat) : Pt := Q (gm_fst M r + k)
theorem gm_flat_simple {M : Nat → Nat} {n : Nat} {Q : Nat → Pt} (h3 : ∀ r, r < n → 3 ≤ M r) (r2 : gm_R2 M n Q) (r3 : gm_R3 M n Q) (r4 : gm_R4 M n Q) {r : Nat} (hr : r < n) : gm_simple (M r) (gm_P M Q r) := by
  refine ⟨h3 r hr, fun k hk => ?_, fun j k hj hk a b c => ?_⟩
  · have := gm_flat_tn h3 r2 r4 (gm_fst_lt hr hk)
    rw [gm_nf_eq hr hk, gm_nf_eq hr (gm_nx_lt hk)] at this
    exact this
  · have := gm_flat_sep r2 r3 r4 (gm_fst_lt hr hj) (gm_fst_lt hr hk) (by omega) (by rw [gm_nf_eq hr hj]; omega) (by rw [gm_nf_eq hr hk]; omega)
    rw [gm_nf_eq hr hj, gm_nf_eq hr hk] at this
    exact this
theorem gm_flat_apart {M : Nat → Nat} {n : Nat} {Q : Nat → Pt} (r2 : gm_R2 M n Q) (r3 : gm_R3 M n Q) (r4 : gm_R4 M n Q) {r s : Nat} (hr : r < n) (hs : s < n) (hrs : r ≠ s) : gm_apart (M r) (gm_P M Q r) (M s) (gm_P M Q s) := by
  intro j k hj hk
  have := gm_flat_sep r2 r3 r4 (gm_fst_lt hr hj) (gm_fst_lt hs hk) (fun e => hrs (gm_flat_inj hr hj hs hk e).1) (by rw [gm_nf_eq hr hj]; exact fun e => hrs (gm_flat_inj hr (gm_nx_lt hj) hs hk e).1) (by rw [gm_nf_eq hs hk]; exact fun e => hrs (gm_flat_inj hs (gm_nx_lt hk) hr hj e).1.symm)
  rw [gm_nf_eq hr hj, gm_nf_eq hs hk] at this
  exact this
/-- the fifth rule, at each hole's first corner -/
def gm_R5 (M : Nat → Nat) (n : Nat) (Q : Nat → Pt) : Prop := ∀ r, 1 ≤ r → r < n → ∀ s, s < n → s ≠ r → (gm_w (M s) (gm_P M Q s) (gm_P M Q r 0) ≠ 0 ↔ s = 0)
def gm_R5' (M : Nat → Nat) (n : Nat) (Q : Nat → Pt) : Prop := ∀ r, 1 ≤ r → r < n → ∀ k, k < M r → ∀ s, s < n → s ≠ r → (gm_w (M s) (gm_P M Q s) (gm_P M Q r k) ≠ 0 ↔ s = 0)
theorem gm_R5_iff {M : Nat → Nat} {n : Nat} {Q : Nat → Pt} (h3 : ∀ r, r < n → 3 ≤ M r) (r2 : gm_R2 M n Q) (r3 : gm_R3 M n Q) (r4 : gm_R4 M n Q) : gm_R5 M n Q ↔ gm_R5' M n Q := by
  constructor
  · intro h r h1 h2 k hk s hs hne
    rw [gm_apart_const (gm_flat_apart r2 r3 r4 hs h2 hne) k hk]
    exact h r h1 h2 s hs hne
  · intro h r h1 h2 s hs hne
    exact h r h1 h2 0 (by have := h3 r h2; omega) s hs hne
/-- the rules, all of them, for a figure of 1 to 4 rings of 3 to 10 corners -/
def gm_ok (M : Nat → Nat) (n : Nat) (Q : Nat → Pt) : Prop := (1 ≤ n ∧ n ≤ 4) ∧ (∀ r, r < n → 3 ≤ M r ∧ M r ≤ 10) ∧ gm_R1 M n Q ∧ gm_R2 M n Q ∧ gm_R3 M n Q ∧ gm_R4 M n Q ∧ gm_R5 M n Q
theorem gm_ok_good {M : Nat → Nat} {n : Nat} {Q : Nat → Pt} (h : gm_ok M n Q) : gm_good n M (gm_P M Q) := by
  obtain ⟨hn, hM, r1, r2, r3, r4, r5⟩ := h
  have h3 : ∀ r, r < n → 3 ≤ M r := fun r hr => (hM r hr).1
  exact ⟨hn, hM, fun r k hr hk => r1 _ (gm_fst_lt hr hk), fun r hr => gm_flat_simple h3 r2 r3 r4 hr, fun r s j k hr hs hne hj hk => gm_flat_apart r2 r3 r4 hr hs hne j k hj hk,
    fun r s k h1 h2 hs hne hk => (gm_R5_iff h3 r2 r3 r4).mp r5 r h1 h2 k hk s hs hne⟩
