/-! geometry 13: corners that see each other -/
theorem gm_Q_inj {M : Nat → Nat} {n : Nat} {Q : Nat → Pt} (h3 : ∀ r, r < n → 3 ≤ M r) (r2 : gm_R2 M n Q) (r3 : gm_R3 M n Q) (r4 : gm_R4 M n Q) {a b : Nat} (ha : a < gm_fst M n) (hb : b < gm_fst M n) (h : Q a = Q b) : a = b := by
  refine Classical.byContradiction (fun hne => ?_)
  by_cases c1 : gm_nf M n a = b
  · exact r2 a ha (by rw [c1]; exact h)
  by_cases c2 : gm_nf M n b = a
  · exact r2 b hb (by rw [c2]; exact h.symm)
  · exact gm_sep_not (gm_flat_sep r2 r3 r4 ha hb hne c1 c2) gm_on_beg (by rw [h]; exact gm_on_beg)
/-- the line between two corners is free, told by the first class -/
def gm_free (M : Nat → Nat) (n : Nat) (Q : Nat → Pt) (a b : Nat) : Prop := gm_nf M n a ≠ b ∧ gm_nf M n b ≠ a ∧ ∀ c, c < gm_fst M n → ¬ (c ≠ a ∧ c ≠ b ∧ gm_on (Q a) (Q b) (Q c)) ∧ ¬ gm_X (Q a) (Q b) (Q c) (Q (gm_nf M n c))
/-- a side in the way of the line from p to r, told by the second class -/
def gm_way (s e p r : Pt) : Prop :=
  ((s = p ∨ e = p) ∧ (s = r ∨ e = r)) ∨
  ((s = p ∨ e = p) ∧ ¬ (s = r ∨ e = r) ∧ gm_sw p r (if s = p ∨ s = r then e else s)) ∨
  (¬ (s = p ∨ e = p) ∧ (s = r ∨ e = r) ∧ gm_sw r p (if s = p ∨ s = r then e else s)) ∨
  (¬ (s = p ∨ e = p) ∧ ¬ (s = r ∨ e = r) ∧ gm_met s e p r)
/-- the same way from q: one of the two is on the line to the other -/
theorem gm_sw_on {q p r : Pt} (h : gm_sw q p r) : gm_on q p r ∨ gm_on q r p := by
  obtain ⟨h1, h2⟩ := h
  have np : q ≠ p := by
    intro e
    subst e
    unfold gm_dt at h2
    simp at h2
  have nr : q ≠ r := by
    intro e
    subst e
    unfold gm_dt at h2
    simp at h2
  have w0 : 0 < gm_dt q p p := gm_sq_pos (gm_ne np)
  by_cases le : gm_dt q p r ≤ gm_dt q p p
  · exact Or.inl (gm_on_of np h1 (by omega) le)
  · right
    have sq : gm_dt q p r * gm_dt q p r = gm_dt q p p * gm_dt q r r := by
      unfold gm_cr at h1
      unfold gm_dt
      grind
    have sy : gm_dt q r p = gm_dt q p r := by unfold gm_dt; grind
    refine gm_on_of nr (by unfold gm_cr at h1 ⊢; grind) (by rw [sy]; omega) ?_
    rw [sy]
    generalize gm_dt q p r = s at *
    generalize gm_dt q p p = w at *
    generalize gm_dt q r r = e at *
    refine Int.not_lt.mp (fun k => ?_)
    have k1 := Int.mul_lt_mul_of_pos_left k w0
    have k2 := Int.mul_lt_mul_of_pos_right (show w < s by omega) (show 0 < s by omega)
    omega
theorem gm_sw_of_on {p r z : Pt} (h : gm_on p r z) (h1 : z ≠ p) (h2 : p ≠ r) : gm_sw p r z := by
  refine ⟨h.1, ?_⟩
  by_cases e : z = r
  · rw [e]; exact gm_sq_pos (gm_ne h2)
  · exact (gm_strict h h1 e).1
theorem gm_sw_sym {q p r : Pt} (h : gm_sw q p r) : gm_sw q r p := by
  obtain ⟨h1, h2⟩ := h
  exact ⟨by unfold gm_cr at h1 ⊢; grind, by unfold gm_dt at h2 ⊢; grind⟩
theorem gm_X_not {a b c d : Pt} (h : gm_X a b c d) : c ≠ a ∧ c ≠ b ∧ d ≠ a ∧ d ≠ b := by
  obtain ⟨h1, h2⟩ := h
  refine ⟨?_, ?_, ?_, ?_⟩ <;> intro e <;> subst e
  · rw [gm_cr_a, Int.zero_mul] at h1; omega
  · rw [gm_cr_b, Int.zero_mul] at h1; omega
  · rw [gm_cr_a, Int.mul_zero] at h1; omega
  · rw [gm_cr_b, Int.mul_zero] at h1; omega
theorem gm_free_iff {M : Nat → Nat} {n : Nat} {Q : Nat → Pt} (h3 : ∀ r, r < n → 3 ≤ M r) (r2 : gm_R2 M n Q) (r3 : gm_R3 M n Q) (r4 : gm_R4 M n Q) {a b : Nat} (ha : a < gm_fst M n) (hb : b < gm_fst M n) (hne : a ≠ b) :
    gm_free M n Q a b ↔ ∀ i, i < gm_fst M n → ¬ gm_way (Q i) (Q (gm_nf M n i)) (Q a) (Q b) := by
  have inj : ∀ {c d : Nat}, c < gm_fst M n → d < gm_fst M n → Q c = Q d → c = d := fun hc hd h => gm_Q_inj h3 r2 r3 r4 hc hd h
  have nab : Q a ≠ Q b := fun e => hne (inj ha hb e)
  constructor
  · rintro ⟨f1, f2, f3⟩ i hi hw
    have hi' := gm_nf_lt hi
    have e1 : Q i = Q a → i = a := fun e => inj hi ha e
    have e2 : Q (gm_nf M n i) = Q a → gm_nf M n i = a := fun e => inj hi' ha e
    have e3 : Q i = Q b → i = b := fun e => inj hi hb e
    have e4 : Q (gm_nf M n i) = Q b → gm_nf M n i = b := fun e => inj hi' hb e
    have nii := (gm_nf_ne h3 hi).1
    -- an end of a side from corner p, the same way as the other corner
    have sw : ∀ p r o, p < gm_fst M n → r < gm_fst M n → o < gm_fst M n → p ≠ r → o ≠ p → o ≠ r → (∀ c, c < gm_fst M n → c ≠ p → c ≠ r → ¬ gm_on (Q p) (Q r) (Q c)) → (gm_nf M n p = o ∨ gm_nf M n o = p) → ¬ gm_sw (Q p) (Q r) (Q o) := by
      intro p r o hp hr ho h1 h2 h4 hf hs hsw
      rcases gm_sw_on hsw with k | k
      · exact hf o ho h2 h4 k
      · rcases hs with e | e
        · exact r4 p hp r hr (fun z => h1 z.symm) (by rw [e]; exact fun z => h4 z.symm) (by rw [e]; exact k)
        · exact r4 o ho r hr (fun z => h4 z.symm) (by rw [e]; exact fun z => h1 z.symm) (by rw [e]; exact gm_on_sw k)
    have fab : ∀ c, c < gm_fst M n → c ≠ a → c ≠ b → ¬ gm_on (Q a) (Q b) (Q c) := fun c hc h1 h2 h => (f3 c hc).1 ⟨h1, h2, h⟩
    have fba : ∀ c, c < gm_fst M n → c ≠ b → c ≠ a → ¬ gm_on (Q b) (Q a) (Q c) := fun c hc h1 h2 h => (f3 c hc).1 ⟨h2, h1, gm_on_sw h⟩
    rcases hw with ⟨w1, w2⟩ | ⟨w1, w2, w3⟩ | ⟨w1, w2, w3⟩ | ⟨w1, w2, w3⟩
    · rcases w1 with w1 | w1 <;> rcases w2 with w2 | w2
      · exact hne ((e1 w1).symm.trans (e3 w2))
      · have := e1 w1; have k := e4 w2; rw [this] at k; exact f1 k
      · have := e3 w2; have k := e2 w1; rw [this] at k; exact f2 k
      · exact hne ((e2 w1).symm.trans (e4 w2))
    · rcases w1 with w1 | w1
      · have k := e1 w1
        rw [if_pos (Or.inl w1)] at w3
        subst k
        exact sw i b _ hi hb hi' hne nii (fun z => w2 (Or.inr (by rw [z]))) fab (Or.inl rfl) w3
      · have k := e2 w1
        rw [if_neg (fun z => by
          rcases z with z | z
          · have := e1 z; exact nii (by rw [k, this])
          · exact w2 (Or.inl z))] at w3
        exact sw a b i ha hb hi hne (fun z => nii (by rw [k, z])) (fun z => w2 (Or.inl (by rw [z]))) fab (Or.inr k) w3
    · rcases w2 with w2 | w2
      · have k := e3 w2
        rw [if_pos (Or.inr w2)] at w3
        subst k
        exact sw i a _ hi ha hi' (fun z => hne z.symm) nii (fun z => w1 (Or.inr (by rw [z]))) fba (Or.inl rfl) w3
      · have k := e4 w2
        rw [if_neg (fun z => by
          rcases z with z | z
          · exact w1 (Or.inl z)
          · have := e3 z; exact nii (by rw [k, this]))] at w3
        exact sw b a i hb ha hi (fun z => hne z.symm) (fun z => nii (by rw [k, z])) (fun z => w1 (Or.inl (by rw [z]))) fba (Or.inr k) w3
    · have g1 : a ≠ i := fun z => w1 (Or.inl (by rw [z]))
      have g2 : a ≠ gm_nf M n i := fun z => w1 (Or.inr (by rw [z]))
      have g3 : b ≠ i := fun z => w2 (Or.inl (by rw [z]))
      have g4 : b ≠ gm_nf M n i := fun z => w2 (Or.inr (by rw [z]))
      rcases w3 with k | k | k | k | k
      · exact r4 i hi a ha g1 g2 k
      · exact r4 i hi b hb g3 g4 k
      · exact fab i hi (fun z => g1 z.symm) (fun z => g3 z.symm) k
      · exact fab _ hi' (fun z => g2 z.symm) (fun z => g4 z.symm) k
      · exact (f3 i hi).2 (gm_X_sw k)
  · intro hw
    refine ⟨fun e => hw a ha (Or.inl ⟨Or.inl rfl, Or.inr (by rw [e])⟩), fun e => hw b hb (Or.inl ⟨Or.inr (by rw [e]), Or.inl rfl⟩), fun c hc => ⟨?_, ?_⟩⟩
    · rintro ⟨h1, h2, hon⟩
      have hc' := gm_nf_lt hc
      have n1 : Q c ≠ Q a := fun e => h1 (inj hc ha e)
      have n2 : Q c ≠ Q b := fun e => h2 (inj hc hb e)
      refine hw c hc ?_
      by_cases c1 : Q (gm_nf M n c) = Q a
      · by_cases c2 : Q (gm_nf M n c) = Q b
        · exact absurd (c1.symm.trans c2) nab
        · refine Or.inr (Or.inl ⟨Or.inr c1, fun z => ?_, ?_⟩)
          · rcases z with z | z
            · exact n2 z
            · exact c2 z
          · rw [if_neg (fun z => by rcases z with z | z; exact n1 z; exact n2 z)]
            exact gm_sw_of_on hon n1 nab
      · by_cases c2 : Q (gm_nf M n c) = Q b
        · refine Or.inr (Or.inr (Or.inl ⟨fun z => ?_, Or.inr c2, ?_⟩))
          · rcases z with z | z
            · exact n1 z
            · exact c1 z
          · rw [if_neg (fun z => by rcases z with z | z; exact n1 z; exact n2 z)]
            exact gm_sw_of_on (gm_on_sw hon) n2 (fun e => nab e.symm)
        · refine Or.inr (Or.inr (Or.inr ⟨fun z => ?_, fun z => ?_, Or.inr (Or.inr (Or.inl hon))⟩))
          · rcases z with z | z
            · exact n1 z
            · exact c1 z
          · rcases z with z | z
            · exact n2 z
            · exact c2 z
    · intro hx
      obtain ⟨x1, x2, x3, x4⟩ := gm_X_not hx
      refine hw c hc (Or.inr (Or.inr (Or.inr ⟨fun z => ?_, fun z => ?_, Or.inr (Or.inr (Or.inr (Or.inr (gm_X_sw hx))))⟩)))
      · rcases z with z | z
        · exact x1 z
        · exact x3 z
      · rcases z with z | z
        · exact x2 z
        · exact x4 z
/-- the doubled middle of a free line is on no side -/
theorem gm_mid_off {M : Nat → Nat} {n : Nat} {Q : Nat → Pt} (h3 : ∀ r, r < n → 3 ≤ M r) (r2 : gm_R2 M n Q) (r3 : gm_R3 M n Q) (r4 : gm_R4 M n Q) {a b : Nat} (ha : a < gm_fst M n) (hb : b < gm_fst M n) (hne : a ≠ b) (hf : gm_free M n Q a b) {i : Nat} (hi : i < gm_fst M n) :
    ¬ gm_on (gm_sc 2 (Q i)) (gm_sc 2 (Q (gm_nf M n i))) ((Q a).1 + (Q b).1, (Q a).2 + (Q b).2) := by
  intro hon
  have hw := (gm_free_iff h3 r2 r3 r4 ha hb hne).mp hf i hi
  have inj : ∀ {c d : Nat}, c < gm_fst M n → d < gm_fst M n → Q c = Q d → c = d := fun hc hd h => gm_Q_inj h3 r2 r3 r4 hc hd h
  have nab : Q a ≠ Q b := fun e => hne (inj ha hb e)
  obtain ⟨f1, f2, f3⟩ := hf
  have hi' := gm_nf_lt hi
  -- a side that begins or ends at p, the middle on it: the other end the same way as r
  have part : ∀ p r o : Pt, p ≠ r → p ≠ o → gm_on (gm_sc 2 p) (gm_sc 2 o) (p.1 + r.1, p.2 + r.2) → gm_sw p r o := by
    intro p r o h1 h2 h
    obtain ⟨c0, c1, c2⟩ := h
    have c1 : ((2 * p.1 ≤ p.1 + r.1 ∧ p.1 + r.1 ≤ 2 * o.1) ∨ (2 * o.1 ≤ p.1 + r.1 ∧ p.1 + r.1 ≤ 2 * p.1)) := c1
    have c2 : ((2 * p.2 ≤ p.2 + r.2 ∧ p.2 + r.2 ≤ 2 * o.2) ∨ (2 * o.2 ≤ p.2 + r.2 ∧ p.2 + r.2 ≤ 2 * p.2)) := c2
    have e0 : gm_cr p r o = 0 := by
      unfold gm_cr gm_sc at c0
      dsimp only at c0
      unfold gm_cr
      grind
    refine ⟨e0, ?_⟩
    have nn : ∀ u v : Int, (0 ≤ v ∧ v ≤ 2 * u) ∨ (2 * u ≤ v ∧ v ≤ 0) → 0 ≤ v * u := by
      intro u v k
      rcases k with k | k
      · exact Int.mul_nonneg k.1 (by omega)
      · exact Int.mul_nonneg_of_nonpos_of_nonpos k.2 (by omega)
    have k1 := nn (o.1 - p.1) (r.1 - p.1) (by omega)
    have k2 := nn (o.2 - p.2) (r.2 - p.2) (by omega)
    have k3 : gm_dt p r o ≠ 0 := by
      intro z
      unfold gm_dt at z
      have z1 : (r.1 - p.1) * (o.1 - p.1) = 0 := by omega
      have z2 : (r.2 - p.2) * (o.2 - p.2) = 0 := by omega
      have q := gm_ne h1
      have q2 := gm_ne h2
      unfold gm_cr at e0
      rcases Int.mul_eq_zero.mp z1 with y1 | y1 <;> rcases Int.mul_eq_zero.mp z2 with y2 | y2
      · exact q ⟨y1, y2⟩
      · rw [y1, Int.zero_mul] at e0
        have e0 : (r.2 - p.2) * (o.1 - p.1) = 0 := by omega
        rcases Int.mul_eq_zero.mp e0 with y | y
        · exact q ⟨y1, y⟩
        · exact q2 ⟨y, y2⟩
      · rw [y2, Int.zero_mul] at e0
        have e0 : (r.1 - p.1) * (o.2 - p.2) = 0 := by omega
        rcases Int.mul_eq_zero.mp e0 with y | y
        · exact q ⟨y, y2⟩
        · exact q2 ⟨y1, y⟩
      · exact q2 ⟨y1, y2⟩
    unfold gm_dt at k3 ⊢
    omega
  have sy : ((Q a).1 + (Q b).1, (Q a).2 + (Q b).2) = (((Q b).1 + (Q a).1, (Q b).2 + (Q a).2) : Pt) := Prod.ext (Int.add_comm _ _) (Int.add_comm _ _)
  have nside := r2 i hi
  by_cases c1 : Q i = Q a
  · by_cases c2 : Q (gm_nf M n i) = Q b
    · exact hw (Or.inl ⟨Or.inl c1, Or.inr c2⟩)
    · refine hw (Or.inr (Or.inl ⟨Or.inl c1, fun z => ?_, ?_⟩))
      · rcases z with z | z
        · exact nab (c1.symm.trans z)
        · exact c2 z
      · rw [if_pos (Or.inl c1)]
        rw [c1] at hon nside
        exact part _ _ _ nab nside hon
  by_cases c2 : Q (gm_nf M n i) = Q a
  · by_cases c3 : Q i = Q b
    · exact hw (Or.inl ⟨Or.inr c2, Or.inl c3⟩)
    · refine hw (Or.inr (Or.inl ⟨Or.inr c2, fun z => ?_, ?_⟩))
      · rcases z with z | z
        · exact c3 z
        · exact nab (c2.symm.trans z)
      · rw [if_neg (fun z => by rcases z with z | z; exact c1 z; exact c3 z)]
        rw [c2] at hon nside
        exact part _ _ _ nab (fun e => nside e.symm) (gm_on_sw hon)
  by_cases c3 : Q i = Q b
  · refine hw (Or.inr (Or.inr (Or.inl ⟨fun z => ?_, Or.inl c3, ?_⟩)))
    · rcases z with z | z
      · exact c1 z
      · exact c2 z
    · rw [if_pos (Or.inr c3)]
      rw [c3] at hon nside
      exact part _ _ _ (fun e => nab e.symm) nside (by rw [← sy]; exact hon)
  by_cases c4 : Q (gm_nf M n i) = Q b
  · refine hw (Or.inr (Or.inr (Or.inl ⟨fun z => ?_, Or.inr c4, ?_⟩)))
    · rcases z with z | z
      · exact c1 z
      · exact c2 z
    · rw [if_neg (fun z => by rcases z with z | z; exact c1 z; exact c3 z)]
      rw [c4] at hon nside
      exact part _ _ _ (fun e => nab e.symm) (fun e => nside e.symm) (by rw [← sy]; exact gm_on_sw hon)
  have m0 : ¬ gm_met (Q i) (Q (gm_nf M n i)) (Q a) (Q b) := fun q => hw (Or.inr (Or.inr (Or.inr ⟨fun z => by rcases z with z | z; exact c1 z; exact c2 z, fun z => by rcases z with z | z; exact c3 z; exact c4 z, q⟩)))
  have sp : gm_sep (Q i) (Q (gm_nf M n i)) (Q a) (Q b) := gm_sep_of nside nab (fun q => m0 (Or.inr (Or.inr (Or.inr (Or.inr q))))) (fun q => m0 (Or.inl q)) (fun q => m0 (Or.inr (Or.inl q))) (fun q => m0 (Or.inr (Or.inr (Or.inl q)))) (fun q => m0 (Or.inr (Or.inr (Or.inr (Or.inl q)))))
  refine gm_sep_not (gm_sc_sep (show (0 : Int) < 2 by omega) sp) hon ⟨?_, ?_, ?_⟩
  · unfold gm_cr gm_sc
    dsimp only
    grind
  · show ((2 * (Q a).1 ≤ (Q a).1 + (Q b).1 ∧ (Q a).1 + (Q b).1 ≤ 2 * (Q b).1) ∨ (2 * (Q b).1 ≤ (Q a).1 + (Q b).1 ∧ (Q a).1 + (Q b).1 ≤ 2 * (Q a).1)); omega
  · show ((2 * (Q a).2 ≤ (Q a).2 + (Q b).2 ∧ (Q a).2 + (Q b).2 ≤ 2 * (Q b).2) ∨ (2 * (Q b).2 ≤ (Q a).2 + (Q b).2 ∧ (Q a).2 + (Q b).2 ≤ 2 * (Q a).2)); omega
