/-! geometry 14: the hull -/
def gm_hs (m : Nat) (P : Nat → Pt) (a b : Nat) : Prop := a < m ∧ b < m ∧ a ≠ b ∧ ∀ c, c < m → 0 ≤ gm_cr (P a) (P b) (P c) ∧ (gm_cr (P a) (P b) (P c) = 0 → gm_on (P a) (P b) (P c))
def gm_sqd (a b : Pt) : Int := (a.1 - b.1) * (a.1 - b.1) + (a.2 - b.2) * (a.2 - b.2)
/-- the corner that is found from x, when the first k are looked at, from t on -/
def gm_toF (P : Nat → Pt) (x : Nat) : Nat → Nat → Nat
  | 0, t => t
  | k + 1, t => if gm_cr (P x) (P (gm_toF P x k t)) (P k) < 0 ∨ (gm_cr (P x) (P (gm_toF P x k t)) (P k) = 0 ∧ gm_sqd (P x) (P (gm_toF P x k t)) < gm_sqd (P x) (P k)) then k else gm_toF P x k t
def gm_nice (m : Nat) (P : Nat → Pt) (x : Nat) : Prop := ∃ α β : Int, ∀ k, k < m → k ≠ x → 0 < α * ((P k).1 - (P x).1) + β * ((P k).2 - (P x).2)
theorem gm_sqd_self (a : Pt) : gm_sqd a a = 0 := by unfold gm_sqd; simp
theorem gm_sqd_nonneg (a b : Pt) : 0 ≤ gm_sqd a b := by
  unfold gm_sqd
  by_cases h : a.1 - b.1 = 0 ∧ a.2 - b.2 = 0
  · rw [h.1, h.2]; decide
  · exact Int.le_of_lt (gm_sq_pos h)
theorem gm_plu (α β : Int) (x a b c : Pt) : gm_cr x a c * (α * (b.1 - x.1) + β * (b.2 - x.2)) = gm_cr x a b * (α * (c.1 - x.1) + β * (c.2 - x.2)) + gm_cr x b c * (α * (a.1 - x.1) + β * (a.2 - x.2)) := by
  unfold gm_cr; grind
theorem gm_cr_flip (x a b : Pt) : gm_cr x b a = - gm_cr x a b := by unfold gm_cr; grind
theorem gm_mul_sg {x g : Int} (hg : 0 < g) (h : 0 ≤ x * g) : 0 ≤ x := Int.not_lt.mp (fun k => by have := Int.mul_neg_of_neg_of_pos k hg; omega)
theorem gm_mul_sg' {x g : Int} (hg : 0 < g) (h : 0 < x * g) : 0 < x := Int.not_le.mp (fun k => by have := Int.mul_nonpos_of_nonpos_of_nonneg k (Int.le_of_lt hg); omega)
theorem gm_toF_inv {m : Nat} {P : Nat → Pt} {x t : Nat} (hx : gm_nice m P x) (ht : t < m) (htx : t ≠ x) : ∀ j, j ≤ m →
    gm_toF P x j t < m ∧ gm_toF P x j t ≠ x ∧ ∀ k, k < j → 0 ≤ gm_cr (P x) (P (gm_toF P x j t)) (P k) ∧ (gm_cr (P x) (P (gm_toF P x j t)) (P k) = 0 → gm_sqd (P x) (P k) ≤ gm_sqd (P x) (P (gm_toF P x j t))) := by
  obtain ⟨α, β, hg⟩ := hx
  intro j
  induction j with
  | zero => intro _; exact ⟨ht, htx, fun k hk => absurd hk (Nat.not_lt_zero k)⟩
  | succ j ih =>
    intro hj
    obtain ⟨h1, h2, h3⟩ := ih (by omega)
    unfold gm_toF
    generalize gm_toF P x j t = T at *
    have gT := hg T h1 h2
    by_cases c : gm_cr (P x) (P T) (P j) < 0 ∨ (gm_cr (P x) (P T) (P j) = 0 ∧ gm_sqd (P x) (P T) < gm_sqd (P x) (P j))
    · rw [if_pos c]
      have jx : j ≠ x := by
        intro e
        subst e
        have e1 : gm_cr (P j) (P T) (P j) = 0 := gm_cr_a _ _
        have e2 := gm_sqd_self (P j)
        have e3 := gm_sqd_nonneg (P j) (P T)
        omega
      have gj := hg j (by omega) jx
      refine ⟨by omega, jx, fun k hk => ?_⟩
      by_cases ek : k = j
      · rw [ek, gm_cr_b]
        exact ⟨Int.le_refl 0, fun _ => Int.le_refl _⟩
      · obtain ⟨k1, k2⟩ := h3 k (by omega)
        by_cases kx : k = x
        · rw [kx, gm_cr_a, gm_sqd_self]
          exact ⟨Int.le_refl 0, fun _ => gm_sqd_nonneg _ _⟩
        · have gk := hg k (by omega) kx
          have pl := gm_plu α β (P x) (P j) (P T) (P k)
          have fl := gm_cr_flip (P x) (P j) (P T)
          rcases c with c | c
          · have a1 : 0 < gm_cr (P x) (P j) (P T) := by omega
            have a2 := Int.mul_pos a1 gk
            have a3 := Int.mul_nonneg k1 (Int.le_of_lt gj)
            have a4 := gm_mul_sg' gT (show 0 < gm_cr (P x) (P j) (P k) * _ by omega)
            exact ⟨Int.le_of_lt a4, fun e => by omega⟩
          · have a1 : gm_cr (P x) (P j) (P T) = 0 := by omega
            rw [a1, Int.zero_mul, Int.zero_add] at pl
            have a3 := Int.mul_nonneg k1 (Int.le_of_lt gj)
            refine ⟨gm_mul_sg gT (by omega), fun e => ?_⟩
            rw [e, Int.zero_mul] at pl
            have a5 : gm_cr (P x) (P T) (P k) = 0 := by
              rcases Int.mul_eq_zero.mp pl.symm with q | q
              · exact q
              · omega
            have := k2 a5
            omega
    · rw [if_neg c]
      refine ⟨h1, h2, fun k hk => ?_⟩
      by_cases ek : k = j
      · rw [ek]
        omega
      · exact h3 k (by omega)
/-- the way from a nice corner leads along the hull -/
theorem gm_to_hs {m : Nat} {P : Nat → Pt} {x t : Nat} (hx : gm_nice m P x) (hxm : x < m) (ht : t < m) (htx : t ≠ x) : gm_hs m P x (gm_toF P x m t) := by
  obtain ⟨h1, h2, h3⟩ := gm_toF_inv hx ht htx m (Nat.le_refl m)
  obtain ⟨α, β, hg⟩ := hx
  generalize gm_toF P x m t = T at *
  refine ⟨hxm, h1, fun e => h2 e.symm, fun c hc => ⟨(h3 c hc).1, fun e => ?_⟩⟩
  by_cases cx : c = x
  · rw [cx]; exact gm_on_beg
  have gT := hg T h1 h2
  have gc := hg c hc cx
  have le := (h3 c hc).2 e
  have ne : P x ≠ P T := by
    intro q
    rw [← q] at gT
    simp at gT
  have e1 : gm_dt (P x) (P T) (P c) * (α * ((P T).1 - (P x).1) + β * ((P T).2 - (P x).2)) = gm_dt (P x) (P T) (P T) * (α * ((P c).1 - (P x).1) + β * ((P c).2 - (P x).2)) := by
    unfold gm_cr at e
    unfold gm_dt
    grind
  have w0 : 0 < gm_dt (P x) (P T) (P T) := gm_sq_pos (gm_ne ne)
  have d0 : 0 < gm_dt (P x) (P T) (P c) := by
    have := Int.mul_pos w0 gc
    exact gm_mul_sg' gT (by omega)
  refine gm_on_of ne e (Int.le_of_lt d0) ?_
  have sq : gm_dt (P x) (P T) (P c) * gm_dt (P x) (P T) (P c) = gm_dt (P x) (P T) (P T) * gm_sqd (P x) (P c) := by
    unfold gm_cr at e
    unfold gm_dt gm_sqd
    grind
  have eT : gm_sqd (P x) (P T) = gm_dt (P x) (P T) (P T) := by unfold gm_sqd gm_dt; grind
  rw [eT] at le
  generalize gm_dt (P x) (P T) (P c) = s at *
  generalize gm_dt (P x) (P T) (P T) = w at *
  generalize gm_sqd (P x) (P c) = q at *
  refine Int.not_lt.mp (fun k => ?_)
  have k1 := Int.mul_le_mul_of_nonneg_left le (Int.le_of_lt w0)
  have k2 := Int.mul_lt_mul_of_pos_right k w0
  have k3 := Int.mul_lt_mul_of_pos_left k d0
  omega
theorem gm_hs_un {m : Nat} {P : Nat → Pt} (inj : ∀ a b, a < m → b < m → P a = P b → a = b) {a b c : Nat} (h1 : gm_hs m P a b) (h2 : gm_hs m P a c) : b = c := by
  have k1 := h1.2.2.2 c h2.2.1
  have k2 := h2.2.2.2 b h1.2.1
  have fl := gm_cr_flip (P a) (P b) (P c)
  have o1 := k1.2 (by omega)
  have o2 := k2.2 (by omega)
  obtain ⟨-, x1, x2⟩ := o1
  obtain ⟨-, y1, y2⟩ := o2
  exact inj b c h1.2.1 h2.2.1 (Prod.ext (by omega) (by omega))
theorem gm_hs_up {m : Nat} {P : Nat → Pt} (inj : ∀ a b, a < m → b < m → P a = P b → a = b) {a b c : Nat} (h1 : gm_hs m P a c) (h2 : gm_hs m P b c) : a = b := by
  have k1 := h1.2.2.2 b h2.1
  have k2 := h2.2.2.2 a h1.1
  have fl : gm_cr (P b) (P c) (P a) = - gm_cr (P a) (P c) (P b) := gm_cr_rot _ _ _
  have o1 := k1.2 (by omega)
  have o2 := k2.2 (by omega)
  obtain ⟨-, x1, x2⟩ := o1
  obtain ⟨-, y1, y2⟩ := o2
  exact inj a b h1.1 h2.1 (Prod.ext (by omega) (by omega))
theorem gm_nice_low {m : Nat} {P : Nat → Pt} (hp : ∀ k, k < m → gm_paper (P k)) {f : Nat} (hf : f < m) (h : ∀ k, k < m → k ≠ f → (P f).2 < (P k).2 ∨ ((P f).2 = (P k).2 ∧ (P f).1 < (P k).1)) : gm_nice m P f := by
  refine ⟨1, 16, fun k hk hne => ?_⟩
  have h1 := h k hk hne
  have h2 := hp k hk
  have h3 := hp f hf
  unfold gm_paper at h2 h3
  omega
theorem gm_nice_next {m : Nat} {P : Nat → Pt} (hp : ∀ k, k < m → gm_paper (P k)) (inj : ∀ a b, a < m → b < m → P a = P b → a = b) {u y : Nat} (h : gm_hs m P u y) : gm_nice m P y := by
  obtain ⟨hu, hy, huy, hall⟩ := h
  refine ⟨-(1000 * ((P y).2 - (P u).2)) - ((P y).1 - (P u).1), 1000 * ((P y).1 - (P u).1) - ((P y).2 - (P u).2), fun k hk hne => ?_⟩
  obtain ⟨c1, c2⟩ := hall k hk
  have pu := hp u hu
  have py := hp y hy
  have pk := hp k hk
  unfold gm_paper at pu py pk
  have e : (-(1000 * ((P y).2 - (P u).2)) - ((P y).1 - (P u).1)) * ((P k).1 - (P y).1) + (1000 * ((P y).1 - (P u).1) - ((P y).2 - (P u).2)) * ((P k).2 - (P y).2) =
      1000 * gm_cr (P u) (P y) (P k) - (gm_dt (P u) (P y) (P k) - gm_dt (P u) (P y) (P y)) := by unfold gm_cr gm_dt; grind
  rw [e]
  by_cases z : gm_cr (P u) (P y) (P k) = 0
  · have on := c2 z
    have nky : P k ≠ P y := fun q => hne (inj k y hk hy q)
    by_cases ku : P k = P u
    · have : gm_dt (P u) (P y) (P k) = 0 := by rw [ku]; unfold gm_dt; simp
      have w0 : 0 < gm_dt (P u) (P y) (P y) := gm_sq_pos (gm_ne (fun q => huy (inj u y hu hy q)))
      omega
    · have := gm_strict on ku nky
      omega
  · have bd : ∀ a b : Int, -15 ≤ a → a ≤ 15 → -15 ≤ b → b ≤ 15 → a * b ≤ 225 := by
      intro a b h1 h2 h3 h4
      rcases Int.le_total 0 a with ha | ha
      · have k1 := Int.mul_le_mul_of_nonneg_left h4 ha
        omega
      · have k1 := Int.mul_le_mul_of_nonpos_left ha h3
        omega
    have b1 := bd ((P y).1 - (P u).1) ((P k).1 - (P y).1) (by omega) (by omega) (by omega) (by omega)
    have b2 := bd ((P y).2 - (P u).2) ((P k).2 - (P y).2) (by omega) (by omega) (by omega) (by omega)
    have b3 : gm_dt (P u) (P y) (P k) - gm_dt (P u) (P y) (P y) = ((P y).1 - (P u).1) * ((P k).1 - (P y).1) + ((P y).2 - (P u).2) * ((P k).2 - (P y).2) := by unfold gm_dt; grind
    omega
/-- a corner of the hull that lies no higher than its neighbors on it is the lowest -/
theorem gm_cone {m : Nat} {P : Nat → Pt} (hp : ∀ k, k < m → gm_paper (P k)) (inj : ∀ a b, a < m → b < m → P a = P b → a = b) {u v w : Nat} (h1 : gm_hs m P u v) (h2 : gm_hs m P v w)
    (lu : (P v).2 < (P u).2 ∨ ((P v).2 = (P u).2 ∧ (P v).1 < (P u).1)) (lw : (P v).2 < (P w).2 ∨ ((P v).2 = (P w).2 ∧ (P v).1 < (P w).1)) :
    ∀ k, k < m → k ≠ v → (P v).2 < (P k).2 ∨ ((P v).2 = (P k).2 ∧ (P v).1 < (P k).1) := by
  intro k hk hne
  refine Classical.byContradiction (fun hn => ?_)
  have nk : P k ≠ P v := fun q => hne (inj k v hk h1.2.1 q)
  have nk' : ¬ ((P k).1 = (P v).1 ∧ (P k).2 = (P v).2) := fun q => nk (Prod.ext q.1 q.2)
  have pu := hp u h1.1
  have pv := hp v h1.2.1
  have pw := hp w h2.2.1
  have pk := hp k hk
  unfold gm_paper at pu pv pw pk
  have gU : 0 < 1 * ((P u).1 - (P v).1) + 16 * ((P u).2 - (P v).2) := by omega
  have gW : 0 < 1 * ((P w).1 - (P v).1) + 16 * ((P w).2 - (P v).2) := by omega
  have gK : 1 * ((P k).1 - (P v).1) + 16 * ((P k).2 - (P v).2) < 0 := by omega
  have c1 := (h1.2.2.2 k hk).1
  have c2 := h2.2.2.2 k hk
  have c3 := (h2.2.2.2 u h1.1).1
  have e1 : gm_cr (P u) (P v) (P k) = gm_cr (P v) (P k) (P u) := by unfold gm_cr; grind
  have pl := gm_plu 1 16 (P v) (P w) (P k) (P u)
  -- cr v w u * g(k) = cr v w k * g(u) + cr v k u * g(w)
  have a1 : gm_cr (P v) (P w) (P u) * (1 * ((P k).1 - (P v).1) + 16 * ((P k).2 - (P v).2)) ≤ 0 := Int.mul_nonpos_of_nonneg_of_nonpos c3 (Int.le_of_lt gK)
  have a2 : 0 ≤ gm_cr (P v) (P w) (P k) * (1 * ((P u).1 - (P v).1) + 16 * ((P u).2 - (P v).2)) := Int.mul_nonneg c2.1 (Int.le_of_lt gU)
  have a3 : 0 ≤ gm_cr (P v) (P k) (P u) * (1 * ((P w).1 - (P v).1) + 16 * ((P w).2 - (P v).2)) := Int.mul_nonneg (by omega) (Int.le_of_lt gW)
  have z : gm_cr (P v) (P w) (P k) = 0 := by
    have : gm_cr (P v) (P w) (P k) * (1 * ((P u).1 - (P v).1) + 16 * ((P u).2 - (P v).2)) = 0 := by omega
    rcases Int.mul_eq_zero.mp this with q | q
    · exact q
    · omega
  have on := c2.2 z
  obtain ⟨-, x1, x2⟩ := on
  have k2 : (P k).2 - (P v).2 = 0 := by omega
  unfold gm_cr at z
  rw [k2, Int.mul_zero] at z
  have z : ((P w).2 - (P v).2) * ((P k).1 - (P v).1) = 0 := by omega
  rcases Int.mul_eq_zero.mp z with q | q <;> omega
def gm_it (σ : Nat → Nat) (x : Nat) : Nat → Nat
  | 0 => x
  | i + 1 => σ (gm_it σ x i)
theorem gm_it_add (σ : Nat → Nat) (x i j : Nat) : gm_it σ (gm_it σ x i) j = gm_it σ x (i + j) := by
  induction j with
  | zero => rfl
  | succ j ih => show σ (gm_it σ (gm_it σ x i) j) = σ (gm_it σ x (i + j)); rw [ih]
theorem gm_php {L m : Nat} {a : Nat → Nat} (h1 : ∀ i, i < L → a i < m) (h2 : ∀ i j, i < L → j < L → a i = a j → i = j) : L ≤ m := by
  have e1 : gm_sum L (fun i => gm_sum m (fun k => if k = a i then (1 : Int) else 0)) = L := by
    rw [gm_sum_congr (g := fun _ => (1 : Int)) (fun i hi => by rw [gm_sum_one (h1 i hi) (fun k hk hne => if_neg hne), if_pos rfl]), gm_sum_const]
    omega
  rw [gm_sum_swap] at e1
  have e2 := gm_sum_le (n := m) (f := fun k => gm_sum L (fun i => if k = a i then (1 : Int) else 0)) (g := fun _ => 1) (fun k hk => by
    by_cases hex : ∃ i, i < L ∧ k = a i
    · obtain ⟨i, hi, e⟩ := hex
      rw [gm_sum_one hi (fun j hj hne => if_neg (fun q => hne (h2 j i hj hi (q.symm.trans e)))), if_pos e]
      omega
    · rw [gm_sum_zero (fun i hi => if_neg (fun q => hex ⟨i, hi, q⟩))]
      omega)
  rw [gm_sum_const] at e2
  omega
theorem gm_least {p : Nat → Prop} {L : Nat} (h : p L) : ∃ K, K ≤ L ∧ p K ∧ ∀ j, j < K → ¬ p j := by
  induction L using Nat.strongRecOn with
  | ind L ih =>
    by_cases c : ∃ j, j < L ∧ p j
    · obtain ⟨j, hj, pj⟩ := c
      obtain ⟨K, h1, h2, h3⟩ := ih j hj pj
      exact ⟨K, by omega, h2, h3⟩
    · exact ⟨L, Nat.le_refl L, h, fun j hj pj => c ⟨j, hj, pj⟩⟩
/-- a step that never leads two ways to one place comes back -/
theorem gm_cycle {m : Nat} {σ : Nat → Nat} {S : Nat → Prop} (h1 : ∀ x, S x → x < m ∧ S (σ x)) (h2 : ∀ x y, S x → S y → σ x = σ y → x = y) {x : Nat} (hx : S x) :
    ∃ L, 1 ≤ L ∧ L ≤ m ∧ gm_it σ x L = x ∧ ∀ i j, i < L → j < L → gm_it σ x i = gm_it σ x j → i = j := by
  have hS : ∀ i, S (gm_it σ x i) := by
    intro i
    induction i with
    | zero => exact hx
    | succ i ih => exact (h1 _ ih).2
  have back : ∀ i d, gm_it σ x (i + d) = gm_it σ x i → gm_it σ x d = x := by
    intro i
    induction i with
    | zero => intro d h; rw [Nat.zero_add] at h; exact h
    | succ i ih =>
      intro d h
      refine ih d (h2 _ _ (hS _) (hS _) ?_)
      rw [show i + 1 + d = (i + d) + 1 by omega] at h
      exact h
  have hex : ∃ i j, i < j ∧ j ≤ m ∧ gm_it σ x i = gm_it σ x j := by
    refine Classical.byContradiction (fun hn => ?_)
    have := gm_php (L := m + 1) (m := m) (a := gm_it σ x) (fun i _ => (h1 _ (hS i)).1) (fun i j hi hj e => by
      rcases Nat.lt_trichotomy i j with c | c | c
      · exact absurd ⟨i, j, c, by omega, e⟩ hn
      · exact c
      · exact absurd ⟨j, i, c, by omega, e.symm⟩ hn)
    omega
  obtain ⟨i, j, hij, hj, e⟩ := hex
  have hL : 1 ≤ j - i ∧ gm_it σ x (j - i) = x := ⟨by omega, back i (j - i) (by rw [show i + (j - i) = j by omega]; exact e.symm)⟩
  obtain ⟨K, k1, k2, k3⟩ := gm_least (p := fun L => 1 ≤ L ∧ gm_it σ x L = x) hL
  refine ⟨K, k2.1, by omega, k2.2, fun a b ha hb hab => ?_⟩
  rcases Nat.lt_trichotomy a b with c | c | c
  · exact absurd ⟨by omega, back a (b - a) (by rw [show a + (b - a) = b by omega]; exact hab.symm)⟩ (k3 (b - a) (by omega))
  · exact c
  · exact absurd ⟨by omega, back b (a - b) (by rw [show b + (a - b) = a by omega]; exact hab)⟩ (k3 (a - b) (by omega))
def gm_pr (P : Nat → Pt) (a b : Nat) : Int := (P a).1 * (P b).2 - (P b).1 * (P a).2
/-- the next corner of the hull, as the second class finds it -/
def gm_to (m : Nat) (P : Nat → Pt) (x : Nat) : Nat := gm_toF P x m (gm_nx m x)
theorem gm_hull {m : Nat} {P : Nat → Pt} (hm : 3 ≤ m) (hp : ∀ k, k < m → gm_paper (P k)) (inj : ∀ a b, a < m → b < m → P a = P b → a = b) {f : Nat} (hf : f < m)
    (low : ∀ k, k < m → k ≠ f → (P f).2 < (P k).2 ∨ ((P f).2 = (P k).2 ∧ (P f).1 < (P k).1)) (I : Nat → Nat → Int)
    (hI1 : ∀ a b, gm_hs m P a b → I a b = gm_pr P a b) (hI0 : ∀ a b, a < m → b < m → ¬ gm_hs m P a b → I a b = 0) :
    ∃ L, 1 ≤ L ∧ L ≤ m ∧ gm_it (gm_to m P) f L = f ∧ (∀ i, 0 < i → i < L → gm_it (gm_to m P) f i ≠ f) ∧ (∀ i, gm_it (gm_to m P) f i < m) ∧
      gm_sum m (fun a => gm_sum m (fun b => I a b)) = gm_sum L (fun i => gm_pr P (gm_it (gm_to m P) f i) (gm_it (gm_to m P) f (i + 1))) ∧
      0 ≤ gm_sum L (fun i => gm_pr P (gm_it (gm_to m P) f i) (gm_it (gm_to m P) f (i + 1))) := by
  have step : ∀ x, x < m ∧ gm_nice m P x → gm_hs m P x (gm_to m P x) := fun x hx => gm_to_hs hx.2 hx.1 (gm_nx_lt hx.1) (gm_nx_ne hm hx.1).1
  have cl : ∀ x, (x < m ∧ gm_nice m P x) → x < m ∧ (gm_to m P x < m ∧ gm_nice m P (gm_to m P x)) := fun x hx => ⟨hx.1, (step x hx).2.1, gm_nice_next hp inj (step x hx)⟩
  have ij : ∀ x y, (x < m ∧ gm_nice m P x) → (y < m ∧ gm_nice m P y) → gm_to m P x = gm_to m P y → x = y := fun x y hx hy e => gm_hs_up inj (step x hx) (by rw [e]; exact step y hy)
  have hfS : f < m ∧ gm_nice m P f := ⟨hf, gm_nice_low hp hf low⟩
  have itS : ∀ x, (x < m ∧ gm_nice m P x) → ∀ i, gm_it (gm_to m P) x i < m ∧ gm_nice m P (gm_it (gm_to m P) x i) := by
    intro x hx i
    induction i with
    | zero => exact hx
    | succ i ih => exact (cl _ ih).2
  obtain ⟨L, l1, l2, l3, l4⟩ := gm_cycle (S := fun x => x < m ∧ gm_nice m P x) cl ij hfS
  have redu : ∀ t, ∃ i, i < L ∧ gm_it (gm_to m P) f t = gm_it (gm_to m P) f i := by
    intro t
    induction t with
    | zero => exact ⟨0, by omega, rfl⟩
    | succ t ih =>
      obtain ⟨i, hi, e⟩ := ih
      have e2 : gm_it (gm_to m P) f (t + 1) = gm_it (gm_to m P) f (i + 1) := by
        show gm_to m P (gm_it (gm_to m P) f t) = gm_to m P (gm_it (gm_to m P) f i)
        rw [e]
      by_cases c : i + 1 < L
      · exact ⟨i + 1, c, e2⟩
      · exact ⟨0, by omega, by rw [e2, show i + 1 = L by omega, l3]; rfl⟩
  -- each side of the hull begins on the way from f
  have onway : ∀ a b, gm_hs m P a b → ∃ i, i < L ∧ a = gm_it (gm_to m P) f i := by
    intro a b hab
    have hb : b < m ∧ gm_nice m P b := ⟨hab.2.1, gm_nice_next hp inj hab⟩
    obtain ⟨K, k1, k2, k3, k4⟩ := gm_cycle (S := fun x => x < m ∧ gm_nice m P x) cl ij hb
    have pre : gm_it (gm_to m P) b (K - 1) = a := by
      have := step _ (itS b hb (K - 1))
      have e : gm_to m P (gm_it (gm_to m P) b (K - 1)) = b := by
        have : gm_it (gm_to m P) b (K - 1 + 1) = b := by rw [show K - 1 + 1 = K by omega]; exact k3
        exact this
      rw [e] at this
      exact gm_hs_up inj this hab
    -- the lowest of the way from b, of several the one most to the left
    have lowest : ∀ T, 0 < T → ∃ i, i < T ∧ ∀ j, j < T → (P (gm_it (gm_to m P) b i)).2 < (P (gm_it (gm_to m P) b j)).2 ∨ ((P (gm_it (gm_to m P) b i)).2 = (P (gm_it (gm_to m P) b j)).2 ∧ (P (gm_it (gm_to m P) b i)).1 ≤ (P (gm_it (gm_to m P) b j)).1) := by
      intro T hT
      obtain ⟨i, hi, h⟩ := gm_lowest (fun j => (-(P (gm_it (gm_to m P) b j)).1, (P (gm_it (gm_to m P) b j)).2)) T hT
      refine ⟨i, hi, fun j hj => ?_⟩
      have := h j hj
      dsimp only at this
      omega
    obtain ⟨i, hi, hlow⟩ := lowest K (by omega)
    -- its neighbors on the way
    obtain ⟨j, hj, hji⟩ : ∃ j, j < K ∧ gm_to m P (gm_it (gm_to m P) b j) = gm_it (gm_to m P) b i := by
      by_cases i0 : i = 0
      · refine ⟨K - 1, by omega, ?_⟩
        rw [i0]
        have : gm_it (gm_to m P) b (K - 1 + 1) = b := by rw [show K - 1 + 1 = K by omega]; exact k3
        exact this
      · refine ⟨i - 1, by omega, ?_⟩
        have : gm_it (gm_to m P) b (i - 1 + 1) = gm_it (gm_to m P) b i := by rw [show i - 1 + 1 = i by omega]
        exact this
    obtain ⟨j2, hj2, hji2⟩ : ∃ j2, j2 < K ∧ gm_to m P (gm_it (gm_to m P) b i) = gm_it (gm_to m P) b j2 := by
      by_cases c : i + 1 < K
      · exact ⟨i + 1, c, rfl⟩
      · refine ⟨0, by omega, ?_⟩
        have : gm_it (gm_to m P) b (i + 1) = b := by rw [show i + 1 = K by omega]; exact k3
        exact this
    have s1 : gm_hs m P (gm_it (gm_to m P) b j) (gm_it (gm_to m P) b i) := by rw [← hji]; exact step _ (itS b hb j)
    have s2 : gm_hs m P (gm_it (gm_to m P) b i) (gm_it (gm_to m P) b j2) := by rw [← hji2]; exact step _ (itS b hb i)
    have d1 : ¬ ((P (gm_it (gm_to m P) b i)).1 = (P (gm_it (gm_to m P) b j)).1 ∧ (P (gm_it (gm_to m P) b i)).2 = (P (gm_it (gm_to m P) b j)).2) := fun q => s1.2.2.1 (inj _ _ s1.1 s1.2.1 (Prod.ext q.1.symm q.2.symm))
    have d2 : ¬ ((P (gm_it (gm_to m P) b i)).1 = (P (gm_it (gm_to m P) b j2)).1 ∧ (P (gm_it (gm_to m P) b i)).2 = (P (gm_it (gm_to m P) b j2)).2) := fun q => s2.2.2.1 (inj _ _ s2.1 s2.2.1 (Prod.ext q.1 q.2))
    have cone := gm_cone hp inj s1 s2 (by have := hlow j hj; omega) (by have := hlow j2 hj2; omega)
    have fi : f = gm_it (gm_to m P) b i := by
      refine Classical.byContradiction (fun q => ?_)
      have q1 := cone f hf q
      have q2 := low _ s2.1 (fun z => q z.symm)
      omega
    obtain ⟨i', hi', e'⟩ := redu (K - 1 - i)
    refine ⟨i', hi', ?_⟩
    rw [← e', fi, gm_it_add, show i + (K - 1 - i) = K - 1 by omega]
    exact pre.symm
  have row : ∀ i, gm_sum m (fun b => I (gm_it (gm_to m P) f i) b) = gm_pr P (gm_it (gm_to m P) f i) (gm_it (gm_to m P) f (i + 1)) := by
    intro i
    have s := step _ (itS f hfS i)
    rw [gm_sum_one s.2.1 (fun b hb hne => hI0 _ b s.1 hb (fun q => hne (gm_hs_un inj q s)))]
    exact hI1 _ _ s
  refine ⟨L, l1, l2, l3, fun i h0 hi e => ?_, fun i => (itS f hfS i).1, ?_, ?_⟩
  · have := l4 i 0 hi (by omega) e
    omega
  · have pt : ∀ a, a < m → gm_sum m (fun b => I a b) = gm_sum L (fun i => if a = gm_it (gm_to m P) f i then gm_sum m (fun b => I a b) else 0) := by
      intro a ha
      by_cases hex : ∃ i, i < L ∧ a = gm_it (gm_to m P) f i
      · obtain ⟨i, hi, e⟩ := hex
        rw [gm_sum_one hi (fun j hj hne => if_neg (fun q => hne (l4 j i hj hi (q.symm.trans e)))), if_pos e]
      · rw [gm_sum_zero (f := fun i => if a = gm_it (gm_to m P) f i then gm_sum m (fun b => I a b) else 0) (fun i hi => if_neg (fun q => hex ⟨i, hi, q⟩))]
        exact gm_sum_zero (fun b hb => hI0 a b ha hb (fun q => hex (onway a b q)))
    rw [gm_sum_congr (fun a ha => pt a ha), gm_sum_swap]
    refine gm_sum_congr (fun i hi => ?_)
    rw [gm_sum_one (itS f hfS i).1 (fun a ha hne => if_neg hne), if_pos rfl]
    exact row i
  · have e : gm_sum L (fun i => gm_pr P (gm_it (gm_to m P) f i) (gm_it (gm_to m P) f (i + 1))) = gm_sum L (fun i => gm_cr (P (gm_it (gm_to m P) f i)) (P (gm_it (gm_to m P) f (i + 1))) (P f)) := by
      have z := gm_sum_tele L (fun i => gm_pr P f (gm_it (gm_to m P) f i))
      rw [l3] at z
      have z0 : gm_pr P f f - gm_pr P f (gm_it (gm_to m P) f 0) = 0 := by show gm_pr P f f - gm_pr P f f = 0; omega
      rw [z0] at z
      rw [← Int.add_zero (gm_sum L (fun i => gm_cr _ _ _)), ← z, ← gm_sum_add]
      refine gm_sum_congr (fun i hi => ?_)
      unfold gm_pr gm_cr
      grind
    rw [e]
    exact gm_sum_nonneg (fun i hi => ((step _ (itS f hfS i)).2.2.2 f hf).1)
