/-! numbers of the machine as whole numbers; loops -/
def iZ (z : Int) : Int32 := Int32.ofInt z
theorem iZ_add (a b : Int) : iZ a + iZ b = iZ (a + b) := (Int32.ofInt_add a b).symm
theorem iZ_sub (a b : Int) : iZ a - iZ b = iZ (a - b) := (Int32.ofInt_sub a b).symm
theorem iZ_mul (a b : Int) : iZ a * iZ b = iZ (a * b) := (Int32.ofInt_mul a b).symm
theorem iZ_neg (a : Int) : - iZ a = iZ (-a) := (Int32.ofInt_neg a).symm
theorem iZ_0 : (0 : Int32) = iZ 0 := rfl
theorem iZ_1 : (1 : Int32) = iZ 1 := rfl
theorem iZ_2 : (2 : Int32) = iZ 2 := rfl
theorem iZ_3 : (3 : Int32) = iZ 3 := rfl
theorem iZ_4 : (4 : Int32) = iZ 4 := rfl
theorem iZ_5 : (5 : Int32) = iZ 5 := rfl
theorem iZ_9 : (9 : Int32) = iZ 9 := rfl
theorem iZ_10 : (10 : Int32) = iZ 10 := rfl
theorem iZ_14 : (14 : Int32) = iZ 14 := rfl
theorem iZ_15 : (15 : Int32) = iZ 15 := rfl
theorem iZ_20 : (20 : Int32) = iZ 20 := rfl
theorem iZ_40 : (40 : Int32) = iZ 40 := rfl
theorem iZ_85 : (85 : Int32) = iZ 85 := rfl
theorem iZ_toInt {z : Int} (h1 : -2147483648 ≤ z) (h2 : z < 2147483648) : (iZ z).toInt = z := Int32.toInt_ofInt_of_le h1 h2
theorem iZ_le {a b : Int} (h1 : -2147483648 ≤ a) (h2 : a < 2147483648) (h3 : -2147483648 ≤ b) (h4 : b < 2147483648) : (iZ a ≤ iZ b) = (a ≤ b) := by
  rw [Int32.le_iff_toInt_le, iZ_toInt h1 h2, iZ_toInt h3 h4]
theorem iZ_lt {a b : Int} (h1 : -2147483648 ≤ a) (h2 : a < 2147483648) (h3 : -2147483648 ≤ b) (h4 : b < 2147483648) : (iZ a < iZ b) = (a < b) := by
  rw [Int32.lt_iff_toInt_lt, iZ_toInt h1 h2, iZ_toInt h3 h4]
theorem iZ_eq {a b : Int} (h1 : -2147483648 ≤ a) (h2 : a < 2147483648) (h3 : -2147483648 ≤ b) (h4 : b < 2147483648) : (iZ a = iZ b) = (a = b) := by
  rw [← Int32.toInt_inj, iZ_toInt h1 h2, iZ_toInt h3 h4]
theorem ite_le {α : Type} {a b : Int} {x y : α} {i : Decidable (iZ a ≤ iZ b)} (h : -2147483648 ≤ a ∧ a < 2147483648 ∧ -2147483648 ≤ b ∧ b < 2147483648) : @ite α (iZ a ≤ iZ b) i x y = if a ≤ b then x else y := by
  have e := iZ_le h.1 h.2.1 h.2.2.1 h.2.2.2
  by_cases c : a ≤ b
  · rw [if_pos c, if_pos (by rw [e]; exact c)]
  · rw [if_neg c, if_neg (by rw [e]; exact c)]
theorem ite_lt {α : Type} {a b : Int} {x y : α} {i : Decidable (iZ a < iZ b)} (h : -2147483648 ≤ a ∧ a < 2147483648 ∧ -2147483648 ≤ b ∧ b < 2147483648) : @ite α (iZ a < iZ b) i x y = if a < b then x else y := by
  have e := iZ_lt h.1 h.2.1 h.2.2.1 h.2.2.2
  by_cases c : a < b
  · rw [if_pos c, if_pos (by rw [e]; exact c)]
  · rw [if_neg c, if_neg (by rw [e]; exact c)]
theorem ite_eq {α : Type} {a b : Int} {x y : α} {i : Decidable (iZ a = iZ b)} (h : -2147483648 ≤ a ∧ a < 2147483648 ∧ -2147483648 ≤ b ∧ b < 2147483648) : @ite α (iZ a = iZ b) i x y = if a = b then x else y := by
  have e := iZ_eq h.1 h.2.1 h.2.2.1 h.2.2.2
  by_cases c : a = b
  · rw [if_pos c, if_pos (by rw [e]; exact c)]
  · rw [if_neg c, if_neg (by rw [e]; exact c)]
/-- each number of the machine is one -/
theorem iZ_all (x : Int32) : ∃ z : Int, -2147483648 ≤ z ∧ z < 2147483648 ∧ x = iZ z := ⟨x.toInt, Int32.le_toInt x, Int32.toInt_lt x, (Int32.ofInt_toInt x).symm⟩
theorem iZ_clamp {k : Nat} (h : k < 2147483648) : (iZ (k : Int)).toNatClampNeg = k := by
  unfold iZ
  rw [Int32.toNatClampNeg_ofInt_of_le (by omega) (by omega)]
  exact Int.toNat_natCast k
theorem rd_iZ {n k : Nat} {f : Nat → Int32} (h : k < n) (hn : n < 100000) : rd n f (iZ (k : Int)) = some (f k) := by
  unfold rd
  rw [iZ_clamp (by omega), if_neg]
  intro q
  rcases q with q | q
  · rw [iZ_0, iZ_lt (by omega) (by omega) (by omega) (by omega)] at q
    omega
  · omega
theorem wr_iZ {n k : Nat} {f : Nat → Int32} {x : Int32} (h : k < n) (hn : n < 100000) : wr n f (iZ (k : Int)) x = some (upd f k x) := by
  unfold wr
  rw [iZ_clamp (by omega), if_neg]
  intro q
  rcases q with q | q
  · rw [iZ_0, iZ_lt (by omega) (by omega) (by omega) (by omega)] at q
    omega
  · omega
theorem upd_same (f : Nat → Int32) (k : Nat) (x : Int32) : upd f k x k = x := if_pos rfl
theorem upd_ne {f : Nat → Int32} {k j : Nat} {x : Int32} (h : j ≠ k) : upd f k x j = f j := if_neg h
/-- a loop that looks for something -/
theorem lp_ex {R : Type} {L : Nat → Int32 → Option R} {N : Nat} {T : Nat → Prop} {r1 r0 : Option R}
    (h1 : ∀ n c, c < N → T c → L (n + 1) (iZ (c : Int)) = r1) (h2 : ∀ n c, c < N → ¬ T c → L (n + 1) (iZ (c : Int)) = L n (iZ ((c : Int) + 1))) (h0 : ∀ n, L (n + 1) (iZ (N : Int)) = r0) :
    ∀ (d lo fu : Nat), lo + d = N → d < fu → ((∃ c, lo ≤ c ∧ c < N ∧ T c) ∧ L fu (iZ (lo : Int)) = r1) ∨ ((∀ c, lo ≤ c → c < N → ¬ T c) ∧ L fu (iZ (lo : Int)) = r0) := by
  intro d
  induction d with
  | zero =>
    intro lo fu h hf
    obtain ⟨n, rfl⟩ : ∃ n, fu = n + 1 := ⟨fu - 1, by omega⟩
    right
    refine ⟨fun c a b => by omega, ?_⟩
    rw [show lo = N by omega]
    exact h0 n
  | succ d ih =>
    intro lo fu h hf
    obtain ⟨n, rfl⟩ : ∃ n, fu = n + 1 := ⟨fu - 1, by omega⟩
    by_cases t : T lo
    · left
      exact ⟨⟨lo, Nat.le_refl lo, by omega, t⟩, h1 n lo (by omega) t⟩
    · rw [h2 n lo (by omega) t]
      have := ih (lo + 1) n (by omega) (by omega)
      rw [show (((lo + 1 : Nat)) : Int) = (lo : Int) + 1 by omega] at this
      rcases this with ⟨⟨c, c1, c2, c3⟩, e⟩ | ⟨a, e⟩
      · exact Or.inl ⟨⟨c, by omega, c2, c3⟩, e⟩
      · refine Or.inr ⟨fun c c1 c2 => ?_, e⟩
        by_cases q : c = lo
        · rw [q]; exact t
        · exact a c (by omega) c2
/-- a loop that adds up -/
theorem lp_sum {R : Type} {L : Nat → Int32 → Int32 → Option R} {N : Nat} {g : Nat → Int} {K : Int → Option R}
    (h1 : ∀ n c a, c < N → L (n + 1) (iZ (c : Int)) (iZ a) = L n (iZ ((c : Int) + 1)) (iZ (a + g c))) (h0 : ∀ n a, L (n + 1) (iZ (N : Int)) (iZ a) = K a) :
    ∀ (d lo fu : Nat) (a : Int), lo + d = N → d < fu → L fu (iZ (lo : Int)) (iZ a) = K (a + gm_sum d (fun k => g (lo + k))) := by
  intro d
  induction d with
  | zero =>
    intro lo fu a h hf
    obtain ⟨n, rfl⟩ : ∃ n, fu = n + 1 := ⟨fu - 1, by omega⟩
    rw [show lo = N by omega, h0]
    exact congrArg K (Int.add_zero a).symm
  | succ d ih =>
    intro lo fu a h hf
    obtain ⟨n, rfl⟩ : ∃ n, fu = n + 1 := ⟨fu - 1, by omega⟩
    rw [h1 n lo a (by omega)]
    have := ih (lo + 1) n (a + g lo) (by omega) (by omega)
    rw [show (((lo + 1 : Nat)) : Int) = (lo : Int) + 1 by omega] at this
    rw [this, gm_sum_shift]
    refine congrArg K ?_
    rw [gm_sum_congr (f := fun k => g (lo + 1 + k)) (g := fun k => g (lo + (k + 1))) (fun k _ => by rw [show lo + 1 + k = lo + (k + 1) by omega])]
    show a + g lo + _ = a + (g (lo + 0) + _)
    rw [Nat.add_zero]; omega
/-- a loop that carries a state, told by an invariant -/
theorem lp_inv {S R : Type} {L : Nat → S → Int32 → Option R} {N : Nat} {I : Nat → S → Prop} {K : S → Option R}
    (h1 : ∀ n c s, c < N → I c s → ∃ s', I (c + 1) s' ∧ L (n + 1) s (iZ (c : Int)) = L n s' (iZ ((c : Int) + 1))) (h0 : ∀ n s, I N s → L (n + 1) s (iZ (N : Int)) = K s) :
    ∀ (d lo fu : Nat) (s : S), lo + d = N → d < fu → I lo s → ∃ s', I N s' ∧ L fu s (iZ (lo : Int)) = K s' := by
  intro d
  induction d with
  | zero =>
    intro lo fu s h hf hI
    obtain ⟨n, rfl⟩ : ∃ n, fu = n + 1 := ⟨fu - 1, by omega⟩
    have e : lo = N := by omega
    rw [e] at hI ⊢
    exact ⟨s, hI, h0 n s hI⟩
  | succ d ih =>
    intro lo fu s h hf hI
    obtain ⟨n, rfl⟩ : ∃ n, fu = n + 1 := ⟨fu - 1, by omega⟩
    obtain ⟨s', i1, e1⟩ := h1 n lo s (by omega) hI
    obtain ⟨s'', i2, e2⟩ := ih (lo + 1) n s' (by omega) (by omega) i1
    rw [show (((lo + 1 : Nat)) : Int) = (lo : Int) + 1 by omega] at e2
    exact ⟨s'', i2, e1.trans e2⟩
/-! the first class: what a figure's cells hold -/
def RF (f : Fig) (M : Nat → Nat) (n : Nat) (Q : Nat → Pt) : Prop := f_rings f = iZ n ∧ f_corners f = iZ (gm_fst M n : Nat) ∧ n ≤ 4 ∧ (∀ r, r < n → M r ≤ 10) ∧ (∀ r, r < n → f_sizes f r = iZ (M r : Nat)) ∧
  (∀ c, c < gm_fst M n → f_xs f c = iZ (Q c).1 ∧ f_ys f c = iZ (Q c).2) ∧ (∀ c, c < gm_fst M n → f_next f c = iZ (gm_nf M n c : Nat))
theorem gm_fst_40 {M : Nat → Nat} {n : Nat} (h4 : n ≤ 4) (h : ∀ r, r < n → M r ≤ 10) : gm_fst M n ≤ 40 := by
  have : gm_fst M n ≤ 10 * n := by
    clear h4
    induction n with
    | zero => exact Nat.le_refl 0
    | succ n ih =>
      have a := ih (fun r hr => h r (by omega))
      have b := h n (by omega)
      show gm_fst M n + M n ≤ 10 * (n + 1)
      omega
  omega
theorem RF.n40 {f : Fig} {M : Nat → Nat} {n : Nat} {Q : Nat → Pt} (h : RF f M n Q) : gm_fst M n ≤ 40 := gm_fst_40 h.2.2.1 h.2.2.2.1
section CLASS
variable {f : Fig} {M : Nat → Nat} {n : Nat} {Q : Nat → Pt}
theorem s_hasRing (h : RF f M n Q) (z : Int) (h1 : -2147483648 ≤ z) (h2 : z < 2147483648) : G_X1_hasRing f (iZ z) = some (iZ (if 0 ≤ z ∧ z < n then 1 else 0)) := by
  have h4 := h.2.2.1
  unfold G_X1_hasRing
  rw [h.1, iZ_0, ite_lt (by omega), ite_le (by omega)]
  (repeat' split) <;> first | rfl | omega
theorem s_sizeOf (h : RF f M n Q) {r : Nat} (hr : r < n) : G_X1_sizeOf f (iZ (r : Int)) = some (iZ (M r : Nat)) := by
  have h4 := h.2.2.1
  unfold G_X1_sizeOf
  rw [h.1, iZ_0, ite_lt (by omega), if_neg (show ¬ (r : Int) < 0 by omega), ite_le (by omega), if_neg (show ¬ (n : Int) ≤ (r : Int) by omega), rd_iZ (by omega) (by omega), h.2.2.2.2.1 r hr]
  rfl
theorem s_hasCorner (h : RF f M n Q) (z w : Int) (h1 : -2147483648 ≤ z) (h2 : z < 2147483648) (h3 : -2147483648 ≤ w) (h4 : w < 2147483648) :
    G_X1_hasCorner f (iZ z) (iZ w) = some (iZ (if 0 ≤ z ∧ z < n ∧ 0 ≤ w ∧ w < M z.toNat then 1 else 0)) := by
  have hn4 := h.2.2.1
  unfold G_X1_hasCorner
  rw [s_hasRing h _ h1 h2]
  by_cases c : 0 ≤ z ∧ z < n
  · rw [if_pos c, Option.bind_some, iZ_0, ite_eq (by omega), if_neg (by omega), ite_lt (by omega)]
    by_cases c2 : w < 0
    · rw [if_pos c2, if_neg (by omega)]
    · obtain ⟨r, rfl⟩ : ∃ r : Nat, z = r := ⟨z.toNat, by omega⟩
      have hM := h.2.2.2.1 r (by omega)
      rw [if_neg c2, rd_iZ (by omega) (by omega), Option.bind_some, h.2.2.2.2.1 r (by omega), ite_le (by omega), Int.toNat_natCast]
      (repeat' split) <;> first | rfl | omega
  · rw [if_neg c, Option.bind_some, iZ_0, if_pos rfl, if_neg (by omega)]
theorem s_firstOf (h : RF f M n Q) {r : Nat} (hr : r ≤ n) : G_X1_firstOf f (iZ (r : Int)) = some (iZ (gm_fst M r : Nat)) := by
  have h4 := h.2.2.1
  have := lp_sum (L := fun k c a => G_X1_firstOf_L4 f k c a (iZ (r : Int))) (N := r) (g := fun i => (M i : Int)) (K := fun a => some (iZ a)) (fun k c a hc => by
        rw [G_X1_firstOf_L4, h.1, ite_le (by omega), if_neg (by omega), ite_le (by omega), if_neg (by omega), rd_iZ (by omega) (by omega), h.2.2.2.2.1 c (by omega), Option.bind_some, iZ_1, iZ_add, iZ_add])
    (fun k a => by
        rw [G_X1_firstOf_L4, ite_le (by omega), if_pos (by omega)]) r 0 FU 0 (by omega) (by unfold FU; omega)
  unfold G_X1_firstOf
  refine Eq.trans this ?_
  refine congrArg (fun z => some (iZ z)) ?_
  have e : ∀ q : Nat, gm_sum q (fun k => ((M (0 + k) : Nat) : Int)) = ((gm_fst M q : Nat) : Int) := by
    intro q
    induction q with
    | zero => rfl
    | succ q ih =>
      show gm_sum q _ + ((M (0 + q) : Nat) : Int) = ((gm_fst M q + M q : Nat) : Int)
      rw [ih, Nat.zero_add]; omega
  rw [e]; omega
theorem s_at (h : RF f M n Q) {r : Nat} (hr : r ≤ n) (k : Int) : G_X1_at f (iZ (r : Int)) (iZ k) = some (iZ ((gm_fst M r : Nat) + k)) := by
  unfold G_X1_at
  rw [s_firstOf h hr, Option.bind_some, iZ_add]
theorem s_xOf (h : RF f M n Q) {c : Nat} (hc : c < gm_fst M n) : G_X1_xOf f (iZ (c : Int)) = some (iZ (Q c).1) := by
  have h40 := h.n40
  unfold G_X1_xOf
  rw [h.2.1, iZ_0, ite_lt (by omega), if_neg (by omega), ite_le (by omega), if_neg (by omega), rd_iZ (by omega) (by omega), (h.2.2.2.2.2.1 c hc).1]
  rfl
theorem s_yOf (h : RF f M n Q) {c : Nat} (hc : c < gm_fst M n) : G_X1_yOf f (iZ (c : Int)) = some (iZ (Q c).2) := by
  have h40 := h.n40
  unfold G_X1_yOf
  rw [h.2.1, iZ_0, ite_lt (by omega), if_neg (by omega), ite_le (by omega), if_neg (by omega), rd_iZ (by omega) (by omega), (h.2.2.2.2.2.1 c hc).2]
  rfl
theorem s_nextOf (h : RF f M n Q) {c : Nat} (hc : c < gm_fst M n) : G_X1_nextOf f (iZ (c : Int)) = some (iZ (gm_nf M n c : Nat)) := by
  have h40 := h.n40
  unfold G_X1_nextOf
  rw [h.2.1, iZ_0, ite_lt (by omega), if_neg (by omega), ite_le (by omega), if_neg (by omega), rd_iZ (by omega) (by omega), h.2.2.2.2.2.2 c hc]
  rfl
theorem s_inRange (z lo hi : Int) (h1 : -2147483648 ≤ z) (h2 : z < 2147483648) (h3 : -2147483648 ≤ lo) (h4 : lo < 2147483648) (h5 : -2147483648 ≤ hi) (h6 : hi < 2147483648) : G_X8_inRange (iZ z) (iZ lo) (iZ hi) = some (iZ (if lo ≤ z ∧ z ≤ hi then 1 else 0)) := by
  unfold G_X8_inRange
  rw [ite_lt (by omega), ite_lt (by omega)]
  (repeat' split) <;> first | rfl | omega
theorem s_within (z lo hi : Int) (h1 : -2147483648 ≤ z) (h2 : z < 2147483648) (h3 : -2147483648 ≤ lo) (h4 : lo < 2147483648) (h5 : -2147483648 ≤ hi) (h6 : hi < 2147483648) : G_X9_within (iZ z) (iZ lo) (iZ hi) = some (iZ (if lo ≤ z ∧ z ≤ hi then 1 else 0)) := by
  unfold G_X9_within
  rw [ite_lt (by omega), ite_lt (by omega)]
  (repeat' split) <;> first | rfl | omega
end CLASS
