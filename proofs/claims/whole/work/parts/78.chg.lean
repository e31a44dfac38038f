/-! the first class: changes of a figure -/
/-- a figure's cells but the next corners -/
def RF0 (f : Fig) (M : Nat → Nat) (n : Nat) (Q : Nat → Pt) : Prop := f_rings f = iZ n ∧ f_corners f = iZ (gm_fst M n : Nat) ∧ n ≤ 4 ∧ (∀ r, r < n → M r ≤ 10) ∧ (∀ r, r < n → f_sizes f r = iZ (M r : Nat)) ∧
  (∀ c, c < gm_fst M n → f_xs f c = iZ (Q c).1 ∧ f_ys f c = iZ (Q c).2)
theorem RF.to0 {f : Fig} {M : Nat → Nat} {n : Nat} {Q : Nat → Pt} (h : RF f M n Q) : RF0 f M n Q := ⟨h.1, h.2.1, h.2.2.1, h.2.2.2.1, h.2.2.2.2.1, h.2.2.2.2.2.1⟩
theorem RF0.n40 {f : Fig} {M : Nat → Nat} {n : Nat} {Q : Nat → Pt} (h : RF0 f M n Q) : gm_fst M n ≤ 40 := gm_fst_40 h.2.2.1 h.2.2.2.1
/-- a loop downwards -/
theorem lp_dec {S R : Type} {L : Nat → S → Int32 → Option R} {lo : Nat} {I : Nat → S → Prop} {K : S → Option R}
    (h1 : ∀ k c s, lo ≤ c → I (c + 1) s → ∃ s', I c s' ∧ L (k + 1) s (iZ ((c + 1 : Nat) : Int)) = L k s' (iZ (c : Int))) (h0 : ∀ k s, I lo s → L (k + 1) s (iZ (lo : Int)) = K s) :
    ∀ (d fu : Nat) (s : S), d < fu → I (lo + d) s → ∃ s', I lo s' ∧ L fu s (iZ ((lo + d : Nat) : Int)) = K s' := by
  intro d
  induction d with
  | zero =>
    intro fu s hf hI
    obtain ⟨n, rfl⟩ : ∃ n, fu = n + 1 := ⟨fu - 1, by omega⟩
    exact ⟨s, hI, h0 n s hI⟩
  | succ d ih =>
    intro fu s hf hI
    obtain ⟨n, rfl⟩ : ∃ n, fu = n + 1 := ⟨fu - 1, by omega⟩
    obtain ⟨s', i1, e1⟩ := h1 n (lo + d) s (by omega) hI
    obtain ⟨s'', i2, e2⟩ := ih n s' (by omega) i1
    exact ⟨s'', i2, e1.trans e2⟩
def upQ (Q : Nat → Pt) (c : Nat) (v : Pt) : Nat → Pt := fun i => if i = c then v else Q i
section CLASS
variable {f : Fig} {M : Nat → Nat} {n : Nat} {Q : Nat → Pt}
theorem s0_hasRing (h : RF0 f M n Q) (z : Int) (h1 : -2147483648 ≤ z) (h2 : z < 2147483648) : G_X1_hasRing f (iZ z) = some (iZ (if 0 ≤ z ∧ z < n then 1 else 0)) := by
  have h4 := h.2.2.1
  unfold G_X1_hasRing
  rw [h.1, iZ_0, ite_lt (by omega), ite_le (by omega)]
  (repeat' split) <;> first | rfl | omega
theorem s0_sizeOf (h : RF0 f M n Q) {r : Nat} (hr : r < n) : G_X1_sizeOf f (iZ (r : Int)) = some (iZ (M r : Nat)) := by
  have h4 := h.2.2.1
  unfold G_X1_sizeOf
  rw [h.1, iZ_0, ite_lt (by omega), if_neg (show ¬ (r : Int) < 0 by omega), ite_le (by omega), if_neg (show ¬ (n : Int) ≤ (r : Int) by omega), rd_iZ (by omega) (by omega), h.2.2.2.2.1 r hr]
  rfl
theorem s0_hasCorner (h : RF0 f M n Q) (z w : Int) (h1 : -2147483648 ≤ z) (h2 : z < 2147483648) (h3 : -2147483648 ≤ w) (h4 : w < 2147483648) :
    G_X1_hasCorner f (iZ z) (iZ w) = some (iZ (if 0 ≤ z ∧ z < n ∧ 0 ≤ w ∧ w < M z.toNat then 1 else 0)) := by
  have hn4 := h.2.2.1
  unfold G_X1_hasCorner
  rw [s0_hasRing h _ h1 h2]
  by_cases c : 0 ≤ z ∧ z < n
  · rw [if_pos c, Option.bind_some, iZ_0, ite_eq (by omega), if_neg (by omega), ite_lt (by omega)]
    by_cases c2 : w < 0
    · rw [if_pos c2, if_neg (by omega)]
    · obtain ⟨r, rfl⟩ : ∃ r : Nat, z = r := ⟨z.toNat, by omega⟩
      have hM := h.2.2.2.1 r (by omega)
      rw [if_neg c2, rd_iZ (by omega) (by omega), Option.bind_some, h.2.2.2.2.1 r (by omega), ite_le (by omega), Int.toNat_natCast]
      (repeat' split) <;> first | rfl | omega
  · rw [if_neg c, Option.bind_some, iZ_0, if_pos rfl, if_neg (by omega)]
theorem s0_firstOf (h : RF0 f M n Q) {r : Nat} (hr : r ≤ n) : G_X1_firstOf f (iZ (r : Int)) = some (iZ (gm_fst M r : Nat)) := by
  have h4 := h.2.2.1
  have := lp_sum (L := fun k c a => G_X1_firstOf_L4 f k c a (iZ (r : Int))) (N := r) (g := fun i => (M i : Int)) (K := fun a => some (iZ a)) (fun k c a hc => by
        rw [G_X1_firstOf_L4, h.1, ite_le (by omega), if_neg (by omega), ite_le (by omega), if_neg (by omega), rd_iZ (by omega) (by omega), h.2.2.2.2.1 c (by omega), Option.bind_some, iZ_1, iZ_add, iZ_add])
    (fun k a => by
        rw [G_X1_firstOf_L4, ite_le (by omega), if_pos (by omega)]) r 0 FU 0 (by omega) (by unfold FU; omega)
  unfold G_X1_firstOf
  refine Eq.trans this ?_
  refine congrArg (fun z => some (iZ z)) ?_
  have e : ∀ q : Nat, gm_sum q (fun k => ((M (0 + k) : Nat) : Int)) = ((gm_fst M q : Nat) : Int) := by
    intro q
    induction q with
    | zero => rfl
    | succ q ih =>
      show gm_sum q _ + ((M (0 + q) : Nat) : Int) = ((gm_fst M q + M q : Nat) : Int)
      rw [ih, Nat.zero_add]; omega
  rw [e]; omega
theorem s0_at (h : RF0 f M n Q) {r : Nat} (hr : r ≤ n) (k : Int) : G_X1_at f (iZ (r : Int)) (iZ k) = some (iZ ((gm_fst M r : Nat) + k)) := by
  unfold G_X1_at
  rw [s0_firstOf h hr, Option.bind_some, iZ_add]
theorem s0_relink (h : RF0 f M n Q) : ∃ f', G_X1_relink f = some f' ∧ RF f' M n Q := by
  have h4 := h.2.2.1
  have h40 := h.n40
  have inner : ∀ (k4 : Fig → Int32 → Int32 → Option Fig) (r : Nat) (s : Fig), r < n → RF0 s M n Q → (∀ c, c < gm_fst M r → f_next s c = iZ (gm_nf M n c : Nat)) →
      ∃ s', (RF0 s' M n Q ∧ ∀ c, c < gm_fst M (r + 1) → f_next s' c = iZ (gm_nf M n c : Nat)) ∧ G_X1_relink_L24 k4 FU s (iZ (gm_fst M r : Nat)) (iZ (gm_fst M (r + 1) : Nat)) (iZ (r : Int)) (iZ (gm_fst M r : Nat)) = k4 s' (iZ ((r : Int) + 1)) (iZ (gm_fst M (r + 1) : Nat)) := by
    intro k4 r s hr hs hn
    have hM := h.2.2.2.1 r hr
    have hle : gm_fst M (r + 1) ≤ gm_fst M n := gm_fst_le hr
    have hle2 : gm_fst M (r + 1) = gm_fst M r + M r := rfl
    refine lp_inv (L := fun k (s : Fig) c => G_X1_relink_L24 k4 k s c (iZ (gm_fst M (r + 1) : Nat)) (iZ (r : Int)) (iZ (gm_fst M r : Nat))) (N := gm_fst M (r + 1))
      (I := fun c s => (RF0 s M n Q ∧ ∀ i, i < c → f_next s i = iZ (gm_nf M n i : Nat)) ∧ gm_fst M r ≤ c) (K := fun s => k4 s (iZ ((r : Int) + 1)) (iZ (gm_fst M (r + 1) : Nat)))
      (fun k c s hc hI => ?_) (fun k s hI => ?_) (M r) (gm_fst M r) FU s (by omega) (by unfold FU; omega) ⟨⟨hs, hn⟩, Nat.le_refl _⟩ |> fun ⟨s', q1, q2⟩ => ⟨s', q1.1, q2⟩
    · obtain ⟨⟨i1, i2⟩, i3⟩ := hI
      obtain ⟨j, rfl⟩ : ∃ j, c = gm_fst M r + j := ⟨c - gm_fst M r, by omega⟩
      have hj : j < M r := by omega
      refine ⟨fs_next s (upd (f_next s) (gm_fst M r + j) (iZ (gm_nf M n (gm_fst M r + j) : Nat))), ⟨⟨i1, fun i hi => ?_⟩, by omega⟩, ?_⟩
      · show upd (f_next s) (gm_fst M r + j) _ i = _
        by_cases e : i = gm_fst M r + j
        · rw [e, upd_same]
        · rw [upd_ne e]; exact i2 i (by omega)
      · rw [G_X1_relink_L24, ite_le (by omega), if_neg (by omega), iZ_1, iZ_add, ind_le (by omega), Option.bind_some, wr_iZ (by omega) (by omega), Option.bind_some]
        have e : (if ((gm_fst M (r + 1) : Nat) : Int) ≤ ((gm_fst M r + j : Nat) : Int) + 1 then ((gm_fst M r : Nat) : Int) else ((gm_fst M r + j : Nat) : Int) + 1) = ((gm_nf M n (gm_fst M r + j) : Nat) : Int) := by
          rw [gm_nf_eq hr hj]
          unfold gm_nx
          split <;> split <;> omega
        rw [e]
    · rw [G_X1_relink_L24, ite_le (by omega), if_pos (by omega), iZ_1, iZ_add]
  obtain ⟨s', ⟨⟨i1, i2⟩, -⟩, e⟩ := lp_inv (L := fun k (s : Fig × Int32) c => G_X1_relink_L4 k s.1 c s.2) (N := n)
    (I := fun r s => (RF0 s.1 M n Q ∧ ∀ c, c < gm_fst M r → f_next s.1 c = iZ (gm_nf M n c : Nat)) ∧ s.2 = iZ (gm_fst M r : Nat)) (K := fun s => some s.1)
    (fun k r s hr hI => by
      obtain ⟨⟨i1, i2⟩, i3⟩ := hI
      obtain ⟨s', q1, q2⟩ := inner (G_X1_relink_L4 k) r s.1 hr i1 i2
      refine ⟨(s', iZ (gm_fst M (r + 1) : Nat)), ⟨q1, rfl⟩, ?_⟩
      have hM := h.2.2.2.1 r hr
      rw [G_X1_relink_L4, i1.1, ite_le (by omega), if_neg (by omega), rd_iZ (by omega) (by omega), i1.2.2.2.2.1 r hr, Option.bind_some, i3, iZ_add]
      rw [show ((gm_fst M r : Nat) : Int) + (M r : Nat) = ((gm_fst M (r + 1) : Nat) : Int) by
        show ((gm_fst M r : Nat) : Int) + (M r : Nat) = ((gm_fst M r + M r : Nat) : Int); omega]
      exact q2)
    (fun k s hI => by
      rw [G_X1_relink_L4, hI.1.1.1, ite_le (by omega), if_pos (by omega)])
    n 0 FU (f, iZ (0 : Nat)) (by omega) (by unfold FU; omega) ⟨⟨h, fun c hc => absurd hc (Nat.not_lt_zero c)⟩, rfl⟩
  refine ⟨s'.1, e, i1.1, i1.2.1, i1.2.2.1, i1.2.2.2.1, i1.2.2.2.2.1, i1.2.2.2.2.2, i2⟩
theorem s0_place (h : RF0 f M n Q) {c : Nat} (hc : c < gm_fst M n) (v : Pt) : ∃ f', G_X1_place f (iZ (c : Int)) (iZ v.1) (iZ v.2) = some f' ∧ RF0 f' M n (upQ Q c v) ∧ f_next f' = f_next f := by
  have h40 := h.n40
  refine ⟨fs_ys (fs_xs f (upd (f_xs f) c (iZ v.1))) (upd (f_ys f) c (iZ v.2)), ?_, ?_, rfl⟩
  · unfold G_X1_place
    rw [iZ_0, ite_lt (by omega), if_neg (by omega), h.2.1, ite_le (by omega), if_neg (by omega), wr_iZ (by omega) (by omega), Option.bind_some, Option.bind_some]
    show ((wr 40 (f_ys f) (iZ (c : Int)) (iZ v.2)).bind fun g25 => _) = _
    rw [wr_iZ (by omega) (by omega), Option.bind_some]
  · refine ⟨h.1, h.2.1, h.2.2.1, h.2.2.2.1, h.2.2.2.2.1, fun i hi => ?_⟩
    have q := h.2.2.2.2.2 i hi
    show upd (f_xs f) c (iZ v.1) i = _ ∧ upd (f_ys f) c (iZ v.2) i = _
    unfold upQ
    by_cases e : i = c
    · rw [if_pos e, e, upd_same, upd_same]
      exact ⟨rfl, rfl⟩
    · rw [if_neg e, upd_ne e, upd_ne e]
      exact q
theorem s_place (h : RF f M n Q) {c : Nat} (hc : c < gm_fst M n) (v : Pt) : ∃ f', G_X1_place f (iZ (c : Int)) (iZ v.1) (iZ v.2) = some f' ∧ RF f' M n (upQ Q c v) := by
  obtain ⟨f', e, q, qn⟩ := s0_place h.to0 hc v
  exact ⟨f', e, q.1, q.2.1, q.2.2.1, q.2.2.2.1, q.2.2.2.2.1, q.2.2.2.2.2, fun c hc => by rw [qn]; exact h.2.2.2.2.2.2 c hc⟩
theorem s_copyFrom {g : Fig} (h : RF g M n Q) : ∃ f', G_X1_copyFrom f g = some f' ∧ RF f' M n Q := by
  have h40 := h.n40
  have h4 := h.2.2.1
  have cp : ∀ (a b : Nat → Int32) (m k : Nat), k < m → va_cpy a b 0 0 m k = a k := by
    intro a b m k hk
    unfold va_cpy
    rw [if_pos ⟨Nat.zero_le k, by omega⟩, Nat.sub_zero, Nat.zero_add]
  refine ⟨_, rfl, h.1, h.2.1, h4, h.2.2.2.1, fun r hr => ?_, fun c hc => ⟨?_, ?_⟩, fun c hc => ?_⟩
  · exact (cp _ _ _ _ (by omega)).trans (h.2.2.2.2.1 r hr)
  · exact (cp _ _ _ _ (by omega)).trans (h.2.2.2.2.2.1 c hc).1
  · exact (cp _ _ _ _ (by omega)).trans (h.2.2.2.2.2.1 c hc).2
  · exact (cp _ _ _ _ (by omega)).trans (h.2.2.2.2.2.2 c hc)
/-- one corner more in ring r -/
def gm_iM (M : Nat → Nat) (r i : Nat) : Nat := if i = r then M i + 1 else M i
def gm_iQ (Q : Nat → Pt) (s : Nat) (v : Pt) (c : Nat) : Pt := if c < s then Q c else if c = s then v else Q (c - 1)
theorem gm_iM_fst (r i : Nat) : gm_fst (gm_iM M r) i = gm_fst M i + (if r < i then 1 else 0) := by
  induction i with
  | zero => rfl
  | succ i ih =>
    show gm_fst (gm_iM M r) i + gm_iM M r i = gm_fst M i + M i + _
    rw [ih]
    unfold gm_iM
    (repeat' split) <;> omega
theorem s0_putIn (h : RF0 f M n Q) {r k : Nat} (hr : r < n) (hk : k ≤ M r) (h10 : M r < 10) (v : Pt) : ∃ f', G_X1_putIn f (iZ (r : Int)) (iZ (k : Int)) (iZ v.1) (iZ v.2) = some f' ∧ RF f' (gm_iM M r) n (gm_iQ Q (gm_fst M r + k) v) := by
  have h4 := h.2.2.1
  have hM' : ∀ i, i < n → gm_iM M r i ≤ 10 := by
    intro i hi
    have := h.2.2.2.1 i hi
    unfold gm_iM
    split
    · rename_i e; subst e; omega
    · exact this
  have h40 : gm_fst (gm_iM M r) n ≤ 40 := gm_fst_40 h4 hM'
  have eN : gm_fst (gm_iM M r) n = gm_fst M n + 1 := by rw [gm_iM_fst, if_pos hr]
  have hle : gm_fst M (r + 1) ≤ gm_fst M n := gm_fst_le hr
  have hle2 : gm_fst M (r + 1) = gm_fst M r + M r := rfl
  obtain ⟨s', ⟨i1, i2, i3⟩, e⟩ := lp_dec (L := fun q (s : Fig) c => G_X1_putIn_L57 q s c (iZ ((gm_fst M r + k : Nat) : Int)) (iZ (r : Int)) (iZ v.1) (iZ v.2)) (lo := gm_fst M r + k)
    (I := fun c s => (f_rings s = f_rings f ∧ f_corners s = f_corners f ∧ f_sizes s = f_sizes f) ∧ (∀ i, i < c → f_xs s i = f_xs f i ∧ f_ys s i = f_ys f i) ∧ (∀ i, c < i → i ≤ gm_fst M n → f_xs s i = f_xs f (i - 1) ∧ f_ys s i = f_ys f (i - 1)) ∧ c ≤ gm_fst M n)
    (K := fun s => G_X1_putIn_L57 1 s (iZ ((gm_fst M r + k : Nat) : Int)) (iZ ((gm_fst M r + k : Nat) : Int)) (iZ (r : Int)) (iZ v.1) (iZ v.2))
    (fun q c s hc hI => by
      obtain ⟨i1, i2, i3, i4⟩ := hI
      refine ⟨fs_ys (fs_xs s (upd (f_xs s) (c + 1) (f_xs s c))) (upd (f_ys s) (c + 1) (f_ys s c)), ⟨i1, fun i hi => ?_, fun i hi1 hi2 => ?_, by omega⟩, ?_⟩
      · show upd (f_xs s) (c + 1) _ i = _ ∧ upd (f_ys s) (c + 1) _ i = _
        rw [upd_ne (by omega), upd_ne (by omega)]
        exact i2 i (by omega)
      · show upd (f_xs s) (c + 1) _ i = _ ∧ upd (f_ys s) (c + 1) _ i = _
        by_cases e : i = c + 1
        · rw [e, upd_same, upd_same]
          exact i2 c (by omega)
        · rw [upd_ne e, upd_ne e]
          exact i3 i (by omega) hi2
      · have e0 : iZ (((c + 1 : Nat) : Int) - 1) = iZ (c : Int) := congrArg iZ (by omega)
        have e1 : iZ (((c + 1 : Nat) : Int) + -1) = iZ (c : Int) := congrArg iZ (by omega)
        rw [G_X1_putIn_L57, ite_le (by omega), if_neg (by omega), iZ_1, iZ_sub, iZ_neg, iZ_add, e0, e1, rd_iZ (by omega) (by omega), Option.bind_some, wr_iZ (by omega) (by omega), Option.bind_some]
        show ((rd 40 (f_ys s) (iZ (c : Int))).bind fun v94 => _) = _
        rw [rd_iZ (by omega) (by omega), Option.bind_some, Option.bind_some]
        show ((wr 40 (f_ys s) (iZ ((c + 1 : Nat) : Int)) (f_ys s c)).bind fun g95 => _) = _
        rw [wr_iZ (by omega) (by omega), Option.bind_some])
    (fun q s hI => by
      rw [G_X1_putIn_L57, G_X1_putIn_L57, ite_le (by omega), if_pos (by omega), ite_le (by omega), if_pos (by omega)])
    (gm_fst M n - (gm_fst M r + k)) FU f (by unfold FU; omega) ⟨⟨rfl, rfl, rfl⟩, fun i _ => ⟨rfl, rfl⟩, fun i h1 h2 => by omega, by omega⟩
  have eq1 : gm_fst M r + k + (gm_fst M n - (gm_fst M r + k)) = gm_fst M n := by omega
  rw [eq1] at e
  -- behind the loop
  have st : RF0 (fs_corners (fs_sizes s' (upd (f_sizes s') r (iZ ((M r : Nat) + 1)))) (iZ ((gm_fst M n : Nat) + 1))) (gm_iM M r) n (upQ (gm_iQ Q (gm_fst M r + k) v) (gm_fst M r + k) ((f_xs s' (gm_fst M r + k)).toInt, (f_ys s' (gm_fst M r + k)).toInt)) := by
    refine ⟨i1.1.trans h.1, ?_, h4, hM', fun i hi => ?_, fun c hc => ?_⟩
    · show iZ _ = iZ _
      rw [eN]; exact congrArg iZ (by omega)
    · show upd (f_sizes s') r _ i = _
      unfold gm_iM
      by_cases c : i = r
      · rw [c, upd_same, if_pos rfl]; exact congrArg iZ (by omega)
      · rw [upd_ne c, if_neg c, i1.2.2]; exact h.2.2.2.2.1 i hi
    · rw [eN] at hc
      show f_xs s' c = _ ∧ f_ys s' c = _
      unfold upQ gm_iQ
      by_cases c1 : c = gm_fst M r + k
      · rw [if_pos c1, c1]
        exact ⟨(Int32.ofInt_toInt _).symm, (Int32.ofInt_toInt _).symm⟩
      · rw [if_neg c1]
        by_cases c2 : c < gm_fst M r + k
        · rw [if_pos c2]
          obtain ⟨a1, a2⟩ := i2 c c2
          obtain ⟨b1, b2⟩ := h.2.2.2.2.2 c (by omega)
          exact ⟨a1.trans b1, a2.trans b2⟩
        · rw [if_neg c2, if_neg c1]
          obtain ⟨a1, a2⟩ := i3.1 c (by omega) (by omega)
          obtain ⟨b1, b2⟩ := h.2.2.2.2.2 (c - 1) (by omega)
          exact ⟨a1.trans b1, a2.trans b2⟩
  obtain ⟨f2, e2, q2, -⟩ := s0_place st (c := gm_fst M r + k) (by omega) v
  have uq : upQ (upQ (gm_iQ Q (gm_fst M r + k) v) (gm_fst M r + k) ((f_xs s' (gm_fst M r + k)).toInt, (f_ys s' (gm_fst M r + k)).toInt)) (gm_fst M r + k) v = gm_iQ Q (gm_fst M r + k) v := by
    funext i
    unfold upQ gm_iQ
    by_cases c : i = gm_fst M r + k
    · rw [if_pos c, c, if_neg (by omega), if_pos rfl]
    · rw [if_neg c, if_neg c]
  rw [uq] at q2
  obtain ⟨f3, e3, q3⟩ := s0_relink q2
  refine ⟨f3, ?_, q3⟩
  unfold G_X1_putIn
  rw [s0_hasRing h _ (by omega) (by omega), if_pos (by omega), Option.bind_some, iZ_0, ite_eq (by omega), if_neg (by omega), ite_lt (by omega), if_neg (by omega), rd_iZ (by omega) (by omega), Option.bind_some, h.2.2.2.2.1 r hr, ite_lt (by omega), if_neg (by omega), Option.bind_some, iZ_10, ite_le (by omega), if_neg (by omega), h.2.1, iZ_40, ite_lt (by omega), if_pos (by omega), s0_at h (by omega), Option.bind_some]
  rw [show ((gm_fst M r : Nat) : Int) + (k : Int) = ((gm_fst M r + k : Nat) : Int) by omega, e]
  rw [G_X1_putIn_L57, ite_le (by omega), if_pos (by omega), rd_iZ (by omega) (by omega), Option.bind_some, i1.2.2, h.2.2.2.2.1 r hr, iZ_1, iZ_add, wr_iZ (by omega) (by omega), Option.bind_some, Option.bind_some]
  have ec : f_corners (fs_sizes s' (upd (f_sizes f) r (iZ ((M r : Nat) + 1)))) = iZ (gm_fst M n : Nat) := i1.2.1.trans h.2.1
  rw [ec, iZ_add]
  rw [i1.2.2] at e2
  rw [e2, Option.bind_some, e3, Option.bind_some]
end CLASS
