/-! the first class: more changes -/
theorem gm_fst_congr {M M' : Nat → Nat} {n : Nat} (h : ∀ i, i < n → M' i = M i) : ∀ r, r ≤ n → gm_fst M' r = gm_fst M r := by
  intro r
  induction r with
  | zero => intro _; rfl
  | succ r ih =>
    intro hr
    show gm_fst M' r + M' r = gm_fst M r + M r
    rw [ih (by omega), h r (by omega)]
theorem RF.congr {f : Fig} {M M' : Nat → Nat} {n : Nat} {Q Q' : Nat → Pt} (h : RF f M n Q) (h1 : ∀ i, i < n → M' i = M i) (h2 : ∀ c, c < gm_fst M n → Q' c = Q c) : RF f M' n Q' := by
  have e := gm_fst_congr h1
  obtain ⟨a1, a2, a3, a4, a5, a6, a7⟩ := h
  refine ⟨a1, by rw [e n (Nat.le_refl n)]; exact a2, a3, fun r hr => by rw [h1 r hr]; exact a4 r hr, fun r hr => by rw [h1 r hr]; exact a5 r hr, fun c hc => ?_, fun c hc => ?_⟩
  · rw [e n (Nat.le_refl n)] at hc
    rw [h2 c hc]; exact a6 c hc
  · rw [e n (Nat.le_refl n)] at hc
    rw [a7 c hc]
    obtain ⟨r, k, hr, hk, rfl⟩ := gm_flat hc
    rw [gm_nf_eq hr hk]
    have := gm_nf_eq (M := M') hr (show k < M' r by rw [h1 r hr]; exact hk)
    rw [e r (by omega), h1 r hr] at this
    rw [this]
section CLASS
variable {f : Fig} {M : Nat → Nat} {n : Nat} {Q : Nat → Pt}
def gm_oM (M : Nat → Nat) (n i : Nat) : Nat := if i = n then 0 else M i
theorem s0_openRing (h : RF0 f M n Q) (hn : n < 4) : ∃ f', G_X1_openRing f = some f' ∧ RF0 f' (gm_oM M n) (n + 1) Q := by
  have e : gm_fst (gm_oM M n) n = gm_fst M n := gm_fst_congr (n := n) (fun i hi => if_neg (by omega)) n (Nat.le_refl n)
  have e2 : gm_fst (gm_oM M n) (n + 1) = gm_fst M n := by
    show gm_fst (gm_oM M n) n + gm_oM M n n = _
    rw [e]; unfold gm_oM; rw [if_pos rfl]; rfl
  refine ⟨fs_rings (fs_sizes f (upd (f_sizes f) n (iZ 0))) (iZ ((n : Int) + 1)), ?_, ?_⟩
  · unfold G_X1_openRing
    rw [h.1, iZ_4, ite_le (by omega), if_neg (by omega), iZ_0, wr_iZ (by omega) (by omega), Option.bind_some, Option.bind_some]
    have : f_rings (fs_sizes f (upd (f_sizes f) n (iZ 0))) = iZ n := h.1
    rw [this, iZ_1, iZ_add]
  · refine ⟨congrArg iZ (by omega), by rw [e2]; exact h.2.1, by omega, fun r hr => ?_, fun r hr => ?_, fun c hc => ?_⟩
    · unfold gm_oM
      split
      · omega
      · exact h.2.2.2.1 r (by omega)
    · show upd (f_sizes f) n (iZ 0) r = _
      unfold gm_oM
      by_cases c : r = n
      · rw [c, upd_same, if_pos rfl]; rfl
      · rw [upd_ne c, if_neg c]; exact h.2.2.2.2.1 r (by omega)
    · rw [e2] at hc
      exact h.2.2.2.2.2 c hc
theorem s0_addCorner (h : RF0 f M n Q) {m : Nat} (hn : n = m + 1) (h10 : M m < 10) (v : Pt) : ∃ f', G_X1_addCorner f (iZ v.1) (iZ v.2) = some f' ∧ RF f' (gm_iM M m) n (gm_iQ Q (gm_fst M n) v) := by
  obtain ⟨f', e, q⟩ := s0_putIn h (r := m) (k := M m) (by omega) (Nat.le_refl _) h10 v
  have h4 := h.2.2.1
  refine ⟨f', ?_, ?_⟩
  · unfold G_X1_addCorner
    rw [h.1, iZ_1, iZ_sub, show ((n : Nat) : Int) - 1 = (m : Int) by omega, s0_sizeOf h (by omega), Option.bind_some, e, Option.bind_some]
  · have : gm_fst M m + M m = gm_fst M n := by rw [hn]; rfl
    rw [this] at q
    exact q
def gm_hM (M : Nat → Nat) (n i : Nat) : Nat := if i = n then 3 else M i
def gm_hQ (Q : Nat → Pt) (N : Nat) (x y : Int) (c : Nat) : Pt := if c < N then Q c else if c = N then (x, y) else if c = N + 1 then (x + 1, y) else (x, y + 1)
theorem s_closeGap {N a b : Nat} (hN : N ≤ 40) (hc : f_corners f = iZ N) (hab : a + b ≤ N) : ∃ f', G_X1_closeGap f (iZ (a : Int)) (iZ (b : Int)) = some f' ∧ f_rings f' = f_rings f ∧ f_sizes f' = f_sizes f ∧ f_corners f' = iZ ((N - b : Nat) : Int) ∧
    ∀ c, c < N - b → f_xs f' c = f_xs f (if c < a then c else c + b) ∧ f_ys f' c = f_ys f (if c < a then c else c + b) := by
  obtain ⟨s', ⟨i1, i2, i3, i4⟩, e⟩ := lp_inv (L := fun k (s : Fig) c => G_X1_closeGap_L2 k s c (iZ (b : Int))) (N := N - b)
    (I := fun c s => (f_rings s = f_rings f ∧ f_sizes s = f_sizes f ∧ f_corners s = f_corners f) ∧ a ≤ c ∧ (∀ i, i < c → f_xs s i = f_xs f (if i < a then i else i + b) ∧ f_ys s i = f_ys f (if i < a then i else i + b)) ∧ (∀ i, c ≤ i → f_xs s i = f_xs f i ∧ f_ys s i = f_ys f i))
    (K := fun s => some (fs_corners s (iZ ((N - b : Nat) : Int))))
    (fun k c s hcl hI => by
      obtain ⟨i1, i2, i3, i4⟩ := hI
      refine ⟨fs_ys (fs_xs s (upd (f_xs s) c (f_xs s (c + b)))) (upd (f_ys s) c (f_ys s (c + b))), ⟨i1, by omega, fun i hi => ?_, fun i hi => ?_⟩, ?_⟩
      · show upd (f_xs s) c _ i = _ ∧ upd (f_ys s) c _ i = _
        by_cases e : i = c
        · rw [e, upd_same, upd_same, if_neg (by omega)]
          exact i4 (c + b) (by omega)
        · rw [upd_ne e, upd_ne e]
          exact i3 i (by omega)
      · show upd (f_xs s) c _ i = _ ∧ upd (f_ys s) c _ i = _
        rw [upd_ne (by omega), upd_ne (by omega)]
        exact i4 i (by omega)
      · rw [G_X1_closeGap_L2, i1.2.2, hc, iZ_add, ite_le (by omega), if_neg (by omega), show (c : Int) + (b : Int) = ((c + b : Nat) : Int) by omega, rd_iZ (by omega) (by omega), Option.bind_some, wr_iZ (by omega) (by omega), Option.bind_some]
        show ((rd 40 (f_ys s) (iZ ((c + b : Nat) : Int))).bind fun v38 => _) = _
        rw [rd_iZ (by omega) (by omega), Option.bind_some, Option.bind_some]
        show ((wr 40 (f_ys s) (iZ (c : Int)) (f_ys s (c + b))).bind fun g39 => _) = _
        rw [wr_iZ (by omega) (by omega), Option.bind_some, iZ_1, iZ_add])
    (fun k s hI => by
      rw [G_X1_closeGap_L2, hI.1.2.2, hc, iZ_add, ite_le (by omega), if_pos (by omega), iZ_sub, show ((N : Nat) : Int) - (b : Int) = ((N - b : Nat) : Int) by omega])
    (N - b - a) a FU f (by omega) (by unfold FU; omega) ⟨⟨rfl, rfl, rfl⟩, Nat.le_refl a, fun i hi => by rw [if_pos hi]; exact ⟨rfl, rfl⟩, fun i _ => ⟨rfl, rfl⟩⟩
  exact ⟨_, e, i1.1, i1.2.1, rfl, fun c hc => i3 c hc⟩
def gm_tM (M : Nat → Nat) (r i : Nat) : Nat := if i = r then M i - 1 else M i
def gm_tQ (Q : Nat → Pt) (s c : Nat) : Pt := if c < s then Q c else Q (c + 1)
theorem gm_tM_fst {r : Nat} (h1 : 1 ≤ M r) (i : Nat) : gm_fst (gm_tM M r) i + (if r < i then 1 else 0) = gm_fst M i := by
  induction i with
  | zero => rfl
  | succ i ih =>
    show gm_fst (gm_tM M r) i + gm_tM M r i + _ = gm_fst M i + M i
    unfold gm_tM at ih ⊢
    by_cases c : i = r
    · subst c
      rw [if_pos rfl, if_pos (by omega)]
      rw [if_neg (by omega)] at ih
      omega
    · rw [if_neg c]
      by_cases c2 : r < i
      · rw [if_pos (by omega)]
        rw [if_pos c2] at ih
        omega
      · rw [if_neg (by omega)]
        rw [if_neg c2] at ih
        omega
theorem s_takeOut (h : RF f M n Q) {r k : Nat} (hr : r < n) (hk : k < M r) : ∃ f', G_X1_takeOut f (iZ (r : Int)) (iZ (k : Int)) = some f' ∧ RF f' (gm_tM M r) n (gm_tQ Q (gm_fst M r + k)) := by
  have h4 := h.2.2.1
  have h40 := h.n40
  have hM := h.2.2.2.1 r hr
  have hlt := gm_fst_lt hr hk
  obtain ⟨g, e, g1, g2, g3, g4⟩ := s_closeGap (f := f) (a := gm_fst M r + k) (b := 1) h40 h.2.1 (by omega)
  have eN := gm_tM_fst (M := M) (r := r) (by omega) n
  rw [if_pos hr] at eN
  have st : RF0 (fs_sizes g (upd (f_sizes g) r (iZ ((M r : Nat) - 1)))) (gm_tM M r) n (gm_tQ Q (gm_fst M r + k)) := by
    refine ⟨g1.trans h.1, ?_, h4, fun i hi => ?_, fun i hi => ?_, fun c hc => ?_⟩
    · show f_corners g = _
      rw [g3]; exact congrArg iZ (by omega)
    · have := h.2.2.2.1 i hi
      unfold gm_tM
      split <;> omega
    · show upd (f_sizes g) r _ i = _
      unfold gm_tM
      by_cases c : i = r
      · rw [c, upd_same, if_pos rfl]; exact congrArg iZ (by omega)
      · rw [upd_ne c, if_neg c, g2]; exact h.2.2.2.2.1 i hi
    · obtain ⟨a1, a2⟩ := g4 c (by omega)
      show f_xs g c = _ ∧ f_ys g c = _
      unfold gm_tQ
      by_cases q : c < gm_fst M r + k
      · rw [if_pos q] at a1 a2 ⊢
        obtain ⟨b1, b2⟩ := h.2.2.2.2.2.1 c (by omega)
        exact ⟨a1.trans b1, a2.trans b2⟩
      · rw [if_neg q] at a1 a2 ⊢
        obtain ⟨b1, b2⟩ := h.2.2.2.2.2.1 (c + 1) (by omega)
        exact ⟨a1.trans b1, a2.trans b2⟩
  obtain ⟨f3, e3, q3⟩ := s0_relink st
  refine ⟨f3, ?_, q3⟩
  unfold G_X1_takeOut
  rw [s_hasCorner h _ _ (by omega) (by omega) (by omega) (by omega), if_pos (by rw [Int.toNat_natCast]; omega), Option.bind_some, iZ_0, ite_eq (by omega), if_neg (by omega), s_at h (by omega), Option.bind_some, show ((gm_fst M r : Nat) : Int) + (k : Int) = ((gm_fst M r + k : Nat) : Int) by omega]
  have e : G_X1_closeGap f (iZ ((gm_fst M r + k : Nat) : Int)) (1 : Int32) = some g := e
  rw [e, Option.bind_some, rd_iZ (by omega) (by omega), Option.bind_some, g2, h.2.2.2.2.1 r hr, iZ_1, iZ_sub, wr_iZ (by omega) (by omega), Option.bind_some]
  rw [g2] at e3
  rw [e3, Option.bind_some]
/-- all corners changed -/
theorem s_mapAll (h : RF f M n Q) (T : Pt → Pt) (L : Nat → Fig → Int32 → Option Fig)
    (h1 : ∀ k c s v, c < 40 → f_corners s = f_corners f → c < gm_fst M n → f_xs s c = iZ v.1 → f_ys s c = iZ v.2 → ∃ s', L (k + 1) s (iZ (c : Int)) = L k s' (iZ ((c : Int) + 1)) ∧ (f_rings s' = f_rings s ∧ f_corners s' = f_corners s ∧ f_sizes s' = f_sizes s ∧ f_next s' = f_next s) ∧
      (f_xs s' c = iZ (T v).1 ∧ f_ys s' c = iZ (T v).2) ∧ ∀ i, i ≠ c → f_xs s' i = f_xs s i ∧ f_ys s' i = f_ys s i)
    (h0 : ∀ k s, f_corners s = f_corners f → L (k + 1) s (iZ (gm_fst M n : Nat)) = some s) : ∃ f', L FU f 0 = some f' ∧ RF f' M n (fun c => T (Q c)) := by
  have h40 := h.n40
  obtain ⟨s', ⟨i1, i2, -⟩, e⟩ := lp_inv (L := L) (N := gm_fst M n)
    (I := fun c s => (f_rings s = f_rings f ∧ f_corners s = f_corners f ∧ f_sizes s = f_sizes f ∧ f_next s = f_next f) ∧ (∀ i, i < c → f_xs s i = iZ (T (Q i)).1 ∧ f_ys s i = iZ (T (Q i)).2) ∧ (∀ i, c ≤ i → f_xs s i = f_xs f i ∧ f_ys s i = f_ys f i))
    (K := fun s => some s)
    (fun k c s hc hI => by
      obtain ⟨i1, i2, i3⟩ := hI
      obtain ⟨b1, b2⟩ := h.2.2.2.2.2.1 c hc
      obtain ⟨a1, a2⟩ := i3 c (Nat.le_refl c)
      obtain ⟨s', e, q1, q2, q3⟩ := h1 k c s (Q c) (by omega) i1.2.1 hc (a1.trans b1) (a2.trans b2)
      refine ⟨s', ⟨⟨q1.1.trans i1.1, q1.2.1.trans i1.2.1, q1.2.2.1.trans i1.2.2.1, q1.2.2.2.trans i1.2.2.2⟩, fun i hi => ?_, fun i hi => ?_⟩, e⟩
      · by_cases q : i = c
        · rw [q]; exact q2
        · rw [(q3 i q).1, (q3 i q).2]; exact i2 i (by omega)
      · rw [(q3 i (by omega)).1, (q3 i (by omega)).2]; exact i3 i (by omega))
    (fun k s hI => h0 k s hI.1.2.1)
    (gm_fst M n) 0 FU f (by omega) (by unfold FU; omega) ⟨⟨rfl, rfl, rfl, rfl⟩, fun i hi => absurd hi (Nat.not_lt_zero i), fun i _ => ⟨rfl, rfl⟩⟩
  refine ⟨s', e, i1.1.trans h.1, i1.2.1.trans h.2.1, h.2.2.1, h.2.2.2.1, fun r hr => ?_, fun c hc => i2 c hc, fun c hc => ?_⟩
  · rw [i1.2.2.1]; exact h.2.2.2.2.1 r hr
  · rw [i1.2.2.2]; exact h.2.2.2.2.2.2 c hc
end CLASS
