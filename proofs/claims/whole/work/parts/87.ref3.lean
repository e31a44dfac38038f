/-! the second class: the fifth rule, the first broken rule, copies -/
section REF
def gm_some (N : Nat) (T : Nat → Prop) : Prop := ∃ j, j < N ∧ T j
theorem gm_some_0 (T : Nat → Prop) : ¬ gm_some 0 T := fun ⟨j, h, _⟩ => absurd h (Nat.not_lt_zero j)
theorem gm_some_s (c : Nat) (T : Nat → Prop) : gm_some (c + 1) T ↔ gm_some c T ∨ T c := by
  constructor
  · rintro ⟨j, hj, h⟩
    by_cases jc : j = c
    · rw [jc] at h; exact Or.inr h
    · exact Or.inl ⟨j, by omega, h⟩
  · rintro (⟨j, hj, h⟩ | h)
    · exact ⟨j, by omega, h⟩
    · exact ⟨c, by omega, h⟩
variable {m : Mod} {M : Nat → Nat} {n : Nat} {Q : Nat → Pt}
theorem t_isRule5 (hs : RS (m_state m) M n Q) (hn : 1 ≤ n) (h3 : ∀ r, r < n → 3 ≤ M r) (r1 : gm_R1 M n Q) (r2 : gm_R2 M n Q) (r3 : gm_R3 M n Q) (r4 : gm_R4 M n Q) : ∃ z : Int, ((z = 1 ∧ gm_R5 M n Q) ∨ (z = 0 ∧ ¬ gm_R5 M n Q)) ∧ G_X9_isRule5 m = some (iZ z) := by
  have h4 := hs.2.1
  have d10 : (iZ 1 = iZ 0) = False := eq_false (by decide)
  have sv : ∀ r k s, r < n → k < M r → s < n → s ≠ r → ∃ z : Int, (z = 0 ∨ z = 1) ∧ G_X9_surrounds m (iZ (s : Int)) (iZ (2 * (gm_P M Q r k).1)) (iZ (2 * (gm_P M Q r k).2)) = some (iZ z) ∧ (z = 1 ↔ gm_w (M s) (gm_P M Q s) (gm_P M Q r k) ≠ 0) := by
    intro r k s hr hk hs' hne
    have pp := r1 _ (gm_fst_lt hr hk)
    have pp : gm_paper (gm_P M Q r k) := pp
    have pp2 : 0 ≤ (gm_P2 M Q r k).1 ∧ (gm_P2 M Q r k).1 ≤ 30 ∧ 0 ≤ (gm_P2 M Q r k).2 ∧ (gm_P2 M Q r k).2 ≤ 30 := by
      unfold gm_paper at pp
      have e1 : (gm_P2 M Q r k).1 = 2 * (gm_P M Q r k).1 := rfl
      have e2 : (gm_P2 M Q r k).2 = 2 * (gm_P M Q r k).2 := rfl
      omega
    have e0 := t_surrounds hs r1 hs' (p := gm_P2 M Q r k) pp2
    rw [show (gm_P2 M Q r k).1 = 2 * (gm_P M Q r k).1 from rfl, show (gm_P2 M Q r k).2 = 2 * (gm_P M Q r k).2 from rfl] at e0
    refine ⟨gm_w (M s) (gm_P2 M Q s) (gm_P2 M Q r k) % 2, by omega, e0, ?_⟩
    have off := gm_P2_off (gm_flat_apart r2 r3 r4 hs' hr hne) hk
    rw [gm_odd2 (gm_flat_simple h3 r2 r3 r4 hs') off]
    rw [show gm_w (M s) (gm_P2 M Q s) (gm_P2 M Q r k) = gm_w (M s) (gm_P M Q s) (gm_P M Q r k) from gm_w2 s (gm_P M Q r k)]
  -- the rings around one corner
  have in1 : ∀ (k16 : Int32 → Int32 → Int32 → Option Int32) (r k : Nat) (z : Int), r < n → k < M r → (z = 0 ∨ z = 1) →
      ∃ z' : Int, ((z' = 0 ∨ z' = 1) ∧ (z' = 1 ↔ z = 1 ∧ ∀ s, s < n → s ≠ r → (gm_w (M s) (gm_P M Q s) (gm_P M Q r k) ≠ 0 ↔ s = 0))) ∧ G_X9_isRule5_L28 k16 m FU 0 (iZ (k : Int)) (iZ (r : Int)) (iZ z) = k16 (iZ ((k : Int) + 1)) (iZ (r : Int)) (iZ z') := by
    intro k16 r k z hr hk z01
    have hMr := (hs.2.2.1 r hr).1
    refine lp_inv (L := fun q (z : Int) c => G_X9_isRule5_L28 k16 m q c (iZ (k : Int)) (iZ (r : Int)) (iZ z)) (N := n) (I := fun c z' => (z' = 0 ∨ z' = 1) ∧ (z' = 1 ↔ z = 1 ∧ ∀ s, s < c → s ≠ r → (gm_w (M s) (gm_P M Q s) (gm_P M Q r k) ≠ 0 ↔ s = 0))) (K := fun z' => k16 (iZ ((k : Int) + 1)) (iZ (r : Int)) (iZ z'))
      (fun q c y hc hI => ?_) (fun q y hI => ?_) n 0 FU z (by omega) (by unfold FU; omega) ⟨z01, ⟨fun e => ⟨e, fun s hs => absurd hs (Nat.not_lt_zero s)⟩, fun e => e.1⟩⟩
    · obtain ⟨y01, hy⟩ := hI
      rw [G_X9_isRule5_L28, t_n hs, Option.bind_some, ite_le (by omega), if_neg (by omega)]
      by_cases y0 : y = 0
      · subst y0
        refine ⟨0, ⟨Or.inl rfl, ⟨fun e => absurd e (by decide), fun e => ?_⟩⟩, ?_⟩
        · have := hy.mpr ⟨e.1, fun s hs' => e.2 s (by omega)⟩
          exact absurd this (by decide)
        · rw [iZ_0, if_pos rfl, Option.bind_some, iZ_1, iZ_add]
      · have y1 : y = 1 := by omega
        subst y1
        by_cases c1 : c = r
        · refine ⟨1, ⟨Or.inr rfl, ⟨fun _ => ⟨(hy.mp rfl).1, fun s hs' hne => ?_⟩, fun _ => rfl⟩⟩, ?_⟩
          · exact (hy.mp rfl).2 s (by omega) hne
          · rw [iZ_0, ite_eq (by omega), if_neg (by omega), ite_eq (by omega), if_pos (by omega), Option.bind_some, iZ_1, iZ_add]
        · obtain ⟨v, v01, e, hv⟩ := sv r k c hr hk hc c1
          have eb : ((if iZ (c : Int) = 0 then some 1 else some 0) : Option Int32) = some (iZ (if (c : Int) = 0 then 1 else 0)) := by
            rw [iZ_0, iZ_1, ind_eq (by omega)]
          refine ⟨if (v = if (c : Int) = 0 then 1 else 0) then 1 else 0, ⟨by clear hy hv e eb; (repeat' split) <;> omega, ?_⟩, ?_⟩
          · constructor
            · intro e
              refine ⟨(hy.mp rfl).1, fun s hs' hne => ?_⟩
              by_cases sc : s = c
              · rw [sc, ← hv]
                clear hv hy eb
                by_cases c0 : (c : Int) = 0
                · rw [if_pos c0] at e
                  by_cases v1 : v = 1
                  · exact ⟨fun _ => by omega, fun _ => v1⟩
                  · rw [if_neg v1] at e; exact absurd e (by decide)
                · rw [if_neg c0] at e
                  by_cases v1 : v = 0
                  · exact ⟨fun w => by omega, fun w => by omega⟩
                  · rw [if_neg v1] at e; exact absurd e (by decide)
              · exact (hy.mp rfl).2 s (by omega) hne
            · intro e
              have := e.2 c (by omega) c1
              rw [← hv] at this
              clear hv hy eb
              by_cases c0 : (c : Int) = 0
              · rw [if_pos c0, if_pos (this.mpr (by omega))]
              · rw [if_neg c0, if_pos]
                rcases v01 with w | w
                · exact w
                · exact absurd (this.mp w) (by omega)
          · rw [iZ_0, ite_eq (by omega), if_neg (by omega), ite_eq (by omega), if_neg (by omega), t_x hs hr hk, Option.bind_some, t_y hs hr hk, Option.bind_some, iZ_2, iZ_mul, iZ_mul, e, Option.bind_some]
            rw [← iZ_0, eb, Option.bind_some, iZ_1, iZ_0, ind_eq (by split <;> omega), Option.bind_some, iZ_add]
    · rw [G_X9_isRule5_L28, t_n hs, Option.bind_some, ite_le (by omega), if_pos (by omega), iZ_1, iZ_add]
  have in2 : ∀ (k4 : Int32 → Int32 → Option Int32) (r : Nat) (z : Int), r < n → (z = 0 ∨ z = 1) →
      ∃ z' : Int, ((z' = 0 ∨ z' = 1) ∧ (z' = 1 ↔ z = 1 ∧ ∀ k, k < M r → ∀ s, s < n → s ≠ r → (gm_w (M s) (gm_P M Q s) (gm_P M Q r k) ≠ 0 ↔ s = 0))) ∧ G_X9_isRule5_L16 k4 m FU 0 (iZ (r : Int)) (iZ z) = k4 (iZ ((r : Int) + 1)) (iZ z') := by
    intro k4 r z hr z01
    have hMr := (hs.2.2.1 r hr).1
    refine lp_inv (L := fun q (z : Int) c => G_X9_isRule5_L16 k4 m q c (iZ (r : Int)) (iZ z)) (N := M r) (I := fun c z' => (z' = 0 ∨ z' = 1) ∧ (z' = 1 ↔ z = 1 ∧ ∀ k, k < c → ∀ s, s < n → s ≠ r → (gm_w (M s) (gm_P M Q s) (gm_P M Q r k) ≠ 0 ↔ s = 0))) (K := fun z' => k4 (iZ ((r : Int) + 1)) (iZ z'))
      (fun q c y hc hI => ?_) (fun q y hI => ?_) (M r) 0 FU z (by omega) (by unfold FU; omega) ⟨z01, ⟨fun e => ⟨e, fun s hs => absurd hs (Nat.not_lt_zero s)⟩, fun e => e.1⟩⟩
    · obtain ⟨y01, hy⟩ := hI
      obtain ⟨y', ⟨q1, q2⟩, e⟩ := in1 (G_X9_isRule5_L16 k4 m q) r c y hr hc y01
      refine ⟨y', ⟨q1, ?_⟩, ?_⟩
      · rw [q2, hy]
        constructor
        · rintro ⟨⟨e1, e2⟩, e3⟩
          refine ⟨e1, fun k hk => ?_⟩
          by_cases kc : k = c
          · rw [kc]; exact e3
          · exact e2 k (by omega)
        · rintro ⟨e1, e2⟩
          exact ⟨⟨e1, fun k hk => e2 k (by omega)⟩, e2 c (by omega)⟩
      · rw [G_X9_isRule5_L16, t_many hs hr, Option.bind_some, ite_le (by omega), if_neg (by omega)]
        exact e
    · rw [G_X9_isRule5_L16, t_many hs hr, Option.bind_some, ite_le (by omega), if_pos (by omega), iZ_1, iZ_add]
  obtain ⟨z, ⟨-, z01, hz⟩, e⟩ := lp_inv (L := fun q (z : Int) c => G_X9_isRule5_L4 m q c (iZ z)) (N := n) (I := fun c z' => 1 ≤ c ∧ (z' = 0 ∨ z' = 1) ∧ (z' = 1 ↔ ∀ r, 1 ≤ r → r < c → ∀ k, k < M r → ∀ s, s < n → s ≠ r → (gm_w (M s) (gm_P M Q s) (gm_P M Q r k) ≠ 0 ↔ s = 0))) (K := fun z' => some (iZ z'))
    (fun q c y hc hI => by
      obtain ⟨hc1, y01, hy⟩ := hI
      obtain ⟨y', ⟨q1, q2⟩, e⟩ := in2 (G_X9_isRule5_L4 m q) c y hc y01
      refine ⟨y', ⟨by omega, q1, ?_⟩, ?_⟩
      · rw [q2, hy]
        constructor
        · rintro ⟨e1, e3⟩ r hr1 hr
          by_cases rc : r = c
          · rw [rc]; exact e3
          · exact e1 r hr1 (by omega)
        · intro e1
          exact ⟨fun r hr1 hr => e1 r hr1 (by omega), e1 c (by omega) (by omega)⟩
      · rw [G_X9_isRule5_L4, t_n hs, Option.bind_some, ite_le (by omega), if_neg (by omega)]
        exact e)
    (fun q y hI => by
      rw [G_X9_isRule5_L4, t_n hs, Option.bind_some, ite_le (by omega), if_pos (by omega), bck_01 hI.2.1, Option.bind_some])
    (n - 1) 1 FU 1 (by omega) (by unfold FU; omega) ⟨Nat.le_refl 1, Or.inr rfl, ⟨fun _ r h1 h2 => by omega, fun _ => rfl⟩⟩
  have r5 := gm_R5_iff h3 r2 r3 r4
  refine ⟨z, ?_, e⟩
  rcases z01 with q | q
  · exact Or.inr ⟨q, fun t => by have := hz.mpr (r5.mp t); omega⟩
  · exact Or.inl ⟨q, r5.mpr (hz.mp q)⟩
theorem t_broken (hs : RS (m_state m) M n Q) (hq : gm_fit M n Q) (hn : 1 ≤ n) (h3 : ∀ r, r < n → 3 ≤ M r) : ∃ z m', (0 ≤ z ∧ z ≤ 5) ∧ gm_brk M n Q z ∧ G_X9_broken m = some (iZ z, m') ∧ m_state m' = m_state m ∧ SM m m' := by
  obtain ⟨s, es, hst, hsm, hsd⟩ := t_findSides hs
  have h4 := hs.2.1
  have h40 : gm_fst M n ≤ 40 := gm_fst_40 h4 (fun r hr => (hs.2.2.1 r hr).1)
  have hs' : RS (m_state s) M n Q := by rw [hst]; exact hs
  have rdx := fun (c : Nat) (hc : c < gm_fst M n) => hsd.rd hc h40
  have d10 : (iZ 1 = iZ 0) = False := eq_false (by decide)
  unfold G_X9_broken
  rw [es, Option.bind_some]
  -- the first rule
  have l6 := lp_ex (L := fun k c => G_X9_broken_L6 k s c) (N := gm_fst M n) (T := fun c => ¬ gm_paper (Q c)) (r1 := some (1, s)) (r0 := G_X9_broken_L54 FU s 0)
    (fun k c hc ht => by
      have q := hq c hc
      unfold gm_paper at ht
      obtain ⟨-, -, e1, e2, -, -⟩ := rdx c hc
      rw [G_X9_broken_L6, hsd.1, ite_le (by omega), if_neg (by omega), e1, Option.bind_some, iZ_0, iZ_15, s_within _ _ _ (by omega) (by omega) (by omega) (by omega) (by omega) (by omega), Option.bind_some, ite_eq (by split <;> omega), e2, Option.bind_some, s_within _ _ _ (by omega) (by omega) (by omega) (by omega) (by omega) (by omega), Option.bind_some, ite_eq (by split <;> omega)]
      by_cases c1 : 0 ≤ (Q c).1 ∧ (Q c).1 ≤ 15
      · rw [if_pos c1, if_neg (by omega), if_neg (show ¬ (0 ≤ (Q c).2 ∧ (Q c).2 ≤ 15) by omega), if_pos rfl]
      · rw [if_neg c1, if_pos rfl])
    (fun k c hc ht => by
      have q := hq c hc
      have ht : gm_paper (Q c) := Classical.byContradiction ht
      unfold gm_paper at ht
      obtain ⟨-, -, e1, e2, -, -⟩ := rdx c hc
      rw [G_X9_broken_L6, hsd.1, ite_le (by omega), if_neg (by omega), e1, Option.bind_some, iZ_0, iZ_15, s_within _ _ _ (by omega) (by omega) (by omega) (by omega) (by omega) (by omega), Option.bind_some, ite_eq (by split <;> omega), e2, Option.bind_some, s_within _ _ _ (by omega) (by omega) (by omega) (by omega) (by omega) (by omega), Option.bind_some, ite_eq (by split <;> omega)]
      rw [if_pos (show 0 ≤ (Q c).1 ∧ (Q c).1 ≤ 15 by omega), if_neg (by omega), if_pos (show 0 ≤ (Q c).2 ∧ (Q c).2 ≤ 15 by omega), if_neg (by omega), iZ_1, iZ_add])
    (fun k => by rw [G_X9_broken_L6, hsd.1, ite_le (by omega), if_pos (by omega)])
    (gm_fst M n) 0 FU (by omega) (by unfold FU; omega)
  rcases l6 with ⟨⟨c, -, c2, c3⟩, e⟩ | ⟨a, e⟩
  · exact ⟨1, s, by omega, Or.inl ⟨fun q => c3 (q c c2), rfl⟩, e, hst, hsm⟩
  have r1 : gm_R1 M n Q := fun c hc => Classical.byContradiction (a c (Nat.zero_le c) hc)
  have e : G_X9_broken_L6 FU s 0 = G_X9_broken_L54 FU s 0 := e
  rw [e]
  clear e a
  -- the second rule
  have l54 := lp_ex (L := fun k c => G_X9_broken_L54 k s c) (N := gm_fst M n) (T := fun c => Q c = Q (gm_nf M n c)) (r1 := some (2, s)) (r0 := G_X9_broken_L106 FU s 0 0 0)
    (fun k c hc ht => by
      obtain ⟨-, -, e1, e2, e3, e4⟩ := rdx c hc
      rw [G_X9_broken_L54, hsd.1, ite_le (by omega), if_neg (by omega), e1, Option.bind_some, e3, Option.bind_some, e2, Option.bind_some, e4, Option.bind_some, ht, if_pos rfl, if_pos rfl])
    (fun k c hc ht => by
      obtain ⟨-, -, e1, e2, e3, e4⟩ := rdx c hc
      have p1 := r1 c hc
      have p2 := r1 _ (gm_nf_lt hc)
      unfold gm_paper at p1 p2
      rw [G_X9_broken_L54, hsd.1, ite_le (by omega), if_neg (by omega), e1, Option.bind_some, e3, Option.bind_some, e2, Option.bind_some, e4, Option.bind_some, ite_eq (by omega), ite_eq (by omega)]
      unfold G_X9_broken_j94
      rw [iZ_1, iZ_add]
      by_cases q1 : (Q c).1 = (Q (gm_nf M n c)).1
      · rw [if_pos q1, if_neg (fun q2 => ht (Prod.ext q1 q2))]
      · rw [if_neg q1])
    (fun k => by rw [G_X9_broken_L54, hsd.1, ite_le (by omega), if_pos (by omega)])
    (gm_fst M n) 0 FU (by omega) (by unfold FU; omega)
  rcases l54 with ⟨⟨c, -, c2, c3⟩, e⟩ | ⟨a, e⟩
  · exact ⟨2, s, by omega, Or.inr (Or.inl ⟨r1, fun q => q c c2 c3, rfl⟩), e, hst, hsm⟩
  have r2 : gm_R2 M n Q := fun c hc => a c (Nat.zero_le c) hc
  have e : G_X9_broken_L54 FU s 0 = G_X9_broken_L106 FU s 0 0 0 := e
  rw [e]
  clear e a
  -- the third and the fourth rule: all pairs
  have val : ∀ i j, i < gm_fst M n → j < gm_fst M n → ∃ x t : Int, ((x = 1 ∧ gm_X (Q i) (Q (gm_nf M n i)) (Q j) (Q (gm_nf M n j))) ∨ (x = 0 ∧ ¬ gm_X (Q i) (Q (gm_nf M n i)) (Q j) (Q (gm_nf M n j)))) ∧ ((t = 1 ∧ gm_tch M n Q i j) ∨ (t = 0 ∧ ¬ gm_tch M n Q i j)) ∧
      G_X9_isCrossed s (iZ (i : Int)) (iZ (Q j).1) (iZ (Q j).2) (iZ (Q (gm_nf M n j)).1) (iZ (Q (gm_nf M n j)).2) = some (iZ x) ∧ G_X9_areTouching s (iZ (i : Int)) (iZ (j : Int)) = some (iZ t) := by
    intro i j hi hj
    obtain ⟨t, ht, e⟩ := t_areTouching hs' hsd r1 hi hj
    exact ⟨_, t, gm_bx_01 _ _ _ _, ht, t_isCrossed hsd hi h40 (r1 _ hi) (r1 _ (gm_nf_lt hi)) (r1 _ hj) (r1 _ (gm_nf_lt hj)), e⟩
  have inner : ∀ (k6 : Mod → Int32 → Int32 → Int32 → Option (Int32 × Mod)) (i : Nat) (a b : Int), i < gm_fst M n → (a = 0 ∨ a = 1) → (b = 0 ∨ b = 1) →
      ∃ a' b' : Int, ((a' = 0 ∨ a' = 1) ∧ (b' = 0 ∨ b' = 1) ∧ (a' = 1 ↔ a = 1 ∨ gm_some i (fun j => gm_tch M n Q i j)) ∧ (b' = 1 ↔ b = 1 ∨ gm_some i (fun j => gm_X (Q i) (Q (gm_nf M n i)) (Q j) (Q (gm_nf M n j))))) ∧
        G_X9_broken_L117 k6 FU s 0 (iZ (i : Int)) (iZ a) (iZ b) = k6 s (iZ ((i : Int) + 1)) (iZ a') (iZ b') := by
    intro k6 i a b hi f1 f2
    suffices hh : ∃ f' : Int × Int, ((f'.1 = 0 ∨ f'.1 = 1) ∧ (f'.2 = 0 ∨ f'.2 = 1) ∧ (f'.1 = 1 ↔ a = 1 ∨ gm_some i (fun j => gm_tch M n Q i j)) ∧ (f'.2 = 1 ↔ b = 1 ∨ gm_some i (fun j => gm_X (Q i) (Q (gm_nf M n i)) (Q j) (Q (gm_nf M n j))))) ∧
        G_X9_broken_L117 k6 FU s 0 (iZ (i : Int)) (iZ a) (iZ b) = k6 s (iZ ((i : Int) + 1)) (iZ f'.1) (iZ f'.2) from by
      obtain ⟨⟨a', b'⟩, h⟩ := hh
      exact ⟨a', b', h⟩
    refine lp_inv (L := fun q (f : Int × Int) c => G_X9_broken_L117 k6 q s c (iZ (i : Int)) (iZ f.1) (iZ f.2)) (N := i)
      (I := fun c f' => (f'.1 = 0 ∨ f'.1 = 1) ∧ (f'.2 = 0 ∨ f'.2 = 1) ∧ (f'.1 = 1 ↔ a = 1 ∨ gm_some c (fun j => gm_tch M n Q i j)) ∧ (f'.2 = 1 ↔ b = 1 ∨ gm_some c (fun j => gm_X (Q i) (Q (gm_nf M n i)) (Q j) (Q (gm_nf M n j))))) (K := fun f' => k6 s (iZ ((i : Int) + 1)) (iZ f'.1) (iZ f'.2))
      (fun q c g hc hI => ?_) (fun q g hI => ?_) i 0 FU (a, b) (by omega) (by unfold FU; omega) ⟨f1, f2, ⟨fun e => Or.inl e, fun e => by rcases e with e | e; exact e; exact absurd e (gm_some_0 _)⟩, ⟨fun e => Or.inl e, fun e => by rcases e with e | e; exact e; exact absurd e (gm_some_0 _)⟩⟩
    · obtain ⟨g1, g2⟩ := g
      obtain ⟨i1, i2, i3, i4⟩ := hI
      dsimp only at i1 i2 i3 i4
      have hc' : c < gm_fst M n := by clear i3 i4; omega
      obtain ⟨x, t, hx, ht, ex, et⟩ := val i c hi hc'
      obtain ⟨-, -, e1, e2, e3, e4⟩ := rdx c hc'
      have x01 : x = 0 ∨ x = 1 := by rcases hx with q | q; exact Or.inr q.1; exact Or.inl q.1
      have t01 : t = 0 ∨ t = 1 := by rcases ht with q | q; exact Or.inr q.1; exact Or.inl q.1
      have tt : t = 1 ↔ gm_tch M n Q i c := by
        rcases ht with q | q
        · exact ⟨fun _ => q.2, fun _ => q.1⟩
        · exact ⟨fun w => absurd (w.symm.trans q.1) (by decide), fun w => absurd w q.2⟩
      have xx : x = 1 ↔ gm_X (Q i) (Q (gm_nf M n i)) (Q c) (Q (gm_nf M n c)) := by
        rcases hx with q | q
        · exact ⟨fun _ => q.2, fun _ => q.1⟩
        · exact ⟨fun w => absurd (w.symm.trans q.1) (by decide), fun w => absurd w q.2⟩
      have j1 : (if g1 = 0 then t else 1) = 1 ↔ g1 = 1 ∨ t = 1 := by clear i3 i4 tt xx hx ht val e1 e2 e3 e4 ex et; split <;> omega
      have j2 : (if g2 = 0 then x else 1) = 1 ↔ g2 = 1 ∨ x = 1 := by clear i3 i4 tt xx hx ht val e1 e2 e3 e4 ex et; split <;> omega
      refine ⟨(if g1 = 0 then t else 1, if g2 = 0 then x else 1), ⟨?_, ?_, ?_, ?_⟩, ?_⟩
      · dsimp only; clear i3 i4 tt xx hx ht val e1 e2 e3 e4 ex et; split <;> omega
      · dsimp only; clear i3 i4 tt xx hx ht val e1 e2 e3 e4 ex et; split <;> omega
      · dsimp only
        rw [j1, i3, tt, gm_some_s, or_assoc]
      · dsimp only
        rw [j2, i4, xx, gm_some_s, or_assoc]
      · clear i3 i4 tt xx hx ht j1 j2
        rw [G_X9_broken_L117, ite_le (by omega), if_neg (by omega)]
        simp only [e1, e2, e3, e4, Option.bind_some, ex, et]
        have idf : ∀ {z : Int}, (z = 0 ∨ z = 1) → ((if iZ z = 0 then some 0 else some 1) : Option Int32) = some (iZ z) := by
          intro z hz
          rcases hz with rfl | rfl <;> rfl
        rw [idf x01, idf t01, iZ_0, ite_eq (by omega), ite_eq (by omega), iZ_1]
        have bi : ∀ {cnd : Prop} {i : Decidable cnd} {u v : Int}, (@ite (Option Int32) cnd i (some (iZ u)) (some (iZ v))) = some (iZ (if cnd then u else v)) := by intro cnd i u v; split <;> rfl
        rw [bi, Option.bind_some, bi, Option.bind_some, iZ_add]
    · rw [G_X9_broken_L117, ite_le (by omega), if_pos (by omega), iZ_1, iZ_add]
  obtain ⟨⟨f1v, f2v⟩, ⟨f1, f2, f3, f4⟩, e⟩ := lp_inv (L := fun q (f : Int × Int) c => G_X9_broken_L106 q s c (iZ f.1) (iZ f.2)) (N := gm_fst M n)
    (I := fun c f' => (f'.1 = 0 ∨ f'.1 = 1) ∧ (f'.2 = 0 ∨ f'.2 = 1) ∧ (f'.1 = 1 ↔ gm_some c (fun i => gm_some i (fun j => gm_tch M n Q i j))) ∧ (f'.2 = 1 ↔ gm_some c (fun i => gm_some i (fun j => gm_X (Q i) (Q (gm_nf M n i)) (Q j) (Q (gm_nf M n j)))))) (K := fun f' => (if iZ f'.2 = 0 then (if iZ f'.1 = 0 then (G_X9_isRule5 s).bind (fun v218 => if v218 = 0 then some (5, s) else some (0, s)) else some (4, s)) else some (3, s)))
    (fun q c g hc hI => by
      obtain ⟨i1, i2, i3, i4⟩ := hI
      obtain ⟨g1', g2', ⟨j1, j2, j3, j4⟩, e⟩ := inner (G_X9_broken_L106 q) c g.1 g.2 hc i1 i2
      refine ⟨(g1', g2'), ⟨j1, j2, ?_, ?_⟩, ?_⟩
      · show g1' = 1 ↔ _
        rw [j3, i3, gm_some_s]
      · show g2' = 1 ↔ _
        rw [j4, i4, gm_some_s]
      · clear i1 i2 i3 i4 j1 j2 j3 j4
        rw [G_X9_broken_L106, hsd.1, ite_le (by omega), if_neg (by omega)]
        exact e)
    (fun q g hI => by
      clear hI
      rw [G_X9_broken_L106, hsd.1, ite_le (by omega), if_pos (by omega)])
    (gm_fst M n) 0 FU (0, 0) (by omega) (by unfold FU; omega) ⟨Or.inl rfl, Or.inl rfl, ⟨fun e => absurd e (by decide), fun q => absurd q (gm_some_0 _)⟩, ⟨fun e => absurd e (by decide), fun q => absurd q (gm_some_0 _)⟩⟩
  dsimp only at f1 f2 f3 f4
  have e : G_X9_broken_L106 FU s 0 0 0 = (if iZ f2v = 0 then (if iZ f1v = 0 then (G_X9_isRule5 s).bind (fun v218 => if v218 = 0 then some (5, s) else some (0, s)) else some (4, s)) else some (3, s)) := e
  rw [e, iZ_0, ite_eq (by clear f3 f4; omega), ite_eq (by clear f3 f4; omega)]
  by_cases x0 : f2v = 0
  · have r3 : gm_R3 M n Q := fun i hi j hj z => by have := f4.mpr ⟨i, hi, j, hj, z⟩; clear f3 f4; omega
    rw [if_pos x0]
    have r4i := gm_R4_iff h3 r2 r3
    by_cases t0 : f1v = 0
    · have r4 : gm_R4 M n Q := r4i.mpr (fun i hi j hj z => by have := f3.mpr ⟨i, hi, j, hj, z⟩; clear f3 f4; omega)
      rw [if_pos t0]
      obtain ⟨v, hv, ev⟩ := t_isRule5 hs' hn h3 r1 r2 r3 r4
      rw [ev, Option.bind_some]
      rcases hv with ⟨v1, r5⟩ | ⟨v1, r5⟩
      · rw [v1, ite_eq (by omega), if_neg (by omega)]
        exact ⟨0, s, by decide, Or.inr (Or.inr (Or.inr (Or.inr (Or.inr ⟨r1, r2, r3, r4, r5, rfl⟩)))), rfl, hst, hsm⟩
      · rw [v1, if_pos rfl]
        exact ⟨5, s, by decide, Or.inr (Or.inr (Or.inr (Or.inr (Or.inl ⟨r1, r2, r3, r4, r5, rfl⟩)))), rfl, hst, hsm⟩
    · rw [if_neg t0]
      refine ⟨4, s, by decide, Or.inr (Or.inr (Or.inr (Or.inl ⟨r1, r2, r3, fun r4 => ?_, rfl⟩))), rfl, hst, hsm⟩
      obtain ⟨i, hi, j, hj, z⟩ := f3.mp (by clear f3 f4; omega)
      exact r4i.mp r4 i hi j hj z
  · rw [if_neg x0]
    refine ⟨3, s, by decide, Or.inr (Or.inr (Or.inl ⟨r1, r2, fun r3 => ?_, rfl⟩)), rfl, hst, hsm⟩
    obtain ⟨i, hi, j, hj, z⟩ := f4.mp (by clear f3 f4; omega)
    exact r3 i hi j hj z
end REF
