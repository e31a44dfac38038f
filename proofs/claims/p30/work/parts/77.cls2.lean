/-! the first class: inside a ring; the fifth rule; the first broken rule -/
theorem gm_pc_off {p a b : Pt} (h : ¬ gm_on a b p) : (gm_pc p a b = 0 ∧ gm_c p a b = 0) ∨ (gm_pc p a b = 1 ∧ (gm_c p a b = 1 ∨ gm_c p a b = -1)) := by
  have c1 : gm_cr a b p = 0 → ¬ ((a.2 ≤ p.2 ∧ p.2 < b.2) ∨ (b.2 ≤ p.2 ∧ p.2 < a.2)) := fun q r => h (gm_on_row q r)
  unfold gm_pc gm_c
  generalize gm_cr a b p = X at c1 ⊢
  (repeat' split) <;> omega
theorem gm_pc_01 (p a b : Pt) : gm_pc p a b = 0 ∨ gm_pc p a b = 1 := by
  unfold gm_pc
  split <;> simp
theorem bck_01 {z : Int} (h : z = 0 ∨ z = 1) : bck (iZ z) = some (iZ z) := by
  rcases h with rfl | rfl
  · exact if_pos (Or.inl rfl)
  · exact if_pos (Or.inr rfl)
/-- the ring r with doubled corners -/
def gm_P2 (M : Nat → Nat) (Q : Nat → Pt) (r k : Nat) : Pt := gm_sc 2 (gm_P M Q r k)
def gm_off2 (M : Nat → Nat) (Q : Nat → Pt) (r : Nat) (p : Pt) : Prop := ∀ k, k < M r → ¬ gm_on (gm_P2 M Q r k) (gm_P2 M Q r (gm_nx (M r) k)) p
section CLASS
variable {f : Fig} {M : Nat → Nat} {n : Nat} {Q : Nat → Pt}
theorem s_surrounds (h : RF f M n Q) (r1 : gm_R1 M n Q) {r : Nat} (hr : r < n) {p : Pt} (hp : 0 ≤ p.1 ∧ p.1 ≤ 30 ∧ 0 ≤ p.2 ∧ p.2 ≤ 30) :
    ∃ z : Int, (z = 0 ∨ z = 1) ∧ G_X1_surrounds f (iZ (r : Int)) (iZ p.1) (iZ p.2) = some (iZ z) ∧ (gm_off2 M Q r p → z = gm_w (M r) (gm_P2 M Q r) p % 2) := by
  have h40 := h.n40
  have hM := h.2.2.2.1 r hr
  have hle : gm_fst M (r + 1) ≤ gm_fst M n := gm_fst_le hr
  have hle2 : gm_fst M (r + 1) = gm_fst M r + M r := rfl
  obtain ⟨z, ⟨i1, i2⟩, e⟩ := lp_inv (L := fun k (z : Int) c => G_X1_surrounds_L24 f k c (iZ ((gm_fst M r + M r : Nat) : Int)) (iZ z) (iZ p.1) (iZ p.2)) (N := gm_fst M r + M r)
    (I := fun c z => (z = 0 ∨ z = 1) ∧ (gm_off2 M Q r p → z = gm_sum (c - gm_fst M r) (fun k => gm_c p (gm_P2 M Q r k) (gm_P2 M Q r (gm_nx (M r) k))) % 2 ∧ gm_fst M r ≤ c) ∧ gm_fst M r ≤ c)
    (K := fun z => some (iZ z))
    (fun k c z hc hI => by
      obtain ⟨z01, zp, hlo⟩ := hI
      obtain ⟨j, rfl⟩ : ∃ j, c = gm_fst M r + j := ⟨c - gm_fst M r, by omega⟩
      have hj : j < M r := by omega
      have hc' := gm_fst_lt hr hj
      have hd := gm_nf_lt hc'
      have pv := s_pass h hc' (r1 _ hc') (r1 _ hd) hp
      rw [gm_nf_eq hr hj] at pv
      have pc := gm_pc_01 p (gm_sc 2 (Q (gm_fst M r + j))) (gm_sc 2 (Q (gm_fst M r + gm_nx (M r) j)))
      refine ⟨if gm_pc p (gm_sc 2 (Q (gm_fst M r + j))) (gm_sc 2 (Q (gm_fst M r + gm_nx (M r) j))) = 0 then z else 1 - z, ⟨by split <;> omega, fun off => ?_, by omega⟩, ?_⟩
      · obtain ⟨zp, -⟩ := zp off
        refine ⟨?_, by omega⟩
        rw [show gm_fst M r + j + 1 - gm_fst M r = j + 1 by omega]
        rw [Nat.add_sub_cancel_left] at zp
        have o := gm_pc_off (off j hj)
        show _ = (gm_sum j _ + gm_c p (gm_P2 M Q r j) (gm_P2 M Q r (gm_nx (M r) j))) % 2
        have e1 : gm_pc p (gm_P2 M Q r j) (gm_P2 M Q r (gm_nx (M r) j)) = gm_pc p (gm_sc 2 (Q (gm_fst M r + j))) (gm_sc 2 (Q (gm_fst M r + gm_nx (M r) j))) := rfl
        rw [e1] at o
        split <;> omega
      · rw [G_X1_surrounds_L24, ite_le (by omega), if_neg (by omega), pv, Option.bind_some, iZ_0, iZ_1, ite_eq (by omega), ind_eq (by omega), Option.bind_some]
        unfold G_X1_surrounds_j54
        rw [iZ_1, iZ_add]
        rcases pc with q | q <;> rw [q]
        · rfl
        · simp only [show ¬ ((1 : Int) = 0) from by decide, if_false]
          rcases z01 with rfl | rfl <;> rfl)
    (fun k z hI => by
      rw [G_X1_surrounds_L24, ite_le (by omega), if_pos (by omega), bck_01 hI.1, Option.bind_some])
    (M r) (gm_fst M r) FU 0 rfl (by unfold FU; omega) ⟨Or.inl rfl, fun _ => ⟨by rw [Nat.sub_self]; rfl, Nat.le_refl _⟩, Nat.le_refl _⟩
  refine ⟨z, i1, ?_, fun off => ?_⟩
  · unfold G_X1_surrounds
    rw [s_firstOf h (by omega), Option.bind_some, s_sizeOf h hr, Option.bind_some, iZ_add]
    have : ((gm_fst M r : Nat) : Int) + (M r : Nat) = ((gm_fst M r + M r : Nat) : Int) := by omega
    rw [this]
    exact e
  · have := (i2.1 off).1
    rw [Nat.add_sub_cancel_left] at this
    exact this
theorem s_inSomeHole (h : RF f M n Q) (r1 : gm_R1 M n Q) (hn : 1 ≤ n) {p : Pt} (hp : 0 ≤ p.1 ∧ p.1 ≤ 30 ∧ 0 ≤ p.2 ∧ p.2 ≤ 30) :
    ∃ z : Int, (z = 0 ∨ z = 1) ∧ G_X1_inSomeHole f (iZ p.1) (iZ p.2) = some (iZ z) ∧ ((∀ r, r < n → gm_off2 M Q r p) → (z = 1 ↔ ∃ r, 1 ≤ r ∧ r < n ∧ gm_w (M r) (gm_P2 M Q r) p % 2 = 1)) := by
  have h4 := h.2.2.1
  have lp := lp_ex (L := fun k c => G_X1_inSomeHole_L2 f k c (iZ p.1) (iZ p.2)) (N := n) (T := fun r => G_X1_surrounds f (iZ (r : Int)) (iZ p.1) (iZ p.2) = some (iZ 1)) (r1 := some 1) (r0 := some 0)
    (fun k r hr ht => by
      rw [G_X1_inSomeHole_L2, h.1, ite_le (by omega), if_neg (by omega), ht, Option.bind_some, iZ_0, ite_eq (by omega), if_neg (by omega)])
    (fun k r hr ht => by
      obtain ⟨z, z01, e, -⟩ := s_surrounds h r1 hr hp
      have z0 : z = 0 := by
        rcases z01 with q | q
        · exact q
        · rw [q] at e; exact absurd e ht
      rw [G_X1_inSomeHole_L2, h.1, ite_le (by omega), if_neg (by omega), e, Option.bind_some, iZ_0, ite_eq (by omega), if_pos z0, iZ_1, iZ_add])
    (fun k => by rw [G_X1_inSomeHole_L2, h.1, ite_le (by omega), if_pos (by omega)])
    (n - 1) 1 FU (by omega) (by unfold FU; omega)
  have tr : ∀ r, r < n → gm_off2 M Q r p → (G_X1_surrounds f (iZ (r : Int)) (iZ p.1) (iZ p.2) = some (iZ 1) ↔ gm_w (M r) (gm_P2 M Q r) p % 2 = 1) := by
    intro r hr off
    obtain ⟨z, z01, e, ez⟩ := s_surrounds h r1 hr hp
    rw [e, ← ez off]
    constructor
    · intro q
      have q := Option.some.inj q
      rw [iZ_eq (by omega) (by omega) (by omega) (by omega)] at q
      exact q
    · intro q; rw [q]
  unfold G_X1_inSomeHole
  rcases lp with ⟨⟨r, c1, c2, c3⟩, e⟩ | ⟨a, e⟩
  · exact ⟨1, Or.inr rfl, e, fun off => ⟨fun _ => ⟨r, c1, c2, (tr r c2 (off r c2)).mp c3⟩, fun _ => rfl⟩⟩
  · exact ⟨0, Or.inl rfl, e, fun off => ⟨fun q => absurd q (by decide), fun ⟨r, q1, q2, q3⟩ => absurd ((tr r q2 (off r q2)).mpr q3) (a r q1 q2)⟩⟩
theorem gm_P2_off {r s k : Nat} (h : gm_apart (M s) (gm_P M Q s) (M r) (gm_P M Q r)) (hk : k < M r) : gm_off2 M Q s (gm_P2 M Q r k) :=
  gm_apart_off (gm_apart_sc (show (0 : Int) < 2 by omega) h) hk (z := gm_P2 M Q r k) gm_on_beg
/-- off a simple ring: an odd winding is one that isn't 0 -/
theorem gm_odd {m : Nat} {P : Nat → Pt} (hs : gm_simple m P) {p : Pt} (off : ∀ k, k < m → ¬ gm_on (P k) (P (gm_nx m k)) p) : gm_w m P p % 2 = 1 ↔ gm_w m P p ≠ 0 := by
  have h1 := gm_off hs off
  have h2 := gm_l_01 hs
  omega
theorem gm_odd2 {r : Nat} (hs : gm_simple (M r) (gm_P M Q r)) {p : Pt} (off : gm_off2 M Q r p) : gm_w (M r) (gm_P2 M Q r) p % 2 = 1 ↔ gm_w (M r) (gm_P2 M Q r) p ≠ 0 :=
  gm_odd (P := gm_P2 M Q r) (gm_sc_simple (show (0 : Int) < 2 by omega) hs) off
theorem gm_w2 (r : Nat) (p : Pt) : gm_w (M r) (gm_P2 M Q r) (gm_sc 2 p) = gm_w (M r) (gm_P M Q r) p := gm_sc_w (show (0 : Int) < 2 by omega) (M r) (gm_P M Q r) p
theorem s_hasLostHole (h : RF f M n Q) (h3 : ∀ r, r < n → 3 ≤ M r) (hn : 1 ≤ n) (r1 : gm_R1 M n Q) (r2 : gm_R2 M n Q) (r3 : gm_R3 M n Q) (r4 : gm_R4 M n Q) : (gm_R5 M n Q ∧ G_X4_hasLostHole f = some 0) ∨ (¬ gm_R5 M n Q ∧ G_X4_hasLostHole f = some 1) := by
  have h4 := h.2.2.1
  have h40 := h.n40
  have sv : ∀ r s, r < n → s < n → ∃ z : Int, (z = 0 ∨ z = 1) ∧ G_X1_surrounds f (iZ (s : Int)) (iZ (2 * (gm_P M Q r 0).1)) (iZ (2 * (gm_P M Q r 0).2)) = some (iZ z) ∧ (s ≠ r → (z = 1 ↔ gm_w (M s) (gm_P M Q s) (gm_P M Q r 0) ≠ 0)) := by
    intro r s hr hs
    have p0 : 0 < M r := by have := h3 r hr; omega
    have pp := r1 _ (gm_fst_lt hr p0)
    unfold gm_paper at pp
    have pp2 : 0 ≤ (gm_P2 M Q r 0).1 ∧ (gm_P2 M Q r 0).1 ≤ 30 ∧ 0 ≤ (gm_P2 M Q r 0).2 ∧ (gm_P2 M Q r 0).2 ≤ 30 := by
      have e1 : (gm_P2 M Q r 0).1 = 2 * (Q (gm_fst M r + 0)).1 := rfl
      have e2 : (gm_P2 M Q r 0).2 = 2 * (Q (gm_fst M r + 0)).2 := rfl
      omega
    obtain ⟨z, z01, e, ez⟩ := s_surrounds h r1 hs pp2
    refine ⟨z, z01, e, fun hne => ?_⟩
    have off := gm_P2_off (gm_flat_apart r2 r3 r4 hs hr hne) p0
    rw [ez off, gm_odd2 (gm_flat_simple h3 r2 r3 r4 hs) off]
    rw [show gm_w (M s) (gm_P2 M Q s) (gm_P2 M Q r 0) = gm_w (M s) (gm_P M Q s) (gm_P M Q r 0) from gm_w2 s (gm_P M Q r 0)]
  have inner : ∀ (k2 : Int32 → Option Int32) (r : Nat), r < n → ((∃ s, s < n ∧ (s ≠ r ∧ ¬ (gm_w (M s) (gm_P M Q s) (gm_P M Q r 0) ≠ 0 ↔ s = 0))) ∧ G_X4_hasLostHole_L18 k2 f FU 0 (iZ (gm_fst M r : Nat)) (iZ (r : Int)) = some 1) ∨
      ((∀ s, s < n → ¬ (s ≠ r ∧ ¬ (gm_w (M s) (gm_P M Q s) (gm_P M Q r 0) ≠ 0 ↔ s = 0))) ∧ G_X4_hasLostHole_L18 k2 f FU 0 (iZ (gm_fst M r : Nat)) (iZ (r : Int)) = k2 (iZ ((r : Int) + 1))) := by
    intro k2 r hr
    have p0 : 0 < M r := by have := h3 r hr; omega
    have hc : gm_fst M r < gm_fst M n := gm_fst_lt hr p0
    have lp := lp_ex (L := fun k c => G_X4_hasLostHole_L18 k2 f k c (iZ (gm_fst M r : Nat)) (iZ (r : Int))) (N := n) (T := fun s => s ≠ r ∧ ¬ (gm_w (M s) (gm_P M Q s) (gm_P M Q r 0) ≠ 0 ↔ s = 0)) (r1 := some 1) (r0 := k2 (iZ ((r : Int) + 1)))
      (fun k s hs ht => by
        obtain ⟨z, z01, e, ez⟩ := sv r s hr hs
        have ez := ez ht.1
        have e : G_X1_surrounds f (iZ (s : Int)) (iZ (2 * (Q (gm_fst M r)).1)) (iZ (2 * (Q (gm_fst M r)).2)) = some (iZ z) := e
        rw [G_X4_hasLostHole_L18, h.1, ite_le (by omega), if_neg (by omega), s_xOf h hc, Option.bind_some, s_yOf h hc, Option.bind_some, iZ_2, iZ_mul, iZ_mul, e, Option.bind_some, ite_eq (by omega), if_neg (by omega), iZ_0, iZ_1, ind_eq (by omega), Option.bind_some, ite_eq (by split <;> omega), if_neg]
        intro q
        refine ht.2 ?_
        rw [← ez]
        split at q <;> omega)
      (fun k s hs ht => by
        obtain ⟨z, z01, e, ez⟩ := sv r s hr hs
        have e : G_X1_surrounds f (iZ (s : Int)) (iZ (2 * (Q (gm_fst M r)).1)) (iZ (2 * (Q (gm_fst M r)).2)) = some (iZ z) := e
        rw [G_X4_hasLostHole_L18, h.1, ite_le (by omega), if_neg (by omega), s_xOf h hc, Option.bind_some, s_yOf h hc, Option.bind_some, iZ_2, iZ_mul, iZ_mul, e, Option.bind_some, ite_eq (by omega)]
        unfold G_X4_hasLostHole_j68
        by_cases c : s = r
        · rw [if_pos (by omega), iZ_1, iZ_add]
        · have ez := ez c
          have ht : (gm_w (M s) (gm_P M Q s) (gm_P M Q r 0) ≠ 0 ↔ s = 0) := Classical.byContradiction (fun q => ht ⟨c, q⟩)
          rw [← ez] at ht
          rw [if_neg (by omega), iZ_0, iZ_1, ind_eq (by omega), Option.bind_some, ite_eq (by split <;> omega), if_pos (by split <;> omega), iZ_add])
      (fun k => by rw [G_X4_hasLostHole_L18, h.1, ite_le (by omega), if_pos (by omega), iZ_1, iZ_add])
      n 0 FU (by omega) (by unfold FU; omega)
    rcases lp with ⟨⟨c, -, c2, c3⟩, e⟩ | ⟨a, e⟩
    · exact Or.inl ⟨⟨c, c2, c3⟩, e⟩
    · exact Or.inr ⟨fun b hb => a b (Nat.zero_le b) hb, e⟩
  have lp := lp_ex (L := fun k c => G_X4_hasLostHole_L2 f k c) (N := n) (T := fun r => ∃ s, s < n ∧ (s ≠ r ∧ ¬ (gm_w (M s) (gm_P M Q s) (gm_P M Q r 0) ≠ 0 ↔ s = 0))) (r1 := some 1) (r0 := some 0)
    (fun k r hr ht => by
      rw [G_X4_hasLostHole_L2, h.1, ite_le (by omega), if_neg (by omega), s_firstOf h (by omega), Option.bind_some]
      rcases inner (G_X4_hasLostHole_L2 f k) r hr with q | q
      · exact q.2
      · obtain ⟨b, hb, hx⟩ := ht
        exact absurd hx (q.1 b hb))
    (fun k r hr ht => by
      rw [G_X4_hasLostHole_L2, h.1, ite_le (by omega), if_neg (by omega), s_firstOf h (by omega), Option.bind_some]
      rcases inner (G_X4_hasLostHole_L2 f k) r hr with q | q
      · exact absurd q.1 ht
      · exact q.2)
    (fun k => by rw [G_X4_hasLostHole_L2, h.1, ite_le (by omega), if_pos (by omega)])
    (n - 1) 1 FU (by omega) (by unfold FU; omega)
  rcases lp with ⟨⟨r, q1, q2, s, hs, q3, q4⟩, e⟩ | ⟨a, e⟩
  · exact Or.inr ⟨fun q => q4 (q r q1 q2 s hs q3), e⟩
  · exact Or.inl ⟨fun r q1 q2 s hs q3 => Classical.byContradiction (fun q4 => a r q1 q2 ⟨s, hs, q3, q4⟩), e⟩
/-- the first rule that is broken -/
def gm_brk (M : Nat → Nat) (n : Nat) (Q : Nat → Pt) (z : Int) : Prop := (¬ gm_R1 M n Q ∧ z = 1) ∨ (gm_R1 M n Q ∧ ¬ gm_R2 M n Q ∧ z = 2) ∨ (gm_R1 M n Q ∧ gm_R2 M n Q ∧ ¬ gm_R3 M n Q ∧ z = 3) ∨ (gm_R1 M n Q ∧ gm_R2 M n Q ∧ gm_R3 M n Q ∧ ¬ gm_R4 M n Q ∧ z = 4) ∨
  (gm_R1 M n Q ∧ gm_R2 M n Q ∧ gm_R3 M n Q ∧ gm_R4 M n Q ∧ ¬ gm_R5 M n Q ∧ z = 5) ∨ (gm_R1 M n Q ∧ gm_R2 M n Q ∧ gm_R3 M n Q ∧ gm_R4 M n Q ∧ gm_R5 M n Q ∧ z = 0)
theorem gm_brk_un {z y : Int} (h1 : gm_brk M n Q z) (h2 : gm_brk M n Q y) : z = y := by
  unfold gm_brk at h1 h2
  rcases h1 with a | a | a | a | a | a <;> rcases h2 with b | b | b | b | b | b
  all_goals first | (have p := a.2.2.2.2.2; have q := b.2.2.2.2.2; omega) | (obtain ⟨a1, a2⟩ := a; obtain ⟨b1, b2⟩ := b; first | (have := a2; have := b2; omega) | exact absurd b1 a1 | exact absurd a1 b1 | skip)
  all_goals (try (obtain ⟨a2, a3⟩ := a2)); (try (obtain ⟨b2, b3⟩ := b2)); first | omega | exact absurd b2 a2 | exact absurd a2 b2 | skip
  all_goals (try (obtain ⟨a3, a4⟩ := a3)); (try (obtain ⟨b3, b4⟩ := b3)); first | omega | exact absurd b3 a3 | exact absurd a3 b3 | skip
  all_goals (try (obtain ⟨a4, a5⟩ := a4)); (try (obtain ⟨b4, b5⟩ := b4)); first | omega | exact absurd b4 a4 | exact absurd a4 b4 | skip
  all_goals (try (obtain ⟨a5, a6⟩ := a5)); (try (obtain ⟨b5, b6⟩ := b5)); first | omega | exact absurd b5 a5 | exact absurd a5 b5 | skip
theorem s_firstBroken (h : RF f M n Q) (hq : gm_fit M n Q) (h3 : ∀ r, r < n → 3 ≤ M r) (hn : 1 ≤ n) : ∃ z : Int, 0 ≤ z ∧ z ≤ 5 ∧ gm_brk M n Q z ∧ G_X4_firstBroken f = some (iZ z) := by
  unfold G_X4_firstBroken
  rcases s_leavesPaper h hq with ⟨r1, e⟩ | ⟨r1, e⟩ <;> rw [e, Option.bind_some]
  · rw [if_pos rfl]
    rcases s_hasEmptySide h r1 with ⟨r2, e⟩ | ⟨r2, e⟩ <;> rw [e, Option.bind_some]
    · rw [if_pos rfl]
      rcases s_hasCrossing h r1 with ⟨r3, e⟩ | ⟨r3, e⟩ <;> rw [e, Option.bind_some]
      · rw [if_pos rfl]
        rcases s_hasTouching h r1 with ⟨r4, e⟩ | ⟨r4, e⟩ <;> rw [e, Option.bind_some]
        · rw [if_pos rfl]
          rcases s_hasLostHole h h3 hn r1 r2 r3 r4 with ⟨r5, e⟩ | ⟨r5, e⟩ <;> rw [e, Option.bind_some]
          · rw [if_pos rfl]
            exact ⟨0, by omega, by omega, Or.inr (Or.inr (Or.inr (Or.inr (Or.inr ⟨r1, r2, r3, r4, r5, rfl⟩)))), rfl⟩
          · rw [if_neg (by decide)]
            exact ⟨5, by omega, by omega, Or.inr (Or.inr (Or.inr (Or.inr (Or.inl ⟨r1, r2, r3, r4, r5, rfl⟩)))), rfl⟩
        · rw [if_neg (by decide)]
          exact ⟨4, by omega, by omega, Or.inr (Or.inr (Or.inr (Or.inl ⟨r1, r2, r3, r4, rfl⟩))), rfl⟩
      · rw [if_neg (by decide)]
        exact ⟨3, by omega, by omega, Or.inr (Or.inr (Or.inl ⟨r1, r2, r3, rfl⟩)), rfl⟩
    · rw [if_neg (by decide)]
      exact ⟨2, by omega, by omega, Or.inr (Or.inl ⟨r1, r2, rfl⟩), rfl⟩
  · rw [if_neg (by decide)]
    exact ⟨1, by omega, by omega, Or.inl ⟨r1, rfl⟩, rfl⟩
end CLASS
