/-! the first class: seeing, ears, cuttings -/
def gm_mid (Q : Nat → Pt) (a b : Nat) : Pt := ((Q a).1 + (Q b).1, (Q a).2 + (Q b).2)
def gm_sees (M : Nat → Nat) (n : Nat) (Q : Nat → Pt) (a b : Nat) : Prop := a ≠ b ∧ gm_free M n Q a b ∧ gm_w (M 0) (gm_P2 M Q 0) (gm_mid Q a b) ≠ 0 ∧ ∀ r, 1 ≤ r → r < n → gm_w (M r) (gm_P2 M Q r) (gm_mid Q a b) = 0
noncomputable def gm_si (M : Nat → Nat) (n : Nat) (Q : Nat → Pt) (a b : Nat) : Int := @ite Int (gm_sees M n Q a b) (Classical.propDecidable _) 1 0
theorem gm_si_1 {M : Nat → Nat} {n : Nat} {Q : Nat → Pt} {a b : Nat} (h : gm_sees M n Q a b) : gm_si M n Q a b = 1 := if_pos h
theorem gm_si_0 {M : Nat → Nat} {n : Nat} {Q : Nat → Pt} {a b : Nat} (h : ¬ gm_sees M n Q a b) : gm_si M n Q a b = 0 := if_neg h
theorem gm_si_01 (M : Nat → Nat) (n : Nat) (Q : Nat → Pt) (a b : Nat) : (gm_si M n Q a b = 1 ∧ gm_sees M n Q a b) ∨ (gm_si M n Q a b = 0 ∧ ¬ gm_sees M n Q a b) := by
  by_cases h : gm_sees M n Q a b
  · exact Or.inl ⟨gm_si_1 h, h⟩
  · exact Or.inr ⟨gm_si_0 h, h⟩
theorem gm_free_sym {M : Nat → Nat} {n : Nat} {Q : Nat → Pt} {a b : Nat} (h : gm_free M n Q a b) : gm_free M n Q b a := by
  obtain ⟨h1, h2, h3⟩ := h
  refine ⟨h2, h1, fun c hc => ⟨fun q => (h3 c hc).1 ⟨q.2.1, q.1, gm_on_sw q.2.2⟩, fun q => (h3 c hc).2 ?_⟩⟩
  obtain ⟨q1, q2⟩ := q
  rw [gm_cr_swap (Q a), gm_cr_swap (Q a), Int.neg_mul_neg] at q1
  exact ⟨q1, by rw [Int.mul_comm]; exact q2⟩
theorem gm_mid_sym (Q : Nat → Pt) (a b : Nat) : gm_mid Q a b = gm_mid Q b a := Prod.ext (Int.add_comm _ _) (Int.add_comm _ _)
theorem gm_sees_sym {M : Nat → Nat} {n : Nat} {Q : Nat → Pt} {a b : Nat} (h : gm_sees M n Q a b) : gm_sees M n Q b a := by
  obtain ⟨h1, h2, h3, h4⟩ := h
  exact ⟨fun e => h1 e.symm, gm_free_sym h2, by rw [gm_mid_sym]; exact h3, by rw [gm_mid_sym]; exact h4⟩
theorem gm_si_sym (M : Nat → Nat) (n : Nat) (Q : Nat → Pt) (a b : Nat) : gm_si M n Q a b = gm_si M n Q b a := by
  rcases gm_si_01 M n Q a b with h | h
  · rw [h.1, gm_si_1 (gm_sees_sym h.2)]
  · rw [h.1, gm_si_0 (fun q => h.2 (gm_sees_sym q))]
/-- a sum as the machine has it -/
def gm_csum (g : Nat → Int32) : Nat → Int32
  | 0 => 0
  | k + 1 => gm_csum g k + g k
/-- the ways to cut, by the span of a part -/
noncomputable def gm_cut (M : Nat → Nat) (n : Nat) (Q : Nat → Pt) : Nat → Nat → Nat → Int32
  | 0, _, _ => 0
  | s + 1, a, b => if b = a + (s + 1) then (if s = 0 then 1 else if gm_nx (M 0) b = a ∨ gm_si M n Q a b = 1 then gm_csum (fun t => gm_cut M n Q s a (a + 1 + t) * gm_cut M n Q s (a + 1 + t) b) s else 0) else gm_cut M n Q s a b
section CLASS
variable {f : Fig} {M : Nat → Nat} {n : Nat} {Q : Nat → Pt}
theorem gm_mid_off2 (hok : gm_ok M n Q) {a b : Nat} (ha : a < gm_fst M n) (hb : b < gm_fst M n) (hne : a ≠ b) (hf : gm_free M n Q a b) {r : Nat} (hr : r < n) : gm_off2 M Q r (gm_mid Q a b) := by
  intro k hk q
  have := gm_mid_off (fun r hr => (hok.2.1 r hr).1) hok.2.2.2.1 hok.2.2.2.2.1 hok.2.2.2.2.2.1 ha hb hne hf (gm_fst_lt hr hk)
  rw [gm_nf_eq hr hk] at this
  exact this q
theorem s_between (h : RF f M n Q) (hok : gm_ok M n Q) {a b : Nat} (ha : a < gm_fst M n) (hb : b < gm_fst M n) : G_X6_between f (iZ (a : Int)) (iZ (b : Int)) = some (iZ (gm_si M n Q a b)) := by
  have hn := hok.1
  have h40 := h.n40
  have hg := gm_ok_good hok
  have pa := hok.2.2.1 a ha
  have pb := hok.2.2.1 b hb
  have ha' := gm_nf_lt ha
  have hb' := gm_nf_lt hb
  have mm : 0 ≤ (gm_mid Q a b).1 ∧ (gm_mid Q a b).1 ≤ 30 ∧ 0 ≤ (gm_mid Q a b).2 ∧ (gm_mid Q a b).2 ≤ 30 := by
    unfold gm_paper at pa pb
    have e1 : (gm_mid Q a b).1 = (Q a).1 + (Q b).1 := rfl
    have e2 : (gm_mid Q a b).2 = (Q a).2 + (Q b).2 := rfl
    omega
  obtain ⟨z, z01, e, ez⟩ := s_surrounds h hok.2.2.1 (r := 0) (by omega) mm
  obtain ⟨y, y01, e', ey⟩ := s_inSomeHole h hok.2.2.1 hn.1 mm
  have cl : ∀ c, c < gm_fst M n → ∃ u v : Int, G_X1_cornerOnLine f (iZ (c : Int)) (iZ (a : Int)) (iZ (b : Int)) = some (iZ u) ∧ G_X1_linesCross f (iZ (a : Int)) (iZ (b : Int)) (iZ (c : Int)) (iZ (gm_nf M n c : Nat)) = some (iZ v) ∧
      ((u = 1 ∧ (c ≠ a ∧ c ≠ b ∧ gm_on (Q a) (Q b) (Q c))) ∨ (u = 0 ∧ ¬ (c ≠ a ∧ c ≠ b ∧ gm_on (Q a) (Q b) (Q c)))) ∧ ((v = 1 ∧ gm_X (Q a) (Q b) (Q c) (Q (gm_nf M n c))) ∨ (v = 0 ∧ ¬ gm_X (Q a) (Q b) (Q c) (Q (gm_nf M n c)))) := by
    intro c hc
    have hd := gm_nf_lt hc
    refine ⟨_, _, s_cornerOnLine h hc ha hb (hok.2.2.1 c hc) pa pb, s_linesCross h ha hb hc hd pa pb (hok.2.2.1 c hc) (hok.2.2.1 _ hd), ?_, gm_bx_01 _ _ _ _⟩
    by_cases q : c ≠ a ∧ c ≠ b
    · rw [if_pos q]
      rcases gm_bo_01 (Q a) (Q b) (Q c) with k | k
      · exact Or.inl ⟨k.1, q.1, q.2, k.2⟩
      · exact Or.inr ⟨k.1, fun z => k.2 z.2.2⟩
    · rw [if_neg q]
      exact Or.inr ⟨rfl, fun z => q ⟨z.1, z.2.1⟩⟩
  have lp := lp_ex (L := fun k c => G_X6_between_L27 f k c (iZ (a : Int)) (iZ (b : Int))) (N := gm_fst M n) (T := fun c => (c ≠ a ∧ c ≠ b ∧ gm_on (Q a) (Q b) (Q c)) ∨ gm_X (Q a) (Q b) (Q c) (Q (gm_nf M n c))) (r1 := some (iZ 0)) (r0 := some (iZ (if z = 0 then 0 else if y = 0 then 1 else 0)))
    (fun k c hc ht => by
      obtain ⟨u, v, e1, e2, hu, hv⟩ := cl c hc
      rw [G_X6_between_L27, h.2.1, ite_le (by omega), if_neg (by omega), e1, Option.bind_some, iZ_0, ite_eq (by omega)]
      by_cases u0 : u = 0
      · rw [if_pos u0, s_nextOf h hc, Option.bind_some, e2, Option.bind_some, ite_eq (by omega), if_neg]
        intro v0
        rcases ht with t | t
        · rcases hu with q | q
          · omega
          · exact q.2 t
        · rcases hv with q | q
          · omega
          · exact q.2 t
      · rw [if_neg u0])
    (fun k c hc ht => by
      obtain ⟨u, v, e1, e2, hu, hv⟩ := cl c hc
      have u0 : u = 0 := by
        rcases hu with q | q
        · exact absurd (Or.inl q.2) ht
        · exact q.1
      have v0 : v = 0 := by
        rcases hv with q | q
        · exact absurd (Or.inr q.2) ht
        · exact q.1
      rw [G_X6_between_L27, h.2.1, ite_le (by omega), if_neg (by omega), e1, Option.bind_some, iZ_0, ite_eq (by omega), if_pos u0, s_nextOf h hc, Option.bind_some, e2, Option.bind_some, ite_eq (by omega), if_pos v0, iZ_1, iZ_add])
    (fun k => by
      have e : G_X1_surrounds f 0 (iZ ((Q a).1 + (Q b).1)) (iZ ((Q a).2 + (Q b).2)) = some (iZ z) := e
      have e' : G_X1_inSomeHole f (iZ ((Q a).1 + (Q b).1)) (iZ ((Q a).2 + (Q b).2)) = some (iZ y) := e'
      rw [G_X6_between_L27, h.2.1, ite_le (by omega), if_pos (by omega), s_xOf h ha, Option.bind_some, s_xOf h hb, Option.bind_some, s_yOf h ha, Option.bind_some, s_yOf h hb, Option.bind_some, iZ_add, iZ_add, e, Option.bind_some, e', Option.bind_some, iZ_0, iZ_1, ite_eq (by omega), ite_eq (by omega)]
      (repeat' split) <;> rfl)
    (gm_fst M n) 0 FU (by omega) (by unfold FU; omega)
  unfold G_X6_between
  rw [ite_eq (by omega), s_nextOf h ha, Option.bind_some, ite_eq (by omega), s_nextOf h hb, Option.bind_some, ite_eq (by omega)]
  by_cases c1 : a = b
  · rw [if_pos (by omega), gm_si_0 (fun q => q.1 c1)]; rfl
  rw [if_neg (by omega)]
  by_cases c2 : gm_nf M n a = b
  · rw [if_pos (by omega), gm_si_0 (fun q => q.2.1.1 c2)]; rfl
  rw [if_neg (by omega)]
  by_cases c3 : gm_nf M n b = a
  · rw [if_pos (by omega), gm_si_0 (fun q => q.2.1.2.1 c3)]; rfl
  rw [if_neg (by omega)]
  rcases lp with ⟨⟨c, -, q2, q3⟩, e⟩ | ⟨q, e⟩
  · refine Eq.trans e ?_
    rw [gm_si_0]
    intro s
    rcases q3 with t | t
    · exact (s.2.1.2.2 c q2).1 t
    · exact (s.2.1.2.2 c q2).2 t
  · refine Eq.trans e ?_
    have hf : gm_free M n Q a b := ⟨c2, c3, fun c hc => ⟨fun t => q c (Nat.zero_le c) hc (Or.inl t), fun t => q c (Nat.zero_le c) hc (Or.inr t)⟩⟩
    have o2 : ∀ r, r < n → gm_off2 M Q r (gm_mid Q a b) := fun r hr => gm_mid_off2 hok ha hb c1 hf hr
    have w : ∀ r, r < n → (gm_w (M r) (gm_P2 M Q r) (gm_mid Q a b) % 2 = 1 ↔ gm_w (M r) (gm_P2 M Q r) (gm_mid Q a b) ≠ 0) := fun r hr => gm_odd2 (hg.2.2.2.1 r hr) (o2 r hr)
    have z1 := ez (o2 0 (by omega))
    have y1 := ey o2
    have w0 := w 0 (by omega)
    refine congrArg (fun z => some (iZ z)) ?_
    by_cases cz : z = 0
    · rw [if_pos cz, gm_si_0]
      intro s
      have := w0.mpr s.2.2.1
      omega
    · rw [if_neg cz]
      by_cases cy : y = 0
      · rw [if_pos cy, gm_si_1]
        refine ⟨c1, hf, w0.mp (by omega), fun r r1 r2 => Classical.byContradiction (fun t => ?_)⟩
        have := y1.mpr ⟨r, r1, r2, (w r r2).mpr t⟩
        omega
      · rw [if_neg cy, gm_si_0]
        intro s
        obtain ⟨r, r1, r2, t⟩ := y1.mp (by omega)
        exact (w r r2).mp t (s.2.2.2 r r1 r2)
/-- how many corners a corner sees -/
noncomputable def gm_seen (M : Nat → Nat) (n : Nat) (Q : Nat → Pt) (a : Nat) : Int := gm_sum (gm_fst M n) (fun b => gm_si M n Q a b)
theorem s_seenFrom (h : RF f M n Q) (hok : gm_ok M n Q) {a : Nat} (ha : a < gm_fst M n) : G_X6_seenFrom f (iZ (a : Int)) = some (iZ (gm_seen M n Q a)) := by
  have h40 := h.n40
  have lp := lp_sum (L := fun k c z => G_X6_seenFrom_L4 f k c z (iZ (a : Int))) (N := gm_fst M n) (g := fun b => gm_si M n Q a b) (K := fun z => some (iZ z))
    (fun k c z hc => by
      rw [G_X6_seenFrom_L4, h.2.1, ite_le (by omega), if_neg (by omega), s_between h hok ha hc, Option.bind_some, iZ_0]
      unfold G_X6_seenFrom_j24
      rcases gm_si_01 M n Q a c with q | q
      · rw [q.1, ite_eq (by omega), if_neg (by omega), iZ_1, iZ_add, iZ_add]
      · rw [q.1, ite_eq (by omega), if_pos rfl, iZ_1, iZ_add, Int.add_zero])
    (fun k z => by rw [G_X6_seenFrom_L4, h.2.1, ite_le (by omega), if_pos (by omega)])
    (gm_fst M n) 0 FU 0 (by omega) (by unfold FU; omega)
  refine Eq.trans lp (congrArg (fun z => some (iZ z)) ?_)
  rw [Int.zero_add]
  exact gm_sum_congr (fun k hk => by rw [Nat.zero_add])
noncomputable def gm_pairs (M : Nat → Nat) (n : Nat) (Q : Nat → Pt) : Int := gm_sum (gm_fst M n) (fun a => gm_sum a (fun b => gm_si M n Q a b))
theorem s_pairs (h : RF f M n Q) (hok : gm_ok M n Q) : G_X6_pairs f = some (iZ (gm_pairs M n Q)) := by
  have h40 := h.n40
  have inner : ∀ (k4 : Int32 → Int32 → Option Int32) (a : Nat) (acc : Int), a < gm_fst M n → G_X6_pairs_L14 k4 f FU 0 (iZ (a : Int)) (iZ acc) = k4 (iZ ((a : Int) + 1)) (iZ (acc + gm_sum a (fun b => gm_si M n Q a b))) := by
    intro k4 a acc ha
    have lp := lp_sum (L := fun k c acc => G_X6_pairs_L14 k4 f k c (iZ (a : Int)) acc) (N := a) (g := fun b => gm_si M n Q a b) (K := fun acc => k4 (iZ ((a : Int) + 1)) (iZ acc))
      (fun k b acc hb => by
        rw [G_X6_pairs_L14, ite_le (by omega), if_neg (by omega), s_between h hok ha (by omega), Option.bind_some, iZ_0]
        unfold G_X6_pairs_j31
        rcases gm_si_01 M n Q a b with q | q
        · rw [q.1, ite_eq (by omega), if_neg (by omega), iZ_1, iZ_add, iZ_add]
        · rw [q.1, ite_eq (by omega), if_pos rfl, iZ_1, iZ_add, Int.add_zero])
      (fun k acc => by rw [G_X6_pairs_L14, ite_le (by omega), if_pos (by omega), iZ_1, iZ_add])
      a 0 FU acc (by omega) (by unfold FU; omega)
    refine Eq.trans lp (congrArg (fun z => k4 (iZ ((a : Int) + 1)) (iZ (acc + z))) ?_)
    exact gm_sum_congr (fun k hk => by rw [Nat.zero_add])
  have lp := lp_sum (L := fun k c a => G_X6_pairs_L4 f k c a) (N := gm_fst M n) (g := fun a => gm_sum a (fun b => gm_si M n Q a b)) (K := fun a => some (iZ a))
    (fun k c a hc => by rw [G_X6_pairs_L4, h.2.1, ite_le (by omega), if_neg (by omega), inner _ c a hc])
    (fun k a => by rw [G_X6_pairs_L4, h.2.1, ite_le (by omega), if_pos (by omega)])
    (gm_fst M n) 0 FU 0 (by omega) (by unfold FU; omega)
  refine Eq.trans lp (congrArg (fun z => some (iZ z)) ?_)
  rw [Int.zero_add]
  exact gm_sum_congr (fun k hk => by rw [Nat.zero_add])
/-- 1 for an ear -/
noncomputable def gm_ear (M : Nat → Nat) (n : Nat) (Q : Nat → Pt) (k : Nat) : Int := if 3 < M 0 ∧ gm_kind M Q 0 k = 1 then gm_si M n Q (gm_pv (M 0) k) (gm_nx (M 0) k) else 0
theorem gm_ear_01 (M : Nat → Nat) (n : Nat) (Q : Nat → Pt) (k : Nat) : gm_ear M n Q k = 0 ∨ gm_ear M n Q k = 1 := by
  unfold gm_ear
  split
  · rcases gm_si_01 M n Q (gm_pv (M 0) k) (gm_nx (M 0) k) with q | q
    · exact Or.inr q.1
    · exact Or.inl q.1
  · exact Or.inl rfl
theorem s_isEar (h : RF f M n Q) (hok : gm_ok M n Q) {k : Nat} (hk : k < M 0) : G_X6_isEar f (iZ (k : Int)) = some (iZ (gm_ear M n Q k)) := by
  have hn := hok.1
  have hM := hok.2.1 0 (by omega)
  have s0 : G_X1_sizeOf f 0 = some (iZ (M 0 : Nat)) := s_sizeOf h (r := 0) (by omega)
  have sk : G_X2_kind f 0 (iZ (k : Int)) = some (iZ (gm_kind M Q 0 k)) := s_kind h hok (r := 0) (by omega) hk
  have sp : G_X1_priorOf f 0 (iZ (k : Int)) = some (iZ ((gm_fst M 0 + gm_pv (M 0) k : Nat) : Int)) := s_priorOf h (r := 0) (by omega) hk
  have hk' := gm_lt0 (n := n) (M := M) hn.1 hk
  have kb := gm_kind_bd M Q 0 k
  rw [show gm_fst M 0 + gm_pv (M 0) k = gm_pv (M 0) k by show 0 + _ = _; omega] at sp
  unfold G_X6_isEar gm_ear
  rw [s0, Option.bind_some, iZ_3, ite_le (by omega), sk, Option.bind_some, iZ_1, ite_eq (by omega), sp, Option.bind_some, s_nextOf h hk', Option.bind_some, gm_nf0 hn.1 hk, s_between h hok (gm_lt0 hn.1 (gm_pv_lt hk)) (gm_lt0 hn.1 (gm_nx_lt hk)), Option.bind_some, iZ_0]
  rcases gm_si_01 M n Q (gm_pv (M 0) k) (gm_nx (M 0) k) with q | q <;> rw [q.1, ite_eq (by omega)] <;> (repeat' split) <;> first | rfl | omega
noncomputable def gm_ears (M : Nat → Nat) (n : Nat) (Q : Nat → Pt) : Int := gm_sum (M 0) (fun k => gm_ear M n Q k)
theorem s_ears (h : RF f M n Q) (hok : gm_ok M n Q) : G_X6_ears f = some (iZ (gm_ears M n Q)) := by
  have hn := hok.1
  have hM := hok.2.1 0 (by omega)
  have s0 : G_X1_sizeOf f 0 = some (iZ (M 0 : Nat)) := s_sizeOf h (r := 0) (by omega)
  have lp := lp_sum (L := fun k c a => G_X6_ears_L4 f k c a) (N := M 0) (g := fun k => gm_ear M n Q k) (K := fun a => some (iZ a))
    (fun k c a hc => by
      rw [G_X6_ears_L4, s0, Option.bind_some, ite_le (by omega), if_neg (by omega), s_isEar h hok hc, Option.bind_some, iZ_0]
      unfold G_X6_ears_j24
      rcases gm_ear_01 M n Q c with q | q
      · rw [q, ite_eq (by omega), if_pos rfl, iZ_1, iZ_add, Int.add_zero]
      · rw [q, ite_eq (by omega), if_neg (by omega), iZ_1, iZ_add, iZ_add])
    (fun k a => by rw [G_X6_ears_L4, s0, Option.bind_some, ite_le (by omega), if_pos (by omega)])
    (M 0) 0 FU 0 (by omega) (by unfold FU; omega)
  refine Eq.trans lp (congrArg (fun z => some (iZ z)) ?_)
  rw [Int.zero_add]
  exact gm_sum_congr (fun k hk => by rw [Nat.zero_add])
end CLASS
