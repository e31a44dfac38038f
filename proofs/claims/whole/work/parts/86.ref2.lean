/-! the second class: lines that meet, rings, rules -/
section REF
variable {m : Mod} {M : Nat → Nat} {n : Nat} {Q : Nat → Pt}
theorem SD.rd {N c : Nat} (h : SD m M n Q N) (hc : c < N) (hN : N ≤ 40) : rd 40 (m_ringOf m) (iZ (c : Int)) = some (iZ (gm_rr M n c : Nat)) ∧ rd 40 (m_cornerOf m) (iZ (c : Int)) = some (iZ ((c - gm_fst M (gm_rr M n c) : Nat) : Int)) ∧ rd 40 (m_ax m) (iZ (c : Int)) = some (iZ (Q c).1) ∧ rd 40 (m_ay m) (iZ (c : Int)) = some (iZ (Q c).2) ∧
    rd 40 (m_bx m) (iZ (c : Int)) = some (iZ (Q (gm_nf M n c)).1) ∧ rd 40 (m_by m) (iZ (c : Int)) = some (iZ (Q (gm_nf M n c)).2) := by
  obtain ⟨a, b, c, d, e, f⟩ := h.2 c hc
  refine ⟨?_, ?_, ?_, ?_, ?_, ?_⟩ <;> rw [rd_iZ (by omega) (by omega)]
  · rw [a]
  · rw [b]
  · rw [c]
  · rw [d]
  · rw [e]
  · rw [f]
theorem t_isCrossed {N i : Nat} (h : SD m M n Q N) (hi : i < N) (hN : N ≤ 40) (pa : gm_paper (Q i)) (pb : gm_paper (Q (gm_nf M n i))) {p r : Pt} (pp : gm_paper p) (pr : gm_paper r) :
    G_X9_isCrossed m (iZ (i : Int)) (iZ p.1) (iZ p.2) (iZ r.1) (iZ r.2) = some (iZ (gm_bx (Q i) (Q (gm_nf M n i)) p r)) := by
  obtain ⟨-, -, e1, e2, e3, e4⟩ := h.rd hi hN
  have m1 := gm_sgi_mul (gm_cr (Q i) (Q (gm_nf M n i)) p) (gm_cr (Q i) (Q (gm_nf M n i)) r)
  have m2 := gm_sgi_mul (gm_cr p r (Q i)) (gm_cr p r (Q (gm_nf M n i)))
  have b1 := gm_sgi_bd (gm_cr (Q i) (Q (gm_nf M n i)) p)
  have b2 := gm_sgi_bd (gm_cr (Q i) (Q (gm_nf M n i)) r)
  have b3 := gm_sgi_bd (gm_cr p r (Q i))
  have b4 := gm_sgi_bd (gm_cr p r (Q (gm_nf M n i)))
  have k1 := gm_bdm (x := gm_sgi (gm_cr (Q i) (Q (gm_nf M n i)) p)) (y := gm_sgi (gm_cr (Q i) (Q (gm_nf M n i)) r)) (B := 1) (C := 1) (by omega) (by omega)
  have k2 := gm_bdm (x := gm_sgi (gm_cr p r (Q i))) (y := gm_sgi (gm_cr p r (Q (gm_nf M n i)))) (B := 1) (C := 1) (by omega) (by omega)
  unfold G_X9_isCrossed
  simp only [e1, e2, e3, e4, Option.bind_some]
  rw [t_turnOf pa pb pp, Option.bind_some, t_turnOf pa pb pr, Option.bind_some, t_turnOf pp pr pa, Option.bind_some, t_turnOf pp pr pb, Option.bind_some, iZ_mul, iZ_mul, iZ_0, ite_le (by omega), ite_le (by omega)]
  unfold gm_bx
  clear b1 b2 b3 b4 k1 k2
  (repeat' split) <;> first | rfl | omega
theorem t_isSameWay {a b c : Pt} (pa : gm_paper a) (pb : gm_paper b) (pc : gm_paper c) : ∃ z : Int, ((z = 1 ∧ gm_sw a b c) ∨ (z = 0 ∧ ¬ gm_sw a b c)) ∧ G_X9_isSameWay (iZ a.1) (iZ a.2) (iZ b.1) (iZ b.2) (iZ c.1) (iZ c.2) = some (iZ z) := by
  have tn := t_turnOf pa pb pc
  have sg := gm_sgi_bd (gm_cr a b c)
  unfold gm_paper at pa pb pc
  have k1 := gm_bdm (x := b.1 - a.1) (y := c.1 - a.1) (B := 15) (C := 15) (by omega) (by omega)
  have k2 := gm_bdm (x := b.2 - a.2) (y := c.2 - a.2) (B := 15) (C := 15) (by omega) (by omega)
  have e : (b.1 - a.1) * (c.1 - a.1) + (b.2 - a.2) * (c.2 - a.2) = gm_dt a b c := rfl
  unfold G_X9_isSameWay
  rw [tn, Option.bind_some]
  simp only [iZ_sub, iZ_mul, iZ_add]
  rw [e, iZ_0, ite_eq (by omega), ite_le (by omega)]
  unfold gm_sw
  by_cases c1 : gm_cr a b c = 0
  · rw [if_pos (by omega)]
    by_cases c2 : gm_dt a b c ≤ 0
    · rw [if_pos c2]
      exact ⟨0, Or.inr ⟨rfl, fun q => by omega⟩, rfl⟩
    · rw [if_neg c2]
      exact ⟨1, Or.inl ⟨rfl, c1, by omega⟩, rfl⟩
  · rw [if_neg (by omega)]
    exact ⟨0, Or.inr ⟨rfl, fun q => c1 q.1⟩, rfl⟩
theorem t_isMet {N i : Nat} (h : SD m M n Q N) (hi : i < N) (hN : N ≤ 40) (pa : gm_paper (Q i)) (pb : gm_paper (Q (gm_nf M n i))) {p r : Pt} (pp : gm_paper p) (pr : gm_paper r) :
    ∃ z : Int, ((z = 1 ∧ gm_met (Q i) (Q (gm_nf M n i)) p r) ∨ (z = 0 ∧ ¬ gm_met (Q i) (Q (gm_nf M n i)) p r)) ∧ G_X9_isMet m (iZ (i : Int)) (iZ p.1) (iZ p.2) (iZ r.1) (iZ r.2) = some (iZ z) := by
  obtain ⟨-, -, e1, e2, e3, e4⟩ := h.rd hi hN
  have o1 := gm_bo_01 (Q i) (Q (gm_nf M n i)) p
  have o2 := gm_bo_01 (Q i) (Q (gm_nf M n i)) r
  have o3 := gm_bo_01 p r (Q i)
  have o4 := gm_bo_01 p r (Q (gm_nf M n i))
  have o5 := gm_bx_01 (Q i) (Q (gm_nf M n i)) p r
  have d10 : (iZ 1 = iZ 0) = False := eq_false (by decide)
  unfold G_X9_isMet
  simp only [e1, e2, e3, e4, Option.bind_some]
  rw [t_isOn pa pb pp, t_isOn pa pb pr, t_isOn pp pr pa, t_isOn pp pr pb, t_isCrossed h hi hN pa pb pp pr, iZ_0, iZ_1]
  simp only [Option.bind_some]
  unfold gm_met
  rcases o1 with ⟨q1, w1⟩ | ⟨q1, w1⟩
  · rw [q1]
    simp only [d10, if_false, Option.bind_some]
    exact ⟨1, Or.inl ⟨rfl, Or.inl w1⟩, rfl⟩
  · rcases o2 with ⟨q2, w2⟩ | ⟨q2, w2⟩
    · rw [q1, q2]
      simp only [d10, if_false, if_true, Option.bind_some]
      exact ⟨1, Or.inl ⟨rfl, Or.inr (Or.inl w2)⟩, rfl⟩
    · rcases o3 with ⟨q3, w3⟩ | ⟨q3, w3⟩
      · rw [q1, q2, q3]
        simp only [d10, if_false, if_true, Option.bind_some]
        exact ⟨1, Or.inl ⟨rfl, Or.inr (Or.inr (Or.inl w3))⟩, rfl⟩
      · rcases o4 with ⟨q4, w4⟩ | ⟨q4, w4⟩
        · rw [q1, q2, q3, q4]
          simp only [d10, if_false, if_true, Option.bind_some]
          exact ⟨1, Or.inl ⟨rfl, Or.inr (Or.inr (Or.inr (Or.inl w4)))⟩, rfl⟩
        · rcases o5 with ⟨q5, w5⟩ | ⟨q5, w5⟩
          · rw [q1, q2, q3, q4, q5]
            simp only [d10, if_false, if_true, Option.bind_some]
            exact ⟨1, Or.inl ⟨rfl, Or.inr (Or.inr (Or.inr (Or.inr w5)))⟩, rfl⟩
          · rw [q1, q2, q3, q4, q5]
            simp only [d10, if_false, if_true, Option.bind_some]
            refine ⟨0, Or.inr ⟨rfl, fun q => ?_⟩, rfl⟩
            rcases q with q | q | q | q | q
            · exact w1 q
            · exact w2 q
            · exact w3 q
            · exact w4 q
            · exact w5 q
theorem t_isNext (hs : RS (m_state m) M n Q) (h : SD m M n Q (gm_fst M n)) {i j : Nat} (hi : i < gm_fst M n) (hj : j < gm_fst M n) : G_X9_isNext m (iZ (i : Int)) (iZ (j : Int)) = some (iZ (if gm_nf M n i = j then 1 else 0)) := by
  have h4 := hs.2.1
  have h40 : gm_fst M n ≤ 40 := gm_fst_40 h4 (fun r hr => (hs.2.2.1 r hr).1)
  obtain ⟨a1, a2, -⟩ := h.rd hi h40
  obtain ⟨b1, b2, -⟩ := h.rd hj h40
  obtain ⟨r, k, hr, hk, rfl⟩ := gm_flat hi
  obtain ⟨s, l, hs', hl, rfl⟩ := gm_flat hj
  rw [gm_rr_eq hr hk] at a1 a2
  rw [gm_rr_eq hs' hl] at b1 b2
  rw [Nat.add_sub_cancel_left] at a2 b2
  have hMr := (hs.2.2.1 r hr).1
  have hMs := (hs.2.2.1 s hs').1
  have hx := gm_nx_lt hk
  unfold G_X9_isNext
  simp only [a1, a2, b1, b2, Option.bind_some]
  rw [ite_eq (by omega), t_next hs hr hk, Option.bind_some, ite_eq (by omega), gm_nf_eq hr hk, iZ_0]
  by_cases c : r = s
  · subst c
    rw [if_pos rfl]
    by_cases c2 : gm_nx (M r) k = l
    · rw [if_pos (by omega), if_pos (by omega)]; rfl
    · rw [if_neg (by omega), if_neg (by omega)]
  · rw [if_neg (by omega), if_neg (fun q => c (gm_flat_inj hr hx hs' hl q).1)]
theorem t_areTouching (hs : RS (m_state m) M n Q) (h : SD m M n Q (gm_fst M n)) (r1 : gm_R1 M n Q) {i j : Nat} (hi : i < gm_fst M n) (hj : j < gm_fst M n) :
    ∃ z : Int, ((z = 1 ∧ gm_tch M n Q i j) ∨ (z = 0 ∧ ¬ gm_tch M n Q i j)) ∧ G_X9_areTouching m (iZ (i : Int)) (iZ (j : Int)) = some (iZ z) := by
  have h4 := hs.2.1
  have h40 : gm_fst M n ≤ 40 := gm_fst_40 h4 (fun r hr => (hs.2.2.1 r hr).1)
  obtain ⟨-, -, a1, a2, a3, a4⟩ := h.rd hi h40
  obtain ⟨-, -, b1, b2, b3, b4⟩ := h.rd hj h40
  have d10 : (iZ 1 = iZ 0) = False := eq_false (by decide)
  have d00 : (iZ 0 = iZ 0) = True := eq_self _
  unfold G_X9_areTouching gm_tch
  rw [t_isNext hs h hi hj, t_isNext hs h hj hi]
  simp only [a1, a2, a3, a4, b1, b2, b3, b4, Option.bind_some]
  rw [iZ_0]
  by_cases c1 : gm_nf M n i = j
  · rw [if_pos c1]
    obtain ⟨z, hz, e⟩ := t_isSameWay (r1 _ (gm_nf_lt hi)) (r1 _ hi) (r1 _ (gm_nf_lt hj))
    have z01 : z = 0 ∨ z = 1 := by rcases hz with q | q; exact Or.inr q.1; exact Or.inl q.1
    simp only [d10, if_false]
    rw [e, Option.bind_some, bck_01 z01, Option.bind_some]
    refine ⟨z, ?_, rfl⟩
    rcases hz with ⟨q1, q2⟩ | ⟨q1, q2⟩
    · exact Or.inl ⟨q1, fun _ => q2, fun q => absurd c1 q, fun q => absurd c1 q⟩
    · exact Or.inr ⟨q1, fun q => q2 (q.1 c1)⟩
  · rw [if_neg c1]
    simp only [if_true]
    by_cases c2 : gm_nf M n j = i
    · rw [if_pos c2]
      obtain ⟨z, hz, e⟩ := t_isSameWay (r1 _ (gm_nf_lt hj)) (r1 _ hj) (r1 _ (gm_nf_lt hi))
      have z01 : z = 0 ∨ z = 1 := by rcases hz with q | q; exact Or.inr q.1; exact Or.inl q.1
      simp only [d10, if_false]
      rw [e, Option.bind_some, bck_01 z01, Option.bind_some]
      refine ⟨z, ?_, rfl⟩
      rcases hz with ⟨q1, q2⟩ | ⟨q1, q2⟩
      · exact Or.inl ⟨q1, fun q => absurd q c1, fun _ _ => q2, fun _ q => absurd c2 q⟩
      · exact Or.inr ⟨q1, fun q => q2 (q.2.1 c1 c2)⟩
    · rw [if_neg c2]
      obtain ⟨z, hz, e⟩ := t_isMet h hi h40 (r1 _ hi) (r1 _ (gm_nf_lt hi)) (r1 _ hj) (r1 _ (gm_nf_lt hj))
      have z01 : z = 0 ∨ z = 1 := by rcases hz with q | q; exact Or.inr q.1; exact Or.inl q.1
      simp only [if_true]
      rw [e, Option.bind_some, bck_01 z01, Option.bind_some]
      refine ⟨z, ?_, rfl⟩
      rcases hz with ⟨q1, q2⟩ | ⟨q1, q2⟩
      · exact Or.inl ⟨q1, fun q => absurd q c1, fun _ q => absurd q c2, fun _ _ => q2⟩
      · exact Or.inr ⟨q1, fun q => q2 (q.2.2 c1 c2)⟩
theorem t_surrounds (hs : RS (m_state m) M n Q) (r1 : gm_R1 M n Q) {r : Nat} (hr : r < n) {p : Pt} (hp : 0 ≤ p.1 ∧ p.1 ≤ 30 ∧ 0 ≤ p.2 ∧ p.2 ≤ 30) : G_X9_surrounds m (iZ (r : Int)) (iZ p.1) (iZ p.2) = some (iZ (gm_w (M r) (gm_P2 M Q r) p % 2)) := by
  have hM := (hs.2.2.1 r hr).1
  have h4 := hs.2.1
  obtain ⟨z, hz, e⟩ := lp_inv (L := fun k (z : Int) c => G_X9_surrounds_L6 m k c (iZ z) (iZ (r : Int)) (iZ p.1) (iZ p.2)) (N := M r)
    (I := fun c z => z = gm_sum c (fun k => gm_c p (gm_P2 M Q r k) (gm_P2 M Q r (gm_nx (M r) k))) % 2) (K := fun z => some (iZ z))
    (fun k c z hc hI => by
      have hx := gm_nx_lt hc
      have pa := r1 _ (gm_fst_lt hr hc)
      have pb := r1 _ (gm_fst_lt hr hx)
      have pa : gm_paper (gm_P M Q r c) := pa
      have pb : gm_paper (gm_P M Q r (gm_nx (M r) c)) := pb
      refine ⟨_, rfl, ?_⟩
      have zz : gm_sum (c + 1) (fun k => gm_c p (gm_P2 M Q r k) (gm_P2 M Q r (gm_nx (M r) k))) % 2 = if gm_c p (gm_P2 M Q r c) (gm_P2 M Q r (gm_nx (M r) c)) = 0 then z else 1 - z := by
        show (gm_sum c _ + gm_c p (gm_P2 M Q r c) (gm_P2 M Q r (gm_nx (M r) c))) % 2 = _
        have : gm_c p (gm_P2 M Q r c) (gm_P2 M Q r (gm_nx (M r) c)) = 0 ∨ gm_c p (gm_P2 M Q r c) (gm_P2 M Q r (gm_nx (M r) c)) = 1 ∨ gm_c p (gm_P2 M Q r c) (gm_P2 M Q r (gm_nx (M r) c)) = -1 := by
          unfold gm_c
          (repeat' split) <;> simp
        split <;> omega
      rw [zz]
      have z01 : z = 0 ∨ z = 1 := by omega
      clear zz hI
      have hcr : gm_cr (gm_P2 M Q r c) (gm_P2 M Q r (gm_nx (M r) c)) p = (2 * (gm_P M Q r (gm_nx (M r) c)).1 - 2 * (gm_P M Q r c).1) * (p.2 - 2 * (gm_P M Q r c).2) - (p.1 - 2 * (gm_P M Q r c).1) * (2 * (gm_P M Q r (gm_nx (M r) c)).2 - 2 * (gm_P M Q r c).2) := by
        unfold gm_cr gm_P2 gm_sc; dsimp only; grind
      have y1 : (gm_P2 M Q r c).2 = 2 * (gm_P M Q r c).2 := rfl
      have y2 : (gm_P2 M Q r (gm_nx (M r) c)).2 = 2 * (gm_P M Q r (gm_nx (M r) c)).2 := rfl
      unfold gm_c
      rw [hcr, y1, y2, G_X9_surrounds_L6, t_many hs hr, Option.bind_some, ite_le (by omega), if_neg (by omega), t_x hs hr hc, t_y hs hr hc, t_next hs hr hc]
      simp only [Option.bind_some]
      rw [t_x hs hr hx, t_y hs hr hx]
      simp only [Option.bind_some]
      rw [iZ_2, iZ_0, iZ_1]
      simp only [iZ_mul, iZ_sub, iZ_add]
      unfold gm_paper at pa pb
      have k1 := gm_bdm (x := 2 * (gm_P M Q r (gm_nx (M r) c)).1 - 2 * (gm_P M Q r c).1) (y := p.2 - 2 * (gm_P M Q r c).2) (B := 30) (C := 30) (by omega) (by omega)
      have k2 := gm_bdm (x := p.1 - 2 * (gm_P M Q r c).1) (y := 2 * (gm_P M Q r (gm_nx (M r) c)).2 - 2 * (gm_P M Q r c).2) (B := 30) (C := 30) (by omega) (by omega)
      clear hcr y1 y2
      generalize (2 * (gm_P M Q r (gm_nx (M r) c)).1 - 2 * (gm_P M Q r c).1) * (p.2 - 2 * (gm_P M Q r c).2) = A at k1 ⊢
      generalize (p.1 - 2 * (gm_P M Q r c).1) * (2 * (gm_P M Q r (gm_nx (M r) c)).2 - 2 * (gm_P M Q r c).2) = B at k2 ⊢
      rw [ind_le (u := 0) (v := A - B) (by omega), ind_le (u := A - B) (v := 0) (by omega), ite_le (a := 2 * (gm_P M Q r (gm_nx (M r) c)).2) (by omega)]
      have bi : ∀ {cnd : Prop} {i : Decidable cnd} {u v : Int}, (@ite (Option Int32) cnd i (some (iZ u)) (some (iZ v))) = some (iZ (if cnd then u else v)) := by intro cnd i u v; split <;> rfl
      rw [bi, ind_le (u := 2 * (gm_P M Q r c).2) (v := p.2) (by omega), ind_le (u := 2 * (gm_P M Q r (gm_nx (M r) c)).2) (v := p.2) (by omega)]
      simp only [Option.bind_some]
      rw [ite_eq (a := z) (by omega), bi, ite_eq (by (repeat' split) <;> omega), ite_eq (by split <;> split <;> omega), bi, bi, Option.bind_some]
      refine congrArg (fun q => G_X9_surrounds_L6 m k (iZ ((c : Int) + 1)) (iZ q) (iZ (r : Int)) (iZ p.1) (iZ p.2)) ?_
      (repeat' split) <;> omega)
    (fun k z hI => by
      have z01 : z = 0 ∨ z = 1 := by omega
      rw [G_X9_surrounds_L6, t_many hs hr, Option.bind_some, ite_le (by omega), if_pos (by omega), bck_01 z01, Option.bind_some])
    (M r) 0 FU 0 (by omega) (by unfold FU; omega) rfl
  unfold G_X9_surrounds
  rw [hz] at e
  exact e
end REF
