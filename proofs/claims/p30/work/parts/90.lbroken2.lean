/-! the law's rings: the first rule that is broken -/
def rl (X T : Prop) (s : Int32) : Prop := (X ∧ s = 3) ∨ (¬ X ∧ T ∧ s = 4) ∨ (¬ X ∧ ¬ T ∧ s = 6)
theorem rl_iff {X T X' T' : Prop} {s : Int32} (h : rl X T s) (hX : X ↔ X') (hT : T ↔ T') : rl X' T' s := by
  unfold rl at h ⊢
  rw [← hX, ← hT]
  exact h
theorem chain_m {m : Int} (rg : m = 0 ∨ m = 1 ∨ m = 2 ∨ m = 3) {N X T : Prop} {s b : Int32} (hb : (N ∧ b = 1) ∨ (¬ N ∧ b = 0)) (hs : rl X T s) :
    ∃ s', ((if iZ m = 1 then some 3 else if iZ m = 3 then (if 4 ≤ s then some 4 else some s) else if iZ m = 2 then (if b = 0 then (if 4 ≤ s then some 4 else some s) else some s) else some s) : Option Int32) = some s' ∧ rl (X ∨ m = 1) (T ∨ (m = 3 ∨ (m = 2 ∧ ¬ N))) s' := by
  obtain ⟨s4, e4, r4⟩ : ∃ s4, (if 4 ≤ s then some 4 else some s) = some s4 ∧ rl X True s4 := by
    rcases hs with ⟨a, rfl⟩ | ⟨a, _, rfl⟩ | ⟨a, _, rfl⟩
    · exact ⟨3, by decide, Or.inl ⟨a, rfl⟩⟩
    · exact ⟨4, by decide, Or.inr (Or.inl ⟨a, trivial, rfl⟩)⟩
    · exact ⟨4, by decide, Or.inr (Or.inl ⟨a, trivial, rfl⟩)⟩
  rw [e4]
  have same : m ≠ 1 → ¬ (m = 3 ∨ (m = 2 ∧ ¬ N)) → rl (X ∨ m = 1) (T ∨ (m = 3 ∨ (m = 2 ∧ ¬ N))) s := fun q1 q2 =>
    rl_iff hs ⟨Or.inl, fun q => q.elim id (fun w => absurd w q1)⟩ ⟨Or.inl, fun q => q.elim id (fun w => absurd w q2)⟩
  have touch : m ≠ 1 → (m = 3 ∨ (m = 2 ∧ ¬ N)) → rl (X ∨ m = 1) (T ∨ (m = 3 ∨ (m = 2 ∧ ¬ N))) s4 := fun q1 q2 =>
    rl_iff r4 ⟨Or.inl, fun q => q.elim id (fun w => absurd w q1)⟩ ⟨fun _ => Or.inr q2, fun _ => trivial⟩
  rcases rg with rfl | rfl | rfl | rfl
  · rw [if_neg (show ¬ iZ 0 = 1 by decide), if_neg (show ¬ iZ 0 = 3 by decide), if_neg (show ¬ iZ 0 = 2 by decide)]
    exact ⟨s, rfl, same (by omega) (by omega)⟩
  · rw [if_pos (show iZ 1 = 1 from rfl)]
    exact ⟨3, rfl, Or.inl ⟨Or.inr rfl, rfl⟩⟩
  · rw [if_neg (show ¬ iZ 2 = 1 by decide), if_neg (show ¬ iZ 2 = 3 by decide), if_pos (show iZ 2 = 2 from rfl)]
    rcases hb with ⟨hN, rfl⟩ | ⟨hN, rfl⟩
    · rw [if_neg (show ¬ (1 : Int32) = 0 by decide)]
      exact ⟨s, rfl, same (by omega) (fun q => by rcases q with q | q; · omega
                                                  · exact q.2 hN)⟩
    · rw [if_pos (show (0 : Int32) = 0 from rfl)]
      exact ⟨s4, rfl, touch (by omega) (Or.inr ⟨rfl, hN⟩)⟩
  · rw [if_neg (show ¬ iZ 3 = 1 by decide), if_pos (show iZ 3 = 3 from rfl)]
    exact ⟨s4, rfl, touch (by omega) (Or.inl rfl)⟩
section LBR
variable {M : Nat → Nat} {n : Nat} {Q : Nat → Pt} {f x y : Nat → Int32}
/-- two sides touch, as the law tells it -/
def gm_tcl (M : Nat → Nat) (n : Nat) (Q : Nat → Pt) (i j : Nat) : Prop := gm_cm (Q i) (Q (gm_nf M n i)) (Q j) (Q (gm_nf M n j)) = 3 ∨ (gm_cm (Q i) (Q (gm_nf M n i)) (Q j) (Q (gm_nf M n j)) = 2 ∧ ¬ (gm_nf M n i = j ∨ gm_nf M n j = i))
theorem gm_tcl_iff (r2 : gm_R2 M n Q) {i j : Nat} (hi : i < gm_fst M n) (hj : j < gm_fst M n) (nX : ¬ gm_X (Q i) (Q (gm_nf M n i)) (Q j) (Q (gm_nf M n j))) : gm_tcl M n Q i j ↔ gm_tch M n Q i j := by
  have a1 := r2 i hi
  have a2 := r2 j hj
  have n1 : gm_cm (Q i) (Q (gm_nf M n i)) (Q j) (Q (gm_nf M n j)) ≠ 1 := fun e => nX (gm_cm_X.mp e)
  have rg := gm_cm_r (a := Q i) (b := Q (gm_nf M n i)) (p := Q j) (q := Q (gm_nf M n j))
  unfold gm_tcl gm_tch
  by_cases c1 : gm_nf M n i = j
  · have k : gm_cm (Q i) (Q (gm_nf M n i)) (Q j) (Q (gm_nf M n j)) = 3 ↔ gm_sw (Q (gm_nf M n i)) (Q i) (Q (gm_nf M n j)) := by
      have := gm_cm_B (q := Q (gm_nf M n j)) a1
      rw [show gm_cm (Q i) (Q (gm_nf M n i)) (Q j) (Q (gm_nf M n j)) = gm_cm (Q i) (Q (gm_nf M n i)) (Q (gm_nf M n i)) (Q (gm_nf M n j)) by rw [← c1]]
      exact this
    constructor
    · intro t
      refine ⟨fun _ => ?_, fun q => absurd c1 q, fun q => absurd c1 q⟩
      rcases t with t | t
      · exact k.mp t
      · exact absurd (Or.inl c1) t.2
    · intro t
      exact Or.inl (k.mpr (t.1 c1))
  · by_cases c2 : gm_nf M n j = i
    · have k : gm_cm (Q i) (Q (gm_nf M n i)) (Q j) (Q (gm_nf M n j)) = 3 ↔ gm_sw (Q (gm_nf M n j)) (Q j) (Q (gm_nf M n i)) := by
        have := gm_cm_A' (p := Q j) a1
        rw [c2, this]
        exact ⟨gm_sw_sym, gm_sw_sym⟩
      constructor
      · intro t
        refine ⟨fun q => absurd q c1, fun _ _ => ?_, fun _ q => absurd c2 q⟩
        rcases t with t | t
        · exact k.mp t
        · exact absurd (Or.inr c2) t.2
      · intro t
        exact Or.inl (k.mpr (t.2.1 c1 c2))
    · have k := gm_cm_0 (p := Q j) (q := Q (gm_nf M n j)) a1 a2
      constructor
      · intro t
        refine ⟨fun q => absurd q c1, fun _ q => absurd q c2, fun _ _ => Classical.byContradiction (fun q => ?_)⟩
        have := k.mpr q
        omega
      · intro t
        have m := t.2.2 c1 c2
        have n0 : gm_cm (Q i) (Q (gm_nf M n i)) (Q j) (Q (gm_nf M n j)) ≠ 0 := fun e => (k.mp e) m
        by_cases e : gm_cm (Q i) (Q (gm_nf M n i)) (Q j) (Q (gm_nf M n j)) = 3
        · exact Or.inl e
        · exact Or.inr ⟨by omega, fun q => by rcases q with q | q; · exact c1 q
                                              · exact c2 q⟩
/-- the holes' corners, told as the law tells them -/
theorem L_brk3 (h : RQ f x y M n Q) (r1 : gm_R1 M n Q) (r2 : gm_R2 M n Q) (r3 : gm_R3 M n Q) (r4 : gm_R4 M n Q) : ∃ z : Int, 0 ≤ z ∧ z ≤ 5 ∧ gm_brk M n Q z ∧ G_L_broken_L244 5 40 40 f x y FU 10 6 = some (iZ z) := by
  have h4 := h.2.1
  have h3 : ∀ r, r < n → 3 ≤ M r := fun r hr => (h.2.2.1 r hr).1
  have wbd : ∀ r p, r < n → -10 ≤ gm_w (M r) (gm_P M Q r) p ∧ gm_w (M r) (gm_P M Q r) p ≤ 10 := by
    intro r p hr
    have m10 := h.h10 r hr
    have := gm_sum_bd (m := M r) (g := fun k => gm_c p (gm_P M Q r k) (gm_P M Q r (gm_nx (M r) k))) (B := 1) (fun k _ => by unfold gm_c; (repeat' split) <;> omega)
    unfold gm_w
    omega
  have j345 : G_L_broken_j345 5 40 40 f x y 6 = some 0 ∧ G_L_broken_j345 5 40 40 f x y 5 = some 5 := ⟨rfl, rfl⟩
  have five : ¬ gm_R5' M n Q → ∃ z : Int, 0 ≤ z ∧ z ≤ 5 ∧ gm_brk M n Q z ∧ (some 5 : Option Int32) = some (iZ z) := fun n5 =>
    ⟨5, by omega, by omega, Or.inr (Or.inr (Or.inr (Or.inr (Or.inl ⟨r1, r2, r3, r4, fun q => n5 ((gm_R5_iff h3 r2 r3 r4).mp q), rfl⟩)))), rfl⟩
  have zero : gm_R5' M n Q → ∃ z : Int, 0 ≤ z ∧ z ≤ 5 ∧ gm_brk M n Q z ∧ (some 0 : Option Int32) = some (iZ z) := fun n5 =>
    ⟨0, by omega, by omega, Or.inr (Or.inr (Or.inr (Or.inr (Or.inr ⟨r1, r2, r3, r4, (gm_R5_iff h3 r2 r3 r4).mpr n5, rfl⟩)))), rfl⟩
  have lp := lp_run (L := fun k s z => G_L_broken_L244 5 40 40 f x y k z s) (N := 40)
    (I := fun c s => 10 ≤ c ∧ ((s = 6 ∧ ∀ e, 10 ≤ e → e < c → th M n e → ∀ r, r < n → r ≠ e / 10 → (gm_w (M r) (gm_P M Q r) (Q (gq M e)) ≠ 0 ↔ r = 0)) ∨ (s = 5 ∧ ¬ gm_R5' M n Q)))
    (E := fun o => ∃ z : Int, 0 ≤ z ∧ z ≤ 5 ∧ gm_brk M n Q z ∧ o = some (iZ z))
    (fun k c s hc hI => by
      obtain ⟨c10, hI⟩ := hI
      rcases hI with ⟨rfl, al⟩ | ⟨rfl, n5⟩
      · left
        rcases L_there h hc with ⟨t, et⟩ | ⟨nt, et⟩
        · have px := r1 _ (gq_lt t)
          have inn := lp_inv (L := fun kk s z => G_L_broken_L272 (G_L_broken_L244 5 40 40 f x y k) 5 40 40 f x y kk z (iZ (c : Int)) s) (N := n)
            (I := fun r s => (s = 6 ∧ ∀ r', r' < r → r' ≠ c / 10 → (gm_w (M r') (gm_P M Q r') (Q (gq M c)) ≠ 0 ↔ r' = 0)) ∨ (s = 5 ∧ ¬ gm_R5' M n Q))
            (K := fun s => G_L_broken_L244 5 40 40 f x y k (iZ ((c : Int) + 1)) s)
            (fun kk r s hr hI => by
              have br := wbd r (Q (gq M c)) hr
              have ar : G_L_around 5 40 40 f x y (iZ (r : Int)) (2 * iZ (Q (gq M c)).1) (2 * iZ (Q (gq M c)).2) = some (iZ (gm_w (M r) (gm_P M Q r) (Q (gq M c)))) := by
                unfold gm_paper at px
                have e := L_around h r1 hr (p := gm_sc 2 (Q (gq M c))) (by unfold gm_sc; dsimp only; omega)
                rw [gm_w2] at e
                rw [iZ_2, iZ_mul, iZ_mul]
                exact e
              have j333 : ∀ s', G_L_broken_j333 (G_L_broken_L272 (G_L_broken_L244 5 40 40 f x y k) 5 40 40 f x y kk) 5 40 40 f x y (iZ (r : Int)) (iZ (c : Int)) s' = G_L_broken_L272 (G_L_broken_L244 5 40 40 f x y k) 5 40 40 f x y kk (iZ ((r : Int) + 1)) (iZ (c : Int)) s' := by
                intro s'
                unfold G_L_broken_j333
                rw [iZ_1, iZ_add]
              have body : G_L_broken_L272 (G_L_broken_L244 5 40 40 f x y k) 5 40 40 f x y (kk + 1) (iZ (r : Int)) (iZ (c : Int)) s = G_L_broken_L272 (G_L_broken_L244 5 40 40 f x y k) 5 40 40 f x y kk (iZ ((r : Int) + 1)) (iZ (c : Int)) (if r = c / 10 then s else if (gm_w (M r) (gm_P M Q r) (Q (gq M c)) = 0 ↔ r ≠ 0) then s else 5) := by
                rw [G_L_broken_L272, rd_0 (by omega) (by omega), h.1, Option.bind_some, ite_le (by omega), if_neg (show ¬ (n : Int) ≤ (r : Int) by omega), c_div hc, ite_eq (by omega)]
                by_cases c1 : r = c / 10
                · rw [if_pos (show (r : Int) = ((c / 10 : Nat) : Int) by omega), if_pos c1, j333]
                · rw [if_neg (show ¬ (r : Int) = ((c / 10 : Nat) : Int) by omega), if_neg c1, L_x h t, Option.bind_some, L_y h t, Option.bind_some, ar, Option.bind_some, iZ_0, iZ_1, ind_eq (by omega), Option.bind_some, ind_eq (by omega), Option.bind_some, j333, j333]
                  by_cases c2 : gm_w (M r) (gm_P M Q r) (Q (gq M c)) = 0
                  · by_cases c3 : r = 0
                    · rw [if_pos c2, if_pos (show (r : Int) = 0 by omega), if_neg (by decide), if_neg (fun q => (q.mp c2) c3)]
                    · rw [if_pos c2, if_neg (show ¬ (r : Int) = 0 by omega), if_pos rfl, if_pos ⟨fun _ => c3, fun _ => c2⟩]
                  · by_cases c3 : r = 0
                    · rw [if_neg c2, if_pos (show (r : Int) = 0 by omega), if_pos rfl, if_pos ⟨fun q => absurd q c2, fun q => absurd c3 q⟩]
                    · rw [if_neg c2, if_neg (show ¬ (r : Int) = 0 by omega), if_neg (by decide), if_neg (fun q => c2 (q.mpr c3))]
              refine ⟨_, ?_, body⟩
              rcases hI with ⟨rfl, al'⟩ | ⟨rfl, n5⟩
              · by_cases c1 : r = c / 10
                · rw [if_pos c1]
                  refine Or.inl ⟨rfl, fun r' hr' ne => ?_⟩
                  by_cases e : r' = r
                  · exact absurd (e.trans c1) ne
                  · exact al' r' (by omega) ne
                · rw [if_neg c1]
                  by_cases c2 : (gm_w (M r) (gm_P M Q r) (Q (gq M c)) = 0 ↔ r ≠ 0)
                  · rw [if_pos c2]
                    refine Or.inl ⟨rfl, fun r' hr' ne => ?_⟩
                    by_cases e : r' = r
                    · rw [e]
                      exact ⟨fun q => Classical.byContradiction (fun w => q (c2.mpr w)), fun q w => (c2.mp w) q⟩
                    · exact al' r' (by omega) ne
                  · rw [if_neg c2]
                    refine Or.inr ⟨rfl, fun n5 => c2 ?_⟩
                    have k5 := n5 (c / 10) (by omega) t.1 (c % 10) t.2 r hr c1
                    have k5 : gm_w (M r) (gm_P M Q r) (Q (gq M c)) ≠ 0 ↔ r = 0 := k5
                    exact ⟨fun q w => (k5.mpr w) q, fun q => Classical.byContradiction (fun w => q (k5.mp w))⟩
              · right
                refine ⟨?_, n5⟩
                (repeat' split) <;> rfl)
            (fun kk s hI => by
              show G_L_broken_L272 (G_L_broken_L244 5 40 40 f x y k) 5 40 40 f x y (kk + 1) (iZ (n : Int)) (iZ (c : Int)) s = _
              rw [G_L_broken_L272, rd_0 (by omega) (by omega), h.1, Option.bind_some, ite_le (by omega), if_pos (by omega)]
              unfold G_L_broken_j339
              rw [iZ_1, iZ_add])
            n 0 FU 6 (by omega) (by unfold FU; omega) (Or.inl ⟨rfl, fun r' q => absurd q (by omega)⟩)
          obtain ⟨s', hs', e⟩ := inn
          refine ⟨s', ⟨by omega, ?_⟩, ?_⟩
          · rcases hs' with ⟨rfl, al'⟩ | ⟨rfl, n5⟩
            · refine Or.inl ⟨rfl, fun e e10 he te r hr ne => ?_⟩
              by_cases q : e = c
              · rw [q] at ne ⊢
                exact al' r hr ne
              · exact al e e10 (by omega) te r hr ne
            · exact Or.inr ⟨rfl, n5⟩
          · show G_L_broken_L244 5 40 40 f x y (k + 1) (iZ (c : Int)) 6 = _
            rw [G_L_broken_L244, iZ_40, ite_le (by omega), if_neg (by omega), if_pos (show (6 : Int32) = 6 from rfl), et, Option.bind_some, if_neg (show ¬ (1 : Int32) = 0 by decide)]
            exact e
        · refine ⟨6, ⟨by omega, Or.inl ⟨rfl, fun e e10 he te r hr ne => ?_⟩⟩, ?_⟩
          · by_cases q : e = c
            · rw [q] at te; exact absurd te nt
            · exact al e e10 (by omega) te r hr ne
          · show G_L_broken_L244 5 40 40 f x y (k + 1) (iZ (c : Int)) 6 = _
            rw [G_L_broken_L244, iZ_40, ite_le (by omega), if_neg (by omega), if_pos (show (6 : Int32) = 6 from rfl), et, Option.bind_some, if_pos (show (0 : Int32) = 0 from rfl)]
            unfold G_L_broken_j339
            rw [iZ_1, iZ_add]
      · right
        have e : G_L_broken_L244 5 40 40 f x y (k + 1) (iZ (c : Int)) 5 = some 5 := by
          rw [G_L_broken_L244, iZ_40, ite_le (by omega), if_neg (by omega), if_neg (show ¬ (5 : Int32) = 6 by decide), j345.2]
        show ∃ z : Int, 0 ≤ z ∧ z ≤ 5 ∧ gm_brk M n Q z ∧ G_L_broken_L244 5 40 40 f x y (k + 1) (iZ (c : Int)) 5 = some (iZ z)
        rw [e]
        exact five n5)
    (fun k s hI => by
      have e : ∀ s, G_L_broken_L244 5 40 40 f x y (k + 1) (iZ ((40 : Nat) : Int)) s = G_L_broken_j345 5 40 40 f x y s := by
        intro s
        rw [G_L_broken_L244, iZ_40, ite_le (by omega), if_pos (by omega)]
      obtain ⟨_, hI⟩ := hI
      show ∃ z : Int, 0 ≤ z ∧ z ≤ 5 ∧ gm_brk M n Q z ∧ G_L_broken_L244 5 40 40 f x y (k + 1) (iZ ((40 : Nat) : Int)) s = some (iZ z)
      rw [e]
      rcases hI with ⟨rfl, al⟩ | ⟨rfl, n5⟩
      · rw [j345.1]
        refine zero (fun r q1 q2 k hk s hs ne => ?_)
        obtain ⟨t, e1, e2⟩ := th_mk h.h10 q2 hk
        have a := al (10 * r + k) (by omega) (th_40 h4.2 t) t s hs (by rw [e1]; exact ne)
        rw [gq_mk h.h10 q2 hk] at a
        exact a
      · rw [j345.2]
        exact five n5)
    30 10 FU 6 (by omega) (by unfold FU; omega) ⟨by omega, Or.inl ⟨rfl, fun e q1 q2 => absurd q1 (by omega)⟩⟩
  exact lp
theorem L_brk2 (h : RQ f x y M n Q) (r1 : gm_R1 M n Q) (r2 : gm_R2 M n Q) : ∃ z : Int, 0 ≤ z ∧ z ≤ 5 ∧ gm_brk M n Q z ∧ G_L_broken_L107 5 40 40 f x y FU 0 6 = some (iZ z) := by
  have h4 := h.2.1
  have h3 : ∀ r, r < n → 3 ≤ M r := fun r hr => (h.2.2.1 r hr).1
  have lp := lp_run (L := fun k s z => G_L_broken_L107 5 40 40 f x y k z s) (N := 40)
    (I := fun i s => rl (∃ a b, b < a ∧ a < i ∧ th M n a ∧ th M n b ∧ gm_X (Q (gq M a)) (Q (gm_nf M n (gq M a))) (Q (gq M b)) (Q (gm_nf M n (gq M b)))) (∃ a b, b < a ∧ a < i ∧ th M n a ∧ th M n b ∧ gm_tcl M n Q (gq M a) (gq M b)) s)
    (E := fun o => ∃ z : Int, 0 ≤ z ∧ z ≤ 5 ∧ gm_brk M n Q z ∧ o = some (iZ z))
    (fun k i s hi hI => by
      left
      have e0 : ∀ (Pr : Nat → Nat → Prop), (∃ a b, b < a ∧ a < i ∧ th M n a ∧ th M n b ∧ Pr a b) ↔ (∃ a b, b < a ∧ (a < i ∨ (a = i ∧ b < 0)) ∧ th M n a ∧ th M n b ∧ Pr a b) := fun Pr =>
        ⟨fun ⟨a, b, q1, q2, q3⟩ => ⟨a, b, q1, Or.inl q2, q3⟩, fun ⟨a, b, q1, q2, q3⟩ => ⟨a, b, q1, by omega, q3⟩⟩
      have e1 : ∀ (Pr : Nat → Nat → Prop), (∃ a b, b < a ∧ (a < i ∨ (a = i ∧ b < i)) ∧ th M n a ∧ th M n b ∧ Pr a b) ↔ (∃ a b, b < a ∧ a < i + 1 ∧ th M n a ∧ th M n b ∧ Pr a b) := fun Pr =>
        ⟨fun ⟨a, b, q1, q2, q3⟩ => ⟨a, b, q1, by omega, q3⟩, fun ⟨a, b, q1, q2, q3⟩ => ⟨a, b, q1, by omega, q3⟩⟩
      have inn := lp_inv (L := fun kk s z => G_L_broken_L117 (G_L_broken_L107 5 40 40 f x y k) 5 40 40 f x y kk z (iZ (i : Int)) s) (N := i)
        (I := fun j s => rl (∃ a b, b < a ∧ (a < i ∨ (a = i ∧ b < j)) ∧ th M n a ∧ th M n b ∧ gm_X (Q (gq M a)) (Q (gm_nf M n (gq M a))) (Q (gq M b)) (Q (gm_nf M n (gq M b)))) (∃ a b, b < a ∧ (a < i ∨ (a = i ∧ b < j)) ∧ th M n a ∧ th M n b ∧ gm_tcl M n Q (gq M a) (gq M b)) s)
        (K := fun s => G_L_broken_L107 5 40 40 f x y k (iZ ((i : Int) + 1)) s)
        (fun kk j s hj hI => by
          have j228 : ∀ s', G_L_broken_j228 (G_L_broken_L117 (G_L_broken_L107 5 40 40 f x y k) 5 40 40 f x y kk) 5 40 40 f x y (iZ (j : Int)) (iZ (i : Int)) s' = G_L_broken_L117 (G_L_broken_L107 5 40 40 f x y k) 5 40 40 f x y kk (iZ ((j : Int) + 1)) (iZ (i : Int)) s' := by
            intro s'
            unfold G_L_broken_j228
            rw [iZ_1, iZ_add]
          have grow : ∀ (Pr : Nat → Nat → Prop), (∃ a b, b < a ∧ (a < i ∨ (a = i ∧ b < j + 1)) ∧ th M n a ∧ th M n b ∧ Pr a b) ↔ ((∃ a b, b < a ∧ (a < i ∨ (a = i ∧ b < j)) ∧ th M n a ∧ th M n b ∧ Pr a b) ∨ (th M n i ∧ th M n j ∧ Pr i j)) := by
            intro Pr
            constructor
            · intro ⟨a, b, q1, q2, ta, tb, q3⟩
              by_cases e : a = i ∧ b = j
              · obtain ⟨rfl, rfl⟩ := e
                exact Or.inr ⟨ta, tb, q3⟩
              · exact Or.inl ⟨a, b, q1, by omega, ta, tb, q3⟩
            · intro q
              rcases q with ⟨a, b, q1, q2, q3⟩ | ⟨ti, tj, q⟩
              · exact ⟨a, b, q1, by omega, q3⟩
              · exact ⟨i, j, hj, by omega, ti, tj, q⟩
          have gX := grow (fun a b => gm_X (Q (gq M a)) (Q (gm_nf M n (gq M a))) (Q (gq M b)) (Q (gm_nf M n (gq M b))))
          have gT := grow (fun a b => gm_tcl M n Q (gq M a) (gq M b))
          rcases L_there h hi with ⟨ti, eti⟩ | ⟨nti, eti⟩
          · rcases L_there h (c := j) (by omega) with ⟨tj, etj⟩ | ⟨ntj, etj⟩
            · obtain ⟨ui, ei, _⟩ := nc_th h.h10 ti
              obtain ⟨uj, ej, _⟩ := nc_th h.h10 tj
              have hci := th_40 h4.2 ui
              have hcj := th_40 h4.2 uj
              obtain ⟨m, em⟩ : ∃ m, m = gm_cm (Q (gq M i)) (Q (gm_nf M n (gq M i))) (Q (gq M j)) (Q (gm_nf M n (gq M j))) := ⟨_, rfl⟩
              have rg := gm_cm_r (a := Q (gq M i)) (b := Q (gm_nf M n (gq M i))) (p := Q (gq M j)) (q := Q (gm_nf M n (gq M j)))
              have hX := gm_cm_X (a := Q (gq M i)) (b := Q (gm_nf M n (gq M i))) (p := Q (gq M j)) (q := Q (gm_nf M n (gq M j)))
              obtain ⟨N, hN⟩ : ∃ N : Prop, N = (gm_nf M n (gq M i) = gq M j ∨ gm_nf M n (gq M j) = gq M i) := ⟨_, rfl⟩
              have hT : gm_tcl M n Q (gq M i) (gq M j) ↔ (m = 3 ∨ (m = 2 ∧ ¬ N)) := by rw [em, hN]; exact Iff.rfl
              have nb : (N ∧ (if iZ ((nc M i : Nat) : Int) = iZ (j : Int) then some 1 else if iZ ((nc M j : Nat) : Int) = iZ (i : Int) then some 1 else some (0 : Int32)) = some 1) ∨ (¬ N ∧ (if iZ ((nc M i : Nat) : Int) = iZ (j : Int) then some 1 else if iZ ((nc M j : Nat) : Int) = iZ (i : Int) then some 1 else some (0 : Int32)) = some 0) := by
                rw [hN, ite_eq (by omega), ite_eq (by omega), ← ei, ← ej]
                by_cases c1 : nc M i = j
                · rw [if_pos (show ((nc M i : Nat) : Int) = (j : Int) by omega)]
                  exact Or.inl ⟨Or.inl (by rw [c1]), rfl⟩
                · rw [if_neg (show ¬ ((nc M i : Nat) : Int) = (j : Int) by omega)]
                  by_cases c2 : nc M j = i
                  · rw [if_pos (show ((nc M j : Nat) : Int) = (i : Int) by omega)]
                    exact Or.inl ⟨Or.inr (by rw [c2]), rfl⟩
                  · rw [if_neg (show ¬ ((nc M j : Nat) : Int) = (i : Int) by omega)]
                    refine Or.inr ⟨fun q => ?_, rfl⟩
                    rcases q with q | q
                    · exact c1 (gq_inj ui tj q)
                    · exact c2 (gq_inj uj ti q)
              have body : G_L_broken_L117 (G_L_broken_L107 5 40 40 f x y k) 5 40 40 f x y (kk + 1) (iZ (j : Int)) (iZ (i : Int)) s = ((if iZ ((nc M i : Nat) : Int) = iZ (j : Int) then some 1 else if iZ ((nc M j : Nat) : Int) = iZ (i : Int) then some 1 else some (0 : Int32)) : Option Int32).bind fun b => ((if iZ m = 1 then some 3 else if iZ m = 3 then (if 4 ≤ s then some 4 else some s) else if iZ m = 2 then (if b = 0 then (if 4 ≤ s then some 4 else some s) else some s) else some s) : Option Int32).bind fun s' => G_L_broken_L117 (G_L_broken_L107 5 40 40 f x y k) 5 40 40 f x y kk (iZ ((j : Int) + 1)) (iZ (i : Int)) s' := by
                rw [G_L_broken_L117, ite_le (by omega), if_neg (show ¬ (i : Int) ≤ (j : Int) by omega), eti, Option.bind_some, if_neg (show ¬ (1 : Int32) = 0 by decide), etj, Option.bind_some, if_neg (show ¬ (1 : Int32) = 0 by decide), L_sides h r1 ti tj, Option.bind_some, L_next h ti, Option.bind_some, L_next h tj, Option.bind_some, ← em]
                simp only [j228]
              rw [← em] at rg hX
              have fin : ∀ b : Int32, ((N ∧ b = 1) ∨ (¬ N ∧ b = 0)) → (if iZ ((nc M i : Nat) : Int) = iZ (j : Int) then some 1 else if iZ ((nc M j : Nat) : Int) = iZ (i : Int) then some 1 else some (0 : Int32)) = some b →
                  ∃ s', rl (∃ a b, b < a ∧ (a < i ∨ (a = i ∧ b < j + 1)) ∧ th M n a ∧ th M n b ∧ gm_X (Q (gq M a)) (Q (gm_nf M n (gq M a))) (Q (gq M b)) (Q (gm_nf M n (gq M b)))) (∃ a b, b < a ∧ (a < i ∨ (a = i ∧ b < j + 1)) ∧ th M n a ∧ th M n b ∧ gm_tcl M n Q (gq M a) (gq M b)) s' ∧ G_L_broken_L117 (G_L_broken_L107 5 40 40 f x y k) 5 40 40 f x y (kk + 1) (iZ (j : Int)) (iZ (i : Int)) s = G_L_broken_L117 (G_L_broken_L107 5 40 40 f x y k) 5 40 40 f x y kk (iZ ((j : Int) + 1)) (iZ (i : Int)) s' := by
                intro b hb eb
                obtain ⟨s', e', r'⟩ := chain_m rg hb hI
                refine ⟨s', rl_iff r' ?_ ?_, ?_⟩
                · rw [gX]
                  exact or_congr Iff.rfl ⟨fun q => ⟨ti, tj, hX.mp q⟩, fun q => hX.mpr q.2.2⟩
                · rw [gT]
                  exact or_congr Iff.rfl ⟨fun q => ⟨ti, tj, hT.mpr q⟩, fun q => hT.mp q.2.2⟩
                · refine body.trans ?_
                  rw [eb, Option.bind_some, e', Option.bind_some]
              rcases nb with ⟨q1, q2⟩ | ⟨q1, q2⟩
              · exact fin 1 (Or.inl ⟨q1, rfl⟩) q2
              · exact fin 0 (Or.inr ⟨q1, rfl⟩) q2
            · refine ⟨s, rl_iff hI ?_ ?_, ?_⟩
              · rw [gX]
                exact ⟨Or.inl, fun q => q.elim id (fun w => absurd w.2.1 ntj)⟩
              · rw [gT]
                exact ⟨Or.inl, fun q => q.elim id (fun w => absurd w.2.1 ntj)⟩
              · show G_L_broken_L117 (G_L_broken_L107 5 40 40 f x y k) 5 40 40 f x y (kk + 1) (iZ (j : Int)) (iZ (i : Int)) s = _
                rw [G_L_broken_L117, ite_le (by omega), if_neg (show ¬ (i : Int) ≤ (j : Int) by omega), eti, Option.bind_some, if_neg (show ¬ (1 : Int32) = 0 by decide), etj, Option.bind_some, if_pos (show (0 : Int32) = 0 from rfl), j228]
          · refine ⟨s, rl_iff hI ?_ ?_, ?_⟩
            · rw [gX]
              exact ⟨Or.inl, fun q => q.elim id (fun w => absurd w.1 nti)⟩
            · rw [gT]
              exact ⟨Or.inl, fun q => q.elim id (fun w => absurd w.1 nti)⟩
            · show G_L_broken_L117 (G_L_broken_L107 5 40 40 f x y k) 5 40 40 f x y (kk + 1) (iZ (j : Int)) (iZ (i : Int)) s = _
              rw [G_L_broken_L117, ite_le (by omega), if_neg (show ¬ (i : Int) ≤ (j : Int) by omega), eti, Option.bind_some, if_pos (show (0 : Int32) = 0 from rfl), j228])
        (fun kk s hI => by
          show G_L_broken_L117 (G_L_broken_L107 5 40 40 f x y k) 5 40 40 f x y (kk + 1) (iZ (i : Int)) (iZ (i : Int)) s = _
          rw [G_L_broken_L117, ite_le (by omega), if_pos (by omega), iZ_1, iZ_add])
        i 0 FU s (by omega) (by unfold FU; omega) (rl_iff hI (e0 (fun a b => gm_X (Q (gq M a)) (Q (gm_nf M n (gq M a))) (Q (gq M b)) (Q (gm_nf M n (gq M b))))) (e0 (fun a b => gm_tcl M n Q (gq M a) (gq M b))))
      obtain ⟨s', hs', e⟩ := inn
      refine ⟨s', rl_iff hs' (e1 (fun a b => gm_X (Q (gq M a)) (Q (gm_nf M n (gq M a))) (Q (gq M b)) (Q (gm_nf M n (gq M b))))) (e1 (fun a b => gm_tcl M n Q (gq M a) (gq M b))), ?_⟩
      show G_L_broken_L107 5 40 40 f x y (k + 1) (iZ (i : Int)) s = _
      rw [G_L_broken_L107, iZ_40, ite_le (by omega), if_neg (by omega)]
      exact e)
    (fun k s hI => by
      show ∃ z : Int, 0 ≤ z ∧ z ≤ 5 ∧ gm_brk M n Q z ∧ G_L_broken_L107 5 40 40 f x y (k + 1) (iZ ((40 : Nat) : Int)) s = some (iZ z)
      rw [G_L_broken_L107, iZ_40, ite_le (by omega), if_pos (by omega)]
      have hX40 : (∃ a b, b < a ∧ a < 40 ∧ th M n a ∧ th M n b ∧ gm_X (Q (gq M a)) (Q (gm_nf M n (gq M a))) (Q (gq M b)) (Q (gm_nf M n (gq M b)))) ↔ ¬ gm_R3 M n Q := by
        constructor
        · intro ⟨a, b, q1, _, ta, tb, q⟩ r3
          exact r3 _ (gq_lt ta) _ (gq_mono tb ta q1) q
        · intro nr
          refine Classical.byContradiction (fun no => nr (fun qa hqa qb hqb q => ?_))
          obtain ⟨a, ta, rfl⟩ := gq_on h.h10 hqa
          obtain ⟨b, tb, rfl⟩ := gq_on (n := n) h.h10 (show qb < gm_fst M n by omega)
          exact no ⟨a, b, (gq_lt_iff tb ta).mp hqb, th_40 h4.2 ta, ta, tb, q⟩
      rcases hI with ⟨hx, rfl⟩ | ⟨hx, ht, rfl⟩ | ⟨hx, ht, rfl⟩
      · refine ⟨3, by omega, by omega, Or.inr (Or.inr (Or.inl ⟨r1, r2, hX40.mp hx, rfl⟩)), ?_⟩
        obtain ⟨u, hu⟩ : ∃ u, FU = u + 1 := ⟨999999, rfl⟩
        rw [hu, G_L_broken_L244, iZ_10, iZ_40, ite_le (by omega), if_neg (by omega), if_neg (show ¬ (3 : Int32) = 6 by decide)]
        rfl
      · have r3 : gm_R3 M n Q := Classical.byContradiction (fun q => hx (hX40.mpr q))
        refine ⟨4, by omega, by omega, Or.inr (Or.inr (Or.inr (Or.inl ⟨r1, r2, r3, fun r4 => ?_, rfl⟩))), ?_⟩
        · obtain ⟨a, b, q1, _, ta, tb, q⟩ := ht
          have lt := gq_mono tb ta q1
          exact (gm_R4_iff h3 r2 r3).mp r4 _ (gq_lt ta) _ lt ((gm_tcl_iff r2 (gq_lt ta) (gq_lt tb) (r3 _ (gq_lt ta) _ lt)).mp q)
        · obtain ⟨u, hu⟩ : ∃ u, FU = u + 1 := ⟨999999, rfl⟩
          rw [hu, G_L_broken_L244, iZ_10, iZ_40, ite_le (by omega), if_neg (by omega), if_neg (show ¬ (4 : Int32) = 6 by decide)]
          rfl
      · have r3 : gm_R3 M n Q := Classical.byContradiction (fun q => hx (hX40.mpr q))
        have r4 : gm_R4 M n Q := by
          refine (gm_R4_iff h3 r2 r3).mpr (fun qa hqa qb hqb q => ht ?_)
          obtain ⟨a, ta, rfl⟩ := gq_on h.h10 hqa
          obtain ⟨b, tb, rfl⟩ := gq_on (n := n) h.h10 (show qb < gm_fst M n by omega)
          exact ⟨a, b, (gq_lt_iff tb ta).mp hqb, th_40 h4.2 ta, ta, tb, (gm_tcl_iff r2 (gq_lt ta) (gq_lt tb) (r3 _ (gq_lt ta) _ hqb)).mpr q⟩
        exact L_brk3 h r1 r2 r3 r4)
    40 0 FU 6 (by omega) (by unfold FU; omega) (Or.inr (Or.inr ⟨fun ⟨a, b, _, q, _⟩ => absurd q (by omega), fun ⟨a, b, _, q, _⟩ => absurd q (by omega), rfl⟩))
  exact lp
theorem L_broken (h : RQ f x y M n Q) (hq : gm_fit M n Q) : ∃ z : Int, 0 ≤ z ∧ z ≤ 5 ∧ gm_brk M n Q z ∧ G_L_broken 5 40 40 f x y = some (iZ z) := by
  have h4 := h.2.1
  have lp := lp_run (L := fun k s z => G_L_broken_L6 5 40 40 f x y k z s) (N := 40)
    (I := fun c s => (∀ e, e < c → th M n e → gm_paper (Q (gq M e))) ∧ ((s = 6 ∧ ∀ e, e < c → th M n e → Q (gq M e) ≠ Q (gm_nf M n (gq M e))) ∨ (s = 2 ∧ ∃ e, e < c ∧ th M n e ∧ Q (gq M e) = Q (gm_nf M n (gq M e)))))
    (E := fun o => ∃ z : Int, 0 ≤ z ∧ z ≤ 5 ∧ gm_brk M n Q z ∧ o = some (iZ z))
    (fun k c s hc hI => by
      obtain ⟨hP, hI⟩ := hI
      have j91 : ∀ s', G_L_broken_j91 (G_L_broken_L6 5 40 40 f x y k) 5 40 40 f x y (iZ (c : Int)) s' = G_L_broken_L6 5 40 40 f x y k (iZ ((c : Int) + 1)) s' := by
        intro s'
        unfold G_L_broken_j91
        rw [iZ_1, iZ_add]
      rcases L_there h hc with ⟨t, et⟩ | ⟨nt, et⟩
      · obtain ⟨u, e3, _⟩ := nc_th h.h10 t
        have b1 := hq _ (gq_lt t)
        have b2 := hq _ (gm_nf_lt (gq_lt t))
        have body : G_L_broken_L6 5 40 40 f x y (k + 1) (iZ (c : Int)) s = (if (Q (gq M c)).1 < 0 then some 1 else if 15 < (Q (gq M c)).1 then some 1 else if (Q (gq M c)).2 < 0 then some 1 else if (Q (gq M c)).2 ≤ 15 then (if (Q (gq M c)).1 = (Q (gm_nf M n (gq M c))).1 then (if (Q (gq M c)).2 = (Q (gm_nf M n (gq M c))).2 then G_L_broken_L6 5 40 40 f x y k (iZ ((c : Int) + 1)) 2 else G_L_broken_L6 5 40 40 f x y k (iZ ((c : Int) + 1)) s) else G_L_broken_L6 5 40 40 f x y k (iZ ((c : Int) + 1)) s) else some 1) := by
          rw [G_L_broken_L6, iZ_40, ite_le (by omega), if_neg (by omega), et, Option.bind_some, if_neg (show ¬ (1 : Int32) = 0 by decide), L_next h t, Option.bind_some]
          simp only [L_x h t, L_y h t, L_x h u, L_y h u, Option.bind_some, j91, e3]
          rw [iZ_0, iZ_15, ite_lt (a := (Q (gq M c)).1) (b := 0) (by omega), ite_lt (a := 15) (b := (Q (gq M c)).1) (by omega), ite_lt (a := (Q (gq M c)).2) (b := 0) (by omega), ite_le (a := (Q (gq M c)).2) (b := 15) (by omega), ite_eq (a := (Q (gq M c)).1) (by omega), ite_eq (a := (Q (gq M c)).2) (by omega)]
        by_cases pc : gm_paper (Q (gq M c))
        · left
          have P1 : ∀ e, e < c + 1 → th M n e → gm_paper (Q (gq M e)) := by
            intro e he te
            by_cases q : e = c
            · rw [q]; exact pc
            · exact hP e (by omega) te
          unfold gm_paper at pc
          rw [if_neg (show ¬ (Q (gq M c)).1 < 0 by omega), if_neg (show ¬ 15 < (Q (gq M c)).1 by omega), if_neg (show ¬ (Q (gq M c)).2 < 0 by omega), if_pos (show (Q (gq M c)).2 ≤ 15 by omega)] at body
          by_cases q : Q (gq M c) = Q (gm_nf M n (gq M c))
          · refine ⟨2, ⟨P1, Or.inr ⟨rfl, c, by omega, t, q⟩⟩, ?_⟩
            rw [if_pos (by rw [← q]), if_pos (by rw [← q])] at body
            exact body
          · refine ⟨s, ⟨P1, ?_⟩, ?_⟩
            · rcases hI with ⟨rfl, al⟩ | ⟨rfl, e, he, te, eq⟩
              · refine Or.inl ⟨rfl, fun e he te => ?_⟩
                by_cases g : e = c
                · rw [g]; exact q
                · exact al e (by omega) te
              · exact Or.inr ⟨rfl, e, by omega, te, eq⟩
            · by_cases g1 : (Q (gq M c)).1 = (Q (gm_nf M n (gq M c))).1
              · rw [if_pos g1, if_neg (fun g2 => q (Prod.ext g1 g2))] at body
                exact body
              · rw [if_neg g1] at body
                exact body
        · right
          show ∃ z : Int, 0 ≤ z ∧ z ≤ 5 ∧ gm_brk M n Q z ∧ G_L_broken_L6 5 40 40 f x y (k + 1) (iZ (c : Int)) s = some (iZ z)
          refine ⟨1, by omega, by omega, Or.inl ⟨fun r1 => pc (r1 _ (gq_lt t)), rfl⟩, body.trans ?_⟩
          unfold gm_paper at pc
          by_cases g1 : (Q (gq M c)).1 < 0
          · rw [if_pos g1]; rfl
          rw [if_neg g1]
          by_cases g2 : 15 < (Q (gq M c)).1
          · rw [if_pos g2]; rfl
          rw [if_neg g2]
          by_cases g3 : (Q (gq M c)).2 < 0
          · rw [if_pos g3]; rfl
          rw [if_neg g3, if_neg (show ¬ (Q (gq M c)).2 ≤ 15 by omega)]; rfl
      · left
        refine ⟨s, ⟨fun e he te => ?_, ?_⟩, ?_⟩
        · by_cases q : e = c
          · rw [q] at te; exact absurd te nt
          · exact hP e (by omega) te
        · rcases hI with ⟨rfl, al⟩ | ⟨rfl, e, he, te, eq⟩
          · refine Or.inl ⟨rfl, fun e he te => ?_⟩
            by_cases g : e = c
            · rw [g] at te; exact absurd te nt
            · exact al e (by omega) te
          · exact Or.inr ⟨rfl, e, by omega, te, eq⟩
        · show G_L_broken_L6 5 40 40 f x y (k + 1) (iZ (c : Int)) s = _
          rw [G_L_broken_L6, iZ_40, ite_le (by omega), if_neg (by omega), et, Option.bind_some, if_pos (show (0 : Int32) = 0 from rfl), j91])
    (fun k s hI => by
      show ∃ z : Int, 0 ≤ z ∧ z ≤ 5 ∧ gm_brk M n Q z ∧ G_L_broken_L6 5 40 40 f x y (k + 1) (iZ ((40 : Nat) : Int)) s = some (iZ z)
      rw [G_L_broken_L6, iZ_40, ite_le (by omega), if_pos (by omega)]
      obtain ⟨hP, hI⟩ := hI
      have r1 : gm_R1 M n Q := by
        intro q hq'
        obtain ⟨c, t, rfl⟩ := gq_on h.h10 hq'
        exact hP c (th_40 h4.2 t) t
      rcases hI with ⟨rfl, al⟩ | ⟨rfl, e, he, te, eq⟩
      · rw [if_neg (show ¬ (6 : Int32) = 2 by decide)]
        refine L_brk2 h r1 (fun q hq' => ?_)
        obtain ⟨c, t, rfl⟩ := gq_on h.h10 hq'
        exact al c (th_40 h4.2 t) t
      · rw [if_pos (show (2 : Int32) = 2 from rfl)]
        exact ⟨2, by omega, by omega, Or.inr (Or.inl ⟨r1, fun r2 => r2 _ (gq_lt te) eq, rfl⟩), rfl⟩)
    40 0 FU 6 (by omega) (by unfold FU; omega) ⟨fun e q => absurd q (by omega), Or.inl ⟨rfl, fun e q => absurd q (by omega)⟩⟩
  exact lp
end LBR
