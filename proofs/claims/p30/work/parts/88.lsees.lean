/-! the law's rings: corners that see each other, kinds -/
def gm_so (M : Nat → Nat) (n : Nat) (Q : Nat → Pt) (a b c : Nat) : Prop := gm_cm (Q a) (Q b) (Q c) (Q (gm_nf M n c)) = 0 ∨ (gm_cm (Q a) (Q b) (Q c) (Q (gm_nf M n c)) = 2 ∧ (c = a ∨ c = b ∨ gm_nf M n c = a ∨ gm_nf M n c = b))
section LSEES
variable {M : Nat → Nat} {n : Nat} {Q : Nat → Pt} {f x y : Nat → Int32}
theorem gm_free_so (h3 : ∀ r, r < n → 3 ≤ M r) (r2 : gm_R2 M n Q) (r3 : gm_R3 M n Q) (r4 : gm_R4 M n Q) {a b : Nat} (ha : a < gm_fst M n) (hb : b < gm_fst M n) (hne : a ≠ b) : gm_free M n Q a b ↔ ∀ c, c < gm_fst M n → gm_so M n Q a b c := by
  have inj : ∀ {u v : Nat}, u < gm_fst M n → v < gm_fst M n → Q u = Q v → u = v := fun hu hv e => gm_Q_inj h3 r2 r3 r4 hu hv e
  have hab : Q a ≠ Q b := fun e => hne (inj ha hb e)
  constructor
  · intro hf c hc
    obtain ⟨f1, f2, f3⟩ := hf
    have hcc := r2 c hc
    have hn := gm_nf_lt hc
    have ne1 := (gm_nf_ne h3 hc).1
    have rg := gm_cm_r (a := Q a) (b := Q b) (p := Q c) (q := Q (gm_nf M n c))
    by_cases m0 : gm_cm (Q a) (Q b) (Q c) (Q (gm_nf M n c)) = 0
    · exact Or.inl m0
    have met : gm_met (Q a) (Q b) (Q c) (Q (gm_nf M n c)) := Classical.byContradiction (fun q => m0 ((gm_cm_0 hab hcc).mpr q))
    have n1 : gm_cm (Q a) (Q b) (Q c) (Q (gm_nf M n c)) ≠ 1 := fun e => (f3 c hc).2 (gm_cm_X.mp e)
    have adj : c = a ∨ c = b ∨ gm_nf M n c = a ∨ gm_nf M n c = b := by
      refine Classical.byContradiction (fun na => ?_)
      have c1 : c ≠ a := fun e => na (Or.inl e)
      have c2 : c ≠ b := fun e => na (Or.inr (Or.inl e))
      have c3 : gm_nf M n c ≠ a := fun e => na (Or.inr (Or.inr (Or.inl e)))
      have c4 : gm_nf M n c ≠ b := fun e => na (Or.inr (Or.inr (Or.inr e)))
      rcases met with q | q | q | q | q
      · exact (f3 c hc).1 ⟨c1, c2, q⟩
      · exact (f3 _ hn).1 ⟨c3, c4, q⟩
      · exact r4 c hc a ha (fun e => c1 e.symm) (fun e => c3 e.symm) q
      · exact r4 c hc b hb (fun e => c2 e.symm) (fun e => c4 e.symm) q
      · exact (f3 c hc).2 q
    have n3 : gm_cm (Q a) (Q b) (Q c) (Q (gm_nf M n c)) ≠ 3 := by
      intro e
      rcases adj with q | q | q | q
      · subst q
        rcases gm_sw_on ((gm_cm_A hab).mp e) with o | o
        · exact (f3 _ hn).1 ⟨ne1, f1, o⟩
        · exact r4 c hc b hb (fun e => hne e.symm) (fun e => f1 e.symm) o
      · subst q
        rcases gm_sw_on ((gm_cm_B hab).mp e) with o | o
        · exact (f3 _ hn).1 ⟨f2, ne1, gm_on_sw o⟩
        · exact r4 c hc a ha hne (fun e => f2 e.symm) o
      · rw [q] at e
        have ca : c ≠ a := fun e => ne1 (q.trans e.symm)
        have cb : c ≠ b := fun e => f2 (by rw [← e]; exact q)
        rcases gm_sw_on ((gm_cm_A' hab).mp e) with o | o
        · exact (f3 c hc).1 ⟨ca, cb, o⟩
        · exact r4 c hc b hb (fun e => cb e.symm) (by rw [q]; exact fun e => hne e.symm) (by rw [q]; exact gm_on_sw o)
      · rw [q] at e
        have cb : c ≠ b := fun e => ne1 (q.trans e.symm)
        have ca : c ≠ a := fun e => f1 (by rw [← e]; exact q)
        rcases gm_sw_on ((gm_cm_B' hab).mp e) with o | o
        · exact (f3 c hc).1 ⟨ca, cb, gm_on_sw o⟩
        · exact r4 c hc a ha (fun e => ca e.symm) (by rw [q]; exact hne) (by rw [q]; exact gm_on_sw o)
    exact Or.inr ⟨by omega, adj⟩
  · intro hs
    refine ⟨fun e => ?_, fun e => ?_, fun c hc => ⟨fun o => ?_, fun o => ?_⟩⟩
    · have s := hs a ha
      unfold gm_so at s
      rw [e] at s
      have k : gm_cm (Q a) (Q b) (Q a) (Q b) = 3 := (gm_cm_A hab).mpr ⟨gm_cr_b _ _, gm_sq_pos (gm_ne hab)⟩
      omega
    · have s := hs b hb
      unfold gm_so at s
      rw [e] at s
      have k : gm_cm (Q a) (Q b) (Q b) (Q a) = 3 := (gm_cm_B hab).mpr ⟨gm_cr_b _ _, gm_sq_pos (gm_ne (fun e => hab e.symm))⟩
      omega
    · obtain ⟨ca, cb, o⟩ := o
      rcases hs c hc with s | ⟨s, adj⟩
      · exact (gm_cm_0 hab (r2 c hc)).mp s (Or.inl o)
      · have qa : Q c ≠ Q a := fun e => ca (inj hc ha e)
        have qb : Q c ≠ Q b := fun e => cb (inj hc hb e)
        rcases adj with q | q | q | q
        · exact ca q
        · exact cb q
        · rw [q] at s
          have k := (gm_cm_A' hab).mpr (gm_sw_of_on o qa hab)
          omega
        · rw [q] at s
          have k := (gm_cm_B' hab).mpr (gm_sw_of_on (gm_on_sw o) qb (fun e => hab e.symm))
          omega
    · have k := gm_cm_X.mpr o
      rcases hs c hc with s | ⟨s, _⟩ <;> omega
theorem L_sees (h : RQ f x y M n Q) (hok : gm_ok M n Q) {c d : Nat} (t1 : th M n c) (t2 : th M n d) : G_L_sees 5 40 40 f x y (iZ (c : Int)) (iZ (d : Int)) = some (iZ (gm_si M n Q (gq M c) (gq M d))) := by
  have h4 := h.2.1
  have h3 : ∀ r, r < n → 3 ≤ M r := fun r hr => (h.2.2.1 r hr).1
  obtain ⟨_, _, r1, r2, r3, r4, r5⟩ := hok
  have hc40 := th_40 h4.2 t1
  have hd40 := th_40 h4.2 t2
  have la := gq_lt t1
  have lb := gq_lt t2
  obtain ⟨a, ea⟩ : ∃ a, a = gq M c := ⟨_, rfl⟩
  obtain ⟨b, eb⟩ : ∃ b, b = gq M d := ⟨_, rfl⟩
  have pa := r1 _ la
  have pb := r1 _ lb
  have lxa := L_x h t1
  have lya := L_y h t1
  have lxb := L_x h t2
  have lyb := L_y h t2
  rw [← ea] at la pa lxa lya ⊢
  rw [← eb] at lb pb lxb lyb ⊢
  have wbd : ∀ r, r < n → -10 ≤ gm_w (M r) (gm_P2 M Q r) (gm_mid Q a b) ∧ gm_w (M r) (gm_P2 M Q r) (gm_mid Q a b) ≤ 10 := by
    intro r hr
    have m10 := h.h10 r hr
    have := gm_sum_bd (m := M r) (g := fun k => gm_c (gm_mid Q a b) (gm_P2 M Q r k) (gm_P2 M Q r (gm_nx (M r) k))) (B := 1) (fun k _ => by unfold gm_c; (repeat' split) <;> omega)
    unfold gm_w
    omega
  have war : ∀ r, r < n → G_L_around 5 40 40 f x y (iZ (r : Int)) (iZ ((Q a).1 + (Q b).1)) (iZ ((Q a).2 + (Q b).2)) = some (iZ (gm_w (M r) (gm_P2 M Q r) (gm_mid Q a b))) := by
    intro r hr
    unfold gm_paper at pa pb
    exact L_around h r1 hr (p := gm_mid Q a b) (by unfold gm_mid; dsimp only; omega)
  obtain ⟨W, hW⟩ : ∃ W : Prop, W = (∀ r, r < n → (gm_w (M r) (gm_P2 M Q r) (gm_mid Q a b) ≠ 0 ↔ r = 0)) := ⟨_, rfl⟩
  have J0 : G_L_sees_j152 5 40 40 f x y 0 (iZ (c : Int)) (iZ (d : Int)) = some 0 := by
    unfold G_L_sees_j152
    rw [lxa, Option.bind_some, lxb, Option.bind_some, lya, Option.bind_some, lyb, Option.bind_some]
    obtain ⟨u, hu⟩ : ∃ u, FU = u + 1 := ⟨999999, rfl⟩
    rw [hu, G_L_sees_L175, rd_0 (by omega) (by omega), h.1, Option.bind_some, iZ_0, ite_le (by omega), if_neg (by omega), if_pos rfl]
    rfl
  have J1 : (W → G_L_sees_j152 5 40 40 f x y 1 (iZ (c : Int)) (iZ (d : Int)) = some 1) ∧ (¬ W → G_L_sees_j152 5 40 40 f x y 1 (iZ (c : Int)) (iZ (d : Int)) = some 0) := by
    have lp := lp_run (L := fun k s z => G_L_sees_L175 5 40 40 f x y k z (iZ ((Q a).2 + (Q b).2)) (iZ ((Q a).1 + (Q b).1)) s) (N := n) (I := fun r s => (s = 1 ∧ ∀ r', r' < r → (gm_w (M r') (gm_P2 M Q r') (gm_mid Q a b) ≠ 0 ↔ r' = 0)) ∨ (s = 0 ∧ ¬ W)) (E := fun o => (W → o = some 1) ∧ (¬ W → o = some 0))
      (fun k r s hr hI => by
        have br := wbd r hr
        rcases hI with ⟨rfl, al⟩ | ⟨rfl, nW⟩
        · left
          by_cases g : gm_w (M r) (gm_P2 M Q r) (gm_mid Q a b) ≠ 0 ↔ r = 0
          · refine ⟨1, Or.inl ⟨rfl, fun r' hr' => ?_⟩, ?_⟩
            · by_cases e : r' = r
              · rw [e]; exact g
              · exact al r' (by omega)
            · show G_L_sees_L175 5 40 40 f x y (k + 1) (iZ (r : Int)) (iZ ((Q a).2 + (Q b).2)) (iZ ((Q a).1 + (Q b).1)) 1 = G_L_sees_L175 5 40 40 f x y k (iZ ((r : Int) + 1)) (iZ ((Q a).2 + (Q b).2)) (iZ ((Q a).1 + (Q b).1)) 1
              rw [G_L_sees_L175, rd_0 (by omega) (by omega), h.1, Option.bind_some, ite_le (by omega), if_neg (show ¬ (n : Int) ≤ (r : Int) by omega), if_neg (show ¬ (1 : Int32) = 0 by decide), war r hr, Option.bind_some, iZ_0, iZ_1, ind_eq (by omega), Option.bind_some, ind_eq (by omega), Option.bind_some, iZ_add]
              by_cases r0 : r = 0
              · rw [if_neg (g.mpr r0), if_pos (show (r : Int) = 0 by omega), if_pos rfl]
                rfl
              · rw [if_pos (Classical.byContradiction (fun q => r0 (g.mp q))), if_neg (show ¬ (r : Int) = 0 by omega), if_pos rfl]
                rfl
          · refine ⟨0, Or.inr ⟨rfl, fun w => g (by rw [hW] at w; exact w r hr)⟩, ?_⟩
            show G_L_sees_L175 5 40 40 f x y (k + 1) (iZ (r : Int)) (iZ ((Q a).2 + (Q b).2)) (iZ ((Q a).1 + (Q b).1)) 1 = G_L_sees_L175 5 40 40 f x y k (iZ ((r : Int) + 1)) (iZ ((Q a).2 + (Q b).2)) (iZ ((Q a).1 + (Q b).1)) 0
            rw [G_L_sees_L175, rd_0 (by omega) (by omega), h.1, Option.bind_some, ite_le (by omega), if_neg (show ¬ (n : Int) ≤ (r : Int) by omega), if_neg (show ¬ (1 : Int32) = 0 by decide), war r hr, Option.bind_some, iZ_0, iZ_1, ind_eq (by omega), Option.bind_some, ind_eq (by omega), Option.bind_some, iZ_add]
            by_cases r0 : r = 0
            · rw [if_pos (Classical.byContradiction (fun q => g ⟨fun _ => r0, fun _ => q⟩)), if_pos (show (r : Int) = 0 by omega), if_neg (by decide)]
              rfl
            · rw [if_neg (fun q => g ⟨fun w => absurd q w, fun w => absurd w r0⟩), if_neg (show ¬ (r : Int) = 0 by omega), if_neg (by decide)]
              rfl
        · right
          have e : G_L_sees_L175 5 40 40 f x y (k + 1) (iZ (r : Int)) (iZ ((Q a).2 + (Q b).2)) (iZ ((Q a).1 + (Q b).1)) 0 = some 0 := by
            rw [G_L_sees_L175, rd_0 (by omega) (by omega), h.1, Option.bind_some, ite_le (by omega), if_neg (show ¬ (n : Int) ≤ (r : Int) by omega), if_pos rfl]
            rfl
          exact ⟨fun w => absurd w nW, fun _ => e⟩)
      (fun k s hI => by
        have e : ∀ s, G_L_sees_L175 5 40 40 f x y (k + 1) (iZ (n : Int)) (iZ ((Q a).2 + (Q b).2)) (iZ ((Q a).1 + (Q b).1)) s = (bck s).bind fun v => some v := by
          intro s
          rw [G_L_sees_L175, rd_0 (by omega) (by omega), h.1, Option.bind_some, ite_le (by omega), if_pos (by omega)]
        rcases hI with ⟨rfl, al⟩ | ⟨rfl, nW⟩
        · have w : W := by rw [hW]; exact al
          exact ⟨fun _ => (e 1).trans rfl, fun q => absurd w q⟩
        · exact ⟨fun w => absurd w nW, fun _ => (e 0).trans rfl⟩)
      n 0 FU 1 (by omega) (by unfold FU; omega) (Or.inl ⟨rfl, fun r' q => absurd q (by omega)⟩)
    unfold G_L_sees_j152
    rw [lxa, Option.bind_some, lxb, Option.bind_some, lya, Option.bind_some, lyb, Option.bind_some, iZ_add, iZ_add]
    exact lp
  have hS : gm_sees M n Q a b ↔ (a ≠ b ∧ (∀ q, q < gm_fst M n → gm_so M n Q a b q) ∧ W) := by
    unfold gm_sees
    rw [hW]
    constructor
    · intro ⟨s1, s2, s3, s4⟩
      refine ⟨s1, (gm_free_so h3 r2 r3 r4 la lb s1).mp s2, fun r hr => ⟨fun q => Classical.byContradiction (fun r0 => q (s4 r (by omega) hr)), fun r0 => by rw [r0]; exact s3⟩⟩
    · intro ⟨s1, s2, s3⟩
      exact ⟨s1, (gm_free_so h3 r2 r3 r4 la lb s1).mpr s2, (s3 0 (by omega)).mpr rfl, fun r q1 q2 => Classical.byContradiction (fun q => by have := (s3 r q2).mp q; omega)⟩
  have lp := lp_run (L := fun k s z => G_L_sees_L15 5 40 40 f x y k z s (iZ (c : Int)) (iZ (d : Int))) (N := 40) (I := fun e s => (s = 1 ∧ a ≠ b ∧ ∀ e', e' < e → th M n e' → gm_so M n Q a b (gq M e')) ∨ (s = 0 ∧ ¬ gm_sees M n Q a b)) (E := fun o => (gm_sees M n Q a b → o = some 1) ∧ (¬ gm_sees M n Q a b → o = some 0))
    (fun k e s he hI => by
      rcases hI with ⟨rfl, hne, al⟩ | ⟨rfl, nS⟩
      · left
        have hab : Q a ≠ Q b := fun q => hne (gm_Q_inj h3 r2 r3 r4 la lb q)
        rcases L_there h he with ⟨t, et⟩ | ⟨nt, et⟩
        · obtain ⟨u, e3, e4⟩ := nc_th h.h10 t
          have hn40 := th_40 h4.2 u
          have lq := gq_lt t
          have lc := L_common pa pb (r1 _ lq) (r1 _ (gm_nf_lt lq))
          have head : ∀ s', G_L_sees_j146 (G_L_sees_L15 5 40 40 f x y k) 5 40 40 f x y (iZ (e : Int)) s' (iZ (c : Int)) (iZ (d : Int)) = G_L_sees_L15 5 40 40 f x y k (iZ ((e : Int) + 1)) s' (iZ (c : Int)) (iZ (d : Int)) := by
            intro s'
            unfold G_L_sees_j146
            rw [iZ_1, iZ_add]
          have body : G_L_sees_L15 5 40 40 f x y (k + 1) (iZ (e : Int)) 1 (iZ (c : Int)) (iZ (d : Int)) =
              ((if iZ (gm_cm (Q a) (Q b) (Q (gq M e)) (Q (gm_nf M n (gq M e)))) = 0 then some 1 else if iZ (gm_cm (Q a) (Q b) (Q (gq M e)) (Q (gm_nf M n (gq M e)))) = 2 then (if iZ (e : Int) = iZ (c : Int) then some 1 else if iZ (e : Int) = iZ (d : Int) then some 1 else if iZ ((nc M e : Nat) : Int) = iZ (c : Int) then some 1 else if iZ ((nc M e : Nat) : Int) = iZ (d : Int) then some 1 else some 0) else some 0) : Option Int32).bind fun s' => G_L_sees_L15 5 40 40 f x y k (iZ ((e : Int) + 1)) s' (iZ (c : Int)) (iZ (d : Int)) := by
            rw [G_L_sees_L15, iZ_40, ite_le (by omega), if_neg (by omega), if_neg (show ¬ (1 : Int32) = 0 by decide), et, Option.bind_some, if_neg (show ¬ (1 : Int32) = 0 by decide), L_next h t, Option.bind_some, lxa, Option.bind_some, lya, Option.bind_some, lxb, Option.bind_some, Option.bind_some, lyb, Option.bind_some, Option.bind_some, L_x h t, Option.bind_some, L_y h t, Option.bind_some, L_x h u, Option.bind_some, Option.bind_some, L_y h u, Option.bind_some, Option.bind_some, e3, lc, Option.bind_some]
            simp only [head]
          have same : ∀ {u v : Nat} (_ : u < 40) (_ : v < 40), th M n u → th M n v → ((u : Int) = (v : Int) ↔ gq M u = gq M v) := by
            intro u v _ _ tu tv
            constructor
            · intro q
              rw [show u = v by omega]
            · intro q
              rw [gq_inj tu tv q]
          obtain ⟨m, em⟩ : ∃ m, m = gm_cm (Q a) (Q b) (Q (gq M e)) (Q (gm_nf M n (gq M e))) := ⟨_, rfl⟩
          have rg := gm_cm_r (a := Q a) (b := Q b) (p := Q (gq M e)) (q := Q (gm_nf M n (gq M e)))
          have yes : gm_so M n Q a b (gq M e) → G_L_sees_L15 5 40 40 f x y (k + 1) (iZ (e : Int)) 1 (iZ (c : Int)) (iZ (d : Int)) = G_L_sees_L15 5 40 40 f x y k (iZ ((e : Int) + 1)) 1 (iZ (c : Int)) (iZ (d : Int)) → ∃ s', ((s' = 1 ∧ a ≠ b ∧ ∀ e', e' < e + 1 → th M n e' → gm_so M n Q a b (gq M e')) ∨ (s' = 0 ∧ ¬ gm_sees M n Q a b)) ∧ G_L_sees_L15 5 40 40 f x y (k + 1) (iZ (e : Int)) 1 (iZ (c : Int)) (iZ (d : Int)) = G_L_sees_L15 5 40 40 f x y k (iZ ((e : Int) + 1)) s' (iZ (c : Int)) (iZ (d : Int)) := by
            intro so eq
            refine ⟨1, Or.inl ⟨rfl, hne, fun e' he' te' => ?_⟩, eq⟩
            by_cases q : e' = e
            · rw [q]; exact so
            · exact al e' (by omega) te'
          have no : ¬ gm_so M n Q a b (gq M e) → G_L_sees_L15 5 40 40 f x y (k + 1) (iZ (e : Int)) 1 (iZ (c : Int)) (iZ (d : Int)) = G_L_sees_L15 5 40 40 f x y k (iZ ((e : Int) + 1)) 0 (iZ (c : Int)) (iZ (d : Int)) → ∃ s', ((s' = 1 ∧ a ≠ b ∧ ∀ e', e' < e + 1 → th M n e' → gm_so M n Q a b (gq M e')) ∨ (s' = 0 ∧ ¬ gm_sees M n Q a b)) ∧ G_L_sees_L15 5 40 40 f x y (k + 1) (iZ (e : Int)) 1 (iZ (c : Int)) (iZ (d : Int)) = G_L_sees_L15 5 40 40 f x y k (iZ ((e : Int) + 1)) s' (iZ (c : Int)) (iZ (d : Int)) :=
            fun so eq => ⟨0, Or.inr ⟨rfl, fun S => so ((hS.mp S).2.1 _ lq)⟩, eq⟩
          unfold gm_so at yes no
          rw [body] at yes no ⊢
          rw [← em] at rg yes no ⊢
          rcases rg with q | q | q | q
          · rw [q] at yes ⊢
            exact yes (Or.inl rfl) rfl
          · rw [q] at no ⊢
            exact no (by omega) rfl
          · rw [q] at yes no ⊢
            rw [if_neg (show ¬ iZ 2 = (0 : Int32) by decide), if_pos (show iZ 2 = (2 : Int32) from rfl), ite_eq (by omega), ite_eq (by omega), ite_eq (by omega), ite_eq (by omega)] at yes no ⊢
            have k1 := same he hc40 t t1
            have k2 := same he hd40 t t2
            have k3 := same hn40 hc40 u t1
            have k4 := same hn40 hd40 u t2
            rw [← ea] at k1 k3
            rw [← eb] at k2 k4
            rw [e3] at k3 k4
            by_cases c1 : (e : Int) = (c : Int)
            · rw [if_pos c1] at yes ⊢
              exact yes (Or.inr ⟨rfl, Or.inl (k1.mp c1)⟩) rfl
            rw [if_neg c1] at yes no ⊢
            by_cases c2 : (e : Int) = (d : Int)
            · rw [if_pos c2] at yes ⊢
              exact yes (Or.inr ⟨rfl, Or.inr (Or.inl (k2.mp c2))⟩) rfl
            rw [if_neg c2] at yes no ⊢
            by_cases c3 : ((nc M e : Nat) : Int) = (c : Int)
            · rw [if_pos c3] at yes ⊢
              exact yes (Or.inr ⟨rfl, Or.inr (Or.inr (Or.inl (k3.mp c3)))⟩) rfl
            rw [if_neg c3] at yes no ⊢
            by_cases c4 : ((nc M e : Nat) : Int) = (d : Int)
            · rw [if_pos c4] at yes ⊢
              exact yes (Or.inr ⟨rfl, Or.inr (Or.inr (Or.inr (k4.mp c4)))⟩) rfl
            rw [if_neg c4] at no ⊢
            refine no ?_ rfl
            rintro (q | ⟨_, q | q | q | q⟩)
            · omega
            · exact c1 (k1.mpr q)
            · exact c2 (k2.mpr q)
            · exact c3 (k3.mpr q)
            · exact c4 (k4.mpr q)
          · rw [q] at no ⊢
            exact no (by omega) rfl
        · refine ⟨1, Or.inl ⟨rfl, hne, fun e' he' te' => ?_⟩, ?_⟩
          · by_cases q : e' = e
            · rw [q] at te'; exact absurd te' nt
            · exact al e' (by omega) te'
          · show G_L_sees_L15 5 40 40 f x y (k + 1) (iZ (e : Int)) 1 (iZ (c : Int)) (iZ (d : Int)) = G_L_sees_L15 5 40 40 f x y k (iZ ((e : Int) + 1)) 1 (iZ (c : Int)) (iZ (d : Int))
            rw [G_L_sees_L15, iZ_40, ite_le (by omega), if_neg (by omega), if_neg (show ¬ (1 : Int32) = 0 by decide), et, Option.bind_some, if_pos (show (0 : Int32) = 0 from rfl)]
            unfold G_L_sees_j146
            rw [iZ_1, iZ_add]
      · right
        have e : G_L_sees_L15 5 40 40 f x y (k + 1) (iZ (e : Int)) 0 (iZ (c : Int)) (iZ (d : Int)) = some 0 := by
          rw [G_L_sees_L15, iZ_40, ite_le (by omega), if_neg (by omega), if_pos (show (0 : Int32) = 0 from rfl), J0]
        exact ⟨fun S => absurd S nS, fun _ => e⟩)
    (fun k s hI => by
      have e : ∀ s, G_L_sees_L15 5 40 40 f x y (k + 1) (iZ ((40 : Nat) : Int)) s (iZ (c : Int)) (iZ (d : Int)) = G_L_sees_j152 5 40 40 f x y s (iZ (c : Int)) (iZ (d : Int)) := by
        intro s
        rw [G_L_sees_L15, iZ_40, ite_le (by omega), if_pos (by omega)]
      rcases hI with ⟨rfl, hne, al⟩ | ⟨rfl, nS⟩
      · have al' : ∀ q, q < gm_fst M n → gm_so M n Q a b q := by
          intro q hq
          obtain ⟨e', te', rfl⟩ := gq_on h.h10 hq
          exact al e' (th_40 h4.2 te') te'
        constructor
        · intro S
          exact (e 1).trans (J1.1 (hS.mp S).2.2)
        · intro nS
          exact (e 1).trans (J1.2 (fun w => nS (hS.mpr ⟨hne, al', w⟩)))
      · exact ⟨fun S => absurd S nS, fun _ => (e 0).trans J0⟩)
    40 0 FU
  have fin : ∀ o : Option Int32, ((gm_sees M n Q a b → o = some 1) ∧ (¬ gm_sees M n Q a b → o = some 0)) → o = some (iZ (gm_si M n Q a b)) := by
    intro o ⟨o1, o0⟩
    rcases gm_si_01 M n Q a b with ⟨e, S⟩ | ⟨e, S⟩
    · rw [e]; exact o1 S
    · rw [e]; exact o0 S
  unfold G_L_sees
  by_cases hcd : c = d
  · have hab : a = b := by rw [ea, eb, hcd]
    rw [if_pos (show iZ (c : Int) = iZ (d : Int) by rw [hcd]), Option.bind_some, iZ_0]
    exact fin _ (lp 0 (by omega) (by unfold FU; omega) (Or.inr ⟨rfl, fun S => S.1 hab⟩))
  · have hab : a ≠ b := fun e => hcd (gq_inj t1 t2 (by rw [← ea, ← eb]; exact e))
    rw [ite_eq (by omega), if_neg (show ¬ (c : Int) = (d : Int) by omega), Option.bind_some, iZ_0]
    exact fin _ (lp 1 (by omega) (by unfold FU; omega) (Or.inl ⟨rfl, hab, fun e' q => absurd q (by omega)⟩))
theorem L_bend (h : RQ f x y M n Q) {c : Nat} (t : th M n c) : G_L_bend 5 40 40 f x y (iZ (c : Int)) = some (iZ (gm_bend M Q (c / 10) (c % 10))) := by
  obtain ⟨u, e3, _⟩ := nc_th h.h10 t
  obtain ⟨v, e5, _⟩ := pc_th h.h10 t
  have e1 : Q (gq M c) = gm_P M Q (c / 10) (c % 10) := rfl
  have e2 : Q (gq M (nc M c)) = gm_P M Q (c / 10) (gm_nx (M (c / 10)) (c % 10)) := by
    rw [e3]
    unfold gq
    rw [gm_nf_eq t.1 t.2]
    rfl
  have e4 : Q (gq M (pc_ M c)) = gm_P M Q (c / 10) (gm_pv (M (c / 10)) (c % 10)) := by
    rw [e5]
    rfl
  unfold G_L_bend
  rw [L_before h t, Option.bind_some, L_next h t, Option.bind_some, L_x h t, Option.bind_some, L_x h v, Option.bind_some, L_y h t, Option.bind_some, L_y h v, Option.bind_some, L_x h u, Option.bind_some, Option.bind_some, L_y h u, Option.bind_some, Option.bind_some, iZ_sub, iZ_sub, iZ_sub, iZ_sub, L_cross, Option.bind_some, e1, e2, e4]
  refine congrArg (fun z => some (iZ z)) ?_
  unfold gm_bend gm_cr
  grind
theorem L_kind (h : RQ f x y M n Q) (hok : gm_ok M n Q) {c : Nat} (t : th M n c) : G_L_kind 5 40 40 f x y (iZ (c : Int)) = some (iZ (gm_kind M Q (c / 10) (c % 10))) := by
  have hc := th_40 h.2.1.2 t
  have b1 := gm_bend_bd hok t.1 t.2
  have b2 := gm_ds_bd hok t.1
  unfold G_L_kind
  rw [L_bend h t, Option.bind_some, c_div hc, L_sum h t.1, iZ_0, ite_eq (by omega), iZ_1, ind_le (by omega), Option.bind_some, Option.bind_some, ind_le (by omega), Option.bind_some, iZ_neg]
  unfold gm_kind
  by_cases c0 : gm_bend M Q (c / 10) (c % 10) = 0
  · rw [if_pos c0, if_pos c0]
  · rw [if_neg c0, if_neg c0]
    by_cases c1 : gm_bend M Q (c / 10) (c % 10) ≤ 0
    · rw [if_pos c1]
      by_cases c2 : gm_ds (M (c / 10)) (gm_P M Q (c / 10)) ≤ 0
      · rw [if_pos c2, if_pos rfl, if_pos (by constructor <;> intro q <;> omega)]
      · rw [if_neg c2, if_neg (show ¬ iZ 0 = iZ 1 by decide), if_neg (fun q => by omega)]
    · rw [if_neg c1]
      by_cases c2 : gm_ds (M (c / 10)) (gm_P M Q (c / 10)) ≤ 0
      · rw [if_pos c2, if_neg (show ¬ iZ 1 = iZ 0 by decide), if_neg (fun q => by omega)]
      · rw [if_neg c2, if_pos rfl, if_pos (by constructor <;> intro q <;> omega)]
end LSEES
