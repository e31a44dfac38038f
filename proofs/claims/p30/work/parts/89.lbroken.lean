/-! the law's rings: the hull, the first rule that is broken -/
theorem ite_le_z {α : Type} {a : Int} {x y : α} {i : Decidable (iZ a ≤ 0)} (h : -2147483648 ≤ a ∧ a < 2147483648) : @ite α (iZ a ≤ 0) i x y = if a ≤ 0 then x else y := ite_le (a := a) (b := 0) (by omega)
section LBR
variable {M : Nat → Nat} {n : Nat} {Q : Nat → Pt} {f x y : Nat → Int32}
theorem th_0 (h : RQ f x y M n Q) {i : Nat} (hi : i < M 0) : th M n i ∧ gq M i = i ∧ i < 10 := by
  have hn := h.2.1.1
  have m10 := h.h10 0 (by omega)
  have e1 : i / 10 = 0 := by omega
  have e2 : i % 10 = i := by omega
  refine ⟨?_, ?_, by omega⟩
  · unfold th
    rw [e1, e2]
    exact ⟨by omega, hi⟩
  · unfold gq
    rw [e1, e2]
    exact Nat.zero_add i
theorem L_m0 (h : RQ f x y M n Q) : rd 5 f 1 = some (iZ (M 0 : Nat)) := by
  have hn := h.2.1.1
  rw [iZ_1, show (1 : Int) = ((1 : Nat) : Int) from rfl, rd_iZ (by omega) (by omega)]
  exact congrArg some ((h.2.2.1 0 (by omega)).2.2)
theorem L_hull (h : RQ f x y M n Q) (hok : gm_ok M n Q) : G_L_hull 5 40 40 f x y = some (iZ (gm_sum (M 0) (fun a => gm_sum (M 0) (fun b => gm_hI M Q a b)))) := by
  have hn := h.2.1.1
  have m10 := h.h10 0 (by omega)
  have r1 := hok.2.2.1
  have h3 : ∀ r, r < n → 3 ≤ M r := fun r hr => (h.2.2.1 r hr).1
  have rx : ∀ i, i < M 0 → rd 40 x (iZ (i : Int)) = some (iZ (Q i).1) := fun i hi => by
    have e := L_x h (th_0 h hi).1
    rw [(th_0 h hi).2.1] at e
    exact e
  have ry : ∀ i, i < M 0 → rd 40 y (iZ (i : Int)) = some (iZ (Q i).2) := fun i hi => by
    have e := L_y h (th_0 h hi).1
    rw [(th_0 h hi).2.1] at e
    exact e
  have lt0 : ∀ i, i < M 0 → i < gm_fst M n := fun i hi => by
    have e := gq_lt (th_0 h hi).1
    rw [(th_0 h hi).2.1] at e
    exact e
  have pp : ∀ i, i < M 0 → gm_paper (Q i) := fun i hi => r1 i (lt0 i hi)
  have inner : ∀ (r16 : Int32 → Int32 → Int32 → Option Int32) (i j : Nat) (acc : Int), i < M 0 → j < M 0 → ∀ (s : Int32), ((s = 1 ∧ i ≠ j) ∨ (s = 0 ∧ i = j)) →
      G_L_hull_L80 r16 5 40 40 f x y FU 0 s (iZ (gm_dt (Q i) (Q j) (Q j))) (iZ (j : Int)) (iZ (i : Int)) (iZ acc) = r16 (iZ ((j : Int) + 1)) (iZ (i : Int)) (iZ (acc + gm_hI M Q i j)) := by
    intro r16 i j acc hi hj s hs
    have bq := gm_dt_450 (pp i hi) (pp j hj) (pp j hj)
    have lp := lp_inv (L := fun k s z => G_L_hull_L80 r16 5 40 40 f x y k z s (iZ (gm_dt (Q i) (Q j) (Q j))) (iZ (j : Int)) (iZ (i : Int)) (iZ acc)) (N := M 0)
      (I := fun k s => (s = 1 ∧ i ≠ j ∧ ∀ k', k' < k → (0 < gm_cr (Q i) (Q j) (Q k') ∨ (gm_cr (Q i) (Q j) (Q k') = 0 ∧ 0 ≤ gm_dt (Q i) (Q j) (Q k') ∧ gm_dt (Q i) (Q j) (Q k') ≤ gm_dt (Q i) (Q j) (Q j)))) ∨
        (s = 0 ∧ ¬ (i ≠ j ∧ ∀ k', k' < M 0 → (0 < gm_cr (Q i) (Q j) (Q k') ∨ (gm_cr (Q i) (Q j) (Q k') = 0 ∧ 0 ≤ gm_dt (Q i) (Q j) (Q k') ∧ gm_dt (Q i) (Q j) (Q k') ≤ gm_dt (Q i) (Q j) (Q j))))))
      (K := fun s => ((if s = 0 then some 0 else some (iZ ((Q i).1 * (Q j).2 - (Q i).2 * (Q j).1))) : Option Int32).bind fun b213 => r16 (iZ (j : Int) + 1) (iZ (i : Int)) (iZ acc + b213))
      (fun k c s hc hI => by
        have bc := gm_cr_450 (pp i hi) (pp j hj) (pp c hc)
        have bd := gm_dt_450 (pp i hi) (pp j hj) (pp c hc)
        have ec : ((Q j).1 - (Q i).1) * ((Q c).2 - (Q i).2) - ((Q j).2 - (Q i).2) * ((Q c).1 - (Q i).1) = gm_cr (Q i) (Q j) (Q c) := rfl
        have ed : ((Q j).1 - (Q i).1) * ((Q c).1 - (Q i).1) + ((Q j).2 - (Q i).2) * ((Q c).2 - (Q i).2) = gm_dt (Q i) (Q j) (Q c) := rfl
        have body : G_L_hull_L80 r16 5 40 40 f x y (k + 1) (iZ (c : Int)) s (iZ (gm_dt (Q i) (Q j) (Q j))) (iZ (j : Int)) (iZ (i : Int)) (iZ acc) =
            ((if s = 0 then some 0 else if 0 < gm_cr (Q i) (Q j) (Q c) then some 1 else if gm_cr (Q i) (Q j) (Q c) = 0 then (if gm_dt (Q i) (Q j) (Q c) < 0 then some 0 else if gm_dt (Q i) (Q j) (Q j) < gm_dt (Q i) (Q j) (Q c) then some 0 else some 1) else some 0) : Option Int32).bind fun b => G_L_hull_L80 r16 5 40 40 f x y k (iZ ((c : Int) + 1)) b (iZ (gm_dt (Q i) (Q j) (Q j))) (iZ (j : Int)) (iZ (i : Int)) (iZ acc) := by
          rw [G_L_hull_L80, L_m0 h, Option.bind_some, ite_le (by omega), if_neg (show ¬ ((M 0 : Nat) : Int) ≤ (c : Int) by omega)]
          rw [rx j hj, Option.bind_some, rx i hi, Option.bind_some, ry j hj, Option.bind_some, ry i hi, Option.bind_some, rx c hc, Option.bind_some, Option.bind_some, ry c hc, Option.bind_some, Option.bind_some, iZ_sub, iZ_sub, iZ_sub, iZ_sub, L_cross, ec]
          repeat rw [Option.bind_some]
          repeat rw [iZ_sub]
          repeat rw [iZ_mul]
          rw [iZ_1]
          repeat rw [iZ_add]
          rw [ed]
          rw [iZ_0, ite_lt (a := 0) (b := gm_cr (Q i) (Q j) (Q c)) (by omega), ite_eq (a := gm_cr (Q i) (Q j) (Q c)) (b := 0) (by omega), ite_lt (a := gm_dt (Q i) (Q j) (Q c)) (b := 0) (by omega), ite_lt (a := gm_dt (Q i) (Q j) (Q j)) (b := gm_dt (Q i) (Q j) (Q c)) (by omega)]
        rcases hI with ⟨rfl, hne, al⟩ | ⟨rfl, no⟩
        · by_cases C : (0 < gm_cr (Q i) (Q j) (Q c) ∨ (gm_cr (Q i) (Q j) (Q c) = 0 ∧ 0 ≤ gm_dt (Q i) (Q j) (Q c) ∧ gm_dt (Q i) (Q j) (Q c) ≤ gm_dt (Q i) (Q j) (Q j)))
          · refine ⟨1, Or.inl ⟨rfl, hne, fun k' hk' => ?_⟩, ?_⟩
            · by_cases e : k' = c
              · rw [e]; exact C
              · exact al k' (by omega)
            · refine body.trans ?_
              rw [if_neg (show ¬ (1 : Int32) = 0 by decide)]
              by_cases c1 : 0 < gm_cr (Q i) (Q j) (Q c)
              · rw [if_pos c1]; rfl
              · rw [if_neg c1, if_pos (show gm_cr (Q i) (Q j) (Q c) = 0 by omega), if_neg (show ¬ gm_dt (Q i) (Q j) (Q c) < 0 by omega), if_neg (show ¬ gm_dt (Q i) (Q j) (Q j) < gm_dt (Q i) (Q j) (Q c) by omega)]; rfl
          · refine ⟨0, Or.inr ⟨rfl, fun q => C (q.2 c hc)⟩, ?_⟩
            refine body.trans ?_
            rw [if_neg (show ¬ (1 : Int32) = 0 by decide), if_neg (show ¬ 0 < gm_cr (Q i) (Q j) (Q c) by omega)]
            by_cases c1 : gm_cr (Q i) (Q j) (Q c) = 0
            · rw [if_pos c1]
              by_cases c2 : gm_dt (Q i) (Q j) (Q c) < 0
              · rw [if_pos c2]; rfl
              · rw [if_neg c2, if_pos (show gm_dt (Q i) (Q j) (Q j) < gm_dt (Q i) (Q j) (Q c) by omega)]; rfl
            · rw [if_neg c1]; rfl
        · exact ⟨0, Or.inr ⟨rfl, no⟩, body.trans (by rw [if_pos (show (0 : Int32) = 0 from rfl)]; rfl)⟩)
      (fun k s hI => by
        show G_L_hull_L80 r16 5 40 40 f x y (k + 1) (iZ ((M 0 : Nat) : Int)) s (iZ (gm_dt (Q i) (Q j) (Q j))) (iZ (j : Int)) (iZ (i : Int)) (iZ acc) = _
        rw [G_L_hull_L80, L_m0 h, Option.bind_some, ite_le (by omega), if_pos (by omega)]
        rw [rx i hi, Option.bind_some, ry i hi, Option.bind_some, rx j hj, Option.bind_some, ry j hj, Option.bind_some, L_cross, Option.bind_some])
      (M 0) 0 FU s (by omega) (by unfold FU; omega) (by
        rcases hs with ⟨rfl, q⟩ | ⟨rfl, q⟩
        · exact Or.inl ⟨rfl, q, fun k' q => absurd q (by omega)⟩
        · exact Or.inr ⟨rfl, fun w => w.1 q⟩)
    obtain ⟨s', hI, e⟩ := lp
    have e : G_L_hull_L80 r16 5 40 40 f x y FU 0 s (iZ (gm_dt (Q i) (Q j) (Q j))) (iZ (j : Int)) (iZ (i : Int)) (iZ acc) = _ := e
    rw [e]
    have hsiff : gm_hs (M 0) Q i j ↔ (i ≠ j ∧ ∀ k', k' < M 0 → (0 < gm_cr (Q i) (Q j) (Q k') ∨ (gm_cr (Q i) (Q j) (Q k') = 0 ∧ 0 ≤ gm_dt (Q i) (Q j) (Q k') ∧ gm_dt (Q i) (Q j) (Q k') ≤ gm_dt (Q i) (Q j) (Q j)))) := by
      unfold gm_hs
      constructor
      · intro ⟨_, _, ne, al⟩
        have hab : Q i ≠ Q j := fun e => ne (gm_Q_inj h3 hok.2.2.2.1 hok.2.2.2.2.1 hok.2.2.2.2.2.1 (lt0 i hi) (lt0 j hj) e)
        refine ⟨ne, fun k hk => ?_⟩
        obtain ⟨a1, a2⟩ := al k hk
        rw [gm_on_dt hab] at a2
        by_cases c : gm_cr (Q i) (Q j) (Q k) = 0
        · exact Or.inr (a2 c)
        · exact Or.inl (by omega)
      · intro ⟨ne, al⟩
        have hab : Q i ≠ Q j := fun e => ne (gm_Q_inj h3 hok.2.2.2.1 hok.2.2.2.2.1 hok.2.2.2.2.2.1 (lt0 i hi) (lt0 j hj) e)
        refine ⟨hi, hj, ne, fun k hk => ?_⟩
        rw [gm_on_dt hab]
        have a := al k hk
        exact ⟨by omega, fun c => by rcases a with a | a; · omega
                                     · exact a⟩
    unfold gm_hI
    rcases hI with ⟨rfl, a⟩ | ⟨rfl, a⟩
    · rw [if_pos (hsiff.mpr a), if_neg (show ¬ (1 : Int32) = 0 by decide), Option.bind_some, iZ_1, iZ_add, iZ_add]
      refine congrArg (fun z => r16 (iZ ((j : Int) + 1)) (iZ (i : Int)) (iZ (acc + z))) ?_
      unfold gm_pr
      grind
    · rw [if_neg (fun q => a (hsiff.mp q)), if_pos (show (0 : Int32) = 0 from rfl), Option.bind_some, iZ_1, iZ_0, iZ_add, iZ_add]
  have mid : ∀ (r5 : Int32 → Int32 → Option Int32) (i : Nat) (acc : Int), i < M 0 → G_L_hull_L16 r5 5 40 40 f x y FU 0 (iZ (i : Int)) (iZ acc) = r5 (iZ ((i : Int) + 1)) (iZ (acc + gm_sum (M 0) (fun b => gm_hI M Q i b))) := by
    intro r5 i acc hi
    have lp := lp_sum (L := fun k z a => G_L_hull_L16 r5 5 40 40 f x y k z (iZ (i : Int)) a) (N := M 0) (g := fun b => gm_hI M Q i b) (K := fun a => r5 (iZ ((i : Int) + 1)) (iZ a))
      (fun k j a hj => by
        have bq := gm_dt_450 (pp i hi) (pp j hj) (pp j hj)
        have ed : ((Q j).1 - (Q i).1) * ((Q j).1 - (Q i).1) + ((Q j).2 - (Q i).2) * ((Q j).2 - (Q i).2) = gm_dt (Q i) (Q j) (Q j) := rfl
        show G_L_hull_L16 r5 5 40 40 f x y (k + 1) (iZ (j : Int)) (iZ (i : Int)) (iZ a) = G_L_hull_L16 r5 5 40 40 f x y k (iZ ((j : Int) + 1)) (iZ (i : Int)) (iZ (a + gm_hI M Q i j))
        rw [G_L_hull_L16, L_m0 h, Option.bind_some, ite_le (by omega), if_neg (show ¬ ((M 0 : Nat) : Int) ≤ (j : Int) by omega)]
        rw [rx j hj, Option.bind_some, rx i hi, Option.bind_some, Option.bind_some, Option.bind_some, ry j hj, Option.bind_some, ry i hi, Option.bind_some, Option.bind_some, Option.bind_some]
        repeat rw [iZ_sub]
        repeat rw [iZ_mul]
        rw [iZ_add, ed, ite_le_z (a := gm_dt (Q i) (Q j) (Q j)) (by omega)]
        by_cases e : i = j
        · have z : gm_dt (Q i) (Q j) (Q j) = 0 := by rw [e]; unfold gm_dt; grind
          rw [if_pos (by omega), Option.bind_some]
          exact inner _ i j a hi hj 0 (Or.inr ⟨rfl, e⟩)
        · have z : 0 < gm_dt (Q i) (Q j) (Q j) := gm_sq_pos (gm_ne (fun q => e (gm_Q_inj h3 hok.2.2.2.1 hok.2.2.2.2.1 hok.2.2.2.2.2.1 (lt0 i hi) (lt0 j hj) q)))
          rw [if_neg (by omega), Option.bind_some]
          exact inner _ i j a hi hj 1 (Or.inl ⟨rfl, e⟩))
      (fun k a => by
        show G_L_hull_L16 r5 5 40 40 f x y (k + 1) (iZ ((M 0 : Nat) : Int)) (iZ (i : Int)) (iZ a) = r5 (iZ ((i : Int) + 1)) (iZ a)
        rw [G_L_hull_L16, L_m0 h, Option.bind_some, ite_le (by omega), if_pos (by omega), iZ_1, iZ_add])
      (M 0) 0 FU acc (by omega) (by unfold FU; omega)
    have lp : G_L_hull_L16 r5 5 40 40 f x y FU 0 (iZ (i : Int)) (iZ acc) = _ := lp
    rw [lp]
    exact congrArg (fun z => r5 (iZ ((i : Int) + 1)) (iZ (acc + z))) (gm_sum_congr (fun k _ => by rw [Nat.zero_add]))
  have lp := lp_sum (L := fun k z a => G_L_hull_L5 5 40 40 f x y k z a) (N := M 0) (g := fun a => gm_sum (M 0) (fun b => gm_hI M Q a b)) (K := fun a => some (iZ a))
    (fun k i a hi => by
      show G_L_hull_L5 5 40 40 f x y (k + 1) (iZ (i : Int)) (iZ a) = G_L_hull_L5 5 40 40 f x y k (iZ ((i : Int) + 1)) (iZ (a + gm_sum (M 0) (fun b => gm_hI M Q i b)))
      rw [G_L_hull_L5, L_m0 h, Option.bind_some, ite_le (by omega), if_neg (show ¬ ((M 0 : Nat) : Int) ≤ (i : Int) by omega)]
      exact mid _ i a hi)
    (fun k a => by
      show G_L_hull_L5 5 40 40 f x y (k + 1) (iZ ((M 0 : Nat) : Int)) (iZ a) = some (iZ a)
      rw [G_L_hull_L5, L_m0 h, Option.bind_some, ite_le (by omega), if_pos (by omega)])
    (M 0) 0 FU 0 (by omega) (by unfold FU; omega)
  have lp : G_L_hull_L5 5 40 40 f x y FU 0 0 = _ := lp
  unfold G_L_hull
  rw [lp, Int.zero_add]
  exact congrArg (fun z => some (iZ z)) (gm_sum_congr (fun k _ => by rw [Nat.zero_add]))
end LBR
