/-! the second class: the hull -/
section REF
variable {m : Mod} {M : Nat → Nat} {n : Nat} {Q : Nat → Pt}
theorem t_hull (hs : RS (m_state m) M n Q) (hok : gm_ok M n Q) : G_X9_hull m = some (iZ (gm_sum (M 0) (fun a => gm_sum (M 0) (fun b => gm_hI M Q a b)))) := by
  have hn := hok.1
  have hM := hok.2.1 0 (by omega)
  have hm0 : G_X9_many m 0 = some (iZ (M 0 : Nat)) := t_many hs (r := 0) (by omega)
  have hx0 : ∀ a : Nat, a < M 0 → G_X9_x m 0 (iZ (a : Int)) = some (iZ (Q a).1) := by
    intro a ha
    have e : G_X9_x m 0 (iZ (a : Int)) = some (iZ (gm_P M Q 0 a).1) := t_x hs (r := 0) (by omega) ha
    rw [e, gm_P0]
  have hy0 : ∀ a : Nat, a < M 0 → G_X9_y m 0 (iZ (a : Int)) = some (iZ (Q a).2) := by
    intro a ha
    have e : G_X9_y m 0 (iZ (a : Int)) = some (iZ (gm_P M Q 0 a).2) := t_y hs (r := 0) (by omega) ha
    rw [e, gm_P0]
  have hnx0 : ∀ a : Nat, a < M 0 → G_X9_next m 0 (iZ (a : Int)) = some (iZ (gm_nx (M 0) a : Nat)) := fun a ha => t_next hs (r := 0) (by omega) ha
  have hp : ∀ k, k < M 0 → gm_paper (Q k) := fun k hk => hok.2.2.1 k (gm_lt0 hn.1 hk)
  have inj : ∀ a b, a < M 0 → b < M 0 → Q a = Q b → a = b := fun a b ha hb e => gm_Q_inj (fun r hr => (hok.2.1 r hr).1) hok.2.2.2.1 hok.2.2.2.2.1 hok.2.2.2.2.2.1 (gm_lt0 hn.1 ha) (gm_lt0 hn.1 hb) e
  -- the lowest corner
  obtain ⟨f, ⟨hf, -, low⟩, e1⟩ := lp_inv (L := fun k (f : Nat) c => G_X9_hull_L4 m k c (iZ (f : Int))) (N := M 0) (I := fun c f => f < M 0 ∧ 1 ≤ c ∧ ∀ k, k < c → k < M 0 → k ≠ f → (Q f).2 < (Q k).2 ∨ ((Q f).2 = (Q k).2 ∧ (Q f).1 < (Q k).1)) (K := fun f => G_X9_hull_L87 m FU 1 (iZ (f : Int)) 0 (iZ (f : Int)))
    (fun k c f hc hI => by
      obtain ⟨i1, i2, i3⟩ := hI
      have pc := hp c hc
      have pf := hp f i1
      unfold gm_paper at pc pf
      rw [G_X9_hull_L4, hm0, Option.bind_some, ite_le (by omega), if_neg (by omega)]
      simp only [hy0 c hc, hy0 f i1, hx0 c hc, hx0 f i1, Option.bind_some]
      rw [ite_lt (by omega), ite_eq (by omega), ite_le (by omega), iZ_1, iZ_0, iZ_add]
      have key : ((if (Q c).2 < (Q f).2 then some (iZ 1) else if (Q c).2 = (Q f).2 then if (Q f).1 ≤ (Q c).1 then some (iZ 0) else some (iZ 1) else some (iZ 0)) : Option Int32) = some (iZ (if (Q c).2 < (Q f).2 ∨ ((Q c).2 = (Q f).2 ∧ (Q c).1 < (Q f).1) then 1 else 0)) := by
        (repeat' split) <;> first | rfl | omega
      rw [key, Option.bind_some, ite_eq (by split <;> omega)]
      by_cases q : (Q c).2 < (Q f).2 ∨ ((Q c).2 = (Q f).2 ∧ (Q c).1 < (Q f).1)
      · refine ⟨c, ⟨hc, by omega, fun j hj hj2 hne => ?_⟩, ?_⟩
        · by_cases jf : j = f
          · rw [jf]; omega
          · have := i3 j (by omega) hj2 jf
            omega
        · rw [if_pos q, if_neg (by decide), Option.bind_some]
      · refine ⟨f, ⟨i1, by omega, fun j hj hj2 hne => ?_⟩, ?_⟩
        · by_cases jc : j = c
          · rw [jc]
            have ne : ¬ ((Q c).1 = (Q f).1 ∧ (Q c).2 = (Q f).2) := fun w => hne (jc.trans (inj c f hc i1 (Prod.ext w.1 w.2)))
            omega
          · exact i3 j (by omega) hj2 hne
        · rw [if_neg q, if_pos rfl, Option.bind_some])
    (fun k f hI => by rw [G_X9_hull_L4, hm0, Option.bind_some, ite_le (by omega), if_pos (by omega)])
    (M 0 - 1) 1 FU 0 (by omega) (by unfold FU; omega) ⟨by omega, Nat.le_refl 1, fun k hk _ hne => absurd (show k = 0 by omega) hne⟩
  have low : ∀ k, k < M 0 → k ≠ f → (Q f).2 < (Q k).2 ∨ ((Q f).2 = (Q k).2 ∧ (Q f).1 < (Q k).1) := fun k hk hne => low k hk hk hne
  obtain ⟨L, l1, l2, l3, l4, l5, l6, l7⟩ := gm_hull (m := M 0) (P := Q) (by omega) hp inj hf low (gm_hI M Q) (fun a b h => if_pos h) (fun a b _ _ h => if_neg h)
  -- one step of the way round
  have stp : ∀ (k87 : Int32 → Int32 → Int32 → Int32 → Option Int32) (x : Nat) (acc : Int), x < M 0 → gm_to (M 0) Q x < M 0 → G_X9_hull_L103 k87 m FU 0 (iZ (gm_nx (M 0) x : Nat)) (iZ (x : Int)) (iZ acc) (iZ (f : Int)) = k87 (iZ (if gm_to (M 0) Q x = f then 0 else 1)) (iZ (gm_to (M 0) Q x : Nat)) (iZ (acc + gm_pr Q x (gm_to (M 0) Q x))) (iZ (f : Int)) := by
    intro k87 x acc hx hto
    have hnx := gm_nx_lt hx
    obtain ⟨z, ⟨-, hz⟩, e⟩ := lp_inv (L := fun k (t : Nat) c => G_X9_hull_L103 k87 m k c (iZ (t : Int)) (iZ (x : Int)) (iZ acc) (iZ (f : Int))) (N := M 0) (I := fun c t => t < M 0 ∧ t = gm_toF Q x c (gm_nx (M 0) x)) (K := fun t => k87 (iZ (if t = f then 0 else 1)) (iZ (t : Int)) (iZ (acc + gm_pr Q x t)) (iZ (f : Int)))
      (fun k c t hc hI => by
        obtain ⟨i1, i2⟩ := hI
        have px := hp x hx
        have pt := hp t i1
        have pc := hp c hc
        have sg := gm_sgi_bd (gm_cr (Q x) (Q t) (Q c))
        have q1 := gm_sqd_bd px pt
        have q2 := gm_sqd_bd px pc
        rw [G_X9_hull_L103, hm0, Option.bind_some, ite_le (by omega), if_neg (by omega)]
        simp only [hx0 x hx, hy0 x hx, hx0 t i1, hy0 t i1, hx0 c hc, hy0 c hc, Option.bind_some]
        rw [t_turnOf px pt pc]
        simp only [Option.bind_some]
        rw [t_squareOf hs hn.1 hx hc]
        simp only [Option.bind_some]
        rw [t_squareOf hs hn.1 hx i1]
        simp only [Option.bind_some]
        rw [iZ_sub, iZ_0, iZ_1, ite_lt (by omega), ite_eq (by omega), ite_le (by omega), iZ_add]
        refine ⟨if gm_cr (Q x) (Q t) (Q c) < 0 ∨ (gm_cr (Q x) (Q t) (Q c) = 0 ∧ gm_sqd (Q x) (Q t) < gm_sqd (Q x) (Q c)) then c else t, ⟨by split <;> assumption, ?_⟩, ?_⟩
        · rw [i2]; rfl
        · clear i2 e1
          by_cases c1 : gm_cr (Q x) (Q t) (Q c) < 0
          · rw [if_pos (by omega), if_pos (Or.inl c1), Option.bind_some]
          · rw [if_neg (by omega)]
            by_cases c2 : gm_cr (Q x) (Q t) (Q c) = 0
            · rw [if_pos (by omega)]
              by_cases c3 : gm_sqd (Q x) (Q t) < gm_sqd (Q x) (Q c)
              · rw [if_neg (by omega), if_pos (Or.inr ⟨c2, c3⟩), Option.bind_some]
              · rw [if_pos (by omega), if_neg (by omega), Option.bind_some]
            · rw [if_neg (by omega), if_neg (by omega), Option.bind_some])
      (fun k t hI => by
        rw [G_X9_hull_L103, hm0, Option.bind_some, ite_le (by omega), if_pos (by omega)]
        simp only [hx0 x hx, hy0 x hx, hx0 t hI.1, hy0 t hI.1, Option.bind_some]
        rw [iZ_0, iZ_1, ind_eq (by omega), Option.bind_some, iZ_mul, iZ_mul, iZ_sub, iZ_add]
        have : (if (t : Int) = (f : Int) then (0 : Int) else 1) = if t = f then 0 else 1 := by split <;> split <;> first | rfl | omega
        rw [this]
        rfl)
      (M 0) 0 FU (gm_nx (M 0) x) (by omega) (by unfold FU; omega) ⟨hnx, rfl⟩
    have hz : z = gm_to (M 0) Q x := hz
    rw [hz] at e
    exact e
  have bd := gm_sum_bd (m := L) (B := 225) (g := fun i => gm_pr Q (gm_it (gm_to (M 0) Q) f i) (gm_it (gm_to (M 0) Q) f (i + 1))) (fun i _ => gm_pr_bd (hp _ (l5 i)) (hp _ (l5 (i + 1))))
  have run : ∀ (d i k : Nat), i + d = L → d < k → G_X9_hull_L87 m k (iZ (if 0 < i ∧ gm_it (gm_to (M 0) Q) f i = f then 0 else 1)) (iZ (gm_it (gm_to (M 0) Q) f i : Nat)) (iZ (gm_sum i (fun i => gm_pr Q (gm_it (gm_to (M 0) Q) f i) (gm_it (gm_to (M 0) Q) f (i + 1))))) (iZ (f : Int)) = some (iZ (gm_sum L (fun i => gm_pr Q (gm_it (gm_to (M 0) Q) f i) (gm_it (gm_to (M 0) Q) f (i + 1))))) := by
    intro d
    induction d with
    | zero =>
      intro i k hi hk
      obtain ⟨k, rfl⟩ : ∃ q, k = q + 1 := ⟨k - 1, by omega⟩
      have hi : i = L := by omega
      rw [hi, if_pos ⟨by omega, l3⟩, G_X9_hull_L87, if_pos (show iZ 0 = 0 from rfl), t_size (by omega) (by omega), Option.bind_some]
      unfold gm_abs
      rw [if_pos l7]
    | succ d ih =>
      intro i k hi hk
      obtain ⟨k, rfl⟩ : ∃ q, k = q + 1 := ⟨k - 1, by omega⟩
      rw [if_neg (fun q => l4 i q.1 (by omega) q.2), G_X9_hull_L87, if_neg (show ¬ iZ 1 = 0 by decide), hnx0 _ (l5 i), Option.bind_some, stp _ _ _ (l5 i) (l5 (i + 1))]
      have := ih (i + 1) k (by omega) (by omega)
      rw [← this]
      have e : (if 0 < i + 1 ∧ gm_it (gm_to (M 0) Q) f (i + 1) = f then (0 : Int) else 1) = if gm_to (M 0) Q (gm_it (gm_to (M 0) Q) f i) = f then 0 else 1 := by
        show (if 0 < i + 1 ∧ gm_to (M 0) Q (gm_it (gm_to (M 0) Q) f i) = f then (0 : Int) else 1) = _
        split <;> split <;> first | rfl | omega
      rw [e]
      rfl
  rw [l6]
  have := run L 0 FU (by omega) (by unfold FU; omega)
  rw [if_neg (by omega)] at this
  exact e1.trans this
end REF
