/-! the second class: corners that see each other -/
section REF
variable {m : Mod} {M : Nat → Nat} {n : Nat} {Q : Nat → Pt}
theorem pe {α : Type} {u v : Pt} {X Y : α} (hu : gm_paper u) (hv : gm_paper v) {i1 : Decidable (iZ u.1 = iZ v.1)} {i2 : Decidable (iZ u.2 = iZ v.2)} : @ite α (iZ u.1 = iZ v.1) i1 (@ite α (iZ u.2 = iZ v.2) i2 X Y) Y = if u = v then X else Y := by
  unfold gm_paper at hu hv
  rw [ite_eq (by omega), ite_eq (by omega)]
  by_cases c1 : u.1 = v.1
  · rw [if_pos c1]
    by_cases c2 : u.2 = v.2
    · rw [if_pos c2, if_pos (Prod.ext c1 c2)]
    · rw [if_neg c2, if_neg (fun e => c2 (by rw [e]))]
  · rw [if_neg c1, if_neg (fun e => c1 (by rw [e]))]
theorem t_isInTheWay {N i : Nat} (h : SD m M n Q N) (hi : i < N) (hN : N ≤ 40) (pa : gm_paper (Q i)) (pb : gm_paper (Q (gm_nf M n i))) {p r : Pt} (pp : gm_paper p) (pr : gm_paper r) :
    ∃ z : Int, ((z = 1 ∧ gm_way (Q i) (Q (gm_nf M n i)) p r) ∨ (z = 0 ∧ ¬ gm_way (Q i) (Q (gm_nf M n i)) p r)) ∧ G_X9_isInTheWay m (iZ (i : Int)) (iZ p.1) (iZ p.2) (iZ r.1) (iZ r.2) = some (iZ z) := by
  obtain ⟨-, -, e1, e2, e3, e4⟩ := h.rd hi hN
  have d10 : (iZ 1 = iZ 0) = False := eq_false (by decide)
  obtain ⟨zm, hzm, em⟩ := t_isMet h hi hN pa pb pp pr
  have zm01 : zm = 0 ∨ zm = 1 := by rcases hzm with q | q; exact Or.inr q.1; exact Or.inl q.1
  generalize hse : Q i = s at *
  generalize hee : Q (gm_nf M n i) = e at *
  have hj : ∀ b7 b55 : Int32, G_X9_isInTheWay_j110 m b55 b7 (iZ (i : Int)) (iZ p.1) (iZ p.2) (iZ r.1) (iZ r.2) =
      if b7 = 0 then (if b55 = 0 then (G_X9_isMet m (iZ (i : Int)) (iZ p.1) (iZ p.2) (iZ r.1) (iZ r.2)).bind fun v276 => (bck v276).bind fun v279 => some v279 else (G_X9_isSameWay (iZ r.1) (iZ r.2) (iZ p.1) (iZ p.2) (iZ (if s = p ∨ s = r then e else s).1) (iZ (if s = p ∨ s = r then e else s).2)).bind fun v262 => (bck v262).bind fun v279 => some v279)
      else (G_X9_isSameWay (iZ p.1) (iZ p.2) (iZ r.1) (iZ r.2) (iZ (if s = p ∨ s = r then e else s).1) (iZ (if s = p ∨ s = r then e else s).2)).bind fun v243 => (bck v243).bind fun v246 => some v246 := by
    intro b7 b55
    unfold G_X9_isInTheWay_j110
    simp only [e1, e2, e3, e4, Option.bind_some, pe pa pp, pe pa pr]
    by_cases c1 : s = p
    · rw [if_pos c1, if_pos c1, if_pos (Or.inl c1)]
      simp only [Option.bind_some]
    · by_cases c2 : s = r
      · rw [if_neg c1, if_neg c1, if_pos c2, if_pos c2, if_pos (Or.inr c2)]
        simp only [Option.bind_some]
      · have c3 : ¬ (s = p ∨ s = r) := by
          rintro (w | w)
          · exact c1 w
          · exact c2 w
        rw [if_neg c1, if_neg c1, if_neg c2, if_neg c2, if_neg c3]
        simp only [Option.bind_some]
  have pz : gm_paper (if s = p ∨ s = r then e else s) := by split <;> assumption
  obtain ⟨z1, hz1, es1⟩ := t_isSameWay pp pr pz
  obtain ⟨z2, hz2, es2⟩ := t_isSameWay pr pp pz
  have z101 : z1 = 0 ∨ z1 = 1 := by rcases hz1 with q | q; exact Or.inr q.1; exact Or.inl q.1
  have z201 : z2 = 0 ∨ z2 = 1 := by rcases hz2 with q | q; exact Or.inr q.1; exact Or.inl q.1
  unfold G_X9_isInTheWay
  simp only [hj, e1, e2, e3, e4, Option.bind_some, pe pa pp, pe pa pr, pe pb pp, pe pb pr, em, es1, es2, bck_01 zm01, bck_01 z101, bck_01 z201]
  have ba : ∀ u : Pt, ((if s = u then some 1 else if e = u then some 1 else some 0) : Option Int32) = if s = u ∨ e = u then some 1 else some 0 := by
    intro u
    by_cases c1 : s = u
    · rw [if_pos c1, if_pos (Or.inl c1)]
    · by_cases c2 : e = u
      · rw [if_neg c1, if_pos c2, if_pos (Or.inr c2)]
      · have c3 : ¬ (s = u ∨ e = u) := by
          rintro (w | w)
          · exact c1 w
          · exact c2 w
        rw [if_neg c1, if_neg c2, if_neg c3]
  rw [ba, ba]
  have d1 : ¬ (1 : Int32) = 0 := by decide
  unfold gm_way
  by_cases c1 : s = p ∨ e = p
  · rw [if_pos c1]
    simp only [Option.bind_some]
    by_cases c2 : s = r ∨ e = r
    · rw [if_pos c2]
      simp only [Option.bind_some, if_neg d1]
      exact ⟨1, Or.inl ⟨rfl, Or.inl ⟨c1, c2⟩⟩, rfl⟩
    · rw [if_neg c2]
      simp only [Option.bind_some, if_neg d1, if_true]
      refine ⟨z1, ?_, rfl⟩
      rcases hz1 with ⟨q1, q2⟩ | ⟨q1, q2⟩
      · exact Or.inl ⟨q1, Or.inr (Or.inl ⟨c1, c2, q2⟩)⟩
      · refine Or.inr ⟨q1, fun q => ?_⟩
        rcases q with q | q | q | q
        · exact c2 q.2
        · exact q2 q.2.2
        · exact q.1 c1
        · exact q.1 c1
  · rw [if_neg c1]
    simp only [Option.bind_some, if_true]
    by_cases c2 : s = r ∨ e = r
    · rw [if_pos c2]
      simp only [Option.bind_some, if_neg d1]
      refine ⟨z2, ?_, rfl⟩
      rcases hz2 with ⟨q1, q2⟩ | ⟨q1, q2⟩
      · exact Or.inl ⟨q1, Or.inr (Or.inr (Or.inl ⟨c1, c2, q2⟩))⟩
      · refine Or.inr ⟨q1, fun q => ?_⟩
        rcases q with q | q | q | q
        · exact c1 q.1
        · exact c1 q.1
        · exact q2 q.2.2
        · exact q.2.1 c2
    · rw [if_neg c2]
      simp only [Option.bind_some, if_true]
      refine ⟨zm, ?_, rfl⟩
      rcases hzm with ⟨q1, q2⟩ | ⟨q1, q2⟩
      · exact Or.inl ⟨q1, Or.inr (Or.inr (Or.inr ⟨c1, c2, q2⟩))⟩
      · refine Or.inr ⟨q1, fun q => ?_⟩
        rcases q with q | q | q | q
        · exact c1 q.1
        · exact c1 q.1
        · exact c2 q.2.1
        · exact q2 q.2.2
end REF
