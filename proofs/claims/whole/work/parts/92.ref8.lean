/-! the second class: corners that see each other, on -/
section REF
variable {m : Mod} {M : Nat → Nat} {n : Nat} {Q : Nat → Pt}
theorem t_whereNotOn2 (hs : RS (m_state m) M n Q) (hok : gm_ok M n Q) {w : Pt} (pp2 : 0 ≤ w.1 ∧ w.1 ≤ 30 ∧ 0 ≤ w.2 ∧ w.2 ≤ 30) (off : ∀ r, r < n → gm_off2 M Q r w) :
    ∃ z : Int, (z = 0 ∨ z = 2 ∨ z = 3) ∧ (z = 2 ↔ gm_w (M 0) (gm_P2 M Q 0) w ≠ 0 ∧ ∀ r, 1 ≤ r → r < n → gm_w (M r) (gm_P2 M Q r) w = 0) ∧ G_X9_whereNotOn m (iZ w.1) (iZ w.2) = some (iZ z) := by
  have hn := hok.1
  have hg := gm_ok_good hok
  have sv : ∀ r, r < n → ∃ z : Int, (z = 0 ∨ z = 1) ∧ (z = 1 ↔ gm_w (M r) (gm_P2 M Q r) w ≠ 0) ∧ G_X9_surrounds m (iZ (r : Int)) (iZ w.1) (iZ w.2) = some (iZ z) := by
    intro r hr
    have e0 := t_surrounds hs hok.2.2.1 hr (p := w) pp2
    exact ⟨gm_w (M r) (gm_P2 M Q r) w % 2, by omega, gm_odd2 (hg.2.2.2.1 r hr) (off r hr), e0⟩
  have stop : ∀ k c, G_X9_whereNotOn_L19 m (k + 1) (iZ c) (iZ 3) (iZ w.1) (iZ w.2) = some (iZ 3) := by
    intro k c
    rw [G_X9_whereNotOn_L19, t_n hs, Option.bind_some, if_neg (show ¬ iZ 3 = 2 by decide)]
    split <;> rfl
  have stop0 : ∀ k c, G_X9_whereNotOn_L19 m (k + 1) (iZ c) (iZ 0) (iZ w.1) (iZ w.2) = some (iZ 0) := by
    intro k c
    rw [G_X9_whereNotOn_L19, t_n hs, Option.bind_some, if_neg (show ¬ iZ 0 = 2 by decide)]
    split <;> rfl
  have run : ∀ d c k, c + d = n → d + 1 < k → ((∃ r, c ≤ r ∧ r < n ∧ gm_w (M r) (gm_P2 M Q r) w ≠ 0) ∧ G_X9_whereNotOn_L19 m k (iZ (c : Int)) (iZ 2) (iZ w.1) (iZ w.2) = some (iZ 3)) ∨ ((∀ r, c ≤ r → r < n → gm_w (M r) (gm_P2 M Q r) w = 0) ∧ G_X9_whereNotOn_L19 m k (iZ (c : Int)) (iZ 2) (iZ w.1) (iZ w.2) = some (iZ 2)) := by
    intro d
    induction d with
    | zero =>
      intro c k hc hk
      obtain ⟨k, rfl⟩ : ∃ q, k = q + 1 := ⟨k - 1, by omega⟩
      right
      refine ⟨fun r a b => by omega, ?_⟩
      rw [G_X9_whereNotOn_L19, t_n hs, Option.bind_some, ite_le (by omega), if_pos (by omega)]
    | succ d ih =>
      intro c k hc hk
      obtain ⟨k, rfl⟩ : ∃ q, k = q + 1 := ⟨k - 1, by omega⟩
      obtain ⟨z, z01, hz, e⟩ := sv c (by omega)
      rw [G_X9_whereNotOn_L19, t_n hs, Option.bind_some, ite_le (by omega), if_neg (by omega), if_pos (show iZ 2 = 2 from rfl), e, Option.bind_some, iZ_0, iZ_2, iZ_3, ind_eq (by omega), Option.bind_some, iZ_1, iZ_add]
      by_cases z0 : z = 0
      · rw [if_pos z0]
        have := ih (c + 1) k (by omega) (by omega)
        rw [show (((c + 1 : Nat)) : Int) = (c : Int) + 1 by omega] at this
        rcases this with ⟨⟨r, a, b, q⟩, e2⟩ | ⟨a, e2⟩
        · exact Or.inl ⟨⟨r, by omega, b, q⟩, e2⟩
        · refine Or.inr ⟨fun r ra rb => ?_, e2⟩
          by_cases q : r = c
          · rw [q]
            exact Classical.byContradiction (fun w => by have := hz.mpr w; omega)
          · exact a r (by omega) rb
      · rw [if_neg z0]
        obtain ⟨k, rfl⟩ : ∃ q, k = q + 1 := ⟨k - 1, by omega⟩
        exact Or.inl ⟨⟨c, Nat.le_refl c, by omega, hz.mp (by omega)⟩, stop k _⟩
  obtain ⟨z, z01, hz, e⟩ := sv 0 (by omega)
  have e : G_X9_surrounds m 0 (iZ w.1) (iZ w.2) = some (iZ z) := e
  unfold G_X9_whereNotOn
  rw [e, Option.bind_some, iZ_0, iZ_2, ind_eq (by omega), Option.bind_some, iZ_1]
  by_cases z0 : z = 0
  · rw [if_pos z0]
    refine ⟨0, Or.inl rfl, ⟨fun q => absurd q (by decide), fun q => ?_⟩, ?_⟩
    · have := hz.mpr q.1; omega
    · rw [show FU = (FU - 1) + 1 by unfold FU; rfl]
      exact stop0 _ _
  · rw [if_neg z0]
    have w0 := hz.mp (by omega)
    rcases run (n - 1) 1 FU (by omega) (by unfold FU; omega) with ⟨⟨r, a, b, q⟩, e2⟩ | ⟨a, e2⟩
    · exact ⟨3, Or.inr (Or.inr rfl), ⟨fun t => absurd t (by decide), fun t => absurd (t.2 r a b) q⟩, e2⟩
    · exact ⟨2, Or.inr (Or.inl rfl), ⟨fun _ => ⟨w0, a⟩, fun _ => rfl⟩, e2⟩
theorem t_areSeeing (hs : RS (m_state m) M n Q) (hok : gm_ok M n Q) {r k s l : Nat} (hr : r < n) (hk : k < M r) (hs' : s < n) (hl : l < M s) :
    ∃ m', (m_state m' = m_state m ∧ SM m m') ∧ G_X9_areSeeing m (iZ (r : Int)) (iZ (k : Int)) (iZ (s : Int)) (iZ (l : Int)) = some (iZ (gm_si M n Q (gm_fst M r + k) (gm_fst M s + l)), m') := by
  have hn := hok.1
  have h4 := hs.2.1
  have hMr := (hs.2.2.1 r hr).1
  have hMs := (hs.2.2.1 s hs').1
  have h40 : gm_fst M n ≤ 40 := gm_fst_40 h4 (fun r hr => (hs.2.2.1 r hr).1)
  have ha := gm_fst_lt hr hk
  have hb := gm_fst_lt hs' hl
  unfold G_X9_areSeeing
  rw [ite_eq (by omega), ite_eq (by omega)]
  by_cases c : r = s ∧ k = l
  · refine ⟨m, ⟨rfl, SM.rfl' m⟩, ?_⟩
    rw [if_pos (by omega), if_pos (by omega), gm_si_0 (fun q => q.1 (by rw [c.1, c.2]))]
    rfl
  have hne : gm_fst M r + k ≠ gm_fst M s + l := fun q => c (gm_flat_inj hr hk hs' hl q)
  obtain ⟨m', es, hst, hsm, hsd⟩ := t_findSides hs
  have hs2 : RS (m_state m') M n Q := by rw [hst]; exact hs
  have pa := hok.2.2.1 _ ha
  have pb := hok.2.2.1 _ hb
  have e13 : ∀ (A : Option (Int32 × Mod)), (if (r : Int) = (s : Int) then (if (k : Int) = (l : Int) then A else G_X9_areSeeing_j13 m (iZ (r : Int)) (iZ (k : Int)) (iZ (s : Int)) (iZ (l : Int))) else G_X9_areSeeing_j13 m (iZ (r : Int)) (iZ (k : Int)) (iZ (s : Int)) (iZ (l : Int))) = G_X9_areSeeing_j13 m (iZ (r : Int)) (iZ (k : Int)) (iZ (s : Int)) (iZ (l : Int)) := by
    intro A
    by_cases c1 : (r : Int) = (s : Int)
    · rw [if_pos c1, if_neg (by omega)]
    · rw [if_neg c1]
  rw [e13]
  refine ⟨m', ⟨hst, hsm⟩, ?_⟩
  unfold G_X9_areSeeing_j13
  rw [es, Option.bind_some]
  obtain ⟨z, hz, e⟩ := lp_inv (L := fun q (z : Int) c => G_X9_areSeeing_L23 q m' c (iZ z) (iZ (r : Int)) (iZ (k : Int)) (iZ (s : Int)) (iZ (l : Int))) (N := gm_fst M n)
    (I := fun c z => (z = 1 ∧ ∀ i, i < c → ¬ gm_way (Q i) (Q (gm_nf M n i)) (Q (gm_fst M r + k)) (Q (gm_fst M s + l))) ∨ (z = 0 ∧ ∃ i, i < gm_fst M n ∧ gm_way (Q i) (Q (gm_nf M n i)) (Q (gm_fst M r + k)) (Q (gm_fst M s + l))))
    (K := fun z => if iZ z = 0 then some (0, m') else (G_X9_whereNotOn m' (iZ (gm_mid Q (gm_fst M r + k) (gm_fst M s + l)).1) (iZ (gm_mid Q (gm_fst M r + k) (gm_fst M s + l)).2)).bind fun v119 => if v119 = 2 then some (1, m') else some (0, m'))
    (fun q c z hc hI => by
      obtain ⟨v, hv, ev⟩ := t_isInTheWay hsd hc h40 (hok.2.2.1 c hc) (hok.2.2.1 _ (gm_nf_lt hc)) pa pb
      have ev : G_X9_isInTheWay m' (iZ (c : Int)) (iZ (gm_P M Q r k).1) (iZ (gm_P M Q r k).2) (iZ (gm_P M Q s l).1) (iZ (gm_P M Q s l).2) = some (iZ v) := ev
      rw [G_X9_areSeeing_L23, hsd.1, ite_le (by omega), if_neg (by omega)]
      simp only [t_x hs2 hr hk, t_y hs2 hr hk, t_x hs2 hs' hl, t_y hs2 hs' hl, Option.bind_some, ev]
      rcases hI with ⟨z1, hI⟩ | ⟨z0, hI⟩
      · rw [z1, if_neg (show ¬ iZ 1 = 0 by decide)]
        rcases hv with ⟨v1, hv⟩ | ⟨v0, hv⟩
        · refine ⟨0, Or.inr ⟨rfl, c, hc, hv⟩, ?_⟩
          rw [v1, if_neg (show ¬ iZ 1 = 0 by decide), Option.bind_some, iZ_1, iZ_add]
          rfl
        · refine ⟨1, Or.inl ⟨rfl, fun i hi => ?_⟩, ?_⟩
          · by_cases ic : i = c
            · rw [ic]; exact hv
            · exact hI i (by omega)
          · rw [v0, if_pos (show iZ 0 = 0 from rfl), Option.bind_some, iZ_1, iZ_add]
      · refine ⟨0, Or.inr ⟨rfl, hI⟩, ?_⟩
        rw [z0, if_pos (show iZ 0 = 0 from rfl), Option.bind_some, iZ_1, iZ_add]
        rfl)
    (fun q z hI => by
      rw [G_X9_areSeeing_L23, hsd.1, ite_le (by omega), if_pos (by omega)]
      simp only [t_x hs2 hr hk, t_y hs2 hr hk, t_x hs2 hs' hl, t_y hs2 hs' hl, Option.bind_some, iZ_add]
      rfl)
    (gm_fst M n) 0 FU 1 (by omega) (by unfold FU; omega) (Or.inl ⟨rfl, fun i hi => absurd hi (Nat.not_lt_zero i)⟩)
  refine Eq.trans e ?_
  have fr := gm_free_iff (fun r hr => (hok.2.1 r hr).1) hok.2.2.2.1 hok.2.2.2.2.1 hok.2.2.2.2.2.1 ha hb hne
  rcases hz with ⟨z1, hz⟩ | ⟨z0, i, hi, hw⟩
  · have hf := fr.mpr hz
    have mm : 0 ≤ (gm_mid Q (gm_fst M r + k) (gm_fst M s + l)).1 ∧ (gm_mid Q (gm_fst M r + k) (gm_fst M s + l)).1 ≤ 30 ∧ 0 ≤ (gm_mid Q (gm_fst M r + k) (gm_fst M s + l)).2 ∧ (gm_mid Q (gm_fst M r + k) (gm_fst M s + l)).2 ≤ 30 := by
      unfold gm_paper at pa pb
      have e1 : (gm_mid Q (gm_fst M r + k) (gm_fst M s + l)).1 = (Q (gm_fst M r + k)).1 + (Q (gm_fst M s + l)).1 := rfl
      have e2 : (gm_mid Q (gm_fst M r + k) (gm_fst M s + l)).2 = (Q (gm_fst M r + k)).2 + (Q (gm_fst M s + l)).2 := rfl
      omega
    obtain ⟨w, w03, hw, ew⟩ := t_whereNotOn2 hs2 hok mm (fun r hr => gm_mid_off2 hok ha hb hne hf hr)
    rw [z1, if_neg (show ¬ iZ 1 = 0 by decide), ew, Option.bind_some, iZ_2, ite_eq (by omega)]
    by_cases w2 : w = 2
    · rw [if_pos w2, gm_si_1 ⟨hne, hf, hw.mp w2⟩]; rfl
    · rw [if_neg w2, gm_si_0 (fun q => w2 (hw.mpr q.2.2))]; rfl
  · rw [z0, if_pos (show iZ 0 = 0 from rfl), gm_si_0 (fun q => fr.mp q.2.1 i hi hw)]; rfl
end REF
