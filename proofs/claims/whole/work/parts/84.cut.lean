/-! the first class: ways to cut; the past -/
theorem gm_cut_mono {M : Nat → Nat} {n : Nat} {Q : Nat → Pt} {s a b : Nat} (h : b ≤ a + s) : gm_cut M n Q (s + 1) a b = gm_cut M n Q s a b := by
  show (if b = a + (s + 1) then _ else gm_cut M n Q s a b) = _
  rw [if_neg (by omega)]
/-- the numbers of ways hold those of all parts of span up to s, and of span s + 1 from the first a on -/
def gm_WI (M : Nat → Nat) (n : Nat) (Q : Nat → Pt) (s a : Nat) (w : Nat → Int32) : Prop := ∀ x y, x < y → y < M 0 → (y ≤ x + s ∨ (y = x + (s + 1) ∧ x < a)) → w (10 * x + y) = gm_cut M n Q (s + 1) x y
section CLASS
variable {f : Fig} {M : Nat → Nat} {n : Nat} {Q : Nat → Pt}
theorem s_waysOfPart (h : RF f M n Q) (hok : gm_ok M n Q) {s a : Nat} {w : Nat → Int32} (hs : 1 ≤ s) (hab : a + (s + 1) < M 0) (hw : gm_WI M n Q s a w) : G_X6_waysOfPart 100 f w (iZ (a : Int)) (iZ ((a + (s + 1) : Nat) : Int)) = some (gm_cut M n Q (s + 1) a (a + (s + 1))) := by
  have hn := hok.1
  have hM := hok.2.1 0 (by omega)
  have ha' := gm_lt0 (n := n) (M := M) hn.1 (show a < M 0 by omega)
  have hb' := gm_lt0 (n := n) (M := M) hn.1 hab
  have lp : G_X6_waysOfPart_j32 100 f w (iZ (a : Int)) (iZ ((a + (s + 1) : Nat) : Int)) = some (gm_csum (fun t => gm_cut M n Q s a (a + 1 + t) * gm_cut M n Q s (a + 1 + t) (a + (s + 1))) s) := by
    obtain ⟨z, hz, e⟩ := lp_inv (L := fun k (z : Int32) c => G_X6_waysOfPart_L40 100 f w k c z (iZ (a : Int)) (iZ ((a + (s + 1) : Nat) : Int))) (N := a + (s + 1))
      (I := fun c z => z = gm_csum (fun t => gm_cut M n Q s a (a + 1 + t) * gm_cut M n Q s (a + 1 + t) (a + (s + 1))) (c - (a + 1)) ∧ a + 1 ≤ c) (K := fun z => some z)
      (fun k c z hc hI => by
        obtain ⟨i1, i2⟩ := hI
        obtain ⟨t, rfl⟩ : ∃ t, c = a + 1 + t := ⟨c - (a + 1), by omega⟩
        rw [Nat.add_sub_cancel_left] at i1
        have e1 := hw a (a + 1 + t) (by omega) (by omega) (Or.inl (by omega))
        have e2 := hw (a + 1 + t) (a + (s + 1)) (by omega) (by omega) (Or.inl (by omega))
        rw [gm_cut_mono (by omega)] at e1 e2
        refine ⟨_, ⟨rfl, by omega⟩, ?_⟩
        rw [G_X6_waysOfPart_L40, ite_le (by omega), if_neg (by omega), iZ_10, iZ_mul, iZ_add, iZ_mul, iZ_add, show (10 : Int) * (a : Int) + ((a + 1 + t : Nat) : Int) = ((10 * a + (a + 1 + t) : Nat) : Int) by omega, rd_iZ (by omega) (by omega), Option.bind_some, e1,
          show (10 : Int) * ((a + 1 + t : Nat) : Int) + ((a + (s + 1) : Nat) : Int) = ((10 * (a + 1 + t) + (a + (s + 1)) : Nat) : Int) by omega, rd_iZ (by omega) (by omega), Option.bind_some, e2, iZ_1, iZ_add]
        rw [show a + 1 + t + 1 - (a + 1) = t + 1 by omega, i1]
        rfl)
      (fun k z hI => by rw [G_X6_waysOfPart_L40, ite_le (by omega), if_pos (by omega)])
      s (a + 1) FU 0 (by omega) (by unfold FU; omega) ⟨by rw [Nat.sub_self]; rfl, Nat.le_refl _⟩
    unfold G_X6_waysOfPart_j32
    rw [iZ_1, iZ_add, show (a : Int) + 1 = ((a + 1 : Nat) : Int) by omega]
    rw [hz.1, show a + (s + 1) - (a + 1) = s by omega] at e
    exact e
  have hb2 := gm_lt0 (n := n) (M := M) hn.1 (gm_nx_lt (n := M 0) hab)
  have h40 := h.n40
  unfold G_X6_waysOfPart
  rw [s_nextOf h hb', Option.bind_some, gm_nf0 hn.1 hab, s_between h hok ha' hb', Option.bind_some, lp, iZ_0, iZ_1, ind_eq (by omega), Option.bind_some, ite_eq (by split <;> omega)]
  show _ = some (if a + (s + 1) = a + (s + 1) then _ else _)
  rw [if_pos rfl, if_neg (show ¬ s = 0 by omega)]
  by_cases c : gm_nx (M 0) (a + (s + 1)) = a
  · rw [if_pos (show ((gm_nx (M 0) (a + (s + 1)) : Nat) : Int) = (a : Int) by omega), if_neg (by omega), if_pos (Or.inl c)]
  · rw [if_neg (show ¬ ((gm_nx (M 0) (a + (s + 1)) : Nat) : Int) = (a : Int) by omega), if_pos rfl]
    rcases gm_si_01 M n Q a (a + (s + 1)) with q | q
    · rw [q.1, ite_eq (by omega), if_neg (by omega), if_pos (Or.inr rfl)]
    · rw [q.1, ite_eq (by omega), if_pos rfl, if_neg (fun z => by rcases z with z | z; exact c z; omega)]
      rfl
theorem s_triangulations (h : RF f M n Q) (hok : gm_ok M n Q) (w : Nat → Int32) : ∃ w', G_X6_triangulations 100 f w = some (gm_cut M n Q (M 0 - 1) 0 (M 0 - 1), w') := by
  have hn := hok.1
  have hM := hok.2.1 0 (by omega)
  have s0 : G_X1_sizeOf f 0 = some (iZ (M 0 : Nat)) := s_sizeOf h (r := 0) (by omega)
  have inner : ∀ (k4 : (Nat → Int32) → Int32 → Int32 → Option (Int32 × (Nat → Int32))) (s : Nat) (w : Nat → Int32), s + 1 < M 0 → gm_WI M n Q s 0 w →
      ∃ w', gm_WI M n Q (s + 1) 0 w' ∧ G_X6_triangulations_L37 k4 100 f FU w 0 (iZ ((s + 1 : Nat) : Int)) (iZ (M 0 : Nat)) = k4 w' (iZ (((s + 1 : Nat) : Int) + 1)) (iZ (M 0 : Nat)) := by
    intro k4 s w hs hw
    obtain ⟨w', hw', e⟩ := lp_inv (L := fun k (w : Nat → Int32) c => G_X6_triangulations_L37 k4 100 f k w c (iZ ((s + 1 : Nat) : Int)) (iZ (M 0 : Nat))) (N := M 0 - (s + 1))
      (I := fun a w => gm_WI M n Q s a w) (K := fun w => k4 w (iZ (((s + 1 : Nat) : Int) + 1)) (iZ (M 0 : Nat)))
      (fun k a w ha hI => by
        have val : ((if iZ ((s + 1 : Nat) : Int) = 1 then some 1 else (G_X6_waysOfPart 100 f w (iZ (a : Int)) (iZ ((a : Int) + ((s + 1 : Nat) : Int)))).bind fun v73 => some v73) : Option Int32) = some (gm_cut M n Q (s + 1) a (a + (s + 1))) := by
          rw [iZ_1, ite_eq (by omega)]
          by_cases c : s = 0
          · rw [if_pos (by omega)]
            show _ = some (if a + (s + 1) = a + (s + 1) then _ else _)
            rw [if_pos rfl, if_pos c]; rfl
          · rw [if_neg (by omega), show (a : Int) + ((s + 1 : Nat) : Int) = ((a + (s + 1) : Nat) : Int) by omega, s_waysOfPart h hok (by omega) (by omega) hI, Option.bind_some]
        refine ⟨upd w (10 * a + (a + (s + 1))) (gm_cut M n Q (s + 1) a (a + (s + 1))), fun x y hxy hy hd => ?_, ?_⟩
        · by_cases q : 10 * x + y = 10 * a + (a + (s + 1))
          · have : x = a ∧ y = a + (s + 1) := by omega
            rw [this.1, this.2, upd_same]
          · rw [upd_ne q]
            refine hI x y hxy hy ?_
            rcases hd with hd | ⟨hd1, hd2⟩
            · exact Or.inl hd
            · refine Or.inr ⟨hd1, ?_⟩
              refine Classical.byContradiction (fun z => q ?_)
              have : x = a := by omega
              omega
        · rw [G_X6_triangulations_L37, iZ_add, ite_le (by omega), if_neg (by omega), val, Option.bind_some, iZ_10, iZ_mul, iZ_add, iZ_add, show (10 : Int) * (a : Int) + (a : Int) + ((s + 1 : Nat) : Int) = ((10 * a + (a + (s + 1)) : Nat) : Int) by omega, wr_iZ (by omega) (by omega), Option.bind_some, iZ_1, iZ_add])
      (fun k w hI => by
        rw [G_X6_triangulations_L37, iZ_add, ite_le (by omega), if_pos (by omega), iZ_1, iZ_add])
      (M 0 - (s + 1)) 0 FU w (by omega) (by unfold FU; omega) hw
    refine ⟨w', fun x y hxy hy hd => ?_, e⟩
    rcases hd with hd | ⟨hd1, hd2⟩
    · rw [gm_cut_mono hd]
      exact hw' x y hxy hy (by omega)
    · omega
  obtain ⟨w', hw', e⟩ := lp_inv (L := fun k (w : Nat → Int32) c => G_X6_triangulations_L29 100 f k w c (iZ (M 0 : Nat))) (N := M 0)
    (I := fun s w => (gm_WI M n Q (s - 1) 0 w) ∧ 1 ≤ s) (K := fun w => some (w (M 0 - 1), w))
    (fun k s w hs hI => by
      obtain ⟨t, rfl⟩ : ∃ t, s = t + 1 := ⟨s - 1, by omega⟩
      obtain ⟨w', q1, q2⟩ := inner (G_X6_triangulations_L29 100 f k) t w hs hI.1
      refine ⟨w', ⟨q1, by omega⟩, ?_⟩
      rw [G_X6_triangulations_L29, ite_le (by omega), if_neg (by omega)]
      exact q2)
    (fun k w hI => by
      rw [G_X6_triangulations_L29, ite_le (by omega), if_pos (by omega), iZ_1, iZ_sub, show ((M 0 : Nat) : Int) - 1 = ((M 0 - 1 : Nat) : Int) by omega, rd_iZ (by omega) (by omega), Option.bind_some])
    (M 0 - 1) 1 FU w (by omega) (by unfold FU; omega) ⟨fun x y hxy hy hd => by omega, Nat.le_refl 1⟩
  refine ⟨w', ?_⟩
  have val := hw'.1 0 (M 0 - 1) (by omega) (by omega) (Or.inl (by omega))
  rw [show 10 * 0 + (M 0 - 1) = M 0 - 1 by omega, show M 0 - 1 + 1 = M 0 - 1 + 1 from rfl, gm_cut_mono (by omega)] at val
  unfold G_X6_triangulations
  rw [s0, Option.bind_some, iZ_3, ite_lt (by omega), if_neg (by omega), iZ_10, ite_lt (by omega), if_neg (by omega), if_pos (by decide)]
  refine Eq.trans e ?_
  rw [val]
/-! the past -/
abbrev FG : Type := Nat × (Nat → Nat) × (Nat → Pt)
theorem mod_iZ {k : Nat} (h : k < 1000) : iZ (k : Int) - iZ (k : Int) / 14 * 14 = iZ ((k % 14 : Nat) : Int) := by
  rw [iZ_14]
  have e : iZ (k : Int) / iZ 14 = iZ ((k : Int).tdiv 14) := (Int32.ofInt_tdiv (by show (-2147483648 : Int) ≤ _; omega) (by show _ ≤ (2147483647 : Int); omega) (by decide) (by decide)).symm
  rw [e, iZ_mul, iZ_sub]
  refine congrArg iZ ?_
  rw [Int.tdiv_eq_ediv_of_nonneg (by omega)]
  omega
theorem rdx_iZ {n k : Nat} (h : k < n) (hn : n < 100000) : rdx n (iZ (k : Int)) = some k := by
  unfold rdx
  rw [iZ_clamp (by omega), if_neg]
  intro q
  rcases q with q | q
  · rw [iZ_0, iZ_lt (by omega) (by omega) (by omega) (by omega)] at q
    omega
  · omega
/-- the remembered figures, the oldest first -/
def RP (P : PastS) (c : Nat) (H : Nat → FG) : Prop := c ≤ 14 ∧ p_count P = iZ c ∧ ∃ o : Nat, o < 14 ∧ p_oldest P = iZ o ∧ ∀ i, i < c → RF (p_figs P ((o + i) % 14)) (H i).2.1 (H i).1 (H i).2.2
/-- the remembered figures, one more remembered -/
def gm_rem (c : Nat) (H : Nat → FG) (x : FG) (i : Nat) : FG := if c = 14 then (if i = 13 then x else H (i + 1)) else (if i = c then x else H i)
theorem s_remember {P : PastS} {c : Nat} {H : Nat → FG} (hp : RP P c H) (h : RF f M n Q) : ∃ P', G_X3_remember P f = some P' ∧ RP P' (if c = 14 then 14 else c + 1) (gm_rem c H (n, M, Q)) := by
  obtain ⟨hc, pc, o, ho, po, pf⟩ := hp
  obtain ⟨f', e, q⟩ := s_copyFrom (f := p_figs P ((o + c) % 14)) h
  have ek : p_oldest P + p_count P - (p_oldest P + p_count P) / 14 * 14 = iZ (((o + c) % 14 : Nat) : Int) := by
    rw [po, pc, iZ_add, show (o : Int) + (c : Int) = ((o + c : Nat) : Int) by omega, mod_iZ (by omega)]
  unfold G_X3_remember
  rw [ek, rdx_iZ (by omega) (by omega), Option.bind_some, e, Option.bind_some]
  have pc' : p_count (ps_figs P (updF (p_figs P) ((o + c) % 14) f')) = iZ c := pc
  have po' : p_oldest (ps_figs P (updF (p_figs P) ((o + c) % 14) f')) = iZ o := po
  rw [pc', po', iZ_14, ite_le (by omega)]
  by_cases c14 : c = 14
  · rw [if_pos (by omega), Option.bind_some]
    refine ⟨_, rfl, by rw [if_pos c14]; omega, ?_, (o + 1) % 14, by omega, ?_, fun i hi => ?_⟩
    · rw [if_pos c14]
      exact pc'.trans (by rw [c14])
    · show iZ o + 1 - (iZ o + 1) / iZ 14 * iZ 14 = _
      rw [← iZ_14, iZ_1, iZ_add, show (o : Int) + 1 = ((o + 1 : Nat) : Int) by omega, mod_iZ (by omega)]
    · show RF (updF (p_figs P) ((o + c) % 14) f' (((o + 1) % 14 + i) % 14)) _ _ _
      rw [if_pos c14] at hi
      unfold updF gm_rem
      rw [if_pos c14]
      by_cases q13 : i = 13
      · rw [if_pos q13, if_pos (by omega)]; exact q
      · rw [if_neg q13, if_neg (by omega), show ((o + 1) % 14 + i) % 14 = (o + (i + 1)) % 14 by omega]
        exact pf (i + 1) (by omega)
  · rw [if_neg (by omega), Option.bind_some]
    refine ⟨_, rfl, by rw [if_neg c14]; omega, ?_, o, ho, po', fun i hi => ?_⟩
    · rw [if_neg c14]
      show iZ c + 1 = _
      rw [iZ_1, iZ_add]; exact congrArg iZ (by omega)
    · show RF (updF (p_figs P) ((o + c) % 14) f' ((o + i) % 14)) _ _ _
      rw [if_neg c14] at hi
      unfold updF gm_rem
      rw [if_neg c14]
      by_cases qc : i = c
      · rw [if_pos qc, if_pos (by rw [qc])]; exact q
      · rw [if_neg qc, if_neg (by omega)]
        exact pf i (by omega)
theorem s_takeBack {P : PastS} {c : Nat} {H : Nat → FG} (hp : RP P c H) (h0 : 0 < c) : ∃ P' f', G_X3_takeBackInto P f = some (P', f') ∧ RP P' (c - 1) H ∧ p_count P' = iZ ((c - 1 : Nat) : Int) ∧ RF f' (H (c - 1)).2.1 (H (c - 1)).1 (H (c - 1)).2.2 := by
  obtain ⟨hc, pc, o, ho, po, pf⟩ := hp
  obtain ⟨f', e, q⟩ := s_copyFrom (f := f) (pf (c - 1) (by omega))
  have pcm : p_count P - 1 = iZ ((c - 1 : Nat) : Int) := by rw [pc, iZ_1, iZ_sub]; exact congrArg iZ (by omega)
  have ek : p_oldest (ps_count P (p_count P - 1)) + p_count (ps_count P (p_count P - 1)) - (p_oldest (ps_count P (p_count P - 1)) + p_count (ps_count P (p_count P - 1))) / 14 * 14 = iZ (((o + (c - 1)) % 14 : Nat) : Int) := by
    show p_oldest P + (p_count P - 1) - (p_oldest P + (p_count P - 1)) / 14 * 14 = _
    rw [po, pcm, iZ_add, show (o : Int) + ((c - 1 : Nat) : Int) = ((o + (c - 1) : Nat) : Int) by omega, mod_iZ (by omega)]
  refine ⟨ps_count P (p_count P - 1), f', ?_, ⟨by omega, pcm, o, ho, po, fun i hi => pf i (by omega)⟩, pcm, q⟩
  unfold G_X3_takeBackInto
  rw [ek, pc, iZ_0, ite_le (by omega), if_neg (by omega), rdx_iZ (by omega) (by omega), Option.bind_some]
  have e' : G_X1_copyFrom f (p_figs (ps_count P (iZ c - 1)) ((o + (c - 1)) % 14)) = some f' := e
  rw [e', Option.bind_some]
theorem s_forgetAll {P : PastS} (H : Nat → FG) : ∃ P', G_X3_forgetAll P = some P' ∧ RP P' 0 H := by
  refine ⟨_, rfl, by omega, rfl, 0, by omega, rfl, fun i hi => absurd hi (Nat.not_lt_zero i)⟩
theorem s_keepDraft {D : Fig} {P : PastS} {c : Nat} {H : Nat → FG} {M' : Nat → Nat} {n' : Nat} {Q' : Nat → Pt} (hp : RP P c H) (h : RF f M n Q) (hd : RF D M' n' Q') : ∃ f' P', G_X8_keepDraft f D P = some (f', P') ∧ RF f' M' n' Q' ∧ RP P' (if c = 14 then 14 else c + 1) (gm_rem c H (n, M, Q)) := by
  obtain ⟨P', e1, q1⟩ := s_remember hp h
  obtain ⟨f', e2, q2⟩ := s_copyFrom (f := f) hd
  refine ⟨f', P', ?_, q2, q1⟩
  unfold G_X8_keepDraft
  rw [e1, Option.bind_some, e2, Option.bind_some]
end CLASS
