/-! the first class: ways to cut; the past -/
theorem gm_cut_mono {M : Nat → Nat} {n : Nat} {Q : Nat → Pt} {s a b : Nat} (h : b ≤ a + s) : gm_cut M n Q (s + 1) a b = gm_cut M n Q s a b := by
  show (if b = a + (s + 1) then _ else gm_cut M n Q s a b) = _
  rw [if_neg (by omega)]
/-- the numbers of ways hold those of all parts of span up to s, and of span s + 1 from the first a on -/
def gm_WI (M : Nat → Nat) (n : Nat) (Q : Nat → Pt) (s a : Nat) (w : Nat → Int32) : Prop := ∀ x y, x < y → y < M 0 → (y ≤ x + s ∨ (y = x + (s + 1) ∧ x < a)) → w (10 * x + y) = gm_cut M n Q (s + 1) x y
section CLASS
variable {f : Fig} {M : Nat → Nat} {n : Nat} {Q : Nat → Pt}
/-! the past -/
abbrev FG : Type := Nat × (Nat → Nat) × (Nat → Pt)
theorem mod_iZ {k : Nat} (h : k < 1000) : iZ (k : Int) - iZ (k : Int) / 14 * 14 = iZ ((k % 14 : Nat) : Int) := by
  rw [iZ_14]
  have e : iZ (k : Int) / iZ 14 = iZ ((k : Int).tdiv 14) := (Int32.ofInt_tdiv (by show (-2147483648 : Int) ≤ _; omega) (by show _ ≤ (2147483647 : Int); omega) (by decide) (by decide)).symm
  rw [e, iZ_mul, iZ_sub]
  refine congrArg iZ ?_
  rw [Int.tdiv_eq_ediv_of_nonneg (by omega)]
  omega
theorem rdx_iZ {n k : Nat} (h : k < n) (hn : n < 100000) : rdx n (iZ (k : Int)) = some k := by
  unfold rdx
  rw [iZ_clamp (by omega), if_neg]
  intro q
  rcases q with q | q
  · rw [iZ_0, iZ_lt (by omega) (by omega) (by omega) (by omega)] at q
    omega
  · omega
/-- the remembered figures, the oldest first -/
def RP (P : PastS) (c : Nat) (H : Nat → FG) : Prop := c ≤ 14 ∧ p_count P = iZ c ∧ ∃ o : Nat, o < 14 ∧ p_oldest P = iZ o ∧ ∀ i, i < c → RF (p_figs P ((o + i) % 14)) (H i).2.1 (H i).1 (H i).2.2
/-- the remembered figures, one more remembered -/
def gm_rem (c : Nat) (H : Nat → FG) (x : FG) (i : Nat) : FG := if c = 14 then (if i = 13 then x else H (i + 1)) else (if i = c then x else H i)
theorem s_remember {P : PastS} {c : Nat} {H : Nat → FG} (hp : RP P c H) (h : RF f M n Q) : ∃ P', G_X3_remember P f = some P' ∧ RP P' (if c = 14 then 14 else c + 1) (gm_rem c H (n, M, Q)) := by
  obtain ⟨hc, pc, o, ho, po, pf⟩ := hp
  obtain ⟨f', e, q⟩ := s_copyFrom (f := p_figs P ((o + c) % 14)) h
  have ek : p_oldest P + p_count P - (p_oldest P + p_count P) / 14 * 14 = iZ (((o + c) % 14 : Nat) : Int) := by
    rw [po, pc, iZ_add, show (o : Int) + (c : Int) = ((o + c : Nat) : Int) by omega, mod_iZ (by omega)]
  unfold G_X3_remember
  rw [ek, rdx_iZ (by omega) (by omega), Option.bind_some, e, Option.bind_some]
  have pc' : p_count (ps_figs P (updF (p_figs P) ((o + c) % 14) f')) = iZ c := pc
  have po' : p_oldest (ps_figs P (updF (p_figs P) ((o + c) % 14) f')) = iZ o := po
  rw [pc', po', iZ_14, ite_le (by omega)]
  by_cases c14 : c = 14
  · rw [if_pos (by omega), Option.bind_some]
    refine ⟨_, rfl, by rw [if_pos c14]; omega, ?_, (o + 1) % 14, by omega, ?_, fun i hi => ?_⟩
    · rw [if_pos c14]
      exact pc'.trans (by rw [c14])
    · show iZ o + 1 - (iZ o + 1) / iZ 14 * iZ 14 = _
      rw [← iZ_14, iZ_1, iZ_add, show (o : Int) + 1 = ((o + 1 : Nat) : Int) by omega, mod_iZ (by omega)]
    · show RF (updF (p_figs P) ((o + c) % 14) f' (((o + 1) % 14 + i) % 14)) _ _ _
      rw [if_pos c14] at hi
      unfold updF gm_rem
      rw [if_pos c14]
      by_cases q13 : i = 13
      · rw [if_pos q13, if_pos (by omega)]; exact q
      · rw [if_neg q13, if_neg (by omega), show ((o + 1) % 14 + i) % 14 = (o + (i + 1)) % 14 by omega]
        exact pf (i + 1) (by omega)
  · rw [if_neg (by omega), Option.bind_some]
    refine ⟨_, rfl, by rw [if_neg c14]; omega, ?_, o, ho, po', fun i hi => ?_⟩
    · rw [if_neg c14]
      show iZ c + 1 = _
      rw [iZ_1, iZ_add]; exact congrArg iZ (by omega)
    · show RF (updF (p_figs P) ((o + c) % 14) f' ((o + i) % 14)) _ _ _
      rw [if_neg c14] at hi
      unfold updF gm_rem
      rw [if_neg c14]
      by_cases qc : i = c
      · rw [if_pos qc, if_pos (by rw [qc])]; exact q
      · rw [if_neg qc, if_neg (by omega)]
        exact pf i (by omega)
theorem s_keepDraft {D : Fig} {P : PastS} {c : Nat} {H : Nat → FG} {M' : Nat → Nat} {n' : Nat} {Q' : Nat → Pt} (hp : RP P c H) (h : RF f M n Q) (hd : RF D M' n' Q') : ∃ f' P', G_X8_keepDraft f D P = some (f', P') ∧ RF f' M' n' Q' ∧ RP P' (if c = 14 then 14 else c + 1) (gm_rem c H (n, M, Q)) := by
  obtain ⟨P', e1, q1⟩ := s_remember hp h
  obtain ⟨f', e2, q2⟩ := s_copyFrom (f := f) hd
  refine ⟨f', P', ?_, q2, q1⟩
  unfold G_X8_keepDraft
  rw [e1, Option.bind_some, e2, Option.bind_some]
end CLASS
