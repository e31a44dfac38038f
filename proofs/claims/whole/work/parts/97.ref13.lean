/-! the second class: what it remembers -/
/-- the remembered states, the oldest first -/
def RH (m : Mod) (c : Nat) (H : Nat → FG) : Prop := c ≤ 14 ∧ m_remembered m = iZ (c : Int) ∧ ∀ i, i < c → RS (fun j => m_history m (85 * i + j)) (H i).2.1 (H i).1 (H i).2.2
/-- nothing else than the history has changed -/
def SH (m m' : Mod) : Prop := m_thrown m' = m_thrown m ∧ m_state m' = m_state m ∧ m_kept m' = m_kept m ∧ m_scriptKept m' = m_scriptKept m ∧ m_slots m' = m_slots m ∧ m_isSaved m' = m_isSaved m ∧ m_text m' = m_text m ∧ m_textLength m' = m_textLength m ∧ m_cuts m' = m_cuts m
theorem RH.of {m m' : Mod} {c : Nat} {H : Nat → FG} (h : RH m c H) (e1 : m_history m' = m_history m) (e2 : m_remembered m' = m_remembered m) : RH m' c H := by
  obtain ⟨h1, h2, h3⟩ := h
  refine ⟨h1, e2.trans h2, fun i hi => ?_⟩
  rw [e1]
  exact h3 i hi
section REF
variable {m : Mod} {M : Nat → Nat} {n : Nat} {Q : Nat → Pt}
theorem t_rem49 {c : Nat} {H : Nat → FG} (hc : c < 14) (hr : m_remembered m = iZ (c : Int)) (hh : ∀ i, i < c → RS (fun j => m_history m (85 * i + j)) (H i).2.1 (H i).1 (H i).2.2) (hk : RS (m_kept m) M n Q) :
    ∃ m', G_X9_remember_j49 m = some m' ∧ RH m' (c + 1) (fun i => if i = c then (n, M, Q) else H i) ∧ SH m m' := by
  obtain ⟨w, e, h1, h2⟩ := t_copy (n0 := 85) (n1 := 1190) (w0 := m_kept m) (w1 := m_history m) (p := 0) (z := c * 85) (by omega) (by omega) (by omega) (by omega)
  have e : G_X9_copy 85 1190 (m_kept m) (m_history m) 0 (iZ ((c * 85 : Nat) : Int)) = some w := e
  unfold G_X9_remember_j49
  rw [hr, iZ_85, iZ_mul, show (c : Int) * 85 = ((c * 85 : Nat) : Int) by omega, e, Option.bind_some, Option.bind_some]
  generalize hx : ms_history m w = x
  have g := mg_history m w
  rw [hx] at g
  obtain ⟨g01, g02, g03, g04, g05, g06, g07, g08, g09, g10, g11, g12, g13, g14, g15, g16, g17, g18⟩ := g
  rw [g06, hr, iZ_1, iZ_add, show (c : Int) + 1 = ((c + 1 : Nat) : Int) by omega]
  generalize hy : ms_remembered x (iZ ((c + 1 : Nat) : Int)) = y
  have f := mg_remembered x (iZ ((c + 1 : Nat) : Int))
  rw [hy] at f
  obtain ⟨f01, f02, f03, f04, f05, f06, f07, f08, f09, f10, f11, f12, f13, f14, f15, f16, f17, f18⟩ := f
  refine ⟨y, rfl, ⟨by omega, f06, fun i hi => ?_⟩, f01.trans g01, f02.trans g02, f03.trans g03, f04.trans g04, f07.trans g07, f08.trans g08, f09.trans g09, f10.trans g10, f18.trans g18⟩
  rw [f05, g05]
  dsimp only
  by_cases ic : i = c
  · rw [if_pos ic]
    refine RS.congr hk (fun j hj => ?_)
    have := h1 j hj
    rw [Nat.zero_add] at this
    rw [ic, Nat.mul_comm 85 c]
    exact this
  · rw [if_neg ic]
    exact RS.congr (hh i (by omega)) (fun j hj => h2 _ (by omega))
theorem t_remember {c : Nat} {H : Nat → FG} (hh : RH m c H) (hk : RS (m_kept m) M n Q) : ∃ m', G_X9_remember m = some m' ∧ RH m' (if c = 14 then 14 else c + 1) (gm_rem c H (n, M, Q)) ∧ SH m m' := by
  obtain ⟨hc, hr, hf⟩ := hh
  unfold G_X9_remember
  rw [hr, iZ_14, ite_eq (by omega)]
  by_cases c14 : c = 14
  · rw [if_pos (by omega)]
    obtain ⟨s, ⟨i1, i2, i3, i4⟩, e⟩ := lp_inv (L := fun u (s : Mod) c => G_X9_remember_L11 u s c) (N := 1105) (I := fun t s => (∀ j, j < t → m_history s j = m_history m (j + 85)) ∧ (∀ j, t ≤ j → m_history s j = m_history m j) ∧ m_remembered s = m_remembered m ∧ SH m s)
      (K := fun s => G_X9_remember_j49 (ms_remembered s ((m_remembered s) - 1)))
      (fun u t s ht hI => by
        obtain ⟨i1, i2, i3, i4⟩ := hI
        have e0 : (1105 : Int32) = iZ 1105 := rfl
        generalize hx : ms_history s (upd (m_history s) t (m_history s (t + 85))) = x
        have g := mg_history s (upd (m_history s) t (m_history s (t + 85)))
        rw [hx] at g
        obtain ⟨g01, g02, g03, g04, g05, g06, g07, g08, g09, g10, g11, g12, g13, g14, g15, g16, g17, g18⟩ := g
        obtain ⟨k1, k2, k3, k4, k5, k6, k7, k8, k9⟩ := i4
        refine ⟨x, ⟨fun j hj => ?_, fun j hj => ?_, g06.trans i3, g01.trans k1, g02.trans k2, g03.trans k3, g04.trans k4, g07.trans k5, g08.trans k6, g09.trans k7, g10.trans k8, g18.trans k9⟩, ?_⟩
        · rw [g05]
          by_cases jt : j = t
          · rw [jt, upd_same]; exact i2 _ (by omega)
          · rw [upd_ne jt]; exact i1 j (by omega)
        · rw [g05, upd_ne (by omega)]; exact i2 j (by omega)
        · rw [G_X9_remember_L11, e0, ite_le (by omega), if_neg (by omega), iZ_85, iZ_add, show (t : Int) + 85 = ((t + 85 : Nat) : Int) by omega, rd_iZ (by omega) (by omega), Option.bind_some, wr_iZ (by omega) (by omega), Option.bind_some, iZ_1, iZ_add, hx])
      (fun u s hI => by
        have e0 : (1105 : Int32) = iZ 1105 := rfl
        rw [G_X9_remember_L11, e0, ite_le (by omega), if_pos (by omega)])
      1105 0 FU m (by omega) (by unfold FU; omega) ⟨fun j hj => absurd hj (Nat.not_lt_zero j), fun j _ => rfl, rfl, rfl, rfl, rfl, rfl, rfl, rfl, rfl, rfl, rfl⟩
    have e : G_X9_remember_L11 FU m 0 = G_X9_remember_j49 (ms_remembered s ((m_remembered s) - 1)) := e
    rw [e, i3, hr, c14, iZ_1, iZ_sub]
    generalize hx : ms_remembered s (iZ (((14 : Nat) : Int) - 1)) = x
    have g := mg_remembered s (iZ (((14 : Nat) : Int) - 1))
    rw [hx] at g
    obtain ⟨g01, g02, g03, g04, g05, g06, g07, g08, g09, g10, g11, g12, g13, g14, g15, g16, g17, g18⟩ := g
    obtain ⟨k1, k2, k3, k4, k5, k6, k7, k8, k9⟩ := i4
    obtain ⟨m', e2, h2, q1, q2, q3, q4, q5, q6, q7, q8, q9⟩ := t_rem49 (m := x) (c := 13) (H := fun i => H (i + 1)) (by omega) g06 (fun i hi => by
      rw [g05]
      exact RS.congr (hf (i + 1) (by omega)) (fun j hj => by
        have := i1 (85 * i + j) (by omega)
        rw [this]
        exact congrArg (m_history m) (by omega))) (by rw [g03, k3]; exact hk)
    refine ⟨m', e2, ?_, q1.trans (g01.trans k1), q2.trans (g02.trans k2), q3.trans (g03.trans k3), q4.trans (g04.trans k4), q5.trans (g07.trans k5), q6.trans (g08.trans k6), q7.trans (g09.trans k7), q8.trans (g10.trans k8), q9.trans (g18.trans k9)⟩
    rw [if_pos rfl]
    have eH : gm_rem 14 H (n, M, Q) = fun i => if i = 13 then (n, M, Q) else H (i + 1) := by
      funext i
      unfold gm_rem
      rw [if_pos rfl]
    rw [eH]
    exact h2
  · rw [if_neg (by omega)]
    obtain ⟨m', e2, h2, q⟩ := t_rem49 (by omega) hr hf hk
    refine ⟨m', e2, ?_, q⟩
    rw [if_neg c14]
    have eH : gm_rem c H (n, M, Q) = fun i => if i = c then (n, M, Q) else H i := by
      funext i
      unfold gm_rem
      rw [if_neg c14]
    rw [eH]
    exact h2
end REF
