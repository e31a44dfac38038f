/-! both classes: the changes -/
/-- both tries end alike; c: the numbers given are in their bounds -/
def JT (c : Prop) (m : Mod) (o : Option (Int32 × Fig)) (o' : Option (Int32 × Mod)) : Prop :=
  ∃ f' m', SK m m' ∧ ((o = some (0, f') ∧ (∀ i, i < 85 → m_state m' i = m_state m i) ∧ ((¬ c ∧ o' = some (1, m')) ∨ (c ∧ o' = some (2, m')))) ∨
    (c ∧ o = some (1, f') ∧ o' = some (0, m') ∧ (∀ i, i < 85 → m_kept m' i = m_state m i) ∧ ∃ M' n' Q', gm_ok M' n' Q' ∧ RF f' M' n' Q' ∧ RS (m_state m') M' n' Q'))
section BOTH
variable {f : Fig} {m : Mod} {M : Nat → Nat} {n : Nat} {Q : Nat → Pt}
theorem j_of {c : Prop} {M' : Nat → Nat} {n' : Nat} {Q' : Nat → Pt} {f' : Fig} {m' : Mod} {z y : Int} {o : Option (Int32 × Fig)} {o' : Option (Int32 × Mod)} (hc : c) (hn : 1 ≤ n' ∧ n' ≤ 4) (hM : ∀ r, r < n' → 3 ≤ M' r ∧ M' r ≤ 10)
    (q : RF f' M' n' Q') (zb : gm_brk M' n' Q' z) (e : o = some (iZ (if z = 0 then 1 else 0), f')) (t : TR m m' M' n' Q' y o') : JT c m o o' := by
  obtain ⟨-, yb, e', t1, t2, t3, t4⟩ := t
  have zy : z = y := gm_brk_un zb yb
  subst zy
  refine ⟨f', m', t1, ?_⟩
  by_cases z0 : z = 0
  · rw [if_pos z0] at e e'
    rw [z0] at zb
    exact Or.inr ⟨hc, e, e', t2, M', n', Q', gm_brk_ok hn hM zb, q, t3 z0⟩
  · rw [if_neg z0] at e e'
    exact Or.inl ⟨e, t4 z0, Or.inr ⟨hc, e'⟩⟩
theorem j_no {c : Prop} {f' : Fig} {o : Option (Int32 × Fig)} {o' : Option (Int32 × Mod)} (hc : ¬ c) (e : o = some (0, f')) (e' : o' = some (iZ 1, m)) : JT c m o o' := ⟨f', m, SK.rfl' m, Or.inl ⟨e, fun _ _ => rfl, Or.inl ⟨hc, e'⟩⟩⟩
theorem j_no2 {c : Prop} {f' : Fig} {o : Option (Int32 × Fig)} {o' : Option (Int32 × Mod)} (hc : c) (e : o = some (0, f')) (e' : o' = some (iZ 2, m)) : JT c m o o' := ⟨f', m, SK.rfl' m, Or.inl ⟨e, fun _ _ => rfl, Or.inr ⟨hc, e'⟩⟩⟩
theorem j_move (h : RF f M n Q) (hs : RS (m_state m) M n Q) (hok : gm_ok M n Q) (r k x y : Int) (br : -2147483648 ≤ r ∧ r < 2147483648) (bk : -2147483648 ≤ k ∧ k < 2147483648) (bx : -2147483648 ≤ x ∧ x < 2147483648) (bY : -2147483648 ≤ y ∧ y < 2147483648) :
    JT (0 ≤ r ∧ r < n ∧ 0 ≤ k ∧ k < M r.toNat) m (G_X0_movedCorner f (iZ r) (iZ k) (iZ x) (iZ y)) (G_X9_tryMove m (iZ r) (iZ k) (iZ x) (iZ y)) := by
  rcases s_movedCorner h hok r k x y br bk bx bY with ⟨c1, e1⟩ | ⟨c1, f', z, -, -, q, zb, e1⟩
  · rcases t_tryMove hs hok r k x y br bk bx bY with ⟨c2, e2⟩ | ⟨c2, -⟩
    · exact j_no c1 e1 e2
    · exact absurd c2 c1
  · rcases t_tryMove hs hok r k x y br bk bx bY with ⟨c2, e2⟩ | ⟨c2, z', m', t⟩
    · exact absurd c1 c2
    · exact j_of c1 hok.1 hok.2.1 q zb e1 t
theorem gm_iM_ok (hok : gm_ok M n Q) {i : Nat} (h10 : M i < 10) : ∀ a, a < n → 3 ≤ gm_iM M i a ∧ gm_iM M i a ≤ 10 := by
  intro a ha
  have := hok.2.1 a ha
  unfold gm_iM
  split
  · rename_i ea; subst ea; omega
  · exact this
theorem gm_tM_ok (hok : gm_ok M n Q) {i : Nat} (h3 : 3 < M i) : ∀ a, a < n → 3 ≤ gm_tM M i a ∧ gm_tM M i a ≤ 10 := by
  intro a ha
  have := hok.2.1 a ha
  unfold gm_tM
  split
  · rename_i ea; subst ea; omega
  · exact this
theorem j_insert (h : RF f M n Q) (hs : RS (m_state m) M n Q) (hok : gm_ok M n Q) (r k x y : Int) (br : -2147483648 ≤ r ∧ r < 2147483648) (bk : -2147483648 ≤ k ∧ k < 2147483648) (bx : -2147483648 ≤ x ∧ x < 2147483648) (bY : -2147483648 ≤ y ∧ y < 2147483648) :
    JT (0 ≤ r ∧ r < n ∧ 0 ≤ k ∧ k < M r.toNat) m (G_X0_addedCorner f (iZ r) (iZ k) (iZ x) (iZ y)) (G_X9_tryInsert m (iZ r) (iZ k) (iZ x) (iZ y)) := by
  rcases s_addedCorner h hok r k x y br bk bx bY with ⟨c1, e1⟩ | ⟨c1, d1, e1⟩ | ⟨c1, d1, f', z, -, -, q, zb, e1⟩
  · rcases t_tryInsert hs hok r k x y br bk bx bY with ⟨c2, e2⟩ | ⟨c2, -⟩ | ⟨c2, -⟩
    · exact j_no c1 e1 e2
    · exact absurd c2 c1
    · exact absurd c2 c1
  · rcases t_tryInsert hs hok r k x y br bk bx bY with ⟨c2, e2⟩ | ⟨c2, d2, e2⟩ | ⟨c2, d2, -⟩
    · exact absurd c1 c2
    · exact j_no2 c1 e1 e2
    · omega
  · rcases t_tryInsert hs hok r k x y br bk bx bY with ⟨c2, e2⟩ | ⟨c2, d2, e2⟩ | ⟨c2, d2, z', m', t⟩
    · exact absurd c1 c2
    · omega
    · exact j_of c1 hok.1 (gm_iM_ok hok d1) q zb e1 t
theorem j_remove (h : RF f M n Q) (hs : RS (m_state m) M n Q) (hok : gm_ok M n Q) (r k : Int) (br : -2147483648 ≤ r ∧ r < 2147483648) (bk : -2147483648 ≤ k ∧ k < 2147483648) :
    JT (0 ≤ r ∧ r < n ∧ 0 ≤ k ∧ k < M r.toNat) m (G_X0_lostCorner f (iZ r) (iZ k)) (G_X9_tryRemove m (iZ r) (iZ k)) := by
  rcases s_lostCorner h hok r k br bk with ⟨c1, e1⟩ | ⟨c1, d1, e1⟩ | ⟨c1, d1, f', z, -, -, q, zb, e1⟩
  · rcases t_tryRemove hs hok r k br bk with ⟨c2, e2⟩ | ⟨c2, -⟩ | ⟨c2, -⟩
    · exact j_no c1 e1 e2
    · exact absurd c2 c1
    · exact absurd c2 c1
  · rcases t_tryRemove hs hok r k br bk with ⟨c2, e2⟩ | ⟨c2, d2, e2⟩ | ⟨c2, d2, -⟩
    · exact absurd c1 c2
    · exact j_no2 c1 e1 e2
    · omega
  · rcases t_tryRemove hs hok r k br bk with ⟨c2, e2⟩ | ⟨c2, d2, e2⟩ | ⟨c2, d2, z', m', t⟩
    · exact absurd c1 c2
    · omega
    · exact j_of c1 hok.1 (gm_tM_ok hok d1) q zb e1 t
theorem j_hole (h : RF f M n Q) (hs : RS (m_state m) M n Q) (hok : gm_ok M n Q) (x y : Int) (bx : -2147483648 ≤ x ∧ x < 2147483648) (bY : -2147483648 ≤ y ∧ y < 2147483648) :
    JT (0 ≤ x ∧ x ≤ 14 ∧ 0 ≤ y ∧ y ≤ 14) m (G_X0_addedHole f (iZ x) (iZ y)) (G_X9_tryHole m (iZ x) (iZ y)) := by
  have hn := hok.1
  rcases s_addedHole h hok x y bx bY with ⟨c1, e1⟩ | ⟨c1, f', z, -, -, q, zb, e1⟩
  · rcases t_tryHole hs hok x y bx bY with ⟨c2, e2⟩ | ⟨c2, d2, e2⟩ | ⟨c2, d2, -⟩
    · exact j_no c2 e1 e2
    · exact j_no2 c2 e1 e2
    · exact absurd ⟨c2.1, c2.2.1, c2.2.2.1, c2.2.2.2, d2⟩ c1
  · rcases t_tryHole hs hok x y bx bY with ⟨c2, e2⟩ | ⟨c2, d2, e2⟩ | ⟨c2, d2, z', m', t⟩
    · exact absurd ⟨c1.1, c1.2.1, c1.2.2.1, c1.2.2.2.1⟩ c2
    · have := c1.2.2.2.2; omega
    · exact j_of c2 (by omega) (gm_hM_ok hok) q zb e1 t
end BOTH
