/-! the first class: Change -/
section CLASS
variable {f : Fig} {M : Nat → Nat} {n : Nat} {Q : Nat → Pt}
theorem gm_brk_ok (hn : 1 ≤ n ∧ n ≤ 4) (hM : ∀ r, r < n → 3 ≤ M r ∧ M r ≤ 10) (h : gm_brk M n Q 0) : gm_ok M n Q := by
  unfold gm_brk at h
  rcases h with a | a | a | a | a | a
  · omega
  · omega
  · omega
  · omega
  · omega
  · exact ⟨hn, hM, a.1, a.2.1, a.2.2.1, a.2.2.2.1, a.2.2.2.2.1⟩
theorem gm_ok_brk (h : gm_ok M n Q) : gm_brk M n Q 0 := Or.inr (Or.inr (Or.inr (Or.inr (Or.inr ⟨h.2.2.1, h.2.2.2.1, h.2.2.2.2.1, h.2.2.2.2.2.1, h.2.2.2.2.2.2, rfl⟩))))
theorem gm_fit_of (h : gm_R1 M n Q) : gm_fit M n Q := by
  intro c hc
  have := h c hc
  unfold gm_paper at this
  omega
theorem gm_fit_up (h : gm_fit M n Q) {c : Nat} {v : Pt} (hv : -2147483648 ≤ v.1 ∧ v.1 < 2147483648 ∧ -2147483648 ≤ v.2 ∧ v.2 < 2147483648) : gm_fit M n (upQ Q c v) := by
  intro i hi
  unfold upQ
  split
  · exact hv
  · exact h i hi
theorem s_movedCorner (h : RF f M n Q) (hok : gm_ok M n Q) (r k x y : Int) (br : -2147483648 ≤ r ∧ r < 2147483648) (bk : -2147483648 ≤ k ∧ k < 2147483648) (bx : -2147483648 ≤ x ∧ x < 2147483648) (bY : -2147483648 ≤ y ∧ y < 2147483648) :
    (¬ (0 ≤ r ∧ r < n ∧ 0 ≤ k ∧ k < M r.toNat) ∧ G_X0_movedCorner f (iZ r) (iZ k) (iZ x) (iZ y) = some (0, f)) ∨
    ((0 ≤ r ∧ r < n ∧ 0 ≤ k ∧ k < M r.toNat) ∧ ∃ f' z, 0 ≤ z ∧ z ≤ 5 ∧ RF f' M n (upQ Q (gm_fst M r.toNat + k.toNat) (x, y)) ∧ gm_brk M n (upQ Q (gm_fst M r.toNat + k.toNat) (x, y)) z ∧ G_X0_movedCorner f (iZ r) (iZ k) (iZ x) (iZ y) = some (iZ (if z = 0 then 1 else 0), f')) := by
  have hc := s_hasCorner h r k br.1 br.2 bk.1 bk.2
  unfold G_X0_movedCorner
  rw [hc]
  by_cases c : 0 ≤ r ∧ r < n ∧ 0 ≤ k ∧ k < M r.toNat
  · right
    refine ⟨c, ?_⟩
    obtain ⟨i, rfl⟩ : ∃ i : Nat, r = i := ⟨r.toNat, by omega⟩
    obtain ⟨j, rfl⟩ : ∃ j : Nat, k = j := ⟨k.toNat, by omega⟩
    rw [Int.toNat_natCast] at c
    have hi : i < n := by omega
    have hj : j < M i := by omega
    obtain ⟨f', e, q⟩ := s_place h (gm_fst_lt hi hj) (x, y)
    obtain ⟨z, z0, z5, zb, ez⟩ := s_firstBroken q (gm_fit_up (gm_fit_of hok.2.2.1) (by dsimp only; omega)) (fun r hr => (hok.2.1 r hr).1) hok.1.1
    rw [Int.toNat_natCast, Int.toNat_natCast]
    refine ⟨f', z, z0, z5, q, zb, ?_⟩
    rw [if_pos (by omega), Option.bind_some, iZ_0, ite_eq (by omega), if_neg (by omega), s_at h (by omega), Option.bind_some, show ((gm_fst M i : Nat) : Int) + (j : Int) = ((gm_fst M i + j : Nat) : Int) by omega]
    have e : G_X1_place f (iZ ((gm_fst M i + j : Nat) : Int)) (iZ x) (iZ y) = some f' := e
    rw [e, Option.bind_some, ez, Option.bind_some, ite_eq (by omega)]
    split <;> rfl
  · left
    refine ⟨c, ?_⟩
    rw [if_neg c, Option.bind_some, iZ_0, if_pos rfl]
theorem s_addedCorner (h : RF f M n Q) (hok : gm_ok M n Q) (r k x y : Int) (br : -2147483648 ≤ r ∧ r < 2147483648) (bk : -2147483648 ≤ k ∧ k < 2147483648) (bx : -2147483648 ≤ x ∧ x < 2147483648) (bY : -2147483648 ≤ y ∧ y < 2147483648) :
    (¬ (0 ≤ r ∧ r < n ∧ 0 ≤ k ∧ k < M r.toNat) ∧ G_X0_addedCorner f (iZ r) (iZ k) (iZ x) (iZ y) = some (0, f)) ∨
    ((0 ≤ r ∧ r < n ∧ 0 ≤ k ∧ k < M r.toNat) ∧ M r.toNat = 10 ∧ G_X0_addedCorner f (iZ r) (iZ k) (iZ x) (iZ y) = some (0, f)) ∨
    ((0 ≤ r ∧ r < n ∧ 0 ≤ k ∧ k < M r.toNat) ∧ M r.toNat < 10 ∧ ∃ f' z, 0 ≤ z ∧ z ≤ 5 ∧ RF f' (gm_iM M r.toNat) n (gm_iQ Q (gm_fst M r.toNat + (k.toNat + 1)) (x, y)) ∧ gm_brk (gm_iM M r.toNat) n (gm_iQ Q (gm_fst M r.toNat + (k.toNat + 1)) (x, y)) z ∧ G_X0_addedCorner f (iZ r) (iZ k) (iZ x) (iZ y) = some (iZ (if z = 0 then 1 else 0), f')) := by
  have hc := s_hasCorner h r k br.1 br.2 bk.1 bk.2
  unfold G_X0_addedCorner
  rw [hc]
  by_cases c : 0 ≤ r ∧ r < n ∧ 0 ≤ k ∧ k < M r.toNat
  · right
    obtain ⟨i, rfl⟩ : ∃ i : Nat, r = i := ⟨r.toNat, by omega⟩
    obtain ⟨j, rfl⟩ : ∃ j : Nat, k = j := ⟨k.toNat, by omega⟩
    rw [Int.toNat_natCast] at c ⊢
    have hi : i < n := by omega
    have hj : j < M i := by omega
    have hMi := hok.2.1 i hi
    rw [if_pos (by omega), Option.bind_some, iZ_0, ite_eq (by omega), if_neg (by omega), s_sizeOf h hi, Option.bind_some, iZ_10, ite_lt (by omega)]
    by_cases c10 : M i < 10
    · right
      rw [Int.toNat_natCast]
      obtain ⟨f', e, q⟩ := s0_putIn h.to0 hi (show j + 1 ≤ M i by omega) c10 (x, y)
      have hfit : gm_fit (gm_iM M i) n (gm_iQ Q (gm_fst M i + (j + 1)) (x, y)) := by
        intro c hc
        rw [gm_iM_fst, if_pos hi] at hc
        have fq := gm_fit_of hok.2.2.1
        have hlt := gm_fst_lt hi hj
        unfold gm_iQ
        split
        · exact fq c (by omega)
        · split
          · dsimp only; omega
          · exact fq (c - 1) (by omega)
      obtain ⟨z, z0, z5, zb, ez⟩ := s_firstBroken q hfit (fun r hr => by have := (hok.2.1 r hr).1; unfold gm_iM; split <;> omega) hok.1.1
      refine ⟨c, c10, f', z, z0, z5, q, zb, ?_⟩
      rw [if_pos (by omega), iZ_1, iZ_add, show (j : Int) + 1 = ((j + 1 : Nat) : Int) by omega]
      have e : G_X1_putIn f (iZ (i : Int)) (iZ ((j + 1 : Nat) : Int)) (iZ x) (iZ y) = some f' := e
      rw [e, Option.bind_some, ez, Option.bind_some, ite_eq (by omega)]
      split <;> rfl
    · left
      refine ⟨c, by omega, ?_⟩
      rw [if_neg (by omega)]
  · left
    refine ⟨c, ?_⟩
    rw [if_neg c, Option.bind_some, iZ_0, if_pos rfl]
theorem s_lostCorner (h : RF f M n Q) (hok : gm_ok M n Q) (r k : Int) (br : -2147483648 ≤ r ∧ r < 2147483648) (bk : -2147483648 ≤ k ∧ k < 2147483648) :
    (¬ (0 ≤ r ∧ r < n ∧ 0 ≤ k ∧ k < M r.toNat) ∧ G_X0_lostCorner f (iZ r) (iZ k) = some (0, f)) ∨
    ((0 ≤ r ∧ r < n ∧ 0 ≤ k ∧ k < M r.toNat) ∧ M r.toNat = 3 ∧ G_X0_lostCorner f (iZ r) (iZ k) = some (0, f)) ∨
    ((0 ≤ r ∧ r < n ∧ 0 ≤ k ∧ k < M r.toNat) ∧ 3 < M r.toNat ∧ ∃ f' z, 0 ≤ z ∧ z ≤ 5 ∧ RF f' (gm_tM M r.toNat) n (gm_tQ Q (gm_fst M r.toNat + k.toNat)) ∧ gm_brk (gm_tM M r.toNat) n (gm_tQ Q (gm_fst M r.toNat + k.toNat)) z ∧ G_X0_lostCorner f (iZ r) (iZ k) = some (iZ (if z = 0 then 1 else 0), f')) := by
  have hc := s_hasCorner h r k br.1 br.2 bk.1 bk.2
  unfold G_X0_lostCorner
  rw [hc]
  by_cases c : 0 ≤ r ∧ r < n ∧ 0 ≤ k ∧ k < M r.toNat
  · right
    obtain ⟨i, rfl⟩ : ∃ i : Nat, r = i := ⟨r.toNat, by omega⟩
    obtain ⟨j, rfl⟩ : ∃ j : Nat, k = j := ⟨k.toNat, by omega⟩
    rw [Int.toNat_natCast] at c ⊢
    have hi : i < n := by omega
    have hj : j < M i := by omega
    have hMi := hok.2.1 i hi
    rw [if_pos (by omega), Option.bind_some, iZ_0, ite_eq (by omega), if_neg (by omega), s_sizeOf h hi, Option.bind_some, iZ_3, ite_lt (by omega)]
    by_cases c3 : 3 < M i
    · right
      rw [Int.toNat_natCast]
      obtain ⟨f', e, q⟩ := s_takeOut h hi hj
      have hfit : gm_fit (gm_tM M i) n (gm_tQ Q (gm_fst M i + j)) := by
        intro c hc
        have eN := gm_tM_fst (M := M) (r := i) (by omega) n
        rw [if_pos hi] at eN
        have fq := gm_fit_of hok.2.2.1
        unfold gm_tQ
        split
        · exact fq c (by omega)
        · exact fq (c + 1) (by omega)
      obtain ⟨z, z0, z5, zb, ez⟩ := s_firstBroken q hfit (fun r hr => by
        have := (hok.2.1 r hr).1
        unfold gm_tM
        split
        · rename_i e; subst e; omega
        · exact this) hok.1.1
      refine ⟨c, c3, f', z, z0, z5, q, zb, ?_⟩
      rw [if_pos (by omega), e, Option.bind_some, ez, Option.bind_some, ite_eq (by omega)]
      split <;> rfl
    · left
      refine ⟨c, by omega, ?_⟩
      rw [if_neg (by omega)]
  · left
    refine ⟨c, ?_⟩
    rw [if_neg c, Option.bind_some, iZ_0, if_pos rfl]
theorem gm_hM_ok (hok : gm_ok M n Q) : ∀ r, r < n + 1 → 3 ≤ gm_hM M n r ∧ gm_hM M n r ≤ 10 := by
  intro r hr
  unfold gm_hM
  split
  · omega
  · exact hok.2.1 r (by omega)
theorem gm_hM_fst : gm_fst (gm_hM M n) n = gm_fst M n ∧ gm_fst (gm_hM M n) (n + 1) = gm_fst M n + 3 := by
  have e : gm_fst (gm_hM M n) n = gm_fst M n := gm_fst_congr (n := n) (fun i hi => if_neg (by omega)) n (Nat.le_refl n)
  refine ⟨e, ?_⟩
  show gm_fst (gm_hM M n) n + gm_hM M n n = _
  rw [e]; unfold gm_hM; rw [if_pos rfl]
theorem s_addedHole (h : RF f M n Q) (hok : gm_ok M n Q) (x y : Int) (bx : -2147483648 ≤ x ∧ x < 2147483648) (bY : -2147483648 ≤ y ∧ y < 2147483648) :
    (¬ (0 ≤ x ∧ x ≤ 14 ∧ 0 ≤ y ∧ y ≤ 14 ∧ n < 4) ∧ G_X0_addedHole f (iZ x) (iZ y) = some (0, f)) ∨
    ((0 ≤ x ∧ x ≤ 14 ∧ 0 ≤ y ∧ y ≤ 14 ∧ n < 4) ∧ ∃ f' z, 0 ≤ z ∧ z ≤ 5 ∧ RF f' (gm_hM M n) (n + 1) (gm_hQ Q (gm_fst M n) x y) ∧ gm_brk (gm_hM M n) (n + 1) (gm_hQ Q (gm_fst M n) x y) z ∧ G_X0_addedHole f (iZ x) (iZ y) = some (iZ (if z = 0 then 1 else 0), f')) := by
  have hn := hok.1
  unfold G_X0_addedHole
  rw [h.1, iZ_4, ite_le (by omega), iZ_0, iZ_14, s_inRange _ _ _ bx.1 bx.2 (by omega) (by omega) (by omega) (by omega), s_inRange _ _ _ bY.1 bY.2 (by omega) (by omega) (by omega) (by omega)]
  by_cases c4 : n < 4
  · rw [if_neg (by omega), Option.bind_some, ite_eq (by split <;> omega)]
    by_cases cx : 0 ≤ x ∧ x ≤ 14
    · rw [if_pos cx, if_neg (by omega), Option.bind_some, ite_eq (by split <;> omega)]
      by_cases cy : 0 ≤ y ∧ y ≤ 14
      · right
        refine ⟨by omega, ?_⟩
        rw [if_pos cy, if_neg (by omega)]
        obtain ⟨f0, e0, q0⟩ := s0_openRing h.to0 c4
        have oN : gm_fst (gm_oM M n) (n + 1) = gm_fst M n := by
          have e : gm_fst (gm_oM M n) n = gm_fst M n := gm_fst_congr (n := n) (fun i hi => if_neg (by omega)) n (Nat.le_refl n)
          show gm_fst (gm_oM M n) n + gm_oM M n n = _
          rw [e]; unfold gm_oM; rw [if_pos rfl]; rfl
        have on : gm_oM M n n = 0 := if_pos rfl
        obtain ⟨f1, e1, q1⟩ := s0_addCorner q0 (m := n) rfl (by rw [on]; omega) (x, y)
        have n1 : gm_fst (gm_iM (gm_oM M n) n) (n + 1) = gm_fst M n + 1 := by rw [gm_iM_fst, oN, if_pos (by omega)]
        have on1 : gm_iM (gm_oM M n) n n = 1 := by unfold gm_iM; rw [if_pos rfl, on]
        obtain ⟨f2, e2, q2⟩ := s0_addCorner q1.to0 (m := n) rfl (by rw [on1]; omega) (x + 1, y)
        have n2 : gm_fst (gm_iM (gm_iM (gm_oM M n) n) n) (n + 1) = gm_fst M n + 2 := by rw [gm_iM_fst, n1, if_pos (by omega)]
        have on2 : gm_iM (gm_iM (gm_oM M n) n) n n = 2 := by rw [gm_iM, if_pos rfl, on1]
        obtain ⟨f3, e3, q3⟩ := s0_addCorner q2.to0 (m := n) rfl (by rw [on2]; omega) (x, y + 1)
        have n3 : gm_fst (gm_iM (gm_iM (gm_iM (gm_oM M n) n) n) n) (n + 1) = gm_fst M n + 3 := by rw [gm_iM_fst, n2, if_pos (by omega)]
        have q : RF f3 (gm_hM M n) (n + 1) (gm_hQ Q (gm_fst M n) x y) := by
          refine q3.congr (fun i hi => ?_) (fun c hc => ?_)
          · unfold gm_hM gm_iM gm_oM
            by_cases c : i = n
            · simp [c]
            · simp [c]
          · rw [n3] at hc
            rw [n2, n1, oN]
            unfold gm_hQ gm_iQ
            rcases (show c < gm_fst M n ∨ c = gm_fst M n ∨ c = gm_fst M n + 1 ∨ c = gm_fst M n + 2 by omega) with k | k | k | k
            · rw [if_pos k, if_pos (by omega), if_pos (by omega), if_pos k]
            · rw [if_neg (by omega), if_pos k, if_pos (by omega), if_pos (by omega), if_neg (by omega), if_pos k]
            · rw [if_neg (by omega), if_neg (by omega), if_pos k, if_pos (by omega), if_neg (by omega), if_pos k]
            · rw [if_neg (by omega), if_neg (by omega), if_neg (by omega), if_neg (by omega), if_pos k]
        have hfit : gm_fit (gm_hM M n) (n + 1) (gm_hQ Q (gm_fst M n) x y) := by
          intro c hc
          have fq := gm_fit_of hok.2.2.1
          unfold gm_hQ
          split
          · exact fq c (by assumption)
          · split
            · dsimp only; omega
            · split <;> dsimp only <;> omega
        obtain ⟨z, z0, z5, zb, ez⟩ := s_firstBroken q hfit (fun r hr => (gm_hM_ok hok r hr).1) (by omega)
        refine ⟨f3, z, z0, z5, q, zb, ?_⟩
        have e1 : G_X1_addCorner f0 (iZ x) (iZ y) = some f1 := e1
        have e2 : G_X1_addCorner f1 (iZ (x + 1)) (iZ y) = some f2 := e2
        have e3 : G_X1_addCorner f2 (iZ x) (iZ (y + 1)) = some f3 := e3
        rw [e0, Option.bind_some, e1, Option.bind_some, iZ_1, iZ_add, e2, Option.bind_some, iZ_add, e3, Option.bind_some, ez, Option.bind_some, ite_eq (by omega)]
        split <;> rfl
      · left
        refine ⟨by omega, ?_⟩
        rw [if_neg cy, if_pos rfl]
    · left
      refine ⟨by omega, ?_⟩
      rw [if_neg cx, if_pos rfl]
  · left
    refine ⟨by omega, ?_⟩
    rw [if_pos (by omega)]
def gm_dx (d : Int) : Int := if d = 0 then 1 else if d = 2 then -1 else 0
def gm_dy (d : Int) : Int := if d = 1 then 1 else if d = 3 then -1 else 0
theorem upQ_self (c : Nat) (v : Pt) : upQ (upQ Q c v) c (Q c) = Q := by
  funext i
  unfold upQ
  by_cases e : i = c
  · rw [if_pos e, e]
  · rw [if_neg e, if_neg e]
end CLASS
