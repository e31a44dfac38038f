/-! the law's rings under its own changes -/
theorem mask31 (x : Int32) : ∃ m : Nat, m < 2147483648 ∧ x &&& 2147483647 = iZ (m : Int) := by
  refine ⟨x.toBitVec.toNat % 2 ^ 31, Nat.mod_lt _ (by decide), ?_⟩
  rw [show iZ ((x.toBitVec.toNat % 2 ^ 31 : Nat) : Int) = Int32.ofNat (x.toBitVec.toNat % 2 ^ 31) from Int32.ofInt_eq_ofNat]
  refine Int32.toBitVec_inj.mp (BitVec.eq_of_toNat_eq ?_)
  show (x.toBitVec &&& 2147483647#32).toNat = (BitVec.ofNat 32 (x.toBitVec.toNat % 2 ^ 31)).toNat
  rw [BitVec.toNat_and, show (2147483647#32).toNat = 2 ^ 31 - 1 from by decide, Nat.and_two_pow_sub_one_eq_mod, BitVec.toNat_ofNat]
  omega
theorem rmI_pos {a b : Nat} (ha : a < 2147483648) (hb : 1 ≤ b ∧ b < 1000) : rmI (iZ (a : Int)) (iZ (b : Int)) = some (iZ ((a % b : Nat) : Int)) := by
  unfold rmI
  rw [if_neg (show ¬ iZ (b : Int) = 0 by rw [show (0 : Int32) = iZ 0 from rfl, iZ_eq (by omega) (by omega) (by omega) (by omega)]; omega), div_iZ (by omega) (by omega) (by omega) (by omega), iZ_mul, iZ_sub]
  have e : (a : Int) - (a : Int) / (b : Int) * (b : Int) = ((a % b : Nat) : Int) := by
    have := Int.emod_def (a : Int) (b : Int)
    rw [Int.mul_comm] at this
    rw [← this]
    exact (Int.natCast_emod a b).symm
  rw [e]
theorem L_low (p : Int32) {m : Nat} (hm : 1 ≤ m ∧ m < 1000) : ∃ z : Nat, z < m ∧ G_L_low p (iZ (m : Int)) = some (iZ (z : Int)) := by
  obtain ⟨t, ht, e⟩ := mask31 p
  refine ⟨t % m, Nat.mod_lt _ (by omega), ?_⟩
  unfold G_L_low
  rw [e, rmI_pos ht hm, Option.bind_some]
theorem L_cellT {L : Nat} (xs : Nat → Int32) (hL : L ≤ 260) {i : Nat} (hi : i < 12) : ∃ w, G_L_cell L xs (iZ (i : Int)) = some w := by
  unfold G_L_cell
  have e1 : Int32.ofNat L = iZ (L : Int) := Int32.ofInt_eq_ofNat.symm
  rw [e1, ite_le (by omega)]
  by_cases c : (L : Int) ≤ (i : Int)
  · rw [if_pos c]
    exact ⟨_, rfl⟩
  · rw [if_neg c, rd_iZ (by omega) (by omega)]
    exact ⟨_, rfl⟩
theorem L_copyT (f x y g u v : Nat → Int32) : ∃ g' u' v', G_L_copy 5 40 40 5 40 40 f x y g u v = some (g', u', v') ∧ (∀ i, i < 5 → g' i = f i) ∧ ∀ i, i < 40 → u' i = x i ∧ v' i = y i := by
  obtain ⟨s1, h1, e1⟩ := lp_inv (S := (Nat → Int32)) (L := fun k s z => G_L_copy_L3 5 40 40 5 40 40 f x y k s u v z) (N := 5) (I := fun c s => ∀ i, i < c → s i = f i) (K := fun s => G_L_copy_L26 5 40 40 5 40 40 f x y FU s u v 0)
    (fun k c s hc hI => by
      refine ⟨upd s c (f c), fun i hi => ?_, ?_⟩
      · by_cases e : i = c
        · rw [e, upd_same]
        · rw [upd_ne e]; exact hI i (by omega)
      · show G_L_copy_L3 5 40 40 5 40 40 f x y (k + 1) s u v (iZ (c : Int)) = _
        rw [G_L_copy_L3, iZ_5, ite_le (by omega), if_neg (show ¬ (5 : Int) ≤ (c : Int) by omega), rd_iZ hc (by omega), Option.bind_some, wr_iZ hc (by omega), Option.bind_some, iZ_1, iZ_add])
    (fun k s hI => by
      show G_L_copy_L3 5 40 40 5 40 40 f x y (k + 1) s u v (iZ ((5 : Nat) : Int)) = _
      rw [G_L_copy_L3, iZ_5, ite_le (by omega), if_pos (by omega)])
    5 0 FU g (by omega) (by unfold FU; omega) (fun i hi => absurd hi (by omega))
  obtain ⟨s2, h2, e2⟩ := lp_inv (S := (Nat → Int32) × (Nat → Int32)) (L := fun k s z => G_L_copy_L26 5 40 40 5 40 40 f x y k s1 s.1 s.2 z) (N := 40) (I := fun c s => ∀ i, i < c → s.1 i = x i ∧ s.2 i = y i) (K := fun s => some (s1, s.1, s.2))
    (fun k c s hc hI => by
      refine ⟨(upd s.1 c (x c), upd s.2 c (y c)), fun i hi => ?_, ?_⟩
      · by_cases e : i = c
        · rw [e]
          exact ⟨upd_same _ _ _, upd_same _ _ _⟩
        · exact ⟨(upd_ne e).trans (hI i (by omega)).1, (upd_ne e).trans (hI i (by omega)).2⟩
      · show G_L_copy_L26 5 40 40 5 40 40 f x y (k + 1) s1 s.1 s.2 (iZ (c : Int)) = _
        rw [G_L_copy_L26, iZ_40, ite_le (by omega), if_neg (show ¬ (40 : Int) ≤ (c : Int) by omega), rd_iZ hc (by omega), Option.bind_some, wr_iZ hc (by omega), Option.bind_some, rd_iZ hc (by omega), Option.bind_some, wr_iZ hc (by omega), Option.bind_some, iZ_1, iZ_add])
    (fun k s hI => by
      show G_L_copy_L26 5 40 40 5 40 40 f x y (k + 1) s1 s.1 s.2 (iZ ((40 : Nat) : Int)) = _
      rw [G_L_copy_L26, iZ_40, ite_le (by omega), if_pos (by omega)])
    40 0 FU (u, v) (by omega) (by unfold FU; omega) (fun i hi => absurd hi (by omega))
  exact ⟨s1, s2.1, s2.2, Eq.trans e1 e2, h1, h2⟩
section ARR
variable {M : Nat → Nat} {n : Nat} {Q : Nat → Pt} {f x y : Nat → Int32}
theorem RQ.ab (h : RQ f x y M n Q) {a b : Nat} (ha : a < n) (hb : b < M a) : x (10 * a + b) = iZ (Q (gm_fst M a + b)).1 ∧ y (10 * a + b) = iZ (Q (gm_fst M a + b)).2 := by
  have t := (th_mk h.h10 ha hb).1
  have e := h.2.2.2 _ (th_40 h.2.1.2 t) t
  rw [gq_mk h.h10 ha hb] at e
  exact e
theorem RQ.of_ab (h0 : f 0 = iZ n) (h1 : 1 ≤ n ∧ n ≤ 4) (h2 : ∀ r, r < n → 3 ≤ M r ∧ M r ≤ 10 ∧ f (1 + r) = iZ (M r : Nat)) (h3 : ∀ a b, a < n → b < M a → x (10 * a + b) = iZ (Q (gm_fst M a + b)).1 ∧ y (10 * a + b) = iZ (Q (gm_fst M a + b)).2) : RQ f x y M n Q := by
  refine ⟨h0, h1, h2, fun c _ t => ?_⟩
  have e := h3 (c / 10) (c % 10) t.1 t.2
  rw [show 10 * (c / 10) + c % 10 = c by omega] at e
  exact e
theorem RQ.copy (h : RQ f x y M n Q) {g u v : Nat → Int32} (hg : ∀ i, i < 5 → g i = f i) (hu : ∀ i, i < 40 → u i = x i ∧ v i = y i) : RQ g u v M n Q := by
  obtain ⟨a1, a2, a3, a4⟩ := h
  refine ⟨(hg 0 (by omega)).trans a1, a2, fun r hr => ⟨(a3 r hr).1, (a3 r hr).2.1, (hg (1 + r) (by omega)).trans (a3 r hr).2.2⟩, fun c hc t => ?_⟩
  exact ⟨(hu c hc).1.trans (a4 c hc t).1, (hu c hc).2.trans (a4 c hc t).2⟩
theorem RQ.place (h : RQ f x y M n Q) {r k : Nat} (hr : r < n) (hk : k < M r) (px py : Int) : RQ f (upd x (10 * r + k) (iZ px)) (upd y (10 * r + k) (iZ py)) M n (upQ Q (gm_fst M r + k) (px, py)) := by
  refine ⟨h.1, h.2.1, h.2.2.1, fun c hc t => ?_⟩
  have tk := (th_mk h.h10 hr hk).1
  have ek := gq_mk h.h10 hr hk
  unfold upQ
  by_cases e : c = 10 * r + k
  · rw [e, upd_same, upd_same, ek, if_pos rfl]
    exact ⟨rfl, rfl⟩
  · rw [upd_ne e, upd_ne e, if_neg (fun q => e (gq_inj t tk (q.trans ek.symm)))]
    exact h.2.2.2 c hc t
theorem RQ.insert (h : RQ f x y M n Q) {r k : Nat} (hr : r < n) (hk : k < M r) (h9 : M r < 10) {u v : Nat → Int32} (hu : ∀ j, j < 40 → u j = (if 10 * r + k + 1 < j ∧ j ≤ 10 * r + M r then x (j - 1) else x j) ∧ v j = (if 10 * r + k + 1 < j ∧ j ≤ 10 * r + M r then y (j - 1) else y j)) (px py : Int) :
    RQ (upd f (1 + r) (iZ ((M r : Nat) + 1))) (upd u (10 * r + k + 1) (iZ px)) (upd v (10 * r + k + 1) (iZ py)) (gm_iM M r) n (gm_iQ Q (gm_fst M r + (k + 1)) (px, py)) := by
  have h4 := h.2.1
  refine RQ.of_ab ((upd_ne (by omega)).trans h.1) h4 (fun a ha => ?_) (fun a b ha hb => ?_)
  · have m := h.2.2.1 a ha
    unfold gm_iM
    by_cases e : a = r
    · subst e
      rw [if_pos rfl, upd_same]
      exact ⟨by omega, by omega, congrArg iZ (by omega)⟩
    · rw [if_neg e, upd_ne (by omega)]
      exact m
  · rw [gm_iM_fst]
    unfold gm_iM at hb
    have m10 := h.h10 a ha
    rcases Nat.lt_trichotomy a r with c | c | c
    · rw [if_neg (by omega)] at hb
      have lt := gm_fst_lt c hb
      have e40 : 10 * a + b < 40 := by omega
      have uu := hu _ e40
      rw [if_neg (by omega), if_neg (by omega)] at uu
      unfold gm_iQ
      rw [if_neg (show ¬ r < a by omega), Nat.add_zero, if_pos (by omega), upd_ne (by omega), upd_ne (by omega), uu.1, uu.2]
      exact h.ab ha hb
    · subst c
      rw [if_pos rfl] at hb
      have e40 : 10 * a + b < 40 := by omega
      have uu := hu _ e40
      unfold gm_iQ
      rw [if_neg (show ¬ a < a by omega), Nat.add_zero (gm_fst M a)]
      rcases Nat.lt_trichotomy b (k + 1) with c2 | c2 | c2
      · rw [if_neg (by omega), if_neg (by omega)] at uu
        rw [if_pos (by omega), upd_ne (by omega), upd_ne (by omega), uu.1, uu.2]
        exact h.ab ha (by omega)
      · subst c2
        rw [if_neg (by omega), if_pos rfl, ← Nat.add_assoc, upd_same, upd_same]
        exact ⟨rfl, rfl⟩
      · rw [if_pos (by omega), if_pos (by omega)] at uu
        rw [if_neg (by omega), if_neg (by omega), upd_ne (by omega), upd_ne (by omega), uu.1, uu.2, show 10 * a + b - 1 = 10 * a + (b - 1) by omega, show gm_fst M a + b - 1 = gm_fst M a + (b - 1) by omega]
        exact h.ab ha (by omega)
    · rw [if_neg (by omega)] at hb
      have le : gm_fst M (r + 1) ≤ gm_fst M a := gm_fst_le (by omega)
      have le : gm_fst M r + M r ≤ gm_fst M a := le
      have e40 : 10 * a + b < 40 := by omega
      have uu := hu _ e40
      rw [if_neg (by omega), if_neg (by omega)] at uu
      unfold gm_iQ
      rw [if_pos c, if_neg (by omega), if_neg (by omega), upd_ne (by omega), upd_ne (by omega), uu.1, uu.2, show gm_fst M a + 1 + b - 1 = gm_fst M a + b by omega]
      exact h.ab ha hb
theorem RQ.remove (h : RQ f x y M n Q) {r k : Nat} (hr : r < n) (hk : k < M r) (h3 : 3 < M r) {u v : Nat → Int32} (hu : ∀ j, j < 40 → u j = (if 10 * r + k ≤ j ∧ j < 10 * r + M r - 1 then x (j + 1) else x j) ∧ v j = (if 10 * r + k ≤ j ∧ j < 10 * r + M r - 1 then y (j + 1) else y j)) :
    RQ (upd f (1 + r) (iZ ((M r : Nat) - 1))) u v (gm_tM M r) n (gm_tQ Q (gm_fst M r + k)) := by
  have h4 := h.2.1
  refine RQ.of_ab ((upd_ne (by omega)).trans h.1) h4 (fun a ha => ?_) (fun a b ha hb => ?_)
  · have m := h.2.2.1 a ha
    unfold gm_tM
    by_cases e : a = r
    · subst e
      rw [if_pos rfl, upd_same]
      exact ⟨by omega, by omega, congrArg iZ (by omega)⟩
    · rw [if_neg e, upd_ne (by omega)]
      exact m
  · have fs := gm_tM_fst (M := M) (r := r) (by omega) a
    unfold gm_tM at hb
    have m10 := h.h10 a ha
    have mr := h.h10 r hr
    rcases Nat.lt_trichotomy a r with c | c | c
    · rw [if_neg (by omega)] at hb fs
      have lt := gm_fst_lt c hb
      have uu := hu (10 * a + b) (by omega)
      rw [if_neg (by omega), if_neg (by omega)] at uu
      unfold gm_tQ
      rw [show gm_fst (gm_tM M r) a = gm_fst M a by omega, if_pos (by omega), uu.1, uu.2]
      exact h.ab ha hb
    · subst c
      rw [if_pos rfl] at hb
      rw [if_neg (by omega)] at fs
      have uu := hu (10 * a + b) (by omega)
      unfold gm_tQ
      rw [show gm_fst (gm_tM M a) a = gm_fst M a by omega]
      by_cases c2 : b < k
      · rw [if_neg (by omega), if_neg (by omega)] at uu
        rw [if_pos (by omega), uu.1, uu.2]
        exact h.ab ha (by omega)
      · rw [if_pos (by omega), if_pos (by omega)] at uu
        rw [if_neg (by omega), uu.1, uu.2, Nat.add_assoc, Nat.add_assoc]
        exact h.ab ha (by omega)
    · rw [if_neg (by omega)] at hb
      rw [if_pos c] at fs
      have le : gm_fst M (r + 1) ≤ gm_fst M a := gm_fst_le (by omega)
      have le : gm_fst M r + M r ≤ gm_fst M a := le
      have uu := hu (10 * a + b) (by omega)
      rw [if_neg (by omega), if_neg (by omega)] at uu
      unfold gm_tQ
      rw [if_neg (by omega), uu.1, uu.2, show gm_fst (gm_tM M r) a + b + 1 = gm_fst M a + b by omega]
      exact h.ab ha hb
theorem gm_hM_fst' (a : Nat) : a ≤ n → gm_fst (gm_hM M n) a = gm_fst M a := by
  induction a with
  | zero => intro _; rfl
  | succ a ih =>
    intro ha
    show gm_fst (gm_hM M n) a + gm_hM M n a = gm_fst M a + M a
    rw [ih (by omega)]
    unfold gm_hM
    rw [if_neg (by omega)]
theorem RQ.hole (h : RQ f x y M n Q) (hn : n < 4) (px py : Int) :
    RQ (upd (upd f 0 (iZ ((n : Int) + 1))) (n + 1) (iZ 3)) (upd (upd (upd x (10 * n) (iZ px)) (10 * n + 1) (iZ (px + 1))) (10 * n + 2) (iZ px)) (upd (upd (upd y (10 * n) (iZ py)) (10 * n + 1) (iZ py)) (10 * n + 2) (iZ (py + 1))) (gm_hM M n) (n + 1) (gm_hQ Q (gm_fst M n) px py) := by
  have h4 := h.2.1
  refine RQ.of_ab ?_ (by omega) (fun a ha => ?_) (fun a b ha hb => ?_)
  · rw [upd_ne (by omega), upd_same]
    exact congrArg iZ (by omega)
  · unfold gm_hM
    by_cases e : a = n
    · subst e
      rw [if_pos rfl, Nat.add_comm 1 a, upd_same]
      exact ⟨by omega, by omega, rfl⟩
    · have m := h.2.2.1 a (by omega)
      rw [if_neg e, upd_ne (by omega), upd_ne (by omega)]
      exact m
  · rw [gm_hM_fst' a (by omega)]
    unfold gm_hM at hb
    unfold gm_hQ
    by_cases e : a = n
    · subst e
      rw [if_pos rfl] at hb
      rcases (by omega : b = 0 ∨ b = 1 ∨ b = 2) with rfl | rfl | rfl
      · rw [if_neg (by omega), if_pos (by omega), upd_ne (by omega), upd_ne (by omega), Nat.add_zero, upd_same, upd_ne (by omega), upd_ne (by omega), upd_same]
        exact ⟨rfl, rfl⟩
      · rw [if_neg (by omega), if_neg (by omega), if_pos rfl, upd_ne (by omega), upd_same, upd_ne (by omega), upd_same]
        exact ⟨rfl, rfl⟩
      · rw [if_neg (by omega), if_neg (by omega), if_neg (by omega), upd_same, upd_same]
        exact ⟨rfl, rfl⟩
    · rw [if_neg e] at hb
      have ha' : a < n := by omega
      have m10 := h.h10 a ha'
      have lt := gm_fst_lt ha' hb
      rw [if_pos lt, upd_ne (by omega), upd_ne (by omega), upd_ne (by omega), upd_ne (by omega), upd_ne (by omega), upd_ne (by omega)]
      exact h.ab ha' hb
end ARR
