/-! the law's rings: corners by codes 10 r + k -/
theorem div_iZ {a b : Int} (h1 : 0 ≤ a) (h2 : a < 2147483648) (h3 : 1 ≤ b) (h4 : b < 2147483648) : iZ a / iZ b = iZ (a / b) := by
  rw [← Int.tdiv_eq_ediv_of_nonneg h1]
  exact (Int32.ofInt_tdiv (by show (-2147483648 : Int) ≤ _; omega) (by show _ ≤ (2147483647 : Int); omega) (by show (-2147483648 : Int) ≤ _; omega) (by show _ ≤ (2147483647 : Int); omega)).symm
def th (M : Nat → Nat) (n c : Nat) : Prop := c / 10 < n ∧ c % 10 < M (c / 10)
def gq (M : Nat → Nat) (c : Nat) : Nat := gm_fst M (c / 10) + c % 10
def nc (M : Nat → Nat) (c : Nat) : Nat := 10 * (c / 10) + gm_nx (M (c / 10)) (c % 10)
def pc_ (M : Nat → Nat) (c : Nat) : Nat := 10 * (c / 10) + gm_pv (M (c / 10)) (c % 10)
def RQ (f x y : Nat → Int32) (M : Nat → Nat) (n : Nat) (Q : Nat → Pt) : Prop := f 0 = iZ n ∧ (1 ≤ n ∧ n ≤ 4) ∧ (∀ r, r < n → 3 ≤ M r ∧ M r ≤ 10 ∧ f (1 + r) = iZ (M r : Nat)) ∧ ∀ c, c < 40 → th M n c → x c = iZ (Q (gq M c)).1 ∧ y c = iZ (Q (gq M c)).2
section CODES
variable {M : Nat → Nat} {n : Nat} {Q : Nat → Pt}
theorem th_40 {c : Nat} (h4 : n ≤ 4) (t : th M n c) : c < 40 := by
  have := t.1
  omega
theorem gq_lt {c : Nat} (t : th M n c) : gq M c < gm_fst M n := gm_fst_lt t.1 t.2
theorem th_mk {r k : Nat} (h10 : ∀ r, r < n → M r ≤ 10) (hr : r < n) (hk : k < M r) : th M n (10 * r + k) ∧ (10 * r + k) / 10 = r ∧ (10 * r + k) % 10 = k := by
  have := h10 r hr
  have e1 : (10 * r + k) / 10 = r := by omega
  have e2 : (10 * r + k) % 10 = k := by omega
  refine ⟨?_, e1, e2⟩
  unfold th
  rw [e1, e2]
  exact ⟨hr, hk⟩
theorem gq_mk {r k : Nat} (h10 : ∀ r, r < n → M r ≤ 10) (hr : r < n) (hk : k < M r) : gq M (10 * r + k) = gm_fst M r + k := by
  obtain ⟨_, e1, e2⟩ := th_mk h10 hr hk
  unfold gq
  rw [e1, e2]
theorem gq_on {q : Nat} (h10 : ∀ r, r < n → M r ≤ 10) (h : q < gm_fst M n) : ∃ c, th M n c ∧ gq M c = q := by
  obtain ⟨r, k, hr, hk, rfl⟩ := gm_flat h
  exact ⟨10 * r + k, (th_mk h10 hr hk).1, gq_mk h10 hr hk⟩
theorem gq_inj {c d : Nat} (t1 : th M n c) (t2 : th M n d) (h : gq M c = gq M d) : c = d := by
  have := gm_flat_inj t1.1 t1.2 t2.1 t2.2 h
  omega
theorem gq_mono {c d : Nat} (t1 : th M n c) (t2 : th M n d) (h : c < d) : gq M c < gq M d := by
  by_cases e : c / 10 = d / 10
  · unfold gq
    rw [e]
    omega
  · have h1 : c / 10 < d / 10 := by omega
    have h2 := gm_fst_lt (n := d / 10) h1 t1.2
    unfold gq
    omega
theorem gq_lt_iff {c d : Nat} (t1 : th M n c) (t2 : th M n d) : gq M c < gq M d ↔ c < d := by
  constructor
  · intro h
    rcases Nat.lt_trichotomy c d with g | g | g
    · exact g
    · subst g; omega
    · have := gq_mono t2 t1 g
      omega
  · exact gq_mono t1 t2
theorem nc_th {c : Nat} (h10 : ∀ r, r < n → M r ≤ 10) (t : th M n c) : th M n (nc M c) ∧ gq M (nc M c) = gm_nf M n (gq M c) ∧ nc M c / 10 = c / 10 := by
  have h := gm_nx_lt t.2
  refine ⟨(th_mk h10 t.1 h).1, ?_, (th_mk h10 t.1 h).2.1⟩
  unfold nc
  rw [gq_mk h10 t.1 h]
  unfold gq
  rw [gm_nf_eq t.1 t.2]
theorem gm_pv_lt' {m k : Nat} (h : k < m) : gm_pv m k < m := by
  unfold gm_pv
  split <;> omega
theorem pc_th {c : Nat} (h10 : ∀ r, r < n → M r ≤ 10) (t : th M n c) : th M n (pc_ M c) ∧ gq M (pc_ M c) = gm_fst M (c / 10) + gm_pv (M (c / 10)) (c % 10) ∧ pc_ M c / 10 = c / 10 := by
  have h := gm_pv_lt' t.2
  refine ⟨(th_mk h10 t.1 h).1, ?_, (th_mk h10 t.1 h).2.1⟩
  unfold pc_
  exact gq_mk h10 t.1 h
theorem rd_0 {k : Nat} {f : Nat → Int32} (h : 0 < k) (hk : k < 100000) : rd k f 0 = some (f 0) := by
  rw [iZ_0]
  exact rd_iZ (k := 0) h hk
variable {f x y : Nat → Int32}
theorem RQ.h10 (h : RQ f x y M n Q) : ∀ r, r < n → M r ≤ 10 := fun r hr => (h.2.2.1 r hr).2.1
theorem L_rd (h : RQ f x y M n Q) {c : Nat} (t : th M n c) : rd 5 f (1 + iZ (c : Int) / 10) = some (iZ (M (c / 10) : Nat)) := by
  have hc := th_40 h.2.1.2 t
  obtain ⟨m3, m10, em⟩ := h.2.2.1 _ t.1
  have e1 : (1 : Int) + (c : Int) / 10 = ((1 + c / 10 : Nat) : Int) := by omega
  rw [iZ_1, iZ_10, div_iZ (by omega) (by omega) (by omega) (by omega), iZ_add, e1, rd_iZ (by omega) (by omega), em]
theorem c_mod {c : Nat} (hc : c < 40) : iZ (c : Int) - iZ (c : Int) / 10 * 10 = iZ ((c % 10 : Nat) : Int) := by
  rw [iZ_10, div_iZ (by omega) (by omega) (by omega) (by omega), iZ_mul, iZ_sub]
  exact congrArg iZ (by omega)
theorem c_div {c : Nat} (hc : c < 40) : iZ (c : Int) / 10 = iZ ((c / 10 : Nat) : Int) := by
  rw [iZ_10, div_iZ (by omega) (by omega) (by omega) (by omega)]
  exact congrArg iZ (by omega)
theorem L_next (h : RQ f x y M n Q) {c : Nat} (t : th M n c) : G_L_next 5 f (iZ (c : Int)) = some (iZ (nc M c : Nat)) := by
  have hc := th_40 h.2.1.2 t
  have m10 := h.h10 _ t.1
  unfold G_L_next
  rw [L_rd h t, Option.bind_some, c_mod hc, iZ_1, iZ_add, ite_eq (by omega), iZ_sub, iZ_add]
  unfold nc gm_nx
  by_cases q : c % 10 + 1 = M (c / 10)
  · rw [if_pos (show ((c % 10 : Nat) : Int) + 1 = ((M (c / 10) : Nat) : Int) by omega), if_pos q]
    exact congrArg (fun z => some (iZ z)) (by omega)
  · rw [if_neg (show ¬ ((c % 10 : Nat) : Int) + 1 = ((M (c / 10) : Nat) : Int) by omega), if_neg q]
    exact congrArg (fun z => some (iZ z)) (by omega)
theorem L_before (h : RQ f x y M n Q) {c : Nat} (t : th M n c) : G_L_before 5 f (iZ (c : Int)) = some (iZ (pc_ M c : Nat)) := by
  have hc := th_40 h.2.1.2 t
  have hk := t.2
  have m10 := h.h10 _ t.1
  unfold G_L_before
  rw [L_rd h t, Option.bind_some, c_mod hc, iZ_0, ite_eq (by omega), iZ_1, iZ_add, iZ_sub, iZ_sub]
  unfold pc_ gm_pv
  by_cases q : c % 10 = 0
  · rw [if_pos (show ((c % 10 : Nat) : Int) = 0 by omega), if_pos q]
    exact congrArg (fun z => some (iZ z)) (by omega)
  · rw [if_neg (show ¬ ((c % 10 : Nat) : Int) = 0 by omega), if_neg q]
    exact congrArg (fun z => some (iZ z)) (by omega)
theorem L_there (h : RQ f x y M n Q) {c : Nat} (hc : c < 40) : (th M n c ∧ G_L_there 5 f (iZ (c : Int)) = some 1) ∨ (¬ th M n c ∧ G_L_there 5 f (iZ (c : Int)) = some 0) := by
  have h4 := h.2.1.2
  unfold G_L_there
  rw [rd_0 (by omega) (by omega), h.1, Option.bind_some]
  by_cases a : c / 10 < n
  · have m10 := h.h10 _ a
    obtain ⟨m3, m10, em⟩ := h.2.2.1 _ a
    have e1 : (1 : Int) + (c : Int) / 10 = ((1 + c / 10 : Nat) : Int) := by omega
    have er : rd 5 f (1 + iZ (c : Int) / 10) = some (iZ (M (c / 10) : Nat)) := by
      rw [iZ_1, iZ_10, div_iZ (by omega) (by omega) (by omega) (by omega), iZ_add, e1, rd_iZ (by omega) (by omega), em]
    rw [er, c_mod hc, c_div hc, ite_le (by omega), if_neg (show ¬ (n : Int) ≤ ((c / 10 : Nat) : Int) by omega), Option.bind_some, ite_le (by omega)]
    by_cases b : c % 10 < M (c / 10)
    · rw [if_neg (show ¬ ((M (c / 10) : Nat) : Int) ≤ ((c % 10 : Nat) : Int) by omega)]
      exact Or.inl ⟨⟨a, b⟩, rfl⟩
    · rw [if_pos (show ((M (c / 10) : Nat) : Int) ≤ ((c % 10 : Nat) : Int) by omega)]
      exact Or.inr ⟨fun t => b t.2, rfl⟩
  · rw [c_div hc, ite_le (by omega), if_pos (show (n : Int) ≤ ((c / 10 : Nat) : Int) by omega)]
    exact Or.inr ⟨fun t => a t.1, rfl⟩
theorem L_x (h : RQ f x y M n Q) {c : Nat} (t : th M n c) : rd 40 x (iZ (c : Int)) = some (iZ (Q (gq M c)).1) := by
  have hc := th_40 h.2.1.2 t
  rw [rd_iZ hc (by omega), (h.2.2.2 c hc t).1]
theorem L_y (h : RQ f x y M n Q) {c : Nat} (t : th M n c) : rd 40 y (iZ (c : Int)) = some (iZ (Q (gq M c)).2) := by
  have hc := th_40 h.2.1.2 t
  rw [rd_iZ hc (by omega), (h.2.2.2 c hc t).2]
theorem L_cross (a b c d : Int) : G_L_cross (iZ a) (iZ b) (iZ c) (iZ d) = some (iZ (a * d - b * c)) := by
  unfold G_L_cross
  rw [iZ_mul, iZ_mul, iZ_sub]
theorem L_cmS {T B U : Int} (hT : -1000 ≤ T ∧ T ≤ 1000) (hB : -1000 ≤ B ∧ B ≤ 1000) (hU : -1000 ≤ U ∧ U ≤ 1000) :
    (if iZ T < 0 then some 0 else if iZ B < iZ T then some 0 else if iZ U < 0 then some 0 else if iZ U ≤ iZ B then (if iZ T ≤ 0 then some 2 else if iZ B ≤ iZ T then some 2 else if iZ U ≤ 0 then some 2 else if iZ B ≤ iZ U then some 2 else some 1) else some (0 : Int32)) = some (iZ (gm_cmS T B U)) := by
  rw [iZ_0, ite_lt (by omega), ite_lt (by omega), ite_lt (by omega), ite_le (by omega), ite_le (by omega), ite_le (by omega), ite_le (by omega), ite_le (by omega)]
  unfold gm_cmS
  simp only [apply_ite iZ, apply_ite some]
  rfl
theorem gm_dt_450 {a b p : Pt} (ha : gm_paper a) (hb : gm_paper b) (hp : gm_paper p) : -450 ≤ gm_dt a b p ∧ gm_dt a b p ≤ 450 := by
  unfold gm_paper at ha hb hp
  have k1 := gm_bdm (x := b.1 - a.1) (y := p.1 - a.1) (B := 15) (C := 15) (by omega) (by omega)
  have k2 := gm_bdm (x := b.2 - a.2) (y := p.2 - a.2) (B := 15) (C := 15) (by omega) (by omega)
  unfold gm_dt
  omega
theorem gm_kk_450 {a b p q : Pt} (ha : gm_paper a) (hb : gm_paper b) (hp : gm_paper p) (hq : gm_paper q) : (-450 ≤ gm_kB a b p q ∧ gm_kB a b p q ≤ 450) ∧ (-450 ≤ gm_kT a p q ∧ gm_kT a p q ≤ 450) ∧ (-450 ≤ gm_kU a b p ∧ gm_kU a b p ≤ 450) := by
  unfold gm_paper at ha hb hp hq
  have k1 := gm_bdm (x := b.1 - a.1) (y := q.2 - p.2) (B := 15) (C := 15) (by omega) (by omega)
  have k2 := gm_bdm (x := b.2 - a.2) (y := q.1 - p.1) (B := 15) (C := 15) (by omega) (by omega)
  have k3 := gm_bdm (x := p.1 - a.1) (y := q.2 - p.2) (B := 15) (C := 15) (by omega) (by omega)
  have k4 := gm_bdm (x := p.2 - a.2) (y := q.1 - p.1) (B := 15) (C := 15) (by omega) (by omega)
  have k5 := gm_bdm (x := p.1 - a.1) (y := b.2 - a.2) (B := 15) (C := 15) (by omega) (by omega)
  have k6 := gm_bdm (x := p.2 - a.2) (y := b.1 - a.1) (B := 15) (C := 15) (by omega) (by omega)
  unfold gm_kB gm_kT gm_kU
  omega
theorem L_cmI {lo hi : Int} (hl : -1000 ≤ lo ∧ lo ≤ 1000) (hh : -1000 ≤ hi ∧ hi ≤ 1000) : (if iZ lo ≤ iZ hi then (if iZ lo = iZ hi then some 2 else some 3) else some (0 : Int32)) = some (iZ (gm_cmI lo hi)) := by
  rw [ite_le (by omega), ite_eq (by omega)]
  unfold gm_cmI
  simp only [apply_ite iZ, apply_ite some]
  rfl
theorem L_common {a b p q : Pt} (ha : gm_paper a) (hb : gm_paper b) (hp : gm_paper p) (hq : gm_paper q) :
    G_L_common (iZ a.1) (iZ a.2) (iZ b.1 - iZ a.1) (iZ b.2 - iZ a.2) (iZ p.1) (iZ p.2) (iZ q.1 - iZ p.1) (iZ q.2 - iZ p.2) = some (iZ (gm_cm a b p q)) := by
  obtain ⟨bB, bT, bU⟩ := gm_kk_450 ha hb hp hq
  have bs := gm_dt_450 ha hb hp
  have bt := gm_dt_450 ha hb hq
  have bq := gm_dt_450 ha hb hb
  have eB : (b.1 - a.1) * (q.2 - p.2) - (b.2 - a.2) * (q.1 - p.1) = gm_kB a b p q := rfl
  have eT : (p.1 - a.1) * (q.2 - p.2) - (p.2 - a.2) * (q.1 - p.1) = gm_kT a p q := rfl
  have eU : (p.1 - a.1) * (b.2 - a.2) - (p.2 - a.2) * (b.1 - a.1) = gm_kU a b p := rfl
  have es : (p.1 - a.1) * (b.1 - a.1) + (p.2 - a.2) * (b.2 - a.2) = gm_dt a b p := by unfold gm_dt; grind
  have et : (p.1 + (q.1 - p.1) - a.1) * (b.1 - a.1) + (p.2 + (q.2 - p.2) - a.2) * (b.2 - a.2) = gm_dt a b q := by unfold gm_dt; grind
  have eq : (b.1 - a.1) * (b.1 - a.1) + (b.2 - a.2) * (b.2 - a.2) = gm_dt a b b := rfl
  unfold G_L_common
  simp only [iZ_sub, L_cross, Option.bind_some, iZ_add, iZ_mul]
  rw [eB, eT, eU, es, et, eq]
  unfold gm_cm
  by_cases hB : gm_kB a b p q = 0
  · rw [if_pos hB, hB, if_pos (show iZ 0 = 0 from rfl)]
    by_cases hU : gm_kU a b p = 0
    · rw [if_pos hU, hU, if_pos (show iZ 0 = 0 from rfl)]
      unfold gm_cmP
      rw [ind_le (by omega), Option.bind_some, ind_le (by omega), Option.bind_some]
      obtain ⟨u, eu, bu⟩ : ∃ u, u = (if gm_dt a b q ≤ gm_dt a b p then gm_dt a b q else gm_dt a b p) ∧ (-450 ≤ u ∧ u ≤ 450) := ⟨_, rfl, by split <;> omega⟩
      obtain ⟨v, ev, bv⟩ : ∃ v, v = (if gm_dt a b q ≤ gm_dt a b p then gm_dt a b p else gm_dt a b q) ∧ (-450 ≤ v ∧ v ≤ 450) := ⟨_, rfl, by split <;> omega⟩
      rw [← eu, ← ev, iZ_0, ind_le (by omega), Option.bind_some, ind_le (by omega), Option.bind_some]
      obtain ⟨u2, eu2, bu2⟩ : ∃ u2, u2 = (if 0 ≤ u then u else 0) ∧ (-450 ≤ u2 ∧ u2 ≤ 450) := ⟨_, rfl, by split <;> omega⟩
      obtain ⟨v2, ev2, bv2⟩ : ∃ v2, v2 = (if v ≤ gm_dt a b b then v else gm_dt a b b) ∧ (-450 ≤ v2 ∧ v2 ≤ 450) := ⟨_, rfl, by split <;> omega⟩
      rw [← eu2, ← ev2]
      exact L_cmI (by omega) (by omega)
    · rw [if_neg hU, if_neg (show ¬ iZ (gm_kU a b p) = 0 by rw [iZ_0, iZ_eq (by omega) (by omega) (by omega) (by omega)]; exact hU)]
      rfl
  · rw [if_neg hB, if_neg (show ¬ iZ (gm_kB a b p q) = 0 by rw [iZ_0, iZ_eq (by omega) (by omega) (by omega) (by omega)]; exact hB)]
    by_cases hp : 0 ≤ gm_kB a b p q
    · rw [if_pos hp, if_pos (show (0 : Int32) ≤ iZ (gm_kB a b p q) by rw [iZ_0, iZ_le (by omega) (by omega) (by omega) (by omega)]; exact hp), Option.bind_some]
      simp only [iZ_1, iZ_mul, Int.mul_one]
      exact L_cmS (by omega) (by omega) (by omega)
    · rw [if_neg hp, if_neg (show ¬ (0 : Int32) ≤ iZ (gm_kB a b p q) by rw [iZ_0, iZ_le (by omega) (by omega) (by omega) (by omega)]; exact hp), Option.bind_some, show (-1 : Int32) = iZ (-1) from rfl]
      simp only [iZ_mul, Int.mul_neg, Int.mul_one]
      exact L_cmS (by omega) (by omega) (by omega)
theorem L_sides (h : RQ f x y M n Q) (r1 : gm_R1 M n Q) {c d : Nat} (t1 : th M n c) (t2 : th M n d) : G_L_sides 5 40 40 f x y (iZ (c : Int)) (iZ (d : Int)) = some (iZ (gm_cm (Q (gq M c)) (Q (gm_nf M n (gq M c))) (Q (gq M d)) (Q (gm_nf M n (gq M d))))) := by
  obtain ⟨u1, u2, _⟩ := nc_th h.h10 t1
  obtain ⟨v1, v2, _⟩ := nc_th h.h10 t2
  unfold G_L_sides
  rw [L_next h t1, Option.bind_some, L_next h t2, Option.bind_some, L_x h t1, Option.bind_some, L_y h t1, Option.bind_some, L_x h u1, Option.bind_some, Option.bind_some, L_y h u1, Option.bind_some, Option.bind_some, L_x h t2, Option.bind_some, L_y h t2, Option.bind_some, L_x h v1, Option.bind_some, Option.bind_some, L_y h v1, Option.bind_some, Option.bind_some, u2, v2,
    L_common (r1 _ (gq_lt t1)) (r1 _ (gm_nf_lt (gq_lt t1))) (r1 _ (gq_lt t2)) (r1 _ (gm_nf_lt (gq_lt t2))), Option.bind_some]
end CODES
