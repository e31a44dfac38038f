/-! the law's turn -/
abbrev AR : Type := Nat → Int32
abbrev RT : Type := Fig → Fig → PastS → AR → AR → AR → AR → AR → AR → Int32 → Option Int32
theorem upd_if {f : AR} {k j : Nat} {v : Int32} : upd f k v j = if j = k then v else f j := rfl
theorem sh_up {u : AR} {c d j : Nat} : (if c + 1 < j ∧ j ≤ c + 1 + d then (upd u (c + 1 + (d + 1)) (u (c + 1 + d))) (j - 1) else (upd u (c + 1 + (d + 1)) (u (c + 1 + d))) j) = (if c + 1 < j ∧ j ≤ c + 1 + (d + 1) then u (j - 1) else u j) := by
  by_cases a : j = c + 1 + (d + 1)
  · subst a
    rw [if_neg (by omega), upd_same, if_pos (by omega), show c + 1 + (d + 1) - 1 = c + 1 + d by omega]
  · by_cases b : c + 1 < j ∧ j ≤ c + 1 + d
    · rw [if_pos b, upd_ne (by omega), if_pos (by omega)]
    · rw [if_neg b, upd_ne a, if_neg (by omega)]
theorem sh_dn {u : AR} {e d j : Nat} : (if e + 1 ≤ j ∧ j < e + 1 + d then (upd u e (u (e + 1))) (j + 1) else (upd u e (u (e + 1))) j) = (if e ≤ j ∧ j < e + (d + 1) then u (j + 1) else u j) := by
  by_cases a : j = e
  · subst a
    rw [if_neg (by omega), upd_same, if_pos (by omega)]
  · by_cases b : e + 1 ≤ j ∧ j < e + 1 + d
    · rw [if_pos b, upd_ne (by omega), if_pos (by omega)]
    · rw [if_neg b, upd_ne a, if_neg (by omega)]
section STEP
variable {M : Nat → Nat} {n : Nat} {Q : Nat → Pt} {F D : Fig} {P : PastS} {R : RT} {L : Nat} {xs : AR} {w5 w6 w7 w8 : AR}
theorem L_ins {c r k px py : Int32} {w i : Int32} {c0 : Nat} (hc : c = iZ (c0 : Int)) : ∀ (d fu : Nat) (u v : AR), d < fu → c0 + 1 + d < 40 → ∃ u2 v2, G_L_law_L311 R L xs fu F D P w5 w6 w7 w8 u v (iZ ((c0 + 1 + d : Nat) : Int)) 0 c py px k r w i = G_L_law_j355 R L xs F D P w5 w6 w7 w8 u2 v2 0 c py px k r w i ∧
    ∀ j, u2 j = (if c0 + 1 < j ∧ j ≤ c0 + 1 + d then u (j - 1) else u j) ∧ v2 j = (if c0 + 1 < j ∧ j ≤ c0 + 1 + d then v (j - 1) else v j) := by
  subst hc
  have e2 : iZ (c0 : Int) + 1 = iZ ((c0 + 1 : Nat) : Int) := by rw [iZ_1, iZ_add]; exact congrArg iZ (by omega)
  intro d
  induction d with
  | zero =>
    intro fu u v hf h40
    obtain ⟨m, rfl⟩ : ∃ m, fu = m + 1 := ⟨fu - 1, by omega⟩
    refine ⟨u, v, ?_, fun j => ?_⟩
    · rw [G_L_law_L311, e2, ite_le (by omega), if_pos (by omega)]
    · rw [if_neg (by omega), if_neg (by omega)]
      exact ⟨rfl, rfl⟩
  | succ d ih =>
    intro fu u v hf h40
    obtain ⟨m, rfl⟩ : ∃ m, fu = m + 1 := ⟨fu - 1, by omega⟩
    have e0 : iZ ((c0 + 1 + (d + 1) : Nat) : Int) - 1 = iZ ((c0 + 1 + d : Nat) : Int) := by rw [iZ_1, iZ_sub]; exact congrArg iZ (by omega)
    have e1 : iZ ((c0 + 1 + (d + 1) : Nat) : Int) + (-1) = iZ ((c0 + 1 + d : Nat) : Int) := by rw [show (-1 : Int32) = iZ (-1) from rfl, iZ_add]; exact congrArg iZ (by omega)
    obtain ⟨u2, v2, e, q⟩ := ih m (upd u (c0 + 1 + (d + 1)) (u (c0 + 1 + d))) (upd v (c0 + 1 + (d + 1)) (v (c0 + 1 + d))) (by omega) (by omega)
    refine ⟨u2, v2, ?_, fun j => ?_⟩
    · rw [G_L_law_L311, e2, ite_le (by omega), if_neg (by omega), if_pos (show (0 : Int32) = 0 from rfl), e0, rd_iZ (by omega) (by omega), Option.bind_some, wr_iZ (by omega) (by omega), Option.bind_some, rd_iZ (by omega) (by omega), Option.bind_some, wr_iZ (by omega) (by omega), Option.bind_some, e1]
      exact e
    · obtain ⟨q1, q2⟩ := q j
      rw [q1, q2]
      exact ⟨sh_up, sh_up⟩
theorem L_rem {k w i : Int32} {r0 m0 : Nat} (hm : rd 5 w5 (1 + iZ (r0 : Int)) = some (iZ (m0 : Int))) (hN : 10 * r0 + m0 ≤ 40) : ∀ (d fu : Nat) (u v : AR) (e0 : Nat), d < fu → e0 + 1 + d = 10 * r0 + m0 → ∃ u2 v2, G_L_law_L498 R L xs fu F D P w5 w6 w7 w8 u v (iZ (e0 : Int)) 0 k (iZ (r0 : Int)) w i = G_L_law_j552 R L xs F D P w5 w6 w7 w8 u2 v2 0 k (iZ (r0 : Int)) w i ∧
    ∀ j, u2 j = (if e0 ≤ j ∧ j < e0 + d then u (j + 1) else u j) ∧ v2 j = (if e0 ≤ j ∧ j < e0 + d then v (j + 1) else v j) := by
  intro d
  induction d with
  | zero =>
    intro fu u v e0 hf h40
    obtain ⟨m, rfl⟩ : ∃ m, fu = m + 1 := ⟨fu - 1, by omega⟩
    refine ⟨u, v, ?_, fun j => ?_⟩
    · rw [G_L_law_L498, hm, Option.bind_some, iZ_10, iZ_1, iZ_mul, iZ_add, iZ_add, ite_le (by omega), if_pos (by omega)]
    · rw [if_neg (by omega), if_neg (by omega)]
      exact ⟨rfl, rfl⟩
  | succ d ih =>
    intro fu u v e0 hf h40
    obtain ⟨m, rfl⟩ : ∃ m, fu = m + 1 := ⟨fu - 1, by omega⟩
    have e1 : iZ (e0 : Int) + 1 = iZ ((e0 + 1 : Nat) : Int) := by rw [iZ_1, iZ_add]; exact congrArg iZ (by omega)
    have e2 : 10 * iZ (r0 : Int) + iZ (m0 : Int) = iZ ((10 * r0 + m0 : Nat) : Int) := by rw [iZ_10, iZ_mul, iZ_add]; exact congrArg iZ (by omega)
    obtain ⟨u2, v2, e, q⟩ := ih m (upd u e0 (u (e0 + 1))) (upd v e0 (v (e0 + 1))) (e0 + 1) (by omega) (by omega)
    refine ⟨u2, v2, ?_, fun j => ?_⟩
    · rw [G_L_law_L498, hm, Option.bind_some, e1, e2, ite_le (by omega), if_neg (by omega), if_pos (show (0 : Int32) = 0 from rfl), rd_iZ (by omega) (by omega), Option.bind_some, wr_iZ (by omega) (by omega), Option.bind_some, rd_iZ (by omega) (by omega), Option.bind_some, wr_iZ (by omega) (by omega), Option.bind_some]
      exact e
    · obtain ⟨q1, q2⟩ := q j
      rw [q1, q2]
      exact ⟨sh_dn, sh_dn⟩
/-- the turn's end: the class and the rings stand as one, and the next turn begins -/
def NXT (R : RT) (i : Nat) (o : Option Int32) : Prop := ∃ F D P w5 w6 w7 w8 w9 w10 M n Q, IC F P M n Q ∧ RQ w5 w6 w7 M n Q ∧ o = R F D P w5 w6 w7 w8 w9 w10 (iZ ((i : Int) + 1))
theorem L_j805 (ic : IC F P M n Q) (h : RQ w5 w6 w7 M n Q) (w9 w10 : AR) (w : Int32) (i : Nat) : NXT R i (G_L_law_j805 R L xs F D P w5 w6 w7 w8 w9 w10 w (iZ (i : Int))) := by
  refine ⟨F, D, P, w5, w6, w7, w8, w9, w10, M, n, Q, ic, h, ?_⟩
  unfold G_L_law_j805
  obtain ⟨row, hrow, e⟩ := L_low (w >>> ((17 : Int32) &&& 31)) (m := 16) (by omega)
  have e : G_L_low (w >>> ((17 : Int32) &&& 31)) 16 = some (iZ (row : Int)) := e
  rw [e, Option.bind_some, L_same h ic.1 ic.2.1 (row : Int) (by omega), Option.bind_some, if_neg (show ¬ (1 : Int32) = 0 by decide), iZ_1, iZ_add]
theorem fit_i (hok : gm_ok M n Q) {r k : Nat} (hr : r < n) (hk : k < M r) {px py : Int} (b : 0 ≤ px ∧ px ≤ 16 ∧ 0 ≤ py ∧ py ≤ 16) : gm_fit (gm_iM M r) n (gm_iQ Q (gm_fst M r + (k + 1)) (px, py)) := by
  intro c hc
  rw [gm_iM_fst, if_pos hr] at hc
  have fq := gm_fit_of hok.2.2.1
  have hlt := gm_fst_lt hr hk
  unfold gm_iQ
  by_cases c1 : c < gm_fst M r + (k + 1)
  · rw [if_pos c1]
    exact fq c (by omega)
  · rw [if_neg c1]
    by_cases c2 : c = gm_fst M r + (k + 1)
    · rw [if_pos c2]
      dsimp only
      omega
    · rw [if_neg c2]
      exact fq (c - 1) (by omega)
theorem fit_t (hok : gm_ok M n Q) {r k : Nat} (hr : r < n) (hk : k < M r) : gm_fit (gm_tM M r) n (gm_tQ Q (gm_fst M r + k)) := by
  intro c hc
  have e := gm_tM_fst (M := M) (r := r) (by omega) n
  rw [if_pos hr] at e
  have fq := gm_fit_of hok.2.2.1
  unfold gm_tQ
  by_cases c1 : c < gm_fst M r + k
  · rw [if_pos c1]
    exact fq c (by omega)
  · rw [if_neg c1]
    exact fq (c + 1) (by omega)
theorem fit_h (hok : gm_ok M n Q) {px py : Int} (b : 0 ≤ px ∧ px ≤ 16 ∧ 0 ≤ py ∧ py ≤ 16) : gm_fit (gm_hM M n) (n + 1) (gm_hQ Q (gm_fst M n) px py) := by
  intro c hc
  have fq := gm_fit_of hok.2.2.1
  unfold gm_hQ
  by_cases c1 : c < gm_fst M n
  · rw [if_pos c1]
    exact fq c c1
  · rw [if_neg c1]
    split
    · dsimp only; omega
    · split
      · dsimp only; omega
      · dsimp only; omega
theorem iZ_ne0 {z : Int} (b : 0 ≤ z ∧ z ≤ 5) : (iZ z = 0) = (z = 0) := by rw [iZ_0, iZ_eq (by omega) (by omega) (by omega) (by omega)]
theorem area_ne {M' : Nat → Nat} {n' : Nat} {Q' : Nat → Pt} (hok : gm_ok M' n' Q') : ¬ iZ (gm_area M' n' Q') = (-2) := by
  have := gm_area_bd hok
  rw [show (-2 : Int32) = iZ (-2) from rfl, iZ_eq (by omega) (by omega) (by omega) (by omega)]
  omega
/-- moving -/
theorem L_move_turn (ic : IC F P M n Q) (h : RQ w5 w6 w7 M n Q) {g u v : AR} (hc : RQ g u v M n Q) {r k : Nat} (hr : r < n) (hk : k < M r) {px py : Nat} (hx : px < 17) (hy : py < 17) (w : Int32) (i : Nat) :
    NXT R i ((wr 40 u (iZ ((10 * r + k : Nat) : Int)) (iZ (px : Int))).bind fun g179 =>
        (wr 40 v (iZ ((10 * r + k : Nat) : Int)) (iZ (py : Int))).bind fun g186 =>
        (G_L_broken 5 40 40 g g179 g186).bind fun v193 =>
        (G_X8_whyNot F D (iZ (r : Int)) (iZ (k : Int)) (iZ (px : Int)) (iZ (py : Int))).bind fun v207 =>
        match v207.1 with
        | .inl _ => none
        | .inr u207 =>
          if u207 = v193 then
            (G_L_move F v207.2 P (iZ (r : Int)) (iZ (k : Int)) (iZ (px : Int)) (iZ (py : Int))).bind fun v224 =>
            ((if v193 ≤ 0 then
                (G_L_area 5 40 40 g g179 g186).bind fun v243 =>
                some v243
              else
                some (-2)) : Option (Int32)).bind fun b229 =>
            if v224.1 = b229 then
              if v193 = 0 then
                (G_L_copy 5 40 40 5 40 40 g g179 g186 w5 w6 w7).bind fun v266 =>
                G_L_law_j269 R L xs v224.2.1 v224.2.2.1 v224.2.2.2 v266.1 v266.2.1 v266.2.2 g g179 g186 w (iZ (i : Int))
              else
                G_L_law_j269 R L xs v224.2.1 v224.2.2.1 v224.2.2.2 w5 w6 w7 g g179 g186 w (iZ (i : Int))
            else
              some 0
          else
            some 0) := by
  have m10 := h.h10 r hr
  have h4 := h.2.1
  have hok := ic.1
  have h40 : 10 * r + k < 40 := by omega
  have q' := hc.place hr hk (px : Int) (py : Int)
  have fit : gm_fit M n (upQ Q (gm_fst M r + k) ((px : Int), (py : Int))) := gm_fit_up (gm_fit_of hok.2.2.1) (by dsimp only; omega)
  obtain ⟨z, z0, z5, br, eb⟩ := L_broken q' fit
  obtain ⟨z2, D2, br2, ew⟩ := p_whyNot ic.2.1 hok D hr hk (px : Int) (py : Int) (by omega) (by omega)
  obtain rfl := gm_brk_un br2 br
  obtain ⟨z3, br3, em⟩ := p_move ic D2 hr hk (px : Int) (py : Int) (by omega) (by omega)
  obtain rfl := gm_brk_un br3 br
  rw [wr_iZ h40 (by omega), Option.bind_some, wr_iZ h40 (by omega), Option.bind_some, eb, Option.bind_some, ew, Option.bind_some]
  dsimp only
  rw [if_pos (show iZ z3 = iZ z3 from rfl)]
  rcases em with ⟨rfl, F2, D3, P2, e, ic2⟩ | ⟨hz, D3, e⟩
  · obtain ⟨g2, u2, v2, ec, c1, c2⟩ := L_copyT g (upd u (10 * r + k) (iZ (px : Int))) (upd v (10 * r + k) (iZ (py : Int))) w5 w6 w7
    rw [e, Option.bind_some, if_pos (show iZ 0 ≤ 0 by decide), L_area q' ic2.1, Option.bind_some, Option.bind_some]
    dsimp only
    rw [if_pos rfl, if_pos (show iZ 0 = 0 from rfl), ec, Option.bind_some]
    unfold G_L_law_j269
    exact L_j805 ic2 (q'.copy c1 c2) _ _ w i
  · rw [e, Option.bind_some, iZ_0, ite_le (by omega), if_neg (by omega), Option.bind_some]
    dsimp only
    rw [if_pos rfl, ite_eq (by omega), if_neg hz]
    unfold G_L_law_j269
    exact L_j805 ic h _ _ w i
/-- behind the putting in -/
theorem L_j389A (ic : IC F P M n Q) (h : RQ w5 w6 w7 M n Q) {r k : Nat} (hr : r < n) (hk : k < M r) (m10 : M r = 10) {px py : Nat} (hx : px < 17) (hy : py < 17) (w : Int32) (i : Nat) (g u v : AR) :
    NXT R i (G_L_law_j389 R L xs F D P w5 w6 w7 g u v 1 (iZ (py : Int)) (iZ (px : Int)) (iZ (k : Int)) (iZ (r : Int)) w (iZ (i : Int))) := by
  unfold G_L_law_j389
  rcases p_insert ic D hr hk (px : Int) (py : Int) (by omega) (by omega) with ⟨_, D2, e⟩ | ⟨m9, _⟩
  · rw [if_neg (show ¬ (1 : Int32) = 0 by decide), Option.bind_some, e, Option.bind_some, if_pos (show (0 : Int32) = 0 from rfl), Option.bind_some]
    dsimp only
    rw [if_pos rfl, if_pos (show (0 : Int32) = 0 from rfl)]
    unfold G_L_law_j467
    exact L_j805 ic h _ _ w i
  · omega
theorem L_j389B (ic : IC F P M n Q) (h : RQ w5 w6 w7 M n Q) {r k : Nat} (hr : r < n) (hk : k < M r) (m9 : M r < 10) {px py : Nat} (hx : px < 17) (hy : py < 17) (w : Int32) (i : Nat) {g u v : AR} (q' : RQ g u v (gm_iM M r) n (gm_iQ Q (gm_fst M r + (k + 1)) ((px : Int), (py : Int)))) :
    NXT R i (G_L_law_j389 R L xs F D P w5 w6 w7 g u v 0 (iZ (py : Int)) (iZ (px : Int)) (iZ (k : Int)) (iZ (r : Int)) w (iZ (i : Int))) := by
  have hok := ic.1
  unfold G_L_law_j389
  obtain ⟨z, z0, z5, br, eb⟩ := L_broken q' (fit_i hok hr hk (by omega))
  rcases p_insert ic D hr hk (px : Int) (py : Int) (by omega) (by omega) with ⟨m10, _⟩ | ⟨_, z2, br2, em⟩
  · omega
  obtain rfl := gm_brk_un br2 br
  rw [if_pos (show (0 : Int32) = 0 from rfl), eb, Option.bind_some]
  rcases em with ⟨rfl, F2, D3, P2, e, ic2⟩ | ⟨hz, D3, e⟩
  · obtain ⟨g2, u2, v2, ec, c1, c2⟩ := L_copyT g u v w5 w6 w7
    rw [if_pos (show iZ 0 = 0 from rfl), Option.bind_some, e, Option.bind_some, if_neg (show ¬ (1 : Int32) = 0 by decide), L_area q' ic2.1, Option.bind_some, Option.bind_some]
    dsimp only
    rw [if_pos rfl, if_neg (show ¬ (1 : Int32) = 0 by decide), ec, Option.bind_some]
    unfold G_L_law_j467
    exact L_j805 ic2 (q'.copy c1 c2) _ _ w i
  · rw [if_neg (fun q => hz ((iZ_ne0 ⟨z0, z5⟩).mp q)), Option.bind_some, e, Option.bind_some, if_pos (show (0 : Int32) = 0 from rfl), Option.bind_some]
    dsimp only
    rw [if_pos rfl, if_pos (show (0 : Int32) = 0 from rfl)]
    unfold G_L_law_j467
    exact L_j805 ic h _ _ w i
theorem L_ins_turn (ic : IC F P M n Q) (h : RQ w5 w6 w7 M n Q) {g u v : AR} (hc : RQ g u v M n Q) {r k : Nat} (hr : r < n) (hk : k < M r) {px py : Nat} (hx : px < 17) (hy : py < 17) (w : Int32) (i : Nat) :
    NXT R i ((rd 5 w5 (1 + iZ (r : Int))).bind fun v284 =>
          ((if v284 = 10 then
              some 1
            else
              some 0) : Option (Int32)).bind fun b287 =>
          (rd 5 w5 (1 + iZ (r : Int))).bind fun v307 =>
          G_L_law_L311 R L xs FU F D P w5 w6 w7 g u v ((10 * iZ (r : Int)) + v307) b287 (iZ ((10 * r + k : Nat) : Int)) (iZ (py : Int)) (iZ (px : Int)) (iZ (k : Int)) (iZ (r : Int)) w (iZ (i : Int))) := by
  have m10 := h.h10 r hr
  have h4 := h.2.1
  have e2 : iZ 10 * iZ (r : Int) + iZ ((M r : Nat) : Int) = iZ ((10 * r + M r : Nat) : Int) := by rw [iZ_mul, iZ_add]; exact congrArg iZ (by omega)
  have e1 : iZ ((10 * r + k : Nat) : Int) + 1 = iZ ((10 * r + k + 1 : Nat) : Int) := by rw [iZ_1, iZ_add]; exact congrArg iZ (by omega)
  rw [L_m h hr, Option.bind_some, show (10 : Int32) = iZ 10 from rfl, ite_eq (by omega)]
  by_cases c : M r = 10
  · rw [if_pos (show ((M r : Nat) : Int) = 10 by omega), Option.bind_some, Option.bind_some, e2]
    have k1 := L_j389A (R := R) (L := L) (xs := xs) (D := D) ic h hr hk c hx hy w i g u v
    obtain ⟨m, hm⟩ : ∃ m, FU = m + 1 := ⟨999999, rfl⟩
    rw [hm, G_L_law_L311, e1, ite_le (by omega)]
    have e3 : G_L_law_j355 R L xs F D P w5 w6 w7 g u v 1 (iZ ((10 * r + k : Nat) : Int)) (iZ (py : Int)) (iZ (px : Int)) (iZ (k : Int)) (iZ (r : Int)) w (iZ (i : Int)) = G_L_law_j389 R L xs F D P w5 w6 w7 g u v 1 (iZ (py : Int)) (iZ (px : Int)) (iZ (k : Int)) (iZ (r : Int)) w (iZ (i : Int)) := by
      unfold G_L_law_j355
      rw [if_neg (show ¬ (1 : Int32) = 0 by decide)]
    by_cases c2 : ((10 * r + M r : Nat) : Int) ≤ ((10 * r + k + 1 : Nat) : Int)
    · rw [if_pos c2, e3]
      exact k1
    · rw [if_neg c2, if_neg (show ¬ (1 : Int32) = 0 by decide), e3]
      exact k1
  · rw [if_neg (show ¬ ((M r : Nat) : Int) = 10 by omega), Option.bind_some, Option.bind_some, e2]
    obtain ⟨u2, v2, e, q⟩ := L_ins (R := R) (L := L) (xs := xs) (F := F) (D := D) (P := P) (w5 := w5) (w6 := w6) (w7 := w7) (w8 := g) (c := iZ ((10 * r + k : Nat) : Int)) (r := iZ (r : Int)) (k := iZ (k : Int)) (px := iZ (px : Int)) (py := iZ (py : Int)) (w := w) (i := iZ (i : Int)) rfl (M r - k - 1) FU u v (by unfold FU; omega) (by omega)
    rw [show 10 * r + k + 1 + (M r - k - 1) = 10 * r + M r by omega] at e q
    rw [e]
    have q' := hc.insert hr hk (by omega) (fun j _ => q j) (px : Int) (py : Int)
    unfold G_L_law_j355
    rw [if_pos (show (0 : Int32) = 0 from rfl), e1, wr_iZ (by omega) (by omega), Option.bind_some, wr_iZ (by omega) (by omega), Option.bind_some, L_m hc hr, Option.bind_some]
    have e5 : (1 : Int32) + iZ (r : Int) = iZ ((1 + r : Nat) : Int) := by rw [iZ_1, iZ_add]; exact congrArg iZ (by omega)
    rw [e5, wr_iZ (by omega) (by omega), Option.bind_some, iZ_1, iZ_add]
    exact L_j389B ic h hr hk (by omega) hx hy w i q'
/-- taking out -/
theorem L_j552A (ic : IC F P M n Q) (h : RQ w5 w6 w7 M n Q) {r k : Nat} (hr : r < n) (hk : k < M r) (m3 : M r = 3) (w : Int32) (i : Nat) (g u v : AR) :
    NXT R i (G_L_law_j552 R L xs F D P w5 w6 w7 g u v 1 (iZ (k : Int)) (iZ (r : Int)) w (iZ (i : Int))) := by
  have h4 := h.2.1
  have e5 : (1 : Int32) + iZ (r : Int) = iZ ((1 + r : Nat) : Int) := by rw [iZ_1, iZ_add]; exact congrArg iZ (by omega)
  unfold G_L_law_j552
  rcases p_remove ic D hr hk with ⟨_, D2, e⟩ | ⟨m9, _⟩
  · rw [e5, rd_iZ (by omega) (by omega), Option.bind_some, if_neg (show ¬ (1 : Int32) = 0 by decide), Option.bind_some, wr_iZ (by omega) (by omega), Option.bind_some, if_neg (show ¬ (1 : Int32) = 0 by decide), Option.bind_some, e, Option.bind_some, if_pos (show (0 : Int32) = 0 from rfl), Option.bind_some]
    dsimp only
    rw [if_pos rfl, if_pos (show (0 : Int32) = 0 from rfl)]
    unfold G_L_law_j646
    exact L_j805 ic h _ _ w i
  · omega
theorem L_j552B (ic : IC F P M n Q) (h : RQ w5 w6 w7 M n Q) {r k : Nat} (hr : r < n) (hk : k < M r) (m3 : 3 < M r) (w : Int32) (i : Nat) {g u v : AR} (eg : rd 5 g (1 + iZ (r : Int)) = some (iZ (M r : Nat))) (q' : RQ (upd g (1 + r) (iZ ((M r : Nat) - 1))) u v (gm_tM M r) n (gm_tQ Q (gm_fst M r + k))) :
    NXT R i (G_L_law_j552 R L xs F D P w5 w6 w7 g u v 0 (iZ (k : Int)) (iZ (r : Int)) w (iZ (i : Int))) := by
  have hok := ic.1
  have h4 := h.2.1
  have e5 : (1 : Int32) + iZ (r : Int) = iZ ((1 + r : Nat) : Int) := by rw [iZ_1, iZ_add]; exact congrArg iZ (by omega)
  unfold G_L_law_j552
  obtain ⟨z, z0, z5, br, eb⟩ := L_broken q' (fit_t hok hr hk)
  rcases p_remove ic D hr hk with ⟨m10, _⟩ | ⟨_, z2, br2, em⟩
  · omega
  obtain rfl := gm_brk_un br2 br
  rw [eg, Option.bind_some, if_pos (show (0 : Int32) = 0 from rfl), Option.bind_some, e5, show iZ ((M r : Nat) : Int) - 1 = iZ (((M r : Nat) : Int) - 1) by rw [iZ_1, iZ_sub], wr_iZ (by omega) (by omega), Option.bind_some, if_pos (show (0 : Int32) = 0 from rfl), eb, Option.bind_some]
  rcases em with ⟨rfl, F2, D3, P2, e, ic2⟩ | ⟨hz, D3, e⟩
  · obtain ⟨g2, u2, v2, ec, c1, c2⟩ := L_copyT (upd g (1 + r) (iZ ((M r : Nat) - 1))) u v w5 w6 w7
    rw [if_pos (show iZ 0 = 0 from rfl), Option.bind_some, e, Option.bind_some, if_neg (show ¬ (1 : Int32) = 0 by decide), L_area q' ic2.1, Option.bind_some, Option.bind_some]
    dsimp only
    rw [if_pos rfl, if_neg (show ¬ (1 : Int32) = 0 by decide), ec, Option.bind_some]
    unfold G_L_law_j646
    exact L_j805 ic2 (q'.copy c1 c2) _ _ w i
  · rw [if_neg (fun q => hz ((iZ_ne0 ⟨z0, z5⟩).mp q)), Option.bind_some, e, Option.bind_some, if_pos (show (0 : Int32) = 0 from rfl), Option.bind_some]
    dsimp only
    rw [if_pos rfl, if_pos (show (0 : Int32) = 0 from rfl)]
    unfold G_L_law_j646
    exact L_j805 ic h _ _ w i
theorem L_rem_turn (ic : IC F P M n Q) (h : RQ w5 w6 w7 M n Q) {g u v : AR} (hc : RQ g u v M n Q) {r k : Nat} (hr : r < n) (hk : k < M r) (w : Int32) (i : Nat) :
    NXT R i ((rd 5 w5 (1 + iZ (r : Int))).bind fun v482 =>
            ((if v482 = 3 then
                some 1
              else
                some 0) : Option (Int32)).bind fun b484 =>
            G_L_law_L498 R L xs FU F D P w5 w6 w7 g u v (iZ ((10 * r + k : Nat) : Int)) b484 (iZ (k : Int)) (iZ (r : Int)) w (iZ (i : Int))) := by
  have m3 := (h.2.2.1 r hr).1
  have m10 := h.h10 r hr
  have h4 := h.2.1
  rw [L_m h hr, Option.bind_some, show (3 : Int32) = iZ 3 from rfl, ite_eq (by omega)]
  by_cases c : M r = 3
  · rw [if_pos (show ((M r : Nat) : Int) = 3 by omega), Option.bind_some]
    have k1 := L_j552A (R := R) (L := L) (xs := xs) (D := D) ic h hr hk c w i g u v
    obtain ⟨m, hm⟩ : ∃ m, FU = m + 1 := ⟨999999, rfl⟩
    rw [hm, G_L_law_L498, L_m h hr, Option.bind_some]
    by_cases c2 : 10 * iZ (r : Int) + iZ ((M r : Nat) : Int) ≤ iZ ((10 * r + k : Nat) : Int) + 1
    · rw [if_pos c2]
      exact k1
    · rw [if_neg c2, if_neg (show ¬ (1 : Int32) = 0 by decide)]
      exact k1
  · rw [if_neg (show ¬ ((M r : Nat) : Int) = 3 by omega), Option.bind_some]
    obtain ⟨u2, v2, e, q⟩ := L_rem (R := R) (L := L) (xs := xs) (F := F) (D := D) (P := P) (w6 := w6) (w7 := w7) (w8 := g) (k := iZ (k : Int)) (w := w) (i := iZ (i : Int)) (L_m h hr) (by omega) (M r - 1 - k) FU u v (10 * r + k) (by unfold FU; omega) (by omega)
    rw [e]
    rw [show 10 * r + k + (M r - 1 - k) = 10 * r + M r - 1 by omega] at q
    exact L_j552B ic h hr hk (by omega) w i (L_m hc hr) (hc.remove hr hk (by omega) (fun j _ => q j))
end STEP
