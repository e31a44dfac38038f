/-! the text: the loop -/
section TX
variable {T : TextS} {L : Nat} {ch : Nat → Int}
def TI (m0 : Mod) (f : Fig) (m : Mod) (M : Nat → Nat) (r : Nat) (Q : Nat → Pt) (j : Nat) : Prop :=
  r < 4 ∧ RF0 f M (r + 1) Q ∧ (1 ≤ j → RF f M (r + 1) Q) ∧ M r = j ∧ (∀ i, i < r → 3 ≤ M i) ∧ gm_R1 M (r + 1) Q ∧ RS (upd (m_state m) 0 (iZ ((r + 1 : Nat) : Int))) M (r + 1) Q ∧ m_state m 0 = iZ (r : Int) ∧ SM m0 m
/-- how both end -/
def TE (m0 : Mod) (o : Option (Int32 × Fig)) (o' : Option (Int32 × Mod)) : Prop :=
  ∃ e f' m', o = some (e, f') ∧ o' = some (e, m') ∧ SM m0 m' ∧ (e = -9 → ∃ M n Q, gm_ok M n Q ∧ RF f' M n Q ∧ RS (m_state m') M n Q)
theorem TE.err {m0 m : Mod} {f : Fig} (sm : SM m0 m) {p : Nat} (hp : p < 1000) : TE m0 (some (iZ (p : Int), f)) (some (iZ (p : Int), m)) :=
  ⟨_, f, m, rfl, rfl, sm, fun e => absurd e (by rw [show (-9 : Int32) = iZ (-9) from rfl, iZ_eq (by omega) (by omega) (by omega) (by omega)]; omega)⟩
theorem gm_iM_at (M : Nat → Nat) (r : Nat) : gm_iM M r r = M r + 1 := if_pos rfl
theorem gm_iM_ne (M : Nat → Nat) {r i : Nat} (h : i ≠ r) : gm_iM M r i = M i := if_neg h
/-- a corner more in the last ring -/
theorem TI.corner {m0 : Mod} {f : Fig} {m : Mod} {M : Nat → Nat} {r : Nat} {Q : Nat → Pt} {j : Nat} (ti : TI m0 f m M r Q j) (hj : j < 10) (x y : Int) (hx : 0 ≤ x ∧ x ≤ 15) (hy : 0 ≤ y ∧ y ≤ 15) :
    ∃ f' m' m2, G_X1_addCorner f (iZ x) (iZ y) = some f' ∧ G_X9_setCorner m (iZ (r : Int)) (iZ (j : Int)) (iZ x) (iZ y) = some m2 ∧ m_state m2 (1 + r) = iZ (j : Int) ∧ ms_state m2 (upd (m_state m2) (1 + r) (iZ ((j + 1 : Nat) : Int))) = m' ∧ TI m0 f' m' (gm_iM M r) r (gm_iQ Q (gm_fst M (r + 1)) (x, y)) (j + 1) := by
  obtain ⟨r4, h0, hF, ej, h3, r1, hs, s0, sm⟩ := ti
  obtain ⟨f', ef, rf'⟩ := s0_addCorner h0 (m := r) rfl (by omega) (x, y)
  obtain ⟨m2, e2, w1, w2, w3⟩ := t_setCorner m (r := r) (k := j) r4 hj (iZ x) (iZ y)
  have g := mg_state m2 (upd (m_state m2) (1 + r) (iZ ((j + 1 : Nat) : Int)))
  generalize hx' : ms_state m2 (upd (m_state m2) (1 + r) (iZ ((j + 1 : Nat) : Int))) = m3 at *
  obtain ⟨g01, g02, g03, g04, g05, g06, g07, g08, g09, g10, g11, g12, g13, g14, g15, g16, g17, g18⟩ := g
  have hst : m_state m (1 + r) = iZ (j : Int) := by
    have := (hs.2.2.1 r (by omega)).2
    rw [upd_ne (by omega), ej] at this
    exact this
  have hst2 : m_state m2 (1 + r) = iZ (j : Int) := by
    rw [w1, upd_ne (by omega), upd_ne (by omega)]
    exact hst
  have fst1 : ∀ i, i ≤ r → gm_fst (gm_iM M r) i = gm_fst M i := fun i hi => by
    have := gm_iM_fst (M := M) r i
    rw [if_neg (by omega)] at this
    exact this
  have fr : gm_fst M (r + 1) = gm_fst M r + j := by rw [← ej]; rfl
  have fr2 : gm_fst (gm_iM M r) (r + 1) = gm_fst M (r + 1) + 1 := by
    have := gm_iM_fst (M := M) r (r + 1)
    rw [if_pos (by omega)] at this
    exact this
  refine ⟨f', m3, m2, ef, e2, hst2, hx', r4, rf'.to0, fun _ => rf', by rw [gm_iM_at, ej], fun i hi => ?_, fun c hc => ?_, ⟨upd_same _ _ _, by omega, fun i hi => ⟨rf'.2.2.2.1 i hi, ?_⟩, fun i k hi hk => ?_⟩, ?_, SM.trans sm (SM.trans (SM.ofK w3 w2) ⟨g01, g03, g04, g05, g06, g07, g08, g09, g10, g18⟩)⟩
  · rw [gm_iM_ne M (by omega)]; exact h3 i hi
  · rw [fr2] at hc
    unfold gm_iQ
    by_cases c1 : c < gm_fst M (r + 1)
    · rw [if_pos c1]; exact r1 c c1
    · rw [if_neg c1, if_pos (by omega)]
      exact ⟨hx.1, hx.2, hy.1, hy.2⟩
  · rw [upd_ne (by omega), g02]
    by_cases ir : i = r
    · rw [ir, upd_same, gm_iM_at, ej]
    · rw [upd_ne (by omega), w1, upd_ne (by omega), upd_ne (by omega), gm_iM_ne M ir]
      have := (hs.2.2.1 i hi).2
      rw [upd_ne (by omega)] at this
      exact this
  · have k10 := rf'.2.2.2.1 i hi
    rw [upd_ne (by omega), upd_ne (by omega), g02, upd_ne (by omega), upd_ne (by omega), w1, fst1 i (by omega)]
    unfold gm_iQ
    by_cases ir : i = r ∧ k = j
    · obtain ⟨rfl, rfl⟩ := ir
      rw [upd_ne (by omega), upd_same, upd_same, if_neg (by omega), if_pos (by omega)]
      exact ⟨rfl, rfl⟩
    · have hk' : k < M i := by
        by_cases e : i = r
        · subst e
          rw [gm_iM_at] at hk
          omega
        · rw [gm_iM_ne M e] at hk
          exact hk
      have hlt := gm_fst_lt (n := r + 1) hi hk'
      have := hs.2.2.2 i k hi hk'
      rw [upd_ne (by omega), upd_ne (by omega)] at this
      rw [upd_ne (by omega), upd_ne (by omega), upd_ne (by omega), upd_ne (by omega), if_pos hlt]
      exact this
  · rw [g02, upd_ne (by omega), w1, upd_ne (by omega), upd_ne (by omega)]
    exact s0
theorem gm_oM_at (M : Nat → Nat) (r : Nat) : gm_oM M r r = 0 := if_pos rfl
theorem gm_oM_ne (M : Nat → Nat) {r i : Nat} (h : i ≠ r) : gm_oM M r i = M i := if_neg h
/-- a ring begins -/
theorem TI.ring {m0 : Mod} {f : Fig} {m : Mod} {M : Nat → Nat} {n : Nat} {Q : Nat → Pt} (h : RF f M n Q) (n4 : n < 4) (h3 : ∀ i, i < n → 3 ≤ M i) (r1 : gm_R1 M n Q) (hs : RS (m_state m) M n Q) (sm : SM m0 m) :
    ∃ f' m', G_X1_openRing f = some f' ∧ wr 85 (m_state m) (iZ ((1 + n : Nat) : Int)) 0 = some (upd (m_state m) (1 + n) 0) ∧ ms_state m (upd (m_state m) (1 + n) 0) = m' ∧ TI m0 f' m' (gm_oM M n) n Q 0 := by
  obtain ⟨f', ef, rf'⟩ := s0_openRing h.to0 n4
  obtain ⟨g01, g02, g03, g04, g05, g06, g07, g08, g09, g10, g11, g12, g13, g14, g15, g16, g17, g18⟩ := mg_state m (upd (m_state m) (1 + n) 0)
  have cg : ∀ i, i ≤ n → gm_fst (gm_oM M n) i = gm_fst M i := gm_fst_congr (fun i hi => gm_oM_ne M (by omega))
  have f1 : gm_fst (gm_oM M n) (n + 1) = gm_fst M n := by
    show gm_fst (gm_oM M n) n + gm_oM M n n = gm_fst M n
    rw [gm_oM_at, cg n (Nat.le_refl n)]; rfl
  refine ⟨f', _, ef, wr_iZ (by omega) (by omega), rfl, n4, rf', fun c => by omega, gm_oM_at M n, fun i hi => by rw [gm_oM_ne M (by omega)]; exact h3 i hi, fun c hc => r1 c (by rw [f1] at hc; exact hc), ⟨upd_same _ _ _, by omega, fun i hi => ⟨rf'.2.2.2.1 i hi, ?_⟩, fun i k hi hk => ?_⟩, ?_, SM.trans sm (SM.st m _)⟩
  · rw [upd_ne (by omega), g02]
    by_cases e : i = n
    · rw [e, upd_same, gm_oM_at]; rfl
    · rw [upd_ne (by omega), gm_oM_ne M e]
      exact (hs.2.2.1 i (by omega)).2
  · by_cases e : i = n
    · rw [e, gm_oM_at] at hk
      exact absurd hk (Nat.not_lt_zero k)
    · rw [gm_oM_ne M e] at hk
      have := (hs.2.2.1 i (by omega)).1
      rw [upd_ne (by omega), upd_ne (by omega), g02, upd_ne (by omega), upd_ne (by omega), cg i (by omega)]
      exact hs.2.2.2 i k (by omega) hk
  · rw [g02, upd_ne (by omega)]
    exact hs.1
theorem x_j223 {m0 : Mod} {f : Fig} {m : Mod} {M : Nat → Nat} {r : Nat} {Q : Nat → Pt} {j : Nat} (ti : TI m0 f m M r Q j) (j3 : 3 ≤ j) (k : Mod → Int32 → Option (Int32 × Mod)) (l5 b p : Int32) :
    ∃ z m', 0 ≤ z ∧ z ≤ 5 ∧ gm_brk M (r + 1) Q z ∧ G_X4_firstBroken f = some (iZ z) ∧ RF f M (r + 1) Q ∧ RS (m_state m') M (r + 1) Q ∧ SM m0 m' ∧ (∀ i, i < r + 1 → 3 ≤ M i ∧ M i ≤ 10) ∧
      G_X9_readText_j223 k m l5 b p = if z = 0 then (if l5 = 0 then k m' (p + 1) else some (-9, m')) else some (b, m') := by
  obtain ⟨r4, h0, hF, ej, h3, r1, hs, s0, sm⟩ := ti
  have rf := hF (by omega)
  have M3 : ∀ i, i < r + 1 → 3 ≤ M i ∧ M i ≤ 10 := fun i hi => by
    refine ⟨?_, h0.2.2.2.1 i hi⟩
    by_cases e : i = r
    · rw [e, ej]; exact j3
    · exact h3 i (by omega)
  have fit := gm_fit_of r1
  obtain ⟨z, z0, z5, br, ez⟩ := s_firstBroken rf fit (fun i hi => (M3 i hi).1) (by omega)
  obtain ⟨g01, g02, g03, g04, g05, g06, g07, g08, g09, g10, g11, g12, g13, g14, g15, g16, g17, g18⟩ := mg_state m (upd (m_state m) 0 (iZ ((r + 1 : Nat) : Int)))
  have hs2 : RS (m_state (ms_state m (upd (m_state m) 0 (iZ ((r + 1 : Nat) : Int))))) M (r + 1) Q := by rw [g02]; exact hs
  obtain ⟨y, m', -, br2, ey, es, sm2⟩ := t_broken hs2 fit (by omega) (fun i hi => (M3 i hi).1)
  have e1 : rd 85 (m_state m) 0 = some (iZ (r : Int)) := by
    have := rd_iZ (n := 85) (k := 0) (f := m_state m) (by omega) (by omega)
    rw [s0] at this
    exact this
  have e2 : wr 85 (m_state m) 0 (iZ ((r + 1 : Nat) : Int)) = some (upd (m_state m) 0 (iZ ((r + 1 : Nat) : Int))) := wr_iZ (n := 85) (k := 0) (by omega) (by omega)
  have e3 : iZ (r : Int) + 1 = iZ ((r + 1 : Nat) : Int) := by rw [iZ_1, iZ_add, show (r : Int) + 1 = ((r + 1 : Nat) : Int) by omega]
  refine ⟨z, m', z0, z5, br, ez, rf, by rw [es]; exact hs2, SM.trans sm (SM.trans (SM.st m _) sm2), M3, ?_⟩
  unfold G_X9_readText_j223
  have eyz := gm_brk_un br2 br
  rw [e1, Option.bind_some, e3, e2, Option.bind_some, ey, Option.bind_some, eyz]
  dsimp only
  rw [iZ_0, ite_le (by omega)]
  by_cases c : z = 0
  · rw [if_pos (by omega), if_pos c]
  · rw [if_neg (by omega), if_neg c]
theorem x_loop {m0 : Mod} (hT : TXT T L ch) (hm0 : TXM m0 L ch) : ∀ (N p : Nat), L - p < N → p ≤ L → ∀ (b r j u v w : Nat) (f : Fig) (m : Mod) (M : Nat → Nat) (Q : Nat → Pt), p = b + 2 * j → TI m0 f m M r Q j → L - p < u → 3 ≤ r + v → 10 < j + w →
    TE m0 (G_X7_readInto_L32 T u f (iZ (p : Int)) (iZ (b : Int))) (G_X9_readText_L47 (G_X9_readText_L29 v) w m (iZ (b : Int)) (iZ (r : Int)) (iZ (p : Int))) := by
  have l9 := hT.1
  intro N
  induction N with
  | zero => intro p h; omega
  | succ N ih =>
    intro p hN hpL b r j u v w f m M Q hp ti hu hv hw
    have ti0 := ti
    obtain ⟨r4, h0, hF, ej, h3, r1, hs, s0, sm⟩ := ti0
    have j10 : j ≤ 10 := by have := h0.2.2.2.1 r (by omega); omega
    obtain ⟨u, rfl⟩ : ∃ k, u = k + 1 := ⟨u - 1, by omega⟩
    obtain ⟨w, rfl⟩ : ∃ k, w = k + 1 := ⟨w - 1, by omega⟩
    have hm : TXM m L ch := hm0.of sm
    have em : G_X9_many m (iZ (r : Int)) = some (iZ (j : Int)) := by
      have := (hs.2.2.1 r (by omega)).2
      rw [upd_ne (by omega), ej] at this
      rw [t_manyr m r4, this]
    have J := x_j123 hT hm (G_X9_readText_L29 v) (iZ (b : Int)) r4 j10 hpL em
    have hnx : iZ (p : Int) + 1 = iZ ((p + 1 : Nat) : Int) := by rw [iZ_1, iZ_add, show (p : Int) + 1 = ((p + 1 : Nat) : Int) by omega]
    have e : ∀ {α : Type} {c : Prop} {i : Decidable c} (a : α), (@ite α c i a a) = a := fun {α c i} a => by
      by_cases q : c
      · rw [if_pos q]
      · rw [if_neg q]
    have m10 : ∀ {α : Type} (a c : Option α), ((G_X9_many m (iZ (r : Int))).bind fun v67 => if 10 ≤ v67 then a else c) = if j < 10 then c else a := fun a c => by
      rw [em, Option.bind_some, iZ_10, ite_le (by omega)]
      by_cases g : j < 10
      · rw [if_pos g, if_neg (by omega)]
      · rw [if_neg g, if_pos (by omega)]
    rw [G_X9_readText_L47, x_lett hT hm (by omega), Option.bind_some, hnx, x_lett hT hm (by omega), Option.bind_some, m10]
    by_cases pl : p < L
    · have hcp := (hT.2.2 p pl).2
      by_cases lp : 97 ≤ ch p ∧ ch p ≤ 112
      · rw [if_pos (show p < L ∧ 97 ≤ ch p ∧ ch p ≤ 112 from ⟨pl, lp⟩), if_neg (show ¬ iZ 1 = 0 by decide), x_c0 hT u f pl (by omega), x_j92 hT _ f pl hp, if_pos lp]
        by_cases j9 : j < 10
        · rw [if_pos (by omega), if_neg (by omega), if_pos j9]
          rw [if_pos (show (p < L ∧ 97 ≤ ch p ∧ ch p ≤ 112) ∧ j < 10 from ⟨⟨pl, lp⟩, j9⟩)] at J
          obtain ⟨u, rfl⟩ : ∃ k, u = k + 1 := ⟨u - 1, by omega⟩
          by_cases pl2 : p + 1 < L
          · have hcp2 := (hT.2.2 (p + 1) pl2).2
            by_cases lp2 : 97 ≤ ch (p + 1) ∧ ch (p + 1) ≤ 112
            · rw [if_pos (show p + 1 < L ∧ 97 ≤ ch (p + 1) ∧ ch (p + 1) ≤ 112 from ⟨pl2, lp2⟩), if_neg (show ¬ iZ 1 = 0 by decide), x_c0 hT u f pl2 (by omega), x_j92 hT _ f pl2 (show p + 1 = b + (2 * j + 1) by omega), if_pos lp2, if_pos (by omega), if_pos (by omega), show p + 1 - 1 = p by omega]
              obtain ⟨f', m', m2, a1, a2, a3, a4, a5⟩ := ti.corner j9 (ch p - 97) (ch (p + 1) - 97) (by omega) (by omega)
              have d1 := rd_iZ (n := 90) (k := p) (f := m_text m) (by omega) (by omega)
              have d2 := rd_iZ (n := 90) (k := p + 1) (f := m_text m) (by omega) (by omega)
              have d3 := rd_iZ (n := 85) (k := 1 + r) (f := m_state m2) (by omega) (by omega)
              have d4 : ∀ x, wr 85 (m_state m2) (iZ ((1 + r : Nat) : Int)) x = some (upd (m_state m2) (1 + r) x) := fun x => wr_iZ (by omega) (by omega)
              have h97 : (97 : Int32) = iZ 97 := rfl
              rw [a1, Option.bind_some, em, Option.bind_some, d1, Option.bind_some, d2, Option.bind_some, hm.2 p pl, hm.2 (p + 1) pl2, h97, iZ_sub, iZ_sub, a2, Option.bind_some, iZ_1, iZ_add, show (1 : Int) + (r : Int) = ((1 + r : Nat) : Int) by omega, d3, Option.bind_some, a3, iZ_add, show (j : Int) + 1 = ((j + 1 : Nat) : Int) by omega, d4, Option.bind_some, a4, iZ_2, iZ_add, show (p : Int) + 2 = ((p + 1 + 1 : Nat) : Int) by omega]
              exact ih (p + 1 + 1) (by omega) (by omega) b r (j + 1) u v w f' m' _ _ (by omega) a5 (by omega) hv (by omega)
            · rw [if_neg (show ¬ (p + 1 < L ∧ 97 ≤ ch (p + 1) ∧ ch (p + 1) ≤ 112) from fun q => lp2 q.2), if_pos (show iZ 0 = 0 from rfl), J]
              by_cases sl : ch (p + 1) = 47
              · rw [x_c47 hT u h0 (by omega) pl2 (show p + 1 = b + (2 * j + 1) by omega) sl, if_neg (by omega)]
                exact TE.err sm (by omega)
              · rw [x_c0 hT u f pl2 sl, x_j92 hT _ f pl2 (show p + 1 = b + (2 * j + 1) by omega), if_neg lp2]
                exact TE.err sm (by omega)
          · rw [if_neg (show ¬ (p + 1 < L ∧ 97 ≤ ch (p + 1) ∧ ch (p + 1) ≤ 112) from fun q => pl2 q.1), if_pos (show iZ 0 = 0 from rfl), J, show p + 1 = L by omega, x_cL hT u f (show L = b + (2 * j + 1) by omega), if_neg (by omega)]
            exact TE.err sm (by omega)
        · rw [if_neg (show ¬ 2 * j < 20 by omega), if_neg j9, e, J, if_neg (show ¬ ((p < L ∧ 97 ≤ ch p ∧ ch p ≤ 112) ∧ j < 10) from fun q => j9 q.2), if_neg (show ¬ j < 3 by omega), if_neg (show ¬ p = L by omega), if_neg (show ¬ (ch p = 47 ∧ r + 1 < 4) from fun q => by omega)]
          exact TE.err sm (by omega)
      · rw [if_neg (show ¬ (p < L ∧ 97 ≤ ch p ∧ ch p ≤ 112) from fun q => lp q.2), if_pos (show iZ 0 = 0 from rfl), J, if_neg (show ¬ ((p < L ∧ 97 ≤ ch p ∧ ch p ≤ 112) ∧ j < 10) from fun q => lp q.1.2)]
        by_cases sl : ch p = 47
        · rw [x_c47 hT u h0 (by omega) pl hp sl]
          by_cases j3 : j < 3
          · rw [if_pos j3, if_neg (by omega)]
            exact TE.err sm (by omega)
          · rw [if_neg j3, if_neg (show ¬ p = L by omega)]
            by_cases r3 : r + 1 < 4
            · rw [if_pos (show ch p = 47 ∧ r + 1 < 4 from ⟨sl, r3⟩), if_pos (show (2 * j % 2 = 0 ∧ 6 ≤ 2 * j) ∧ r + 1 < 4 by omega)]
              obtain ⟨z, m', z0, z5, br, ez, rf, rs', sm', M3, e⟩ := x_j223 ti (by omega) (G_X9_readText_L29 v) 0 (iZ (b : Int)) (iZ (p : Int))
              rw [e, ez, Option.bind_some]
              by_cases c : z = 0
              · rw [c, if_pos (show iZ 0 = 0 from rfl), if_pos rfl, if_pos rfl, hnx]
                obtain ⟨f2, m2, b1, b2, b3, b4⟩ := TI.ring rf r3 (fun i hi => (M3 i hi).1) r1 rs' sm'
                obtain ⟨v, rfl⟩ : ∃ k, v = k + 1 := ⟨v - 1, by omega⟩
                have e0 : rd 85 (m_state m') 0 = some (iZ ((r + 1 : Nat) : Int)) := by
                  have := rd_iZ (n := 85) (k := 0) (f := m_state m') (by omega) (by omega)
                  rw [rs'.1] at this
                  exact this
                rw [b1, Option.bind_some, G_X9_readText_L29, e0, Option.bind_some, iZ_1, iZ_add, show (1 : Int) + ((r + 1 : Nat) : Int) = ((1 + (r + 1) : Nat) : Int) by omega, b2, Option.bind_some, b3]
                exact ih (p + 1) (by omega) (by omega) (p + 1) (r + 1) 0 u v FU f2 m2 _ _ (by omega) b4 (by omega) (by omega) (by unfold FU; omega)
              · rw [if_neg (show ¬ iZ z = 0 by rw [show (0 : Int32) = iZ 0 from rfl, iZ_eq (by omega) (by omega) (by omega) (by omega)]; exact c), if_neg c]
                exact TE.err sm' (by omega)
            · rw [if_neg (show ¬ (ch p = 47 ∧ r + 1 < 4) from fun q => r3 q.2), if_neg (show ¬ ((2 * j % 2 = 0 ∧ 6 ≤ 2 * j) ∧ r + 1 < 4) from fun q => r3 q.2)]
              exact TE.err sm (by omega)
        · rw [x_c0 hT u f pl sl, x_j92 hT _ f pl hp, if_neg lp, if_neg (show ¬ p = L by omega), if_neg (show ¬ (ch p = 47 ∧ r + 1 < 4) from fun q => sl q.1), e]
          exact TE.err sm (by omega)
    · have pe : p = L := by omega
      subst pe
      rw [if_neg (show ¬ (p < p ∧ 97 ≤ ch p ∧ ch p ≤ 112) from fun q => pl q.1), if_pos (show iZ 0 = 0 from rfl), J, if_neg (show ¬ ((p < p ∧ 97 ≤ ch p ∧ ch p ≤ 112) ∧ j < 10) from fun q => pl q.1.1), if_pos rfl, x_cL hT u f hp]
      by_cases j3 : j < 3
      · rw [if_pos j3, if_neg (by omega)]
        exact TE.err sm (by omega)
      · rw [if_neg j3, if_pos (by omega)]
        obtain ⟨z, m', z0, z5, br, ez, rf, rs', sm', M3, e⟩ := x_j223 ti (by omega) (G_X9_readText_L29 v) 1 (iZ (b : Int)) (iZ (p : Int))
        rw [e, ez, Option.bind_some]
        by_cases c : z = 0
        · rw [c, if_pos (show iZ 0 = 0 from rfl), if_pos rfl, if_neg (show ¬ (1 : Int32) = 0 by decide)]
          exact ⟨-9, f, m', rfl, rfl, sm', fun _ => ⟨M, r + 1, Q, gm_brk_ok ⟨by omega, by omega⟩ M3 (c ▸ br), rf, rs'⟩⟩
        · rw [if_neg (show ¬ iZ z = 0 by rw [show (0 : Int32) = iZ 0 from rfl, iZ_eq (by omega) (by omega) (by omega) (by omega)]; exact c), if_neg c]
          exact TE.err sm' (by omega)
end TX
