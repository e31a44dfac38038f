/-! the text: both read it alike -/
def TXT (T : TextS) (L : Nat) (ch : Nat → Int) : Prop := L ≤ 90 ∧ t_length T = iZ (L : Int) ∧ ∀ i, i < L → t_signs T i = iZ (ch i) ∧ 0 ≤ ch i ∧ ch i ≤ 255
def TXM (m : Mod) (L : Nat) (ch : Nat → Int) : Prop := m_textLength m = iZ (L : Int) ∧ ∀ i, i < L → m_text m i = iZ (ch i)
theorem SM.st (m : Mod) (g : Nat → Int32) : SM m (ms_state m g) := by
  obtain ⟨g01, g02, g03, g04, g05, g06, g07, g08, g09, g10, g11, g12, g13, g14, g15, g16, g17, g18⟩ := mg_state m g
  exact ⟨g01, g03, g04, g05, g06, g07, g08, g09, g10, g18⟩
theorem SM.ofK {m m' : Mod} (h : SK m m') (k : m_kept m' = m_kept m) : SM m m' := by
  obtain ⟨u1, u2, u3, u4, u5, u6, u7, u8, u9⟩ := h
  exact ⟨u1, k, u2, u3, u4, u5, u6, u7, u8, u9⟩
theorem TXM.of {m m' : Mod} {L : Nat} {ch : Nat → Int} (h : TXM m L ch) (s : SM m m') : TXM m' L ch := by
  obtain ⟨s1, s2, s3, s4, s5, s6, s7, s8, s9, s10⟩ := s
  exact ⟨s9.trans h.1, fun i hi => by rw [s8]; exact h.2 i hi⟩
theorem x_isLetter {c : Int} (h : 0 ≤ c ∧ c ≤ 255) : G_X7_isLetter (iZ c) = some (iZ (if 97 ≤ c ∧ c ≤ 112 then 1 else 0)) := by
  unfold G_X7_isLetter
  rw [show (97 : Int32) = iZ 97 from rfl, show (112 : Int32) = iZ 112 from rfl, ite_lt (by omega), ite_lt (by omega)]
  by_cases c1 : c < 97
  · rw [if_pos c1, if_neg (by omega)]; rfl
  · rw [if_neg c1]
    by_cases c2 : 112 < c
    · rw [if_pos c2, if_neg (by omega)]; rfl
    · rw [if_neg c2, if_pos (by omega)]; rfl
theorem x_isWhole {t : Nat} (h : t < 1000) : G_X7_isWhole (iZ (t : Int)) = some (iZ (if t % 2 = 0 ∧ 6 ≤ t then 1 else 0)) := by
  unfold G_X7_isWhole
  rw [iZ_2, div_iZ (by omega) (by omega) (by omega) (by omega), iZ_mul, iZ_sub, show (6 : Int32) = iZ 6 from rfl, iZ_0, ite_eq (by omega), ite_lt (by omega)]
  by_cases e : t % 2 = 0
  · rw [if_pos (by omega)]
    by_cases g : t < 6
    · rw [if_pos (by omega), if_neg (by omega)]
    · rw [if_neg (by omega), if_pos (by omega)]; rfl
  · rw [if_neg (by omega), if_neg (by omega)]
section TX
variable {T : TextS} {L : Nat} {ch : Nat → Int} {M : Nat → Nat} {n : Nat} {Q : Nat → Pt}
theorem x_j92 (hT : TXT T L ch) (k : Fig → Int32 → Int32 → Option (Int32 × Fig)) (f : Fig) {i b t : Nat} (hi : i < L) (hb : i = b + t) : G_X7_readInto_j92 k T f (iZ (i : Int) - iZ (b : Int)) (iZ (i : Int)) (iZ (b : Int)) =
    if 97 ≤ ch i ∧ ch i ≤ 112 then (if t < 20 then (if t % 2 = 1 then (G_X1_addCorner f (iZ (ch (i - 1) - 97)) (iZ (ch i - 97))).bind (fun v => k v (iZ ((i + 1 : Nat) : Int)) (iZ (b : Int))) else k f (iZ ((i + 1 : Nat) : Int)) (iZ (b : Int))) else some (iZ (i : Int), f)) else some (iZ (i : Int), f) := by
  obtain ⟨l9, hl, hc⟩ := hT
  have hci := hc i hi
  have hnx : iZ (i : Int) + 1 = iZ ((i + 1 : Nat) : Int) := by rw [iZ_1, iZ_add, show (i : Int) + 1 = ((i + 1 : Nat) : Int) by omega]
  unfold G_X7_readInto_j92 G_X7_readInto_j145
  rw [rd_iZ (by omega) (by omega), Option.bind_some, hci.1, x_isLetter hci.2, Option.bind_some, hnx]
  by_cases c : 97 ≤ ch i ∧ ch i ≤ 112
  · rw [if_pos c, if_pos c, if_neg (show ¬ iZ 1 = 0 by decide), iZ_sub, show (i : Int) - (b : Int) = (t : Int) by omega, iZ_20, ite_lt (by omega)]
    by_cases c2 : t < 20
    · rw [if_pos (show (t : Int) < 20 by omega), if_pos c2, iZ_2, div_iZ (by omega) (by omega) (by omega) (by omega), iZ_mul, iZ_sub, iZ_1, ite_eq (by omega)]
      by_cases c3 : t % 2 = 1
      · rw [if_pos (by omega), if_pos c3, iZ_sub, show (i : Int) - 1 = ((i - 1 : Nat) : Int) by omega, rd_iZ (by omega) (by omega), Option.bind_some, Option.bind_some, (hc (i - 1) (by omega)).1, show (97 : Int32) = iZ 97 from rfl, iZ_sub, iZ_sub]
      · rw [if_neg (by omega), if_neg c3]
    · rw [if_neg (show ¬ (t : Int) < 20 by omega), if_neg c2]
  · rw [if_neg c, if_neg c, if_pos (show iZ 0 = 0 from rfl)]
theorem x_c0 (hT : TXT T L ch) (u : Nat) (f : Fig) {i b : Nat} (hi : i < L) (h47 : ¬ ch i = 47) : G_X7_readInto_L32 T (u + 1) f (iZ (i : Int)) (iZ (b : Int)) = G_X7_readInto_j92 (G_X7_readInto_L32 T u) T f (iZ (i : Int) - iZ (b : Int)) (iZ (i : Int)) (iZ (b : Int)) := by
  obtain ⟨l9, hl, hc⟩ := hT
  have hci := hc i hi
  rw [G_X7_readInto_L32, hl, ite_le (by omega), if_neg (by omega), rd_iZ (by omega) (by omega), Option.bind_some, hci.1, show (47 : Int32) = iZ 47 from rfl, ite_eq (by omega), if_neg h47]
theorem x_c47 (hT : TXT T L ch) (u : Nat) {f : Fig} (h0 : RF0 f M n Q) (h4 : n ≤ 4) {i b t : Nat} (hi : i < L) (hb : i = b + t) (h47 : ch i = 47) : G_X7_readInto_L32 T (u + 1) f (iZ (i : Int)) (iZ (b : Int)) =
    if (t % 2 = 0 ∧ 6 ≤ t) ∧ n < 4 then (G_X4_firstBroken f).bind (fun v73 => if v73 = 0 then (G_X1_openRing f).bind (fun v82 => G_X7_readInto_L32 T u v82 (iZ ((i + 1 : Nat) : Int)) (iZ ((i + 1 : Nat) : Int))) else some (iZ (b : Int), f)) else some (iZ (i : Int), f) := by
  have hj : G_X7_readInto_j92 (G_X7_readInto_L32 T u) T f (iZ (i : Int) - iZ (b : Int)) (iZ (i : Int)) (iZ (b : Int)) = some (iZ (i : Int), f) := by
    rw [x_j92 hT _ f hi hb, if_neg (by omega)]
  have hnx : iZ (i : Int) + 1 = iZ ((i + 1 : Nat) : Int) := by rw [iZ_1, iZ_add, show (i : Int) + 1 = ((i + 1 : Nat) : Int) by omega]
  obtain ⟨l9, hl, hc⟩ := hT
  have hci := hc i hi
  rw [G_X7_readInto_L32, hl, ite_le (by omega), if_neg (by omega), rd_iZ (by omega) (by omega), Option.bind_some, hci.1, h47, if_pos (show iZ 47 = 47 from rfl), hj, h0.1]
  rw [iZ_sub, show (i : Int) - (b : Int) = (t : Int) by omega, x_isWhole (by omega), Option.bind_some, iZ_4, ite_le (by omega), hnx]
  unfold G_X7_readInto_j145
  rw [hnx]
  by_cases c : t % 2 = 0 ∧ 6 ≤ t
  · rw [if_pos c, if_neg (show ¬ iZ 1 = 0 by decide)]
    by_cases c4 : n < 4
    · rw [if_neg (by omega), if_pos ⟨c, c4⟩]
    · rw [if_pos (by omega), if_neg (fun w => c4 w.2)]
  · rw [if_neg c, if_pos (show iZ 0 = 0 from rfl), if_neg (fun w => c w.1)]
theorem x_cL (hT : TXT T L ch) (u : Nat) (f : Fig) {b t : Nat} (hb : L = b + t) : G_X7_readInto_L32 T (u + 1) f (iZ (L : Int)) (iZ (b : Int)) =
    if t % 2 = 0 ∧ 6 ≤ t then (G_X4_firstBroken f).bind (fun v => if v = 0 then some (-9, f) else some (iZ (b : Int), f)) else some (iZ (L : Int), f) := by
  obtain ⟨l9, hl, hc⟩ := hT
  rw [G_X7_readInto_L32, hl, ite_le (by omega), if_pos (by omega), iZ_sub, show (L : Int) - (b : Int) = (t : Int) by omega, x_isWhole (by omega), Option.bind_some]
  by_cases c : t % 2 = 0 ∧ 6 ≤ t
  · rw [if_pos c, if_pos c, if_neg (show ¬ iZ 1 = 0 by decide)]
  · rw [if_neg c, if_neg c, if_pos (show iZ 0 = 0 from rfl)]
variable {m : Mod}
theorem x_lett (hT : TXT T L ch) (hm : TXM m L ch) {q : Nat} (hq : q ≤ 91) : G_X9_isLetter m (iZ (q : Int)) = some (iZ (if q < L ∧ 97 ≤ ch q ∧ ch q ≤ 112 then 1 else 0)) := by
  have l9 := hT.1
  unfold G_X9_isLetter
  rw [hm.1, ite_le (by omega)]
  by_cases c : q < L
  · have hc := (hT.2.2 q c).2
    have w : G_X9_within (iZ (ch q)) 97 112 = some (iZ (if 97 ≤ ch q ∧ ch q ≤ 112 then 1 else 0)) := s_within (ch q) 97 112 (by omega) (by omega) (by omega) (by omega) (by omega) (by omega)
    rw [if_neg (by omega), rd_iZ (by omega) (by omega), Option.bind_some, hm.2 q c, w, Option.bind_some]
    by_cases g : 97 ≤ ch q ∧ ch q ≤ 112
    · rw [if_pos g, if_neg (show ¬ iZ 1 = 0 by decide), if_pos ⟨c, g⟩]; rfl
    · rw [if_neg g, if_pos (show iZ 0 = 0 from rfl), if_neg (fun w => g w.2)]; rfl
  · rw [if_pos (by omega), if_neg (fun w => c w.1)]; rfl
theorem x_j123 (hT : TXT T L ch) (hm : TXM m L ch) (k : Mod → Int32 → Option (Int32 × Mod)) {r j p : Nat} (b : Int32) (hr : r < 4) (hj : j ≤ 10) (hp : p ≤ L) (em : G_X9_many m (iZ (r : Int)) = some (iZ (j : Int))) : G_X9_readText_j123 k m b (iZ (r : Int)) (iZ (p : Int)) =
    if (p < L ∧ 97 ≤ ch p ∧ ch p ≤ 112) ∧ j < 10 then some (iZ ((p + 1 : Nat) : Int), m) else if j < 3 then some (iZ (p : Int), m) else if p = L then G_X9_readText_j223 k m 1 b (iZ (p : Int)) else if ch p = 47 ∧ r + 1 < 4 then G_X9_readText_j223 k m 0 b (iZ (p : Int)) else some (iZ (p : Int), m) := by
  have l9 := hT.1
  have fin : ∀ b128 : Int32, b128 = 0 → (if b128 = 0 then
    ((if iZ (p : Int) = m_textLength m then
        some 1
      else
        some 0) : Option (Int32)).bind fun b162 =>
    ((if b162 = 0 then
        (rd 90 (m_text m) (iZ (p : Int))).bind fun v182 =>
        if v182 = 47 then
          if 4 ≤ iZ (r : Int) + 1 then
            some 0
          else
            some 1
        else
          some 0
      else
        some 0) : Option (Int32)).bind fun b174 =>
    (G_X9_many m (iZ (r : Int))).bind fun v204 =>
    if v204 < 3 then
      some (iZ (p : Int), m)
    else
      if b162 = 0 then
        if b174 = 0 then
          some (iZ (p : Int), m)
        else
          G_X9_readText_j223 k m b162 b (iZ (p : Int))
      else
        G_X9_readText_j223 k m b162 b (iZ (p : Int))
  else
    some (iZ (p : Int) + 1, m)) = if j < 3 then some (iZ (p : Int), m) else if p = L then G_X9_readText_j223 k m 1 b (iZ (p : Int)) else if ch p = 47 ∧ r + 1 < 4 then G_X9_readText_j223 k m 0 b (iZ (p : Int)) else some (iZ (p : Int), m) := by
    intro b128 e
    rw [if_pos e, em, hm.1, ite_eq (by omega)]
    have e3 : (iZ (j : Int) < 3) = (j < 3) := by
      rw [iZ_3, iZ_lt (by omega) (by omega) (by omega) (by omega)]
      exact propext (by omega)
    by_cases c : p = L
    · rw [if_pos (by omega), Option.bind_some, if_neg (show ¬ (1 : Int32) = 0 by decide), Option.bind_some, Option.bind_some, if_pos c, if_neg (show ¬ (1 : Int32) = 0 by decide)]
      by_cases g : j < 3
      · rw [if_pos g, if_pos (e3.symm ▸ g)]
      · rw [if_neg g, if_neg (fun w => g (e3 ▸ w))]
    · have hcp := (hT.2.2 p (by omega)).2
      have hr4 : iZ (r : Int) + 1 = iZ ((r + 1 : Nat) : Int) := by rw [iZ_1, iZ_add, show (r : Int) + 1 = ((r + 1 : Nat) : Int) by omega]
      rw [if_neg (by omega), Option.bind_some, if_pos rfl, rd_iZ (by omega) (by omega), Option.bind_some, hm.2 p (by omega), if_neg c, show (47 : Int32) = iZ 47 from rfl, ite_eq (by omega), hr4, iZ_4, ite_le (by omega)]
      by_cases g : j < 3
      · rw [if_pos g]
        by_cases c7 : ch p = 47
        · rw [if_pos c7]
          by_cases c4 : r + 1 < 4
          · rw [if_neg (by omega), Option.bind_some, Option.bind_some, if_pos (e3.symm ▸ g)]
          · rw [if_pos (by omega), Option.bind_some, Option.bind_some, if_pos (e3.symm ▸ g)]
        · rw [if_neg c7, Option.bind_some, Option.bind_some, if_pos (e3.symm ▸ g)]
      · rw [if_neg g]
        by_cases c7 : ch p = 47
        · rw [if_pos c7]
          by_cases c4 : r + 1 < 4
          · rw [if_neg (by omega), Option.bind_some, Option.bind_some, if_neg (fun w => g (e3 ▸ w)), if_pos rfl, if_neg (show ¬ (1 : Int32) = 0 by decide), if_pos ⟨c7, c4⟩]
          · rw [if_pos (by omega), Option.bind_some, Option.bind_some, if_neg (fun w => g (e3 ▸ w)), if_pos rfl, if_pos rfl, if_neg (fun w => c4 w.2)]
        · rw [if_neg c7, Option.bind_some, Option.bind_some, if_neg (fun w => g (e3 ▸ w)), if_pos rfl, if_pos rfl, if_neg (fun w => c7 w.1)]
  unfold G_X9_readText_j123
  rw [x_lett hT hm (by omega), Option.bind_some]
  by_cases c : p < L ∧ 97 ≤ ch p ∧ ch p ≤ 112
  · rw [if_pos c, if_neg (show ¬ iZ 1 = 0 by decide)]
    by_cases g : j < 10
    · rw [if_pos (show (p < L ∧ 97 ≤ ch p ∧ ch p ≤ 112) ∧ j < 10 from ⟨c, g⟩)]
      have e1 : ((G_X9_many m (iZ (r : Int))).bind fun v133 => if 10 ≤ v133 then some (0 : Int32) else some 1) = some 1 := by
        rw [em, Option.bind_some, iZ_10, ite_le (by omega), if_neg (by omega)]
      rw [e1, Option.bind_some, if_neg (show ¬ (1 : Int32) = 0 by decide), iZ_1, iZ_add, show (p : Int) + 1 = ((p + 1 : Nat) : Int) by omega]
    · rw [if_neg (show ¬ ((p < L ∧ 97 ≤ ch p ∧ ch p ≤ 112) ∧ j < 10) from fun w => g w.2)]
      have e1 : ((G_X9_many m (iZ (r : Int))).bind fun v133 => if 10 ≤ v133 then some (0 : Int32) else some 1) = some 0 := by
        rw [em, Option.bind_some, iZ_10, ite_le (by omega), if_pos (by omega)]
      rw [e1, Option.bind_some]
      exact fin 0 rfl
  · rw [if_neg c, if_pos (show iZ 0 = 0 from rfl), if_neg (show ¬ ((p < L ∧ 97 ≤ ch p ∧ ch p ≤ 112) ∧ j < 10) from fun w => c w.1), Option.bind_some]
    exact fin 0 rfl
end TX
