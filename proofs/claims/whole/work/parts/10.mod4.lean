def G_X9_isLetter (m0 : Mod) (p1 : Int32) : Option (Int32) :=
  if m_textLength m0 ≤ p1 then
    some 0
  else
    (rd 90 (m_text m0) p1).bind fun v13 =>
    (G_X9_within v13 97 112).bind fun v18 =>
    if v18 = 0 then
      some 0
    else
      some 1
abbrev rm_X9_isLetter : Room := { frames := 1, cells := 0, slots := 0, locals := 22 }
theorem hdS_X9_isLetter : yX9_isLetter.cls ≠ "java/lang/invoke/MethodHandle" ∧ yX9_isLetter.cls ≠ "java/lang/invoke/VarHandle" ∧ (parseMethodDescriptor yX9_isLetter.desc).map (fun d => d.parameters.length) = some 1 := by decide +kernel
theorem hdV_X9_isLetter : yX9_isLetter.cls = RX9 ∧ yX9_isLetter.cls ≠ "java/lang/invoke/MethodHandle" ∧ yX9_isLetter.cls ≠ "java/lang/invoke/VarHandle" ∧ (parseMethodDescriptor yX9_isLetter.desc).map (fun d => d.parameters.length) = some 1 := ⟨rfl, hdS_X9_isLetter⟩
set_option maxHeartbeats 4000000 in
set_option maxRecDepth 100000 in
theorem c_X9_isLetter (l : Launch) (dC : Nat → ClassId) (dI : Nat → Nat → Nat) (cy : Nat → ClassId) (a0 : Nat → Nat) (m0 : Mod) (p1 : Int32) (res : Int32) (h : G_X9_isLetter m0 p1 = some res) : CT l (dC, dI) (TY cy) yX9_isLetter cX9_isLetter 2 (some .boolean) rm_X9_isLetter [.ref (a0 0), .int p1] (wMod a0 cy m0) (wMod a0 cy m0) (some (.int res)) := by
  refine CT.mk_z (own := RX9) ⟨by decide, rfl⟩ (Nat.le_of_ble_eq_true rfl) ?_
  intro p e s mm args below meth cd A Q hx hb hml hown htg hN hK hA hP hD hS hE ls hl
  have hl : lv_has ls 2 [(0, .ref (a0 0)), (1, .int p1)] := hl
  replace h : _ = some res := h
  unfold G_X9_isLetter at h
  obtain ⟨H, hH⟩ : ∃ H, H = s.heap := ⟨_, rfl⟩
  obtain ⟨locs, hlocs⟩ : ∃ locs : List Loc, locs = [] := ⟨_, rfl⟩
  rw [← hlocs] at hS ⊢
  have hS : va_S A s.heap H locs := by rw [hH]; exact hS
  rw [← hH] at hP ⊢
  refine lv_iload_n hx hb dX9_isLetter_0 rfl (lv_at hl 1 rfl) ?_
  refine lv_aload_n hx hb dX9_isLetter_1 rfl (lv_at hl 0 rfl) ?_
  refine va_get (D := (dC, dI)) (ci := 4) (v := .int (m_textLength m0)) (C := RX9) (T := TX9) (N := 18) hx hb htg inX9 hown hK hP 0 rfl rfl 9 (by decide) (htg _ gw859) (fun _ h9 => h9) rfl dX9_isLetter_2 ?_
  refine lv_icmp_ge (tgt := 28) hx hb dX9_isLetter_5 (by decide) (fun c5 => ?_) (fun c5 => ?_)
  · replace h := if_t h c5
    refine lv_iconst (v := 0) hx hb dX9_isLetter_28 (by decide) ?_
    obtain rfl := Option.some.inj h
    exact hE H locs 29 ls _ hP hD hS rfl (Or.inl rfl) dX9_isLetter_29
  replace h := if_f h c5
  refine lv_aload_n hx hb dX9_isLetter_8 rfl (lv_at hl 0 rfl) ?_
  refine va_get (D := (dC, dI)) (ci := 4) (v := .ref (a0 7)) (C := RX9) (T := TX9) (N := 18) hx hb htg inX9 hown hK hP 0 rfl rfl 8 (by decide) (htg _ gw858) (fun _ h9 => h9) rfl dX9_isLetter_9 ?_
  refine lv_iload_n hx hb dX9_isLetter_12 rfl (lv_at hl 1 rfl) ?_
  obtain ⟨v13, e13, h⟩ := bnd h
  refine x_iald (v := v13) hx hb hK hP 7 0 rfl rfl e13 dX9_isLetter_13 ?_
  refine lv_bipush (v := 97) hx hb dX9_isLetter_14 (by decide) ?_
  refine lv_bipush (v := 112) hx hb dX9_isLetter_16 (by decide) ?_
  obtain ⟨v18, e18, h⟩ := bnd h
  refine cS (av := [.int v13, .int 97, .int 112]) (rest := []) (st1 := [.int v18]) (k1 := 0) (k2 := 0) hx hb hml hown htg hN hK (c_X9_within l dC dI cy   v13 97 112 v18 e18) (g_S gw913 gw914 gw63 gw915) hdS_X9_within rfl ⟨⟨Nat.le_of_ble_eq_true rfl, Nat.le_of_ble_eq_true rfl⟩, Nat.le_of_ble_eq_true rfl, Nat.le_of_ble_eq_true rfl⟩ hP hD hS hA [] [0, 1, 2, 3, 4, 5, 6, 7, 8, 9, 10, 11, 12, 13, 14] rfl rfl rfl (by decide) (by decide) hl.1 rfl (Nat.le_of_ble_eq_true rfl) rfl rfl rfl dX9_isLetter_18 (fun H locs hP hD hS => ?_)
  obtain ⟨hP, hD⟩ := x_perm (ws' := wMod a0 cy m0) hP hD [0, 1, 2, 3, 4, 5, 6, 7, 8, 9, 10, 11, 12, 13, 14] (by decide) rfl rfl
  refine lv_if_eq (tgt := 28) hx hb dX9_isLetter_21 (by decide) (fun c21 => ?_) (fun c21 => ?_)
  · replace h := if_t h c21
    refine lv_iconst (v := 0) hx hb dX9_isLetter_28 (by decide) ?_
    obtain rfl := Option.some.inj h
    exact hE H locs 29 ls _ hP hD hS rfl (Or.inl rfl) dX9_isLetter_29
  replace h := if_f h c21
  refine lv_iconst (v := 1) hx hb dX9_isLetter_24 (by decide) ?_
  refine lv_goto (tgt := 29) hx hb dX9_isLetter_25 (by decide) ?_
  obtain rfl := Option.some.inj h
  exact hE H locs 29 ls _ hP hD hS rfl (Or.inr rfl) dX9_isLetter_29
def G_X9_readText_j223 (r29 : Mod → Int32 → Option (Int32 × Mod))  (m0_223 : Mod) (l5_223 : Int32) (l3_223 : Int32) (l1_223 : Int32) : Option (Int32 × Mod) :=
  (rd 85 (m_state m0_223) 0).bind fun v229 =>
  (wr 85 (m_state m0_223) 0 (v229 + 1)).bind fun g232 =>
  (G_X9_broken (ms_state m0_223 g232)).bind fun v234 =>
  if v234.1 ≤ 0 then
    if l5_223 = 0 then
      r29 v234.2 (l1_223 + 1)
    else
      some ((-9), v234.2)
  else
    some (l3_223, v234.2)
def G_X9_readText_j123 (r29 : Mod → Int32 → Option (Int32 × Mod))  (m0_123 : Mod) (l3_123 : Int32) (l2_123 : Int32) (l1_123 : Int32) : Option (Int32 × Mod) :=
  (G_X9_isLetter m0_123 l1_123).bind fun v125 =>
  ((if v125 = 0 then
      some 0
    else
      (G_X9_many m0_123 l2_123).bind fun v133 =>
      if 10 ≤ v133 then
        some 0
      else
        some 1) : Option (Int32)).bind fun b128 =>
  if b128 = 0 then
    ((if l1_123 = m_textLength m0_123 then
        some 1
      else
        some 0) : Option (Int32)).bind fun b162 =>
    ((if b162 = 0 then
        (rd 90 (m_text m0_123) l1_123).bind fun v182 =>
        if v182 = 47 then
          if 4 ≤ l2_123 + 1 then
            some 0
          else
            some 1
        else
          some 0
      else
        some 0) : Option (Int32)).bind fun b174 =>
    (G_X9_many m0_123 l2_123).bind fun v204 =>
    if v204 < 3 then
      some (l1_123, m0_123)
    else
      if b162 = 0 then
        if b174 = 0 then
          some (l1_123, m0_123)
        else
          G_X9_readText_j223 r29 m0_123 b162 l3_123 l1_123
      else
        G_X9_readText_j223 r29 m0_123 b162 l3_123 l1_123
  else
    some (l1_123 + 1, m0_123)
def G_X9_readText_L47 (r29 : Mod → Int32 → Option (Int32 × Mod))  : Nat → Mod → Int32 → Int32 → Int32 → Option (Int32 × Mod)
  | 0, _, _, _, _ => none
  | n47 + 1, m0_47, l3_47, l2_47, l1_47 =>
    (G_X9_isLetter m0_47 l1_47).bind fun v49 =>
    if v49 = 0 then
      G_X9_readText_j123 r29 m0_47 l3_47 l2_47 l1_47
    else
      (G_X9_isLetter m0_47 (l1_47 + 1)).bind fun v59 =>
      if v59 = 0 then
        G_X9_readText_j123 r29 m0_47 l3_47 l2_47 l1_47
      else
        (G_X9_many m0_47 l2_47).bind fun v67 =>
        if 10 ≤ v67 then
          G_X9_readText_j123 r29 m0_47 l3_47 l2_47 l1_47
        else
          (G_X9_many m0_47 l2_47).bind fun v79 =>
          (rd 90 (m_text m0_47) l1_47).bind fun v87 =>
          (rd 90 (m_text m0_47) (l1_47 + 1)).bind fun v98 =>
          (G_X9_setCorner m0_47 l2_47 v79 (v87 - 97) (v98 - 97)).bind fun v102 =>
          (rd 85 (m_state v102) (1 + l2_47)).bind fun v113 =>
          (wr 85 (m_state v102) (1 + l2_47) (v113 + 1)).bind fun g116 =>
          (G_X9_readText_L47 r29 n47) (ms_state v102 g116) l3_47 l2_47 (l1_47 + 2)
def G_X9_readText_L29   : Nat → Mod → Int32 → Option (Int32 × Mod)
  | 0, _, _ => none
  | n29 + 1, m0_29, l1_29 =>
    (rd 85 (m_state m0_29) 0).bind fun v34 =>
    (wr 85 (m_state m0_29) (1 + v34) 0).bind fun g46 =>
    G_X9_readText_L47 (G_X9_readText_L29 n29) FU (ms_state m0_29 g46) l1_29 v34 l1_29
def G_X9_readText (m0 : Mod) : Option (Int32 × Mod) :=
  (wr 85 (m_state m0) 0 0).bind fun g6 =>
  if m_textLength (ms_state m0 g6) = 0 then
    some (0, ms_state m0 g6)
  else
    (rd 90 (m_text (ms_state m0 g6)) 0).bind fun v19 =>
    if v19 = 70 then
      G_X9_readText_L29 FU (ms_state m0 g6) 1
    else
      some (0, ms_state m0 g6)
abbrev rm_X9_readText : Room := { frames := 5, cells := 0, slots := 0, locals := 125 }
theorem hdS_X9_readText : yX9_readText.cls ≠ "java/lang/invoke/MethodHandle" ∧ yX9_readText.cls ≠ "java/lang/invoke/VarHandle" ∧ (parseMethodDescriptor yX9_readText.desc).map (fun d => d.parameters.length) = some 0 := by decide +kernel
theorem hdV_X9_readText : yX9_readText.cls = RX9 ∧ yX9_readText.cls ≠ "java/lang/invoke/MethodHandle" ∧ yX9_readText.cls ≠ "java/lang/invoke/VarHandle" ∧ (parseMethodDescriptor yX9_readText.desc).map (fun d => d.parameters.length) = some 0 := ⟨rfl, hdS_X9_readText⟩
set_option maxHeartbeats 4000000 in
set_option maxRecDepth 100000 in
theorem c_X9_readText (l : Launch) (dC : Nat → ClassId) (dI : Nat → Nat → Nat) (cy : Nat → ClassId) (a0 : Nat → Nat) (m0 : Mod) (res : Int32 × Mod) (h : G_X9_readText m0 = some res) : CT l (dC, dI) (TY cy) yX9_readText cX9_readText 7 (some .int) rm_X9_readText [.ref (a0 0)] (wMod a0 cy m0) (wMod a0 cy res.2) (some (.int res.1)) := by
  refine CT.mk_i (own := RX9) ⟨by decide, rfl⟩ (Nat.le_of_ble_eq_true rfl) ?_
  intro p e s mm args below meth cd A Q hx hb hml hown htg hN hK hA hP hD hS hE ls hl
  have hl : lv_has ls 7 [(0, .ref (a0 0))] := hl
  replace h : _ = some res := h
  unfold G_X9_readText at h
  obtain ⟨H, hH⟩ : ∃ H, H = s.heap := ⟨_, rfl⟩
  obtain ⟨locs, hlocs⟩ : ∃ locs : List Loc, locs = [] := ⟨_, rfl⟩
  rw [← hlocs] at hS ⊢
  have hS : va_S A s.heap H locs := by rw [hH]; exact hS
  rw [← hH] at hP ⊢
  refine lv_aload_n hx hb dX9_readText_0 rfl (lv_at hl 0 rfl) ?_
  refine va_get (D := (dC, dI)) (ci := 4) (v := .ref (a0 1)) (C := RX9) (T := TX9) (N := 18) hx hb htg inX9 hown hK hP 0 rfl rfl 1 (by decide) (htg _ gw851) (fun _ h9 => h9) rfl dX9_readText_1 ?_
  refine lv_iconst (v := 0) hx hb dX9_readText_4 (by decide) ?_
  refine lv_iconst (v := 0) hx hb dX9_readText_5 (by decide) ?_
  obtain ⟨g6, e6, h⟩ := bnd h
  refine x_iast (g := g6) hx hb hK hP hD hS 1 0 rfl rfl e6 dX9_readText_6 (fun H locs hP hD hS => ?_)
  have hP : va_P (dC, dI) vwCl (wMod a0 cy (ms_state m0 g6)) H := hP
  have hD : va_D A (wMod a0 cy (ms_state m0 g6)) := hD
  refine lv_aload_n hx hb dX9_readText_7 rfl (lv_at hl 0 rfl) ?_
  refine va_get (D := (dC, dI)) (ci := 4) (v := .int (m_textLength (ms_state m0 g6))) (C := RX9) (T := TX9) (N := 18) hx hb htg inX9 hown hK hP 0 rfl rfl 9 (by decide) (htg _ gw859) (fun _ h9 => h9) rfl dX9_readText_8 ?_
  refine lv_if_eq (tgt := 25) hx hb dX9_readText_11 (by decide) (fun c11 => ?_) (fun c11 => ?_)
  · replace h := if_t h c11
    refine lv_iconst (v := 0) hx hb dX9_readText_25 (by decide) ?_
    obtain rfl := Option.some.inj h
    exact hE H locs 26 ls _ hP hD hS rfl dX9_readText_26
  replace h := if_f h c11
  refine lv_aload_n hx hb dX9_readText_14 rfl (lv_at hl 0 rfl) ?_
  refine va_get (D := (dC, dI)) (ci := 4) (v := .ref (a0 7)) (C := RX9) (T := TX9) (N := 18) hx hb htg inX9 hown hK hP 0 rfl rfl 8 (by decide) (htg _ gw858) (fun _ h9 => h9) rfl dX9_readText_15 ?_
  refine lv_iconst (v := 0) hx hb dX9_readText_18 (by decide) ?_
  obtain ⟨v19, e19, h⟩ := bnd h
  refine x_iald (v := v19) hx hb hK hP 7 0 rfl rfl e19 dX9_readText_19 ?_
  refine lv_bipush (v := 70) hx hb dX9_readText_20 (by decide) ?_
  refine lv_icmp_eq (tgt := 27) hx hb dX9_readText_22 (by decide) (fun c22 => ?_) (fun c22 => ?_)
  · replace h := if_t h c22
    refine lv_iconst (v := 1) hx hb dX9_readText_27 (by decide) ?_
    refine lv_istore_n (lv' := [(1, .int 1), (0, .ref (a0 0))]) hx hb dX9_readText_28 rfl hl (by decide) rfl (fun ls hl => ?_)
    have hL29 : ∀ (n29 : Nat) (m0_29 : Mod) (l1_29 : Int32) (H : Heap) (locs : List Loc) (ls : Array Slot), G_X9_readText_L29 n29 m0_29 l1_29 = some res → va_P (dC, dI) vwCl (wMod a0 cy m0_29) H → va_D A (wMod a0 cy m0_29) → va_S A s.heap H locs → lv_has ls 7 [(1, .int l1_29), (0, .ref (a0 0))] → W p l e rm_X9_readText s mm args below meth cd H locs 0 0 Q (F0 mm 29 ls []) := by
      intro n29
      induction n29 with
      | zero => intro m0_29 l1_29 H locs ls h; exact absurd h (by simp [G_X9_readText_L29])
      | succ n29 ih29 =>
        intro m0_29 l1_29 H locs ls h hP hD hS hl
        rw [G_X9_readText_L29] at h
        refine lv_aload_n hx hb dX9_readText_29 rfl (lv_at hl 1 rfl) ?_
        refine va_get (D := (dC, dI)) (ci := 4) (v := .ref (a0 1)) (C := RX9) (T := TX9) (N := 18) hx hb htg inX9 hown hK hP 0 rfl rfl 1 (by decide) (htg _ gw851) (fun _ h9 => h9) rfl dX9_readText_30 ?_
        refine lv_iconst (v := 0) hx hb dX9_readText_33 (by decide) ?_
        obtain ⟨v34, e34, h⟩ := bnd h
        refine x_iald (v := v34) hx hb hK hP 1 0 rfl rfl e34 dX9_readText_34 ?_
        refine lv_istore_n (lv' := [(2, .int v34), (1, .int l1_29), (0, .ref (a0 0))]) hx hb dX9_readText_35 rfl hl (by decide) rfl (fun ls hl => ?_)
        refine lv_iload_n hx hb dX9_readText_36 rfl (lv_at hl 1 rfl) ?_
        refine lv_istore_n (lv' := [(3, .int l1_29), (2, .int v34), (1, .int l1_29), (0, .ref (a0 0))]) hx hb dX9_readText_37 rfl hl (by decide) rfl (fun ls hl => ?_)
        refine lv_aload_n hx hb dX9_readText_38 rfl (lv_at hl 3 rfl) ?_
        refine va_get (D := (dC, dI)) (ci := 4) (v := .ref (a0 1)) (C := RX9) (T := TX9) (N := 18) hx hb htg inX9 hown hK hP 0 rfl rfl 1 (by decide) (htg _ gw851) (fun _ h9 => h9) rfl dX9_readText_39 ?_
        refine lv_iconst (v := 1) hx hb dX9_readText_42 (by decide) ?_
        refine lv_iload_n hx hb dX9_readText_43 rfl (lv_at hl 1 rfl) ?_
        refine lv_iadd hx hb dX9_readText_44 ?_
        refine lv_iconst (v := 0) hx hb dX9_readText_45 (by decide) ?_
        obtain ⟨g46, e46, h⟩ := bnd h
        refine x_iast (g := g46) hx hb hK hP hD hS 1 0 rfl rfl e46 dX9_readText_46 (fun H locs hP hD hS => ?_)
        have hP : va_P (dC, dI) vwCl (wMod a0 cy (ms_state m0_29 g46)) H := hP
        have hD : va_D A (wMod a0 cy (ms_state m0_29 g46)) := hD
        have hL47 : ∀ (n47 : Nat) (m0_47 : Mod) (l3_47 : Int32) (l2_47 : Int32) (l1_47 : Int32) (H : Heap) (locs : List Loc) (ls : Array Slot), G_X9_readText_L47 (G_X9_readText_L29 n29) n47 m0_47 l3_47 l2_47 l1_47 = some res → va_P (dC, dI) vwCl (wMod a0 cy m0_47) H → va_D A (wMod a0 cy m0_47) → va_S A s.heap H locs → lv_has ls 7 [(3, .int l3_47), (2, .int l2_47), (1, .int l1_47), (0, .ref (a0 0))] → W p l e rm_X9_readText s mm args below meth cd H locs 0 0 Q (F0 mm 47 ls []) := by
          intro n47
          induction n47 with
          | zero => intro m0_47 l3_47 l2_47 l1_47 H locs ls h; exact absurd h (by simp [G_X9_readText_L47])
          | succ n47 ih47 =>
            intro m0_47 l3_47 l2_47 l1_47 H locs ls h hP hD hS hl
            rw [G_X9_readText_L47] at h
            refine lv_aload_n hx hb dX9_readText_47 rfl (lv_at hl 3 rfl) ?_
            refine lv_iload_n hx hb dX9_readText_48 rfl (lv_at hl 2 rfl) ?_
            obtain ⟨v49, e49, h⟩ := bnd h
            refine cV (av := [.int l1_47]) (rest := []) (st1 := [.int v49]) (k1 := 0) (k2 := 0) (ci := 4) (q0 := 0) hx hb hml hown htg hN hK (c_X9_isLetter l dC dI cy a0 m0_47 l1_47 v49 e49) (g_V gw931 gw933 gw9 gw63 gw934) hdV_X9_isLetter rfl ⟨⟨Nat.le_of_ble_eq_true rfl, Nat.le_of_ble_eq_true rfl⟩, Nat.le_of_ble_eq_true rfl, Nat.le_of_ble_eq_true rfl⟩ hP hD hS hA ⟨rfl, rfl⟩ rfl [0, 1, 2, 3, 4, 5, 6, 7, 8, 9, 10, 11, 12, 13, 14] [] rfl rfl rfl (by decide) (by decide) hl.1 rfl (Nat.le_of_ble_eq_true rfl) rfl rfl rfl dX9_readText_49 (fun H locs hP hD hS => ?_)
            have hP : va_P (dC, dI) vwCl (wMod a0 cy m0_47) H := hP
            have hD : va_D A (wMod a0 cy m0_47) := hD
            have hj123 : ∀ (m0_123 : Mod) (l3_123 : Int32) (l2_123 : Int32) (l1_123 : Int32) (H : Heap) (locs : List Loc) (ls : Array Slot), G_X9_readText_j123 (G_X9_readText_L29 n29) m0_123 l3_123 l2_123 l1_123 = some res → va_P (dC, dI) vwCl (wMod a0 cy m0_123) H → va_D A (wMod a0 cy m0_123) → va_S A s.heap H locs → lv_has ls 7 [(3, .int l3_123), (2, .int l2_123), (1, .int l1_123), (0, .ref (a0 0))] → W p l e rm_X9_readText s mm args below meth cd H locs 0 0 Q (F0 mm 123 ls []) := by
              intro m0_123 l3_123 l2_123 l1_123 H locs ls h hP hD hS hl
              unfold G_X9_readText_j123 at h
              refine lv_aload_n hx hb dX9_readText_123 rfl (lv_at hl 3 rfl) ?_
              refine lv_iload_n hx hb dX9_readText_124 rfl (lv_at hl 2 rfl) ?_
              obtain ⟨v125, e125, h⟩ := bnd h
              refine cV (av := [.int l1_123]) (rest := []) (st1 := [.int v125]) (k1 := 0) (k2 := 0) (ci := 4) (q0 := 0) hx hb hml hown htg hN hK (c_X9_isLetter l dC dI cy a0 m0_123 l1_123 v125 e125) (g_V gw931 gw933 gw9 gw63 gw934) hdV_X9_isLetter rfl ⟨⟨Nat.le_of_ble_eq_true rfl, Nat.le_of_ble_eq_true rfl⟩, Nat.le_of_ble_eq_true rfl, Nat.le_of_ble_eq_true rfl⟩ hP hD hS hA ⟨rfl, rfl⟩ rfl [0, 1, 2, 3, 4, 5, 6, 7, 8, 9, 10, 11, 12, 13, 14] [] rfl rfl rfl (by decide) (by decide) hl.1 rfl (Nat.le_of_ble_eq_true rfl) rfl rfl rfl dX9_readText_125 (fun H locs hP hD hS => ?_)
              have hP : va_P (dC, dI) vwCl (wMod a0 cy m0_123) H := hP
              have hD : va_D A (wMod a0 cy m0_123) := hD
              obtain ⟨b128, e128, h⟩ := bnd h
              have hr146 : ∀ (H : Heap) (locs : List Loc) (ls : Array Slot), va_P (dC, dI) vwCl (wMod a0 cy m0_123) H → va_D A (wMod a0 cy m0_123) → va_S A s.heap H locs → lv_has ls 7 [(3, .int l3_123), (2, .int l2_123), (1, .int l1_123), (0, .ref (a0 0))] → W p l e rm_X9_readText s mm args below meth cd H locs 0 0 Q (F0 mm 146 ls [.int b128]) := by
                intro H locs ls hP hD hS hl
                refine lv_istore (lv' := [(4, .int b128), (3, .int l3_123), (2, .int l2_123), (1, .int l1_123), (0, .ref (a0 0))]) hx hb dX9_readText_146 hl (by decide) rfl (fun ls hl => ?_)
                refine lv_iload hx hb dX9_readText_148 (lv_at hl 0 rfl) ?_
                refine lv_if_eq (tgt := 157) hx hb dX9_readText_150 (by decide) (fun c150 => ?_) (fun c150 => ?_)
                · replace h := if_t h c150
                  refine lv_iload_n hx hb dX9_readText_157 rfl (lv_at hl 3 rfl) ?_
                  refine lv_aload_n hx hb dX9_readText_158 rfl (lv_at hl 4 rfl) ?_
                  refine va_get (D := (dC, dI)) (ci := 4) (v := .int (m_textLength m0_123)) (C := RX9) (T := TX9) (N := 18) hx hb htg inX9 hown hK hP 0 rfl rfl 9 (by decide) (htg _ gw859) (fun _ h9 => h9) rfl dX9_readText_159 ?_
                  obtain ⟨b162, e162, h⟩ := bnd h
                  have hr170 : ∀ (H : Heap) (locs : List Loc) (ls : Array Slot), va_P (dC, dI) vwCl (wMod a0 cy m0_123) H → va_D A (wMod a0 cy m0_123) → va_S A s.heap H locs → lv_has ls 7 [(4, .int b128), (3, .int l3_123), (2, .int l2_123), (1, .int l1_123), (0, .ref (a0 0))] → W p l e rm_X9_readText s mm args below meth cd H locs 0 0 Q (F0 mm 170 ls [.int b162]) := by
                    intro H locs ls hP hD hS hl
                    refine lv_istore (lv' := [(5, .int b162), (4, .int b128), (3, .int l3_123), (2, .int l2_123), (1, .int l1_123), (0, .ref (a0 0))]) hx hb dX9_readText_170 hl (by decide) rfl (fun ls hl => ?_)
                    refine lv_iload hx hb dX9_readText_172 (lv_at hl 0 rfl) ?_
                    obtain ⟨b174, e174, h⟩ := bnd h
                    have hr200 : ∀ (H : Heap) (locs : List Loc) (ls : Array Slot), va_P (dC, dI) vwCl (wMod a0 cy m0_123) H → va_D A (wMod a0 cy m0_123) → va_S A s.heap H locs → lv_has ls 7 [(5, .int b162), (4, .int b128), (3, .int l3_123), (2, .int l2_123), (1, .int l1_123), (0, .ref (a0 0))] → W p l e rm_X9_readText s mm args below meth cd H locs 0 0 Q (F0 mm 200 ls [.int b174]) := by
                      intro H locs ls hP hD hS hl
                      refine lv_istore (lv' := [(6, .int b174), (5, .int b162), (4, .int b128), (3, .int l3_123), (2, .int l2_123), (1, .int l1_123), (0, .ref (a0 0))]) hx hb dX9_readText_200 hl (by decide) rfl (fun ls hl => ?_)
                      refine lv_aload_n hx hb dX9_readText_202 rfl (lv_at hl 6 rfl) ?_
                      refine lv_iload_n hx hb dX9_readText_203 rfl (lv_at hl 4 rfl) ?_
                      obtain ⟨v204, e204, h⟩ := bnd h
                      refine cV (av := [.int l2_123]) (rest := []) (st1 := [.int v204]) (k1 := 0) (k2 := 0) (ci := 4) (q0 := 0) hx hb hml hown htg hN hK (c_X9_many l dC dI cy a0 m0_123 l2_123 v204 e204) (g_V gw935 gw937 gw10 gw63 gw938) hdV_X9_many rfl ⟨⟨Nat.le_of_ble_eq_true rfl, Nat.le_of_ble_eq_true rfl⟩, Nat.le_of_ble_eq_true rfl, Nat.le_of_ble_eq_true rfl⟩ hP hD hS hA ⟨rfl, rfl⟩ rfl [0, 1, 2, 3, 4, 5, 6, 7, 8, 9, 10, 11, 12, 13, 14] [] rfl rfl rfl (by decide) (by decide) hl.1 rfl (Nat.le_of_ble_eq_true rfl) rfl rfl rfl dX9_readText_204 (fun H locs hP hD hS => ?_)
                      have hP : va_P (dC, dI) vwCl (wMod a0 cy m0_123) H := hP
                      have hD : va_D A (wMod a0 cy m0_123) := hD
                      refine lv_iconst (v := 3) hx hb dX9_readText_207 (by decide) ?_
                      refine lv_icmp_lt (tgt := 221) hx hb dX9_readText_208 (by decide) (fun c208 => ?_) (fun c208 => ?_)
                      · replace h := if_t h c208
                        refine lv_iload_n hx hb dX9_readText_221 rfl (lv_at hl 5 rfl) ?_
                        obtain rfl := Option.some.inj h
                        exact hE H locs 222 ls _ hP hD hS rfl dX9_readText_222
                      replace h := if_f h c208
                      refine lv_iload hx hb dX9_readText_211 (lv_at hl 1 rfl) ?_
                      have hj223 : ∀ (m0_223 : Mod) (l5_223 : Int32) (l3_223 : Int32) (l1_223 : Int32) (H : Heap) (locs : List Loc) (ls : Array Slot), G_X9_readText_j223 (G_X9_readText_L29 n29) m0_223 l5_223 l3_223 l1_223 = some res → va_P (dC, dI) vwCl (wMod a0 cy m0_223) H → va_D A (wMod a0 cy m0_223) → va_S A s.heap H locs → lv_has ls 7 [(5, .int l5_223), (3, .int l3_223), (1, .int l1_223), (0, .ref (a0 0))] → W p l e rm_X9_readText s mm args below meth cd H locs 0 0 Q (F0 mm 223 ls []) := by
                        intro m0_223 l5_223 l3_223 l1_223 H locs ls h hP hD hS hl
                        unfold G_X9_readText_j223 at h
                        refine lv_aload_n hx hb dX9_readText_223 rfl (lv_at hl 3 rfl) ?_
                        refine va_get (D := (dC, dI)) (ci := 4) (v := .ref (a0 1)) (C := RX9) (T := TX9) (N := 18) hx hb htg inX9 hown hK hP 0 rfl rfl 1 (by decide) (htg _ gw851) (fun _ h9 => h9) rfl dX9_readText_224 ?_
                        refine lv_iconst (v := 0) hx hb dX9_readText_227 (by decide) ?_
                        refine lv_dup2_11 hx hb dX9_readText_228 rfl rfl ?_
                        obtain ⟨v229, e229, h⟩ := bnd h
                        refine x_iald (v := v229) hx hb hK hP 1 0 rfl rfl e229 dX9_readText_229 ?_
                        refine lv_iconst (v := 1) hx hb dX9_readText_230 (by decide) ?_
                        refine lv_iadd hx hb dX9_readText_231 ?_
                        obtain ⟨g232, e232, h⟩ := bnd h
                        refine x_iast (g := g232) hx hb hK hP hD hS 1 0 rfl rfl e232 dX9_readText_232 (fun H locs hP hD hS => ?_)
                        have hP : va_P (dC, dI) vwCl (wMod a0 cy (ms_state m0_223 g232)) H := hP
                        have hD : va_D A (wMod a0 cy (ms_state m0_223 g232)) := hD
                        refine lv_aload_n hx hb dX9_readText_233 rfl (lv_at hl 3 rfl) ?_
                        obtain ⟨v234, e234, h⟩ := bnd h
                        refine cV (av := []) (rest := []) (st1 := [.int v234.1]) (k1 := 0) (k2 := 0) (ci := 4) (q0 := 0) hx hb hml hown htg hN hK (c_X9_broken l dC dI cy a0 (ms_state m0_223 g232)  v234 e234) (g_V gw939 gw941 gw11 gw63 gw942) hdV_X9_broken rfl ⟨⟨Nat.le_of_ble_eq_true rfl, Nat.le_of_ble_eq_true rfl⟩, Nat.le_of_ble_eq_true rfl, Nat.le_of_ble_eq_true rfl⟩ hP hD hS hA ⟨rfl, rfl⟩ rfl [0, 1, 2, 3, 4, 5, 6, 7, 8, 9, 10, 11, 12, 13, 14] [] rfl rfl rfl (by decide) (by decide) hl.1 rfl (Nat.le_of_ble_eq_true rfl) rfl rfl rfl dX9_readText_234 (fun H locs hP hD hS => ?_)
                        have hP : va_P (dC, dI) vwCl (wMod a0 cy v234.2) H := hP
                        have hD : va_D A (wMod a0 cy v234.2) := hD
                        refine lv_if_le (tgt := 242) hx hb dX9_readText_237 (by decide) (fun c237 => ?_) (fun c237 => ?_)
                        · replace h := if_t h c237
                          refine lv_iload hx hb dX9_readText_242 (lv_at hl 0 rfl) ?_
                          refine lv_if_eq (tgt := 250) hx hb dX9_readText_244 (by decide) (fun c244 => ?_) (fun c244 => ?_)
                          · replace h := if_t h c244
                            refine lv_iinc (v := l1_223 + 1) (lv' := [(1, .int (l1_223 + 1)), (5, .int l5_223), (3, .int l3_223), (0, .ref (a0 0))]) hx hb dX9_readText_250 hl (k := 2) rfl rfl (by decide) rfl (fun ls hl => ?_)
                            refine lv_goto (tgt := 29) hx hb dX9_readText_253 (by decide) ?_
                            exact ih29 v234.2 (l1_223 + 1) H locs ls h hP hD hS (lv_sub hl [0, 3] rfl)
                          replace h := if_f h c244
                          refine lv_bipush (v := (-9)) hx hb dX9_readText_247 (by decide) ?_
                          obtain rfl := Option.some.inj h
                          exact hE H locs 249 ls _ hP hD hS rfl dX9_readText_249
                        replace h := if_f h c237
                        refine lv_iload_n hx hb dX9_readText_240 rfl (lv_at hl 1 rfl) ?_
                        obtain rfl := Option.some.inj h
                        exact hE H locs 241 ls _ hP hD hS rfl dX9_readText_241
                      refine lv_if_ne (tgt := 223) hx hb dX9_readText_213 (by decide) (fun c213 => ?_) (fun c213 => ?_)
                      · replace h := if_f h c213
                        exact hj223 m0_123 b162 l3_123 l1_123 H locs ls h hP hD hS (lv_sub hl [1, 3, 5, 6] rfl)
                      replace h := if_t h c213
                      refine lv_iload hx hb dX9_readText_216 (lv_at hl 0 rfl) ?_
                      refine lv_if_ne (tgt := 223) hx hb dX9_readText_218 (by decide) (fun c218 => ?_) (fun c218 => ?_)
                      · replace h := if_f h c218
                        exact hj223 m0_123 b162 l3_123 l1_123 H locs ls h hP hD hS (lv_sub hl [1, 3, 5, 6] rfl)
                      replace h := if_t h c218
                      refine lv_iload_n hx hb dX9_readText_221 rfl (lv_at hl 5 rfl) ?_
                      obtain rfl := Option.some.inj h
                      exact hE H locs 222 ls _ hP hD hS rfl dX9_readText_222
                    have h := e174
                    clear e174
                    refine lv_if_ne (tgt := 199) hx hb dX9_readText_174 (by decide) (fun c174 => ?_) (fun c174 => ?_)
                    · replace h := if_f h c174
                      refine lv_iconst (v := 0) hx hb dX9_readText_199 (by decide) ?_
                      obtain rfl := Option.some.inj h
                      exact hr200 H locs ls hP hD hS hl
                    replace h := if_t h c174
                    refine lv_aload_n hx hb dX9_readText_177 rfl (lv_at hl 5 rfl) ?_
                    refine va_get (D := (dC, dI)) (ci := 4) (v := .ref (a0 7)) (C := RX9) (T := TX9) (N := 18) hx hb htg inX9 hown hK hP 0 rfl rfl 8 (by decide) (htg _ gw858) (fun _ h9 => h9) rfl dX9_readText_178 ?_
                    refine lv_iload_n hx hb dX9_readText_181 rfl (lv_at hl 4 rfl) ?_
                    obtain ⟨v182, e182, h⟩ := bnd h
                    refine x_iald (v := v182) hx hb hK hP 7 0 rfl rfl e182 dX9_readText_182 ?_
                    refine lv_bipush (v := 47) hx hb dX9_readText_183 (by decide) ?_
                    refine lv_icmp_ne (tgt := 199) hx hb dX9_readText_185 (by decide) (fun c185 => ?_) (fun c185 => ?_)
                    · replace h := if_f h c185
                      refine lv_iconst (v := 0) hx hb dX9_readText_199 (by decide) ?_
                      obtain rfl := Option.some.inj h
                      exact hr200 H locs ls hP hD hS hl
                    replace h := if_t h c185
                    refine lv_iload_n hx hb dX9_readText_188 rfl (lv_at hl 3 rfl) ?_
                    refine lv_iconst (v := 1) hx hb dX9_readText_189 (by decide) ?_
                    refine lv_iadd hx hb dX9_readText_190 ?_
                    refine lv_iconst (v := 4) hx hb dX9_readText_191 (by decide) ?_
                    refine lv_icmp_ge (tgt := 199) hx hb dX9_readText_192 (by decide) (fun c192 => ?_) (fun c192 => ?_)
                    · replace h := if_t h c192
                      refine lv_iconst (v := 0) hx hb dX9_readText_199 (by decide) ?_
                      obtain rfl := Option.some.inj h
                      exact hr200 H locs ls hP hD hS hl
                    replace h := if_f h c192
                    refine lv_iconst (v := 1) hx hb dX9_readText_195 (by decide) ?_
                    refine lv_goto (tgt := 200) hx hb dX9_readText_196 (by decide) ?_
                    obtain rfl := Option.some.inj h
                    exact hr200 H locs ls hP hD hS hl
                  have h := e162
                  clear e162
                  refine lv_icmp_ne (tgt := 169) hx hb dX9_readText_162 (by decide) (fun c162 => ?_) (fun c162 => ?_)
                  · replace h := if_f h c162
                    refine lv_iconst (v := 0) hx hb dX9_readText_169 (by decide) ?_
                    obtain rfl := Option.some.inj h
                    exact hr170 H locs ls hP hD hS hl
                  replace h := if_t h c162
                  refine lv_iconst (v := 1) hx hb dX9_readText_165 (by decide) ?_
                  refine lv_goto (tgt := 170) hx hb dX9_readText_166 (by decide) ?_
                  obtain rfl := Option.some.inj h
                  exact hr170 H locs ls hP hD hS hl
                replace h := if_f h c150
                refine lv_iload_n hx hb dX9_readText_153 rfl (lv_at hl 3 rfl) ?_
                refine lv_iconst (v := 1) hx hb dX9_readText_154 (by decide) ?_
                refine lv_iadd hx hb dX9_readText_155 ?_
                obtain rfl := Option.some.inj h
                exact hE H locs 156 ls _ hP hD hS rfl dX9_readText_156
              have h := e128
              clear e128
              refine lv_if_eq (tgt := 145) hx hb dX9_readText_128 (by decide) (fun c128 => ?_) (fun c128 => ?_)
              · replace h := if_t h c128
                refine lv_iconst (v := 0) hx hb dX9_readText_145 (by decide) ?_
                obtain rfl := Option.some.inj h
                exact hr146 H locs ls hP hD hS hl
              replace h := if_f h c128
              refine lv_aload_n hx hb dX9_readText_131 rfl (lv_at hl 3 rfl) ?_
              refine lv_iload_n hx hb dX9_readText_132 rfl (lv_at hl 1 rfl) ?_
              obtain ⟨v133, e133, h⟩ := bnd h
              refine cV (av := [.int l2_123]) (rest := []) (st1 := [.int v133]) (k1 := 0) (k2 := 0) (ci := 4) (q0 := 0) hx hb hml hown htg hN hK (c_X9_many l dC dI cy a0 m0_123 l2_123 v133 e133) (g_V gw935 gw937 gw10 gw63 gw938) hdV_X9_many rfl ⟨⟨Nat.le_of_ble_eq_true rfl, Nat.le_of_ble_eq_true rfl⟩, Nat.le_of_ble_eq_true rfl, Nat.le_of_ble_eq_true rfl⟩ hP hD hS hA ⟨rfl, rfl⟩ rfl [0, 1, 2, 3, 4, 5, 6, 7, 8, 9, 10, 11, 12, 13, 14] [] rfl rfl rfl (by decide) (by decide) hl.1 rfl (Nat.le_of_ble_eq_true rfl) rfl rfl rfl dX9_readText_133 (fun H locs hP hD hS => ?_)
              have hP : va_P (dC, dI) vwCl (wMod a0 cy m0_123) H := hP
              have hD : va_D A (wMod a0 cy m0_123) := hD
              refine lv_bipush (v := 10) hx hb dX9_readText_136 (by decide) ?_
              refine lv_icmp_ge (tgt := 145) hx hb dX9_readText_138 (by decide) (fun c138 => ?_) (fun c138 => ?_)
              · replace h := if_t h c138
                refine lv_iconst (v := 0) hx hb dX9_readText_145 (by decide) ?_
                obtain rfl := Option.some.inj h
                exact hr146 H locs ls hP hD hS hl
              replace h := if_f h c138
              refine lv_iconst (v := 1) hx hb dX9_readText_141 (by decide) ?_
              refine lv_goto (tgt := 146) hx hb dX9_readText_142 (by decide) ?_
              obtain rfl := Option.some.inj h
              exact hr146 H locs ls hP hD hS hl
            refine lv_if_eq (tgt := 123) hx hb dX9_readText_52 (by decide) (fun c52 => ?_) (fun c52 => ?_)
            · replace h := if_t h c52
              exact hj123 m0_47 l3_47 l2_47 l1_47 H locs ls h hP hD hS (lv_sub hl [0, 1, 2, 3] rfl)
            replace h := if_f h c52
            refine lv_aload_n hx hb dX9_readText_55 rfl (lv_at hl 3 rfl) ?_
            refine lv_iload_n hx hb dX9_readText_56 rfl (lv_at hl 2 rfl) ?_
            refine lv_iconst (v := 1) hx hb dX9_readText_57 (by decide) ?_
            refine lv_iadd hx hb dX9_readText_58 ?_
            obtain ⟨v59, e59, h⟩ := bnd h
            refine cV (av := [.int (l1_47 + 1)]) (rest := []) (st1 := [.int v59]) (k1 := 0) (k2 := 0) (ci := 4) (q0 := 0) hx hb hml hown htg hN hK (c_X9_isLetter l dC dI cy a0 m0_47 (l1_47 + 1) v59 e59) (g_V gw931 gw933 gw9 gw63 gw934) hdV_X9_isLetter rfl ⟨⟨Nat.le_of_ble_eq_true rfl, Nat.le_of_ble_eq_true rfl⟩, Nat.le_of_ble_eq_true rfl, Nat.le_of_ble_eq_true rfl⟩ hP hD hS hA ⟨rfl, rfl⟩ rfl [0, 1, 2, 3, 4, 5, 6, 7, 8, 9, 10, 11, 12, 13, 14] [] rfl rfl rfl (by decide) (by decide) hl.1 rfl (Nat.le_of_ble_eq_true rfl) rfl rfl rfl dX9_readText_59 (fun H locs hP hD hS => ?_)
            have hP : va_P (dC, dI) vwCl (wMod a0 cy m0_47) H := hP
            have hD : va_D A (wMod a0 cy m0_47) := hD
            refine lv_if_eq (tgt := 123) hx hb dX9_readText_62 (by decide) (fun c62 => ?_) (fun c62 => ?_)
            · replace h := if_t h c62
              exact hj123 m0_47 l3_47 l2_47 l1_47 H locs ls h hP hD hS (lv_sub hl [0, 1, 2, 3] rfl)
            replace h := if_f h c62
            refine lv_aload_n hx hb dX9_readText_65 rfl (lv_at hl 3 rfl) ?_
            refine lv_iload_n hx hb dX9_readText_66 rfl (lv_at hl 1 rfl) ?_
            obtain ⟨v67, e67, h⟩ := bnd h
            refine cV (av := [.int l2_47]) (rest := []) (st1 := [.int v67]) (k1 := 0) (k2 := 0) (ci := 4) (q0 := 0) hx hb hml hown htg hN hK (c_X9_many l dC dI cy a0 m0_47 l2_47 v67 e67) (g_V gw935 gw937 gw10 gw63 gw938) hdV_X9_many rfl ⟨⟨Nat.le_of_ble_eq_true rfl, Nat.le_of_ble_eq_true rfl⟩, Nat.le_of_ble_eq_true rfl, Nat.le_of_ble_eq_true rfl⟩ hP hD hS hA ⟨rfl, rfl⟩ rfl [0, 1, 2, 3, 4, 5, 6, 7, 8, 9, 10, 11, 12, 13, 14] [] rfl rfl rfl (by decide) (by decide) hl.1 rfl (Nat.le_of_ble_eq_true rfl) rfl rfl rfl dX9_readText_67 (fun H locs hP hD hS => ?_)
            have hP : va_P (dC, dI) vwCl (wMod a0 cy m0_47) H := hP
            have hD : va_D A (wMod a0 cy m0_47) := hD
            refine lv_bipush (v := 10) hx hb dX9_readText_70 (by decide) ?_
            refine lv_icmp_ge (tgt := 123) hx hb dX9_readText_72 (by decide) (fun c72 => ?_) (fun c72 => ?_)
            · replace h := if_t h c72
              exact hj123 m0_47 l3_47 l2_47 l1_47 H locs ls h hP hD hS (lv_sub hl [0, 1, 2, 3] rfl)
            replace h := if_f h c72
            refine lv_aload_n hx hb dX9_readText_75 rfl (lv_at hl 3 rfl) ?_
            refine lv_iload_n hx hb dX9_readText_76 rfl (lv_at hl 1 rfl) ?_
            refine lv_aload_n hx hb dX9_readText_77 rfl (lv_at hl 3 rfl) ?_
            refine lv_iload_n hx hb dX9_readText_78 rfl (lv_at hl 1 rfl) ?_
            obtain ⟨v79, e79, h⟩ := bnd h
            refine cV (av := [.int l2_47]) (rest := [.int l2_47, .ref (a0 0)]) (st1 := [.int v79, .int l2_47, .ref (a0 0)]) (k1 := 0) (k2 := 0) (ci := 4) (q0 := 0) hx hb hml hown htg hN hK (c_X9_many l dC dI cy a0 m0_47 l2_47 v79 e79) (g_V gw935 gw937 gw10 gw63 gw938) hdV_X9_many rfl ⟨⟨Nat.le_of_ble_eq_true rfl, Nat.le_of_ble_eq_true rfl⟩, Nat.le_of_ble_eq_true rfl, Nat.le_of_ble_eq_true rfl⟩ hP hD hS hA ⟨rfl, rfl⟩ rfl [0, 1, 2, 3, 4, 5, 6, 7, 8, 9, 10, 11, 12, 13, 14] [] rfl rfl rfl (by decide) (by decide) hl.1 rfl (Nat.le_of_ble_eq_true rfl) rfl rfl rfl dX9_readText_79 (fun H locs hP hD hS => ?_)
            have hP : va_P (dC, dI) vwCl (wMod a0 cy m0_47) H := hP
            have hD : va_D A (wMod a0 cy m0_47) := hD
            refine lv_aload_n hx hb dX9_readText_82 rfl (lv_at hl 3 rfl) ?_
            refine va_get (D := (dC, dI)) (ci := 4) (v := .ref (a0 7)) (C := RX9) (T := TX9) (N := 18) hx hb htg inX9 hown hK hP 0 rfl rfl 8 (by decide) (htg _ gw858) (fun _ h9 => h9) rfl dX9_readText_83 ?_
            refine lv_iload_n hx hb dX9_readText_86 rfl (lv_at hl 2 rfl) ?_
            obtain ⟨v87, e87, h⟩ := bnd h
            refine x_iald (v := v87) hx hb hK hP 7 0 rfl rfl e87 dX9_readText_87 ?_
            refine lv_bipush (v := 97) hx hb dX9_readText_88 (by decide) ?_
            refine lv_isub hx hb dX9_readText_90 ?_
            refine lv_aload_n hx hb dX9_readText_91 rfl (lv_at hl 3 rfl) ?_
            refine va_get (D := (dC, dI)) (ci := 4) (v := .ref (a0 7)) (C := RX9) (T := TX9) (N := 18) hx hb htg inX9 hown hK hP 0 rfl rfl 8 (by decide) (htg _ gw858) (fun _ h9 => h9) rfl dX9_readText_92 ?_
            refine lv_iload_n hx hb dX9_readText_95 rfl (lv_at hl 2 rfl) ?_
            refine lv_iconst (v := 1) hx hb dX9_readText_96 (by decide) ?_
            refine lv_iadd hx hb dX9_readText_97 ?_
            obtain ⟨v98, e98, h⟩ := bnd h
            refine x_iald (v := v98) hx hb hK hP 7 0 rfl rfl e98 dX9_readText_98 ?_
            refine lv_bipush (v := 97) hx hb dX9_readText_99 (by decide) ?_
            refine lv_isub hx hb dX9_readText_101 ?_
            obtain ⟨v102, e102, h⟩ := bnd h
            refine cV (av := [.int l2_47, .int v79, .int (v87 - 97), .int (v98 - 97)]) (rest := []) (st1 := []) (k1 := 0) (k2 := 0) (ci := 4) (q0 := 0) hx hb hml hown htg hN hK (c_X9_setCorner l dC dI cy a0 m0_47 l2_47 v79 (v87 - 97) (v98 - 97) v102 e102) (g_V gw846 gw848 gw7 gw63 gw849) hdV_X9_setCorner rfl ⟨⟨Nat.le_of_ble_eq_true rfl, Nat.le_of_ble_eq_true rfl⟩, Nat.le_of_ble_eq_true rfl, Nat.le_of_ble_eq_true rfl⟩ hP hD hS hA ⟨rfl, rfl⟩ rfl [0, 1, 2, 3, 4, 5, 6, 7, 8, 9, 10, 11, 12, 13, 14] [] rfl rfl rfl (by decide) (by decide) hl.1 rfl (Nat.le_of_ble_eq_true rfl) rfl rfl rfl dX9_readText_102 (fun H locs hP hD hS => ?_)
            have hP : va_P (dC, dI) vwCl (wMod a0 cy v102) H := hP
            have hD : va_D A (wMod a0 cy v102) := hD
            refine lv_aload_n hx hb dX9_readText_105 rfl (lv_at hl 3 rfl) ?_
            refine va_get (D := (dC, dI)) (ci := 4) (v := .ref (a0 1)) (C := RX9) (T := TX9) (N := 18) hx hb htg inX9 hown hK hP 0 rfl rfl 1 (by decide) (htg _ gw851) (fun _ h9 => h9) rfl dX9_readText_106 ?_
            refine lv_iconst (v := 1) hx hb dX9_readText_109 (by decide) ?_
            refine lv_iload_n hx hb dX9_readText_110 rfl (lv_at hl 1 rfl) ?_
            refine lv_iadd hx hb dX9_readText_111 ?_
            refine lv_dup2_11 hx hb dX9_readText_112 rfl rfl ?_
            obtain ⟨v113, e113, h⟩ := bnd h
            refine x_iald (v := v113) hx hb hK hP 1 0 rfl rfl e113 dX9_readText_113 ?_
            refine lv_iconst (v := 1) hx hb dX9_readText_114 (by decide) ?_
            refine lv_iadd hx hb dX9_readText_115 ?_
            obtain ⟨g116, e116, h⟩ := bnd h
            refine x_iast (g := g116) hx hb hK hP hD hS 1 0 rfl rfl e116 dX9_readText_116 (fun H locs hP hD hS => ?_)
            have hP : va_P (dC, dI) vwCl (wMod a0 cy (ms_state v102 g116)) H := hP
            have hD : va_D A (wMod a0 cy (ms_state v102 g116)) := hD
            refine lv_iinc (v := l1_47 + 2) (lv' := [(1, .int (l1_47 + 2)), (3, .int l3_47), (2, .int l2_47), (0, .ref (a0 0))]) hx hb dX9_readText_117 hl (k := 2) rfl rfl (by decide) rfl (fun ls hl => ?_)
            refine lv_goto (tgt := 47) hx hb dX9_readText_120 (by decide) ?_
            exact ih47 (ms_state v102 g116) l3_47 l2_47 (l1_47 + 2) H locs ls h hP hD hS (lv_sub hl [1, 2, 0, 3] rfl)
        exact hL47 FU (ms_state m0_29 g46) l1_29 v34 l1_29 H locs ls h hP hD hS (lv_sub hl [0, 1, 2, 3] rfl)
    exact hL29 FU (ms_state m0 g6) 1 H locs ls h hP hD hS (lv_sub hl [0, 1] rfl)
  replace h := if_f h c22
  refine lv_iconst (v := 0) hx hb dX9_readText_25 (by decide) ?_
  obtain rfl := Option.some.inj h
  exact hE H locs 26 ls _ hP hD hS rfl dX9_readText_26
def G_X9_errorPosition (m0 : Mod) : Option (Int32 × Mod) :=
  (some (ms_thrown m0 0)).bind fun z0_15 =>
  (G_X9_copy 85 85 (m_state (z0_15)) (m_kept (z0_15)) 0 0).bind fun v15 =>
  (G_X9_readText (ms_kept z0_15 v15)).bind fun v19 =>
  (G_X9_copy 85 85 (m_kept v19.2) (m_state v19.2) 0 0).bind fun v33 =>
  some (v19.1, ms_state v19.2 v33)
abbrev rm_X9_errorPosition : Room := { frames := 6, cells := 0, slots := 0, locals := 151 }
theorem hdS_X9_errorPosition : yX9_errorPosition.cls ≠ "java/lang/invoke/MethodHandle" ∧ yX9_errorPosition.cls ≠ "java/lang/invoke/VarHandle" ∧ (parseMethodDescriptor yX9_errorPosition.desc).map (fun d => d.parameters.length) = some 0 := by decide +kernel
theorem hdV_X9_errorPosition : yX9_errorPosition.cls = RX9 ∧ yX9_errorPosition.cls ≠ "java/lang/invoke/MethodHandle" ∧ yX9_errorPosition.cls ≠ "java/lang/invoke/VarHandle" ∧ (parseMethodDescriptor yX9_errorPosition.desc).map (fun d => d.parameters.length) = some 0 := ⟨rfl, hdS_X9_errorPosition⟩
set_option maxHeartbeats 4000000 in
set_option maxRecDepth 100000 in
theorem c_X9_errorPosition (l : Launch) (dC : Nat → ClassId) (dI : Nat → Nat → Nat) (cy : Nat → ClassId) (a0 : Nat → Nat) (m0 : Mod) (res : Int32 × Mod) (h : G_X9_errorPosition m0 = some res) : CT l (dC, dI) (TY cy) yX9_errorPosition cX9_errorPosition 2 (some .int) rm_X9_errorPosition [.ref (a0 0)] (wMod a0 cy m0) (wMod a0 cy res.2) (some (.int res.1)) := by
  refine CT.mk_i (own := RX9) ⟨by decide, rfl⟩ (Nat.le_of_ble_eq_true rfl) ?_
  intro p e s mm args below meth cd A Q hx hb hml hown htg hN hK hA hP hD hS hE ls hl
  have hl : lv_has ls 2 [(0, .ref (a0 0))] := hl
  replace h : _ = some res := h
  unfold G_X9_errorPosition at h
  obtain ⟨H, hH⟩ : ∃ H, H = s.heap := ⟨_, rfl⟩
  obtain ⟨locs, hlocs⟩ : ∃ locs : List Loc, locs = [] := ⟨_, rfl⟩
  rw [← hlocs] at hS ⊢
  have hS : va_S A s.heap H locs := by rw [hH]; exact hS
  rw [← hH] at hP ⊢
  refine lv_aload_n hx hb dX9_errorPosition_0 rfl (lv_at hl 0 rfl) ?_
  refine lv_iconst (v := 0) hx hb dX9_errorPosition_1 (by decide) ?_
  refine va_put (D := (dC, dI)) (ci := 4) (v := .int 0) (ty := .int) (C := RX9) (T := TX9) (N := 18) hx hb htg inX9 tyX9 tyX9_ok nmX9 hown hK hP hD hS 0 rfl rfl 0 (by decide) (htg _ gw850) (fun _ h9 => h9) rfl (by decide +kernel) rfl rfl (Nat.le_of_ble_eq_true rfl) dX9_errorPosition_2 (fun H locs hP hD hS => ?_)
  have hP : va_P (dC, dI) vwCl (wMod a0 cy (ms_thrown m0 0)) H := hP
  have hD : va_D A (wMod a0 cy (ms_thrown m0 0)) := hD
  refine lv_aload_n hx hb dX9_errorPosition_5 rfl (lv_at hl 0 rfl) ?_
  refine va_get (D := (dC, dI)) (ci := 4) (v := .ref (a0 1)) (C := RX9) (T := TX9) (N := 18) hx hb htg inX9 hown hK hP 0 rfl rfl 1 (by decide) (htg _ gw851) (fun _ h9 => h9) rfl dX9_errorPosition_6 ?_
  refine lv_iconst (v := 0) hx hb dX9_errorPosition_9 (by decide) ?_
  refine lv_aload_n hx hb dX9_errorPosition_10 rfl (lv_at hl 0 rfl) ?_
  refine va_get (D := (dC, dI)) (ci := 4) (v := .ref (a0 2)) (C := RX9) (T := TX9) (N := 18) hx hb htg inX9 hown hK hP 0 rfl rfl 2 (by decide) (htg _ gw852) (fun _ h9 => h9) rfl dX9_errorPosition_11 ?_
  refine lv_iconst (v := 0) hx hb dX9_errorPosition_14 (by decide) ?_
  obtain ⟨z0_15, ez0_15, h⟩ := bnd h
  replace ez0_15 := Option.some.inj ez0_15
  rw [ez0_15] at hP hD
  obtain ⟨v15, e15, h⟩ := bnd h
  refine cS (av := [.ref (a0 1), .int 0, .ref (a0 2), .int 0]) (rest := []) (st1 := []) (k1 := 0) (k2 := 0) hx hb hml hown htg hN hK (c_X9_copy l dC dI cy (a0 1) (a0 2) 85 85 (m_state (z0_15)) (m_kept (z0_15)) 0 0 v15 e15) (g_S gw924 gw925 gw63 gw926) hdS_X9_copy rfl ⟨⟨Nat.le_of_ble_eq_true rfl, Nat.le_of_ble_eq_true rfl⟩, Nat.le_of_ble_eq_true rfl, Nat.le_of_ble_eq_true rfl⟩ hP hD hS hA [1, 2] [0, 3, 4, 5, 6, 7, 8, 9, 10, 11, 12, 13, 14] rfl rfl rfl (by decide) (by decide) hl.1 rfl (Nat.le_of_ble_eq_true rfl) rfl rfl rfl dX9_errorPosition_15 (fun H locs hP hD hS => ?_)
  obtain ⟨hP, hD⟩ := x_perm (ws' := wMod a0 cy (ms_kept z0_15 v15)) hP hD [0, 13, 14, 1, 2, 3, 4, 5, 6, 7, 8, 9, 10, 11, 12] (by decide) rfl rfl
  refine lv_aload_n hx hb dX9_errorPosition_18 rfl (lv_at hl 0 rfl) ?_
  obtain ⟨v19, e19, h⟩ := bnd h
  refine cV (av := []) (rest := []) (st1 := [.int v19.1]) (k1 := 0) (k2 := 0) (ci := 4) (q0 := 0) hx hb hml hown htg hN hK (c_X9_readText l dC dI cy a0 (ms_kept z0_15 v15)  v19 e19) (g_V gw927 gw929 gw8 gw63 gw930) hdV_X9_readText rfl ⟨⟨Nat.le_of_ble_eq_true rfl, Nat.le_of_ble_eq_true rfl⟩, Nat.le_of_ble_eq_true rfl, Nat.le_of_ble_eq_true rfl⟩ hP hD hS hA ⟨rfl, rfl⟩ rfl [0, 1, 2, 3, 4, 5, 6, 7, 8, 9, 10, 11, 12, 13, 14] [] rfl rfl rfl (by decide) (by decide) hl.1 rfl (Nat.le_of_ble_eq_true rfl) rfl rfl rfl dX9_errorPosition_19 (fun H locs hP hD hS => ?_)
  have hP : va_P (dC, dI) vwCl (wMod a0 cy v19.2) H := hP
  have hD : va_D A (wMod a0 cy v19.2) := hD
  refine lv_istore_n (lv' := [(1, .int v19.1), (0, .ref (a0 0))]) hx hb dX9_errorPosition_22 rfl hl (by decide) rfl (fun ls hl => ?_)
  refine lv_aload_n hx hb dX9_errorPosition_23 rfl (lv_at hl 1 rfl) ?_
  refine va_get (D := (dC, dI)) (ci := 4) (v := .ref (a0 2)) (C := RX9) (T := TX9) (N := 18) hx hb htg inX9 hown hK hP 0 rfl rfl 2 (by decide) (htg _ gw852) (fun _ h9 => h9) rfl dX9_errorPosition_24 ?_
  refine lv_iconst (v := 0) hx hb dX9_errorPosition_27 (by decide) ?_
  refine lv_aload_n hx hb dX9_errorPosition_28 rfl (lv_at hl 1 rfl) ?_
  refine va_get (D := (dC, dI)) (ci := 4) (v := .ref (a0 1)) (C := RX9) (T := TX9) (N := 18) hx hb htg inX9 hown hK hP 0 rfl rfl 1 (by decide) (htg _ gw851) (fun _ h9 => h9) rfl dX9_errorPosition_29 ?_
  refine lv_iconst (v := 0) hx hb dX9_errorPosition_32 (by decide) ?_
  obtain ⟨v33, e33, h⟩ := bnd h
  refine cS (av := [.ref (a0 2), .int 0, .ref (a0 1), .int 0]) (rest := []) (st1 := []) (k1 := 0) (k2 := 0) hx hb hml hown htg hN hK (c_X9_copy l dC dI cy (a0 2) (a0 1) 85 85 (m_kept v19.2) (m_state v19.2) 0 0 v33 e33) (g_S gw924 gw925 gw63 gw926) hdS_X9_copy rfl ⟨⟨Nat.le_of_ble_eq_true rfl, Nat.le_of_ble_eq_true rfl⟩, Nat.le_of_ble_eq_true rfl, Nat.le_of_ble_eq_true rfl⟩ hP hD hS hA [2, 1] [0, 3, 4, 5, 6, 7, 8, 9, 10, 11, 12, 13, 14] rfl rfl rfl (by decide) (by decide) hl.1 rfl (Nat.le_of_ble_eq_true rfl) rfl rfl rfl dX9_errorPosition_33 (fun H locs hP hD hS => ?_)
  obtain ⟨hP, hD⟩ := x_perm (ws' := wMod a0 cy (ms_state v19.2 v33)) hP hD [0, 14, 13, 1, 2, 3, 4, 5, 6, 7, 8, 9, 10, 11, 12] (by decide) rfl rfl
  refine lv_iload_n hx hb dX9_errorPosition_36 rfl (lv_at hl 0 rfl) ?_
  obtain rfl := Option.some.inj h
  exact hE H locs 37 ls _ hP hD hS rfl dX9_errorPosition_37
def G_X9_greatestX_L16 (r4 : Int32 → Int32 → Option (Int32)) (m0 : Mod) : Nat → Int32 → Int32 → Int32 → Option (Int32)
  | 0, _, _, _ => none
  | n16 + 1, l3_16, l2_16, l1_16 =>
    (G_X9_many m0 l2_16).bind fun v19 =>
    if v19 ≤ l3_16 then
      r4 (l2_16 + 1) l1_16
    else
      (G_X9_x m0 l2_16 l3_16).bind fun v28 =>
      ((if v28 ≤ l1_16 then
          some l1_16
        else
          (G_X9_x m0 l2_16 l3_16).bind fun v38 =>
          some v38) : Option (Int32)).bind fun b32 =>
      (G_X9_greatestX_L16 r4 m0 n16) (l3_16 + 1) l2_16 b32
def G_X9_greatestX_L4  (m0 : Mod) : Nat → Int32 → Int32 → Option (Int32)
  | 0, _, _ => none
  | n4 + 1, l2_4, l1_4 =>
    (rd 85 (m_state m0) 0).bind fun v10 =>
    if v10 ≤ l2_4 then
      some l1_4
    else
      G_X9_greatestX_L16 (G_X9_greatestX_L4 m0 n4) m0 FU 0 l2_4 l1_4
def G_X9_greatestX (m0 : Mod) : Option (Int32) :=
  G_X9_greatestX_L4 m0 FU 0 0
abbrev rm_X9_greatestX : Room := { frames := 1, cells := 0, slots := 0, locals := 22 }
theorem hdS_X9_greatestX : yX9_greatestX.cls ≠ "java/lang/invoke/MethodHandle" ∧ yX9_greatestX.cls ≠ "java/lang/invoke/VarHandle" ∧ (parseMethodDescriptor yX9_greatestX.desc).map (fun d => d.parameters.length) = some 0 := by decide +kernel
theorem hdV_X9_greatestX : yX9_greatestX.cls = RX9 ∧ yX9_greatestX.cls ≠ "java/lang/invoke/MethodHandle" ∧ yX9_greatestX.cls ≠ "java/lang/invoke/VarHandle" ∧ (parseMethodDescriptor yX9_greatestX.desc).map (fun d => d.parameters.length) = some 0 := ⟨rfl, hdS_X9_greatestX⟩
set_option maxHeartbeats 4000000 in
set_option maxRecDepth 100000 in
theorem c_X9_greatestX (l : Launch) (dC : Nat → ClassId) (dI : Nat → Nat → Nat) (cy : Nat → ClassId) (a0 : Nat → Nat) (m0 : Mod) (res : Int32) (h : G_X9_greatestX m0 = some res) : CT l (dC, dI) (TY cy) yX9_greatestX cX9_greatestX 4 (some .int) rm_X9_greatestX [.ref (a0 0)] (wMod a0 cy m0) (wMod a0 cy m0) (some (.int res)) := by
  refine CT.mk_i (own := RX9) ⟨by decide, rfl⟩ (Nat.le_of_ble_eq_true rfl) ?_
  intro p e s mm args below meth cd A Q hx hb hml hown htg hN hK hA hP hD hS hE ls hl
  have hl : lv_has ls 4 [(0, .ref (a0 0))] := hl
  replace h : _ = some res := h
  unfold G_X9_greatestX at h
  obtain ⟨H, hH⟩ : ∃ H, H = s.heap := ⟨_, rfl⟩
  obtain ⟨locs, hlocs⟩ : ∃ locs : List Loc, locs = [] := ⟨_, rfl⟩
  rw [← hlocs] at hS ⊢
  have hS : va_S A s.heap H locs := by rw [hH]; exact hS
  rw [← hH] at hP ⊢
  refine lv_iconst (v := 0) hx hb dX9_greatestX_0 (by decide) ?_
  refine lv_istore_n (lv' := [(1, .int 0), (0, .ref (a0 0))]) hx hb dX9_greatestX_1 rfl hl (by decide) rfl (fun ls hl => ?_)
  refine lv_iconst (v := 0) hx hb dX9_greatestX_2 (by decide) ?_
  refine lv_istore_n (lv' := [(2, .int 0), (1, .int 0), (0, .ref (a0 0))]) hx hb dX9_greatestX_3 rfl hl (by decide) rfl (fun ls hl => ?_)
  have hL4 : ∀ (n4 : Nat) (l2_4 : Int32) (l1_4 : Int32) (H : Heap) (locs : List Loc) (ls : Array Slot), G_X9_greatestX_L4 m0 n4 l2_4 l1_4 = some res → va_P (dC, dI) vwCl (wMod a0 cy m0) H → va_D A (wMod a0 cy m0) → va_S A s.heap H locs → lv_has ls 4 [(2, .int l2_4), (1, .int l1_4), (0, .ref (a0 0))] → W p l e rm_X9_greatestX s mm args below meth cd H locs 0 0 Q (F0 mm 4 ls []) := by
    intro n4
    induction n4 with
    | zero => intro l2_4 l1_4 H locs ls h; exact absurd h (by simp [G_X9_greatestX_L4])
    | succ n4 ih4 =>
      intro l2_4 l1_4 H locs ls h hP hD hS hl
      rw [G_X9_greatestX_L4] at h
      refine lv_iload_n hx hb dX9_greatestX_4 rfl (lv_at hl 0 rfl) ?_
      refine lv_aload_n hx hb dX9_greatestX_5 rfl (lv_at hl 2 rfl) ?_
      refine va_get (D := (dC, dI)) (ci := 4) (v := .ref (a0 1)) (C := RX9) (T := TX9) (N := 18) hx hb htg inX9 hown hK hP 0 rfl rfl 1 (by decide) (htg _ gw851) (fun _ h9 => h9) rfl dX9_greatestX_6 ?_
      refine lv_iconst (v := 0) hx hb dX9_greatestX_9 (by decide) ?_
      obtain ⟨v10, e10, h⟩ := bnd h
      refine x_iald (v := v10) hx hb hK hP 1 0 rfl rfl e10 dX9_greatestX_10 ?_
      refine lv_icmp_ge (tgt := 58) hx hb dX9_greatestX_11 (by decide) (fun c11 => ?_) (fun c11 => ?_)
      · replace h := if_t h c11
        refine lv_iload_n hx hb dX9_greatestX_58 rfl (lv_at hl 1 rfl) ?_
        obtain rfl := Option.some.inj h
        exact hE H locs 59 ls _ hP hD hS rfl dX9_greatestX_59
      replace h := if_f h c11
      refine lv_iconst (v := 0) hx hb dX9_greatestX_14 (by decide) ?_
      refine lv_istore_n (lv' := [(3, .int 0), (2, .int l2_4), (1, .int l1_4), (0, .ref (a0 0))]) hx hb dX9_greatestX_15 rfl hl (by decide) rfl (fun ls hl => ?_)
      have hL16 : ∀ (n16 : Nat) (l3_16 : Int32) (l2_16 : Int32) (l1_16 : Int32) (H : Heap) (locs : List Loc) (ls : Array Slot), G_X9_greatestX_L16 (G_X9_greatestX_L4 m0 n4) m0 n16 l3_16 l2_16 l1_16 = some res → va_P (dC, dI) vwCl (wMod a0 cy m0) H → va_D A (wMod a0 cy m0) → va_S A s.heap H locs → lv_has ls 4 [(3, .int l3_16), (2, .int l2_16), (1, .int l1_16), (0, .ref (a0 0))] → W p l e rm_X9_greatestX s mm args below meth cd H locs 0 0 Q (F0 mm 16 ls []) := by
        intro n16
        induction n16 with
        | zero => intro l3_16 l2_16 l1_16 H locs ls h; exact absurd h (by simp [G_X9_greatestX_L16])
        | succ n16 ih16 =>
          intro l3_16 l2_16 l1_16 H locs ls h hP hD hS hl
          rw [G_X9_greatestX_L16] at h
          refine lv_iload_n hx hb dX9_greatestX_16 rfl (lv_at hl 0 rfl) ?_
          refine lv_aload_n hx hb dX9_greatestX_17 rfl (lv_at hl 3 rfl) ?_
          refine lv_iload_n hx hb dX9_greatestX_18 rfl (lv_at hl 1 rfl) ?_
          obtain ⟨v19, e19, h⟩ := bnd h
          refine cV (av := [.int l2_16]) (rest := [.int l3_16]) (st1 := [.int v19, .int l3_16]) (k1 := 0) (k2 := 0) (ci := 4) (q0 := 0) hx hb hml hown htg hN hK (c_X9_many l dC dI cy a0 m0 l2_16 v19 e19) (g_V gw935 gw937 gw10 gw63 gw938) hdV_X9_many rfl ⟨⟨Nat.le_of_ble_eq_true rfl, Nat.le_of_ble_eq_true rfl⟩, Nat.le_of_ble_eq_true rfl, Nat.le_of_ble_eq_true rfl⟩ hP hD hS hA ⟨rfl, rfl⟩ rfl [0, 1, 2, 3, 4, 5, 6, 7, 8, 9, 10, 11, 12, 13, 14] [] rfl rfl rfl (by decide) (by decide) hl.1 rfl (Nat.le_of_ble_eq_true rfl) rfl rfl rfl dX9_greatestX_19 (fun H locs hP hD hS => ?_)
          have hP : va_P (dC, dI) vwCl (wMod a0 cy m0) H := hP
          have hD : va_D A (wMod a0 cy m0) := hD
          refine lv_icmp_ge (tgt := 52) hx hb dX9_greatestX_22 (by decide) (fun c22 => ?_) (fun c22 => ?_)
          · replace h := if_t h c22
            refine lv_iinc (v := l2_16 + 1) (lv' := [(2, .int (l2_16 + 1)), (3, .int l3_16), (1, .int l1_16), (0, .ref (a0 0))]) hx hb dX9_greatestX_52 hl (k := 1) rfl rfl (by decide) rfl (fun ls hl => ?_)
            refine lv_goto (tgt := 4) hx hb dX9_greatestX_55 (by decide) ?_
            exact ih4 (l2_16 + 1) l1_16 H locs ls h hP hD hS (lv_sub hl [0, 2, 3] rfl)
          replace h := if_f h c22
          refine lv_aload_n hx hb dX9_greatestX_25 rfl (lv_at hl 3 rfl) ?_
          refine lv_iload_n hx hb dX9_greatestX_26 rfl (lv_at hl 1 rfl) ?_
          refine lv_iload_n hx hb dX9_greatestX_27 rfl (lv_at hl 0 rfl) ?_
          obtain ⟨v28, e28, h⟩ := bnd h
          refine cV (av := [.int l2_16, .int l3_16]) (rest := []) (st1 := [.int v28]) (k1 := 0) (k2 := 0) (ci := 4) (q0 := 0) hx hb hml hown htg hN hK (c_X9_x l dC dI cy a0 m0 l2_16 l3_16 v28 e28) (g_V gw947 gw949 gw13 gw63 gw950) hdV_X9_x rfl ⟨⟨Nat.le_of_ble_eq_true rfl, Nat.le_of_ble_eq_true rfl⟩, Nat.le_of_ble_eq_true rfl, Nat.le_of_ble_eq_true rfl⟩ hP hD hS hA ⟨rfl, rfl⟩ rfl [0, 1, 2, 3, 4, 5, 6, 7, 8, 9, 10, 11, 12, 13, 14] [] rfl rfl rfl (by decide) (by decide) hl.1 rfl (Nat.le_of_ble_eq_true rfl) rfl rfl rfl dX9_greatestX_28 (fun H locs hP hD hS => ?_)
          have hP : va_P (dC, dI) vwCl (wMod a0 cy m0) H := hP
          have hD : va_D A (wMod a0 cy m0) := hD
          refine lv_iload_n hx hb dX9_greatestX_31 rfl (lv_at hl 2 rfl) ?_
          obtain ⟨b32, e32, h⟩ := bnd h
          have hr45 : ∀ (H : Heap) (locs : List Loc) (ls : Array Slot), va_P (dC, dI) vwCl (wMod a0 cy m0) H → va_D A (wMod a0 cy m0) → va_S A s.heap H locs → lv_has ls 4 [(3, .int l3_16), (2, .int l2_16), (1, .int l1_16), (0, .ref (a0 0))] → W p l e rm_X9_greatestX s mm args below meth cd H locs 0 0 Q (F0 mm 45 ls [.int b32]) := by
            intro H locs ls hP hD hS hl
            refine lv_istore_n (lv' := [(1, .int b32), (3, .int l3_16), (2, .int l2_16), (0, .ref (a0 0))]) hx hb dX9_greatestX_45 rfl hl (by decide) rfl (fun ls hl => ?_)
            refine lv_iinc (v := l3_16 + 1) (lv' := [(3, .int (l3_16 + 1)), (1, .int b32), (2, .int l2_16), (0, .ref (a0 0))]) hx hb dX9_greatestX_46 hl (k := 1) rfl rfl (by decide) rfl (fun ls hl => ?_)
            refine lv_goto (tgt := 16) hx hb dX9_greatestX_49 (by decide) ?_
            exact ih16 (l3_16 + 1) l2_16 b32 H locs ls h hP hD hS (lv_sub hl [0, 2, 1, 3] rfl)
          have h := e32
          clear e32
          refine lv_icmp_le (tgt := 44) hx hb dX9_greatestX_32 (by decide) (fun c32 => ?_) (fun c32 => ?_)
          · replace h := if_t h c32
            refine lv_iload_n hx hb dX9_greatestX_44 rfl (lv_at hl 2 rfl) ?_
            obtain rfl := Option.some.inj h
            exact hr45 H locs ls hP hD hS hl
          replace h := if_f h c32
          refine lv_aload_n hx hb dX9_greatestX_35 rfl (lv_at hl 3 rfl) ?_
          refine lv_iload_n hx hb dX9_greatestX_36 rfl (lv_at hl 1 rfl) ?_
          refine lv_iload_n hx hb dX9_greatestX_37 rfl (lv_at hl 0 rfl) ?_
          obtain ⟨v38, e38, h⟩ := bnd h
          refine cV (av := [.int l2_16, .int l3_16]) (rest := []) (st1 := [.int v38]) (k1 := 0) (k2 := 0) (ci := 4) (q0 := 0) hx hb hml hown htg hN hK (c_X9_x l dC dI cy a0 m0 l2_16 l3_16 v38 e38) (g_V gw947 gw949 gw13 gw63 gw950) hdV_X9_x rfl ⟨⟨Nat.le_of_ble_eq_true rfl, Nat.le_of_ble_eq_true rfl⟩, Nat.le_of_ble_eq_true rfl, Nat.le_of_ble_eq_true rfl⟩ hP hD hS hA ⟨rfl, rfl⟩ rfl [0, 1, 2, 3, 4, 5, 6, 7, 8, 9, 10, 11, 12, 13, 14] [] rfl rfl rfl (by decide) (by decide) hl.1 rfl (Nat.le_of_ble_eq_true rfl) rfl rfl rfl dX9_greatestX_38 (fun H locs hP hD hS => ?_)
          have hP : va_P (dC, dI) vwCl (wMod a0 cy m0) H := hP
          have hD : va_D A (wMod a0 cy m0) := hD
          refine lv_goto (tgt := 45) hx hb dX9_greatestX_41 (by decide) ?_
          obtain rfl := Option.some.inj h
          exact hr45 H locs ls hP hD hS hl
      exact hL16 FU 0 l2_4 l1_4 H locs ls h hP hD hS (lv_sub hl [0, 1, 2, 3] rfl)
  exact hL4 FU 0 0 H locs ls h hP hD hS (lv_sub hl [0, 1, 2] rfl)
def G_X9_inRow (m0 : Mod) (p1 : Int32) (p2 : Int32) : Option (Int32 × Mod) :=
  (G_X9_within p1 0 15).bind fun v5 =>
  ((if v5 = 0 then
      some 1
    else
      some 0) : Option (Int32)).bind fun b8 =>
  if m_thrown (ms_thrown m0 b8) ≤ 0 then
    (G_X9_pointsIn (ms_thrown m0 b8) p1 p2).bind fun v33 =>
    some (v33, ms_thrown m0 b8)
  else
    some (0, ms_thrown m0 b8)
abbrev rm_X9_inRow : Room := { frames := 6, cells := 0, slots := 0, locals := 148 }
theorem hdS_X9_inRow : yX9_inRow.cls ≠ "java/lang/invoke/MethodHandle" ∧ yX9_inRow.cls ≠ "java/lang/invoke/VarHandle" ∧ (parseMethodDescriptor yX9_inRow.desc).map (fun d => d.parameters.length) = some 2 := by decide +kernel
theorem hdV_X9_inRow : yX9_inRow.cls = RX9 ∧ yX9_inRow.cls ≠ "java/lang/invoke/MethodHandle" ∧ yX9_inRow.cls ≠ "java/lang/invoke/VarHandle" ∧ (parseMethodDescriptor yX9_inRow.desc).map (fun d => d.parameters.length) = some 2 := ⟨rfl, hdS_X9_inRow⟩
set_option maxHeartbeats 4000000 in
set_option maxRecDepth 100000 in
theorem c_X9_inRow (l : Launch) (dC : Nat → ClassId) (dI : Nat → Nat → Nat) (cy : Nat → ClassId) (a0 : Nat → Nat) (m0 : Mod) (p1 : Int32) (p2 : Int32) (res : Int32 × Mod) (h : G_X9_inRow m0 p1 p2 = some res) : CT l (dC, dI) (TY cy) yX9_inRow cX9_inRow 3 (some .int) rm_X9_inRow [.ref (a0 0), .int p1, .int p2] (wMod a0 cy m0) (wMod a0 cy res.2) (some (.int res.1)) := by
  refine CT.mk_i (own := RX9) ⟨by decide, rfl⟩ (Nat.le_of_ble_eq_true rfl) ?_
  intro p e s mm args below meth cd A Q hx hb hml hown htg hN hK hA hP hD hS hE ls hl
  have hl : lv_has ls 3 [(0, .ref (a0 0)), (1, .int p1), (2, .int p2)] := hl
  replace h : _ = some res := h
  unfold G_X9_inRow at h
  obtain ⟨H, hH⟩ : ∃ H, H = s.heap := ⟨_, rfl⟩
  obtain ⟨locs, hlocs⟩ : ∃ locs : List Loc, locs = [] := ⟨_, rfl⟩
  rw [← hlocs] at hS ⊢
  have hS : va_S A s.heap H locs := by rw [hH]; exact hS
  rw [← hH] at hP ⊢
  refine lv_aload_n hx hb dX9_inRow_0 rfl (lv_at hl 0 rfl) ?_
  refine lv_iload_n hx hb dX9_inRow_1 rfl (lv_at hl 1 rfl) ?_
  refine lv_iconst (v := 0) hx hb dX9_inRow_2 (by decide) ?_
  refine lv_bipush (v := 15) hx hb dX9_inRow_3 (by decide) ?_
  obtain ⟨v5, e5, h⟩ := bnd h
  refine cS (av := [.int p1, .int 0, .int 15]) (rest := [.ref (a0 0)]) (st1 := [.int v5, .ref (a0 0)]) (k1 := 0) (k2 := 0) hx hb hml hown htg hN hK (c_X9_within l dC dI cy   p1 0 15 v5 e5) (g_S gw913 gw914 gw63 gw915) hdS_X9_within rfl ⟨⟨Nat.le_of_ble_eq_true rfl, Nat.le_of_ble_eq_true rfl⟩, Nat.le_of_ble_eq_true rfl, Nat.le_of_ble_eq_true rfl⟩ hP hD hS hA [] [0, 1, 2, 3, 4, 5, 6, 7, 8, 9, 10, 11, 12, 13, 14] rfl rfl rfl (by decide) (by decide) hl.1 rfl (Nat.le_of_ble_eq_true rfl) rfl rfl rfl dX9_inRow_5 (fun H locs hP hD hS => ?_)
  obtain ⟨hP, hD⟩ := x_perm (ws' := wMod a0 cy m0) hP hD [0, 1, 2, 3, 4, 5, 6, 7, 8, 9, 10, 11, 12, 13, 14] (by decide) rfl rfl
  obtain ⟨b8, e8, h⟩ := bnd h
  have hr16 : ∀ (H : Heap) (locs : List Loc) (ls : Array Slot), va_P (dC, dI) vwCl (wMod a0 cy m0) H → va_D A (wMod a0 cy m0) → va_S A s.heap H locs → lv_has ls 3 [(0, .ref (a0 0)), (1, .int p1), (2, .int p2)] → W p l e rm_X9_inRow s mm args below meth cd H locs 0 0 Q (F0 mm 16 ls [.int b8, .ref (a0 0)]) := by
    intro H locs ls hP hD hS hl
    refine va_put (D := (dC, dI)) (ci := 4) (v := .int b8) (ty := .int) (C := RX9) (T := TX9) (N := 18) hx hb htg inX9 tyX9 tyX9_ok nmX9 hown hK hP hD hS 0 rfl rfl 0 (by decide) (htg _ gw850) (fun _ h9 => h9) rfl (by decide +kernel) rfl rfl (Nat.le_of_ble_eq_true rfl) dX9_inRow_16 (fun H locs hP hD hS => ?_)
    have hP : va_P (dC, dI) vwCl (wMod a0 cy (ms_thrown m0 b8)) H := hP
    have hD : va_D A (wMod a0 cy (ms_thrown m0 b8)) := hD
    refine lv_aload_n hx hb dX9_inRow_19 rfl (lv_at hl 0 rfl) ?_
    refine va_get (D := (dC, dI)) (ci := 4) (v := .int (m_thrown (ms_thrown m0 b8))) (C := RX9) (T := TX9) (N := 18) hx hb htg inX9 hown hK hP 0 rfl rfl 0 (by decide) (htg _ gw850) (fun _ h9 => h9) rfl dX9_inRow_20 ?_
    refine lv_if_le (tgt := 30) hx hb dX9_inRow_23 (by decide) (fun c23 => ?_) (fun c23 => ?_)
    · replace h := if_t h c23
      refine lv_aload_n hx hb dX9_inRow_30 rfl (lv_at hl 0 rfl) ?_
      refine lv_iload_n hx hb dX9_inRow_31 rfl (lv_at hl 1 rfl) ?_
      refine lv_iload_n hx hb dX9_inRow_32 rfl (lv_at hl 2 rfl) ?_
      obtain ⟨v33, e33, h⟩ := bnd h
      refine cV (av := [.int p1, .int p2]) (rest := []) (st1 := [.int v33]) (k1 := 0) (k2 := 0) (ci := 4) (q0 := 0) hx hb hml hown htg hN hK (c_X9_pointsIn l dC dI cy a0 (ms_thrown m0 b8) p1 p2 v33 e33) (g_V gw1030 gw1032 gw28 gw63 gw1033) hdV_X9_pointsIn rfl ⟨⟨Nat.le_of_ble_eq_true rfl, Nat.le_of_ble_eq_true rfl⟩, Nat.le_of_ble_eq_true rfl, Nat.le_of_ble_eq_true rfl⟩ hP hD hS hA ⟨rfl, rfl⟩ rfl [0, 1, 2, 3, 4, 5, 6, 7, 8, 9, 10, 11, 12, 13, 14] [] rfl rfl rfl (by decide) (by decide) hl.1 rfl (Nat.le_of_ble_eq_true rfl) rfl rfl rfl dX9_inRow_33 (fun H locs hP hD hS => ?_)
      have hP : va_P (dC, dI) vwCl (wMod a0 cy (ms_thrown m0 b8)) H := hP
      have hD : va_D A (wMod a0 cy (ms_thrown m0 b8)) := hD
      obtain rfl := Option.some.inj h
      exact hE H locs 36 ls _ hP hD hS rfl dX9_inRow_36
    replace h := if_f h c23
    refine lv_iconst (v := 0) hx hb dX9_inRow_26 (by decide) ?_
    refine lv_goto (tgt := 36) hx hb dX9_inRow_27 (by decide) ?_
    obtain rfl := Option.some.inj h
    exact hE H locs 36 ls _ hP hD hS rfl dX9_inRow_36
  have h := e8
  clear e8
  refine lv_if_eq (tgt := 15) hx hb dX9_inRow_8 (by decide) (fun c8 => ?_) (fun c8 => ?_)
  · replace h := if_t h c8
    refine lv_iconst (v := 1) hx hb dX9_inRow_15 (by decide) ?_
    obtain rfl := Option.some.inj h
    exact hr16 H locs ls hP hD hS hl
  replace h := if_f h c8
  refine lv_iconst (v := 0) hx hb dX9_inRow_11 (by decide) ?_
  refine lv_goto (tgt := 16) hx hb dX9_inRow_12 (by decide) ?_
  obtain rfl := Option.some.inj h
  exact hr16 H locs ls hP hD hS hl
def G_X9_insert (m0 : Mod) (p1 : Int32) (p2 : Int32) (p3 : Int32) (p4 : Int32) : Option (Int32 × Mod) :=
  (G_X9_tryInsert m0 p1 p2 p3 p4).bind fun v7 =>
  if m_thrown (ms_thrown v7.2 v7.1) ≤ 0 then
    (G_X9_remember (ms_thrown v7.2 v7.1)).bind fun v23 =>
    (G_X9_area v23).bind fun v27 =>
    some (v27, v23)
  else
    some (0, ms_thrown v7.2 v7.1)
abbrev rm_X9_insert : Room := { frames := 7, cells := 0, slots := 0, locals := 171 }
theorem hdS_X9_insert : yX9_insert.cls ≠ "java/lang/invoke/MethodHandle" ∧ yX9_insert.cls ≠ "java/lang/invoke/VarHandle" ∧ (parseMethodDescriptor yX9_insert.desc).map (fun d => d.parameters.length) = some 4 := by decide +kernel
theorem hdV_X9_insert : yX9_insert.cls = RX9 ∧ yX9_insert.cls ≠ "java/lang/invoke/MethodHandle" ∧ yX9_insert.cls ≠ "java/lang/invoke/VarHandle" ∧ (parseMethodDescriptor yX9_insert.desc).map (fun d => d.parameters.length) = some 4 := ⟨rfl, hdS_X9_insert⟩
set_option maxHeartbeats 4000000 in
set_option maxRecDepth 100000 in
theorem c_X9_insert (l : Launch) (dC : Nat → ClassId) (dI : Nat → Nat → Nat) (cy : Nat → ClassId) (a0 : Nat → Nat) (m0 : Mod) (p1 : Int32) (p2 : Int32) (p3 : Int32) (p4 : Int32) (res : Int32 × Mod) (h : G_X9_insert m0 p1 p2 p3 p4 = some res) : CT l (dC, dI) (TY cy) yX9_insert cX9_insert 5 (some .int) rm_X9_insert [.ref (a0 0), .int p1, .int p2, .int p3, .int p4] (wMod a0 cy m0) (wMod a0 cy res.2) (some (.int res.1)) := by
  refine CT.mk_i (own := RX9) ⟨by decide, rfl⟩ (Nat.le_of_ble_eq_true rfl) ?_
  intro p e s mm args below meth cd A Q hx hb hml hown htg hN hK hA hP hD hS hE ls hl
  have hl : lv_has ls 5 [(0, .ref (a0 0)), (1, .int p1), (2, .int p2), (3, .int p3), (4, .int p4)] := hl
  replace h : _ = some res := h
  unfold G_X9_insert at h
  obtain ⟨H, hH⟩ : ∃ H, H = s.heap := ⟨_, rfl⟩
  obtain ⟨locs, hlocs⟩ : ∃ locs : List Loc, locs = [] := ⟨_, rfl⟩
  rw [← hlocs] at hS ⊢
  have hS : va_S A s.heap H locs := by rw [hH]; exact hS
  rw [← hH] at hP ⊢
  refine lv_aload_n hx hb dX9_insert_0 rfl (lv_at hl 0 rfl) ?_
  refine lv_aload_n hx hb dX9_insert_1 rfl (lv_at hl 0 rfl) ?_
  refine lv_iload_n hx hb dX9_insert_2 rfl (lv_at hl 1 rfl) ?_
  refine lv_iload_n hx hb dX9_insert_3 rfl (lv_at hl 2 rfl) ?_
  refine lv_iload_n hx hb dX9_insert_4 rfl (lv_at hl 3 rfl) ?_
  refine lv_iload hx hb dX9_insert_5 (lv_at hl 4 rfl) ?_
  obtain ⟨v7, e7, h⟩ := bnd h
  refine cV (av := [.int p1, .int p2, .int p3, .int p4]) (rest := [.ref (a0 0)]) (st1 := [.int v7.1, .ref (a0 0)]) (k1 := 0) (k2 := 0) (ci := 4) (q0 := 0) hx hb hml hown htg hN hK (c_X9_tryInsert l dC dI cy a0 m0 p1 p2 p3 p4 v7 e7) (g_V gw1141 gw1143 gw49 gw63 gw1144) hdV_X9_tryInsert rfl ⟨⟨Nat.le_of_ble_eq_true rfl, Nat.le_of_ble_eq_true rfl⟩, Nat.le_of_ble_eq_true rfl, Nat.le_of_ble_eq_true rfl⟩ hP hD hS hA ⟨rfl, rfl⟩ rfl [0, 1, 2, 3, 4, 5, 6, 7, 8, 9, 10, 11, 12, 13, 14] [] rfl rfl rfl (by decide) (by decide) hl.1 rfl (Nat.le_of_ble_eq_true rfl) rfl rfl rfl dX9_insert_7 (fun H locs hP hD hS => ?_)
  have hP : va_P (dC, dI) vwCl (wMod a0 cy v7.2) H := hP
  have hD : va_D A (wMod a0 cy v7.2) := hD
  refine va_put (D := (dC, dI)) (ci := 4) (v := .int v7.1) (ty := .int) (C := RX9) (T := TX9) (N := 18) hx hb htg inX9 tyX9 tyX9_ok nmX9 hown hK hP hD hS 0 rfl rfl 0 (by decide) (htg _ gw850) (fun _ h9 => h9) rfl (by decide +kernel) rfl rfl (Nat.le_of_ble_eq_true rfl) dX9_insert_10 (fun H locs hP hD hS => ?_)
  have hP : va_P (dC, dI) vwCl (wMod a0 cy (ms_thrown v7.2 v7.1)) H := hP
  have hD : va_D A (wMod a0 cy (ms_thrown v7.2 v7.1)) := hD
  refine lv_aload_n hx hb dX9_insert_13 rfl (lv_at hl 0 rfl) ?_
  refine va_get (D := (dC, dI)) (ci := 4) (v := .int (m_thrown (ms_thrown v7.2 v7.1))) (C := RX9) (T := TX9) (N := 18) hx hb htg inX9 hown hK hP 0 rfl rfl 0 (by decide) (htg _ gw850) (fun _ h9 => h9) rfl dX9_insert_14 ?_
  refine lv_if_le (tgt := 22) hx hb dX9_insert_17 (by decide) (fun c17 => ?_) (fun c17 => ?_)
  · replace h := if_t h c17
    refine lv_aload_n hx hb dX9_insert_22 rfl (lv_at hl 0 rfl) ?_
    obtain ⟨v23, e23, h⟩ := bnd h
    refine cV (av := []) (rest := []) (st1 := []) (k1 := 0) (k2 := 0) (ci := 4) (q0 := 0) hx hb hml hown htg hN hK (c_X9_remember l dC dI cy a0 (ms_thrown v7.2 v7.1)  v23 e23) (g_V gw1133 gw1135 gw48 gw63 gw1136) hdV_X9_remember rfl ⟨⟨Nat.le_of_ble_eq_true rfl, Nat.le_of_ble_eq_true rfl⟩, Nat.le_of_ble_eq_true rfl, Nat.le_of_ble_eq_true rfl⟩ hP hD hS hA ⟨rfl, rfl⟩ rfl [0, 1, 2, 3, 4, 5, 6, 7, 8, 9, 10, 11, 12, 13, 14] [] rfl rfl rfl (by decide) (by decide) hl.1 rfl (Nat.le_of_ble_eq_true rfl) rfl rfl rfl dX9_insert_23 (fun H locs hP hD hS => ?_)
    have hP : va_P (dC, dI) vwCl (wMod a0 cy v23) H := hP
    have hD : va_D A (wMod a0 cy v23) := hD
    refine lv_aload_n hx hb dX9_insert_26 rfl (lv_at hl 0 rfl) ?_
    obtain ⟨v27, e27, h⟩ := bnd h
    refine cV (av := []) (rest := []) (st1 := [.int v27]) (k1 := 0) (k2 := 0) (ci := 4) (q0 := 0) hx hb hml hown htg hN hK (c_X9_area l dC dI cy a0 v23  v27 e27) (g_V gw1004 gw1006 gw23 gw63 gw1007) hdV_X9_area rfl ⟨⟨Nat.le_of_ble_eq_true rfl, Nat.le_of_ble_eq_true rfl⟩, Nat.le_of_ble_eq_true rfl, Nat.le_of_ble_eq_true rfl⟩ hP hD hS hA ⟨rfl, rfl⟩ rfl [0, 1, 2, 3, 4, 5, 6, 7, 8, 9, 10, 11, 12, 13, 14] [] rfl rfl rfl (by decide) (by decide) hl.1 rfl (Nat.le_of_ble_eq_true rfl) rfl rfl rfl dX9_insert_27 (fun H locs hP hD hS => ?_)
    have hP : va_P (dC, dI) vwCl (wMod a0 cy v23) H := hP
    have hD : va_D A (wMod a0 cy v23) := hD
    obtain rfl := Option.some.inj h
    exact hE H locs 30 ls _ hP hD hS rfl dX9_insert_30
  replace h := if_f h c17
  refine lv_iconst (v := 0) hx hb dX9_insert_20 (by decide) ?_
  obtain rfl := Option.some.inj h
  exact hE H locs 21 ls _ hP hD hS rfl dX9_insert_21
def G_X9_isSlot (p0 : Int32) : Option (Int32) :=
  if p0 = 0 then
    some 1
  else
    if p0 = 1 then
      some 1
    else
      some 0
abbrev rm_X9_isSlot : Room := { frames := 0, cells := 0, slots := 0, locals := 0 }
theorem hdS_X9_isSlot : yX9_isSlot.cls ≠ "java/lang/invoke/MethodHandle" ∧ yX9_isSlot.cls ≠ "java/lang/invoke/VarHandle" ∧ (parseMethodDescriptor yX9_isSlot.desc).map (fun d => d.parameters.length) = some 1 := by decide +kernel
set_option maxHeartbeats 4000000 in
set_option maxRecDepth 100000 in
theorem c_X9_isSlot (l : Launch) (dC : Nat → ClassId) (dI : Nat → Nat → Nat) (cy : Nat → ClassId)  (p0 : Int32) (res : Int32) (h : G_X9_isSlot p0 = some res) : CT l (dC, dI) (TY cy) yX9_isSlot cX9_isSlot 1 (some .boolean) rm_X9_isSlot [.int p0] ([]) ([]) (some (.int res)) := by
  refine CT.mk_z (own := RX9) ⟨by decide, rfl⟩ (Nat.le_of_ble_eq_true rfl) ?_
  intro p e s mm args below meth cd A Q hx hb hml hown htg hN hK hA hP hD hS hE ls hl
  have hl : lv_has ls 1 [(0, .int p0)] := hl
  replace h : _ = some res := h
  unfold G_X9_isSlot at h
  obtain ⟨H, hH⟩ : ∃ H, H = s.heap := ⟨_, rfl⟩
  obtain ⟨locs, hlocs⟩ : ∃ locs : List Loc, locs = [] := ⟨_, rfl⟩
  rw [← hlocs] at hS ⊢
  have hS : va_S A s.heap H locs := by rw [hH]; exact hS
  rw [← hH] at hP ⊢
  refine lv_iload_n hx hb dX9_isSlot_0 rfl (lv_at hl 0 rfl) ?_
  refine lv_if_eq (tgt := 9) hx hb dX9_isSlot_1 (by decide) (fun c1 => ?_) (fun c1 => ?_)
  · replace h := if_t h c1
    refine lv_iconst (v := 1) hx hb dX9_isSlot_9 (by decide) ?_
    refine lv_goto (tgt := 14) hx hb dX9_isSlot_10 (by decide) ?_
    obtain rfl := Option.some.inj h
    exact hE H locs 14 ls _ hP hD hS rfl (Or.inr rfl) dX9_isSlot_14
  replace h := if_f h c1
  refine lv_iload_n hx hb dX9_isSlot_4 rfl (lv_at hl 0 rfl) ?_
  refine lv_iconst (v := 1) hx hb dX9_isSlot_5 (by decide) ?_
  refine lv_icmp_ne (tgt := 13) hx hb dX9_isSlot_6 (by decide) (fun c6 => ?_) (fun c6 => ?_)
  · replace h := if_f h c6
    refine lv_iconst (v := 0) hx hb dX9_isSlot_13 (by decide) ?_
    obtain rfl := Option.some.inj h
    exact hE H locs 14 ls _ hP hD hS rfl (Or.inl rfl) dX9_isSlot_14
  replace h := if_t h c6
  refine lv_iconst (v := 1) hx hb dX9_isSlot_9 (by decide) ?_
  refine lv_goto (tgt := 14) hx hb dX9_isSlot_10 (by decide) ?_
  obtain rfl := Option.some.inj h
  exact hE H locs 14 ls _ hP hD hS rfl (Or.inr rfl) dX9_isSlot_14
def G_X9_lengthOf (m0 : Mod) (p1 : Int32) (p2 : Int32) : Option (Int32) :=
  (G_X9_next m0 p1 p2).bind fun v3 =>
  (G_X9_x m0 p1 v3).bind fun v10 =>
  (G_X9_x m0 p1 p2).bind fun v16 =>
  (G_X9_y m0 p1 v3).bind fun v25 =>
  (G_X9_y m0 p1 p2).bind fun v31 =>
  some (((v10 - v16) * (v10 - v16)) + ((v25 - v31) * (v25 - v31)))
abbrev rm_X9_lengthOf : Room := { frames := 2, cells := 0, slots := 0, locals := 43 }
theorem hdS_X9_lengthOf : yX9_lengthOf.cls ≠ "java/lang/invoke/MethodHandle" ∧ yX9_lengthOf.cls ≠ "java/lang/invoke/VarHandle" ∧ (parseMethodDescriptor yX9_lengthOf.desc).map (fun d => d.parameters.length) = some 2 := by decide +kernel
theorem hdV_X9_lengthOf : yX9_lengthOf.cls = RX9 ∧ yX9_lengthOf.cls ≠ "java/lang/invoke/MethodHandle" ∧ yX9_lengthOf.cls ≠ "java/lang/invoke/VarHandle" ∧ (parseMethodDescriptor yX9_lengthOf.desc).map (fun d => d.parameters.length) = some 2 := ⟨rfl, hdS_X9_lengthOf⟩
set_option maxHeartbeats 4000000 in
set_option maxRecDepth 100000 in
theorem c_X9_lengthOf (l : Launch) (dC : Nat → ClassId) (dI : Nat → Nat → Nat) (cy : Nat → ClassId) (a0 : Nat → Nat) (m0 : Mod) (p1 : Int32) (p2 : Int32) (res : Int32) (h : G_X9_lengthOf m0 p1 p2 = some res) : CT l (dC, dI) (TY cy) yX9_lengthOf cX9_lengthOf 6 (some .int) rm_X9_lengthOf [.ref (a0 0), .int p1, .int p2] (wMod a0 cy m0) (wMod a0 cy m0) (some (.int res)) := by
  refine CT.mk_i (own := RX9) ⟨by decide, rfl⟩ (Nat.le_of_ble_eq_true rfl) ?_
  intro p e s mm args below meth cd A Q hx hb hml hown htg hN hK hA hP hD hS hE ls hl
  have hl : lv_has ls 6 [(0, .ref (a0 0)), (1, .int p1), (2, .int p2)] := hl
  replace h : _ = some res := h
  unfold G_X9_lengthOf at h
  obtain ⟨H, hH⟩ : ∃ H, H = s.heap := ⟨_, rfl⟩
  obtain ⟨locs, hlocs⟩ : ∃ locs : List Loc, locs = [] := ⟨_, rfl⟩
  rw [← hlocs] at hS ⊢
  have hS : va_S A s.heap H locs := by rw [hH]; exact hS
  rw [← hH] at hP ⊢
  refine lv_aload_n hx hb dX9_lengthOf_0 rfl (lv_at hl 0 rfl) ?_
  refine lv_iload_n hx hb dX9_lengthOf_1 rfl (lv_at hl 1 rfl) ?_
  refine lv_iload_n hx hb dX9_lengthOf_2 rfl (lv_at hl 2 rfl) ?_
  obtain ⟨v3, e3, h⟩ := bnd h
  refine cV (av := [.int p1, .int p2]) (rest := []) (st1 := [.int v3]) (k1 := 0) (k2 := 0) (ci := 4) (q0 := 0) hx hb hml hown htg hN hK (c_X9_next l dC dI cy a0 m0 p1 p2 v3 e3) (g_V gw955 gw957 gw15 gw63 gw958) hdV_X9_next rfl ⟨⟨Nat.le_of_ble_eq_true rfl, Nat.le_of_ble_eq_true rfl⟩, Nat.le_of_ble_eq_true rfl, Nat.le_of_ble_eq_true rfl⟩ hP hD hS hA ⟨rfl, rfl⟩ rfl [0, 1, 2, 3, 4, 5, 6, 7, 8, 9, 10, 11, 12, 13, 14] [] rfl rfl rfl (by decide) (by decide) hl.1 rfl (Nat.le_of_ble_eq_true rfl) rfl rfl rfl dX9_lengthOf_3 (fun H locs hP hD hS => ?_)
  have hP : va_P (dC, dI) vwCl (wMod a0 cy m0) H := hP
  have hD : va_D A (wMod a0 cy m0) := hD
  refine lv_istore_n (lv' := [(3, .int v3), (0, .ref (a0 0)), (1, .int p1), (2, .int p2)]) hx hb dX9_lengthOf_6 rfl hl (by decide) rfl (fun ls hl => ?_)
  refine lv_aload_n hx hb dX9_lengthOf_7 rfl (lv_at hl 1 rfl) ?_
  refine lv_iload_n hx hb dX9_lengthOf_8 rfl (lv_at hl 2 rfl) ?_
  refine lv_iload_n hx hb dX9_lengthOf_9 rfl (lv_at hl 0 rfl) ?_
  obtain ⟨v10, e10, h⟩ := bnd h
  refine cV (av := [.int p1, .int v3]) (rest := []) (st1 := [.int v10]) (k1 := 0) (k2 := 0) (ci := 4) (q0 := 0) hx hb hml hown htg hN hK (c_X9_x l dC dI cy a0 m0 p1 v3 v10 e10) (g_V gw947 gw949 gw13 gw63 gw950) hdV_X9_x rfl ⟨⟨Nat.le_of_ble_eq_true rfl, Nat.le_of_ble_eq_true rfl⟩, Nat.le_of_ble_eq_true rfl, Nat.le_of_ble_eq_true rfl⟩ hP hD hS hA ⟨rfl, rfl⟩ rfl [0, 1, 2, 3, 4, 5, 6, 7, 8, 9, 10, 11, 12, 13, 14] [] rfl rfl rfl (by decide) (by decide) hl.1 rfl (Nat.le_of_ble_eq_true rfl) rfl rfl rfl dX9_lengthOf_10 (fun H locs hP hD hS => ?_)
  have hP : va_P (dC, dI) vwCl (wMod a0 cy m0) H := hP
  have hD : va_D A (wMod a0 cy m0) := hD
  refine lv_aload_n hx hb dX9_lengthOf_13 rfl (lv_at hl 1 rfl) ?_
  refine lv_iload_n hx hb dX9_lengthOf_14 rfl (lv_at hl 2 rfl) ?_
  refine lv_iload_n hx hb dX9_lengthOf_15 rfl (lv_at hl 3 rfl) ?_
  obtain ⟨v16, e16, h⟩ := bnd h
  refine cV (av := [.int p1, .int p2]) (rest := [.int v10]) (st1 := [.int v16, .int v10]) (k1 := 0) (k2 := 0) (ci := 4) (q0 := 0) hx hb hml hown htg hN hK (c_X9_x l dC dI cy a0 m0 p1 p2 v16 e16) (g_V gw947 gw949 gw13 gw63 gw950) hdV_X9_x rfl ⟨⟨Nat.le_of_ble_eq_true rfl, Nat.le_of_ble_eq_true rfl⟩, Nat.le_of_ble_eq_true rfl, Nat.le_of_ble_eq_true rfl⟩ hP hD hS hA ⟨rfl, rfl⟩ rfl [0, 1, 2, 3, 4, 5, 6, 7, 8, 9, 10, 11, 12, 13, 14] [] rfl rfl rfl (by decide) (by decide) hl.1 rfl (Nat.le_of_ble_eq_true rfl) rfl rfl rfl dX9_lengthOf_16 (fun H locs hP hD hS => ?_)
  have hP : va_P (dC, dI) vwCl (wMod a0 cy m0) H := hP
  have hD : va_D A (wMod a0 cy m0) := hD
  refine lv_isub hx hb dX9_lengthOf_19 ?_
  refine lv_istore (lv' := [(4, .int (v10 - v16)), (3, .int v3), (0, .ref (a0 0)), (1, .int p1), (2, .int p2)]) hx hb dX9_lengthOf_20 hl (by decide) rfl (fun ls hl => ?_)
  refine lv_aload_n hx hb dX9_lengthOf_22 rfl (lv_at hl 2 rfl) ?_
  refine lv_iload_n hx hb dX9_lengthOf_23 rfl (lv_at hl 3 rfl) ?_
  refine lv_iload_n hx hb dX9_lengthOf_24 rfl (lv_at hl 1 rfl) ?_
  obtain ⟨v25, e25, h⟩ := bnd h
  refine cV (av := [.int p1, .int v3]) (rest := []) (st1 := [.int v25]) (k1 := 0) (k2 := 0) (ci := 4) (q0 := 0) hx hb hml hown htg hN hK (c_X9_y l dC dI cy a0 m0 p1 v3 v25 e25) (g_V gw951 gw953 gw14 gw63 gw954) hdV_X9_y rfl ⟨⟨Nat.le_of_ble_eq_true rfl, Nat.le_of_ble_eq_true rfl⟩, Nat.le_of_ble_eq_true rfl, Nat.le_of_ble_eq_true rfl⟩ hP hD hS hA ⟨rfl, rfl⟩ rfl [0, 1, 2, 3, 4, 5, 6, 7, 8, 9, 10, 11, 12, 13, 14] [] rfl rfl rfl (by decide) (by decide) hl.1 rfl (Nat.le_of_ble_eq_true rfl) rfl rfl rfl dX9_lengthOf_25 (fun H locs hP hD hS => ?_)
  have hP : va_P (dC, dI) vwCl (wMod a0 cy m0) H := hP
  have hD : va_D A (wMod a0 cy m0) := hD
  refine lv_aload_n hx hb dX9_lengthOf_28 rfl (lv_at hl 2 rfl) ?_
  refine lv_iload_n hx hb dX9_lengthOf_29 rfl (lv_at hl 3 rfl) ?_
  refine lv_iload_n hx hb dX9_lengthOf_30 rfl (lv_at hl 4 rfl) ?_
  obtain ⟨v31, e31, h⟩ := bnd h
  refine cV (av := [.int p1, .int p2]) (rest := [.int v25]) (st1 := [.int v31, .int v25]) (k1 := 0) (k2 := 0) (ci := 4) (q0 := 0) hx hb hml hown htg hN hK (c_X9_y l dC dI cy a0 m0 p1 p2 v31 e31) (g_V gw951 gw953 gw14 gw63 gw954) hdV_X9_y rfl ⟨⟨Nat.le_of_ble_eq_true rfl, Nat.le_of_ble_eq_true rfl⟩, Nat.le_of_ble_eq_true rfl, Nat.le_of_ble_eq_true rfl⟩ hP hD hS hA ⟨rfl, rfl⟩ rfl [0, 1, 2, 3, 4, 5, 6, 7, 8, 9, 10, 11, 12, 13, 14] [] rfl rfl rfl (by decide) (by decide) hl.1 rfl (Nat.le_of_ble_eq_true rfl) rfl rfl rfl dX9_lengthOf_31 (fun H locs hP hD hS => ?_)
  have hP : va_P (dC, dI) vwCl (wMod a0 cy m0) H := hP
  have hD : va_D A (wMod a0 cy m0) := hD
  refine lv_isub hx hb dX9_lengthOf_34 ?_
  refine lv_istore (lv' := [(5, .int (v25 - v31)), (4, .int (v10 - v16)), (3, .int v3), (0, .ref (a0 0)), (1, .int p1), (2, .int p2)]) hx hb dX9_lengthOf_35 hl (by decide) rfl (fun ls hl => ?_)
  refine lv_iload hx hb dX9_lengthOf_37 (lv_at hl 1 rfl) ?_
  refine lv_iload hx hb dX9_lengthOf_39 (lv_at hl 1 rfl) ?_
  refine lv_imul hx hb dX9_lengthOf_41 ?_
  refine lv_iload hx hb dX9_lengthOf_42 (lv_at hl 0 rfl) ?_
  refine lv_iload hx hb dX9_lengthOf_44 (lv_at hl 0 rfl) ?_
  refine lv_imul hx hb dX9_lengthOf_46 ?_
  refine lv_iadd hx hb dX9_lengthOf_47 ?_
  obtain rfl := Option.some.inj h
  exact hE H locs 48 ls _ hP hD hS rfl dX9_lengthOf_48
def G_X9_load (m0 : Mod) : Option (Int32 × Mod) :=
  (G_X9_copy 85 85 (m_state m0) (m_kept m0) 0 0).bind fun v10 =>
  (G_X9_readText (ms_kept m0 v10)).bind fun v15 =>
  ((if v15.1 = (-9) then
      some 0
    else
      some 1) : Option (Int32)).bind fun b20 =>
  if m_thrown (ms_thrown v15.2 b20) ≤ 0 then
    (some (ms_thrown v15.2 b20)).bind fun z0_55 =>
    (some (ms_remembered z0_55 0)).bind fun z0_64 =>
    (wr 2 (m_isSaved z0_64) 0 0).bind fun g64 =>
    (some (ms_isSaved z0_64 g64)).bind fun z0_71 =>
    (wr 2 (m_isSaved z0_71) 1 0).bind fun g71 =>
    (rd 85 (m_state (ms_isSaved z0_71 g71)) 0).bind fun v77 =>
    some (v77, ms_isSaved z0_71 g71)
  else
    (some (ms_thrown v15.2 b20)).bind fun z0_48 =>
    (G_X9_copy 85 85 (m_kept (z0_48)) (m_state (z0_48)) 0 0).bind fun v48 =>
    some (0, ms_state z0_48 v48)
abbrev rm_X9_load : Room := { frames := 6, cells := 0, slots := 0, locals := 151 }
theorem hdS_X9_load : yX9_load.cls ≠ "java/lang/invoke/MethodHandle" ∧ yX9_load.cls ≠ "java/lang/invoke/VarHandle" ∧ (parseMethodDescriptor yX9_load.desc).map (fun d => d.parameters.length) = some 0 := by decide +kernel
theorem hdV_X9_load : yX9_load.cls = RX9 ∧ yX9_load.cls ≠ "java/lang/invoke/MethodHandle" ∧ yX9_load.cls ≠ "java/lang/invoke/VarHandle" ∧ (parseMethodDescriptor yX9_load.desc).map (fun d => d.parameters.length) = some 0 := ⟨rfl, hdS_X9_load⟩
set_option maxHeartbeats 4000000 in
set_option maxRecDepth 100000 in
theorem c_X9_load (l : Launch) (dC : Nat → ClassId) (dI : Nat → Nat → Nat) (cy : Nat → ClassId) (a0 : Nat → Nat) (m0 : Mod) (res : Int32 × Mod) (h : G_X9_load m0 = some res) : CT l (dC, dI) (TY cy) yX9_load cX9_load 1 (some .int) rm_X9_load [.ref (a0 0)] (wMod a0 cy m0) (wMod a0 cy res.2) (some (.int res.1)) := by
  refine CT.mk_i (own := RX9) ⟨by decide, rfl⟩ (Nat.le_of_ble_eq_true rfl) ?_
  intro p e s mm args below meth cd A Q hx hb hml hown htg hN hK hA hP hD hS hE ls hl
  have hl : lv_has ls 1 [(0, .ref (a0 0))] := hl
  replace h : _ = some res := h
  unfold G_X9_load at h
  obtain ⟨H, hH⟩ : ∃ H, H = s.heap := ⟨_, rfl⟩
  obtain ⟨locs, hlocs⟩ : ∃ locs : List Loc, locs = [] := ⟨_, rfl⟩
  rw [← hlocs] at hS ⊢
  have hS : va_S A s.heap H locs := by rw [hH]; exact hS
  rw [← hH] at hP ⊢
  refine lv_aload_n hx hb dX9_load_0 rfl (lv_at hl 0 rfl) ?_
  refine va_get (D := (dC, dI)) (ci := 4) (v := .ref (a0 1)) (C := RX9) (T := TX9) (N := 18) hx hb htg inX9 hown hK hP 0 rfl rfl 1 (by decide) (htg _ gw851) (fun _ h9 => h9) rfl dX9_load_1 ?_
  refine lv_iconst (v := 0) hx hb dX9_load_4 (by decide) ?_
  refine lv_aload_n hx hb dX9_load_5 rfl (lv_at hl 0 rfl) ?_
  refine va_get (D := (dC, dI)) (ci := 4) (v := .ref (a0 2)) (C := RX9) (T := TX9) (N := 18) hx hb htg inX9 hown hK hP 0 rfl rfl 2 (by decide) (htg _ gw852) (fun _ h9 => h9) rfl dX9_load_6 ?_
  refine lv_iconst (v := 0) hx hb dX9_load_9 (by decide) ?_
  obtain ⟨v10, e10, h⟩ := bnd h
  refine cS (av := [.ref (a0 1), .int 0, .ref (a0 2), .int 0]) (rest := []) (st1 := []) (k1 := 0) (k2 := 0) hx hb hml hown htg hN hK (c_X9_copy l dC dI cy (a0 1) (a0 2) 85 85 (m_state m0) (m_kept m0) 0 0 v10 e10) (g_S gw924 gw925 gw63 gw926) hdS_X9_copy rfl ⟨⟨Nat.le_of_ble_eq_true rfl, Nat.le_of_ble_eq_true rfl⟩, Nat.le_of_ble_eq_true rfl, Nat.le_of_ble_eq_true rfl⟩ hP hD hS hA [1, 2] [0, 3, 4, 5, 6, 7, 8, 9, 10, 11, 12, 13, 14] rfl rfl rfl (by decide) (by decide) hl.1 rfl (Nat.le_of_ble_eq_true rfl) rfl rfl rfl dX9_load_10 (fun H locs hP hD hS => ?_)
  obtain ⟨hP, hD⟩ := x_perm (ws' := wMod a0 cy (ms_kept m0 v10)) hP hD [0, 13, 14, 1, 2, 3, 4, 5, 6, 7, 8, 9, 10, 11, 12] (by decide) rfl rfl
  refine lv_aload_n hx hb dX9_load_13 rfl (lv_at hl 0 rfl) ?_
  refine lv_aload_n hx hb dX9_load_14 rfl (lv_at hl 0 rfl) ?_
  obtain ⟨v15, e15, h⟩ := bnd h
  refine cV (av := []) (rest := [.ref (a0 0)]) (st1 := [.int v15.1, .ref (a0 0)]) (k1 := 0) (k2 := 0) (ci := 4) (q0 := 0) hx hb hml hown htg hN hK (c_X9_readText l dC dI cy a0 (ms_kept m0 v10)  v15 e15) (g_V gw927 gw929 gw8 gw63 gw930) hdV_X9_readText rfl ⟨⟨Nat.le_of_ble_eq_true rfl, Nat.le_of_ble_eq_true rfl⟩, Nat.le_of_ble_eq_true rfl, Nat.le_of_ble_eq_true rfl⟩ hP hD hS hA ⟨rfl, rfl⟩ rfl [0, 1, 2, 3, 4, 5, 6, 7, 8, 9, 10, 11, 12, 13, 14] [] rfl rfl rfl (by decide) (by decide) hl.1 rfl (Nat.le_of_ble_eq_true rfl) rfl rfl rfl dX9_load_15 (fun H locs hP hD hS => ?_)
  have hP : va_P (dC, dI) vwCl (wMod a0 cy v15.2) H := hP
  have hD : va_D A (wMod a0 cy v15.2) := hD
  refine lv_bipush (v := (-9)) hx hb dX9_load_18 (by decide) ?_
  obtain ⟨b20, e20, h⟩ := bnd h
  have hr28 : ∀ (H : Heap) (locs : List Loc) (ls : Array Slot), va_P (dC, dI) vwCl (wMod a0 cy v15.2) H → va_D A (wMod a0 cy v15.2) → va_S A s.heap H locs → lv_has ls 1 [(0, .ref (a0 0))] → W p l e rm_X9_load s mm args below meth cd H locs 0 0 Q (F0 mm 28 ls [.int b20, .ref (a0 0)]) := by
    intro H locs ls hP hD hS hl
    refine va_put (D := (dC, dI)) (ci := 4) (v := .int b20) (ty := .int) (C := RX9) (T := TX9) (N := 18) hx hb htg inX9 tyX9 tyX9_ok nmX9 hown hK hP hD hS 0 rfl rfl 0 (by decide) (htg _ gw850) (fun _ h9 => h9) rfl (by decide +kernel) rfl rfl (Nat.le_of_ble_eq_true rfl) dX9_load_28 (fun H locs hP hD hS => ?_)
    have hP : va_P (dC, dI) vwCl (wMod a0 cy (ms_thrown v15.2 b20)) H := hP
    have hD : va_D A (wMod a0 cy (ms_thrown v15.2 b20)) := hD
    refine lv_aload_n hx hb dX9_load_31 rfl (lv_at hl 0 rfl) ?_
    refine va_get (D := (dC, dI)) (ci := 4) (v := .int (m_thrown (ms_thrown v15.2 b20))) (C := RX9) (T := TX9) (N := 18) hx hb htg inX9 hown hK hP 0 rfl rfl 0 (by decide) (htg _ gw850) (fun _ h9 => h9) rfl dX9_load_32 ?_
    refine lv_if_le (tgt := 53) hx hb dX9_load_35 (by decide) (fun c35 => ?_) (fun c35 => ?_)
    · replace h := if_t h c35
      refine lv_aload_n hx hb dX9_load_53 rfl (lv_at hl 0 rfl) ?_
      refine lv_iconst (v := 0) hx hb dX9_load_54 (by decide) ?_
      obtain ⟨z0_55, ez0_55, h⟩ := bnd h
      replace ez0_55 := Option.some.inj ez0_55
      rw [ez0_55] at hP hD
      refine va_put (D := (dC, dI)) (ci := 4) (v := .int 0) (ty := .int) (C := RX9) (T := TX9) (N := 18) hx hb htg inX9 tyX9 tyX9_ok nmX9 hown hK hP hD hS 0 rfl rfl 5 (by decide) (htg _ gw855) (fun _ h9 => h9) rfl (by decide +kernel) rfl rfl (Nat.le_of_ble_eq_true rfl) dX9_load_55 (fun H locs hP hD hS => ?_)
      have hP : va_P (dC, dI) vwCl (wMod a0 cy (ms_remembered z0_55 0)) H := hP
      have hD : va_D A (wMod a0 cy (ms_remembered z0_55 0)) := hD
      refine lv_aload_n hx hb dX9_load_58 rfl (lv_at hl 0 rfl) ?_
      refine va_get (D := (dC, dI)) (ci := 4) (v := .ref (a0 6)) (C := RX9) (T := TX9) (N := 18) hx hb htg inX9 hown hK hP 0 rfl rfl 7 (by decide) (htg _ gw857) (fun _ h9 => h9) rfl dX9_load_59 ?_
      refine lv_iconst (v := 0) hx hb dX9_load_62 (by decide) ?_
      refine lv_iconst (v := 0) hx hb dX9_load_63 (by decide) ?_
      obtain ⟨z0_64, ez0_64, h⟩ := bnd h
      replace ez0_64 := Option.some.inj ez0_64
      rw [ez0_64] at hP hD
      obtain ⟨g64, e64, h⟩ := bnd h
      refine x_iast (g := g64) hx hb hK hP hD hS 6 0 rfl rfl e64 dX9_load_64 (fun H locs hP hD hS => ?_)
      have hP : va_P (dC, dI) vwCl (wMod a0 cy (ms_isSaved z0_64 g64)) H := hP
      have hD : va_D A (wMod a0 cy (ms_isSaved z0_64 g64)) := hD
      refine lv_aload_n hx hb dX9_load_65 rfl (lv_at hl 0 rfl) ?_
      refine va_get (D := (dC, dI)) (ci := 4) (v := .ref (a0 6)) (C := RX9) (T := TX9) (N := 18) hx hb htg inX9 hown hK hP 0 rfl rfl 7 (by decide) (htg _ gw857) (fun _ h9 => h9) rfl dX9_load_66 ?_
      refine lv_iconst (v := 1) hx hb dX9_load_69 (by decide) ?_
      refine lv_iconst (v := 0) hx hb dX9_load_70 (by decide) ?_
      obtain ⟨z0_71, ez0_71, h⟩ := bnd h
      replace ez0_71 := Option.some.inj ez0_71
      rw [ez0_71] at hP hD
      obtain ⟨g71, e71, h⟩ := bnd h
      refine x_iast (g := g71) hx hb hK hP hD hS 6 0 rfl rfl e71 dX9_load_71 (fun H locs hP hD hS => ?_)
      have hP : va_P (dC, dI) vwCl (wMod a0 cy (ms_isSaved z0_71 g71)) H := hP
      have hD : va_D A (wMod a0 cy (ms_isSaved z0_71 g71)) := hD
      refine lv_aload_n hx hb dX9_load_72 rfl (lv_at hl 0 rfl) ?_
      refine va_get (D := (dC, dI)) (ci := 4) (v := .ref (a0 1)) (C := RX9) (T := TX9) (N := 18) hx hb htg inX9 hown hK hP 0 rfl rfl 1 (by decide) (htg _ gw851) (fun _ h9 => h9) rfl dX9_load_73 ?_
      refine lv_iconst (v := 0) hx hb dX9_load_76 (by decide) ?_
      obtain ⟨v77, e77, h⟩ := bnd h
      refine x_iald (v := v77) hx hb hK hP 1 0 rfl rfl e77 dX9_load_77 ?_
      obtain rfl := Option.some.inj h
      exact hE H locs 78 ls _ hP hD hS rfl dX9_load_78
    replace h := if_f h c35
    refine lv_aload_n hx hb dX9_load_38 rfl (lv_at hl 0 rfl) ?_
    refine va_get (D := (dC, dI)) (ci := 4) (v := .ref (a0 2)) (C := RX9) (T := TX9) (N := 18) hx hb htg inX9 hown hK hP 0 rfl rfl 2 (by decide) (htg _ gw852) (fun _ h9 => h9) rfl dX9_load_39 ?_
    refine lv_iconst (v := 0) hx hb dX9_load_42 (by decide) ?_
    refine lv_aload_n hx hb dX9_load_43 rfl (lv_at hl 0 rfl) ?_
    refine va_get (D := (dC, dI)) (ci := 4) (v := .ref (a0 1)) (C := RX9) (T := TX9) (N := 18) hx hb htg inX9 hown hK hP 0 rfl rfl 1 (by decide) (htg _ gw851) (fun _ h9 => h9) rfl dX9_load_44 ?_
    refine lv_iconst (v := 0) hx hb dX9_load_47 (by decide) ?_
    obtain ⟨z0_48, ez0_48, h⟩ := bnd h
    replace ez0_48 := Option.some.inj ez0_48
    rw [ez0_48] at hP hD
    obtain ⟨v48, e48, h⟩ := bnd h
    refine cS (av := [.ref (a0 2), .int 0, .ref (a0 1), .int 0]) (rest := []) (st1 := []) (k1 := 0) (k2 := 0) hx hb hml hown htg hN hK (c_X9_copy l dC dI cy (a0 2) (a0 1) 85 85 (m_kept (z0_48)) (m_state (z0_48)) 0 0 v48 e48) (g_S gw924 gw925 gw63 gw926) hdS_X9_copy rfl ⟨⟨Nat.le_of_ble_eq_true rfl, Nat.le_of_ble_eq_true rfl⟩, Nat.le_of_ble_eq_true rfl, Nat.le_of_ble_eq_true rfl⟩ hP hD hS hA [2, 1] [0, 3, 4, 5, 6, 7, 8, 9, 10, 11, 12, 13, 14] rfl rfl rfl (by decide) (by decide) hl.1 rfl (Nat.le_of_ble_eq_true rfl) rfl rfl rfl dX9_load_48 (fun H locs hP hD hS => ?_)
    obtain ⟨hP, hD⟩ := x_perm (ws' := wMod a0 cy (ms_state z0_48 v48)) hP hD [0, 14, 13, 1, 2, 3, 4, 5, 6, 7, 8, 9, 10, 11, 12] (by decide) rfl rfl
    refine lv_iconst (v := 0) hx hb dX9_load_51 (by decide) ?_
    obtain rfl := Option.some.inj h
    exact hE H locs 52 ls _ hP hD hS rfl dX9_load_52
  have h := e20
  clear e20
  refine lv_icmp_ne (tgt := 27) hx hb dX9_load_20 (by decide) (fun c20 => ?_) (fun c20 => ?_)
  · replace h := if_f h c20
    refine lv_iconst (v := 1) hx hb dX9_load_27 (by decide) ?_
    obtain rfl := Option.some.inj h
    exact hr28 H locs ls hP hD hS hl
  replace h := if_t h c20
  refine lv_iconst (v := 0) hx hb dX9_load_23 (by decide) ?_
  refine lv_goto (tgt := 28) hx hb dX9_load_24 (by decide) ?_
  obtain rfl := Option.some.inj h
  exact hr28 H locs ls hP hD hS hl
def G_X9_longest_L4  (m0 : Mod) : Nat → Int32 → Int32 → Int32 → Option (Int32)
  | 0, _, _, _ => none
  | n4 + 1, l3_4, l2_4, l1_4 =>
    (G_X9_many m0 l1_4).bind fun v7 =>
    if v7 ≤ l3_4 then
      some l2_4
    else
      (G_X9_lengthOf m0 l1_4 l3_4).bind fun v16 =>
      (G_X9_lengthOf m0 l1_4 l2_4).bind fun v22 =>
      ((if v16 ≤ v22 then
          some l2_4
        else
          some l3_4) : Option (Int32)).bind fun b25 =>
      (G_X9_longest_L4 m0 n4) (l3_4 + 1) b25 l1_4
def G_X9_longest (m0 : Mod) (p1 : Int32) : Option (Int32) :=
  G_X9_longest_L4 m0 FU 1 0 p1
abbrev rm_X9_longest : Room := { frames := 3, cells := 0, slots := 0, locals := 68 }
theorem hdS_X9_longest : yX9_longest.cls ≠ "java/lang/invoke/MethodHandle" ∧ yX9_longest.cls ≠ "java/lang/invoke/VarHandle" ∧ (parseMethodDescriptor yX9_longest.desc).map (fun d => d.parameters.length) = some 1 := by decide +kernel
theorem hdV_X9_longest : yX9_longest.cls = RX9 ∧ yX9_longest.cls ≠ "java/lang/invoke/MethodHandle" ∧ yX9_longest.cls ≠ "java/lang/invoke/VarHandle" ∧ (parseMethodDescriptor yX9_longest.desc).map (fun d => d.parameters.length) = some 1 := ⟨rfl, hdS_X9_longest⟩
set_option maxHeartbeats 4000000 in
set_option maxRecDepth 100000 in
theorem c_X9_longest (l : Launch) (dC : Nat → ClassId) (dI : Nat → Nat → Nat) (cy : Nat → ClassId) (a0 : Nat → Nat) (m0 : Mod) (p1 : Int32) (res : Int32) (h : G_X9_longest m0 p1 = some res) : CT l (dC, dI) (TY cy) yX9_longest cX9_longest 4 (some .int) rm_X9_longest [.ref (a0 0), .int p1] (wMod a0 cy m0) (wMod a0 cy m0) (some (.int res)) := by
  refine CT.mk_i (own := RX9) ⟨by decide, rfl⟩ (Nat.le_of_ble_eq_true rfl) ?_
  intro p e s mm args below meth cd A Q hx hb hml hown htg hN hK hA hP hD hS hE ls hl
  have hl : lv_has ls 4 [(0, .ref (a0 0)), (1, .int p1)] := hl
  replace h : _ = some res := h
  unfold G_X9_longest at h
  obtain ⟨H, hH⟩ : ∃ H, H = s.heap := ⟨_, rfl⟩
  obtain ⟨locs, hlocs⟩ : ∃ locs : List Loc, locs = [] := ⟨_, rfl⟩
  rw [← hlocs] at hS ⊢
  have hS : va_S A s.heap H locs := by rw [hH]; exact hS
  rw [← hH] at hP ⊢
  refine lv_iconst (v := 0) hx hb dX9_longest_0 (by decide) ?_
  refine lv_istore_n (lv' := [(2, .int 0), (0, .ref (a0 0)), (1, .int p1)]) hx hb dX9_longest_1 rfl hl (by decide) rfl (fun ls hl => ?_)
  refine lv_iconst (v := 1) hx hb dX9_longest_2 (by decide) ?_
  refine lv_istore_n (lv' := [(3, .int 1), (2, .int 0), (0, .ref (a0 0)), (1, .int p1)]) hx hb dX9_longest_3 rfl hl (by decide) rfl (fun ls hl => ?_)
  have hL4 : ∀ (n4 : Nat) (l3_4 : Int32) (l2_4 : Int32) (l1_4 : Int32) (H : Heap) (locs : List Loc) (ls : Array Slot), G_X9_longest_L4 m0 n4 l3_4 l2_4 l1_4 = some res → va_P (dC, dI) vwCl (wMod a0 cy m0) H → va_D A (wMod a0 cy m0) → va_S A s.heap H locs → lv_has ls 4 [(3, .int l3_4), (2, .int l2_4), (0, .ref (a0 0)), (1, .int l1_4)] → W p l e rm_X9_longest s mm args below meth cd H locs 0 0 Q (F0 mm 4 ls []) := by
    intro n4
    induction n4 with
    | zero => intro l3_4 l2_4 l1_4 H locs ls h; exact absurd h (by simp [G_X9_longest_L4])
    | succ n4 ih4 =>
      intro l3_4 l2_4 l1_4 H locs ls h hP hD hS hl
      rw [G_X9_longest_L4] at h
      refine lv_iload_n hx hb dX9_longest_4 rfl (lv_at hl 0 rfl) ?_
      refine lv_aload_n hx hb dX9_longest_5 rfl (lv_at hl 2 rfl) ?_
      refine lv_iload_n hx hb dX9_longest_6 rfl (lv_at hl 3 rfl) ?_
      obtain ⟨v7, e7, h⟩ := bnd h
      refine cV (av := [.int l1_4]) (rest := [.int l3_4]) (st1 := [.int v7, .int l3_4]) (k1 := 0) (k2 := 0) (ci := 4) (q0 := 0) hx hb hml hown htg hN hK (c_X9_many l dC dI cy a0 m0 l1_4 v7 e7) (g_V gw935 gw937 gw10 gw63 gw938) hdV_X9_many rfl ⟨⟨Nat.le_of_ble_eq_true rfl, Nat.le_of_ble_eq_true rfl⟩, Nat.le_of_ble_eq_true rfl, Nat.le_of_ble_eq_true rfl⟩ hP hD hS hA ⟨rfl, rfl⟩ rfl [0, 1, 2, 3, 4, 5, 6, 7, 8, 9, 10, 11, 12, 13, 14] [] rfl rfl rfl (by decide) (by decide) hl.1 rfl (Nat.le_of_ble_eq_true rfl) rfl rfl rfl dX9_longest_7 (fun H locs hP hD hS => ?_)
      have hP : va_P (dC, dI) vwCl (wMod a0 cy m0) H := hP
      have hD : va_D A (wMod a0 cy m0) := hD
      refine lv_icmp_ge (tgt := 40) hx hb dX9_longest_10 (by decide) (fun c10 => ?_) (fun c10 => ?_)
      · replace h := if_t h c10
        refine lv_iload_n hx hb dX9_longest_40 rfl (lv_at hl 1 rfl) ?_
        obtain rfl := Option.some.inj h
        exact hE H locs 41 ls _ hP hD hS rfl dX9_longest_41
      replace h := if_f h c10
      refine lv_aload_n hx hb dX9_longest_13 rfl (lv_at hl 2 rfl) ?_
      refine lv_iload_n hx hb dX9_longest_14 rfl (lv_at hl 3 rfl) ?_
      refine lv_iload_n hx hb dX9_longest_15 rfl (lv_at hl 0 rfl) ?_
      obtain ⟨v16, e16, h⟩ := bnd h
      refine cV (av := [.int l1_4, .int l3_4]) (rest := []) (st1 := [.int v16]) (k1 := 0) (k2 := 0) (ci := 4) (q0 := 0) hx hb hml hown htg hN hK (c_X9_lengthOf l dC dI cy a0 m0 l1_4 l3_4 v16 e16) (g_V gw1094 gw1096 gw43 gw63 gw1097) hdV_X9_lengthOf rfl ⟨⟨Nat.le_of_ble_eq_true rfl, Nat.le_of_ble_eq_true rfl⟩, Nat.le_of_ble_eq_true rfl, Nat.le_of_ble_eq_true rfl⟩ hP hD hS hA ⟨rfl, rfl⟩ rfl [0, 1, 2, 3, 4, 5, 6, 7, 8, 9, 10, 11, 12, 13, 14] [] rfl rfl rfl (by decide) (by decide) hl.1 rfl (Nat.le_of_ble_eq_true rfl) rfl rfl rfl dX9_longest_16 (fun H locs hP hD hS => ?_)
      have hP : va_P (dC, dI) vwCl (wMod a0 cy m0) H := hP
      have hD : va_D A (wMod a0 cy m0) := hD
      refine lv_aload_n hx hb dX9_longest_19 rfl (lv_at hl 2 rfl) ?_
      refine lv_iload_n hx hb dX9_longest_20 rfl (lv_at hl 3 rfl) ?_
      refine lv_iload_n hx hb dX9_longest_21 rfl (lv_at hl 1 rfl) ?_
      obtain ⟨v22, e22, h⟩ := bnd h
      refine cV (av := [.int l1_4, .int l2_4]) (rest := [.int v16]) (st1 := [.int v22, .int v16]) (k1 := 0) (k2 := 0) (ci := 4) (q0 := 0) hx hb hml hown htg hN hK (c_X9_lengthOf l dC dI cy a0 m0 l1_4 l2_4 v22 e22) (g_V gw1094 gw1096 gw43 gw63 gw1097) hdV_X9_lengthOf rfl ⟨⟨Nat.le_of_ble_eq_true rfl, Nat.le_of_ble_eq_true rfl⟩, Nat.le_of_ble_eq_true rfl, Nat.le_of_ble_eq_true rfl⟩ hP hD hS hA ⟨rfl, rfl⟩ rfl [0, 1, 2, 3, 4, 5, 6, 7, 8, 9, 10, 11, 12, 13, 14] [] rfl rfl rfl (by decide) (by decide) hl.1 rfl (Nat.le_of_ble_eq_true rfl) rfl rfl rfl dX9_longest_22 (fun H locs hP hD hS => ?_)
      have hP : va_P (dC, dI) vwCl (wMod a0 cy m0) H := hP
      have hD : va_D A (wMod a0 cy m0) := hD
      obtain ⟨b25, e25, h⟩ := bnd h
      have hr33 : ∀ (H : Heap) (locs : List Loc) (ls : Array Slot), va_P (dC, dI) vwCl (wMod a0 cy m0) H → va_D A (wMod a0 cy m0) → va_S A s.heap H locs → lv_has ls 4 [(3, .int l3_4), (2, .int l2_4), (0, .ref (a0 0)), (1, .int l1_4)] → W p l e rm_X9_longest s mm args below meth cd H locs 0 0 Q (F0 mm 33 ls [.int b25]) := by
        intro H locs ls hP hD hS hl
        refine lv_istore_n (lv' := [(2, .int b25), (3, .int l3_4), (0, .ref (a0 0)), (1, .int l1_4)]) hx hb dX9_longest_33 rfl hl (by decide) rfl (fun ls hl => ?_)
        refine lv_iinc (v := l3_4 + 1) (lv' := [(3, .int (l3_4 + 1)), (2, .int b25), (0, .ref (a0 0)), (1, .int l1_4)]) hx hb dX9_longest_34 hl (k := 1) rfl rfl (by decide) rfl (fun ls hl => ?_)
        refine lv_goto (tgt := 4) hx hb dX9_longest_37 (by decide) ?_
        exact ih4 (l3_4 + 1) b25 l1_4 H locs ls h hP hD hS (lv_sub hl [0, 1, 2, 3] rfl)
      have h := e25
      clear e25
      refine lv_icmp_le (tgt := 32) hx hb dX9_longest_25 (by decide) (fun c25 => ?_) (fun c25 => ?_)
      · replace h := if_t h c25
        refine lv_iload_n hx hb dX9_longest_32 rfl (lv_at hl 1 rfl) ?_
        obtain rfl := Option.some.inj h
        exact hr33 H locs ls hP hD hS hl
      replace h := if_f h c25
      refine lv_iload_n hx hb dX9_longest_28 rfl (lv_at hl 0 rfl) ?_
      refine lv_goto (tgt := 33) hx hb dX9_longest_29 (by decide) ?_
      obtain rfl := Option.some.inj h
      exact hr33 H locs ls hP hD hS hl
  exact hL4 FU 1 0 p1 H locs ls h hP hD hS (lv_sub hl [0, 1, 2, 3] rfl)
def G_X9_mirror (m0 : Mod) : Option (Int32 × Mod) :=
  (G_X9_turned (ms_thrown m0 0) 1).bind fun v7 =>
  (G_X9_remember v7).bind fun v11 =>
  (G_X9_greatestX v11).bind fun v15 =>
  some (v15, v11)
abbrev rm_X9_mirror : Room := { frames := 3, cells := 0, slots := 0, locals := 69 }
theorem hdS_X9_mirror : yX9_mirror.cls ≠ "java/lang/invoke/MethodHandle" ∧ yX9_mirror.cls ≠ "java/lang/invoke/VarHandle" ∧ (parseMethodDescriptor yX9_mirror.desc).map (fun d => d.parameters.length) = some 0 := by decide +kernel
theorem hdV_X9_mirror : yX9_mirror.cls = RX9 ∧ yX9_mirror.cls ≠ "java/lang/invoke/MethodHandle" ∧ yX9_mirror.cls ≠ "java/lang/invoke/VarHandle" ∧ (parseMethodDescriptor yX9_mirror.desc).map (fun d => d.parameters.length) = some 0 := ⟨rfl, hdS_X9_mirror⟩
set_option maxHeartbeats 4000000 in
set_option maxRecDepth 100000 in
theorem c_X9_mirror (l : Launch) (dC : Nat → ClassId) (dI : Nat → Nat → Nat) (cy : Nat → ClassId) (a0 : Nat → Nat) (m0 : Mod) (res : Int32 × Mod) (h : G_X9_mirror m0 = some res) : CT l (dC, dI) (TY cy) yX9_mirror cX9_mirror 1 (some .int) rm_X9_mirror [.ref (a0 0)] (wMod a0 cy m0) (wMod a0 cy res.2) (some (.int res.1)) := by
  refine CT.mk_i (own := RX9) ⟨by decide, rfl⟩ (Nat.le_of_ble_eq_true rfl) ?_
  intro p e s mm args below meth cd A Q hx hb hml hown htg hN hK hA hP hD hS hE ls hl
  have hl : lv_has ls 1 [(0, .ref (a0 0))] := hl
  replace h : _ = some res := h
  unfold G_X9_mirror at h
  obtain ⟨H, hH⟩ : ∃ H, H = s.heap := ⟨_, rfl⟩
  obtain ⟨locs, hlocs⟩ : ∃ locs : List Loc, locs = [] := ⟨_, rfl⟩
  rw [← hlocs] at hS ⊢
  have hS : va_S A s.heap H locs := by rw [hH]; exact hS
  rw [← hH] at hP ⊢
  refine lv_aload_n hx hb dX9_mirror_0 rfl (lv_at hl 0 rfl) ?_
  refine lv_iconst (v := 0) hx hb dX9_mirror_1 (by decide) ?_
  refine va_put (D := (dC, dI)) (ci := 4) (v := .int 0) (ty := .int) (C := RX9) (T := TX9) (N := 18) hx hb htg inX9 tyX9 tyX9_ok nmX9 hown hK hP hD hS 0 rfl rfl 0 (by decide) (htg _ gw850) (fun _ h9 => h9) rfl (by decide +kernel) rfl rfl (Nat.le_of_ble_eq_true rfl) dX9_mirror_2 (fun H locs hP hD hS => ?_)
  have hP : va_P (dC, dI) vwCl (wMod a0 cy (ms_thrown m0 0)) H := hP
  have hD : va_D A (wMod a0 cy (ms_thrown m0 0)) := hD
  refine lv_aload_n hx hb dX9_mirror_5 rfl (lv_at hl 0 rfl) ?_
  refine lv_iconst (v := 1) hx hb dX9_mirror_6 (by decide) ?_
  obtain ⟨v7, e7, h⟩ := bnd h
  refine cV (av := [.int 1]) (rest := []) (st1 := []) (k1 := 0) (k2 := 0) (ci := 4) (q0 := 0) hx hb hml hown htg hN hK (c_X9_turned l dC dI cy a0 (ms_thrown m0 0) 1 v7 e7) (g_V gw1181 gw1183 gw54 gw63 gw1184) hdV_X9_turned rfl ⟨⟨Nat.le_of_ble_eq_true rfl, Nat.le_of_ble_eq_true rfl⟩, Nat.le_of_ble_eq_true rfl, Nat.le_of_ble_eq_true rfl⟩ hP hD hS hA ⟨rfl, rfl⟩ rfl [0, 1, 2, 3, 4, 5, 6, 7, 8, 9, 10, 11, 12, 13, 14] [] rfl rfl rfl (by decide) (by decide) hl.1 rfl (Nat.le_of_ble_eq_true rfl) rfl rfl rfl dX9_mirror_7 (fun H locs hP hD hS => ?_)
  have hP : va_P (dC, dI) vwCl (wMod a0 cy v7) H := hP
  have hD : va_D A (wMod a0 cy v7) := hD
  refine lv_aload_n hx hb dX9_mirror_10 rfl (lv_at hl 0 rfl) ?_
  obtain ⟨v11, e11, h⟩ := bnd h
  refine cV (av := []) (rest := []) (st1 := []) (k1 := 0) (k2 := 0) (ci := 4) (q0 := 0) hx hb hml hown htg hN hK (c_X9_remember l dC dI cy a0 v7  v11 e11) (g_V gw1133 gw1135 gw48 gw63 gw1136) hdV_X9_remember rfl ⟨⟨Nat.le_of_ble_eq_true rfl, Nat.le_of_ble_eq_true rfl⟩, Nat.le_of_ble_eq_true rfl, Nat.le_of_ble_eq_true rfl⟩ hP hD hS hA ⟨rfl, rfl⟩ rfl [0, 1, 2, 3, 4, 5, 6, 7, 8, 9, 10, 11, 12, 13, 14] [] rfl rfl rfl (by decide) (by decide) hl.1 rfl (Nat.le_of_ble_eq_true rfl) rfl rfl rfl dX9_mirror_11 (fun H locs hP hD hS => ?_)
  have hP : va_P (dC, dI) vwCl (wMod a0 cy v11) H := hP
  have hD : va_D A (wMod a0 cy v11) := hD
  refine lv_aload_n hx hb dX9_mirror_14 rfl (lv_at hl 0 rfl) ?_
  obtain ⟨v15, e15, h⟩ := bnd h
  refine cV (av := []) (rest := []) (st1 := [.int v15]) (k1 := 0) (k2 := 0) (ci := 4) (q0 := 0) hx hb hml hown htg hN hK (c_X9_greatestX l dC dI cy a0 v11  v15 e15) (g_V gw1173 gw1175 gw53 gw63 gw1176) hdV_X9_greatestX rfl ⟨⟨Nat.le_of_ble_eq_true rfl, Nat.le_of_ble_eq_true rfl⟩, Nat.le_of_ble_eq_true rfl, Nat.le_of_ble_eq_true rfl⟩ hP hD hS hA ⟨rfl, rfl⟩ rfl [0, 1, 2, 3, 4, 5, 6, 7, 8, 9, 10, 11, 12, 13, 14] [] rfl rfl rfl (by decide) (by decide) hl.1 rfl (Nat.le_of_ble_eq_true rfl) rfl rfl rfl dX9_mirror_15 (fun H locs hP hD hS => ?_)
  have hP : va_P (dC, dI) vwCl (wMod a0 cy v11) H := hP
  have hD : va_D A (wMod a0 cy v11) := hD
  obtain rfl := Option.some.inj h
  exact hE H locs 18 ls _ hP hD hS rfl dX9_mirror_18
def G_X9_move (m0 : Mod) (p1 : Int32) (p2 : Int32) (p3 : Int32) (p4 : Int32) : Option (Int32 × Mod) :=
  (G_X9_tryMove m0 p1 p2 p3 p4).bind fun v7 =>
  if m_thrown (ms_thrown v7.2 v7.1) ≤ 0 then
    (G_X9_remember (ms_thrown v7.2 v7.1)).bind fun v23 =>
    (G_X9_area v23).bind fun v27 =>
    some (v27, v23)
  else
    some (0, ms_thrown v7.2 v7.1)
abbrev rm_X9_move : Room := { frames := 7, cells := 0, slots := 0, locals := 170 }
theorem hdS_X9_move : yX9_move.cls ≠ "java/lang/invoke/MethodHandle" ∧ yX9_move.cls ≠ "java/lang/invoke/VarHandle" ∧ (parseMethodDescriptor yX9_move.desc).map (fun d => d.parameters.length) = some 4 := by decide +kernel
theorem hdV_X9_move : yX9_move.cls = RX9 ∧ yX9_move.cls ≠ "java/lang/invoke/MethodHandle" ∧ yX9_move.cls ≠ "java/lang/invoke/VarHandle" ∧ (parseMethodDescriptor yX9_move.desc).map (fun d => d.parameters.length) = some 4 := ⟨rfl, hdS_X9_move⟩
set_option maxHeartbeats 4000000 in
set_option maxRecDepth 100000 in
theorem c_X9_move (l : Launch) (dC : Nat → ClassId) (dI : Nat → Nat → Nat) (cy : Nat → ClassId) (a0 : Nat → Nat) (m0 : Mod) (p1 : Int32) (p2 : Int32) (p3 : Int32) (p4 : Int32) (res : Int32 × Mod) (h : G_X9_move m0 p1 p2 p3 p4 = some res) : CT l (dC, dI) (TY cy) yX9_move cX9_move 5 (some .int) rm_X9_move [.ref (a0 0), .int p1, .int p2, .int p3, .int p4] (wMod a0 cy m0) (wMod a0 cy res.2) (some (.int res.1)) := by
  refine CT.mk_i (own := RX9) ⟨by decide, rfl⟩ (Nat.le_of_ble_eq_true rfl) ?_
  intro p e s mm args below meth cd A Q hx hb hml hown htg hN hK hA hP hD hS hE ls hl
  have hl : lv_has ls 5 [(0, .ref (a0 0)), (1, .int p1), (2, .int p2), (3, .int p3), (4, .int p4)] := hl
  replace h : _ = some res := h
  unfold G_X9_move at h
  obtain ⟨H, hH⟩ : ∃ H, H = s.heap := ⟨_, rfl⟩
  obtain ⟨locs, hlocs⟩ : ∃ locs : List Loc, locs = [] := ⟨_, rfl⟩
  rw [← hlocs] at hS ⊢
  have hS : va_S A s.heap H locs := by rw [hH]; exact hS
  rw [← hH] at hP ⊢
  refine lv_aload_n hx hb dX9_move_0 rfl (lv_at hl 0 rfl) ?_
  refine lv_aload_n hx hb dX9_move_1 rfl (lv_at hl 0 rfl) ?_
  refine lv_iload_n hx hb dX9_move_2 rfl (lv_at hl 1 rfl) ?_
  refine lv_iload_n hx hb dX9_move_3 rfl (lv_at hl 2 rfl) ?_
  refine lv_iload_n hx hb dX9_move_4 rfl (lv_at hl 3 rfl) ?_
  refine lv_iload hx hb dX9_move_5 (lv_at hl 4 rfl) ?_
  obtain ⟨v7, e7, h⟩ := bnd h
  refine cV (av := [.int p1, .int p2, .int p3, .int p4]) (rest := [.ref (a0 0)]) (st1 := [.int v7.1, .ref (a0 0)]) (k1 := 0) (k2 := 0) (ci := 4) (q0 := 0) hx hb hml hown htg hN hK (c_X9_tryMove l dC dI cy a0 m0 p1 p2 p3 p4 v7 e7) (g_V gw1121 gw1123 gw45 gw63 gw1124) hdV_X9_tryMove rfl ⟨⟨Nat.le_of_ble_eq_true rfl, Nat.le_of_ble_eq_true rfl⟩, Nat.le_of_ble_eq_true rfl, Nat.le_of_ble_eq_true rfl⟩ hP hD hS hA ⟨rfl, rfl⟩ rfl [0, 1, 2, 3, 4, 5, 6, 7, 8, 9, 10, 11, 12, 13, 14] [] rfl rfl rfl (by decide) (by decide) hl.1 rfl (Nat.le_of_ble_eq_true rfl) rfl rfl rfl dX9_move_7 (fun H locs hP hD hS => ?_)
  have hP : va_P (dC, dI) vwCl (wMod a0 cy v7.2) H := hP
  have hD : va_D A (wMod a0 cy v7.2) := hD
  refine va_put (D := (dC, dI)) (ci := 4) (v := .int v7.1) (ty := .int) (C := RX9) (T := TX9) (N := 18) hx hb htg inX9 tyX9 tyX9_ok nmX9 hown hK hP hD hS 0 rfl rfl 0 (by decide) (htg _ gw850) (fun _ h9 => h9) rfl (by decide +kernel) rfl rfl (Nat.le_of_ble_eq_true rfl) dX9_move_10 (fun H locs hP hD hS => ?_)
  have hP : va_P (dC, dI) vwCl (wMod a0 cy (ms_thrown v7.2 v7.1)) H := hP
  have hD : va_D A (wMod a0 cy (ms_thrown v7.2 v7.1)) := hD
  refine lv_aload_n hx hb dX9_move_13 rfl (lv_at hl 0 rfl) ?_
  refine va_get (D := (dC, dI)) (ci := 4) (v := .int (m_thrown (ms_thrown v7.2 v7.1))) (C := RX9) (T := TX9) (N := 18) hx hb htg inX9 hown hK hP 0 rfl rfl 0 (by decide) (htg _ gw850) (fun _ h9 => h9) rfl dX9_move_14 ?_
  refine lv_if_le (tgt := 22) hx hb dX9_move_17 (by decide) (fun c17 => ?_) (fun c17 => ?_)
  · replace h := if_t h c17
    refine lv_aload_n hx hb dX9_move_22 rfl (lv_at hl 0 rfl) ?_
    obtain ⟨v23, e23, h⟩ := bnd h
    refine cV (av := []) (rest := []) (st1 := []) (k1 := 0) (k2 := 0) (ci := 4) (q0 := 0) hx hb hml hown htg hN hK (c_X9_remember l dC dI cy a0 (ms_thrown v7.2 v7.1)  v23 e23) (g_V gw1133 gw1135 gw48 gw63 gw1136) hdV_X9_remember rfl ⟨⟨Nat.le_of_ble_eq_true rfl, Nat.le_of_ble_eq_true rfl⟩, Nat.le_of_ble_eq_true rfl, Nat.le_of_ble_eq_true rfl⟩ hP hD hS hA ⟨rfl, rfl⟩ rfl [0, 1, 2, 3, 4, 5, 6, 7, 8, 9, 10, 11, 12, 13, 14] [] rfl rfl rfl (by decide) (by decide) hl.1 rfl (Nat.le_of_ble_eq_true rfl) rfl rfl rfl dX9_move_23 (fun H locs hP hD hS => ?_)
    have hP : va_P (dC, dI) vwCl (wMod a0 cy v23) H := hP
    have hD : va_D A (wMod a0 cy v23) := hD
    refine lv_aload_n hx hb dX9_move_26 rfl (lv_at hl 0 rfl) ?_
    obtain ⟨v27, e27, h⟩ := bnd h
    refine cV (av := []) (rest := []) (st1 := [.int v27]) (k1 := 0) (k2 := 0) (ci := 4) (q0 := 0) hx hb hml hown htg hN hK (c_X9_area l dC dI cy a0 v23  v27 e27) (g_V gw1004 gw1006 gw23 gw63 gw1007) hdV_X9_area rfl ⟨⟨Nat.le_of_ble_eq_true rfl, Nat.le_of_ble_eq_true rfl⟩, Nat.le_of_ble_eq_true rfl, Nat.le_of_ble_eq_true rfl⟩ hP hD hS hA ⟨rfl, rfl⟩ rfl [0, 1, 2, 3, 4, 5, 6, 7, 8, 9, 10, 11, 12, 13, 14] [] rfl rfl rfl (by decide) (by decide) hl.1 rfl (Nat.le_of_ble_eq_true rfl) rfl rfl rfl dX9_move_27 (fun H locs hP hD hS => ?_)
    have hP : va_P (dC, dI) vwCl (wMod a0 cy v23) H := hP
    have hD : va_D A (wMod a0 cy v23) := hD
    obtain rfl := Option.some.inj h
    exact hE H locs 30 ls _ hP hD hS rfl dX9_move_30
  replace h := if_f h c17
  refine lv_iconst (v := 0) hx hb dX9_move_20 (by decide) ?_
  obtain rfl := Option.some.inj h
  exact hE H locs 21 ls _ hP hD hS rfl dX9_move_21
def G_X9_point (m0 : Mod) (p1 : Int32) (p2 : Int32) : Option (Int32 × Mod) :=
  (G_X9_isPoint p1 p2).bind fun v3 =>
  ((if v3 = 0 then
      some 1
    else
      some 0) : Option (Int32)).bind fun b6 =>
  if m_thrown (ms_thrown m0 b6) ≤ 0 then
    (G_X9_where (ms_thrown m0 b6) p1 p2).bind fun v31 =>
    some (v31, ms_thrown m0 b6)
  else
    some (0, ms_thrown m0 b6)
abbrev rm_X9_point : Room := { frames := 5, cells := 0, slots := 0, locals := 123 }
theorem hdS_X9_point : yX9_point.cls ≠ "java/lang/invoke/MethodHandle" ∧ yX9_point.cls ≠ "java/lang/invoke/VarHandle" ∧ (parseMethodDescriptor yX9_point.desc).map (fun d => d.parameters.length) = some 2 := by decide +kernel
theorem hdV_X9_point : yX9_point.cls = RX9 ∧ yX9_point.cls ≠ "java/lang/invoke/MethodHandle" ∧ yX9_point.cls ≠ "java/lang/invoke/VarHandle" ∧ (parseMethodDescriptor yX9_point.desc).map (fun d => d.parameters.length) = some 2 := ⟨rfl, hdS_X9_point⟩
set_option maxHeartbeats 4000000 in
set_option maxRecDepth 100000 in
theorem c_X9_point (l : Launch) (dC : Nat → ClassId) (dI : Nat → Nat → Nat) (cy : Nat → ClassId) (a0 : Nat → Nat) (m0 : Mod) (p1 : Int32) (p2 : Int32) (res : Int32 × Mod) (h : G_X9_point m0 p1 p2 = some res) : CT l (dC, dI) (TY cy) yX9_point cX9_point 3 (some .int) rm_X9_point [.ref (a0 0), .int p1, .int p2] (wMod a0 cy m0) (wMod a0 cy res.2) (some (.int res.1)) := by
  refine CT.mk_i (own := RX9) ⟨by decide, rfl⟩ (Nat.le_of_ble_eq_true rfl) ?_
  intro p e s mm args below meth cd A Q hx hb hml hown htg hN hK hA hP hD hS hE ls hl
  have hl : lv_has ls 3 [(0, .ref (a0 0)), (1, .int p1), (2, .int p2)] := hl
  replace h : _ = some res := h
  unfold G_X9_point at h
  obtain ⟨H, hH⟩ : ∃ H, H = s.heap := ⟨_, rfl⟩
  obtain ⟨locs, hlocs⟩ : ∃ locs : List Loc, locs = [] := ⟨_, rfl⟩
  rw [← hlocs] at hS ⊢
  have hS : va_S A s.heap H locs := by rw [hH]; exact hS
  rw [← hH] at hP ⊢
  refine lv_aload_n hx hb dX9_point_0 rfl (lv_at hl 0 rfl) ?_
  refine lv_iload_n hx hb dX9_point_1 rfl (lv_at hl 1 rfl) ?_
  refine lv_iload_n hx hb dX9_point_2 rfl (lv_at hl 2 rfl) ?_
  obtain ⟨v3, e3, h⟩ := bnd h
  refine cS (av := [.int p1, .int p2]) (rest := [.ref (a0 0)]) (st1 := [.int v3, .ref (a0 0)]) (k1 := 0) (k2 := 0) hx hb hml hown htg hN hK (c_X9_isPoint l dC dI cy   p1 p2 v3 e3) (g_S gw1110 gw1111 gw63 gw1112) hdS_X9_isPoint rfl ⟨⟨Nat.le_of_ble_eq_true rfl, Nat.le_of_ble_eq_true rfl⟩, Nat.le_of_ble_eq_true rfl, Nat.le_of_ble_eq_true rfl⟩ hP hD hS hA [] [0, 1, 2, 3, 4, 5, 6, 7, 8, 9, 10, 11, 12, 13, 14] rfl rfl rfl (by decide) (by decide) hl.1 rfl (Nat.le_of_ble_eq_true rfl) rfl rfl rfl dX9_point_3 (fun H locs hP hD hS => ?_)
  obtain ⟨hP, hD⟩ := x_perm (ws' := wMod a0 cy m0) hP hD [0, 1, 2, 3, 4, 5, 6, 7, 8, 9, 10, 11, 12, 13, 14] (by decide) rfl rfl
  obtain ⟨b6, e6, h⟩ := bnd h
  have hr14 : ∀ (H : Heap) (locs : List Loc) (ls : Array Slot), va_P (dC, dI) vwCl (wMod a0 cy m0) H → va_D A (wMod a0 cy m0) → va_S A s.heap H locs → lv_has ls 3 [(0, .ref (a0 0)), (1, .int p1), (2, .int p2)] → W p l e rm_X9_point s mm args below meth cd H locs 0 0 Q (F0 mm 14 ls [.int b6, .ref (a0 0)]) := by
    intro H locs ls hP hD hS hl
    refine va_put (D := (dC, dI)) (ci := 4) (v := .int b6) (ty := .int) (C := RX9) (T := TX9) (N := 18) hx hb htg inX9 tyX9 tyX9_ok nmX9 hown hK hP hD hS 0 rfl rfl 0 (by decide) (htg _ gw850) (fun _ h9 => h9) rfl (by decide +kernel) rfl rfl (Nat.le_of_ble_eq_true rfl) dX9_point_14 (fun H locs hP hD hS => ?_)
    have hP : va_P (dC, dI) vwCl (wMod a0 cy (ms_thrown m0 b6)) H := hP
    have hD : va_D A (wMod a0 cy (ms_thrown m0 b6)) := hD
    refine lv_aload_n hx hb dX9_point_17 rfl (lv_at hl 0 rfl) ?_
    refine va_get (D := (dC, dI)) (ci := 4) (v := .int (m_thrown (ms_thrown m0 b6))) (C := RX9) (T := TX9) (N := 18) hx hb htg inX9 hown hK hP 0 rfl rfl 0 (by decide) (htg _ gw850) (fun _ h9 => h9) rfl dX9_point_18 ?_
    refine lv_if_le (tgt := 28) hx hb dX9_point_21 (by decide) (fun c21 => ?_) (fun c21 => ?_)
    · replace h := if_t h c21
      refine lv_aload_n hx hb dX9_point_28 rfl (lv_at hl 0 rfl) ?_
      refine lv_iload_n hx hb dX9_point_29 rfl (lv_at hl 1 rfl) ?_
      refine lv_iload_n hx hb dX9_point_30 rfl (lv_at hl 2 rfl) ?_
      obtain ⟨v31, e31, h⟩ := bnd h
      refine cV (av := [.int p1, .int p2]) (rest := []) (st1 := [.int v31]) (k1 := 0) (k2 := 0) (ci := 4) (q0 := 0) hx hb hml hown htg hN hK (c_X9_where l dC dI cy a0 (ms_thrown m0 b6) p1 p2 v31 e31) (g_V gw1034 gw1036 gw29 gw63 gw1037) hdV_X9_where rfl ⟨⟨Nat.le_of_ble_eq_true rfl, Nat.le_of_ble_eq_true rfl⟩, Nat.le_of_ble_eq_true rfl, Nat.le_of_ble_eq_true rfl⟩ hP hD hS hA ⟨rfl, rfl⟩ rfl [0, 1, 2, 3, 4, 5, 6, 7, 8, 9, 10, 11, 12, 13, 14] [] rfl rfl rfl (by decide) (by decide) hl.1 rfl (Nat.le_of_ble_eq_true rfl) rfl rfl rfl dX9_point_31 (fun H locs hP hD hS => ?_)
      have hP : va_P (dC, dI) vwCl (wMod a0 cy (ms_thrown m0 b6)) H := hP
      have hD : va_D A (wMod a0 cy (ms_thrown m0 b6)) := hD
      obtain rfl := Option.some.inj h
      exact hE H locs 34 ls _ hP hD hS rfl dX9_point_34
    replace h := if_f h c21
    refine lv_iconst (v := 0) hx hb dX9_point_24 (by decide) ?_
    refine lv_goto (tgt := 34) hx hb dX9_point_25 (by decide) ?_
    obtain rfl := Option.some.inj h
    exact hE H locs 34 ls _ hP hD hS rfl dX9_point_34
  have h := e6
  clear e6
  refine lv_if_eq (tgt := 13) hx hb dX9_point_6 (by decide) (fun c6 => ?_) (fun c6 => ?_)
  · replace h := if_t h c6
    refine lv_iconst (v := 1) hx hb dX9_point_13 (by decide) ?_
    obtain rfl := Option.some.inj h
    exact hr14 H locs ls hP hD hS hl
  replace h := if_f h c6
  refine lv_iconst (v := 0) hx hb dX9_point_9 (by decide) ?_
  refine lv_goto (tgt := 14) hx hb dX9_point_10 (by decide) ?_
  obtain rfl := Option.some.inj h
  exact hr14 H locs ls hP hD hS hl
def G_X9_remove (m0 : Mod) (p1 : Int32) (p2 : Int32) : Option (Int32 × Mod) :=
  (G_X9_tryRemove m0 p1 p2).bind fun v4 =>
  if m_thrown (ms_thrown v4.2 v4.1) ≤ 0 then
    (G_X9_remember (ms_thrown v4.2 v4.1)).bind fun v20 =>
    (G_X9_area v20).bind fun v24 =>
    some (v24, v20)
  else
    some (0, ms_thrown v4.2 v4.1)
abbrev rm_X9_remove : Room := { frames := 7, cells := 0, slots := 0, locals := 169 }
theorem hdS_X9_remove : yX9_remove.cls ≠ "java/lang/invoke/MethodHandle" ∧ yX9_remove.cls ≠ "java/lang/invoke/VarHandle" ∧ (parseMethodDescriptor yX9_remove.desc).map (fun d => d.parameters.length) = some 2 := by decide +kernel
theorem hdV_X9_remove : yX9_remove.cls = RX9 ∧ yX9_remove.cls ≠ "java/lang/invoke/MethodHandle" ∧ yX9_remove.cls ≠ "java/lang/invoke/VarHandle" ∧ (parseMethodDescriptor yX9_remove.desc).map (fun d => d.parameters.length) = some 2 := ⟨rfl, hdS_X9_remove⟩
set_option maxHeartbeats 4000000 in
set_option maxRecDepth 100000 in
theorem c_X9_remove (l : Launch) (dC : Nat → ClassId) (dI : Nat → Nat → Nat) (cy : Nat → ClassId) (a0 : Nat → Nat) (m0 : Mod) (p1 : Int32) (p2 : Int32) (res : Int32 × Mod) (h : G_X9_remove m0 p1 p2 = some res) : CT l (dC, dI) (TY cy) yX9_remove cX9_remove 3 (some .int) rm_X9_remove [.ref (a0 0), .int p1, .int p2] (wMod a0 cy m0) (wMod a0 cy res.2) (some (.int res.1)) := by
  refine CT.mk_i (own := RX9) ⟨by decide, rfl⟩ (Nat.le_of_ble_eq_true rfl) ?_
  intro p e s mm args below meth cd A Q hx hb hml hown htg hN hK hA hP hD hS hE ls hl
  have hl : lv_has ls 3 [(0, .ref (a0 0)), (1, .int p1), (2, .int p2)] := hl
  replace h : _ = some res := h
  unfold G_X9_remove at h
  obtain ⟨H, hH⟩ : ∃ H, H = s.heap := ⟨_, rfl⟩
  obtain ⟨locs, hlocs⟩ : ∃ locs : List Loc, locs = [] := ⟨_, rfl⟩
  rw [← hlocs] at hS ⊢
  have hS : va_S A s.heap H locs := by rw [hH]; exact hS
  rw [← hH] at hP ⊢
  refine lv_aload_n hx hb dX9_remove_0 rfl (lv_at hl 0 rfl) ?_
  refine lv_aload_n hx hb dX9_remove_1 rfl (lv_at hl 0 rfl) ?_
  refine lv_iload_n hx hb dX9_remove_2 rfl (lv_at hl 1 rfl) ?_
  refine lv_iload_n hx hb dX9_remove_3 rfl (lv_at hl 2 rfl) ?_
  obtain ⟨v4, e4, h⟩ := bnd h
  refine cV (av := [.int p1, .int p2]) (rest := [.ref (a0 0)]) (st1 := [.int v4.1, .ref (a0 0)]) (k1 := 0) (k2 := 0) (ci := 4) (q0 := 0) hx hb hml hown htg hN hK (c_X9_tryRemove l dC dI cy a0 m0 p1 p2 v4 e4) (g_V gw1149 gw1151 gw50 gw63 gw1152) hdV_X9_tryRemove rfl ⟨⟨Nat.le_of_ble_eq_true rfl, Nat.le_of_ble_eq_true rfl⟩, Nat.le_of_ble_eq_true rfl, Nat.le_of_ble_eq_true rfl⟩ hP hD hS hA ⟨rfl, rfl⟩ rfl [0, 1, 2, 3, 4, 5, 6, 7, 8, 9, 10, 11, 12, 13, 14] [] rfl rfl rfl (by decide) (by decide) hl.1 rfl (Nat.le_of_ble_eq_true rfl) rfl rfl rfl dX9_remove_4 (fun H locs hP hD hS => ?_)
  have hP : va_P (dC, dI) vwCl (wMod a0 cy v4.2) H := hP
  have hD : va_D A (wMod a0 cy v4.2) := hD
  refine va_put (D := (dC, dI)) (ci := 4) (v := .int v4.1) (ty := .int) (C := RX9) (T := TX9) (N := 18) hx hb htg inX9 tyX9 tyX9_ok nmX9 hown hK hP hD hS 0 rfl rfl 0 (by decide) (htg _ gw850) (fun _ h9 => h9) rfl (by decide +kernel) rfl rfl (Nat.le_of_ble_eq_true rfl) dX9_remove_7 (fun H locs hP hD hS => ?_)
  have hP : va_P (dC, dI) vwCl (wMod a0 cy (ms_thrown v4.2 v4.1)) H := hP
  have hD : va_D A (wMod a0 cy (ms_thrown v4.2 v4.1)) := hD
  refine lv_aload_n hx hb dX9_remove_10 rfl (lv_at hl 0 rfl) ?_
  refine va_get (D := (dC, dI)) (ci := 4) (v := .int (m_thrown (ms_thrown v4.2 v4.1))) (C := RX9) (T := TX9) (N := 18) hx hb htg inX9 hown hK hP 0 rfl rfl 0 (by decide) (htg _ gw850) (fun _ h9 => h9) rfl dX9_remove_11 ?_
  refine lv_if_le (tgt := 19) hx hb dX9_remove_14 (by decide) (fun c14 => ?_) (fun c14 => ?_)
  · replace h := if_t h c14
    refine lv_aload_n hx hb dX9_remove_19 rfl (lv_at hl 0 rfl) ?_
    obtain ⟨v20, e20, h⟩ := bnd h
    refine cV (av := []) (rest := []) (st1 := []) (k1 := 0) (k2 := 0) (ci := 4) (q0 := 0) hx hb hml hown htg hN hK (c_X9_remember l dC dI cy a0 (ms_thrown v4.2 v4.1)  v20 e20) (g_V gw1133 gw1135 gw48 gw63 gw1136) hdV_X9_remember rfl ⟨⟨Nat.le_of_ble_eq_true rfl, Nat.le_of_ble_eq_true rfl⟩, Nat.le_of_ble_eq_true rfl, Nat.le_of_ble_eq_true rfl⟩ hP hD hS hA ⟨rfl, rfl⟩ rfl [0, 1, 2, 3, 4, 5, 6, 7, 8, 9, 10, 11, 12, 13, 14] [] rfl rfl rfl (by decide) (by decide) hl.1 rfl (Nat.le_of_ble_eq_true rfl) rfl rfl rfl dX9_remove_20 (fun H locs hP hD hS => ?_)
    have hP : va_P (dC, dI) vwCl (wMod a0 cy v20) H := hP
    have hD : va_D A (wMod a0 cy v20) := hD
    refine lv_aload_n hx hb dX9_remove_23 rfl (lv_at hl 0 rfl) ?_
    obtain ⟨v24, e24, h⟩ := bnd h
    refine cV (av := []) (rest := []) (st1 := [.int v24]) (k1 := 0) (k2 := 0) (ci := 4) (q0 := 0) hx hb hml hown htg hN hK (c_X9_area l dC dI cy a0 v20  v24 e24) (g_V gw1004 gw1006 gw23 gw63 gw1007) hdV_X9_area rfl ⟨⟨Nat.le_of_ble_eq_true rfl, Nat.le_of_ble_eq_true rfl⟩, Nat.le_of_ble_eq_true rfl, Nat.le_of_ble_eq_true rfl⟩ hP hD hS hA ⟨rfl, rfl⟩ rfl [0, 1, 2, 3, 4, 5, 6, 7, 8, 9, 10, 11, 12, 13, 14] [] rfl rfl rfl (by decide) (by decide) hl.1 rfl (Nat.le_of_ble_eq_true rfl) rfl rfl rfl dX9_remove_24 (fun H locs hP hD hS => ?_)
    have hP : va_P (dC, dI) vwCl (wMod a0 cy v20) H := hP
    have hD : va_D A (wMod a0 cy v20) := hD
    obtain rfl := Option.some.inj h
    exact hE H locs 27 ls _ hP hD hS rfl dX9_remove_27
  replace h := if_f h c14
  refine lv_iconst (v := 0) hx hb dX9_remove_17 (by decide) ?_
  obtain rfl := Option.some.inj h
  exact hE H locs 18 ls _ hP hD hS rfl dX9_remove_18
def G_X9_restore (m0 : Mod) (p1 : Int32) : Option (Int32 × Mod) :=
  (G_X9_isSlot p1).bind fun v2 =>
  ((if v2 = 0 then
      some 1
    else
      (rd 2 (m_isSaved m0) p1).bind fun v17 =>
      if v17 = 1 then
        some 0
      else
        some 2) : Option (Int32)).bind fun b5 =>
  if m_thrown (ms_thrown m0 b5) ≤ 0 then
    (some (ms_thrown m0 b5)).bind fun z0_52 =>
    (G_X9_copy 170 85 (m_slots (z0_52)) (m_state (z0_52)) (85 * p1) 0).bind fun v52 =>
    (some (ms_state z0_52 v52)).bind fun z0_57 =>
    (G_X9_cornerMany (ms_remembered z0_57 0)).bind fun v61 =>
    some (v61, ms_remembered z0_57 0)
  else
    some (0, ms_thrown m0 b5)
abbrev rm_X9_restore : Room := { frames := 2, cells := 0, slots := 0, locals := 43 }
theorem hdS_X9_restore : yX9_restore.cls ≠ "java/lang/invoke/MethodHandle" ∧ yX9_restore.cls ≠ "java/lang/invoke/VarHandle" ∧ (parseMethodDescriptor yX9_restore.desc).map (fun d => d.parameters.length) = some 1 := by decide +kernel
theorem hdV_X9_restore : yX9_restore.cls = RX9 ∧ yX9_restore.cls ≠ "java/lang/invoke/MethodHandle" ∧ yX9_restore.cls ≠ "java/lang/invoke/VarHandle" ∧ (parseMethodDescriptor yX9_restore.desc).map (fun d => d.parameters.length) = some 1 := ⟨rfl, hdS_X9_restore⟩
set_option maxHeartbeats 4000000 in
set_option maxRecDepth 100000 in
theorem c_X9_restore (l : Launch) (dC : Nat → ClassId) (dI : Nat → Nat → Nat) (cy : Nat → ClassId) (a0 : Nat → Nat) (m0 : Mod) (p1 : Int32) (res : Int32 × Mod) (h : G_X9_restore m0 p1 = some res) : CT l (dC, dI) (TY cy) yX9_restore cX9_restore 2 (some .int) rm_X9_restore [.ref (a0 0), .int p1] (wMod a0 cy m0) (wMod a0 cy res.2) (some (.int res.1)) := by
  refine CT.mk_i (own := RX9) ⟨by decide, rfl⟩ (Nat.le_of_ble_eq_true rfl) ?_
  intro p e s mm args below meth cd A Q hx hb hml hown htg hN hK hA hP hD hS hE ls hl
  have hl : lv_has ls 2 [(0, .ref (a0 0)), (1, .int p1)] := hl
  replace h : _ = some res := h
  unfold G_X9_restore at h
  obtain ⟨H, hH⟩ : ∃ H, H = s.heap := ⟨_, rfl⟩
  obtain ⟨locs, hlocs⟩ : ∃ locs : List Loc, locs = [] := ⟨_, rfl⟩
  rw [← hlocs] at hS ⊢
  have hS : va_S A s.heap H locs := by rw [hH]; exact hS
  rw [← hH] at hP ⊢
  refine lv_aload_n hx hb dX9_restore_0 rfl (lv_at hl 0 rfl) ?_
  refine lv_iload_n hx hb dX9_restore_1 rfl (lv_at hl 1 rfl) ?_
  obtain ⟨v2, e2, h⟩ := bnd h
  refine cS (av := [.int p1]) (rest := [.ref (a0 0)]) (st1 := [.int v2, .ref (a0 0)]) (k1 := 0) (k2 := 0) hx hb hml hown htg hN hK (c_X9_isSlot l dC dI cy   p1 v2 e2) (g_S gw1249 gw1250 gw63 gw1251) hdS_X9_isSlot rfl ⟨⟨Nat.le_of_ble_eq_true rfl, Nat.le_of_ble_eq_true rfl⟩, Nat.le_of_ble_eq_true rfl, Nat.le_of_ble_eq_true rfl⟩ hP hD hS hA [] [0, 1, 2, 3, 4, 5, 6, 7, 8, 9, 10, 11, 12, 13, 14] rfl rfl rfl (by decide) (by decide) hl.1 rfl (Nat.le_of_ble_eq_true rfl) rfl rfl rfl dX9_restore_2 (fun H locs hP hD hS => ?_)
  obtain ⟨hP, hD⟩ := x_perm (ws' := wMod a0 cy m0) hP hD [0, 1, 2, 3, 4, 5, 6, 7, 8, 9, 10, 11, 12, 13, 14] (by decide) rfl rfl
  obtain ⟨b5, e5, h⟩ := bnd h
  have hr27 : ∀ (H : Heap) (locs : List Loc) (ls : Array Slot), va_P (dC, dI) vwCl (wMod a0 cy m0) H → va_D A (wMod a0 cy m0) → va_S A s.heap H locs → lv_has ls 2 [(0, .ref (a0 0)), (1, .int p1)] → W p l e rm_X9_restore s mm args below meth cd H locs 0 0 Q (F0 mm 27 ls [.int b5, .ref (a0 0)]) := by
    intro H locs ls hP hD hS hl
    refine va_put (D := (dC, dI)) (ci := 4) (v := .int b5) (ty := .int) (C := RX9) (T := TX9) (N := 18) hx hb htg inX9 tyX9 tyX9_ok nmX9 hown hK hP hD hS 0 rfl rfl 0 (by decide) (htg _ gw850) (fun _ h9 => h9) rfl (by decide +kernel) rfl rfl (Nat.le_of_ble_eq_true rfl) dX9_restore_27 (fun H locs hP hD hS => ?_)
    have hP : va_P (dC, dI) vwCl (wMod a0 cy (ms_thrown m0 b5)) H := hP
    have hD : va_D A (wMod a0 cy (ms_thrown m0 b5)) := hD
    refine lv_aload_n hx hb dX9_restore_30 rfl (lv_at hl 0 rfl) ?_
    refine va_get (D := (dC, dI)) (ci := 4) (v := .int (m_thrown (ms_thrown m0 b5))) (C := RX9) (T := TX9) (N := 18) hx hb htg inX9 hown hK hP 0 rfl rfl 0 (by decide) (htg _ gw850) (fun _ h9 => h9) rfl dX9_restore_31 ?_
    refine lv_if_le (tgt := 39) hx hb dX9_restore_34 (by decide) (fun c34 => ?_) (fun c34 => ?_)
    · replace h := if_t h c34
      refine lv_aload_n hx hb dX9_restore_39 rfl (lv_at hl 0 rfl) ?_
      refine va_get (D := (dC, dI)) (ci := 4) (v := .ref (a0 5)) (C := RX9) (T := TX9) (N := 18) hx hb htg inX9 hown hK hP 0 rfl rfl 6 (by decide) (htg _ gw856) (fun _ h9 => h9) rfl dX9_restore_40 ?_
      refine lv_bipush (v := 85) hx hb dX9_restore_43 (by decide) ?_
      refine lv_iload_n hx hb dX9_restore_45 rfl (lv_at hl 1 rfl) ?_
      refine lv_imul hx hb dX9_restore_46 ?_
      refine lv_aload_n hx hb dX9_restore_47 rfl (lv_at hl 0 rfl) ?_
      refine va_get (D := (dC, dI)) (ci := 4) (v := .ref (a0 1)) (C := RX9) (T := TX9) (N := 18) hx hb htg inX9 hown hK hP 0 rfl rfl 1 (by decide) (htg _ gw851) (fun _ h9 => h9) rfl dX9_restore_48 ?_
      refine lv_iconst (v := 0) hx hb dX9_restore_51 (by decide) ?_
      obtain ⟨z0_52, ez0_52, h⟩ := bnd h
      replace ez0_52 := Option.some.inj ez0_52
      rw [ez0_52] at hP hD
      obtain ⟨v52, e52, h⟩ := bnd h
      refine cS (av := [.ref (a0 5), .int (85 * p1), .ref (a0 1), .int 0]) (rest := []) (st1 := []) (k1 := 0) (k2 := 0) hx hb hml hown htg hN hK (c_X9_copy l dC dI cy (a0 5) (a0 1) 170 85 (m_slots (z0_52)) (m_state (z0_52)) (85 * p1) 0 v52 e52) (g_S gw924 gw925 gw63 gw926) hdS_X9_copy rfl ⟨⟨Nat.le_of_ble_eq_true rfl, Nat.le_of_ble_eq_true rfl⟩, Nat.le_of_ble_eq_true rfl, Nat.le_of_ble_eq_true rfl⟩ hP hD hS hA [5, 1] [0, 2, 3, 4, 6, 7, 8, 9, 10, 11, 12, 13, 14] rfl rfl rfl (by decide) (by decide) hl.1 rfl (Nat.le_of_ble_eq_true rfl) rfl rfl rfl dX9_restore_52 (fun H locs hP hD hS => ?_)
      obtain ⟨hP, hD⟩ := x_perm (ws' := wMod a0 cy (ms_state z0_52 v52)) hP hD [0, 14, 1, 2, 3, 13, 4, 5, 6, 7, 8, 9, 10, 11, 12] (by decide) rfl rfl
      refine lv_aload_n hx hb dX9_restore_55 rfl (lv_at hl 0 rfl) ?_
      refine lv_iconst (v := 0) hx hb dX9_restore_56 (by decide) ?_
      obtain ⟨z0_57, ez0_57, h⟩ := bnd h
      replace ez0_57 := Option.some.inj ez0_57
      rw [ez0_57] at hP hD
      refine va_put (D := (dC, dI)) (ci := 4) (v := .int 0) (ty := .int) (C := RX9) (T := TX9) (N := 18) hx hb htg inX9 tyX9 tyX9_ok nmX9 hown hK hP hD hS 0 rfl rfl 5 (by decide) (htg _ gw855) (fun _ h9 => h9) rfl (by decide +kernel) rfl rfl (Nat.le_of_ble_eq_true rfl) dX9_restore_57 (fun H locs hP hD hS => ?_)
      have hP : va_P (dC, dI) vwCl (wMod a0 cy (ms_remembered z0_57 0)) H := hP
      have hD : va_D A (wMod a0 cy (ms_remembered z0_57 0)) := hD
      refine lv_aload_n hx hb dX9_restore_60 rfl (lv_at hl 0 rfl) ?_
      obtain ⟨v61, e61, h⟩ := bnd h
      refine cV (av := []) (rest := []) (st1 := [.int v61]) (k1 := 0) (k2 := 0) (ci := 4) (q0 := 0) hx hb hml hown htg hN hK (c_X9_cornerMany l dC dI cy a0 (ms_remembered z0_57 0)  v61 e61) (g_V gw1000 gw1002 gw22 gw63 gw1003) hdV_X9_cornerMany rfl ⟨⟨Nat.le_of_ble_eq_true rfl, Nat.le_of_ble_eq_true rfl⟩, Nat.le_of_ble_eq_true rfl, Nat.le_of_ble_eq_true rfl⟩ hP hD hS hA ⟨rfl, rfl⟩ rfl [0, 1, 2, 3, 4, 5, 6, 7, 8, 9, 10, 11, 12, 13, 14] [] rfl rfl rfl (by decide) (by decide) hl.1 rfl (Nat.le_of_ble_eq_true rfl) rfl rfl rfl dX9_restore_61 (fun H locs hP hD hS => ?_)
      have hP : va_P (dC, dI) vwCl (wMod a0 cy (ms_remembered z0_57 0)) H := hP
      have hD : va_D A (wMod a0 cy (ms_remembered z0_57 0)) := hD
      obtain rfl := Option.some.inj h
      exact hE H locs 64 ls _ hP hD hS rfl dX9_restore_64
    replace h := if_f h c34
    refine lv_iconst (v := 0) hx hb dX9_restore_37 (by decide) ?_
    obtain rfl := Option.some.inj h
    exact hE H locs 38 ls _ hP hD hS rfl dX9_restore_38
  have h := e5
  clear e5
  refine lv_if_ne (tgt := 12) hx hb dX9_restore_5 (by decide) (fun c5 => ?_) (fun c5 => ?_)
  · replace h := if_f h c5
    refine lv_aload_n hx hb dX9_restore_12 rfl (lv_at hl 0 rfl) ?_
    refine va_get (D := (dC, dI)) (ci := 4) (v := .ref (a0 6)) (C := RX9) (T := TX9) (N := 18) hx hb htg inX9 hown hK hP 0 rfl rfl 7 (by decide) (htg _ gw857) (fun _ h9 => h9) rfl dX9_restore_13 ?_
    refine lv_iload_n hx hb dX9_restore_16 rfl (lv_at hl 1 rfl) ?_
    obtain ⟨v17, e17, h⟩ := bnd h
    refine x_iald (v := v17) hx hb hK hP 6 0 rfl rfl e17 dX9_restore_17 ?_
    refine lv_iconst (v := 1) hx hb dX9_restore_18 (by decide) ?_
    refine lv_icmp_ne (tgt := 26) hx hb dX9_restore_19 (by decide) (fun c19 => ?_) (fun c19 => ?_)
    · replace h := if_f h c19
      refine lv_iconst (v := 2) hx hb dX9_restore_26 (by decide) ?_
      obtain rfl := Option.some.inj h
      exact hr27 H locs ls hP hD hS hl
    replace h := if_t h c19
    refine lv_iconst (v := 0) hx hb dX9_restore_22 (by decide) ?_
    refine lv_goto (tgt := 27) hx hb dX9_restore_23 (by decide) ?_
    obtain rfl := Option.some.inj h
    exact hr27 H locs ls hP hD hS hl
  replace h := if_t h c5
  refine lv_iconst (v := 1) hx hb dX9_restore_8 (by decide) ?_
  refine lv_goto (tgt := 27) hx hb dX9_restore_9 (by decide) ?_
  obtain rfl := Option.some.inj h
  exact hr27 H locs ls hP hD hS hl
def G_X9_ring (m0 : Mod) (p1 : Int32) (p2 : Int32) : Option (Int32 × Mod) :=
  (G_X9_isRing m0 p1).bind fun v3 =>
  ((if v3 = 0 then
      some 1
    else
      (G_X9_within p2 0 5).bind fun v16 =>
      if v16 = 0 then
        some 2
      else
        some 0) : Option (Int32)).bind fun b6 =>
  if m_thrown (ms_thrown m0 b6) ≤ 0 then
    if p2 = 0 then
      (G_X9_many (ms_thrown m0 b6) p1).bind fun v78 =>
      some (v78, ms_thrown m0 b6)
    else
    if p2 = 1 then
      (G_X9_sumOf (ms_thrown m0 b6) p1).bind fun v84 =>
      (G_X9_size v84).bind fun v87 =>
      some (v87, ms_thrown m0 b6)
    else
    if p2 = 2 then
      (G_X9_sumOf (ms_thrown m0 b6) p1).bind fun v93 =>
      if v93 ≤ 0 then
        some (0, ms_thrown m0 b6)
      else
        some (1, ms_thrown m0 b6)
    else
    if p2 = 3 then
      (G_X9_ringPoints (ms_thrown m0 b6) p1).bind fun v107 =>
      some (v107, ms_thrown m0 b6)
    else
    if p2 = 4 then
      (G_X9_longest (ms_thrown m0 b6) p1).bind fun v113 =>
      some (v113, ms_thrown m0 b6)
    else
    (G_X9_longest (ms_thrown m0 b6) p1).bind fun v121 =>
    (G_X9_lengthOf (ms_thrown m0 b6) p1 v121).bind fun v124 =>
    some (v124, ms_thrown m0 b6)
  else
    some (0, ms_thrown m0 b6)
abbrev rm_X9_ring : Room := { frames := 4, cells := 0, slots := 0, locals := 91 }
theorem hdS_X9_ring : yX9_ring.cls ≠ "java/lang/invoke/MethodHandle" ∧ yX9_ring.cls ≠ "java/lang/invoke/VarHandle" ∧ (parseMethodDescriptor yX9_ring.desc).map (fun d => d.parameters.length) = some 2 := by decide +kernel
theorem hdV_X9_ring : yX9_ring.cls = RX9 ∧ yX9_ring.cls ≠ "java/lang/invoke/MethodHandle" ∧ yX9_ring.cls ≠ "java/lang/invoke/VarHandle" ∧ (parseMethodDescriptor yX9_ring.desc).map (fun d => d.parameters.length) = some 2 := ⟨rfl, hdS_X9_ring⟩
set_option maxHeartbeats 4000000 in
set_option maxRecDepth 100000 in
theorem c_X9_ring (l : Launch) (dC : Nat → ClassId) (dI : Nat → Nat → Nat) (cy : Nat → ClassId) (a0 : Nat → Nat) (m0 : Mod) (p1 : Int32) (p2 : Int32) (res : Int32 × Mod) (h : G_X9_ring m0 p1 p2 = some res) : CT l (dC, dI) (TY cy) yX9_ring cX9_ring 3 (some .int) rm_X9_ring [.ref (a0 0), .int p1, .int p2] (wMod a0 cy m0) (wMod a0 cy res.2) (some (.int res.1)) := by
  refine CT.mk_i (own := RX9) ⟨by decide, rfl⟩ (Nat.le_of_ble_eq_true rfl) ?_
  intro p e s mm args below meth cd A Q hx hb hml hown htg hN hK hA hP hD hS hE ls hl
  have hl : lv_has ls 3 [(0, .ref (a0 0)), (1, .int p1), (2, .int p2)] := hl
  replace h : _ = some res := h
  unfold G_X9_ring at h
  obtain ⟨H, hH⟩ : ∃ H, H = s.heap := ⟨_, rfl⟩
  obtain ⟨locs, hlocs⟩ : ∃ locs : List Loc, locs = [] := ⟨_, rfl⟩
  rw [← hlocs] at hS ⊢
  have hS : va_S A s.heap H locs := by rw [hH]; exact hS
  rw [← hH] at hP ⊢
  refine lv_aload_n hx hb dX9_ring_0 rfl (lv_at hl 0 rfl) ?_
  refine lv_aload_n hx hb dX9_ring_1 rfl (lv_at hl 0 rfl) ?_
  refine lv_iload_n hx hb dX9_ring_2 rfl (lv_at hl 1 rfl) ?_
  obtain ⟨v3, e3, h⟩ := bnd h
  refine cV (av := [.int p1]) (rest := [.ref (a0 0)]) (st1 := [.int v3, .ref (a0 0)]) (k1 := 0) (k2 := 0) (ci := 4) (q0 := 0) hx hb hml hown htg hN hK (c_X9_isRing l dC dI cy a0 m0 p1 v3 e3) (g_V gw1086 gw1088 gw41 gw63 gw1089) hdV_X9_isRing rfl ⟨⟨Nat.le_of_ble_eq_true rfl, Nat.le_of_ble_eq_true rfl⟩, Nat.le_of_ble_eq_true rfl, Nat.le_of_ble_eq_true rfl⟩ hP hD hS hA ⟨rfl, rfl⟩ rfl [0, 1, 2, 3, 4, 5, 6, 7, 8, 9, 10, 11, 12, 13, 14] [] rfl rfl rfl (by decide) (by decide) hl.1 rfl (Nat.le_of_ble_eq_true rfl) rfl rfl rfl dX9_ring_3 (fun H locs hP hD hS => ?_)
  have hP : va_P (dC, dI) vwCl (wMod a0 cy m0) H := hP
  have hD : va_D A (wMod a0 cy m0) := hD
  obtain ⟨b6, e6, h⟩ := bnd h
  have hr27 : ∀ (H : Heap) (locs : List Loc) (ls : Array Slot), va_P (dC, dI) vwCl (wMod a0 cy m0) H → va_D A (wMod a0 cy m0) → va_S A s.heap H locs → lv_has ls 3 [(0, .ref (a0 0)), (1, .int p1), (2, .int p2)] → W p l e rm_X9_ring s mm args below meth cd H locs 0 0 Q (F0 mm 27 ls [.int b6, .ref (a0 0)]) := by
    intro H locs ls hP hD hS hl
    refine va_put (D := (dC, dI)) (ci := 4) (v := .int b6) (ty := .int) (C := RX9) (T := TX9) (N := 18) hx hb htg inX9 tyX9 tyX9_ok nmX9 hown hK hP hD hS 0 rfl rfl 0 (by decide) (htg _ gw850) (fun _ h9 => h9) rfl (by decide +kernel) rfl rfl (Nat.le_of_ble_eq_true rfl) dX9_ring_27 (fun H locs hP hD hS => ?_)
    have hP : va_P (dC, dI) vwCl (wMod a0 cy (ms_thrown m0 b6)) H := hP
    have hD : va_D A (wMod a0 cy (ms_thrown m0 b6)) := hD
    refine lv_aload_n hx hb dX9_ring_30 rfl (lv_at hl 0 rfl) ?_
    refine va_get (D := (dC, dI)) (ci := 4) (v := .int (m_thrown (ms_thrown m0 b6))) (C := RX9) (T := TX9) (N := 18) hx hb htg inX9 hown hK hP 0 rfl rfl 0 (by decide) (htg _ gw850) (fun _ h9 => h9) rfl dX9_ring_31 ?_
    refine lv_if_le (tgt := 39) hx hb dX9_ring_34 (by decide) (fun c34 => ?_) (fun c34 => ?_)
    · replace h := if_t h c34
      refine lv_iload_n hx hb dX9_ring_39 rfl (lv_at hl 2 rfl) ?_
      by_cases c40_0 : p2 = 0
      · replace h := if_t h c40_0
        refine lv_tableIn (tgt := 76) (off := 36) hx hb dX9_ring_40 (by rw [c40_0]; decide) (by rw [c40_0]; decide) (by rw [c40_0]; rfl) (by decide) ?_
        refine lv_aload_n hx hb dX9_ring_76 rfl (lv_at hl 0 rfl) ?_
        refine lv_iload_n hx hb dX9_ring_77 rfl (lv_at hl 1 rfl) ?_
        obtain ⟨v78, e78, h⟩ := bnd h
        refine cV (av := [.int p1]) (rest := []) (st1 := [.int v78]) (k1 := 0) (k2 := 0) (ci := 4) (q0 := 0) hx hb hml hown htg hN hK (c_X9_many l dC dI cy a0 (ms_thrown m0 b6) p1 v78 e78) (g_V gw935 gw937 gw10 gw63 gw938) hdV_X9_many rfl ⟨⟨Nat.le_of_ble_eq_true rfl, Nat.le_of_ble_eq_true rfl⟩, Nat.le_of_ble_eq_true rfl, Nat.le_of_ble_eq_true rfl⟩ hP hD hS hA ⟨rfl, rfl⟩ rfl [0, 1, 2, 3, 4, 5, 6, 7, 8, 9, 10, 11, 12, 13, 14] [] rfl rfl rfl (by decide) (by decide) hl.1 rfl (Nat.le_of_ble_eq_true rfl) rfl rfl rfl dX9_ring_78 (fun H locs hP hD hS => ?_)
        have hP : va_P (dC, dI) vwCl (wMod a0 cy (ms_thrown m0 b6)) H := hP
        have hD : va_D A (wMod a0 cy (ms_thrown m0 b6)) := hD
        obtain rfl := Option.some.inj h
        exact hE H locs 81 ls _ hP hD hS rfl dX9_ring_81
      replace h := if_f h c40_0
      by_cases c40_1 : p2 = 1
      · replace h := if_t h c40_1
        refine lv_tableIn (tgt := 82) (off := 42) hx hb dX9_ring_40 (by rw [c40_1]; decide) (by rw [c40_1]; decide) (by rw [c40_1]; rfl) (by decide) ?_
        refine lv_aload_n hx hb dX9_ring_82 rfl (lv_at hl 0 rfl) ?_
        refine lv_iload_n hx hb dX9_ring_83 rfl (lv_at hl 1 rfl) ?_
        obtain ⟨v84, e84, h⟩ := bnd h
        refine cV (av := [.int p1]) (rest := []) (st1 := [.int v84]) (k1 := 0) (k2 := 0) (ci := 4) (q0 := 0) hx hb hml hown htg hN hK (c_X9_sumOf l dC dI cy a0 (ms_thrown m0 b6) p1 v84 e84) (g_V gw1008 gw1010 gw24 gw63 gw1011) hdV_X9_sumOf rfl ⟨⟨Nat.le_of_ble_eq_true rfl, Nat.le_of_ble_eq_true rfl⟩, Nat.le_of_ble_eq_true rfl, Nat.le_of_ble_eq_true rfl⟩ hP hD hS hA ⟨rfl, rfl⟩ rfl [0, 1, 2, 3, 4, 5, 6, 7, 8, 9, 10, 11, 12, 13, 14] [] rfl rfl rfl (by decide) (by decide) hl.1 rfl (Nat.le_of_ble_eq_true rfl) rfl rfl rfl dX9_ring_84 (fun H locs hP hD hS => ?_)
        have hP : va_P (dC, dI) vwCl (wMod a0 cy (ms_thrown m0 b6)) H := hP
        have hD : va_D A (wMod a0 cy (ms_thrown m0 b6)) := hD
        obtain ⟨v87, e87, h⟩ := bnd h
        refine cS (av := [.int v84]) (rest := []) (st1 := [.int v87]) (k1 := 0) (k2 := 0) hx hb hml hown htg hN hK (c_X9_size l dC dI cy   v84 v87 e87) (g_S gw1012 gw1013 gw63 gw1014) hdS_X9_size rfl ⟨⟨Nat.le_of_ble_eq_true rfl, Nat.le_of_ble_eq_true rfl⟩, Nat.le_of_ble_eq_true rfl, Nat.le_of_ble_eq_true rfl⟩ hP hD hS hA [] [0, 1, 2, 3, 4, 5, 6, 7, 8, 9, 10, 11, 12, 13, 14] rfl rfl rfl (by decide) (by decide) hl.1 rfl (Nat.le_of_ble_eq_true rfl) rfl rfl rfl dX9_ring_87 (fun H locs hP hD hS => ?_)
        obtain ⟨hP, hD⟩ := x_perm (ws' := wMod a0 cy (ms_thrown m0 b6)) hP hD [0, 1, 2, 3, 4, 5, 6, 7, 8, 9, 10, 11, 12, 13, 14] (by decide) rfl rfl
        obtain rfl := Option.some.inj h
        exact hE H locs 90 ls _ hP hD hS rfl dX9_ring_90
      replace h := if_f h c40_1
      by_cases c40_2 : p2 = 2
      · replace h := if_t h c40_2
        refine lv_tableIn (tgt := 91) (off := 51) hx hb dX9_ring_40 (by rw [c40_2]; decide) (by rw [c40_2]; decide) (by rw [c40_2]; rfl) (by decide) ?_
        refine lv_aload_n hx hb dX9_ring_91 rfl (lv_at hl 0 rfl) ?_
        refine lv_iload_n hx hb dX9_ring_92 rfl (lv_at hl 1 rfl) ?_
        obtain ⟨v93, e93, h⟩ := bnd h
        refine cV (av := [.int p1]) (rest := []) (st1 := [.int v93]) (k1 := 0) (k2 := 0) (ci := 4) (q0 := 0) hx hb hml hown htg hN hK (c_X9_sumOf l dC dI cy a0 (ms_thrown m0 b6) p1 v93 e93) (g_V gw1008 gw1010 gw24 gw63 gw1011) hdV_X9_sumOf rfl ⟨⟨Nat.le_of_ble_eq_true rfl, Nat.le_of_ble_eq_true rfl⟩, Nat.le_of_ble_eq_true rfl, Nat.le_of_ble_eq_true rfl⟩ hP hD hS hA ⟨rfl, rfl⟩ rfl [0, 1, 2, 3, 4, 5, 6, 7, 8, 9, 10, 11, 12, 13, 14] [] rfl rfl rfl (by decide) (by decide) hl.1 rfl (Nat.le_of_ble_eq_true rfl) rfl rfl rfl dX9_ring_93 (fun H locs hP hD hS => ?_)
        have hP : va_P (dC, dI) vwCl (wMod a0 cy (ms_thrown m0 b6)) H := hP
        have hD : va_D A (wMod a0 cy (ms_thrown m0 b6)) := hD
        refine lv_if_le (tgt := 103) hx hb dX9_ring_96 (by decide) (fun c96 => ?_) (fun c96 => ?_)
        · replace h := if_t h c96
          refine lv_iconst (v := 0) hx hb dX9_ring_103 (by decide) ?_
          obtain rfl := Option.some.inj h
          exact hE H locs 104 ls _ hP hD hS rfl dX9_ring_104
        replace h := if_f h c96
        refine lv_iconst (v := 1) hx hb dX9_ring_99 (by decide) ?_
        refine lv_goto (tgt := 104) hx hb dX9_ring_100 (by decide) ?_
        obtain rfl := Option.some.inj h
        exact hE H locs 104 ls _ hP hD hS rfl dX9_ring_104
      replace h := if_f h c40_2
      by_cases c40_3 : p2 = 3
      · replace h := if_t h c40_3
        refine lv_tableIn (tgt := 105) (off := 65) hx hb dX9_ring_40 (by rw [c40_3]; decide) (by rw [c40_3]; decide) (by rw [c40_3]; rfl) (by decide) ?_
        refine lv_aload_n hx hb dX9_ring_105 rfl (lv_at hl 0 rfl) ?_
        refine lv_iload_n hx hb dX9_ring_106 rfl (lv_at hl 1 rfl) ?_
        obtain ⟨v107, e107, h⟩ := bnd h
        refine cV (av := [.int p1]) (rest := []) (st1 := [.int v107]) (k1 := 0) (k2 := 0) (ci := 4) (q0 := 0) hx hb hml hown htg hN hK (c_X9_ringPoints l dC dI cy a0 (ms_thrown m0 b6) p1 v107 e107) (g_V gw1015 gw1017 gw25 gw63 gw1018) hdV_X9_ringPoints rfl ⟨⟨Nat.le_of_ble_eq_true rfl, Nat.le_of_ble_eq_true rfl⟩, Nat.le_of_ble_eq_true rfl, Nat.le_of_ble_eq_true rfl⟩ hP hD hS hA ⟨rfl, rfl⟩ rfl [0, 1, 2, 3, 4, 5, 6, 7, 8, 9, 10, 11, 12, 13, 14] [] rfl rfl rfl (by decide) (by decide) hl.1 rfl (Nat.le_of_ble_eq_true rfl) rfl rfl rfl dX9_ring_107 (fun H locs hP hD hS => ?_)
        have hP : va_P (dC, dI) vwCl (wMod a0 cy (ms_thrown m0 b6)) H := hP
        have hD : va_D A (wMod a0 cy (ms_thrown m0 b6)) := hD
        obtain rfl := Option.some.inj h
        exact hE H locs 110 ls _ hP hD hS rfl dX9_ring_110
      replace h := if_f h c40_3
      by_cases c40_4 : p2 = 4
      · replace h := if_t h c40_4
        refine lv_tableIn (tgt := 111) (off := 71) hx hb dX9_ring_40 (by rw [c40_4]; decide) (by rw [c40_4]; decide) (by rw [c40_4]; rfl) (by decide) ?_
        refine lv_aload_n hx hb dX9_ring_111 rfl (lv_at hl 0 rfl) ?_
        refine lv_iload_n hx hb dX9_ring_112 rfl (lv_at hl 1 rfl) ?_
        obtain ⟨v113, e113, h⟩ := bnd h
        refine cV (av := [.int p1]) (rest := []) (st1 := [.int v113]) (k1 := 0) (k2 := 0) (ci := 4) (q0 := 0) hx hb hml hown htg hN hK (c_X9_longest l dC dI cy a0 (ms_thrown m0 b6) p1 v113 e113) (g_V gw1090 gw1092 gw42 gw63 gw1093) hdV_X9_longest rfl ⟨⟨Nat.le_of_ble_eq_true rfl, Nat.le_of_ble_eq_true rfl⟩, Nat.le_of_ble_eq_true rfl, Nat.le_of_ble_eq_true rfl⟩ hP hD hS hA ⟨rfl, rfl⟩ rfl [0, 1, 2, 3, 4, 5, 6, 7, 8, 9, 10, 11, 12, 13, 14] [] rfl rfl rfl (by decide) (by decide) hl.1 rfl (Nat.le_of_ble_eq_true rfl) rfl rfl rfl dX9_ring_113 (fun H locs hP hD hS => ?_)
        have hP : va_P (dC, dI) vwCl (wMod a0 cy (ms_thrown m0 b6)) H := hP
        have hD : va_D A (wMod a0 cy (ms_thrown m0 b6)) := hD
        obtain rfl := Option.some.inj h
        exact hE H locs 116 ls _ hP hD hS rfl dX9_ring_116
      replace h := if_f h c40_4
      refine lv_tableOut (tgt := 117) hx hb dX9_ring_40 (x_tout0_4 c40_0 c40_1 c40_2 c40_3 c40_4) (by decide) ?_
      refine lv_aload_n hx hb dX9_ring_117 rfl (lv_at hl 0 rfl) ?_
      refine lv_iload_n hx hb dX9_ring_118 rfl (lv_at hl 1 rfl) ?_
      refine lv_aload_n hx hb dX9_ring_119 rfl (lv_at hl 0 rfl) ?_
      refine lv_iload_n hx hb dX9_ring_120 rfl (lv_at hl 1 rfl) ?_
      obtain ⟨v121, e121, h⟩ := bnd h
      refine cV (av := [.int p1]) (rest := [.int p1, .ref (a0 0)]) (st1 := [.int v121, .int p1, .ref (a0 0)]) (k1 := 0) (k2 := 0) (ci := 4) (q0 := 0) hx hb hml hown htg hN hK (c_X9_longest l dC dI cy a0 (ms_thrown m0 b6) p1 v121 e121) (g_V gw1090 gw1092 gw42 gw63 gw1093) hdV_X9_longest rfl ⟨⟨Nat.le_of_ble_eq_true rfl, Nat.le_of_ble_eq_true rfl⟩, Nat.le_of_ble_eq_true rfl, Nat.le_of_ble_eq_true rfl⟩ hP hD hS hA ⟨rfl, rfl⟩ rfl [0, 1, 2, 3, 4, 5, 6, 7, 8, 9, 10, 11, 12, 13, 14] [] rfl rfl rfl (by decide) (by decide) hl.1 rfl (Nat.le_of_ble_eq_true rfl) rfl rfl rfl dX9_ring_121 (fun H locs hP hD hS => ?_)
      have hP : va_P (dC, dI) vwCl (wMod a0 cy (ms_thrown m0 b6)) H := hP
      have hD : va_D A (wMod a0 cy (ms_thrown m0 b6)) := hD
      obtain ⟨v124, e124, h⟩ := bnd h
      refine cV (av := [.int p1, .int v121]) (rest := []) (st1 := [.int v124]) (k1 := 0) (k2 := 0) (ci := 4) (q0 := 0) hx hb hml hown htg hN hK (c_X9_lengthOf l dC dI cy a0 (ms_thrown m0 b6) p1 v121 v124 e124) (g_V gw1094 gw1096 gw43 gw63 gw1097) hdV_X9_lengthOf rfl ⟨⟨Nat.le_of_ble_eq_true rfl, Nat.le_of_ble_eq_true rfl⟩, Nat.le_of_ble_eq_true rfl, Nat.le_of_ble_eq_true rfl⟩ hP hD hS hA ⟨rfl, rfl⟩ rfl [0, 1, 2, 3, 4, 5, 6, 7, 8, 9, 10, 11, 12, 13, 14] [] rfl rfl rfl (by decide) (by decide) hl.1 rfl (Nat.le_of_ble_eq_true rfl) rfl rfl rfl dX9_ring_124 (fun H locs hP hD hS => ?_)
      have hP : va_P (dC, dI) vwCl (wMod a0 cy (ms_thrown m0 b6)) H := hP
      have hD : va_D A (wMod a0 cy (ms_thrown m0 b6)) := hD
      obtain rfl := Option.some.inj h
      exact hE H locs 127 ls _ hP hD hS rfl dX9_ring_127
    replace h := if_f h c34
    refine lv_iconst (v := 0) hx hb dX9_ring_37 (by decide) ?_
    obtain rfl := Option.some.inj h
    exact hE H locs 38 ls _ hP hD hS rfl dX9_ring_38
  have h := e6
  clear e6
  refine lv_if_ne (tgt := 13) hx hb dX9_ring_6 (by decide) (fun c6 => ?_) (fun c6 => ?_)
  · replace h := if_f h c6
    refine lv_iload_n hx hb dX9_ring_13 rfl (lv_at hl 2 rfl) ?_
    refine lv_iconst (v := 0) hx hb dX9_ring_14 (by decide) ?_
    refine lv_iconst (v := 5) hx hb dX9_ring_15 (by decide) ?_
    obtain ⟨v16, e16, h⟩ := bnd h
    refine cS (av := [.int p2, .int 0, .int 5]) (rest := [.ref (a0 0)]) (st1 := [.int v16, .ref (a0 0)]) (k1 := 0) (k2 := 0) hx hb hml hown htg hN hK (c_X9_within l dC dI cy   p2 0 5 v16 e16) (g_S gw913 gw914 gw63 gw915) hdS_X9_within rfl ⟨⟨Nat.le_of_ble_eq_true rfl, Nat.le_of_ble_eq_true rfl⟩, Nat.le_of_ble_eq_true rfl, Nat.le_of_ble_eq_true rfl⟩ hP hD hS hA [] [0, 1, 2, 3, 4, 5, 6, 7, 8, 9, 10, 11, 12, 13, 14] rfl rfl rfl (by decide) (by decide) hl.1 rfl (Nat.le_of_ble_eq_true rfl) rfl rfl rfl dX9_ring_16 (fun H locs hP hD hS => ?_)
    obtain ⟨hP, hD⟩ := x_perm (ws' := wMod a0 cy m0) hP hD [0, 1, 2, 3, 4, 5, 6, 7, 8, 9, 10, 11, 12, 13, 14] (by decide) rfl rfl
    refine lv_if_eq (tgt := 26) hx hb dX9_ring_19 (by decide) (fun c19 => ?_) (fun c19 => ?_)
    · replace h := if_t h c19
      refine lv_iconst (v := 2) hx hb dX9_ring_26 (by decide) ?_
      obtain rfl := Option.some.inj h
      exact hr27 H locs ls hP hD hS hl
    replace h := if_f h c19
    refine lv_iconst (v := 0) hx hb dX9_ring_22 (by decide) ?_
    refine lv_goto (tgt := 27) hx hb dX9_ring_23 (by decide) ?_
    obtain rfl := Option.some.inj h
    exact hr27 H locs ls hP hD hS hl
  replace h := if_t h c6
  refine lv_iconst (v := 1) hx hb dX9_ring_9 (by decide) ?_
  refine lv_goto (tgt := 27) hx hb dX9_ring_10 (by decide) ?_
  obtain rfl := Option.some.inj h
  exact hr27 H locs ls hP hD hS hl
def G_X9_runScript_j148   (m0_148 : Mod) (l6_148 : Int32) : Option (Int32 × Mod) :=
  (G_X9_copy 85 85 (m_scriptKept m0_148) (m_state m0_148) 0 0).bind fun v158 =>
  some (l6_148, ms_state m0_148 v158)
def G_X9_runScript_L96   : Nat → Mod → Int32 → Int64 → Int32 → Int32 → Int64 → Option (Int32 × Mod)
  | 0, _, _, _, _, _, _ => none
  | n96 + 1, m0_96, l9_96, l7_96, l6_96, l1_96, l2_96 =>
    if l1_96 ≤ l9_96 then
      G_X9_runScript_j148 m0_96 l6_96
    else
      if l6_96 = (-9) then
        (dvL l2_96 l7_96).bind fun v113 =>
        (G_X9_commands m0_96 ((v113 - v113 / 1000000 * 1000000).toInt32)).bind fun v119 =>
        ((if v119.1 = 0 then
            some l9_96
          else
            some (-9)) : Option (Int32)).bind fun b122 =>
        (G_X9_runScript_L96 n96) v119.2 (l9_96 + 1) (l7_96 / 1000000) b122 l1_96 l2_96
      else
        G_X9_runScript_j148 m0_96 l6_96
def G_X9_runScript (m0 : Mod) (p1 : Int32) (p2 : Int64) : Option (Int32 × Mod) :=
  ((if p1 = 1 then
      some 1000000
    else
      if p1 = 2 then
        some 1000000000000
      else
        some 1000000000000000000) : Option (Int64)).bind fun b2 =>
  ((if p1 < 1 then
      some 1
    else
      if 3 < p1 then
        some 1
      else
        if lg_cmp p2 0 < 0 then
          some 1
        else
          if lg_cmp p2 b2 < 0 then
            some 0
          else
            some 1) : Option (Int32)).bind fun b30 =>
  if m_thrown (ms_thrown m0 b30) ≤ 0 then
    (some (ms_thrown m0 b30)).bind fun z0_78 =>
    (G_X9_copy 85 85 (m_state (z0_78)) (m_scriptKept (z0_78)) 0 0).bind fun v78 =>
    G_X9_runScript_L96 FU (ms_scriptKept z0_78 v78) 0 (b2 / 1000000) (-9) p1 p2
  else
    some (0, ms_thrown m0 b30)
abbrev rm_X9_runScript : Room := { frames := 8, cells := 0, slots := 0, locals := 196 }
theorem hdS_X9_runScript : yX9_runScript.cls ≠ "java/lang/invoke/MethodHandle" ∧ yX9_runScript.cls ≠ "java/lang/invoke/VarHandle" ∧ (parseMethodDescriptor yX9_runScript.desc).map (fun d => d.parameters.length) = some 2 := by decide +kernel
theorem hdV_X9_runScript : yX9_runScript.cls = RX9 ∧ yX9_runScript.cls ≠ "java/lang/invoke/MethodHandle" ∧ yX9_runScript.cls ≠ "java/lang/invoke/VarHandle" ∧ (parseMethodDescriptor yX9_runScript.desc).map (fun d => d.parameters.length) = some 2 := ⟨rfl, hdS_X9_runScript⟩
set_option maxHeartbeats 4000000 in
set_option maxRecDepth 100000 in
theorem c_X9_runScript (l : Launch) (dC : Nat → ClassId) (dI : Nat → Nat → Nat) (cy : Nat → ClassId) (a0 : Nat → Nat) (m0 : Mod) (p1 : Int32) (p2 : Int64) (res : Int32 × Mod) (h : G_X9_runScript m0 p1 p2 = some res) : CT l (dC, dI) (TY cy) yX9_runScript cX9_runScript 10 (some .int) rm_X9_runScript [.ref (a0 0), .int p1, .long p2] (wMod a0 cy m0) (wMod a0 cy res.2) (some (.int res.1)) := by
  refine CT.mk_i (own := RX9) ⟨by decide, rfl⟩ (Nat.le_of_ble_eq_true rfl) ?_
  intro p e s mm args below meth cd A Q hx hb hml hown htg hN hK hA hP hD hS hE ls hl
  have hl : lv_has ls 10 [(0, .ref (a0 0)), (1, .int p1), (2, .long p2)] := hl
  replace h : _ = some res := h
  unfold G_X9_runScript at h
  obtain ⟨H, hH⟩ : ∃ H, H = s.heap := ⟨_, rfl⟩
  obtain ⟨locs, hlocs⟩ : ∃ locs : List Loc, locs = [] := ⟨_, rfl⟩
  rw [← hlocs] at hS ⊢
  have hS : va_S A s.heap H locs := by rw [hH]; exact hS
  rw [← hH] at hP ⊢
  refine lv_iload_n hx hb dX9_runScript_0 rfl (lv_at hl 1 rfl) ?_
  refine lv_iconst (v := 1) hx hb dX9_runScript_1 (by decide) ?_
  obtain ⟨b2, e2, h⟩ := bnd h
  have hr25 : ∀ (H : Heap) (locs : List Loc) (ls : Array Slot), va_P (dC, dI) vwCl (wMod a0 cy m0) H → va_D A (wMod a0 cy m0) → va_S A s.heap H locs → lv_has ls 10 [(0, .ref (a0 0)), (1, .int p1), (2, .long p2)] → W p l e rm_X9_runScript s mm args below meth cd H locs 0 0 Q (F0 mm 25 ls [.long b2]) := by
    intro H locs ls hP hD hS hl
    refine lv_lstore (lv' := [(4, .long b2), (0, .ref (a0 0)), (1, .int p1), (2, .long p2)]) hx hb dX9_runScript_25 hl (by decide) rfl (fun ls hl => ?_)
    refine lv_aload_n hx hb dX9_runScript_27 rfl (lv_at hl 1 rfl) ?_
    refine lv_iload_n hx hb dX9_runScript_28 rfl (lv_at hl 2 rfl) ?_
    refine lv_iconst (v := 1) hx hb dX9_runScript_29 (by decide) ?_
    obtain ⟨b30, e30, h⟩ := bnd h
    have hr56 : ∀ (H : Heap) (locs : List Loc) (ls : Array Slot), va_P (dC, dI) vwCl (wMod a0 cy m0) H → va_D A (wMod a0 cy m0) → va_S A s.heap H locs → lv_has ls 10 [(4, .long b2), (0, .ref (a0 0)), (1, .int p1), (2, .long p2)] → W p l e rm_X9_runScript s mm args below meth cd H locs 0 0 Q (F0 mm 56 ls [.int b30, .ref (a0 0)]) := by
      intro H locs ls hP hD hS hl
      refine va_put (D := (dC, dI)) (ci := 4) (v := .int b30) (ty := .int) (C := RX9) (T := TX9) (N := 18) hx hb htg inX9 tyX9 tyX9_ok nmX9 hown hK hP hD hS 0 rfl rfl 0 (by decide) (htg _ gw850) (fun _ h9 => h9) rfl (by decide +kernel) rfl rfl (Nat.le_of_ble_eq_true rfl) dX9_runScript_56 (fun H locs hP hD hS => ?_)
      have hP : va_P (dC, dI) vwCl (wMod a0 cy (ms_thrown m0 b30)) H := hP
      have hD : va_D A (wMod a0 cy (ms_thrown m0 b30)) := hD
      refine lv_aload_n hx hb dX9_runScript_59 rfl (lv_at hl 1 rfl) ?_
      refine va_get (D := (dC, dI)) (ci := 4) (v := .int (m_thrown (ms_thrown m0 b30))) (C := RX9) (T := TX9) (N := 18) hx hb htg inX9 hown hK hP 0 rfl rfl 0 (by decide) (htg _ gw850) (fun _ h9 => h9) rfl dX9_runScript_60 ?_
      refine lv_if_le (tgt := 68) hx hb dX9_runScript_63 (by decide) (fun c63 => ?_) (fun c63 => ?_)
      · replace h := if_t h c63
        refine lv_aload_n hx hb dX9_runScript_68 rfl (lv_at hl 1 rfl) ?_
        refine va_get (D := (dC, dI)) (ci := 4) (v := .ref (a0 1)) (C := RX9) (T := TX9) (N := 18) hx hb htg inX9 hown hK hP 0 rfl rfl 1 (by decide) (htg _ gw851) (fun _ h9 => h9) rfl dX9_runScript_69 ?_
        refine lv_iconst (v := 0) hx hb dX9_runScript_72 (by decide) ?_
        refine lv_aload_n hx hb dX9_runScript_73 rfl (lv_at hl 1 rfl) ?_
        refine va_get (D := (dC, dI)) (ci := 4) (v := .ref (a0 3)) (C := RX9) (T := TX9) (N := 18) hx hb htg inX9 hown hK hP 0 rfl rfl 3 (by decide) (htg _ gw853) (fun _ h9 => h9) rfl dX9_runScript_74 ?_
        refine lv_iconst (v := 0) hx hb dX9_runScript_77 (by decide) ?_
        obtain ⟨z0_78, ez0_78, h⟩ := bnd h
        replace ez0_78 := Option.some.inj ez0_78
        rw [ez0_78] at hP hD
        obtain ⟨v78, e78, h⟩ := bnd h
        refine cS (av := [.ref (a0 1), .int 0, .ref (a0 3), .int 0]) (rest := []) (st1 := []) (k1 := 0) (k2 := 0) hx hb hml hown htg hN hK (c_X9_copy l dC dI cy (a0 1) (a0 3) 85 85 (m_state (z0_78)) (m_scriptKept (z0_78)) 0 0 v78 e78) (g_S gw924 gw925 gw63 gw926) hdS_X9_copy rfl ⟨⟨Nat.le_of_ble_eq_true rfl, Nat.le_of_ble_eq_true rfl⟩, Nat.le_of_ble_eq_true rfl, Nat.le_of_ble_eq_true rfl⟩ hP hD hS hA [1, 3] [0, 2, 4, 5, 6, 7, 8, 9, 10, 11, 12, 13, 14] rfl rfl rfl (by decide) (by decide) hl.1 rfl (Nat.le_of_ble_eq_true rfl) rfl rfl rfl dX9_runScript_78 (fun H locs hP hD hS => ?_)
        obtain ⟨hP, hD⟩ := x_perm (ws' := wMod a0 cy (ms_scriptKept z0_78 v78)) hP hD [0, 13, 1, 14, 2, 3, 4, 5, 6, 7, 8, 9, 10, 11, 12] (by decide) rfl rfl
        refine lv_bipush (v := (-9)) hx hb dX9_runScript_81 (by decide) ?_
        refine lv_istore (lv' := [(6, .int (-9)), (4, .long b2), (0, .ref (a0 0)), (1, .int p1), (2, .long p2)]) hx hb dX9_runScript_83 hl (by decide) rfl (fun ls hl => ?_)
        refine lv_lload hx hb dX9_runScript_85 (lv_at hl 1 rfl) ?_
        refine lv_ldc2 (v := 1000000) hx hb hown (htg _ gw1227) dX9_runScript_87 ?_
        refine lv_ldiv hx hb dX9_runScript_90 (by decide) ?_
        refine lv_lstore (lv' := [(7, .long (b2 / 1000000)), (6, .int (-9)), (4, .long b2), (0, .ref (a0 0)), (1, .int p1), (2, .long p2)]) hx hb dX9_runScript_91 hl (by decide) rfl (fun ls hl => ?_)
        refine lv_iconst (v := 0) hx hb dX9_runScript_93 (by decide) ?_
        refine lv_istore (lv' := [(9, .int 0), (7, .long (b2 / 1000000)), (6, .int (-9)), (4, .long b2), (0, .ref (a0 0)), (1, .int p1), (2, .long p2)]) hx hb dX9_runScript_94 hl (by decide) rfl (fun ls hl => ?_)
        have hL96 : ∀ (n96 : Nat) (m0_96 : Mod) (l9_96 : Int32) (l7_96 : Int64) (l6_96 : Int32) (l1_96 : Int32) (l2_96 : Int64) (H : Heap) (locs : List Loc) (ls : Array Slot), G_X9_runScript_L96 n96 m0_96 l9_96 l7_96 l6_96 l1_96 l2_96 = some res → va_P (dC, dI) vwCl (wMod a0 cy m0_96) H → va_D A (wMod a0 cy m0_96) → va_S A s.heap H locs → lv_has ls 10 [(9, .int l9_96), (7, .long l7_96), (6, .int l6_96), (0, .ref (a0 0)), (1, .int l1_96), (2, .long l2_96)] → W p l e rm_X9_runScript s mm args below meth cd H locs 0 0 Q (F0 mm 96 ls []) := by
          intro n96
          induction n96 with
          | zero => intro m0_96 l9_96 l7_96 l6_96 l1_96 l2_96 H locs ls h; exact absurd h (by simp [G_X9_runScript_L96])
          | succ n96 ih96 =>
            intro m0_96 l9_96 l7_96 l6_96 l1_96 l2_96 H locs ls h hP hD hS hl
            rw [G_X9_runScript_L96] at h
            refine lv_iload hx hb dX9_runScript_96 (lv_at hl 0 rfl) ?_
            refine lv_iload_n hx hb dX9_runScript_98 rfl (lv_at hl 4 rfl) ?_
            have hj148 : ∀ (m0_148 : Mod) (l6_148 : Int32) (H : Heap) (locs : List Loc) (ls : Array Slot), G_X9_runScript_j148 m0_148 l6_148 = some res → va_P (dC, dI) vwCl (wMod a0 cy m0_148) H → va_D A (wMod a0 cy m0_148) → va_S A s.heap H locs → lv_has ls 10 [(6, .int l6_148), (0, .ref (a0 0))] → W p l e rm_X9_runScript s mm args below meth cd H locs 0 0 Q (F0 mm 148 ls []) := by
              intro m0_148 l6_148 H locs ls h hP hD hS hl
              unfold G_X9_runScript_j148 at h
              refine lv_aload_n hx hb dX9_runScript_148 rfl (lv_at hl 1 rfl) ?_
              refine va_get (D := (dC, dI)) (ci := 4) (v := .ref (a0 3)) (C := RX9) (T := TX9) (N := 18) hx hb htg inX9 hown hK hP 0 rfl rfl 3 (by decide) (htg _ gw853) (fun _ h9 => h9) rfl dX9_runScript_149 ?_
              refine lv_iconst (v := 0) hx hb dX9_runScript_152 (by decide) ?_
              refine lv_aload_n hx hb dX9_runScript_153 rfl (lv_at hl 1 rfl) ?_
              refine va_get (D := (dC, dI)) (ci := 4) (v := .ref (a0 1)) (C := RX9) (T := TX9) (N := 18) hx hb htg inX9 hown hK hP 0 rfl rfl 1 (by decide) (htg _ gw851) (fun _ h9 => h9) rfl dX9_runScript_154 ?_
              refine lv_iconst (v := 0) hx hb dX9_runScript_157 (by decide) ?_
              obtain ⟨v158, e158, h⟩ := bnd h
              refine cS (av := [.ref (a0 3), .int 0, .ref (a0 1), .int 0]) (rest := []) (st1 := []) (k1 := 0) (k2 := 0) hx hb hml hown htg hN hK (c_X9_copy l dC dI cy (a0 3) (a0 1) 85 85 (m_scriptKept m0_148) (m_state m0_148) 0 0 v158 e158) (g_S gw924 gw925 gw63 gw926) hdS_X9_copy rfl ⟨⟨Nat.le_of_ble_eq_true rfl, Nat.le_of_ble_eq_true rfl⟩, Nat.le_of_ble_eq_true rfl, Nat.le_of_ble_eq_true rfl⟩ hP hD hS hA [3, 1] [0, 2, 4, 5, 6, 7, 8, 9, 10, 11, 12, 13, 14] rfl rfl rfl (by decide) (by decide) hl.1 rfl (Nat.le_of_ble_eq_true rfl) rfl rfl rfl dX9_runScript_158 (fun H locs hP hD hS => ?_)
              obtain ⟨hP, hD⟩ := x_perm (ws' := wMod a0 cy (ms_state m0_148 v158)) hP hD [0, 14, 1, 13, 2, 3, 4, 5, 6, 7, 8, 9, 10, 11, 12] (by decide) rfl rfl
              refine lv_iload hx hb dX9_runScript_161 (lv_at hl 0 rfl) ?_
              obtain rfl := Option.some.inj h
              exact hE H locs 163 ls _ hP hD hS rfl dX9_runScript_163
            refine lv_icmp_ge (tgt := 148) hx hb dX9_runScript_99 (by decide) (fun c99 => ?_) (fun c99 => ?_)
            · replace h := if_t h c99
              exact hj148 m0_96 l6_96 H locs ls h hP hD hS (lv_sub hl [2, 3] rfl)
            replace h := if_f h c99
            refine lv_iload hx hb dX9_runScript_102 (lv_at hl 2 rfl) ?_
            refine lv_bipush (v := (-9)) hx hb dX9_runScript_104 (by decide) ?_
            refine lv_icmp_ne (tgt := 148) hx hb dX9_runScript_106 (by decide) (fun c106 => ?_) (fun c106 => ?_)
            · replace h := if_f h c106
              exact hj148 m0_96 l6_96 H locs ls h hP hD hS (lv_sub hl [2, 3] rfl)
            replace h := if_t h c106
            refine lv_aload_n hx hb dX9_runScript_109 rfl (lv_at hl 3 rfl) ?_
            refine lv_lload_n hx hb dX9_runScript_110 rfl (lv_at hl 5 rfl) ?_
            refine lv_lload hx hb dX9_runScript_111 (lv_at hl 1 rfl) ?_
            obtain ⟨v113, e113, h⟩ := bnd h
            refine x_ldiv hx hb e113 dX9_runScript_113 ?_
            refine lv_ldc2 (v := 1000000) hx hb hown (htg _ gw1227) dX9_runScript_114 ?_
            refine lv_lrem hx hb dX9_runScript_117 (by decide) ?_
            refine lv_l2i hx hb dX9_runScript_118 rfl ?_
            obtain ⟨v119, e119, h⟩ := bnd h
            refine cV (av := [.int ((v113 - v113 / 1000000 * 1000000).toInt32)]) (rest := []) (st1 := [.int v119.1]) (k1 := 0) (k2 := 0) (ci := 4) (q0 := 0) hx hb hml hown htg hN hK (c_X9_commands l dC dI cy a0 m0_96 ((v113 - v113 / 1000000 * 1000000).toInt32) v119 e119) (g_V gw1230 gw1232 gw56 gw63 gw1233) hdV_X9_commands rfl ⟨⟨Nat.le_of_ble_eq_true rfl, Nat.le_of_ble_eq_true rfl⟩, Nat.le_of_ble_eq_true rfl, Nat.le_of_ble_eq_true rfl⟩ hP hD hS hA ⟨rfl, rfl⟩ rfl [0, 1, 2, 3, 4, 5, 6, 7, 8, 9, 10, 11, 12, 13, 14] [] rfl rfl rfl (by decide) (by decide) hl.1 rfl (Nat.le_of_ble_eq_true rfl) rfl rfl rfl dX9_runScript_119 (fun H locs hP hD hS => ?_)
            have hP : va_P (dC, dI) vwCl (wMod a0 cy v119.2) H := hP
            have hD : va_D A (wMod a0 cy v119.2) := hD
            obtain ⟨b122, e122, h⟩ := bnd h
            have hr132 : ∀ (H : Heap) (locs : List Loc) (ls : Array Slot), va_P (dC, dI) vwCl (wMod a0 cy v119.2) H → va_D A (wMod a0 cy v119.2) → va_S A s.heap H locs → lv_has ls 10 [(9, .int l9_96), (7, .long l7_96), (6, .int l6_96), (0, .ref (a0 0)), (1, .int l1_96), (2, .long l2_96)] → W p l e rm_X9_runScript s mm args below meth cd H locs 0 0 Q (F0 mm 132 ls [.int b122]) := by
              intro H locs ls hP hD hS hl
              refine lv_istore (lv' := [(6, .int b122), (9, .int l9_96), (7, .long l7_96), (0, .ref (a0 0)), (1, .int l1_96), (2, .long l2_96)]) hx hb dX9_runScript_132 hl (by decide) rfl (fun ls hl => ?_)
              refine lv_lload hx hb dX9_runScript_134 (lv_at hl 2 rfl) ?_
              refine lv_ldc2 (v := 1000000) hx hb hown (htg _ gw1227) dX9_runScript_136 ?_
              refine lv_ldiv hx hb dX9_runScript_139 (by decide) ?_
              refine lv_lstore (lv' := [(7, .long (l7_96 / 1000000)), (6, .int b122), (9, .int l9_96), (0, .ref (a0 0)), (1, .int l1_96), (2, .long l2_96)]) hx hb dX9_runScript_140 hl (by decide) rfl (fun ls hl => ?_)
              refine lv_iinc (v := l9_96 + 1) (lv' := [(9, .int (l9_96 + 1)), (7, .long (l7_96 / 1000000)), (6, .int b122), (0, .ref (a0 0)), (1, .int l1_96), (2, .long l2_96)]) hx hb dX9_runScript_142 hl (k := 2) rfl rfl (by decide) rfl (fun ls hl => ?_)
              refine lv_goto (tgt := 96) hx hb dX9_runScript_145 (by decide) ?_
              exact ih96 v119.2 (l9_96 + 1) (l7_96 / 1000000) b122 l1_96 l2_96 H locs ls h hP hD hS (lv_sub hl [0, 1, 2, 3, 4, 5] rfl)
            have h := e122
            clear e122
            refine lv_if_eq (tgt := 130) hx hb dX9_runScript_122 (by decide) (fun c122 => ?_) (fun c122 => ?_)
            · replace h := if_t h c122
              refine lv_iload hx hb dX9_runScript_130 (lv_at hl 0 rfl) ?_
              obtain rfl := Option.some.inj h
              exact hr132 H locs ls hP hD hS hl
            replace h := if_f h c122
            refine lv_bipush (v := (-9)) hx hb dX9_runScript_125 (by decide) ?_
            refine lv_goto (tgt := 132) hx hb dX9_runScript_127 (by decide) ?_
            obtain rfl := Option.some.inj h
            exact hr132 H locs ls hP hD hS hl
        exact hL96 FU (ms_scriptKept z0_78 v78) 0 (b2 / 1000000) (-9) p1 p2 H locs ls h hP hD hS (lv_sub hl [0, 1, 2, 4, 5, 6] rfl)
      replace h := if_f h c63
      refine lv_iconst (v := 0) hx hb dX9_runScript_66 (by decide) ?_
      obtain rfl := Option.some.inj h
      exact hE H locs 67 ls _ hP hD hS rfl dX9_runScript_67
    have h := e30
    clear e30
    refine lv_icmp_lt (tgt := 51) hx hb dX9_runScript_30 (by decide) (fun c30 => ?_) (fun c30 => ?_)
    · replace h := if_t h c30
      refine lv_iconst (v := 1) hx hb dX9_runScript_51 (by decide) ?_
      refine lv_goto (tgt := 56) hx hb dX9_runScript_52 (by decide) ?_
      obtain rfl := Option.some.inj h
      exact hr56 H locs ls hP hD hS hl
    replace h := if_f h c30
    refine lv_iload_n hx hb dX9_runScript_33 rfl (lv_at hl 2 rfl) ?_
    refine lv_iconst (v := 3) hx hb dX9_runScript_34 (by decide) ?_
    refine lv_icmp_gt (tgt := 51) hx hb dX9_runScript_35 (by decide) (fun c35 => ?_) (fun c35 => ?_)
    · replace h := if_t h c35
      refine lv_iconst (v := 1) hx hb dX9_runScript_51 (by decide) ?_
      refine lv_goto (tgt := 56) hx hb dX9_runScript_52 (by decide) ?_
      obtain rfl := Option.some.inj h
      exact hr56 H locs ls hP hD hS hl
    replace h := if_f h c35
    refine lv_lload_n hx hb dX9_runScript_38 rfl (lv_at hl 3 rfl) ?_
    refine lv_lconst (v := 0) hx hb dX9_runScript_39 (by decide) ?_
    refine W.lcmp hx hb dX9_runScript_40 ?_
    refine lv_if_lt (tgt := 51) hx hb dX9_runScript_41 (by decide) (fun c41 => ?_) (fun c41 => ?_)
    · replace h := if_t h c41
      refine lv_iconst (v := 1) hx hb dX9_runScript_51 (by decide) ?_
      refine lv_goto (tgt := 56) hx hb dX9_runScript_52 (by decide) ?_
      obtain rfl := Option.some.inj h
      exact hr56 H locs ls hP hD hS hl
    replace h := if_f h c41
    refine lv_lload_n hx hb dX9_runScript_44 rfl (lv_at hl 3 rfl) ?_
    refine lv_lload hx hb dX9_runScript_45 (lv_at hl 0 rfl) ?_
    refine W.lcmp hx hb dX9_runScript_47 ?_
    refine lv_if_lt (tgt := 55) hx hb dX9_runScript_48 (by decide) (fun c48 => ?_) (fun c48 => ?_)
    · replace h := if_t h c48
      refine lv_iconst (v := 0) hx hb dX9_runScript_55 (by decide) ?_
      obtain rfl := Option.some.inj h
      exact hr56 H locs ls hP hD hS hl
    replace h := if_f h c48
    refine lv_iconst (v := 1) hx hb dX9_runScript_51 (by decide) ?_
    refine lv_goto (tgt := 56) hx hb dX9_runScript_52 (by decide) ?_
    obtain rfl := Option.some.inj h
    exact hr56 H locs ls hP hD hS hl
  have h := e2
  clear e2
  refine lv_icmp_ne (tgt := 11) hx hb dX9_runScript_2 (by decide) (fun c2 => ?_) (fun c2 => ?_)
  · replace h := if_f h c2
    refine lv_iload_n hx hb dX9_runScript_11 rfl (lv_at hl 1 rfl) ?_
    refine lv_iconst (v := 2) hx hb dX9_runScript_12 (by decide) ?_
    refine lv_icmp_ne (tgt := 22) hx hb dX9_runScript_13 (by decide) (fun c13 => ?_) (fun c13 => ?_)
    · replace h := if_f h c13
      refine lv_ldc2 (v := 1000000000000000000) hx hb hown (htg _ gw1229) dX9_runScript_22 ?_
      obtain rfl := Option.some.inj h
      exact hr25 H locs ls hP hD hS hl
    replace h := if_t h c13
    refine lv_ldc2 (v := 1000000000000) hx hb hown (htg _ gw1228) dX9_runScript_16 ?_
    refine lv_goto (tgt := 25) hx hb dX9_runScript_19 (by decide) ?_
    obtain rfl := Option.some.inj h
    exact hr25 H locs ls hP hD hS hl
  replace h := if_t h c2
  refine lv_ldc2 (v := 1000000) hx hb hown (htg _ gw1227) dX9_runScript_5 ?_
  refine lv_goto (tgt := 25) hx hb dX9_runScript_8 (by decide) ?_
  obtain rfl := Option.some.inj h
  exact hr25 H locs ls hP hD hS hl
def G_X9_save (m0 : Mod) (p1 : Int32) : Option (Int32 × Mod) :=
  (G_X9_isSlot p1).bind fun v2 =>
  ((if v2 = 0 then
      some 1
    else
      some 0) : Option (Int32)).bind fun b5 =>
  if m_thrown (ms_thrown m0 b5) ≤ 0 then
    (some (ms_thrown m0 b5)).bind fun z0_38 =>
    (G_X9_copy 85 170 (m_state (z0_38)) (m_slots (z0_38)) 0 (85 * p1)).bind fun v38 =>
    (some (ms_slots z0_38 v38)).bind fun z0_47 =>
    (wr 2 (m_isSaved z0_47) p1 1).bind fun g47 =>
    (G_X9_cornerMany (ms_isSaved z0_47 g47)).bind fun v49 =>
    some (v49, ms_isSaved z0_47 g47)
  else
    some (0, ms_thrown m0 b5)
abbrev rm_X9_save : Room := { frames := 2, cells := 0, slots := 0, locals := 43 }
theorem hdS_X9_save : yX9_save.cls ≠ "java/lang/invoke/MethodHandle" ∧ yX9_save.cls ≠ "java/lang/invoke/VarHandle" ∧ (parseMethodDescriptor yX9_save.desc).map (fun d => d.parameters.length) = some 1 := by decide +kernel
theorem hdV_X9_save : yX9_save.cls = RX9 ∧ yX9_save.cls ≠ "java/lang/invoke/MethodHandle" ∧ yX9_save.cls ≠ "java/lang/invoke/VarHandle" ∧ (parseMethodDescriptor yX9_save.desc).map (fun d => d.parameters.length) = some 1 := ⟨rfl, hdS_X9_save⟩
set_option maxHeartbeats 4000000 in
set_option maxRecDepth 100000 in
theorem c_X9_save (l : Launch) (dC : Nat → ClassId) (dI : Nat → Nat → Nat) (cy : Nat → ClassId) (a0 : Nat → Nat) (m0 : Mod) (p1 : Int32) (res : Int32 × Mod) (h : G_X9_save m0 p1 = some res) : CT l (dC, dI) (TY cy) yX9_save cX9_save 2 (some .int) rm_X9_save [.ref (a0 0), .int p1] (wMod a0 cy m0) (wMod a0 cy res.2) (some (.int res.1)) := by
  refine CT.mk_i (own := RX9) ⟨by decide, rfl⟩ (Nat.le_of_ble_eq_true rfl) ?_
  intro p e s mm args below meth cd A Q hx hb hml hown htg hN hK hA hP hD hS hE ls hl
  have hl : lv_has ls 2 [(0, .ref (a0 0)), (1, .int p1)] := hl
  replace h : _ = some res := h
  unfold G_X9_save at h
  obtain ⟨H, hH⟩ : ∃ H, H = s.heap := ⟨_, rfl⟩
  obtain ⟨locs, hlocs⟩ : ∃ locs : List Loc, locs = [] := ⟨_, rfl⟩
  rw [← hlocs] at hS ⊢
  have hS : va_S A s.heap H locs := by rw [hH]; exact hS
  rw [← hH] at hP ⊢
  refine lv_aload_n hx hb dX9_save_0 rfl (lv_at hl 0 rfl) ?_
  refine lv_iload_n hx hb dX9_save_1 rfl (lv_at hl 1 rfl) ?_
  obtain ⟨v2, e2, h⟩ := bnd h
  refine cS (av := [.int p1]) (rest := [.ref (a0 0)]) (st1 := [.int v2, .ref (a0 0)]) (k1 := 0) (k2 := 0) hx hb hml hown htg hN hK (c_X9_isSlot l dC dI cy   p1 v2 e2) (g_S gw1249 gw1250 gw63 gw1251) hdS_X9_isSlot rfl ⟨⟨Nat.le_of_ble_eq_true rfl, Nat.le_of_ble_eq_true rfl⟩, Nat.le_of_ble_eq_true rfl, Nat.le_of_ble_eq_true rfl⟩ hP hD hS hA [] [0, 1, 2, 3, 4, 5, 6, 7, 8, 9, 10, 11, 12, 13, 14] rfl rfl rfl (by decide) (by decide) hl.1 rfl (Nat.le_of_ble_eq_true rfl) rfl rfl rfl dX9_save_2 (fun H locs hP hD hS => ?_)
  obtain ⟨hP, hD⟩ := x_perm (ws' := wMod a0 cy m0) hP hD [0, 1, 2, 3, 4, 5, 6, 7, 8, 9, 10, 11, 12, 13, 14] (by decide) rfl rfl
  obtain ⟨b5, e5, h⟩ := bnd h
  have hr13 : ∀ (H : Heap) (locs : List Loc) (ls : Array Slot), va_P (dC, dI) vwCl (wMod a0 cy m0) H → va_D A (wMod a0 cy m0) → va_S A s.heap H locs → lv_has ls 2 [(0, .ref (a0 0)), (1, .int p1)] → W p l e rm_X9_save s mm args below meth cd H locs 0 0 Q (F0 mm 13 ls [.int b5, .ref (a0 0)]) := by
    intro H locs ls hP hD hS hl
    refine va_put (D := (dC, dI)) (ci := 4) (v := .int b5) (ty := .int) (C := RX9) (T := TX9) (N := 18) hx hb htg inX9 tyX9 tyX9_ok nmX9 hown hK hP hD hS 0 rfl rfl 0 (by decide) (htg _ gw850) (fun _ h9 => h9) rfl (by decide +kernel) rfl rfl (Nat.le_of_ble_eq_true rfl) dX9_save_13 (fun H locs hP hD hS => ?_)
    have hP : va_P (dC, dI) vwCl (wMod a0 cy (ms_thrown m0 b5)) H := hP
    have hD : va_D A (wMod a0 cy (ms_thrown m0 b5)) := hD
    refine lv_aload_n hx hb dX9_save_16 rfl (lv_at hl 0 rfl) ?_
    refine va_get (D := (dC, dI)) (ci := 4) (v := .int (m_thrown (ms_thrown m0 b5))) (C := RX9) (T := TX9) (N := 18) hx hb htg inX9 hown hK hP 0 rfl rfl 0 (by decide) (htg _ gw850) (fun _ h9 => h9) rfl dX9_save_17 ?_
    refine lv_if_le (tgt := 25) hx hb dX9_save_20 (by decide) (fun c20 => ?_) (fun c20 => ?_)
    · replace h := if_t h c20
      refine lv_aload_n hx hb dX9_save_25 rfl (lv_at hl 0 rfl) ?_
      refine va_get (D := (dC, dI)) (ci := 4) (v := .ref (a0 1)) (C := RX9) (T := TX9) (N := 18) hx hb htg inX9 hown hK hP 0 rfl rfl 1 (by decide) (htg _ gw851) (fun _ h9 => h9) rfl dX9_save_26 ?_
      refine lv_iconst (v := 0) hx hb dX9_save_29 (by decide) ?_
      refine lv_aload_n hx hb dX9_save_30 rfl (lv_at hl 0 rfl) ?_
      refine va_get (D := (dC, dI)) (ci := 4) (v := .ref (a0 5)) (C := RX9) (T := TX9) (N := 18) hx hb htg inX9 hown hK hP 0 rfl rfl 6 (by decide) (htg _ gw856) (fun _ h9 => h9) rfl dX9_save_31 ?_
      refine lv_bipush (v := 85) hx hb dX9_save_34 (by decide) ?_
      refine lv_iload_n hx hb dX9_save_36 rfl (lv_at hl 1 rfl) ?_
      refine lv_imul hx hb dX9_save_37 ?_
      obtain ⟨z0_38, ez0_38, h⟩ := bnd h
      replace ez0_38 := Option.some.inj ez0_38
      rw [ez0_38] at hP hD
      obtain ⟨v38, e38, h⟩ := bnd h
      refine cS (av := [.ref (a0 1), .int 0, .ref (a0 5), .int (85 * p1)]) (rest := []) (st1 := []) (k1 := 0) (k2 := 0) hx hb hml hown htg hN hK (c_X9_copy l dC dI cy (a0 1) (a0 5) 85 170 (m_state (z0_38)) (m_slots (z0_38)) 0 (85 * p1) v38 e38) (g_S gw924 gw925 gw63 gw926) hdS_X9_copy rfl ⟨⟨Nat.le_of_ble_eq_true rfl, Nat.le_of_ble_eq_true rfl⟩, Nat.le_of_ble_eq_true rfl, Nat.le_of_ble_eq_true rfl⟩ hP hD hS hA [1, 5] [0, 2, 3, 4, 6, 7, 8, 9, 10, 11, 12, 13, 14] rfl rfl rfl (by decide) (by decide) hl.1 rfl (Nat.le_of_ble_eq_true rfl) rfl rfl rfl dX9_save_38 (fun H locs hP hD hS => ?_)
      obtain ⟨hP, hD⟩ := x_perm (ws' := wMod a0 cy (ms_slots z0_38 v38)) hP hD [0, 13, 1, 2, 3, 14, 4, 5, 6, 7, 8, 9, 10, 11, 12] (by decide) rfl rfl
      refine lv_aload_n hx hb dX9_save_41 rfl (lv_at hl 0 rfl) ?_
      refine va_get (D := (dC, dI)) (ci := 4) (v := .ref (a0 6)) (C := RX9) (T := TX9) (N := 18) hx hb htg inX9 hown hK hP 0 rfl rfl 7 (by decide) (htg _ gw857) (fun _ h9 => h9) rfl dX9_save_42 ?_
      refine lv_iload_n hx hb dX9_save_45 rfl (lv_at hl 1 rfl) ?_
      refine lv_iconst (v := 1) hx hb dX9_save_46 (by decide) ?_
      obtain ⟨z0_47, ez0_47, h⟩ := bnd h
      replace ez0_47 := Option.some.inj ez0_47
      rw [ez0_47] at hP hD
      obtain ⟨g47, e47, h⟩ := bnd h
      refine x_iast (g := g47) hx hb hK hP hD hS 6 0 rfl rfl e47 dX9_save_47 (fun H locs hP hD hS => ?_)
      have hP : va_P (dC, dI) vwCl (wMod a0 cy (ms_isSaved z0_47 g47)) H := hP
      have hD : va_D A (wMod a0 cy (ms_isSaved z0_47 g47)) := hD
      refine lv_aload_n hx hb dX9_save_48 rfl (lv_at hl 0 rfl) ?_
      obtain ⟨v49, e49, h⟩ := bnd h
      refine cV (av := []) (rest := []) (st1 := [.int v49]) (k1 := 0) (k2 := 0) (ci := 4) (q0 := 0) hx hb hml hown htg hN hK (c_X9_cornerMany l dC dI cy a0 (ms_isSaved z0_47 g47)  v49 e49) (g_V gw1000 gw1002 gw22 gw63 gw1003) hdV_X9_cornerMany rfl ⟨⟨Nat.le_of_ble_eq_true rfl, Nat.le_of_ble_eq_true rfl⟩, Nat.le_of_ble_eq_true rfl, Nat.le_of_ble_eq_true rfl⟩ hP hD hS hA ⟨rfl, rfl⟩ rfl [0, 1, 2, 3, 4, 5, 6, 7, 8, 9, 10, 11, 12, 13, 14] [] rfl rfl rfl (by decide) (by decide) hl.1 rfl (Nat.le_of_ble_eq_true rfl) rfl rfl rfl dX9_save_49 (fun H locs hP hD hS => ?_)
      have hP : va_P (dC, dI) vwCl (wMod a0 cy (ms_isSaved z0_47 g47)) H := hP
      have hD : va_D A (wMod a0 cy (ms_isSaved z0_47 g47)) := hD
      obtain rfl := Option.some.inj h
      exact hE H locs 52 ls _ hP hD hS rfl dX9_save_52
    replace h := if_f h c20
    refine lv_iconst (v := 0) hx hb dX9_save_23 (by decide) ?_
    obtain rfl := Option.some.inj h
    exact hE H locs 24 ls _ hP hD hS rfl dX9_save_24
  have h := e5
  clear e5
  refine lv_if_eq (tgt := 12) hx hb dX9_save_5 (by decide) (fun c5 => ?_) (fun c5 => ?_)
  · replace h := if_t h c5
    refine lv_iconst (v := 1) hx hb dX9_save_12 (by decide) ?_
    obtain rfl := Option.some.inj h
    exact hr13 H locs ls hP hD hS hl
  replace h := if_f h c5
  refine lv_iconst (v := 0) hx hb dX9_save_8 (by decide) ?_
  refine lv_goto (tgt := 13) hx hb dX9_save_9 (by decide) ?_
  obtain rfl := Option.some.inj h
  exact hr13 H locs ls hP hD hS hl
def G_X9_sees (m0 : Mod) (p1 : Int32) (p2 : Int32) (p3 : Int32) (p4 : Int32) : Option (Int32 × Mod) :=
  (G_X9_isCorner m0 p1 p2).bind fun v4 =>
  ((if v4 = 0 then
      some 1
    else
      (G_X9_isCorner m0 p3 p4).bind fun v14 =>
      if v14 = 0 then
        some 1
      else
        some 0) : Option (Int32)).bind fun b7 =>
  if m_thrown (ms_thrown m0 b7) = 0 then
    (G_X9_areSeeing (ms_thrown m0 b7) p1 p2 p3 p4).bind fun v41 =>
    if v41.1 = 0 then
      some (0, v41.2)
    else
      some (1, v41.2)
  else
    some (0, ms_thrown m0 b7)
abbrev rm_X9_sees : Room := { frames := 5, cells := 0, slots := 0, locals := 134 }
theorem hdS_X9_sees : yX9_sees.cls ≠ "java/lang/invoke/MethodHandle" ∧ yX9_sees.cls ≠ "java/lang/invoke/VarHandle" ∧ (parseMethodDescriptor yX9_sees.desc).map (fun d => d.parameters.length) = some 4 := by decide +kernel
theorem hdV_X9_sees : yX9_sees.cls = RX9 ∧ yX9_sees.cls ≠ "java/lang/invoke/MethodHandle" ∧ yX9_sees.cls ≠ "java/lang/invoke/VarHandle" ∧ (parseMethodDescriptor yX9_sees.desc).map (fun d => d.parameters.length) = some 4 := ⟨rfl, hdS_X9_sees⟩
set_option maxHeartbeats 4000000 in
set_option maxRecDepth 100000 in
theorem c_X9_sees (l : Launch) (dC : Nat → ClassId) (dI : Nat → Nat → Nat) (cy : Nat → ClassId) (a0 : Nat → Nat) (m0 : Mod) (p1 : Int32) (p2 : Int32) (p3 : Int32) (p4 : Int32) (res : Int32 × Mod) (h : G_X9_sees m0 p1 p2 p3 p4 = some res) : CT l (dC, dI) (TY cy) yX9_sees cX9_sees 5 (some .boolean) rm_X9_sees [.ref (a0 0), .int p1, .int p2, .int p3, .int p4] (wMod a0 cy m0) (wMod a0 cy res.2) (some (.int res.1)) := by
  refine CT.mk_z (own := RX9) ⟨by decide, rfl⟩ (Nat.le_of_ble_eq_true rfl) ?_
  intro p e s mm args below meth cd A Q hx hb hml hown htg hN hK hA hP hD hS hE ls hl
  have hl : lv_has ls 5 [(0, .ref (a0 0)), (1, .int p1), (2, .int p2), (3, .int p3), (4, .int p4)] := hl
  replace h : _ = some res := h
  unfold G_X9_sees at h
  obtain ⟨H, hH⟩ : ∃ H, H = s.heap := ⟨_, rfl⟩
  obtain ⟨locs, hlocs⟩ : ∃ locs : List Loc, locs = [] := ⟨_, rfl⟩
  rw [← hlocs] at hS ⊢
  have hS : va_S A s.heap H locs := by rw [hH]; exact hS
  rw [← hH] at hP ⊢
  refine lv_aload_n hx hb dX9_sees_0 rfl (lv_at hl 0 rfl) ?_
  refine lv_aload_n hx hb dX9_sees_1 rfl (lv_at hl 0 rfl) ?_
  refine lv_iload_n hx hb dX9_sees_2 rfl (lv_at hl 1 rfl) ?_
  refine lv_iload_n hx hb dX9_sees_3 rfl (lv_at hl 2 rfl) ?_
  obtain ⟨v4, e4, h⟩ := bnd h
  refine cV (av := [.int p1, .int p2]) (rest := [.ref (a0 0)]) (st1 := [.int v4, .ref (a0 0)]) (k1 := 0) (k2 := 0) (ci := 4) (q0 := 0) hx hb hml hown htg hN hK (c_X9_isCorner l dC dI cy a0 m0 p1 p2 v4 e4) (g_V gw1102 gw1104 gw44 gw63 gw1105) hdV_X9_isCorner rfl ⟨⟨Nat.le_of_ble_eq_true rfl, Nat.le_of_ble_eq_true rfl⟩, Nat.le_of_ble_eq_true rfl, Nat.le_of_ble_eq_true rfl⟩ hP hD hS hA ⟨rfl, rfl⟩ rfl [0, 1, 2, 3, 4, 5, 6, 7, 8, 9, 10, 11, 12, 13, 14] [] rfl rfl rfl (by decide) (by decide) hl.1 rfl (Nat.le_of_ble_eq_true rfl) rfl rfl rfl dX9_sees_4 (fun H locs hP hD hS => ?_)
  have hP : va_P (dC, dI) vwCl (wMod a0 cy m0) H := hP
  have hD : va_D A (wMod a0 cy m0) := hD
  obtain ⟨b7, e7, h⟩ := bnd h
  have hr25 : ∀ (H : Heap) (locs : List Loc) (ls : Array Slot), va_P (dC, dI) vwCl (wMod a0 cy m0) H → va_D A (wMod a0 cy m0) → va_S A s.heap H locs → lv_has ls 5 [(0, .ref (a0 0)), (1, .int p1), (2, .int p2), (3, .int p3), (4, .int p4)] → W p l e rm_X9_sees s mm args below meth cd H locs 0 0 Q (F0 mm 25 ls [.int b7, .ref (a0 0)]) := by
    intro H locs ls hP hD hS hl
    refine va_put (D := (dC, dI)) (ci := 4) (v := .int b7) (ty := .int) (C := RX9) (T := TX9) (N := 18) hx hb htg inX9 tyX9 tyX9_ok nmX9 hown hK hP hD hS 0 rfl rfl 0 (by decide) (htg _ gw850) (fun _ h9 => h9) rfl (by decide +kernel) rfl rfl (Nat.le_of_ble_eq_true rfl) dX9_sees_25 (fun H locs hP hD hS => ?_)
    have hP : va_P (dC, dI) vwCl (wMod a0 cy (ms_thrown m0 b7)) H := hP
    have hD : va_D A (wMod a0 cy (ms_thrown m0 b7)) := hD
    refine lv_aload_n hx hb dX9_sees_28 rfl (lv_at hl 0 rfl) ?_
    refine va_get (D := (dC, dI)) (ci := 4) (v := .int (m_thrown (ms_thrown m0 b7))) (C := RX9) (T := TX9) (N := 18) hx hb htg inX9 hown hK hP 0 rfl rfl 0 (by decide) (htg _ gw850) (fun _ h9 => h9) rfl dX9_sees_29 ?_
    refine lv_if_ne (tgt := 51) hx hb dX9_sees_32 (by decide) (fun c32 => ?_) (fun c32 => ?_)
    · replace h := if_f h c32
      refine lv_iconst (v := 0) hx hb dX9_sees_51 (by decide) ?_
      obtain rfl := Option.some.inj h
      exact hE H locs 52 ls _ hP hD hS rfl (Or.inl rfl) dX9_sees_52
    replace h := if_t h c32
    refine lv_aload_n hx hb dX9_sees_35 rfl (lv_at hl 0 rfl) ?_
    refine lv_iload_n hx hb dX9_sees_36 rfl (lv_at hl 1 rfl) ?_
    refine lv_iload_n hx hb dX9_sees_37 rfl (lv_at hl 2 rfl) ?_
    refine lv_iload_n hx hb dX9_sees_38 rfl (lv_at hl 3 rfl) ?_
    refine lv_iload hx hb dX9_sees_39 (lv_at hl 4 rfl) ?_
    obtain ⟨v41, e41, h⟩ := bnd h
    refine cV (av := [.int p1, .int p2, .int p3, .int p4]) (rest := []) (st1 := [.int v41.1]) (k1 := 0) (k2 := 0) (ci := 4) (q0 := 0) hx hb hml hown htg hN hK (c_X9_areSeeing l dC dI cy a0 (ms_thrown m0 b7) p1 p2 p3 p4 v41 e41) (g_V gw1062 gw1064 gw36 gw63 gw1065) hdV_X9_areSeeing rfl ⟨⟨Nat.le_of_ble_eq_true rfl, Nat.le_of_ble_eq_true rfl⟩, Nat.le_of_ble_eq_true rfl, Nat.le_of_ble_eq_true rfl⟩ hP hD hS hA ⟨rfl, rfl⟩ rfl [0, 1, 2, 3, 4, 5, 6, 7, 8, 9, 10, 11, 12, 13, 14] [] rfl rfl rfl (by decide) (by decide) hl.1 rfl (Nat.le_of_ble_eq_true rfl) rfl rfl rfl dX9_sees_41 (fun H locs hP hD hS => ?_)
    have hP : va_P (dC, dI) vwCl (wMod a0 cy v41.2) H := hP
    have hD : va_D A (wMod a0 cy v41.2) := hD
    refine lv_if_eq (tgt := 51) hx hb dX9_sees_44 (by decide) (fun c44 => ?_) (fun c44 => ?_)
    · replace h := if_t h c44
      refine lv_iconst (v := 0) hx hb dX9_sees_51 (by decide) ?_
      obtain rfl := Option.some.inj h
      exact hE H locs 52 ls _ hP hD hS rfl (Or.inl rfl) dX9_sees_52
    replace h := if_f h c44
    refine lv_iconst (v := 1) hx hb dX9_sees_47 (by decide) ?_
    refine lv_goto (tgt := 52) hx hb dX9_sees_48 (by decide) ?_
    obtain rfl := Option.some.inj h
    exact hE H locs 52 ls _ hP hD hS rfl (Or.inr rfl) dX9_sees_52
  have h := e7
  clear e7
  refine lv_if_eq (tgt := 24) hx hb dX9_sees_7 (by decide) (fun c7 => ?_) (fun c7 => ?_)
  · replace h := if_t h c7
    refine lv_iconst (v := 1) hx hb dX9_sees_24 (by decide) ?_
    obtain rfl := Option.some.inj h
    exact hr25 H locs ls hP hD hS hl
  replace h := if_f h c7
  refine lv_aload_n hx hb dX9_sees_10 rfl (lv_at hl 0 rfl) ?_
  refine lv_iload_n hx hb dX9_sees_11 rfl (lv_at hl 3 rfl) ?_
  refine lv_iload hx hb dX9_sees_12 (lv_at hl 4 rfl) ?_
  obtain ⟨v14, e14, h⟩ := bnd h
  refine cV (av := [.int p3, .int p4]) (rest := [.ref (a0 0)]) (st1 := [.int v14, .ref (a0 0)]) (k1 := 0) (k2 := 0) (ci := 4) (q0 := 0) hx hb hml hown htg hN hK (c_X9_isCorner l dC dI cy a0 m0 p3 p4 v14 e14) (g_V gw1102 gw1104 gw44 gw63 gw1105) hdV_X9_isCorner rfl ⟨⟨Nat.le_of_ble_eq_true rfl, Nat.le_of_ble_eq_true rfl⟩, Nat.le_of_ble_eq_true rfl, Nat.le_of_ble_eq_true rfl⟩ hP hD hS hA ⟨rfl, rfl⟩ rfl [0, 1, 2, 3, 4, 5, 6, 7, 8, 9, 10, 11, 12, 13, 14] [] rfl rfl rfl (by decide) (by decide) hl.1 rfl (Nat.le_of_ble_eq_true rfl) rfl rfl rfl dX9_sees_14 (fun H locs hP hD hS => ?_)
  have hP : va_P (dC, dI) vwCl (wMod a0 cy m0) H := hP
  have hD : va_D A (wMod a0 cy m0) := hD
  refine lv_if_eq (tgt := 24) hx hb dX9_sees_17 (by decide) (fun c17 => ?_) (fun c17 => ?_)
  · replace h := if_t h c17
    refine lv_iconst (v := 1) hx hb dX9_sees_24 (by decide) ?_
    obtain rfl := Option.some.inj h
    exact hr25 H locs ls hP hD hS hl
  replace h := if_f h c17
  refine lv_iconst (v := 0) hx hb dX9_sees_20 (by decide) ?_
  refine lv_goto (tgt := 25) hx hb dX9_sees_21 (by decide) ?_
  obtain rfl := Option.some.inj h
  exact hr25 H locs ls hP hD hS hl
def G_X9_shift (m0 : Mod) (p1 : Int32) (p2 : Int32) : Option (Int32 × Mod) :=
  (G_X9_tryShift m0 p1 p2).bind fun v4 =>
  if m_thrown (ms_thrown v4.2 v4.1) ≤ 0 then
    (G_X9_remember (ms_thrown v4.2 v4.1)).bind fun v20 =>
    (G_X9_greatestX v20).bind fun v24 =>
    some (v24, v20)
  else
    some (0, ms_thrown v4.2 v4.1)
abbrev rm_X9_shift : Room := { frames := 7, cells := 0, slots := 0, locals := 170 }
theorem hdS_X9_shift : yX9_shift.cls ≠ "java/lang/invoke/MethodHandle" ∧ yX9_shift.cls ≠ "java/lang/invoke/VarHandle" ∧ (parseMethodDescriptor yX9_shift.desc).map (fun d => d.parameters.length) = some 2 := by decide +kernel
theorem hdV_X9_shift : yX9_shift.cls = RX9 ∧ yX9_shift.cls ≠ "java/lang/invoke/MethodHandle" ∧ yX9_shift.cls ≠ "java/lang/invoke/VarHandle" ∧ (parseMethodDescriptor yX9_shift.desc).map (fun d => d.parameters.length) = some 2 := ⟨rfl, hdS_X9_shift⟩
set_option maxHeartbeats 4000000 in
set_option maxRecDepth 100000 in
theorem c_X9_shift (l : Launch) (dC : Nat → ClassId) (dI : Nat → Nat → Nat) (cy : Nat → ClassId) (a0 : Nat → Nat) (m0 : Mod) (p1 : Int32) (p2 : Int32) (res : Int32 × Mod) (h : G_X9_shift m0 p1 p2 = some res) : CT l (dC, dI) (TY cy) yX9_shift cX9_shift 3 (some .int) rm_X9_shift [.ref (a0 0), .int p1, .int p2] (wMod a0 cy m0) (wMod a0 cy res.2) (some (.int res.1)) := by
  refine CT.mk_i (own := RX9) ⟨by decide, rfl⟩ (Nat.le_of_ble_eq_true rfl) ?_
  intro p e s mm args below meth cd A Q hx hb hml hown htg hN hK hA hP hD hS hE ls hl
  have hl : lv_has ls 3 [(0, .ref (a0 0)), (1, .int p1), (2, .int p2)] := hl
  replace h : _ = some res := h
  unfold G_X9_shift at h
  obtain ⟨H, hH⟩ : ∃ H, H = s.heap := ⟨_, rfl⟩
  obtain ⟨locs, hlocs⟩ : ∃ locs : List Loc, locs = [] := ⟨_, rfl⟩
  rw [← hlocs] at hS ⊢
  have hS : va_S A s.heap H locs := by rw [hH]; exact hS
  rw [← hH] at hP ⊢
  refine lv_aload_n hx hb dX9_shift_0 rfl (lv_at hl 0 rfl) ?_
  refine lv_aload_n hx hb dX9_shift_1 rfl (lv_at hl 0 rfl) ?_
  refine lv_iload_n hx hb dX9_shift_2 rfl (lv_at hl 1 rfl) ?_
  refine lv_iload_n hx hb dX9_shift_3 rfl (lv_at hl 2 rfl) ?_
  obtain ⟨v4, e4, h⟩ := bnd h
  refine cV (av := [.int p1, .int p2]) (rest := [.ref (a0 0)]) (st1 := [.int v4.1, .ref (a0 0)]) (k1 := 0) (k2 := 0) (ci := 4) (q0 := 0) hx hb hml hown htg hN hK (c_X9_tryShift l dC dI cy a0 m0 p1 p2 v4 e4) (g_V gw1169 gw1171 gw52 gw63 gw1172) hdV_X9_tryShift rfl ⟨⟨Nat.le_of_ble_eq_true rfl, Nat.le_of_ble_eq_true rfl⟩, Nat.le_of_ble_eq_true rfl, Nat.le_of_ble_eq_true rfl⟩ hP hD hS hA ⟨rfl, rfl⟩ rfl [0, 1, 2, 3, 4, 5, 6, 7, 8, 9, 10, 11, 12, 13, 14] [] rfl rfl rfl (by decide) (by decide) hl.1 rfl (Nat.le_of_ble_eq_true rfl) rfl rfl rfl dX9_shift_4 (fun H locs hP hD hS => ?_)
  have hP : va_P (dC, dI) vwCl (wMod a0 cy v4.2) H := hP
  have hD : va_D A (wMod a0 cy v4.2) := hD
  refine va_put (D := (dC, dI)) (ci := 4) (v := .int v4.1) (ty := .int) (C := RX9) (T := TX9) (N := 18) hx hb htg inX9 tyX9 tyX9_ok nmX9 hown hK hP hD hS 0 rfl rfl 0 (by decide) (htg _ gw850) (fun _ h9 => h9) rfl (by decide +kernel) rfl rfl (Nat.le_of_ble_eq_true rfl) dX9_shift_7 (fun H locs hP hD hS => ?_)
  have hP : va_P (dC, dI) vwCl (wMod a0 cy (ms_thrown v4.2 v4.1)) H := hP
  have hD : va_D A (wMod a0 cy (ms_thrown v4.2 v4.1)) := hD
  refine lv_aload_n hx hb dX9_shift_10 rfl (lv_at hl 0 rfl) ?_
  refine va_get (D := (dC, dI)) (ci := 4) (v := .int (m_thrown (ms_thrown v4.2 v4.1))) (C := RX9) (T := TX9) (N := 18) hx hb htg inX9 hown hK hP 0 rfl rfl 0 (by decide) (htg _ gw850) (fun _ h9 => h9) rfl dX9_shift_11 ?_
  refine lv_if_le (tgt := 19) hx hb dX9_shift_14 (by decide) (fun c14 => ?_) (fun c14 => ?_)
  · replace h := if_t h c14
    refine lv_aload_n hx hb dX9_shift_19 rfl (lv_at hl 0 rfl) ?_
    obtain ⟨v20, e20, h⟩ := bnd h
    refine cV (av := []) (rest := []) (st1 := []) (k1 := 0) (k2 := 0) (ci := 4) (q0 := 0) hx hb hml hown htg hN hK (c_X9_remember l dC dI cy a0 (ms_thrown v4.2 v4.1)  v20 e20) (g_V gw1133 gw1135 gw48 gw63 gw1136) hdV_X9_remember rfl ⟨⟨Nat.le_of_ble_eq_true rfl, Nat.le_of_ble_eq_true rfl⟩, Nat.le_of_ble_eq_true rfl, Nat.le_of_ble_eq_true rfl⟩ hP hD hS hA ⟨rfl, rfl⟩ rfl [0, 1, 2, 3, 4, 5, 6, 7, 8, 9, 10, 11, 12, 13, 14] [] rfl rfl rfl (by decide) (by decide) hl.1 rfl (Nat.le_of_ble_eq_true rfl) rfl rfl rfl dX9_shift_20 (fun H locs hP hD hS => ?_)
    have hP : va_P (dC, dI) vwCl (wMod a0 cy v20) H := hP
    have hD : va_D A (wMod a0 cy v20) := hD
    refine lv_aload_n hx hb dX9_shift_23 rfl (lv_at hl 0 rfl) ?_
    obtain ⟨v24, e24, h⟩ := bnd h
    refine cV (av := []) (rest := []) (st1 := [.int v24]) (k1 := 0) (k2 := 0) (ci := 4) (q0 := 0) hx hb hml hown htg hN hK (c_X9_greatestX l dC dI cy a0 v20  v24 e24) (g_V gw1173 gw1175 gw53 gw63 gw1176) hdV_X9_greatestX rfl ⟨⟨Nat.le_of_ble_eq_true rfl, Nat.le_of_ble_eq_true rfl⟩, Nat.le_of_ble_eq_true rfl, Nat.le_of_ble_eq_true rfl⟩ hP hD hS hA ⟨rfl, rfl⟩ rfl [0, 1, 2, 3, 4, 5, 6, 7, 8, 9, 10, 11, 12, 13, 14] [] rfl rfl rfl (by decide) (by decide) hl.1 rfl (Nat.le_of_ble_eq_true rfl) rfl rfl rfl dX9_shift_24 (fun H locs hP hD hS => ?_)
    have hP : va_P (dC, dI) vwCl (wMod a0 cy v20) H := hP
    have hD : va_D A (wMod a0 cy v20) := hD
    obtain rfl := Option.some.inj h
    exact hE H locs 27 ls _ hP hD hS rfl dX9_shift_27
  replace h := if_f h c14
  refine lv_iconst (v := 0) hx hb dX9_shift_17 (by decide) ?_
  obtain rfl := Option.some.inj h
  exact hE H locs 18 ls _ hP hD hS rfl dX9_shift_18
def G_X9_simulate_L50   : Nat → Mod → Int32 → Int32 → Int64 → Int32 → Option (Int32 × Mod)
  | 0, _, _, _, _, _ => none
  | n50 + 1, m0_50, l7_50, l6_50, l4_50, l3_50 =>
    if l3_50 ≤ l7_50 then
      (G_X9_area m0_50).bind fun v120 =>
      (G_X9_copy 85 85 (m_scriptKept m0_50) (m_state m0_50) 0 0).bind fun v136 =>
      some ((1000 * l6_50) + v120, ms_state m0_50 v136)
    else
      (G_X9_many m0_50 0).bind fun v85 =>
      (rmI ((((((l4_50 * 6364136223846793005) + 1442695040888963407).toUInt64 >>> ((33 : Int32).toInt64.toUInt64 &&& Int64.toUInt64 63)).toInt64).toInt32) / 4) v85).bind fun v88 =>
      (G_X9_isStepped m0_50 v88 ((((((l4_50 * 6364136223846793005) + 1442695040888963407).toUInt64 >>> ((33 : Int32).toInt64.toUInt64 &&& Int64.toUInt64 63)).toInt64).toInt32) - (((((l4_50 * 6364136223846793005) + 1442695040888963407).toUInt64 >>> ((33 : Int32).toInt64.toUInt64 &&& Int64.toUInt64 63)).toInt64).toInt32) / 4 * 4)).bind fun v93 =>
      ((if v93.1 = 0 then
          some 0
        else
          some 1) : Option (Int32)).bind fun b96 =>
      (G_X9_simulate_L50 n50) v93.2 (l7_50 + 1) (l6_50 + b96) ((l4_50 * 6364136223846793005) + 1442695040888963407) l3_50
def G_X9_simulate (m0 : Mod) (p1 : Int64) (p3 : Int32) : Option (Int32 × Mod) :=
  (G_X9_within p3 1 60).bind fun v5 =>
  ((if v5 = 0 then
      some 1
    else
      some 0) : Option (Int32)).bind fun b8 =>
  if m_thrown (ms_thrown m0 b8) ≤ 0 then
    (some (ms_thrown m0 b8)).bind fun z0_38 =>
    (G_X9_copy 85 85 (m_state (z0_38)) (m_scriptKept (z0_38)) 0 0).bind fun v38 =>
    G_X9_simulate_L50 FU (ms_scriptKept z0_38 v38) 0 0 p1 p3
  else
    some (0, ms_thrown m0 b8)
abbrev rm_X9_simulate : Room := { frames := 8, cells := 0, slots := 0, locals := 192 }
theorem hdS_X9_simulate : yX9_simulate.cls ≠ "java/lang/invoke/MethodHandle" ∧ yX9_simulate.cls ≠ "java/lang/invoke/VarHandle" ∧ (parseMethodDescriptor yX9_simulate.desc).map (fun d => d.parameters.length) = some 2 := by decide +kernel
theorem hdV_X9_simulate : yX9_simulate.cls = RX9 ∧ yX9_simulate.cls ≠ "java/lang/invoke/MethodHandle" ∧ yX9_simulate.cls ≠ "java/lang/invoke/VarHandle" ∧ (parseMethodDescriptor yX9_simulate.desc).map (fun d => d.parameters.length) = some 2 := ⟨rfl, hdS_X9_simulate⟩
set_option maxHeartbeats 4000000 in
set_option maxRecDepth 100000 in
theorem c_X9_simulate (l : Launch) (dC : Nat → ClassId) (dI : Nat → Nat → Nat) (cy : Nat → ClassId) (a0 : Nat → Nat) (m0 : Mod) (p1 : Int64) (p3 : Int32) (res : Int32 × Mod) (h : G_X9_simulate m0 p1 p3 = some res) : CT l (dC, dI) (TY cy) yX9_simulate cX9_simulate 9 (some .int) rm_X9_simulate [.ref (a0 0), .long p1, .int p3] (wMod a0 cy m0) (wMod a0 cy res.2) (some (.int res.1)) := by
  refine CT.mk_i (own := RX9) ⟨by decide, rfl⟩ (Nat.le_of_ble_eq_true rfl) ?_
  intro p e s mm args below meth cd A Q hx hb hml hown htg hN hK hA hP hD hS hE ls hl
  have hl : lv_has ls 9 [(0, .ref (a0 0)), (1, .long p1), (3, .int p3)] := hl
  replace h : _ = some res := h
  unfold G_X9_simulate at h
  obtain ⟨H, hH⟩ : ∃ H, H = s.heap := ⟨_, rfl⟩
  obtain ⟨locs, hlocs⟩ : ∃ locs : List Loc, locs = [] := ⟨_, rfl⟩
  rw [← hlocs] at hS ⊢
  have hS : va_S A s.heap H locs := by rw [hH]; exact hS
  rw [← hH] at hP ⊢
  refine lv_aload_n hx hb dX9_simulate_0 rfl (lv_at hl 0 rfl) ?_
  refine lv_iload_n hx hb dX9_simulate_1 rfl (lv_at hl 2 rfl) ?_
  refine lv_iconst (v := 1) hx hb dX9_simulate_2 (by decide) ?_
  refine lv_bipush (v := 60) hx hb dX9_simulate_3 (by decide) ?_
  obtain ⟨v5, e5, h⟩ := bnd h
  refine cS (av := [.int p3, .int 1, .int 60]) (rest := [.ref (a0 0)]) (st1 := [.int v5, .ref (a0 0)]) (k1 := 0) (k2 := 0) hx hb hml hown htg hN hK (c_X9_within l dC dI cy   p3 1 60 v5 e5) (g_S gw913 gw914 gw63 gw915) hdS_X9_within rfl ⟨⟨Nat.le_of_ble_eq_true rfl, Nat.le_of_ble_eq_true rfl⟩, Nat.le_of_ble_eq_true rfl, Nat.le_of_ble_eq_true rfl⟩ hP hD hS hA [] [0, 1, 2, 3, 4, 5, 6, 7, 8, 9, 10, 11, 12, 13, 14] rfl rfl rfl (by decide) (by decide) hl.1 rfl (Nat.le_of_ble_eq_true rfl) rfl rfl rfl dX9_simulate_5 (fun H locs hP hD hS => ?_)
  obtain ⟨hP, hD⟩ := x_perm (ws' := wMod a0 cy m0) hP hD [0, 1, 2, 3, 4, 5, 6, 7, 8, 9, 10, 11, 12, 13, 14] (by decide) rfl rfl
  obtain ⟨b8, e8, h⟩ := bnd h
  have hr16 : ∀ (H : Heap) (locs : List Loc) (ls : Array Slot), va_P (dC, dI) vwCl (wMod a0 cy m0) H → va_D A (wMod a0 cy m0) → va_S A s.heap H locs → lv_has ls 9 [(0, .ref (a0 0)), (1, .long p1), (3, .int p3)] → W p l e rm_X9_simulate s mm args below meth cd H locs 0 0 Q (F0 mm 16 ls [.int b8, .ref (a0 0)]) := by
    intro H locs ls hP hD hS hl
    refine va_put (D := (dC, dI)) (ci := 4) (v := .int b8) (ty := .int) (C := RX9) (T := TX9) (N := 18) hx hb htg inX9 tyX9 tyX9_ok nmX9 hown hK hP hD hS 0 rfl rfl 0 (by decide) (htg _ gw850) (fun _ h9 => h9) rfl (by decide +kernel) rfl rfl (Nat.le_of_ble_eq_true rfl) dX9_simulate_16 (fun H locs hP hD hS => ?_)
    have hP : va_P (dC, dI) vwCl (wMod a0 cy (ms_thrown m0 b8)) H := hP
    have hD : va_D A (wMod a0 cy (ms_thrown m0 b8)) := hD
    refine lv_aload_n hx hb dX9_simulate_19 rfl (lv_at hl 0 rfl) ?_
    refine va_get (D := (dC, dI)) (ci := 4) (v := .int (m_thrown (ms_thrown m0 b8))) (C := RX9) (T := TX9) (N := 18) hx hb htg inX9 hown hK hP 0 rfl rfl 0 (by decide) (htg _ gw850) (fun _ h9 => h9) rfl dX9_simulate_20 ?_
    refine lv_if_le (tgt := 28) hx hb dX9_simulate_23 (by decide) (fun c23 => ?_) (fun c23 => ?_)
    · replace h := if_t h c23
      refine lv_aload_n hx hb dX9_simulate_28 rfl (lv_at hl 0 rfl) ?_
      refine va_get (D := (dC, dI)) (ci := 4) (v := .ref (a0 1)) (C := RX9) (T := TX9) (N := 18) hx hb htg inX9 hown hK hP 0 rfl rfl 1 (by decide) (htg _ gw851) (fun _ h9 => h9) rfl dX9_simulate_29 ?_
      refine lv_iconst (v := 0) hx hb dX9_simulate_32 (by decide) ?_
      refine lv_aload_n hx hb dX9_simulate_33 rfl (lv_at hl 0 rfl) ?_
      refine va_get (D := (dC, dI)) (ci := 4) (v := .ref (a0 3)) (C := RX9) (T := TX9) (N := 18) hx hb htg inX9 hown hK hP 0 rfl rfl 3 (by decide) (htg _ gw853) (fun _ h9 => h9) rfl dX9_simulate_34 ?_
      refine lv_iconst (v := 0) hx hb dX9_simulate_37 (by decide) ?_
      obtain ⟨z0_38, ez0_38, h⟩ := bnd h
      replace ez0_38 := Option.some.inj ez0_38
      rw [ez0_38] at hP hD
      obtain ⟨v38, e38, h⟩ := bnd h
      refine cS (av := [.ref (a0 1), .int 0, .ref (a0 3), .int 0]) (rest := []) (st1 := []) (k1 := 0) (k2 := 0) hx hb hml hown htg hN hK (c_X9_copy l dC dI cy (a0 1) (a0 3) 85 85 (m_state (z0_38)) (m_scriptKept (z0_38)) 0 0 v38 e38) (g_S gw924 gw925 gw63 gw926) hdS_X9_copy rfl ⟨⟨Nat.le_of_ble_eq_true rfl, Nat.le_of_ble_eq_true rfl⟩, Nat.le_of_ble_eq_true rfl, Nat.le_of_ble_eq_true rfl⟩ hP hD hS hA [1, 3] [0, 2, 4, 5, 6, 7, 8, 9, 10, 11, 12, 13, 14] rfl rfl rfl (by decide) (by decide) hl.1 rfl (Nat.le_of_ble_eq_true rfl) rfl rfl rfl dX9_simulate_38 (fun H locs hP hD hS => ?_)
      obtain ⟨hP, hD⟩ := x_perm (ws' := wMod a0 cy (ms_scriptKept z0_38 v38)) hP hD [0, 13, 1, 14, 2, 3, 4, 5, 6, 7, 8, 9, 10, 11, 12] (by decide) rfl rfl
      refine lv_lload_n hx hb dX9_simulate_41 rfl (lv_at hl 1 rfl) ?_
      refine lv_lstore (lv' := [(4, .long p1), (0, .ref (a0 0)), (1, .long p1), (3, .int p3)]) hx hb dX9_simulate_42 hl (by decide) rfl (fun ls hl => ?_)
      refine lv_iconst (v := 0) hx hb dX9_simulate_44 (by decide) ?_
      refine lv_istore (lv' := [(6, .int 0), (4, .long p1), (0, .ref (a0 0)), (1, .long p1), (3, .int p3)]) hx hb dX9_simulate_45 hl (by decide) rfl (fun ls hl => ?_)
      refine lv_iconst (v := 0) hx hb dX9_simulate_47 (by decide) ?_
      refine lv_istore (lv' := [(7, .int 0), (6, .int 0), (4, .long p1), (0, .ref (a0 0)), (1, .long p1), (3, .int p3)]) hx hb dX9_simulate_48 hl (by decide) rfl (fun ls hl => ?_)
      have hL50 : ∀ (n50 : Nat) (m0_50 : Mod) (l7_50 : Int32) (l6_50 : Int32) (l4_50 : Int64) (l3_50 : Int32) (H : Heap) (locs : List Loc) (ls : Array Slot), G_X9_simulate_L50 n50 m0_50 l7_50 l6_50 l4_50 l3_50 = some res → va_P (dC, dI) vwCl (wMod a0 cy m0_50) H → va_D A (wMod a0 cy m0_50) → va_S A s.heap H locs → lv_has ls 9 [(7, .int l7_50), (6, .int l6_50), (4, .long l4_50), (0, .ref (a0 0)), (3, .int l3_50)] → W p l e rm_X9_simulate s mm args below meth cd H locs 0 0 Q (F0 mm 50 ls []) := by
        intro n50
        induction n50 with
        | zero => intro m0_50 l7_50 l6_50 l4_50 l3_50 H locs ls h; exact absurd h (by simp [G_X9_simulate_L50])
        | succ n50 ih50 =>
          intro m0_50 l7_50 l6_50 l4_50 l3_50 H locs ls h hP hD hS hl
          rw [G_X9_simulate_L50] at h
          refine lv_iload hx hb dX9_simulate_50 (lv_at hl 0 rfl) ?_
          refine lv_iload_n hx hb dX9_simulate_52 rfl (lv_at hl 4 rfl) ?_
          refine lv_icmp_ge (tgt := 113) hx hb dX9_simulate_53 (by decide) (fun c53 => ?_) (fun c53 => ?_)
          · replace h := if_t h c53
            refine lv_sipush (v := 1000) hx hb dX9_simulate_113 (by decide) ?_
            refine lv_iload hx hb dX9_simulate_116 (lv_at hl 1 rfl) ?_
            refine lv_imul hx hb dX9_simulate_118 ?_
            refine lv_aload_n hx hb dX9_simulate_119 rfl (lv_at hl 3 rfl) ?_
            obtain ⟨v120, e120, h⟩ := bnd h
            refine cV (av := []) (rest := [.int (1000 * l6_50)]) (st1 := [.int v120, .int (1000 * l6_50)]) (k1 := 0) (k2 := 0) (ci := 4) (q0 := 0) hx hb hml hown htg hN hK (c_X9_area l dC dI cy a0 m0_50  v120 e120) (g_V gw1004 gw1006 gw23 gw63 gw1007) hdV_X9_area rfl ⟨⟨Nat.le_of_ble_eq_true rfl, Nat.le_of_ble_eq_true rfl⟩, Nat.le_of_ble_eq_true rfl, Nat.le_of_ble_eq_true rfl⟩ hP hD hS hA ⟨rfl, rfl⟩ rfl [0, 1, 2, 3, 4, 5, 6, 7, 8, 9, 10, 11, 12, 13, 14] [] rfl rfl rfl (by decide) (by decide) hl.1 rfl (Nat.le_of_ble_eq_true rfl) rfl rfl rfl dX9_simulate_120 (fun H locs hP hD hS => ?_)
            have hP : va_P (dC, dI) vwCl (wMod a0 cy m0_50) H := hP
            have hD : va_D A (wMod a0 cy m0_50) := hD
            refine lv_iadd hx hb dX9_simulate_123 ?_
            refine lv_istore (lv' := [(7, .int ((1000 * l6_50) + v120)), (6, .int l6_50), (4, .long l4_50), (0, .ref (a0 0)), (3, .int l3_50)]) hx hb dX9_simulate_124 hl (by decide) rfl (fun ls hl => ?_)
            refine lv_aload_n hx hb dX9_simulate_126 rfl (lv_at hl 3 rfl) ?_
            refine va_get (D := (dC, dI)) (ci := 4) (v := .ref (a0 3)) (C := RX9) (T := TX9) (N := 18) hx hb htg inX9 hown hK hP 0 rfl rfl 3 (by decide) (htg _ gw853) (fun _ h9 => h9) rfl dX9_simulate_127 ?_
            refine lv_iconst (v := 0) hx hb dX9_simulate_130 (by decide) ?_
            refine lv_aload_n hx hb dX9_simulate_131 rfl (lv_at hl 3 rfl) ?_
            refine va_get (D := (dC, dI)) (ci := 4) (v := .ref (a0 1)) (C := RX9) (T := TX9) (N := 18) hx hb htg inX9 hown hK hP 0 rfl rfl 1 (by decide) (htg _ gw851) (fun _ h9 => h9) rfl dX9_simulate_132 ?_
            refine lv_iconst (v := 0) hx hb dX9_simulate_135 (by decide) ?_
            obtain ⟨v136, e136, h⟩ := bnd h
            refine cS (av := [.ref (a0 3), .int 0, .ref (a0 1), .int 0]) (rest := []) (st1 := []) (k1 := 0) (k2 := 0) hx hb hml hown htg hN hK (c_X9_copy l dC dI cy (a0 3) (a0 1) 85 85 (m_scriptKept m0_50) (m_state m0_50) 0 0 v136 e136) (g_S gw924 gw925 gw63 gw926) hdS_X9_copy rfl ⟨⟨Nat.le_of_ble_eq_true rfl, Nat.le_of_ble_eq_true rfl⟩, Nat.le_of_ble_eq_true rfl, Nat.le_of_ble_eq_true rfl⟩ hP hD hS hA [3, 1] [0, 2, 4, 5, 6, 7, 8, 9, 10, 11, 12, 13, 14] rfl rfl rfl (by decide) (by decide) hl.1 rfl (Nat.le_of_ble_eq_true rfl) rfl rfl rfl dX9_simulate_136 (fun H locs hP hD hS => ?_)
            obtain ⟨hP, hD⟩ := x_perm (ws' := wMod a0 cy (ms_state m0_50 v136)) hP hD [0, 14, 1, 13, 2, 3, 4, 5, 6, 7, 8, 9, 10, 11, 12] (by decide) rfl rfl
            refine lv_iload hx hb dX9_simulate_139 (lv_at hl 0 rfl) ?_
            obtain rfl := Option.some.inj h
            exact hE H locs 141 ls _ hP hD hS rfl dX9_simulate_141
          replace h := if_f h c53
          refine lv_lload hx hb dX9_simulate_56 (lv_at hl 2 rfl) ?_
          refine lv_ldc2 (v := 6364136223846793005) hx hb hown (htg _ gw1243) dX9_simulate_58 ?_
          refine lv_lmul hx hb dX9_simulate_61 ?_
          refine lv_ldc2 (v := 1442695040888963407) hx hb hown (htg _ gw1244) dX9_simulate_62 ?_
          refine lv_ladd hx hb dX9_simulate_65 ?_
          refine lv_lstore (lv' := [(4, .long ((l4_50 * 6364136223846793005) + 1442695040888963407)), (7, .int l7_50), (6, .int l6_50), (0, .ref (a0 0)), (3, .int l3_50)]) hx hb dX9_simulate_66 hl (by decide) rfl (fun ls hl => ?_)
          refine lv_lload hx hb dX9_simulate_68 (lv_at hl 0 rfl) ?_
          refine lv_bipush (v := 33) hx hb dX9_simulate_70 (by decide) ?_
          refine lv_lushr hx hb dX9_simulate_72 rfl ?_
          refine lv_l2i hx hb dX9_simulate_73 rfl ?_
          refine lv_istore (lv' := [(8, .int (((((l4_50 * 6364136223846793005) + 1442695040888963407).toUInt64 >>> ((33 : Int32).toInt64.toUInt64 &&& Int64.toUInt64 63)).toInt64).toInt32)), (4, .long ((l4_50 * 6364136223846793005) + 1442695040888963407)), (7, .int l7_50), (6, .int l6_50), (0, .ref (a0 0)), (3, .int l3_50)]) hx hb dX9_simulate_74 hl (by decide) rfl (fun ls hl => ?_)
          refine lv_iload hx hb dX9_simulate_76 (lv_at hl 3 rfl) ?_
          refine lv_aload_n hx hb dX9_simulate_78 rfl (lv_at hl 4 rfl) ?_
          refine lv_iload hx hb dX9_simulate_79 (lv_at hl 0 rfl) ?_
          refine lv_iconst (v := 4) hx hb dX9_simulate_81 (by decide) ?_
          refine lv_idiv hx hb dX9_simulate_82 (by decide) ?_
          refine lv_aload_n hx hb dX9_simulate_83 rfl (lv_at hl 4 rfl) ?_
          refine lv_iconst (v := 0) hx hb dX9_simulate_84 (by decide) ?_
          obtain ⟨v85, e85, h⟩ := bnd h
          refine cV (av := [.int 0]) (rest := [.int ((((((l4_50 * 6364136223846793005) + 1442695040888963407).toUInt64 >>> ((33 : Int32).toInt64.toUInt64 &&& Int64.toUInt64 63)).toInt64).toInt32) / 4), .ref (a0 0), .int l6_50]) (st1 := [.int v85, .int ((((((l4_50 * 6364136223846793005) + 1442695040888963407).toUInt64 >>> ((33 : Int32).toInt64.toUInt64 &&& Int64.toUInt64 63)).toInt64).toInt32) / 4), .ref (a0 0), .int l6_50]) (k1 := 0) (k2 := 0) (ci := 4) (q0 := 0) hx hb hml hown htg hN hK (c_X9_many l dC dI cy a0 m0_50 0 v85 e85) (g_V gw935 gw937 gw10 gw63 gw938) hdV_X9_many rfl ⟨⟨Nat.le_of_ble_eq_true rfl, Nat.le_of_ble_eq_true rfl⟩, Nat.le_of_ble_eq_true rfl, Nat.le_of_ble_eq_true rfl⟩ hP hD hS hA ⟨rfl, rfl⟩ rfl [0, 1, 2, 3, 4, 5, 6, 7, 8, 9, 10, 11, 12, 13, 14] [] rfl rfl rfl (by decide) (by decide) hl.1 rfl (Nat.le_of_ble_eq_true rfl) rfl rfl rfl dX9_simulate_85 (fun H locs hP hD hS => ?_)
          have hP : va_P (dC, dI) vwCl (wMod a0 cy m0_50) H := hP
          have hD : va_D A (wMod a0 cy m0_50) := hD
          obtain ⟨v88, e88, h⟩ := bnd h
          refine x_irem hx hb e88 dX9_simulate_88 ?_
          refine lv_iload hx hb dX9_simulate_89 (lv_at hl 0 rfl) ?_
          refine lv_iconst (v := 4) hx hb dX9_simulate_91 (by decide) ?_
          refine lv_irem hx hb dX9_simulate_92 (by decide) ?_
          obtain ⟨v93, e93, h⟩ := bnd h
          refine cV (av := [.int v88, .int ((((((l4_50 * 6364136223846793005) + 1442695040888963407).toUInt64 >>> ((33 : Int32).toInt64.toUInt64 &&& Int64.toUInt64 63)).toInt64).toInt32) - (((((l4_50 * 6364136223846793005) + 1442695040888963407).toUInt64 >>> ((33 : Int32).toInt64.toUInt64 &&& Int64.toUInt64 63)).toInt64).toInt32) / 4 * 4)]) (rest := [.int l6_50]) (st1 := [.int v93.1, .int l6_50]) (k1 := 0) (k2 := 0) (ci := 4) (q0 := 0) hx hb hml hown htg hN hK (c_X9_isStepped l dC dI cy a0 m0_50 v88 ((((((l4_50 * 6364136223846793005) + 1442695040888963407).toUInt64 >>> ((33 : Int32).toInt64.toUInt64 &&& Int64.toUInt64 63)).toInt64).toInt32) - (((((l4_50 * 6364136223846793005) + 1442695040888963407).toUInt64 >>> ((33 : Int32).toInt64.toUInt64 &&& Int64.toUInt64 63)).toInt64).toInt32) / 4 * 4) v93 e93) (g_V gw1205 gw1207 gw55 gw63 gw1208) hdV_X9_isStepped rfl ⟨⟨Nat.le_of_ble_eq_true rfl, Nat.le_of_ble_eq_true rfl⟩, Nat.le_of_ble_eq_true rfl, Nat.le_of_ble_eq_true rfl⟩ hP hD hS hA ⟨rfl, rfl⟩ rfl [0, 1, 2, 3, 4, 5, 6, 7, 8, 9, 10, 11, 12, 13, 14] [] rfl rfl rfl (by decide) (by decide) hl.1 rfl (Nat.le_of_ble_eq_true rfl) rfl rfl rfl dX9_simulate_93 (fun H locs hP hD hS => ?_)
          have hP : va_P (dC, dI) vwCl (wMod a0 cy v93.2) H := hP
          have hD : va_D A (wMod a0 cy v93.2) := hD
          obtain ⟨b96, e96, h⟩ := bnd h
          have hr104 : ∀ (H : Heap) (locs : List Loc) (ls : Array Slot), va_P (dC, dI) vwCl (wMod a0 cy v93.2) H → va_D A (wMod a0 cy v93.2) → va_S A s.heap H locs → lv_has ls 9 [(8, .int (((((l4_50 * 6364136223846793005) + 1442695040888963407).toUInt64 >>> ((33 : Int32).toInt64.toUInt64 &&& Int64.toUInt64 63)).toInt64).toInt32)), (4, .long ((l4_50 * 6364136223846793005) + 1442695040888963407)), (7, .int l7_50), (6, .int l6_50), (0, .ref (a0 0)), (3, .int l3_50)] → W p l e rm_X9_simulate s mm args below meth cd H locs 0 0 Q (F0 mm 104 ls [.int b96, .int l6_50]) := by
            intro H locs ls hP hD hS hl
            refine lv_iadd hx hb dX9_simulate_104 ?_
            refine lv_istore (lv' := [(6, .int (l6_50 + b96)), (8, .int (((((l4_50 * 6364136223846793005) + 1442695040888963407).toUInt64 >>> ((33 : Int32).toInt64.toUInt64 &&& Int64.toUInt64 63)).toInt64).toInt32)), (4, .long ((l4_50 * 6364136223846793005) + 1442695040888963407)), (7, .int l7_50), (0, .ref (a0 0)), (3, .int l3_50)]) hx hb dX9_simulate_105 hl (by decide) rfl (fun ls hl => ?_)
            refine lv_iinc (v := l7_50 + 1) (lv' := [(7, .int (l7_50 + 1)), (6, .int (l6_50 + b96)), (8, .int (((((l4_50 * 6364136223846793005) + 1442695040888963407).toUInt64 >>> ((33 : Int32).toInt64.toUInt64 &&& Int64.toUInt64 63)).toInt64).toInt32)), (4, .long ((l4_50 * 6364136223846793005) + 1442695040888963407)), (0, .ref (a0 0)), (3, .int l3_50)]) hx hb dX9_simulate_107 hl (k := 3) rfl rfl (by decide) rfl (fun ls hl => ?_)
            refine lv_goto (tgt := 50) hx hb dX9_simulate_110 (by decide) ?_
            exact ih50 v93.2 (l7_50 + 1) (l6_50 + b96) ((l4_50 * 6364136223846793005) + 1442695040888963407) l3_50 H locs ls h hP hD hS (lv_sub hl [0, 1, 3, 4, 5] rfl)
          have h := e96
          clear e96
          refine lv_if_eq (tgt := 103) hx hb dX9_simulate_96 (by decide) (fun c96 => ?_) (fun c96 => ?_)
          · replace h := if_t h c96
            refine lv_iconst (v := 0) hx hb dX9_simulate_103 (by decide) ?_
            obtain rfl := Option.some.inj h
            exact hr104 H locs ls hP hD hS hl
          replace h := if_f h c96
          refine lv_iconst (v := 1) hx hb dX9_simulate_99 (by decide) ?_
          refine lv_goto (tgt := 104) hx hb dX9_simulate_100 (by decide) ?_
          obtain rfl := Option.some.inj h
          exact hr104 H locs ls hP hD hS hl
      exact hL50 FU (ms_scriptKept z0_38 v38) 0 0 p1 p3 H locs ls h hP hD hS (lv_sub hl [0, 1, 2, 3, 5] rfl)
    replace h := if_f h c23
    refine lv_iconst (v := 0) hx hb dX9_simulate_26 (by decide) ?_
    obtain rfl := Option.some.inj h
    exact hE H locs 27 ls _ hP hD hS rfl dX9_simulate_27
  have h := e8
  clear e8
  refine lv_if_eq (tgt := 15) hx hb dX9_simulate_8 (by decide) (fun c8 => ?_) (fun c8 => ?_)
  · replace h := if_t h c8
    refine lv_iconst (v := 1) hx hb dX9_simulate_15 (by decide) ?_
    obtain rfl := Option.some.inj h
    exact hr16 H locs ls hP hD hS hl
  replace h := if_f h c8
  refine lv_iconst (v := 0) hx hb dX9_simulate_11 (by decide) ?_
  refine lv_goto (tgt := 16) hx hb dX9_simulate_12 (by decide) ?_
  obtain rfl := Option.some.inj h
  exact hr16 H locs ls hP hD hS hl
def G_X9_thrown (m0 : Mod) : Option (Int32) :=
  some (m_thrown m0)
abbrev rm_X9_thrown : Room := { frames := 0, cells := 0, slots := 0, locals := 0 }
theorem hdS_X9_thrown : yX9_thrown.cls ≠ "java/lang/invoke/MethodHandle" ∧ yX9_thrown.cls ≠ "java/lang/invoke/VarHandle" ∧ (parseMethodDescriptor yX9_thrown.desc).map (fun d => d.parameters.length) = some 0 := by decide +kernel
theorem hdV_X9_thrown : yX9_thrown.cls = RX9 ∧ yX9_thrown.cls ≠ "java/lang/invoke/MethodHandle" ∧ yX9_thrown.cls ≠ "java/lang/invoke/VarHandle" ∧ (parseMethodDescriptor yX9_thrown.desc).map (fun d => d.parameters.length) = some 0 := ⟨rfl, hdS_X9_thrown⟩
set_option maxHeartbeats 4000000 in
set_option maxRecDepth 100000 in
theorem c_X9_thrown (l : Launch) (dC : Nat → ClassId) (dI : Nat → Nat → Nat) (cy : Nat → ClassId) (a0 : Nat → Nat) (m0 : Mod) (res : Int32) (h : G_X9_thrown m0 = some res) : CT l (dC, dI) (TY cy) yX9_thrown cX9_thrown 1 (some .int) rm_X9_thrown [.ref (a0 0)] (wMod a0 cy m0) (wMod a0 cy m0) (some (.int res)) := by
  refine CT.mk_i (own := RX9) ⟨by decide, rfl⟩ (Nat.le_of_ble_eq_true rfl) ?_
  intro p e s mm args below meth cd A Q hx hb hml hown htg hN hK hA hP hD hS hE ls hl
  have hl : lv_has ls 1 [(0, .ref (a0 0))] := hl
  replace h : _ = some res := h
  unfold G_X9_thrown at h
  obtain ⟨H, hH⟩ : ∃ H, H = s.heap := ⟨_, rfl⟩
  obtain ⟨locs, hlocs⟩ : ∃ locs : List Loc, locs = [] := ⟨_, rfl⟩
  rw [← hlocs] at hS ⊢
  have hS : va_S A s.heap H locs := by rw [hH]; exact hS
  rw [← hH] at hP ⊢
  refine lv_aload_n hx hb dX9_thrown_0 rfl (lv_at hl 0 rfl) ?_
  refine va_get (D := (dC, dI)) (ci := 4) (v := .int (m_thrown m0)) (C := RX9) (T := TX9) (N := 18) hx hb htg inX9 hown hK hP 0 rfl rfl 0 (by decide) (htg _ gw850) (fun _ h9 => h9) rfl dX9_thrown_1 ?_
  obtain rfl := Option.some.inj h
  exact hE H locs 4 ls _ hP hD hS rfl dX9_thrown_4
def G_X9_turn (m0 : Mod) : Option (Int32 × Mod) :=
  (G_X9_turned (ms_thrown m0 0) 0).bind fun v7 =>
  (G_X9_remember v7).bind fun v11 =>
  (G_X9_greatestX v11).bind fun v15 =>
  some (v15, v11)
abbrev rm_X9_turn : Room := { frames := 3, cells := 0, slots := 0, locals := 69 }
theorem hdS_X9_turn : yX9_turn.cls ≠ "java/lang/invoke/MethodHandle" ∧ yX9_turn.cls ≠ "java/lang/invoke/VarHandle" ∧ (parseMethodDescriptor yX9_turn.desc).map (fun d => d.parameters.length) = some 0 := by decide +kernel
theorem hdV_X9_turn : yX9_turn.cls = RX9 ∧ yX9_turn.cls ≠ "java/lang/invoke/MethodHandle" ∧ yX9_turn.cls ≠ "java/lang/invoke/VarHandle" ∧ (parseMethodDescriptor yX9_turn.desc).map (fun d => d.parameters.length) = some 0 := ⟨rfl, hdS_X9_turn⟩
set_option maxHeartbeats 4000000 in
set_option maxRecDepth 100000 in
theorem c_X9_turn (l : Launch) (dC : Nat → ClassId) (dI : Nat → Nat → Nat) (cy : Nat → ClassId) (a0 : Nat → Nat) (m0 : Mod) (res : Int32 × Mod) (h : G_X9_turn m0 = some res) : CT l (dC, dI) (TY cy) yX9_turn cX9_turn 1 (some .int) rm_X9_turn [.ref (a0 0)] (wMod a0 cy m0) (wMod a0 cy res.2) (some (.int res.1)) := by
  refine CT.mk_i (own := RX9) ⟨by decide, rfl⟩ (Nat.le_of_ble_eq_true rfl) ?_
  intro p e s mm args below meth cd A Q hx hb hml hown htg hN hK hA hP hD hS hE ls hl
  have hl : lv_has ls 1 [(0, .ref (a0 0))] := hl
  replace h : _ = some res := h
  unfold G_X9_turn at h
  obtain ⟨H, hH⟩ : ∃ H, H = s.heap := ⟨_, rfl⟩
  obtain ⟨locs, hlocs⟩ : ∃ locs : List Loc, locs = [] := ⟨_, rfl⟩
  rw [← hlocs] at hS ⊢
  have hS : va_S A s.heap H locs := by rw [hH]; exact hS
  rw [← hH] at hP ⊢
  refine lv_aload_n hx hb dX9_turn_0 rfl (lv_at hl 0 rfl) ?_
  refine lv_iconst (v := 0) hx hb dX9_turn_1 (by decide) ?_
  refine va_put (D := (dC, dI)) (ci := 4) (v := .int 0) (ty := .int) (C := RX9) (T := TX9) (N := 18) hx hb htg inX9 tyX9 tyX9_ok nmX9 hown hK hP hD hS 0 rfl rfl 0 (by decide) (htg _ gw850) (fun _ h9 => h9) rfl (by decide +kernel) rfl rfl (Nat.le_of_ble_eq_true rfl) dX9_turn_2 (fun H locs hP hD hS => ?_)
  have hP : va_P (dC, dI) vwCl (wMod a0 cy (ms_thrown m0 0)) H := hP
  have hD : va_D A (wMod a0 cy (ms_thrown m0 0)) := hD
  refine lv_aload_n hx hb dX9_turn_5 rfl (lv_at hl 0 rfl) ?_
  refine lv_iconst (v := 0) hx hb dX9_turn_6 (by decide) ?_
  obtain ⟨v7, e7, h⟩ := bnd h
  refine cV (av := [.int 0]) (rest := []) (st1 := []) (k1 := 0) (k2 := 0) (ci := 4) (q0 := 0) hx hb hml hown htg hN hK (c_X9_turned l dC dI cy a0 (ms_thrown m0 0) 0 v7 e7) (g_V gw1181 gw1183 gw54 gw63 gw1184) hdV_X9_turned rfl ⟨⟨Nat.le_of_ble_eq_true rfl, Nat.le_of_ble_eq_true rfl⟩, Nat.le_of_ble_eq_true rfl, Nat.le_of_ble_eq_true rfl⟩ hP hD hS hA ⟨rfl, rfl⟩ rfl [0, 1, 2, 3, 4, 5, 6, 7, 8, 9, 10, 11, 12, 13, 14] [] rfl rfl rfl (by decide) (by decide) hl.1 rfl (Nat.le_of_ble_eq_true rfl) rfl rfl rfl dX9_turn_7 (fun H locs hP hD hS => ?_)
  have hP : va_P (dC, dI) vwCl (wMod a0 cy v7) H := hP
  have hD : va_D A (wMod a0 cy v7) := hD
  refine lv_aload_n hx hb dX9_turn_10 rfl (lv_at hl 0 rfl) ?_
  obtain ⟨v11, e11, h⟩ := bnd h
  refine cV (av := []) (rest := []) (st1 := []) (k1 := 0) (k2 := 0) (ci := 4) (q0 := 0) hx hb hml hown htg hN hK (c_X9_remember l dC dI cy a0 v7  v11 e11) (g_V gw1133 gw1135 gw48 gw63 gw1136) hdV_X9_remember rfl ⟨⟨Nat.le_of_ble_eq_true rfl, Nat.le_of_ble_eq_true rfl⟩, Nat.le_of_ble_eq_true rfl, Nat.le_of_ble_eq_true rfl⟩ hP hD hS hA ⟨rfl, rfl⟩ rfl [0, 1, 2, 3, 4, 5, 6, 7, 8, 9, 10, 11, 12, 13, 14] [] rfl rfl rfl (by decide) (by decide) hl.1 rfl (Nat.le_of_ble_eq_true rfl) rfl rfl rfl dX9_turn_11 (fun H locs hP hD hS => ?_)
  have hP : va_P (dC, dI) vwCl (wMod a0 cy v11) H := hP
  have hD : va_D A (wMod a0 cy v11) := hD
  refine lv_aload_n hx hb dX9_turn_14 rfl (lv_at hl 0 rfl) ?_
  obtain ⟨v15, e15, h⟩ := bnd h
  refine cV (av := []) (rest := []) (st1 := [.int v15]) (k1 := 0) (k2 := 0) (ci := 4) (q0 := 0) hx hb hml hown htg hN hK (c_X9_greatestX l dC dI cy a0 v11  v15 e15) (g_V gw1173 gw1175 gw53 gw63 gw1176) hdV_X9_greatestX rfl ⟨⟨Nat.le_of_ble_eq_true rfl, Nat.le_of_ble_eq_true rfl⟩, Nat.le_of_ble_eq_true rfl, Nat.le_of_ble_eq_true rfl⟩ hP hD hS hA ⟨rfl, rfl⟩ rfl [0, 1, 2, 3, 4, 5, 6, 7, 8, 9, 10, 11, 12, 13, 14] [] rfl rfl rfl (by decide) (by decide) hl.1 rfl (Nat.le_of_ble_eq_true rfl) rfl rfl rfl dX9_turn_15 (fun H locs hP hD hS => ?_)
  have hP : va_P (dC, dI) vwCl (wMod a0 cy v11) H := hP
  have hD : va_D A (wMod a0 cy v11) := hD
  obtain rfl := Option.some.inj h
  exact hE H locs 18 ls _ hP hD hS rfl dX9_turn_18
def G_X9_undo (m0 : Mod) : Option (Int32 × Mod) :=
  ((if m_remembered m0 ≤ 0 then
      some 1
    else
      some 0) : Option (Int32)).bind fun b5 =>
  if m_thrown (ms_thrown m0 b5) ≤ 0 then
    (some (ms_thrown m0 b5)).bind fun z0_32 =>
    (some (ms_remembered z0_32 ((m_remembered (ms_thrown m0 b5)) - 1))).bind fun z0_51 =>
    (G_X9_copy 1190 85 (m_history (z0_51)) (m_state (z0_51)) ((m_remembered (ms_remembered z0_32 ((m_remembered (ms_thrown m0 b5)) - 1))) * 85) 0).bind fun v51 =>
    some (m_remembered (ms_state z0_51 v51), ms_state z0_51 v51)
  else
    some (0, ms_thrown m0 b5)
abbrev rm_X9_undo : Room := { frames := 1, cells := 0, slots := 0, locals := 24 }
theorem hdS_X9_undo : yX9_undo.cls ≠ "java/lang/invoke/MethodHandle" ∧ yX9_undo.cls ≠ "java/lang/invoke/VarHandle" ∧ (parseMethodDescriptor yX9_undo.desc).map (fun d => d.parameters.length) = some 0 := by decide +kernel
theorem hdV_X9_undo : yX9_undo.cls = RX9 ∧ yX9_undo.cls ≠ "java/lang/invoke/MethodHandle" ∧ yX9_undo.cls ≠ "java/lang/invoke/VarHandle" ∧ (parseMethodDescriptor yX9_undo.desc).map (fun d => d.parameters.length) = some 0 := ⟨rfl, hdS_X9_undo⟩
set_option maxHeartbeats 4000000 in
set_option maxRecDepth 100000 in
theorem c_X9_undo (l : Launch) (dC : Nat → ClassId) (dI : Nat → Nat → Nat) (cy : Nat → ClassId) (a0 : Nat → Nat) (m0 : Mod) (res : Int32 × Mod) (h : G_X9_undo m0 = some res) : CT l (dC, dI) (TY cy) yX9_undo cX9_undo 1 (some .int) rm_X9_undo [.ref (a0 0)] (wMod a0 cy m0) (wMod a0 cy res.2) (some (.int res.1)) := by
  refine CT.mk_i (own := RX9) ⟨by decide, rfl⟩ (Nat.le_of_ble_eq_true rfl) ?_
  intro p e s mm args below meth cd A Q hx hb hml hown htg hN hK hA hP hD hS hE ls hl
  have hl : lv_has ls 1 [(0, .ref (a0 0))] := hl
  replace h : _ = some res := h
  unfold G_X9_undo at h
  obtain ⟨H, hH⟩ : ∃ H, H = s.heap := ⟨_, rfl⟩
  obtain ⟨locs, hlocs⟩ : ∃ locs : List Loc, locs = [] := ⟨_, rfl⟩
  rw [← hlocs] at hS ⊢
  have hS : va_S A s.heap H locs := by rw [hH]; exact hS
  rw [← hH] at hP ⊢
  refine lv_aload_n hx hb dX9_undo_0 rfl (lv_at hl 0 rfl) ?_
  refine lv_aload_n hx hb dX9_undo_1 rfl (lv_at hl 0 rfl) ?_
  refine va_get (D := (dC, dI)) (ci := 4) (v := .int (m_remembered m0)) (C := RX9) (T := TX9) (N := 18) hx hb htg inX9 hown hK hP 0 rfl rfl 5 (by decide) (htg _ gw855) (fun _ h9 => h9) rfl dX9_undo_2 ?_
  obtain ⟨b5, e5, h⟩ := bnd h
  have hr13 : ∀ (H : Heap) (locs : List Loc) (ls : Array Slot), va_P (dC, dI) vwCl (wMod a0 cy m0) H → va_D A (wMod a0 cy m0) → va_S A s.heap H locs → lv_has ls 1 [(0, .ref (a0 0))] → W p l e rm_X9_undo s mm args below meth cd H locs 0 0 Q (F0 mm 13 ls [.int b5, .ref (a0 0)]) := by
    intro H locs ls hP hD hS hl
    refine va_put (D := (dC, dI)) (ci := 4) (v := .int b5) (ty := .int) (C := RX9) (T := TX9) (N := 18) hx hb htg inX9 tyX9 tyX9_ok nmX9 hown hK hP hD hS 0 rfl rfl 0 (by decide) (htg _ gw850) (fun _ h9 => h9) rfl (by decide +kernel) rfl rfl (Nat.le_of_ble_eq_true rfl) dX9_undo_13 (fun H locs hP hD hS => ?_)
    have hP : va_P (dC, dI) vwCl (wMod a0 cy (ms_thrown m0 b5)) H := hP
    have hD : va_D A (wMod a0 cy (ms_thrown m0 b5)) := hD
    refine lv_aload_n hx hb dX9_undo_16 rfl (lv_at hl 0 rfl) ?_
    refine va_get (D := (dC, dI)) (ci := 4) (v := .int (m_thrown (ms_thrown m0 b5))) (C := RX9) (T := TX9) (N := 18) hx hb htg inX9 hown hK hP 0 rfl rfl 0 (by decide) (htg _ gw850) (fun _ h9 => h9) rfl dX9_undo_17 ?_
    refine lv_if_le (tgt := 25) hx hb dX9_undo_20 (by decide) (fun c20 => ?_) (fun c20 => ?_)
    · replace h := if_t h c20
      refine lv_aload_n hx hb dX9_undo_25 rfl (lv_at hl 0 rfl) ?_
      refine lv_dup hx hb dX9_undo_26 rfl ?_
      refine va_get (D := (dC, dI)) (ci := 4) (v := .int (m_remembered (ms_thrown m0 b5))) (C := RX9) (T := TX9) (N := 18) hx hb htg inX9 hown hK hP 0 rfl rfl 5 (by decide) (htg _ gw855) (fun _ h9 => h9) rfl dX9_undo_27 ?_
      refine lv_iconst (v := 1) hx hb dX9_undo_30 (by decide) ?_
      refine lv_isub hx hb dX9_undo_31 ?_
      obtain ⟨z0_32, ez0_32, h⟩ := bnd h
      replace ez0_32 := Option.some.inj ez0_32
      rw [ez0_32] at hP hD
      refine va_put (D := (dC, dI)) (ci := 4) (v := .int ((m_remembered (ms_thrown m0 b5)) - 1)) (ty := .int) (C := RX9) (T := TX9) (N := 18) hx hb htg inX9 tyX9 tyX9_ok nmX9 hown hK hP hD hS 0 rfl rfl 5 (by decide) (htg _ gw855) (fun _ h9 => h9) rfl (by decide +kernel) rfl rfl (Nat.le_of_ble_eq_true rfl) dX9_undo_32 (fun H locs hP hD hS => ?_)
      have hP : va_P (dC, dI) vwCl (wMod a0 cy (ms_remembered z0_32 ((m_remembered (ms_thrown m0 b5)) - 1))) H := hP
      have hD : va_D A (wMod a0 cy (ms_remembered z0_32 ((m_remembered (ms_thrown m0 b5)) - 1))) := hD
      refine lv_aload_n hx hb dX9_undo_35 rfl (lv_at hl 0 rfl) ?_
      refine va_get (D := (dC, dI)) (ci := 4) (v := .ref (a0 4)) (C := RX9) (T := TX9) (N := 18) hx hb htg inX9 hown hK hP 0 rfl rfl 4 (by decide) (htg _ gw854) (fun _ h9 => h9) rfl dX9_undo_36 ?_
      refine lv_aload_n hx hb dX9_undo_39 rfl (lv_at hl 0 rfl) ?_
      refine va_get (D := (dC, dI)) (ci := 4) (v := .int (m_remembered (ms_remembered z0_32 ((m_remembered (ms_thrown m0 b5)) - 1)))) (C := RX9) (T := TX9) (N := 18) hx hb htg inX9 hown hK hP 0 rfl rfl 5 (by decide) (htg _ gw855) (fun _ h9 => h9) rfl dX9_undo_40 ?_
      refine lv_bipush (v := 85) hx hb dX9_undo_43 (by decide) ?_
      refine lv_imul hx hb dX9_undo_45 ?_
      refine lv_aload_n hx hb dX9_undo_46 rfl (lv_at hl 0 rfl) ?_
      refine va_get (D := (dC, dI)) (ci := 4) (v := .ref (a0 1)) (C := RX9) (T := TX9) (N := 18) hx hb htg inX9 hown hK hP 0 rfl rfl 1 (by decide) (htg _ gw851) (fun _ h9 => h9) rfl dX9_undo_47 ?_
      refine lv_iconst (v := 0) hx hb dX9_undo_50 (by decide) ?_
      obtain ⟨z0_51, ez0_51, h⟩ := bnd h
      replace ez0_51 := Option.some.inj ez0_51
      rw [ez0_51] at hP hD
      obtain ⟨v51, e51, h⟩ := bnd h
      refine cS (av := [.ref (a0 4), .int ((m_remembered (ms_remembered z0_32 ((m_remembered (ms_thrown m0 b5)) - 1))) * 85), .ref (a0 1), .int 0]) (rest := []) (st1 := []) (k1 := 0) (k2 := 0) hx hb hml hown htg hN hK (c_X9_copy l dC dI cy (a0 4) (a0 1) 1190 85 (m_history (z0_51)) (m_state (z0_51)) ((m_remembered (ms_remembered z0_32 ((m_remembered (ms_thrown m0 b5)) - 1))) * 85) 0 v51 e51) (g_S gw924 gw925 gw63 gw926) hdS_X9_copy rfl ⟨⟨Nat.le_of_ble_eq_true rfl, Nat.le_of_ble_eq_true rfl⟩, Nat.le_of_ble_eq_true rfl, Nat.le_of_ble_eq_true rfl⟩ hP hD hS hA [4, 1] [0, 2, 3, 5, 6, 7, 8, 9, 10, 11, 12, 13, 14] rfl rfl rfl (by decide) (by decide) hl.1 rfl (Nat.le_of_ble_eq_true rfl) rfl rfl rfl dX9_undo_51 (fun H locs hP hD hS => ?_)
      obtain ⟨hP, hD⟩ := x_perm (ws' := wMod a0 cy (ms_state z0_51 v51)) hP hD [0, 14, 1, 2, 13, 3, 4, 5, 6, 7, 8, 9, 10, 11, 12] (by decide) rfl rfl
      refine lv_aload_n hx hb dX9_undo_54 rfl (lv_at hl 0 rfl) ?_
      refine va_get (D := (dC, dI)) (ci := 4) (v := .int (m_remembered (ms_state z0_51 v51))) (C := RX9) (T := TX9) (N := 18) hx hb htg inX9 hown hK hP 0 rfl rfl 5 (by decide) (htg _ gw855) (fun _ h9 => h9) rfl dX9_undo_55 ?_
      obtain rfl := Option.some.inj h
      exact hE H locs 58 ls _ hP hD hS rfl dX9_undo_58
    replace h := if_f h c20
    refine lv_iconst (v := 0) hx hb dX9_undo_23 (by decide) ?_
    obtain rfl := Option.some.inj h
    exact hE H locs 24 ls _ hP hD hS rfl dX9_undo_24
  have h := e5
  clear e5
  refine lv_if_le (tgt := 12) hx hb dX9_undo_5 (by decide) (fun c5 => ?_) (fun c5 => ?_)
  · replace h := if_t h c5
    refine lv_iconst (v := 1) hx hb dX9_undo_12 (by decide) ?_
    obtain rfl := Option.some.inj h
    exact hr13 H locs ls hP hD hS hl
  replace h := if_f h c5
  refine lv_iconst (v := 0) hx hb dX9_undo_8 (by decide) ?_
  refine lv_goto (tgt := 13) hx hb dX9_undo_9 (by decide) ?_
  obtain rfl := Option.some.inj h
  exact hr13 H locs ls hP hD hS hl
def G_X9_whyNot (m0 : Mod) (p1 : Int32) (p2 : Int32) (p3 : Int32) (p4 : Int32) : Option (Int32 × Mod) :=
  (G_X9_isCorner m0 p1 p2).bind fun v4 =>
  ((if v4 = 0 then
      some 1
    else
      some 0) : Option (Int32)).bind fun b7 =>
  if m_thrown (ms_thrown m0 b7) ≤ 0 then
    (G_X9_begin (ms_thrown m0 b7)).bind fun v28 =>
    (G_X9_setCorner v28 p1 p2 p3 p4).bind fun v37 =>
    (G_X9_broken v37).bind fun v41 =>
    (G_X9_copy 85 85 (m_kept v41.2) (m_state v41.2) 0 0).bind fun v56 =>
    some (v41.1, ms_state v41.2 v56)
  else
    some (0, ms_thrown m0 b7)
abbrev rm_X9_whyNot : Room := { frames := 5, cells := 0, slots := 0, locals := 125 }
theorem hdS_X9_whyNot : yX9_whyNot.cls ≠ "java/lang/invoke/MethodHandle" ∧ yX9_whyNot.cls ≠ "java/lang/invoke/VarHandle" ∧ (parseMethodDescriptor yX9_whyNot.desc).map (fun d => d.parameters.length) = some 4 := by decide +kernel
theorem hdV_X9_whyNot : yX9_whyNot.cls = RX9 ∧ yX9_whyNot.cls ≠ "java/lang/invoke/MethodHandle" ∧ yX9_whyNot.cls ≠ "java/lang/invoke/VarHandle" ∧ (parseMethodDescriptor yX9_whyNot.desc).map (fun d => d.parameters.length) = some 4 := ⟨rfl, hdS_X9_whyNot⟩
set_option maxHeartbeats 4000000 in
set_option maxRecDepth 100000 in
theorem c_X9_whyNot (l : Launch) (dC : Nat → ClassId) (dI : Nat → Nat → Nat) (cy : Nat → ClassId) (a0 : Nat → Nat) (m0 : Mod) (p1 : Int32) (p2 : Int32) (p3 : Int32) (p4 : Int32) (res : Int32 × Mod) (h : G_X9_whyNot m0 p1 p2 p3 p4 = some res) : CT l (dC, dI) (TY cy) yX9_whyNot cX9_whyNot 6 (some .int) rm_X9_whyNot [.ref (a0 0), .int p1, .int p2, .int p3, .int p4] (wMod a0 cy m0) (wMod a0 cy res.2) (some (.int res.1)) := by
  refine CT.mk_i (own := RX9) ⟨by decide, rfl⟩ (Nat.le_of_ble_eq_true rfl) ?_
  intro p e s mm args below meth cd A Q hx hb hml hown htg hN hK hA hP hD hS hE ls hl
  have hl : lv_has ls 6 [(0, .ref (a0 0)), (1, .int p1), (2, .int p2), (3, .int p3), (4, .int p4)] := hl
  replace h : _ = some res := h
  unfold G_X9_whyNot at h
  obtain ⟨H, hH⟩ : ∃ H, H = s.heap := ⟨_, rfl⟩
  obtain ⟨locs, hlocs⟩ : ∃ locs : List Loc, locs = [] := ⟨_, rfl⟩
  rw [← hlocs] at hS ⊢
  have hS : va_S A s.heap H locs := by rw [hH]; exact hS
  rw [← hH] at hP ⊢
  refine lv_aload_n hx hb dX9_whyNot_0 rfl (lv_at hl 0 rfl) ?_
  refine lv_aload_n hx hb dX9_whyNot_1 rfl (lv_at hl 0 rfl) ?_
  refine lv_iload_n hx hb dX9_whyNot_2 rfl (lv_at hl 1 rfl) ?_
  refine lv_iload_n hx hb dX9_whyNot_3 rfl (lv_at hl 2 rfl) ?_
  obtain ⟨v4, e4, h⟩ := bnd h
  refine cV (av := [.int p1, .int p2]) (rest := [.ref (a0 0)]) (st1 := [.int v4, .ref (a0 0)]) (k1 := 0) (k2 := 0) (ci := 4) (q0 := 0) hx hb hml hown htg hN hK (c_X9_isCorner l dC dI cy a0 m0 p1 p2 v4 e4) (g_V gw1102 gw1104 gw44 gw63 gw1105) hdV_X9_isCorner rfl ⟨⟨Nat.le_of_ble_eq_true rfl, Nat.le_of_ble_eq_true rfl⟩, Nat.le_of_ble_eq_true rfl, Nat.le_of_ble_eq_true rfl⟩ hP hD hS hA ⟨rfl, rfl⟩ rfl [0, 1, 2, 3, 4, 5, 6, 7, 8, 9, 10, 11, 12, 13, 14] [] rfl rfl rfl (by decide) (by decide) hl.1 rfl (Nat.le_of_ble_eq_true rfl) rfl rfl rfl dX9_whyNot_4 (fun H locs hP hD hS => ?_)
  have hP : va_P (dC, dI) vwCl (wMod a0 cy m0) H := hP
  have hD : va_D A (wMod a0 cy m0) := hD
  obtain ⟨b7, e7, h⟩ := bnd h
  have hr15 : ∀ (H : Heap) (locs : List Loc) (ls : Array Slot), va_P (dC, dI) vwCl (wMod a0 cy m0) H → va_D A (wMod a0 cy m0) → va_S A s.heap H locs → lv_has ls 6 [(0, .ref (a0 0)), (1, .int p1), (2, .int p2), (3, .int p3), (4, .int p4)] → W p l e rm_X9_whyNot s mm args below meth cd H locs 0 0 Q (F0 mm 15 ls [.int b7, .ref (a0 0)]) := by
    intro H locs ls hP hD hS hl
    refine va_put (D := (dC, dI)) (ci := 4) (v := .int b7) (ty := .int) (C := RX9) (T := TX9) (N := 18) hx hb htg inX9 tyX9 tyX9_ok nmX9 hown hK hP hD hS 0 rfl rfl 0 (by decide) (htg _ gw850) (fun _ h9 => h9) rfl (by decide +kernel) rfl rfl (Nat.le_of_ble_eq_true rfl) dX9_whyNot_15 (fun H locs hP hD hS => ?_)
    have hP : va_P (dC, dI) vwCl (wMod a0 cy (ms_thrown m0 b7)) H := hP
    have hD : va_D A (wMod a0 cy (ms_thrown m0 b7)) := hD
    refine lv_aload_n hx hb dX9_whyNot_18 rfl (lv_at hl 0 rfl) ?_
    refine va_get (D := (dC, dI)) (ci := 4) (v := .int (m_thrown (ms_thrown m0 b7))) (C := RX9) (T := TX9) (N := 18) hx hb htg inX9 hown hK hP 0 rfl rfl 0 (by decide) (htg _ gw850) (fun _ h9 => h9) rfl dX9_whyNot_19 ?_
    refine lv_if_le (tgt := 27) hx hb dX9_whyNot_22 (by decide) (fun c22 => ?_) (fun c22 => ?_)
    · replace h := if_t h c22
      refine lv_aload_n hx hb dX9_whyNot_27 rfl (lv_at hl 0 rfl) ?_
      obtain ⟨v28, e28, h⟩ := bnd h
      refine cV (av := []) (rest := []) (st1 := []) (k1 := 0) (k2 := 0) (ci := 4) (q0 := 0) hx hb hml hown htg hN hK (c_X9_begin l dC dI cy a0 (ms_thrown m0 b7)  v28 e28) (g_V gw1125 gw1127 gw46 gw63 gw1128) hdV_X9_begin rfl ⟨⟨Nat.le_of_ble_eq_true rfl, Nat.le_of_ble_eq_true rfl⟩, Nat.le_of_ble_eq_true rfl, Nat.le_of_ble_eq_true rfl⟩ hP hD hS hA ⟨rfl, rfl⟩ rfl [0, 1, 2, 3, 4, 5, 6, 7, 8, 9, 10, 11, 12, 13, 14] [] rfl rfl rfl (by decide) (by decide) hl.1 rfl (Nat.le_of_ble_eq_true rfl) rfl rfl rfl dX9_whyNot_28 (fun H locs hP hD hS => ?_)
      have hP : va_P (dC, dI) vwCl (wMod a0 cy v28) H := hP
      have hD : va_D A (wMod a0 cy v28) := hD
      refine lv_aload_n hx hb dX9_whyNot_31 rfl (lv_at hl 0 rfl) ?_
      refine lv_iload_n hx hb dX9_whyNot_32 rfl (lv_at hl 1 rfl) ?_
      refine lv_iload_n hx hb dX9_whyNot_33 rfl (lv_at hl 2 rfl) ?_
      refine lv_iload_n hx hb dX9_whyNot_34 rfl (lv_at hl 3 rfl) ?_
      refine lv_iload hx hb dX9_whyNot_35 (lv_at hl 4 rfl) ?_
      obtain ⟨v37, e37, h⟩ := bnd h
      refine cV (av := [.int p1, .int p2, .int p3, .int p4]) (rest := []) (st1 := []) (k1 := 0) (k2 := 0) (ci := 4) (q0 := 0) hx hb hml hown htg hN hK (c_X9_setCorner l dC dI cy a0 v28 p1 p2 p3 p4 v37 e37) (g_V gw846 gw848 gw7 gw63 gw849) hdV_X9_setCorner rfl ⟨⟨Nat.le_of_ble_eq_true rfl, Nat.le_of_ble_eq_true rfl⟩, Nat.le_of_ble_eq_true rfl, Nat.le_of_ble_eq_true rfl⟩ hP hD hS hA ⟨rfl, rfl⟩ rfl [0, 1, 2, 3, 4, 5, 6, 7, 8, 9, 10, 11, 12, 13, 14] [] rfl rfl rfl (by decide) (by decide) hl.1 rfl (Nat.le_of_ble_eq_true rfl) rfl rfl rfl dX9_whyNot_37 (fun H locs hP hD hS => ?_)
      have hP : va_P (dC, dI) vwCl (wMod a0 cy v37) H := hP
      have hD : va_D A (wMod a0 cy v37) := hD
      refine lv_aload_n hx hb dX9_whyNot_40 rfl (lv_at hl 0 rfl) ?_
      obtain ⟨v41, e41, h⟩ := bnd h
      refine cV (av := []) (rest := []) (st1 := [.int v41.1]) (k1 := 0) (k2 := 0) (ci := 4) (q0 := 0) hx hb hml hown htg hN hK (c_X9_broken l dC dI cy a0 v37  v41 e41) (g_V gw939 gw941 gw11 gw63 gw942) hdV_X9_broken rfl ⟨⟨Nat.le_of_ble_eq_true rfl, Nat.le_of_ble_eq_true rfl⟩, Nat.le_of_ble_eq_true rfl, Nat.le_of_ble_eq_true rfl⟩ hP hD hS hA ⟨rfl, rfl⟩ rfl [0, 1, 2, 3, 4, 5, 6, 7, 8, 9, 10, 11, 12, 13, 14] [] rfl rfl rfl (by decide) (by decide) hl.1 rfl (Nat.le_of_ble_eq_true rfl) rfl rfl rfl dX9_whyNot_41 (fun H locs hP hD hS => ?_)
      have hP : va_P (dC, dI) vwCl (wMod a0 cy v41.2) H := hP
      have hD : va_D A (wMod a0 cy v41.2) := hD
      refine lv_istore (lv' := [(5, .int v41.1), (0, .ref (a0 0)), (1, .int p1), (2, .int p2), (3, .int p3), (4, .int p4)]) hx hb dX9_whyNot_44 hl (by decide) rfl (fun ls hl => ?_)
      refine lv_aload_n hx hb dX9_whyNot_46 rfl (lv_at hl 1 rfl) ?_
      refine va_get (D := (dC, dI)) (ci := 4) (v := .ref (a0 2)) (C := RX9) (T := TX9) (N := 18) hx hb htg inX9 hown hK hP 0 rfl rfl 2 (by decide) (htg _ gw852) (fun _ h9 => h9) rfl dX9_whyNot_47 ?_
      refine lv_iconst (v := 0) hx hb dX9_whyNot_50 (by decide) ?_
      refine lv_aload_n hx hb dX9_whyNot_51 rfl (lv_at hl 1 rfl) ?_
      refine va_get (D := (dC, dI)) (ci := 4) (v := .ref (a0 1)) (C := RX9) (T := TX9) (N := 18) hx hb htg inX9 hown hK hP 0 rfl rfl 1 (by decide) (htg _ gw851) (fun _ h9 => h9) rfl dX9_whyNot_52 ?_
      refine lv_iconst (v := 0) hx hb dX9_whyNot_55 (by decide) ?_
      obtain ⟨v56, e56, h⟩ := bnd h
      refine cS (av := [.ref (a0 2), .int 0, .ref (a0 1), .int 0]) (rest := []) (st1 := []) (k1 := 0) (k2 := 0) hx hb hml hown htg hN hK (c_X9_copy l dC dI cy (a0 2) (a0 1) 85 85 (m_kept v41.2) (m_state v41.2) 0 0 v56 e56) (g_S gw924 gw925 gw63 gw926) hdS_X9_copy rfl ⟨⟨Nat.le_of_ble_eq_true rfl, Nat.le_of_ble_eq_true rfl⟩, Nat.le_of_ble_eq_true rfl, Nat.le_of_ble_eq_true rfl⟩ hP hD hS hA [2, 1] [0, 3, 4, 5, 6, 7, 8, 9, 10, 11, 12, 13, 14] rfl rfl rfl (by decide) (by decide) hl.1 rfl (Nat.le_of_ble_eq_true rfl) rfl rfl rfl dX9_whyNot_56 (fun H locs hP hD hS => ?_)
      obtain ⟨hP, hD⟩ := x_perm (ws' := wMod a0 cy (ms_state v41.2 v56)) hP hD [0, 14, 13, 1, 2, 3, 4, 5, 6, 7, 8, 9, 10, 11, 12] (by decide) rfl rfl
      refine lv_iload hx hb dX9_whyNot_59 (lv_at hl 0 rfl) ?_
      obtain rfl := Option.some.inj h
      exact hE H locs 61 ls _ hP hD hS rfl dX9_whyNot_61
    replace h := if_f h c22
    refine lv_iconst (v := 0) hx hb dX9_whyNot_25 (by decide) ?_
    obtain rfl := Option.some.inj h
    exact hE H locs 26 ls _ hP hD hS rfl dX9_whyNot_26
  have h := e7
  clear e7
  refine lv_if_eq (tgt := 14) hx hb dX9_whyNot_7 (by decide) (fun c7 => ?_) (fun c7 => ?_)
  · replace h := if_t h c7
    refine lv_iconst (v := 1) hx hb dX9_whyNot_14 (by decide) ?_
    obtain rfl := Option.some.inj h
    exact hr15 H locs ls hP hD hS hl
  replace h := if_f h c7
  refine lv_iconst (v := 0) hx hb dX9_whyNot_10 (by decide) ?_
  refine lv_goto (tgt := 15) hx hb dX9_whyNot_11 (by decide) ?_
  obtain rfl := Option.some.inj h
  exact hr15 H locs ls hP hD hS hl
