def G_X9_tryHole (m0 : Mod) (p1 : Int32) (p2 : Int32) : Option (Int32 × Mod) :=
  (G_X9_within p1 0 14).bind fun v4 =>
  if v4 = 0 then
    some (1, m0)
  else
    (G_X9_within p2 0 14).bind fun v14 =>
    if v14 = 0 then
      some (1, m0)
    else
      (rd 85 (m_state m0) 0).bind fun v27 =>
      if v27 = 4 then
        some (2, m0)
      else
        (G_X9_begin m0).bind fun v37 =>
        (rd 85 (m_state v37) 0).bind fun v46 =>
        (wr 85 (m_state v37) 0 (v46 + 1)).bind fun g49 =>
        (some (ms_state v37 g49)).bind fun z0_58 =>
        (wr 85 (m_state z0_58) (1 + v27) 3).bind fun g58 =>
        (G_X9_setCorner (ms_state z0_58 g58) v27 0 p1 p2).bind fun v64 =>
        (G_X9_setCorner v64 v27 1 (p1 + 1) p2).bind fun v74 =>
        (G_X9_setCorner v74 v27 2 p1 (p2 + 1)).bind fun v84 =>
        (G_X9_end v84).bind fun v88 =>
        some (v88.1, v88.2)
abbrev rm_X9_tryHole : Room := { frames := 6, cells := 0, slots := 0, locals := 146 }
theorem hdS_X9_tryHole : yX9_tryHole.cls ≠ "java/lang/invoke/MethodHandle" ∧ yX9_tryHole.cls ≠ "java/lang/invoke/VarHandle" ∧ (parseMethodDescriptor yX9_tryHole.desc).map (fun d => d.parameters.length) = some 2 := by decide +kernel
theorem hdV_X9_tryHole : yX9_tryHole.cls = RX9 ∧ yX9_tryHole.cls ≠ "java/lang/invoke/MethodHandle" ∧ yX9_tryHole.cls ≠ "java/lang/invoke/VarHandle" ∧ (parseMethodDescriptor yX9_tryHole.desc).map (fun d => d.parameters.length) = some 2 := ⟨rfl, hdS_X9_tryHole⟩
set_option maxHeartbeats 4000000 in
set_option maxRecDepth 100000 in
theorem c_X9_tryHole (l : Launch) (dC : Nat → ClassId) (dI : Nat → Nat → Nat) (cy : Nat → ClassId) (a0 : Nat → Nat) (m0 : Mod) (p1 : Int32) (p2 : Int32) (res : Int32 × Mod) (h : G_X9_tryHole m0 p1 p2 = some res) : CT l (dC, dI) (TY cy) yX9_tryHole cX9_tryHole 4 (some .int) rm_X9_tryHole [.ref (a0 0), .int p1, .int p2] (wMod a0 cy m0) (wMod a0 cy res.2) (some (.int res.1)) := by
  refine CT.mk_i (own := RX9) ⟨by decide, rfl⟩ (Nat.le_of_ble_eq_true rfl) ?_
  intro p e s mm args below meth cd A Q hx hb hml hown htg hN hK hA hP hD hS hE ls hl
  have hl : lv_has ls 4 [(0, .ref (a0 0)), (1, .int p1), (2, .int p2)] := hl
  replace h : _ = some res := h
  unfold G_X9_tryHole at h
  obtain ⟨H, hH⟩ : ∃ H, H = s.heap := ⟨_, rfl⟩
  obtain ⟨locs, hlocs⟩ : ∃ locs : List Loc, locs = [] := ⟨_, rfl⟩
  rw [← hlocs] at hS ⊢
  have hS : va_S A s.heap H locs := by rw [hH]; exact hS
  rw [← hH] at hP ⊢
  refine lv_iload_n hx hb dX9_tryHole_0 rfl (lv_at hl 1 rfl) ?_
  refine lv_iconst (v := 0) hx hb dX9_tryHole_1 (by decide) ?_
  refine lv_bipush (v := 14) hx hb dX9_tryHole_2 (by decide) ?_
  obtain ⟨v4, e4, h⟩ := bnd h
  refine cS (av := [.int p1, .int 0, .int 14]) (rest := []) (st1 := [.int v4]) (k1 := 0) (k2 := 0) hx hb hml hown htg hN hK (c_X9_within l dC dI cy   p1 0 14 v4 e4) (g_S gw913 gw914 gw63 gw915) hdS_X9_within rfl ⟨⟨Nat.le_of_ble_eq_true rfl, Nat.le_of_ble_eq_true rfl⟩, Nat.le_of_ble_eq_true rfl, Nat.le_of_ble_eq_true rfl⟩ hP hD hS hA [] [0, 1, 2, 3, 4, 5, 6, 7, 8, 9, 10, 11, 12, 13, 14] rfl rfl rfl (by decide) (by decide) hl.1 rfl (Nat.le_of_ble_eq_true rfl) rfl rfl rfl dX9_tryHole_4 (fun H locs hP hD hS => ?_)
  obtain ⟨hP, hD⟩ := x_perm (ws' := wMod a0 cy m0) hP hD [0, 1, 2, 3, 4, 5, 6, 7, 8, 9, 10, 11, 12, 13, 14] (by decide) rfl rfl
  refine lv_if_eq (tgt := 20) hx hb dX9_tryHole_7 (by decide) (fun c7 => ?_) (fun c7 => ?_)
  · replace h := if_t h c7
    refine lv_iconst (v := 1) hx hb dX9_tryHole_20 (by decide) ?_
    obtain rfl := Option.some.inj h
    exact hE H locs 21 ls _ hP hD hS rfl dX9_tryHole_21
  replace h := if_f h c7
  refine lv_iload_n hx hb dX9_tryHole_10 rfl (lv_at hl 2 rfl) ?_
  refine lv_iconst (v := 0) hx hb dX9_tryHole_11 (by decide) ?_
  refine lv_bipush (v := 14) hx hb dX9_tryHole_12 (by decide) ?_
  obtain ⟨v14, e14, h⟩ := bnd h
  refine cS (av := [.int p2, .int 0, .int 14]) (rest := []) (st1 := [.int v14]) (k1 := 0) (k2 := 0) hx hb hml hown htg hN hK (c_X9_within l dC dI cy   p2 0 14 v14 e14) (g_S gw913 gw914 gw63 gw915) hdS_X9_within rfl ⟨⟨Nat.le_of_ble_eq_true rfl, Nat.le_of_ble_eq_true rfl⟩, Nat.le_of_ble_eq_true rfl, Nat.le_of_ble_eq_true rfl⟩ hP hD hS hA [] [0, 1, 2, 3, 4, 5, 6, 7, 8, 9, 10, 11, 12, 13, 14] rfl rfl rfl (by decide) (by decide) hl.1 rfl (Nat.le_of_ble_eq_true rfl) rfl rfl rfl dX9_tryHole_14 (fun H locs hP hD hS => ?_)
  obtain ⟨hP, hD⟩ := x_perm (ws' := wMod a0 cy m0) hP hD [0, 1, 2, 3, 4, 5, 6, 7, 8, 9, 10, 11, 12, 13, 14] (by decide) rfl rfl
  refine lv_if_ne (tgt := 22) hx hb dX9_tryHole_17 (by decide) (fun c17 => ?_) (fun c17 => ?_)
  · replace h := if_f h c17
    refine lv_aload_n hx hb dX9_tryHole_22 rfl (lv_at hl 0 rfl) ?_
    refine va_get (D := (dC, dI)) (ci := 4) (v := .ref (a0 1)) (C := RX9) (T := TX9) (N := 18) hx hb htg inX9 hown hK hP 0 rfl rfl 1 (by decide) (htg _ gw851) (fun _ h9 => h9) rfl dX9_tryHole_23 ?_
    refine lv_iconst (v := 0) hx hb dX9_tryHole_26 (by decide) ?_
    obtain ⟨v27, e27, h⟩ := bnd h
    refine x_iald (v := v27) hx hb hK hP 1 0 rfl rfl e27 dX9_tryHole_27 ?_
    refine lv_istore_n (lv' := [(3, .int v27), (0, .ref (a0 0)), (1, .int p1), (2, .int p2)]) hx hb dX9_tryHole_28 rfl hl (by decide) rfl (fun ls hl => ?_)
    refine lv_iload_n hx hb dX9_tryHole_29 rfl (lv_at hl 0 rfl) ?_
    refine lv_iconst (v := 4) hx hb dX9_tryHole_30 (by decide) ?_
    refine lv_icmp_ne (tgt := 36) hx hb dX9_tryHole_31 (by decide) (fun c31 => ?_) (fun c31 => ?_)
    · replace h := if_f h c31
      refine lv_aload_n hx hb dX9_tryHole_36 rfl (lv_at hl 1 rfl) ?_
      obtain ⟨v37, e37, h⟩ := bnd h
      refine cV (av := []) (rest := []) (st1 := []) (k1 := 0) (k2 := 0) (ci := 4) (q0 := 0) hx hb hml hown htg hN hK (c_X9_begin l dC dI cy a0 m0  v37 e37) (g_V gw1125 gw1127 gw46 gw63 gw1128) hdV_X9_begin rfl ⟨⟨Nat.le_of_ble_eq_true rfl, Nat.le_of_ble_eq_true rfl⟩, Nat.le_of_ble_eq_true rfl, Nat.le_of_ble_eq_true rfl⟩ hP hD hS hA ⟨rfl, rfl⟩ rfl [0, 1, 2, 3, 4, 5, 6, 7, 8, 9, 10, 11, 12, 13, 14] [] rfl rfl rfl (by decide) (by decide) hl.1 rfl (Nat.le_of_ble_eq_true rfl) rfl rfl rfl dX9_tryHole_37 (fun H locs hP hD hS => ?_)
      have hP : va_P (dC, dI) vwCl (wMod a0 cy v37) H := hP
      have hD : va_D A (wMod a0 cy v37) := hD
      refine lv_aload_n hx hb dX9_tryHole_40 rfl (lv_at hl 1 rfl) ?_
      refine va_get (D := (dC, dI)) (ci := 4) (v := .ref (a0 1)) (C := RX9) (T := TX9) (N := 18) hx hb htg inX9 hown hK hP 0 rfl rfl 1 (by decide) (htg _ gw851) (fun _ h9 => h9) rfl dX9_tryHole_41 ?_
      refine lv_iconst (v := 0) hx hb dX9_tryHole_44 (by decide) ?_
      refine lv_dup2_11 hx hb dX9_tryHole_45 rfl rfl ?_
      obtain ⟨v46, e46, h⟩ := bnd h
      refine x_iald (v := v46) hx hb hK hP 1 0 rfl rfl e46 dX9_tryHole_46 ?_
      refine lv_iconst (v := 1) hx hb dX9_tryHole_47 (by decide) ?_
      refine lv_iadd hx hb dX9_tryHole_48 ?_
      obtain ⟨g49, e49, h⟩ := bnd h
      refine x_iast (g := g49) hx hb hK hP hD hS 1 0 rfl rfl e49 dX9_tryHole_49 (fun H locs hP hD hS => ?_)
      have hP : va_P (dC, dI) vwCl (wMod a0 cy (ms_state v37 g49)) H := hP
      have hD : va_D A (wMod a0 cy (ms_state v37 g49)) := hD
      refine lv_aload_n hx hb dX9_tryHole_50 rfl (lv_at hl 1 rfl) ?_
      refine va_get (D := (dC, dI)) (ci := 4) (v := .ref (a0 1)) (C := RX9) (T := TX9) (N := 18) hx hb htg inX9 hown hK hP 0 rfl rfl 1 (by decide) (htg _ gw851) (fun _ h9 => h9) rfl dX9_tryHole_51 ?_
      refine lv_iconst (v := 1) hx hb dX9_tryHole_54 (by decide) ?_
      refine lv_iload_n hx hb dX9_tryHole_55 rfl (lv_at hl 0 rfl) ?_
      refine lv_iadd hx hb dX9_tryHole_56 ?_
      refine lv_iconst (v := 3) hx hb dX9_tryHole_57 (by decide) ?_
      obtain ⟨z0_58, ez0_58, h⟩ := bnd h
      replace ez0_58 := Option.some.inj ez0_58
      rw [ez0_58] at hP hD
      obtain ⟨g58, e58, h⟩ := bnd h
      refine x_iast (g := g58) hx hb hK hP hD hS 1 0 rfl rfl e58 dX9_tryHole_58 (fun H locs hP hD hS => ?_)
      have hP : va_P (dC, dI) vwCl (wMod a0 cy (ms_state z0_58 g58)) H := hP
      have hD : va_D A (wMod a0 cy (ms_state z0_58 g58)) := hD
      refine lv_aload_n hx hb dX9_tryHole_59 rfl (lv_at hl 1 rfl) ?_
      refine lv_iload_n hx hb dX9_tryHole_60 rfl (lv_at hl 0 rfl) ?_
      refine lv_iconst (v := 0) hx hb dX9_tryHole_61 (by decide) ?_
      refine lv_iload_n hx hb dX9_tryHole_62 rfl (lv_at hl 2 rfl) ?_
      refine lv_iload_n hx hb dX9_tryHole_63 rfl (lv_at hl 3 rfl) ?_
      obtain ⟨v64, e64, h⟩ := bnd h
      refine cV (av := [.int v27, .int 0, .int p1, .int p2]) (rest := []) (st1 := []) (k1 := 0) (k2 := 0) (ci := 4) (q0 := 0) hx hb hml hown htg hN hK (c_X9_setCorner l dC dI cy a0 (ms_state z0_58 g58) v27 0 p1 p2 v64 e64) (g_V gw846 gw848 gw7 gw63 gw849) hdV_X9_setCorner rfl ⟨⟨Nat.le_of_ble_eq_true rfl, Nat.le_of_ble_eq_true rfl⟩, Nat.le_of_ble_eq_true rfl, Nat.le_of_ble_eq_true rfl⟩ hP hD hS hA ⟨rfl, rfl⟩ rfl [0, 1, 2, 3, 4, 5, 6, 7, 8, 9, 10, 11, 12, 13, 14] [] rfl rfl rfl (by decide) (by decide) hl.1 rfl (Nat.le_of_ble_eq_true rfl) rfl rfl rfl dX9_tryHole_64 (fun H locs hP hD hS => ?_)
      have hP : va_P (dC, dI) vwCl (wMod a0 cy v64) H := hP
      have hD : va_D A (wMod a0 cy v64) := hD
      refine lv_aload_n hx hb dX9_tryHole_67 rfl (lv_at hl 1 rfl) ?_
      refine lv_iload_n hx hb dX9_tryHole_68 rfl (lv_at hl 0 rfl) ?_
      refine lv_iconst (v := 1) hx hb dX9_tryHole_69 (by decide) ?_
      refine lv_iload_n hx hb dX9_tryHole_70 rfl (lv_at hl 2 rfl) ?_
      refine lv_iconst (v := 1) hx hb dX9_tryHole_71 (by decide) ?_
      refine lv_iadd hx hb dX9_tryHole_72 ?_
      refine lv_iload_n hx hb dX9_tryHole_73 rfl (lv_at hl 3 rfl) ?_
      obtain ⟨v74, e74, h⟩ := bnd h
      refine cV (av := [.int v27, .int 1, .int (p1 + 1), .int p2]) (rest := []) (st1 := []) (k1 := 0) (k2 := 0) (ci := 4) (q0 := 0) hx hb hml hown htg hN hK (c_X9_setCorner l dC dI cy a0 v64 v27 1 (p1 + 1) p2 v74 e74) (g_V gw846 gw848 gw7 gw63 gw849) hdV_X9_setCorner rfl ⟨⟨Nat.le_of_ble_eq_true rfl, Nat.le_of_ble_eq_true rfl⟩, Nat.le_of_ble_eq_true rfl, Nat.le_of_ble_eq_true rfl⟩ hP hD hS hA ⟨rfl, rfl⟩ rfl [0, 1, 2, 3, 4, 5, 6, 7, 8, 9, 10, 11, 12, 13, 14] [] rfl rfl rfl (by decide) (by decide) hl.1 rfl (Nat.le_of_ble_eq_true rfl) rfl rfl rfl dX9_tryHole_74 (fun H locs hP hD hS => ?_)
      have hP : va_P (dC, dI) vwCl (wMod a0 cy v74) H := hP
      have hD : va_D A (wMod a0 cy v74) := hD
      refine lv_aload_n hx hb dX9_tryHole_77 rfl (lv_at hl 1 rfl) ?_
      refine lv_iload_n hx hb dX9_tryHole_78 rfl (lv_at hl 0 rfl) ?_
      refine lv_iconst (v := 2) hx hb dX9_tryHole_79 (by decide) ?_
      refine lv_iload_n hx hb dX9_tryHole_80 rfl (lv_at hl 2 rfl) ?_
      refine lv_iload_n hx hb dX9_tryHole_81 rfl (lv_at hl 3 rfl) ?_
      refine lv_iconst (v := 1) hx hb dX9_tryHole_82 (by decide) ?_
      refine lv_iadd hx hb dX9_tryHole_83 ?_
      obtain ⟨v84, e84, h⟩ := bnd h
      refine cV (av := [.int v27, .int 2, .int p1, .int (p2 + 1)]) (rest := []) (st1 := []) (k1 := 0) (k2 := 0) (ci := 4) (q0 := 0) hx hb hml hown htg hN hK (c_X9_setCorner l dC dI cy a0 v74 v27 2 p1 (p2 + 1) v84 e84) (g_V gw846 gw848 gw7 gw63 gw849) hdV_X9_setCorner rfl ⟨⟨Nat.le_of_ble_eq_true rfl, Nat.le_of_ble_eq_true rfl⟩, Nat.le_of_ble_eq_true rfl, Nat.le_of_ble_eq_true rfl⟩ hP hD hS hA ⟨rfl, rfl⟩ rfl [0, 1, 2, 3, 4, 5, 6, 7, 8, 9, 10, 11, 12, 13, 14] [] rfl rfl rfl (by decide) (by decide) hl.1 rfl (Nat.le_of_ble_eq_true rfl) rfl rfl rfl dX9_tryHole_84 (fun H locs hP hD hS => ?_)
      have hP : va_P (dC, dI) vwCl (wMod a0 cy v84) H := hP
      have hD : va_D A (wMod a0 cy v84) := hD
      refine lv_aload_n hx hb dX9_tryHole_87 rfl (lv_at hl 1 rfl) ?_
      obtain ⟨v88, e88, h⟩ := bnd h
      refine cV (av := []) (rest := []) (st1 := [.int v88.1]) (k1 := 0) (k2 := 0) (ci := 4) (q0 := 0) hx hb hml hown htg hN hK (c_X9_end l dC dI cy a0 v84  v88 e88) (g_V gw1129 gw1131 gw47 gw63 gw1132) hdV_X9_end rfl ⟨⟨Nat.le_of_ble_eq_true rfl, Nat.le_of_ble_eq_true rfl⟩, Nat.le_of_ble_eq_true rfl, Nat.le_of_ble_eq_true rfl⟩ hP hD hS hA ⟨rfl, rfl⟩ rfl [0, 1, 2, 3, 4, 5, 6, 7, 8, 9, 10, 11, 12, 13, 14] [] rfl rfl rfl (by decide) (by decide) hl.1 rfl (Nat.le_of_ble_eq_true rfl) rfl rfl rfl dX9_tryHole_88 (fun H locs hP hD hS => ?_)
      have hP : va_P (dC, dI) vwCl (wMod a0 cy v88.2) H := hP
      have hD : va_D A (wMod a0 cy v88.2) := hD
      obtain rfl := Option.some.inj h
      exact hE H locs 91 ls _ hP hD hS rfl dX9_tryHole_91
    replace h := if_t h c31
    refine lv_iconst (v := 2) hx hb dX9_tryHole_34 (by decide) ?_
    obtain rfl := Option.some.inj h
    exact hE H locs 35 ls _ hP hD hS rfl dX9_tryHole_35
  replace h := if_t h c17
  refine lv_iconst (v := 1) hx hb dX9_tryHole_20 (by decide) ?_
  obtain rfl := Option.some.inj h
  exact hE H locs 21 ls _ hP hD hS rfl dX9_tryHole_21
def G_X9_remember_j49   (m0_49 : Mod) : Option (Mod) :=
  (G_X9_copy 85 1190 (m_kept m0_49) (m_history m0_49) 0 ((m_remembered m0_49) * 85)).bind fun v65 =>
  (some (ms_history m0_49 v65)).bind fun z0_75 =>
  some (ms_remembered z0_75 ((m_remembered (ms_history m0_49 v65)) + 1))
def G_X9_remember_L11   : Nat → Mod → Int32 → Option (Mod)
  | 0, _, _ => none
  | n11 + 1, m0_11, l1_11 =>
    if 1105 ≤ l1_11 then
      G_X9_remember_j49 (ms_remembered m0_11 ((m_remembered m0_11) - 1))
    else
      (rd 1190 (m_history m0_11) (l1_11 + 85)).bind fun v31 =>
      (wr 1190 (m_history m0_11) l1_11 v31).bind fun g32 =>
      (G_X9_remember_L11 n11) (ms_history m0_11 g32) (l1_11 + 1)
def G_X9_remember (m0 : Mod) : Option (Mod) :=
  if m_remembered m0 = 14 then
    G_X9_remember_L11 FU m0 0
  else
    G_X9_remember_j49 m0
abbrev rm_X9_remember : Room := { frames := 1, cells := 0, slots := 0, locals := 24 }
theorem hdS_X9_remember : yX9_remember.cls ≠ "java/lang/invoke/MethodHandle" ∧ yX9_remember.cls ≠ "java/lang/invoke/VarHandle" ∧ (parseMethodDescriptor yX9_remember.desc).map (fun d => d.parameters.length) = some 0 := by decide +kernel
theorem hdV_X9_remember : yX9_remember.cls = RX9 ∧ yX9_remember.cls ≠ "java/lang/invoke/MethodHandle" ∧ yX9_remember.cls ≠ "java/lang/invoke/VarHandle" ∧ (parseMethodDescriptor yX9_remember.desc).map (fun d => d.parameters.length) = some 0 := ⟨rfl, hdS_X9_remember⟩
set_option maxHeartbeats 4000000 in
set_option maxRecDepth 100000 in
theorem c_X9_remember (l : Launch) (dC : Nat → ClassId) (dI : Nat → Nat → Nat) (cy : Nat → ClassId) (a0 : Nat → Nat) (m0 : Mod) (res : Mod) (h : G_X9_remember m0 = some res) : CT l (dC, dI) (TY cy) yX9_remember cX9_remember 2 none rm_X9_remember [.ref (a0 0)] (wMod a0 cy m0) (wMod a0 cy res) none := by
  refine CT.mk_v (own := RX9) ⟨by decide, rfl⟩ (Nat.le_of_ble_eq_true rfl) ?_
  intro p e s mm args below meth cd A Q hx hb hml hown htg hN hK hA hP hD hS hE ls hl
  have hl : lv_has ls 2 [(0, .ref (a0 0))] := hl
  replace h : _ = some res := h
  unfold G_X9_remember at h
  obtain ⟨H, hH⟩ : ∃ H, H = s.heap := ⟨_, rfl⟩
  obtain ⟨locs, hlocs⟩ : ∃ locs : List Loc, locs = [] := ⟨_, rfl⟩
  rw [← hlocs] at hS ⊢
  have hS : va_S A s.heap H locs := by rw [hH]; exact hS
  rw [← hH] at hP ⊢
  refine lv_aload_n hx hb dX9_remember_0 rfl (lv_at hl 0 rfl) ?_
  refine va_get (D := (dC, dI)) (ci := 4) (v := .int (m_remembered m0)) (C := RX9) (T := TX9) (N := 18) hx hb htg inX9 hown hK hP 0 rfl rfl 5 (by decide) (htg _ gw855) (fun _ h9 => h9) rfl dX9_remember_1 ?_
  refine lv_bipush (v := 14) hx hb dX9_remember_4 (by decide) ?_
  have hj49 : ∀ (m0_49 : Mod) (H : Heap) (locs : List Loc) (ls : Array Slot), G_X9_remember_j49 m0_49 = some res → va_P (dC, dI) vwCl (wMod a0 cy m0_49) H → va_D A (wMod a0 cy m0_49) → va_S A s.heap H locs → lv_has ls 2 [(0, .ref (a0 0))] → W p l e rm_X9_remember s mm args below meth cd H locs 0 0 Q (F0 mm 49 ls []) := by
    intro m0_49 H locs ls h hP hD hS hl
    unfold G_X9_remember_j49 at h
    refine lv_aload_n hx hb dX9_remember_49 rfl (lv_at hl 0 rfl) ?_
    refine va_get (D := (dC, dI)) (ci := 4) (v := .ref (a0 2)) (C := RX9) (T := TX9) (N := 18) hx hb htg inX9 hown hK hP 0 rfl rfl 2 (by decide) (htg _ gw852) (fun _ h9 => h9) rfl dX9_remember_50 ?_
    refine lv_iconst (v := 0) hx hb dX9_remember_53 (by decide) ?_
    refine lv_aload_n hx hb dX9_remember_54 rfl (lv_at hl 0 rfl) ?_
    refine va_get (D := (dC, dI)) (ci := 4) (v := .ref (a0 4)) (C := RX9) (T := TX9) (N := 18) hx hb htg inX9 hown hK hP 0 rfl rfl 4 (by decide) (htg _ gw854) (fun _ h9 => h9) rfl dX9_remember_55 ?_
    refine lv_aload_n hx hb dX9_remember_58 rfl (lv_at hl 0 rfl) ?_
    refine va_get (D := (dC, dI)) (ci := 4) (v := .int (m_remembered m0_49)) (C := RX9) (T := TX9) (N := 18) hx hb htg inX9 hown hK hP 0 rfl rfl 5 (by decide) (htg _ gw855) (fun _ h9 => h9) rfl dX9_remember_59 ?_
    refine lv_bipush (v := 85) hx hb dX9_remember_62 (by decide) ?_
    refine lv_imul hx hb dX9_remember_64 ?_
    obtain ⟨v65, e65, h⟩ := bnd h
    refine cS (av := [.ref (a0 2), .int 0, .ref (a0 4), .int ((m_remembered m0_49) * 85)]) (rest := []) (st1 := []) (k1 := 0) (k2 := 0) hx hb hml hown htg hN hK (c_X9_copy l dC dI cy (a0 2) (a0 4) 85 1190 (m_kept m0_49) (m_history m0_49) 0 ((m_remembered m0_49) * 85) v65 e65) (g_S gw924 gw925 gw63 gw926) hdS_X9_copy rfl ⟨⟨Nat.le_of_ble_eq_true rfl, Nat.le_of_ble_eq_true rfl⟩, Nat.le_of_ble_eq_true rfl, Nat.le_of_ble_eq_true rfl⟩ hP hD hS hA [2, 4] [0, 1, 3, 5, 6, 7, 8, 9, 10, 11, 12, 13, 14] rfl rfl rfl (by decide) (by decide) hl.1 rfl (Nat.le_of_ble_eq_true rfl) rfl rfl rfl dX9_remember_65 (fun H locs hP hD hS => ?_)
    obtain ⟨hP, hD⟩ := x_perm (ws' := wMod a0 cy (ms_history m0_49 v65)) hP hD [0, 1, 13, 2, 14, 3, 4, 5, 6, 7, 8, 9, 10, 11, 12] (by decide) rfl rfl
    refine lv_aload_n hx hb dX9_remember_68 rfl (lv_at hl 0 rfl) ?_
    refine lv_dup hx hb dX9_remember_69 rfl ?_
    refine va_get (D := (dC, dI)) (ci := 4) (v := .int (m_remembered (ms_history m0_49 v65))) (C := RX9) (T := TX9) (N := 18) hx hb htg inX9 hown hK hP 0 rfl rfl 5 (by decide) (htg _ gw855) (fun _ h9 => h9) rfl dX9_remember_70 ?_
    refine lv_iconst (v := 1) hx hb dX9_remember_73 (by decide) ?_
    refine lv_iadd hx hb dX9_remember_74 ?_
    obtain ⟨z0_75, ez0_75, h⟩ := bnd h
    replace ez0_75 := Option.some.inj ez0_75
    rw [ez0_75] at hP hD
    refine va_put (D := (dC, dI)) (ci := 4) (v := .int ((m_remembered (ms_history m0_49 v65)) + 1)) (ty := .int) (C := RX9) (T := TX9) (N := 18) hx hb htg inX9 tyX9 tyX9_ok nmX9 hown hK hP hD hS 0 rfl rfl 5 (by decide) (htg _ gw855) (fun _ h9 => h9) rfl (by decide +kernel) rfl rfl (Nat.le_of_ble_eq_true rfl) dX9_remember_75 (fun H locs hP hD hS => ?_)
    have hP : va_P (dC, dI) vwCl (wMod a0 cy (ms_remembered z0_75 ((m_remembered (ms_history m0_49 v65)) + 1))) H := hP
    have hD : va_D A (wMod a0 cy (ms_remembered z0_75 ((m_remembered (ms_history m0_49 v65)) + 1))) := hD
    obtain rfl := Option.some.inj h
    exact hE H locs 78 ls hP hD hS dX9_remember_78
  refine lv_icmp_ne (tgt := 49) hx hb dX9_remember_6 (by decide) (fun c6 => ?_) (fun c6 => ?_)
  · replace h := if_f h c6
    exact hj49 m0 H locs ls h hP hD hS (lv_sub hl [0] rfl)
  replace h := if_t h c6
  refine lv_iconst (v := 0) hx hb dX9_remember_9 (by decide) ?_
  refine lv_istore_n (lv' := [(1, .int 0), (0, .ref (a0 0))]) hx hb dX9_remember_10 rfl hl (by decide) rfl (fun ls hl => ?_)
  have hL11 : ∀ (n11 : Nat) (m0_11 : Mod) (l1_11 : Int32) (H : Heap) (locs : List Loc) (ls : Array Slot), G_X9_remember_L11 n11 m0_11 l1_11 = some res → va_P (dC, dI) vwCl (wMod a0 cy m0_11) H → va_D A (wMod a0 cy m0_11) → va_S A s.heap H locs → lv_has ls 2 [(1, .int l1_11), (0, .ref (a0 0))] → W p l e rm_X9_remember s mm args below meth cd H locs 0 0 Q (F0 mm 11 ls []) := by
    intro n11
    induction n11 with
    | zero => intro m0_11 l1_11 H locs ls h; exact absurd h (by simp [G_X9_remember_L11])
    | succ n11 ih11 =>
      intro m0_11 l1_11 H locs ls h hP hD hS hl
      rw [G_X9_remember_L11] at h
      refine lv_iload_n hx hb dX9_remember_11 rfl (lv_at hl 0 rfl) ?_
      refine lv_sipush (v := 1105) hx hb dX9_remember_12 (by decide) ?_
      refine lv_icmp_ge (tgt := 39) hx hb dX9_remember_15 (by decide) (fun c15 => ?_) (fun c15 => ?_)
      · replace h := if_t h c15
        refine lv_aload_n hx hb dX9_remember_39 rfl (lv_at hl 1 rfl) ?_
        refine lv_dup hx hb dX9_remember_40 rfl ?_
        refine va_get (D := (dC, dI)) (ci := 4) (v := .int (m_remembered m0_11)) (C := RX9) (T := TX9) (N := 18) hx hb htg inX9 hown hK hP 0 rfl rfl 5 (by decide) (htg _ gw855) (fun _ h9 => h9) rfl dX9_remember_41 ?_
        refine lv_iconst (v := 1) hx hb dX9_remember_44 (by decide) ?_
        refine lv_isub hx hb dX9_remember_45 ?_
        refine va_put (D := (dC, dI)) (ci := 4) (v := .int ((m_remembered m0_11) - 1)) (ty := .int) (C := RX9) (T := TX9) (N := 18) hx hb htg inX9 tyX9 tyX9_ok nmX9 hown hK hP hD hS 0 rfl rfl 5 (by decide) (htg _ gw855) (fun _ h9 => h9) rfl (by decide +kernel) rfl rfl (Nat.le_of_ble_eq_true rfl) dX9_remember_46 (fun H locs hP hD hS => ?_)
        have hP : va_P (dC, dI) vwCl (wMod a0 cy (ms_remembered m0_11 ((m_remembered m0_11) - 1))) H := hP
        have hD : va_D A (wMod a0 cy (ms_remembered m0_11 ((m_remembered m0_11) - 1))) := hD
        exact hj49 (ms_remembered m0_11 ((m_remembered m0_11) - 1)) H locs ls h hP hD hS (lv_sub hl [1] rfl)
      replace h := if_f h c15
      refine lv_aload_n hx hb dX9_remember_18 rfl (lv_at hl 1 rfl) ?_
      refine va_get (D := (dC, dI)) (ci := 4) (v := .ref (a0 4)) (C := RX9) (T := TX9) (N := 18) hx hb htg inX9 hown hK hP 0 rfl rfl 4 (by decide) (htg _ gw854) (fun _ h9 => h9) rfl dX9_remember_19 ?_
      refine lv_iload_n hx hb dX9_remember_22 rfl (lv_at hl 0 rfl) ?_
      refine lv_aload_n hx hb dX9_remember_23 rfl (lv_at hl 1 rfl) ?_
      refine va_get (D := (dC, dI)) (ci := 4) (v := .ref (a0 4)) (C := RX9) (T := TX9) (N := 18) hx hb htg inX9 hown hK hP 0 rfl rfl 4 (by decide) (htg _ gw854) (fun _ h9 => h9) rfl dX9_remember_24 ?_
      refine lv_iload_n hx hb dX9_remember_27 rfl (lv_at hl 0 rfl) ?_
      refine lv_bipush (v := 85) hx hb dX9_remember_28 (by decide) ?_
      refine lv_iadd hx hb dX9_remember_30 ?_
      obtain ⟨v31, e31, h⟩ := bnd h
      refine x_iald (v := v31) hx hb hK hP 4 0 rfl rfl e31 dX9_remember_31 ?_
      obtain ⟨g32, e32, h⟩ := bnd h
      refine x_iast (g := g32) hx hb hK hP hD hS 4 0 rfl rfl e32 dX9_remember_32 (fun H locs hP hD hS => ?_)
      have hP : va_P (dC, dI) vwCl (wMod a0 cy (ms_history m0_11 g32)) H := hP
      have hD : va_D A (wMod a0 cy (ms_history m0_11 g32)) := hD
      refine lv_iinc (v := l1_11 + 1) (lv' := [(1, .int (l1_11 + 1)), (0, .ref (a0 0))]) hx hb dX9_remember_33 hl (k := 0) rfl rfl (by decide) rfl (fun ls hl => ?_)
      refine lv_goto (tgt := 11) hx hb dX9_remember_36 (by decide) ?_
      exact ih11 (ms_history m0_11 g32) (l1_11 + 1) H locs ls h hP hD hS (lv_sub hl [0, 1] rfl)
  exact hL11 FU m0 0 H locs ls h hP hD hS (lv_sub hl [0, 1] rfl)
def G_X9_addHole (m0 : Mod) (p1 : Int32) (p2 : Int32) : Option (Int32 × Mod) :=
  (G_X9_tryHole m0 p1 p2).bind fun v4 =>
  if m_thrown (ms_thrown v4.2 v4.1) ≤ 0 then
    (G_X9_remember (ms_thrown v4.2 v4.1)).bind fun v20 =>
    (rd 85 (m_state v20) 0).bind fun v28 =>
    some (v28 - 1, v20)
  else
    some (0, ms_thrown v4.2 v4.1)
abbrev rm_X9_addHole : Room := { frames := 7, cells := 0, slots := 0, locals := 169 }
theorem hdS_X9_addHole : yX9_addHole.cls ≠ "java/lang/invoke/MethodHandle" ∧ yX9_addHole.cls ≠ "java/lang/invoke/VarHandle" ∧ (parseMethodDescriptor yX9_addHole.desc).map (fun d => d.parameters.length) = some 2 := by decide +kernel
theorem hdV_X9_addHole : yX9_addHole.cls = RX9 ∧ yX9_addHole.cls ≠ "java/lang/invoke/MethodHandle" ∧ yX9_addHole.cls ≠ "java/lang/invoke/VarHandle" ∧ (parseMethodDescriptor yX9_addHole.desc).map (fun d => d.parameters.length) = some 2 := ⟨rfl, hdS_X9_addHole⟩
set_option maxHeartbeats 4000000 in
set_option maxRecDepth 100000 in
theorem c_X9_addHole (l : Launch) (dC : Nat → ClassId) (dI : Nat → Nat → Nat) (cy : Nat → ClassId) (a0 : Nat → Nat) (m0 : Mod) (p1 : Int32) (p2 : Int32) (res : Int32 × Mod) (h : G_X9_addHole m0 p1 p2 = some res) : CT l (dC, dI) (TY cy) yX9_addHole cX9_addHole 3 (some .int) rm_X9_addHole [.ref (a0 0), .int p1, .int p2] (wMod a0 cy m0) (wMod a0 cy res.2) (some (.int res.1)) := by
  refine CT.mk_i (own := RX9) ⟨by decide, rfl⟩ (Nat.le_of_ble_eq_true rfl) ?_
  intro p e s mm args below meth cd A Q hx hb hml hown htg hN hK hA hP hD hS hE ls hl
  have hl : lv_has ls 3 [(0, .ref (a0 0)), (1, .int p1), (2, .int p2)] := hl
  replace h : _ = some res := h
  unfold G_X9_addHole at h
  obtain ⟨H, hH⟩ : ∃ H, H = s.heap := ⟨_, rfl⟩
  obtain ⟨locs, hlocs⟩ : ∃ locs : List Loc, locs = [] := ⟨_, rfl⟩
  rw [← hlocs] at hS ⊢
  have hS : va_S A s.heap H locs := by rw [hH]; exact hS
  rw [← hH] at hP ⊢
  refine lv_aload_n hx hb dX9_addHole_0 rfl (lv_at hl 0 rfl) ?_
  refine lv_aload_n hx hb dX9_addHole_1 rfl (lv_at hl 0 rfl) ?_
  refine lv_iload_n hx hb dX9_addHole_2 rfl (lv_at hl 1 rfl) ?_
  refine lv_iload_n hx hb dX9_addHole_3 rfl (lv_at hl 2 rfl) ?_
  obtain ⟨v4, e4, h⟩ := bnd h
  refine cV (av := [.int p1, .int p2]) (rest := [.ref (a0 0)]) (st1 := [.int v4.1, .ref (a0 0)]) (k1 := 0) (k2 := 0) (ci := 4) (q0 := 0) hx hb hml hown htg hN hK (c_X9_tryHole l dC dI cy a0 m0 p1 p2 v4 e4) (g_V gw1157 gw1159 gw51 gw63 gw1160) hdV_X9_tryHole rfl ⟨⟨Nat.le_of_ble_eq_true rfl, Nat.le_of_ble_eq_true rfl⟩, Nat.le_of_ble_eq_true rfl, Nat.le_of_ble_eq_true rfl⟩ hP hD hS hA ⟨rfl, rfl⟩ rfl [0, 1, 2, 3, 4, 5, 6, 7, 8, 9, 10, 11, 12, 13, 14] [] rfl rfl rfl (by decide) (by decide) hl.1 rfl (Nat.le_of_ble_eq_true rfl) rfl rfl rfl dX9_addHole_4 (fun H locs hP hD hS => ?_)
  have hP : va_P (dC, dI) vwCl (wMod a0 cy v4.2) H := hP
  have hD : va_D A (wMod a0 cy v4.2) := hD
  refine va_put (D := (dC, dI)) (ci := 4) (v := .int v4.1) (ty := .int) (C := RX9) (T := TX9) (N := 18) hx hb htg inX9 tyX9 tyX9_ok nmX9 hown hK hP hD hS 0 rfl rfl 0 (by decide) (htg _ gw850) (fun _ h9 => h9) rfl (by decide +kernel) rfl rfl (Nat.le_of_ble_eq_true rfl) dX9_addHole_7 (fun H locs hP hD hS => ?_)
  have hP : va_P (dC, dI) vwCl (wMod a0 cy (ms_thrown v4.2 v4.1)) H := hP
  have hD : va_D A (wMod a0 cy (ms_thrown v4.2 v4.1)) := hD
  refine lv_aload_n hx hb dX9_addHole_10 rfl (lv_at hl 0 rfl) ?_
  refine va_get (D := (dC, dI)) (ci := 4) (v := .int (m_thrown (ms_thrown v4.2 v4.1))) (C := RX9) (T := TX9) (N := 18) hx hb htg inX9 hown hK hP 0 rfl rfl 0 (by decide) (htg _ gw850) (fun _ h9 => h9) rfl dX9_addHole_11 ?_
  refine lv_if_le (tgt := 19) hx hb dX9_addHole_14 (by decide) (fun c14 => ?_) (fun c14 => ?_)
  · replace h := if_t h c14
    refine lv_aload_n hx hb dX9_addHole_19 rfl (lv_at hl 0 rfl) ?_
    obtain ⟨v20, e20, h⟩ := bnd h
    refine cV (av := []) (rest := []) (st1 := []) (k1 := 0) (k2 := 0) (ci := 4) (q0 := 0) hx hb hml hown htg hN hK (c_X9_remember l dC dI cy a0 (ms_thrown v4.2 v4.1)  v20 e20) (g_V gw1133 gw1135 gw48 gw63 gw1136) hdV_X9_remember rfl ⟨⟨Nat.le_of_ble_eq_true rfl, Nat.le_of_ble_eq_true rfl⟩, Nat.le_of_ble_eq_true rfl, Nat.le_of_ble_eq_true rfl⟩ hP hD hS hA ⟨rfl, rfl⟩ rfl [0, 1, 2, 3, 4, 5, 6, 7, 8, 9, 10, 11, 12, 13, 14] [] rfl rfl rfl (by decide) (by decide) hl.1 rfl (Nat.le_of_ble_eq_true rfl) rfl rfl rfl dX9_addHole_20 (fun H locs hP hD hS => ?_)
    have hP : va_P (dC, dI) vwCl (wMod a0 cy v20) H := hP
    have hD : va_D A (wMod a0 cy v20) := hD
    refine lv_aload_n hx hb dX9_addHole_23 rfl (lv_at hl 0 rfl) ?_
    refine va_get (D := (dC, dI)) (ci := 4) (v := .ref (a0 1)) (C := RX9) (T := TX9) (N := 18) hx hb htg inX9 hown hK hP 0 rfl rfl 1 (by decide) (htg _ gw851) (fun _ h9 => h9) rfl dX9_addHole_24 ?_
    refine lv_iconst (v := 0) hx hb dX9_addHole_27 (by decide) ?_
    obtain ⟨v28, e28, h⟩ := bnd h
    refine x_iald (v := v28) hx hb hK hP 1 0 rfl rfl e28 dX9_addHole_28 ?_
    refine lv_iconst (v := 1) hx hb dX9_addHole_29 (by decide) ?_
    refine lv_isub hx hb dX9_addHole_30 ?_
    obtain rfl := Option.some.inj h
    exact hE H locs 31 ls _ hP hD hS rfl dX9_addHole_31
  replace h := if_f h c14
  refine lv_iconst (v := 0) hx hb dX9_addHole_17 (by decide) ?_
  obtain rfl := Option.some.inj h
  exact hE H locs 18 ls _ hP hD hS rfl dX9_addHole_18
def G_X9_append (m0 : Mod) (p1 : Int32) : Option (Int32 × Mod) :=
  (G_X9_within p1 0 255).bind fun v6 =>
  ((if v6 = 0 then
      some 1
    else
      if m_textLength m0 = 90 then
        some 2
      else
        some 0) : Option (Int32)).bind fun b9 =>
  if m_thrown (ms_thrown m0 b9) ≤ 0 then
    (some (ms_thrown m0 b9)).bind fun z0_51 =>
    (wr 90 (m_text z0_51) (m_textLength (ms_thrown m0 b9)) p1).bind fun g51 =>
    (some (ms_text z0_51 g51)).bind fun z0_59 =>
    some (m_textLength (ms_textLength z0_59 ((m_textLength (ms_text z0_51 g51)) + 1)), ms_textLength z0_59 ((m_textLength (ms_text z0_51 g51)) + 1))
  else
    some (0, ms_thrown m0 b9)
abbrev rm_X9_append : Room := { frames := 1, cells := 0, slots := 0, locals := 22 }
theorem hdS_X9_append : yX9_append.cls ≠ "java/lang/invoke/MethodHandle" ∧ yX9_append.cls ≠ "java/lang/invoke/VarHandle" ∧ (parseMethodDescriptor yX9_append.desc).map (fun d => d.parameters.length) = some 1 := by decide +kernel
theorem hdV_X9_append : yX9_append.cls = RX9 ∧ yX9_append.cls ≠ "java/lang/invoke/MethodHandle" ∧ yX9_append.cls ≠ "java/lang/invoke/VarHandle" ∧ (parseMethodDescriptor yX9_append.desc).map (fun d => d.parameters.length) = some 1 := ⟨rfl, hdS_X9_append⟩
set_option maxHeartbeats 4000000 in
set_option maxRecDepth 100000 in
theorem c_X9_append (l : Launch) (dC : Nat → ClassId) (dI : Nat → Nat → Nat) (cy : Nat → ClassId) (a0 : Nat → Nat) (m0 : Mod) (p1 : Int32) (res : Int32 × Mod) (h : G_X9_append m0 p1 = some res) : CT l (dC, dI) (TY cy) yX9_append cX9_append 2 (some .int) rm_X9_append [.ref (a0 0), .int p1] (wMod a0 cy m0) (wMod a0 cy res.2) (some (.int res.1)) := by
  refine CT.mk_i (own := RX9) ⟨by decide, rfl⟩ (Nat.le_of_ble_eq_true rfl) ?_
  intro p e s mm args below meth cd A Q hx hb hml hown htg hN hK hA hP hD hS hE ls hl
  have hl : lv_has ls 2 [(0, .ref (a0 0)), (1, .int p1)] := hl
  replace h : _ = some res := h
  unfold G_X9_append at h
  obtain ⟨H, hH⟩ : ∃ H, H = s.heap := ⟨_, rfl⟩
  obtain ⟨locs, hlocs⟩ : ∃ locs : List Loc, locs = [] := ⟨_, rfl⟩
  rw [← hlocs] at hS ⊢
  have hS : va_S A s.heap H locs := by rw [hH]; exact hS
  rw [← hH] at hP ⊢
  refine lv_aload_n hx hb dX9_append_0 rfl (lv_at hl 0 rfl) ?_
  refine lv_iload_n hx hb dX9_append_1 rfl (lv_at hl 1 rfl) ?_
  refine lv_iconst (v := 0) hx hb dX9_append_2 (by decide) ?_
  refine lv_sipush (v := 255) hx hb dX9_append_3 (by decide) ?_
  obtain ⟨v6, e6, h⟩ := bnd h
  refine cS (av := [.int p1, .int 0, .int 255]) (rest := [.ref (a0 0)]) (st1 := [.int v6, .ref (a0 0)]) (k1 := 0) (k2 := 0) hx hb hml hown htg hN hK (c_X9_within l dC dI cy   p1 0 255 v6 e6) (g_S gw913 gw914 gw63 gw915) hdS_X9_within rfl ⟨⟨Nat.le_of_ble_eq_true rfl, Nat.le_of_ble_eq_true rfl⟩, Nat.le_of_ble_eq_true rfl, Nat.le_of_ble_eq_true rfl⟩ hP hD hS hA [] [0, 1, 2, 3, 4, 5, 6, 7, 8, 9, 10, 11, 12, 13, 14] rfl rfl rfl (by decide) (by decide) hl.1 rfl (Nat.le_of_ble_eq_true rfl) rfl rfl rfl dX9_append_6 (fun H locs hP hD hS => ?_)
  obtain ⟨hP, hD⟩ := x_perm (ws' := wMod a0 cy m0) hP hD [0, 1, 2, 3, 4, 5, 6, 7, 8, 9, 10, 11, 12, 13, 14] (by decide) rfl rfl
  obtain ⟨b9, e9, h⟩ := bnd h
  have hr30 : ∀ (H : Heap) (locs : List Loc) (ls : Array Slot), va_P (dC, dI) vwCl (wMod a0 cy m0) H → va_D A (wMod a0 cy m0) → va_S A s.heap H locs → lv_has ls 2 [(0, .ref (a0 0)), (1, .int p1)] → W p l e rm_X9_append s mm args below meth cd H locs 0 0 Q (F0 mm 30 ls [.int b9, .ref (a0 0)]) := by
    intro H locs ls hP hD hS hl
    refine va_put (D := (dC, dI)) (ci := 4) (v := .int b9) (ty := .int) (C := RX9) (T := TX9) (N := 18) hx hb htg inX9 tyX9 tyX9_ok nmX9 hown hK hP hD hS 0 rfl rfl 0 (by decide) (htg _ gw850) (fun _ h9 => h9) rfl (by decide +kernel) rfl rfl (Nat.le_of_ble_eq_true rfl) dX9_append_30 (fun H locs hP hD hS => ?_)
    have hP : va_P (dC, dI) vwCl (wMod a0 cy (ms_thrown m0 b9)) H := hP
    have hD : va_D A (wMod a0 cy (ms_thrown m0 b9)) := hD
    refine lv_aload_n hx hb dX9_append_33 rfl (lv_at hl 0 rfl) ?_
    refine va_get (D := (dC, dI)) (ci := 4) (v := .int (m_thrown (ms_thrown m0 b9))) (C := RX9) (T := TX9) (N := 18) hx hb htg inX9 hown hK hP 0 rfl rfl 0 (by decide) (htg _ gw850) (fun _ h9 => h9) rfl dX9_append_34 ?_
    refine lv_if_le (tgt := 42) hx hb dX9_append_37 (by decide) (fun c37 => ?_) (fun c37 => ?_)
    · replace h := if_t h c37
      refine lv_aload_n hx hb dX9_append_42 rfl (lv_at hl 0 rfl) ?_
      refine va_get (D := (dC, dI)) (ci := 4) (v := .ref (a0 7)) (C := RX9) (T := TX9) (N := 18) hx hb htg inX9 hown hK hP 0 rfl rfl 8 (by decide) (htg _ gw858) (fun _ h9 => h9) rfl dX9_append_43 ?_
      refine lv_aload_n hx hb dX9_append_46 rfl (lv_at hl 0 rfl) ?_
      refine va_get (D := (dC, dI)) (ci := 4) (v := .int (m_textLength (ms_thrown m0 b9))) (C := RX9) (T := TX9) (N := 18) hx hb htg inX9 hown hK hP 0 rfl rfl 9 (by decide) (htg _ gw859) (fun _ h9 => h9) rfl dX9_append_47 ?_
      refine lv_iload_n hx hb dX9_append_50 rfl (lv_at hl 1 rfl) ?_
      obtain ⟨z0_51, ez0_51, h⟩ := bnd h
      replace ez0_51 := Option.some.inj ez0_51
      rw [ez0_51] at hP hD
      obtain ⟨g51, e51, h⟩ := bnd h
      refine x_iast (g := g51) hx hb hK hP hD hS 7 0 rfl rfl e51 dX9_append_51 (fun H locs hP hD hS => ?_)
      have hP : va_P (dC, dI) vwCl (wMod a0 cy (ms_text z0_51 g51)) H := hP
      have hD : va_D A (wMod a0 cy (ms_text z0_51 g51)) := hD
      refine lv_aload_n hx hb dX9_append_52 rfl (lv_at hl 0 rfl) ?_
      refine lv_dup hx hb dX9_append_53 rfl ?_
      refine va_get (D := (dC, dI)) (ci := 4) (v := .int (m_textLength (ms_text z0_51 g51))) (C := RX9) (T := TX9) (N := 18) hx hb htg inX9 hown hK hP 0 rfl rfl 9 (by decide) (htg _ gw859) (fun _ h9 => h9) rfl dX9_append_54 ?_
      refine lv_iconst (v := 1) hx hb dX9_append_57 (by decide) ?_
      refine lv_iadd hx hb dX9_append_58 ?_
      obtain ⟨z0_59, ez0_59, h⟩ := bnd h
      replace ez0_59 := Option.some.inj ez0_59
      rw [ez0_59] at hP hD
      refine va_put (D := (dC, dI)) (ci := 4) (v := .int ((m_textLength (ms_text z0_51 g51)) + 1)) (ty := .int) (C := RX9) (T := TX9) (N := 18) hx hb htg inX9 tyX9 tyX9_ok nmX9 hown hK hP hD hS 0 rfl rfl 9 (by decide) (htg _ gw859) (fun _ h9 => h9) rfl (by decide +kernel) rfl rfl (Nat.le_of_ble_eq_true rfl) dX9_append_59 (fun H locs hP hD hS => ?_)
      have hP : va_P (dC, dI) vwCl (wMod a0 cy (ms_textLength z0_59 ((m_textLength (ms_text z0_51 g51)) + 1))) H := hP
      have hD : va_D A (wMod a0 cy (ms_textLength z0_59 ((m_textLength (ms_text z0_51 g51)) + 1))) := hD
      refine lv_aload_n hx hb dX9_append_62 rfl (lv_at hl 0 rfl) ?_
      refine va_get (D := (dC, dI)) (ci := 4) (v := .int (m_textLength (ms_textLength z0_59 ((m_textLength (ms_text z0_51 g51)) + 1)))) (C := RX9) (T := TX9) (N := 18) hx hb htg inX9 hown hK hP 0 rfl rfl 9 (by decide) (htg _ gw859) (fun _ h9 => h9) rfl dX9_append_63 ?_
      obtain rfl := Option.some.inj h
      exact hE H locs 66 ls _ hP hD hS rfl dX9_append_66
    replace h := if_f h c37
    refine lv_iconst (v := 0) hx hb dX9_append_40 (by decide) ?_
    obtain rfl := Option.some.inj h
    exact hE H locs 41 ls _ hP hD hS rfl dX9_append_41
  have h := e9
  clear e9
  refine lv_if_ne (tgt := 16) hx hb dX9_append_9 (by decide) (fun c9 => ?_) (fun c9 => ?_)
  · replace h := if_f h c9
    refine lv_aload_n hx hb dX9_append_16 rfl (lv_at hl 0 rfl) ?_
    refine va_get (D := (dC, dI)) (ci := 4) (v := .int (m_textLength m0)) (C := RX9) (T := TX9) (N := 18) hx hb htg inX9 hown hK hP 0 rfl rfl 9 (by decide) (htg _ gw859) (fun _ h9 => h9) rfl dX9_append_17 ?_
    refine lv_bipush (v := 90) hx hb dX9_append_20 (by decide) ?_
    refine lv_icmp_ne (tgt := 29) hx hb dX9_append_22 (by decide) (fun c22 => ?_) (fun c22 => ?_)
    · replace h := if_f h c22
      refine lv_iconst (v := 0) hx hb dX9_append_29 (by decide) ?_
      obtain rfl := Option.some.inj h
      exact hr30 H locs ls hP hD hS hl
    replace h := if_t h c22
    refine lv_iconst (v := 2) hx hb dX9_append_25 (by decide) ?_
    refine lv_goto (tgt := 30) hx hb dX9_append_26 (by decide) ?_
    obtain rfl := Option.some.inj h
    exact hr30 H locs ls hP hD hS hl
  replace h := if_t h c9
  refine lv_iconst (v := 1) hx hb dX9_append_12 (by decide) ?_
  refine lv_goto (tgt := 30) hx hb dX9_append_13 (by decide) ?_
  obtain rfl := Option.some.inj h
  exact hr30 H locs ls hP hD hS hl
def G_X9_stepX (p0 : Int32) : Option (Int32) :=
  if p0 = 0 then
    some 1
  else
    if p0 = 2 then
      some (-1)
    else
      some 0
abbrev rm_X9_stepX : Room := { frames := 0, cells := 0, slots := 0, locals := 0 }
theorem hdS_X9_stepX : yX9_stepX.cls ≠ "java/lang/invoke/MethodHandle" ∧ yX9_stepX.cls ≠ "java/lang/invoke/VarHandle" ∧ (parseMethodDescriptor yX9_stepX.desc).map (fun d => d.parameters.length) = some 1 := by decide +kernel
set_option maxHeartbeats 4000000 in
set_option maxRecDepth 100000 in
theorem c_X9_stepX (l : Launch) (dC : Nat → ClassId) (dI : Nat → Nat → Nat) (cy : Nat → ClassId)  (p0 : Int32) (res : Int32) (h : G_X9_stepX p0 = some res) : CT l (dC, dI) (TY cy) yX9_stepX cX9_stepX 1 (some .int) rm_X9_stepX [.int p0] ([]) ([]) (some (.int res)) := by
  refine CT.mk_i (own := RX9) ⟨by decide, rfl⟩ (Nat.le_of_ble_eq_true rfl) ?_
  intro p e s mm args below meth cd A Q hx hb hml hown htg hN hK hA hP hD hS hE ls hl
  have hl : lv_has ls 1 [(0, .int p0)] := hl
  replace h : _ = some res := h
  unfold G_X9_stepX at h
  obtain ⟨H, hH⟩ : ∃ H, H = s.heap := ⟨_, rfl⟩
  obtain ⟨locs, hlocs⟩ : ∃ locs : List Loc, locs = [] := ⟨_, rfl⟩
  rw [← hlocs] at hS ⊢
  have hS : va_S A s.heap H locs := by rw [hH]; exact hS
  rw [← hH] at hP ⊢
  refine lv_iload_n hx hb dX9_stepX_0 rfl (lv_at hl 0 rfl) ?_
  refine lv_if_ne (tgt := 8) hx hb dX9_stepX_1 (by decide) (fun c1 => ?_) (fun c1 => ?_)
  · replace h := if_f h c1
    refine lv_iload_n hx hb dX9_stepX_8 rfl (lv_at hl 0 rfl) ?_
    refine lv_iconst (v := 2) hx hb dX9_stepX_9 (by decide) ?_
    refine lv_icmp_ne (tgt := 17) hx hb dX9_stepX_10 (by decide) (fun c10 => ?_) (fun c10 => ?_)
    · replace h := if_f h c10
      refine lv_iconst (v := 0) hx hb dX9_stepX_17 (by decide) ?_
      obtain rfl := Option.some.inj h
      exact hE H locs 18 ls _ hP hD hS rfl dX9_stepX_18
    replace h := if_t h c10
    refine lv_iconst (v := (-1)) hx hb dX9_stepX_13 (by decide) ?_
    refine lv_goto (tgt := 18) hx hb dX9_stepX_14 (by decide) ?_
    obtain rfl := Option.some.inj h
    exact hE H locs 18 ls _ hP hD hS rfl dX9_stepX_18
  replace h := if_t h c1
  refine lv_iconst (v := 1) hx hb dX9_stepX_4 (by decide) ?_
  refine lv_goto (tgt := 18) hx hb dX9_stepX_5 (by decide) ?_
  obtain rfl := Option.some.inj h
  exact hE H locs 18 ls _ hP hD hS rfl dX9_stepX_18
def G_X9_stepY (p0 : Int32) : Option (Int32) :=
  if p0 = 1 then
    some 1
  else
    if p0 = 3 then
      some (-1)
    else
      some 0
abbrev rm_X9_stepY : Room := { frames := 0, cells := 0, slots := 0, locals := 0 }
theorem hdS_X9_stepY : yX9_stepY.cls ≠ "java/lang/invoke/MethodHandle" ∧ yX9_stepY.cls ≠ "java/lang/invoke/VarHandle" ∧ (parseMethodDescriptor yX9_stepY.desc).map (fun d => d.parameters.length) = some 1 := by decide +kernel
set_option maxHeartbeats 4000000 in
set_option maxRecDepth 100000 in
theorem c_X9_stepY (l : Launch) (dC : Nat → ClassId) (dI : Nat → Nat → Nat) (cy : Nat → ClassId)  (p0 : Int32) (res : Int32) (h : G_X9_stepY p0 = some res) : CT l (dC, dI) (TY cy) yX9_stepY cX9_stepY 1 (some .int) rm_X9_stepY [.int p0] ([]) ([]) (some (.int res)) := by
  refine CT.mk_i (own := RX9) ⟨by decide, rfl⟩ (Nat.le_of_ble_eq_true rfl) ?_
  intro p e s mm args below meth cd A Q hx hb hml hown htg hN hK hA hP hD hS hE ls hl
  have hl : lv_has ls 1 [(0, .int p0)] := hl
  replace h : _ = some res := h
  unfold G_X9_stepY at h
  obtain ⟨H, hH⟩ : ∃ H, H = s.heap := ⟨_, rfl⟩
  obtain ⟨locs, hlocs⟩ : ∃ locs : List Loc, locs = [] := ⟨_, rfl⟩
  rw [← hlocs] at hS ⊢
  have hS : va_S A s.heap H locs := by rw [hH]; exact hS
  rw [← hH] at hP ⊢
  refine lv_iload_n hx hb dX9_stepY_0 rfl (lv_at hl 0 rfl) ?_
  refine lv_iconst (v := 1) hx hb dX9_stepY_1 (by decide) ?_
  refine lv_icmp_ne (tgt := 9) hx hb dX9_stepY_2 (by decide) (fun c2 => ?_) (fun c2 => ?_)
  · replace h := if_f h c2
    refine lv_iload_n hx hb dX9_stepY_9 rfl (lv_at hl 0 rfl) ?_
    refine lv_iconst (v := 3) hx hb dX9_stepY_10 (by decide) ?_
    refine lv_icmp_ne (tgt := 18) hx hb dX9_stepY_11 (by decide) (fun c11 => ?_) (fun c11 => ?_)
    · replace h := if_f h c11
      refine lv_iconst (v := 0) hx hb dX9_stepY_18 (by decide) ?_
      obtain rfl := Option.some.inj h
      exact hE H locs 19 ls _ hP hD hS rfl dX9_stepY_19
    replace h := if_t h c11
    refine lv_iconst (v := (-1)) hx hb dX9_stepY_14 (by decide) ?_
    refine lv_goto (tgt := 19) hx hb dX9_stepY_15 (by decide) ?_
    obtain rfl := Option.some.inj h
    exact hE H locs 19 ls _ hP hD hS rfl dX9_stepY_19
  replace h := if_t h c2
  refine lv_iconst (v := 1) hx hb dX9_stepY_5 (by decide) ?_
  refine lv_goto (tgt := 19) hx hb dX9_stepY_6 (by decide) ?_
  obtain rfl := Option.some.inj h
  exact hE H locs 19 ls _ hP hD hS rfl dX9_stepY_19
def G_X9_isRing (m0 : Mod) (p1 : Int32) : Option (Int32) :=
  (rd 85 (m_state m0) 0).bind fun v7 =>
  (G_X9_within p1 0 (v7 - 1)).bind fun v10 =>
  (bck v10).bind fun v13 =>
  some v13
abbrev rm_X9_isRing : Room := { frames := 1, cells := 0, slots := 0, locals := 22 }
theorem hdS_X9_isRing : yX9_isRing.cls ≠ "java/lang/invoke/MethodHandle" ∧ yX9_isRing.cls ≠ "java/lang/invoke/VarHandle" ∧ (parseMethodDescriptor yX9_isRing.desc).map (fun d => d.parameters.length) = some 1 := by decide +kernel
theorem hdV_X9_isRing : yX9_isRing.cls = RX9 ∧ yX9_isRing.cls ≠ "java/lang/invoke/MethodHandle" ∧ yX9_isRing.cls ≠ "java/lang/invoke/VarHandle" ∧ (parseMethodDescriptor yX9_isRing.desc).map (fun d => d.parameters.length) = some 1 := ⟨rfl, hdS_X9_isRing⟩
set_option maxHeartbeats 4000000 in
set_option maxRecDepth 100000 in
theorem c_X9_isRing (l : Launch) (dC : Nat → ClassId) (dI : Nat → Nat → Nat) (cy : Nat → ClassId) (a0 : Nat → Nat) (m0 : Mod) (p1 : Int32) (res : Int32) (h : G_X9_isRing m0 p1 = some res) : CT l (dC, dI) (TY cy) yX9_isRing cX9_isRing 2 (some .boolean) rm_X9_isRing [.ref (a0 0), .int p1] (wMod a0 cy m0) (wMod a0 cy m0) (some (.int res)) := by
  refine CT.mk_z (own := RX9) ⟨by decide, rfl⟩ (Nat.le_of_ble_eq_true rfl) ?_
  intro p e s mm args below meth cd A Q hx hb hml hown htg hN hK hA hP hD hS hE ls hl
  have hl : lv_has ls 2 [(0, .ref (a0 0)), (1, .int p1)] := hl
  replace h : _ = some res := h
  unfold G_X9_isRing at h
  obtain ⟨H, hH⟩ : ∃ H, H = s.heap := ⟨_, rfl⟩
  obtain ⟨locs, hlocs⟩ : ∃ locs : List Loc, locs = [] := ⟨_, rfl⟩
  rw [← hlocs] at hS ⊢
  have hS : va_S A s.heap H locs := by rw [hH]; exact hS
  rw [← hH] at hP ⊢
  refine lv_iload_n hx hb dX9_isRing_0 rfl (lv_at hl 1 rfl) ?_
  refine lv_iconst (v := 0) hx hb dX9_isRing_1 (by decide) ?_
  refine lv_aload_n hx hb dX9_isRing_2 rfl (lv_at hl 0 rfl) ?_
  refine va_get (D := (dC, dI)) (ci := 4) (v := .ref (a0 1)) (C := RX9) (T := TX9) (N := 18) hx hb htg inX9 hown hK hP 0 rfl rfl 1 (by decide) (htg _ gw851) (fun _ h9 => h9) rfl dX9_isRing_3 ?_
  refine lv_iconst (v := 0) hx hb dX9_isRing_6 (by decide) ?_
  obtain ⟨v7, e7, h⟩ := bnd h
  refine x_iald (v := v7) hx hb hK hP 1 0 rfl rfl e7 dX9_isRing_7 ?_
  refine lv_iconst (v := 1) hx hb dX9_isRing_8 (by decide) ?_
  refine lv_isub hx hb dX9_isRing_9 ?_
  obtain ⟨v10, e10, h⟩ := bnd h
  refine cS (av := [.int p1, .int 0, .int (v7 - 1)]) (rest := []) (st1 := [.int v10]) (k1 := 0) (k2 := 0) hx hb hml hown htg hN hK (c_X9_within l dC dI cy   p1 0 (v7 - 1) v10 e10) (g_S gw913 gw914 gw63 gw915) hdS_X9_within rfl ⟨⟨Nat.le_of_ble_eq_true rfl, Nat.le_of_ble_eq_true rfl⟩, Nat.le_of_ble_eq_true rfl, Nat.le_of_ble_eq_true rfl⟩ hP hD hS hA [] [0, 1, 2, 3, 4, 5, 6, 7, 8, 9, 10, 11, 12, 13, 14] rfl rfl rfl (by decide) (by decide) hl.1 rfl (Nat.le_of_ble_eq_true rfl) rfl rfl rfl dX9_isRing_10 (fun H locs hP hD hS => ?_)
  obtain ⟨hP, hD⟩ := x_perm (ws' := wMod a0 cy m0) hP hD [0, 1, 2, 3, 4, 5, 6, 7, 8, 9, 10, 11, 12, 13, 14] (by decide) rfl rfl
  obtain ⟨v13, e13, h⟩ := bnd h
  obtain ⟨rfl, hz13⟩ := bck_in e13
  obtain rfl := Option.some.inj h
  exact hE H locs 13 ls _ hP hD hS rfl hz13 dX9_isRing_13
def G_X9_isCorner (m0 : Mod) (p1 : Int32) (p2 : Int32) : Option (Int32) :=
  (G_X9_isRing m0 p1).bind fun v2 =>
  if v2 = 0 then
    some 0
  else
    (G_X9_many m0 p1).bind fun v12 =>
    (G_X9_within p2 0 (v12 - 1)).bind fun v17 =>
    if v17 = 0 then
      some 0
    else
      some 1
abbrev rm_X9_isCorner : Room := { frames := 2, cells := 0, slots := 0, locals := 43 }
theorem hdS_X9_isCorner : yX9_isCorner.cls ≠ "java/lang/invoke/MethodHandle" ∧ yX9_isCorner.cls ≠ "java/lang/invoke/VarHandle" ∧ (parseMethodDescriptor yX9_isCorner.desc).map (fun d => d.parameters.length) = some 2 := by decide +kernel
theorem hdV_X9_isCorner : yX9_isCorner.cls = RX9 ∧ yX9_isCorner.cls ≠ "java/lang/invoke/MethodHandle" ∧ yX9_isCorner.cls ≠ "java/lang/invoke/VarHandle" ∧ (parseMethodDescriptor yX9_isCorner.desc).map (fun d => d.parameters.length) = some 2 := ⟨rfl, hdS_X9_isCorner⟩
set_option maxHeartbeats 4000000 in
set_option maxRecDepth 100000 in
theorem c_X9_isCorner (l : Launch) (dC : Nat → ClassId) (dI : Nat → Nat → Nat) (cy : Nat → ClassId) (a0 : Nat → Nat) (m0 : Mod) (p1 : Int32) (p2 : Int32) (res : Int32) (h : G_X9_isCorner m0 p1 p2 = some res) : CT l (dC, dI) (TY cy) yX9_isCorner cX9_isCorner 3 (some .boolean) rm_X9_isCorner [.ref (a0 0), .int p1, .int p2] (wMod a0 cy m0) (wMod a0 cy m0) (some (.int res)) := by
  refine CT.mk_z (own := RX9) ⟨by decide, rfl⟩ (Nat.le_of_ble_eq_true rfl) ?_
  intro p e s mm args below meth cd A Q hx hb hml hown htg hN hK hA hP hD hS hE ls hl
  have hl : lv_has ls 3 [(0, .ref (a0 0)), (1, .int p1), (2, .int p2)] := hl
  replace h : _ = some res := h
  unfold G_X9_isCorner at h
  obtain ⟨H, hH⟩ : ∃ H, H = s.heap := ⟨_, rfl⟩
  obtain ⟨locs, hlocs⟩ : ∃ locs : List Loc, locs = [] := ⟨_, rfl⟩
  rw [← hlocs] at hS ⊢
  have hS : va_S A s.heap H locs := by rw [hH]; exact hS
  rw [← hH] at hP ⊢
  refine lv_aload_n hx hb dX9_isCorner_0 rfl (lv_at hl 0 rfl) ?_
  refine lv_iload_n hx hb dX9_isCorner_1 rfl (lv_at hl 1 rfl) ?_
  obtain ⟨v2, e2, h⟩ := bnd h
  refine cV (av := [.int p1]) (rest := []) (st1 := [.int v2]) (k1 := 0) (k2 := 0) (ci := 4) (q0 := 0) hx hb hml hown htg hN hK (c_X9_isRing l dC dI cy a0 m0 p1 v2 e2) (g_V gw1086 gw1088 gw41 gw63 gw1089) hdV_X9_isRing rfl ⟨⟨Nat.le_of_ble_eq_true rfl, Nat.le_of_ble_eq_true rfl⟩, Nat.le_of_ble_eq_true rfl, Nat.le_of_ble_eq_true rfl⟩ hP hD hS hA ⟨rfl, rfl⟩ rfl [0, 1, 2, 3, 4, 5, 6, 7, 8, 9, 10, 11, 12, 13, 14] [] rfl rfl rfl (by decide) (by decide) hl.1 rfl (Nat.le_of_ble_eq_true rfl) rfl rfl rfl dX9_isCorner_2 (fun H locs hP hD hS => ?_)
  have hP : va_P (dC, dI) vwCl (wMod a0 cy m0) H := hP
  have hD : va_D A (wMod a0 cy m0) := hD
  refine lv_if_eq (tgt := 27) hx hb dX9_isCorner_5 (by decide) (fun c5 => ?_) (fun c5 => ?_)
  · replace h := if_t h c5
    refine lv_iconst (v := 0) hx hb dX9_isCorner_27 (by decide) ?_
    obtain rfl := Option.some.inj h
    exact hE H locs 28 ls _ hP hD hS rfl (Or.inl rfl) dX9_isCorner_28
  replace h := if_f h c5
  refine lv_iload_n hx hb dX9_isCorner_8 rfl (lv_at hl 2 rfl) ?_
  refine lv_iconst (v := 0) hx hb dX9_isCorner_9 (by decide) ?_
  refine lv_aload_n hx hb dX9_isCorner_10 rfl (lv_at hl 0 rfl) ?_
  refine lv_iload_n hx hb dX9_isCorner_11 rfl (lv_at hl 1 rfl) ?_
  obtain ⟨v12, e12, h⟩ := bnd h
  refine cV (av := [.int p1]) (rest := [.int 0, .int p2]) (st1 := [.int v12, .int 0, .int p2]) (k1 := 0) (k2 := 0) (ci := 4) (q0 := 0) hx hb hml hown htg hN hK (c_X9_many l dC dI cy a0 m0 p1 v12 e12) (g_V gw935 gw937 gw10 gw63 gw938) hdV_X9_many rfl ⟨⟨Nat.le_of_ble_eq_true rfl, Nat.le_of_ble_eq_true rfl⟩, Nat.le_of_ble_eq_true rfl, Nat.le_of_ble_eq_true rfl⟩ hP hD hS hA ⟨rfl, rfl⟩ rfl [0, 1, 2, 3, 4, 5, 6, 7, 8, 9, 10, 11, 12, 13, 14] [] rfl rfl rfl (by decide) (by decide) hl.1 rfl (Nat.le_of_ble_eq_true rfl) rfl rfl rfl dX9_isCorner_12 (fun H locs hP hD hS => ?_)
  have hP : va_P (dC, dI) vwCl (wMod a0 cy m0) H := hP
  have hD : va_D A (wMod a0 cy m0) := hD
  refine lv_iconst (v := 1) hx hb dX9_isCorner_15 (by decide) ?_
  refine lv_isub hx hb dX9_isCorner_16 ?_
  obtain ⟨v17, e17, h⟩ := bnd h
  refine cS (av := [.int p2, .int 0, .int (v12 - 1)]) (rest := []) (st1 := [.int v17]) (k1 := 0) (k2 := 0) hx hb hml hown htg hN hK (c_X9_within l dC dI cy   p2 0 (v12 - 1) v17 e17) (g_S gw913 gw914 gw63 gw915) hdS_X9_within rfl ⟨⟨Nat.le_of_ble_eq_true rfl, Nat.le_of_ble_eq_true rfl⟩, Nat.le_of_ble_eq_true rfl, Nat.le_of_ble_eq_true rfl⟩ hP hD hS hA [] [0, 1, 2, 3, 4, 5, 6, 7, 8, 9, 10, 11, 12, 13, 14] rfl rfl rfl (by decide) (by decide) hl.1 rfl (Nat.le_of_ble_eq_true rfl) rfl rfl rfl dX9_isCorner_17 (fun H locs hP hD hS => ?_)
  obtain ⟨hP, hD⟩ := x_perm (ws' := wMod a0 cy m0) hP hD [0, 1, 2, 3, 4, 5, 6, 7, 8, 9, 10, 11, 12, 13, 14] (by decide) rfl rfl
  refine lv_if_eq (tgt := 27) hx hb dX9_isCorner_20 (by decide) (fun c20 => ?_) (fun c20 => ?_)
  · replace h := if_t h c20
    refine lv_iconst (v := 0) hx hb dX9_isCorner_27 (by decide) ?_
    obtain rfl := Option.some.inj h
    exact hE H locs 28 ls _ hP hD hS rfl (Or.inl rfl) dX9_isCorner_28
  replace h := if_f h c20
  refine lv_iconst (v := 1) hx hb dX9_isCorner_23 (by decide) ?_
  refine lv_goto (tgt := 28) hx hb dX9_isCorner_24 (by decide) ?_
  obtain rfl := Option.some.inj h
  exact hE H locs 28 ls _ hP hD hS rfl (Or.inr rfl) dX9_isCorner_28
def G_X9_tryMove (m0 : Mod) (p1 : Int32) (p2 : Int32) (p3 : Int32) (p4 : Int32) : Option (Int32 × Mod) :=
  (G_X9_isCorner m0 p1 p2).bind fun v3 =>
  if v3 = 0 then
    some (1, m0)
  else
    (G_X9_begin m0).bind fun v12 =>
    (G_X9_setCorner v12 p1 p2 p3 p4).bind fun v21 =>
    (G_X9_end v21).bind fun v25 =>
    some (v25.1, v25.2)
abbrev rm_X9_tryMove : Room := { frames := 6, cells := 0, slots := 0, locals := 146 }
theorem hdS_X9_tryMove : yX9_tryMove.cls ≠ "java/lang/invoke/MethodHandle" ∧ yX9_tryMove.cls ≠ "java/lang/invoke/VarHandle" ∧ (parseMethodDescriptor yX9_tryMove.desc).map (fun d => d.parameters.length) = some 4 := by decide +kernel
theorem hdV_X9_tryMove : yX9_tryMove.cls = RX9 ∧ yX9_tryMove.cls ≠ "java/lang/invoke/MethodHandle" ∧ yX9_tryMove.cls ≠ "java/lang/invoke/VarHandle" ∧ (parseMethodDescriptor yX9_tryMove.desc).map (fun d => d.parameters.length) = some 4 := ⟨rfl, hdS_X9_tryMove⟩
set_option maxHeartbeats 4000000 in
set_option maxRecDepth 100000 in
theorem c_X9_tryMove (l : Launch) (dC : Nat → ClassId) (dI : Nat → Nat → Nat) (cy : Nat → ClassId) (a0 : Nat → Nat) (m0 : Mod) (p1 : Int32) (p2 : Int32) (p3 : Int32) (p4 : Int32) (res : Int32 × Mod) (h : G_X9_tryMove m0 p1 p2 p3 p4 = some res) : CT l (dC, dI) (TY cy) yX9_tryMove cX9_tryMove 5 (some .int) rm_X9_tryMove [.ref (a0 0), .int p1, .int p2, .int p3, .int p4] (wMod a0 cy m0) (wMod a0 cy res.2) (some (.int res.1)) := by
  refine CT.mk_i (own := RX9) ⟨by decide, rfl⟩ (Nat.le_of_ble_eq_true rfl) ?_
  intro p e s mm args below meth cd A Q hx hb hml hown htg hN hK hA hP hD hS hE ls hl
  have hl : lv_has ls 5 [(0, .ref (a0 0)), (1, .int p1), (2, .int p2), (3, .int p3), (4, .int p4)] := hl
  replace h : _ = some res := h
  unfold G_X9_tryMove at h
  obtain ⟨H, hH⟩ : ∃ H, H = s.heap := ⟨_, rfl⟩
  obtain ⟨locs, hlocs⟩ : ∃ locs : List Loc, locs = [] := ⟨_, rfl⟩
  rw [← hlocs] at hS ⊢
  have hS : va_S A s.heap H locs := by rw [hH]; exact hS
  rw [← hH] at hP ⊢
  refine lv_aload_n hx hb dX9_tryMove_0 rfl (lv_at hl 0 rfl) ?_
  refine lv_iload_n hx hb dX9_tryMove_1 rfl (lv_at hl 1 rfl) ?_
  refine lv_iload_n hx hb dX9_tryMove_2 rfl (lv_at hl 2 rfl) ?_
  obtain ⟨v3, e3, h⟩ := bnd h
  refine cV (av := [.int p1, .int p2]) (rest := []) (st1 := [.int v3]) (k1 := 0) (k2 := 0) (ci := 4) (q0 := 0) hx hb hml hown htg hN hK (c_X9_isCorner l dC dI cy a0 m0 p1 p2 v3 e3) (g_V gw1102 gw1104 gw44 gw63 gw1105) hdV_X9_isCorner rfl ⟨⟨Nat.le_of_ble_eq_true rfl, Nat.le_of_ble_eq_true rfl⟩, Nat.le_of_ble_eq_true rfl, Nat.le_of_ble_eq_true rfl⟩ hP hD hS hA ⟨rfl, rfl⟩ rfl [0, 1, 2, 3, 4, 5, 6, 7, 8, 9, 10, 11, 12, 13, 14] [] rfl rfl rfl (by decide) (by decide) hl.1 rfl (Nat.le_of_ble_eq_true rfl) rfl rfl rfl dX9_tryMove_3 (fun H locs hP hD hS => ?_)
  have hP : va_P (dC, dI) vwCl (wMod a0 cy m0) H := hP
  have hD : va_D A (wMod a0 cy m0) := hD
  refine lv_if_ne (tgt := 11) hx hb dX9_tryMove_6 (by decide) (fun c6 => ?_) (fun c6 => ?_)
  · replace h := if_f h c6
    refine lv_aload_n hx hb dX9_tryMove_11 rfl (lv_at hl 0 rfl) ?_
    obtain ⟨v12, e12, h⟩ := bnd h
    refine cV (av := []) (rest := []) (st1 := []) (k1 := 0) (k2 := 0) (ci := 4) (q0 := 0) hx hb hml hown htg hN hK (c_X9_begin l dC dI cy a0 m0  v12 e12) (g_V gw1125 gw1127 gw46 gw63 gw1128) hdV_X9_begin rfl ⟨⟨Nat.le_of_ble_eq_true rfl, Nat.le_of_ble_eq_true rfl⟩, Nat.le_of_ble_eq_true rfl, Nat.le_of_ble_eq_true rfl⟩ hP hD hS hA ⟨rfl, rfl⟩ rfl [0, 1, 2, 3, 4, 5, 6, 7, 8, 9, 10, 11, 12, 13, 14] [] rfl rfl rfl (by decide) (by decide) hl.1 rfl (Nat.le_of_ble_eq_true rfl) rfl rfl rfl dX9_tryMove_12 (fun H locs hP hD hS => ?_)
    have hP : va_P (dC, dI) vwCl (wMod a0 cy v12) H := hP
    have hD : va_D A (wMod a0 cy v12) := hD
    refine lv_aload_n hx hb dX9_tryMove_15 rfl (lv_at hl 0 rfl) ?_
    refine lv_iload_n hx hb dX9_tryMove_16 rfl (lv_at hl 1 rfl) ?_
    refine lv_iload_n hx hb dX9_tryMove_17 rfl (lv_at hl 2 rfl) ?_
    refine lv_iload_n hx hb dX9_tryMove_18 rfl (lv_at hl 3 rfl) ?_
    refine lv_iload hx hb dX9_tryMove_19 (lv_at hl 4 rfl) ?_
    obtain ⟨v21, e21, h⟩ := bnd h
    refine cV (av := [.int p1, .int p2, .int p3, .int p4]) (rest := []) (st1 := []) (k1 := 0) (k2 := 0) (ci := 4) (q0 := 0) hx hb hml hown htg hN hK (c_X9_setCorner l dC dI cy a0 v12 p1 p2 p3 p4 v21 e21) (g_V gw846 gw848 gw7 gw63 gw849) hdV_X9_setCorner rfl ⟨⟨Nat.le_of_ble_eq_true rfl, Nat.le_of_ble_eq_true rfl⟩, Nat.le_of_ble_eq_true rfl, Nat.le_of_ble_eq_true rfl⟩ hP hD hS hA ⟨rfl, rfl⟩ rfl [0, 1, 2, 3, 4, 5, 6, 7, 8, 9, 10, 11, 12, 13, 14] [] rfl rfl rfl (by decide) (by decide) hl.1 rfl (Nat.le_of_ble_eq_true rfl) rfl rfl rfl dX9_tryMove_21 (fun H locs hP hD hS => ?_)
    have hP : va_P (dC, dI) vwCl (wMod a0 cy v21) H := hP
    have hD : va_D A (wMod a0 cy v21) := hD
    refine lv_aload_n hx hb dX9_tryMove_24 rfl (lv_at hl 0 rfl) ?_
    obtain ⟨v25, e25, h⟩ := bnd h
    refine cV (av := []) (rest := []) (st1 := [.int v25.1]) (k1 := 0) (k2 := 0) (ci := 4) (q0 := 0) hx hb hml hown htg hN hK (c_X9_end l dC dI cy a0 v21  v25 e25) (g_V gw1129 gw1131 gw47 gw63 gw1132) hdV_X9_end rfl ⟨⟨Nat.le_of_ble_eq_true rfl, Nat.le_of_ble_eq_true rfl⟩, Nat.le_of_ble_eq_true rfl, Nat.le_of_ble_eq_true rfl⟩ hP hD hS hA ⟨rfl, rfl⟩ rfl [0, 1, 2, 3, 4, 5, 6, 7, 8, 9, 10, 11, 12, 13, 14] [] rfl rfl rfl (by decide) (by decide) hl.1 rfl (Nat.le_of_ble_eq_true rfl) rfl rfl rfl dX9_tryMove_25 (fun H locs hP hD hS => ?_)
    have hP : va_P (dC, dI) vwCl (wMod a0 cy v25.2) H := hP
    have hD : va_D A (wMod a0 cy v25.2) := hD
    obtain rfl := Option.some.inj h
    exact hE H locs 28 ls _ hP hD hS rfl dX9_tryMove_28
  replace h := if_t h c6
  refine lv_iconst (v := 1) hx hb dX9_tryMove_9 (by decide) ?_
  obtain rfl := Option.some.inj h
  exact hE H locs 10 ls _ hP hD hS rfl dX9_tryMove_10
def G_X9_isStepped (m0 : Mod) (p1 : Int32) (p2 : Int32) : Option (Int32 × Mod) :=
  (G_X9_x m0 0 p1).bind fun v6 =>
  (G_X9_stepX p2).bind fun v10 =>
  (G_X9_y m0 0 p1).bind fun v17 =>
  (G_X9_stepY p2).bind fun v21 =>
  (G_X9_tryMove m0 0 p1 (v6 + v10) (v17 + v21)).bind fun v25 =>
  if v25.1 = 0 then
    some (1, v25.2)
  else
    some (0, v25.2)
abbrev rm_X9_isStepped : Room := { frames := 7, cells := 0, slots := 0, locals := 170 }
theorem hdS_X9_isStepped : yX9_isStepped.cls ≠ "java/lang/invoke/MethodHandle" ∧ yX9_isStepped.cls ≠ "java/lang/invoke/VarHandle" ∧ (parseMethodDescriptor yX9_isStepped.desc).map (fun d => d.parameters.length) = some 2 := by decide +kernel
theorem hdV_X9_isStepped : yX9_isStepped.cls = RX9 ∧ yX9_isStepped.cls ≠ "java/lang/invoke/MethodHandle" ∧ yX9_isStepped.cls ≠ "java/lang/invoke/VarHandle" ∧ (parseMethodDescriptor yX9_isStepped.desc).map (fun d => d.parameters.length) = some 2 := ⟨rfl, hdS_X9_isStepped⟩
set_option maxHeartbeats 4000000 in
set_option maxRecDepth 100000 in
theorem c_X9_isStepped (l : Launch) (dC : Nat → ClassId) (dI : Nat → Nat → Nat) (cy : Nat → ClassId) (a0 : Nat → Nat) (m0 : Mod) (p1 : Int32) (p2 : Int32) (res : Int32 × Mod) (h : G_X9_isStepped m0 p1 p2 = some res) : CT l (dC, dI) (TY cy) yX9_isStepped cX9_isStepped 3 (some .boolean) rm_X9_isStepped [.ref (a0 0), .int p1, .int p2] (wMod a0 cy m0) (wMod a0 cy res.2) (some (.int res.1)) := by
  refine CT.mk_z (own := RX9) ⟨by decide, rfl⟩ (Nat.le_of_ble_eq_true rfl) ?_
  intro p e s mm args below meth cd A Q hx hb hml hown htg hN hK hA hP hD hS hE ls hl
  have hl : lv_has ls 3 [(0, .ref (a0 0)), (1, .int p1), (2, .int p2)] := hl
  replace h : _ = some res := h
  unfold G_X9_isStepped at h
  obtain ⟨H, hH⟩ : ∃ H, H = s.heap := ⟨_, rfl⟩
  obtain ⟨locs, hlocs⟩ : ∃ locs : List Loc, locs = [] := ⟨_, rfl⟩
  rw [← hlocs] at hS ⊢
  have hS : va_S A s.heap H locs := by rw [hH]; exact hS
  rw [← hH] at hP ⊢
  refine lv_aload_n hx hb dX9_isStepped_0 rfl (lv_at hl 0 rfl) ?_
  refine lv_iconst (v := 0) hx hb dX9_isStepped_1 (by decide) ?_
  refine lv_iload_n hx hb dX9_isStepped_2 rfl (lv_at hl 1 rfl) ?_
  refine lv_aload_n hx hb dX9_isStepped_3 rfl (lv_at hl 0 rfl) ?_
  refine lv_iconst (v := 0) hx hb dX9_isStepped_4 (by decide) ?_
  refine lv_iload_n hx hb dX9_isStepped_5 rfl (lv_at hl 1 rfl) ?_
  obtain ⟨v6, e6, h⟩ := bnd h
  refine cV (av := [.int 0, .int p1]) (rest := [.int p1, .int 0, .ref (a0 0)]) (st1 := [.int v6, .int p1, .int 0, .ref (a0 0)]) (k1 := 0) (k2 := 0) (ci := 4) (q0 := 0) hx hb hml hown htg hN hK (c_X9_x l dC dI cy a0 m0 0 p1 v6 e6) (g_V gw947 gw949 gw13 gw63 gw950) hdV_X9_x rfl ⟨⟨Nat.le_of_ble_eq_true rfl, Nat.le_of_ble_eq_true rfl⟩, Nat.le_of_ble_eq_true rfl, Nat.le_of_ble_eq_true rfl⟩ hP hD hS hA ⟨rfl, rfl⟩ rfl [0, 1, 2, 3, 4, 5, 6, 7, 8, 9, 10, 11, 12, 13, 14] [] rfl rfl rfl (by decide) (by decide) hl.1 rfl (Nat.le_of_ble_eq_true rfl) rfl rfl rfl dX9_isStepped_6 (fun H locs hP hD hS => ?_)
  have hP : va_P (dC, dI) vwCl (wMod a0 cy m0) H := hP
  have hD : va_D A (wMod a0 cy m0) := hD
  refine lv_iload_n hx hb dX9_isStepped_9 rfl (lv_at hl 2 rfl) ?_
  obtain ⟨v10, e10, h⟩ := bnd h
  refine cS (av := [.int p2]) (rest := [.int v6, .int p1, .int 0, .ref (a0 0)]) (st1 := [.int v10, .int v6, .int p1, .int 0, .ref (a0 0)]) (k1 := 0) (k2 := 0) hx hb hml hown htg hN hK (c_X9_stepX l dC dI cy   p2 v10 e10) (g_S gw1209 gw1210 gw63 gw1211) hdS_X9_stepX rfl ⟨⟨Nat.le_of_ble_eq_true rfl, Nat.le_of_ble_eq_true rfl⟩, Nat.le_of_ble_eq_true rfl, Nat.le_of_ble_eq_true rfl⟩ hP hD hS hA [] [0, 1, 2, 3, 4, 5, 6, 7, 8, 9, 10, 11, 12, 13, 14] rfl rfl rfl (by decide) (by decide) hl.1 rfl (Nat.le_of_ble_eq_true rfl) rfl rfl rfl dX9_isStepped_10 (fun H locs hP hD hS => ?_)
  obtain ⟨hP, hD⟩ := x_perm (ws' := wMod a0 cy m0) hP hD [0, 1, 2, 3, 4, 5, 6, 7, 8, 9, 10, 11, 12, 13, 14] (by decide) rfl rfl
  refine lv_iadd hx hb dX9_isStepped_13 ?_
  refine lv_aload_n hx hb dX9_isStepped_14 rfl (lv_at hl 0 rfl) ?_
  refine lv_iconst (v := 0) hx hb dX9_isStepped_15 (by decide) ?_
  refine lv_iload_n hx hb dX9_isStepped_16 rfl (lv_at hl 1 rfl) ?_
  obtain ⟨v17, e17, h⟩ := bnd h
  refine cV (av := [.int 0, .int p1]) (rest := [.int (v6 + v10), .int p1, .int 0, .ref (a0 0)]) (st1 := [.int v17, .int (v6 + v10), .int p1, .int 0, .ref (a0 0)]) (k1 := 0) (k2 := 0) (ci := 4) (q0 := 0) hx hb hml hown htg hN hK (c_X9_y l dC dI cy a0 m0 0 p1 v17 e17) (g_V gw951 gw953 gw14 gw63 gw954) hdV_X9_y rfl ⟨⟨Nat.le_of_ble_eq_true rfl, Nat.le_of_ble_eq_true rfl⟩, Nat.le_of_ble_eq_true rfl, Nat.le_of_ble_eq_true rfl⟩ hP hD hS hA ⟨rfl, rfl⟩ rfl [0, 1, 2, 3, 4, 5, 6, 7, 8, 9, 10, 11, 12, 13, 14] [] rfl rfl rfl (by decide) (by decide) hl.1 rfl (Nat.le_of_ble_eq_true rfl) rfl rfl rfl dX9_isStepped_17 (fun H locs hP hD hS => ?_)
  have hP : va_P (dC, dI) vwCl (wMod a0 cy m0) H := hP
  have hD : va_D A (wMod a0 cy m0) := hD
  refine lv_iload_n hx hb dX9_isStepped_20 rfl (lv_at hl 2 rfl) ?_
  obtain ⟨v21, e21, h⟩ := bnd h
  refine cS (av := [.int p2]) (rest := [.int v17, .int (v6 + v10), .int p1, .int 0, .ref (a0 0)]) (st1 := [.int v21, .int v17, .int (v6 + v10), .int p1, .int 0, .ref (a0 0)]) (k1 := 0) (k2 := 0) hx hb hml hown htg hN hK (c_X9_stepY l dC dI cy   p2 v21 e21) (g_S gw1212 gw1213 gw63 gw1214) hdS_X9_stepY rfl ⟨⟨Nat.le_of_ble_eq_true rfl, Nat.le_of_ble_eq_true rfl⟩, Nat.le_of_ble_eq_true rfl, Nat.le_of_ble_eq_true rfl⟩ hP hD hS hA [] [0, 1, 2, 3, 4, 5, 6, 7, 8, 9, 10, 11, 12, 13, 14] rfl rfl rfl (by decide) (by decide) hl.1 rfl (Nat.le_of_ble_eq_true rfl) rfl rfl rfl dX9_isStepped_21 (fun H locs hP hD hS => ?_)
  obtain ⟨hP, hD⟩ := x_perm (ws' := wMod a0 cy m0) hP hD [0, 1, 2, 3, 4, 5, 6, 7, 8, 9, 10, 11, 12, 13, 14] (by decide) rfl rfl
  refine lv_iadd hx hb dX9_isStepped_24 ?_
  obtain ⟨v25, e25, h⟩ := bnd h
  refine cV (av := [.int 0, .int p1, .int (v6 + v10), .int (v17 + v21)]) (rest := []) (st1 := [.int v25.1]) (k1 := 0) (k2 := 0) (ci := 4) (q0 := 0) hx hb hml hown htg hN hK (c_X9_tryMove l dC dI cy a0 m0 0 p1 (v6 + v10) (v17 + v21) v25 e25) (g_V gw1121 gw1123 gw45 gw63 gw1124) hdV_X9_tryMove rfl ⟨⟨Nat.le_of_ble_eq_true rfl, Nat.le_of_ble_eq_true rfl⟩, Nat.le_of_ble_eq_true rfl, Nat.le_of_ble_eq_true rfl⟩ hP hD hS hA ⟨rfl, rfl⟩ rfl [0, 1, 2, 3, 4, 5, 6, 7, 8, 9, 10, 11, 12, 13, 14] [] rfl rfl rfl (by decide) (by decide) hl.1 rfl (Nat.le_of_ble_eq_true rfl) rfl rfl rfl dX9_isStepped_25 (fun H locs hP hD hS => ?_)
  have hP : va_P (dC, dI) vwCl (wMod a0 cy v25.2) H := hP
  have hD : va_D A (wMod a0 cy v25.2) := hD
  refine lv_if_ne (tgt := 35) hx hb dX9_isStepped_28 (by decide) (fun c28 => ?_) (fun c28 => ?_)
  · replace h := if_f h c28
    refine lv_iconst (v := 0) hx hb dX9_isStepped_35 (by decide) ?_
    obtain rfl := Option.some.inj h
    exact hE H locs 36 ls _ hP hD hS rfl (Or.inl rfl) dX9_isStepped_36
  replace h := if_t h c28
  refine lv_iconst (v := 1) hx hb dX9_isStepped_31 (by decide) ?_
  refine lv_goto (tgt := 36) hx hb dX9_isStepped_32 (by decide) ?_
  obtain rfl := Option.some.inj h
  exact hE H locs 36 ls _ hP hD hS rfl (Or.inr rfl) dX9_isStepped_36
def G_X9_bestMove_j105 (r24 : Mod → Int32 → Int32 → Int32 → Int32 → Option (Int32 × Mod))  (m0_105 : Mod) (l4_105 : Int32) (l3_105 : Int32) (l2_105 : Int32) (l1_105 : Int32) : Option (Int32 × Mod) :=
  r24 m0_105 (l4_105 + 1) l3_105 l2_105 l1_105
def G_X9_bestMove_L24 (r12 : Mod → Int32 → Int32 → Int32 → Option (Int32 × Mod))  : Nat → Mod → Int32 → Int32 → Int32 → Int32 → Option (Int32 × Mod)
  | 0, _, _, _, _, _ => none
  | n24 + 1, m0_24, l4_24, l3_24, l2_24, l1_24 =>
    if 4 ≤ l4_24 then
      r12 m0_24 (l3_24 + 1) l2_24 l1_24
    else
      (G_X9_isStepped m0_24 l3_24 l4_24).bind fun v34 =>
      if v34.1 = 0 then
        G_X9_bestMove_j105 (G_X9_bestMove_L24 r12 n24) v34.2 l4_24 l3_24 l2_24 l1_24
      else
        ((if l1_24 = (-9) then
            some 1
          else
            (G_X9_area v34.2).bind fun v47 =>
            if v47 ≤ l2_24 then
              some 0
            else
              some 1) : Option (Int32)).bind fun b43 =>
        ((if b43 = 0 then
            some l1_24
          else
            some ((10 * l3_24) + l4_24)) : Option (Int32)).bind fun b63 =>
        ((if b43 = 0 then
            some l2_24
          else
            (G_X9_area v34.2).bind fun v84 =>
            some v84) : Option (Int32)).bind fun b80 =>
        (G_X9_copy 85 85 (m_kept v34.2) (m_state v34.2) 0 0).bind fun v102 =>
        G_X9_bestMove_j105 (G_X9_bestMove_L24 r12 n24) (ms_state v34.2 v102) l4_24 l3_24 b80 b63
def G_X9_bestMove_L12   : Nat → Mod → Int32 → Int32 → Int32 → Option (Int32 × Mod)
  | 0, _, _, _, _ => none
  | n12 + 1, m0_12, l3_12, l2_12, l1_12 =>
    (G_X9_many m0_12 0).bind fun v15 =>
    if v15 ≤ l3_12 then
      some (l1_12, m0_12)
    else
      G_X9_bestMove_L24 (G_X9_bestMove_L12 n12) FU m0_12 0 l3_12 l2_12 l1_12
def G_X9_bestMove (m0 : Mod) : Option (Int32 × Mod) :=
  G_X9_bestMove_L12 FU (ms_thrown m0 0) 0 0 (-9)
abbrev rm_X9_bestMove : Room := { frames := 8, cells := 0, slots := 0, locals := 192 }
theorem hdS_X9_bestMove : yX9_bestMove.cls ≠ "java/lang/invoke/MethodHandle" ∧ yX9_bestMove.cls ≠ "java/lang/invoke/VarHandle" ∧ (parseMethodDescriptor yX9_bestMove.desc).map (fun d => d.parameters.length) = some 0 := by decide +kernel
theorem hdV_X9_bestMove : yX9_bestMove.cls = RX9 ∧ yX9_bestMove.cls ≠ "java/lang/invoke/MethodHandle" ∧ yX9_bestMove.cls ≠ "java/lang/invoke/VarHandle" ∧ (parseMethodDescriptor yX9_bestMove.desc).map (fun d => d.parameters.length) = some 0 := ⟨rfl, hdS_X9_bestMove⟩
set_option maxHeartbeats 4000000 in
set_option maxRecDepth 100000 in
theorem c_X9_bestMove (l : Launch) (dC : Nat → ClassId) (dI : Nat → Nat → Nat) (cy : Nat → ClassId) (a0 : Nat → Nat) (m0 : Mod) (res : Int32 × Mod) (h : G_X9_bestMove m0 = some res) : CT l (dC, dI) (TY cy) yX9_bestMove cX9_bestMove 6 (some .int) rm_X9_bestMove [.ref (a0 0)] (wMod a0 cy m0) (wMod a0 cy res.2) (some (.int res.1)) := by
  refine CT.mk_i (own := RX9) ⟨by decide, rfl⟩ (Nat.le_of_ble_eq_true rfl) ?_
  intro p e s mm args below meth cd A Q hx hb hml hown htg hN hK hA hP hD hS hE ls hl
  have hl : lv_has ls 6 [(0, .ref (a0 0))] := hl
  replace h : _ = some res := h
  unfold G_X9_bestMove at h
  obtain ⟨H, hH⟩ : ∃ H, H = s.heap := ⟨_, rfl⟩
  obtain ⟨locs, hlocs⟩ : ∃ locs : List Loc, locs = [] := ⟨_, rfl⟩
  rw [← hlocs] at hS ⊢
  have hS : va_S A s.heap H locs := by rw [hH]; exact hS
  rw [← hH] at hP ⊢
  refine lv_aload_n hx hb dX9_bestMove_0 rfl (lv_at hl 0 rfl) ?_
  refine lv_iconst (v := 0) hx hb dX9_bestMove_1 (by decide) ?_
  refine va_put (D := (dC, dI)) (ci := 4) (v := .int 0) (ty := .int) (C := RX9) (T := TX9) (N := 18) hx hb htg inX9 tyX9 tyX9_ok nmX9 hown hK hP hD hS 0 rfl rfl 0 (by decide) (htg _ gw850) (fun _ h9 => h9) rfl (by decide +kernel) rfl rfl (Nat.le_of_ble_eq_true rfl) dX9_bestMove_2 (fun H locs hP hD hS => ?_)
  have hP : va_P (dC, dI) vwCl (wMod a0 cy (ms_thrown m0 0)) H := hP
  have hD : va_D A (wMod a0 cy (ms_thrown m0 0)) := hD
  refine lv_bipush (v := (-9)) hx hb dX9_bestMove_5 (by decide) ?_
  refine lv_istore_n (lv' := [(1, .int (-9)), (0, .ref (a0 0))]) hx hb dX9_bestMove_7 rfl hl (by decide) rfl (fun ls hl => ?_)
  refine lv_iconst (v := 0) hx hb dX9_bestMove_8 (by decide) ?_
  refine lv_istore_n (lv' := [(2, .int 0), (1, .int (-9)), (0, .ref (a0 0))]) hx hb dX9_bestMove_9 rfl hl (by decide) rfl (fun ls hl => ?_)
  refine lv_iconst (v := 0) hx hb dX9_bestMove_10 (by decide) ?_
  refine lv_istore_n (lv' := [(3, .int 0), (2, .int 0), (1, .int (-9)), (0, .ref (a0 0))]) hx hb dX9_bestMove_11 rfl hl (by decide) rfl (fun ls hl => ?_)
  have hL12 : ∀ (n12 : Nat) (m0_12 : Mod) (l3_12 : Int32) (l2_12 : Int32) (l1_12 : Int32) (H : Heap) (locs : List Loc) (ls : Array Slot), G_X9_bestMove_L12 n12 m0_12 l3_12 l2_12 l1_12 = some res → va_P (dC, dI) vwCl (wMod a0 cy m0_12) H → va_D A (wMod a0 cy m0_12) → va_S A s.heap H locs → lv_has ls 6 [(3, .int l3_12), (2, .int l2_12), (1, .int l1_12), (0, .ref (a0 0))] → W p l e rm_X9_bestMove s mm args below meth cd H locs 0 0 Q (F0 mm 12 ls []) := by
    intro n12
    induction n12 with
    | zero => intro m0_12 l3_12 l2_12 l1_12 H locs ls h; exact absurd h (by simp [G_X9_bestMove_L12])
    | succ n12 ih12 =>
      intro m0_12 l3_12 l2_12 l1_12 H locs ls h hP hD hS hl
      rw [G_X9_bestMove_L12] at h
      refine lv_iload_n hx hb dX9_bestMove_12 rfl (lv_at hl 0 rfl) ?_
      refine lv_aload_n hx hb dX9_bestMove_13 rfl (lv_at hl 3 rfl) ?_
      refine lv_iconst (v := 0) hx hb dX9_bestMove_14 (by decide) ?_
      obtain ⟨v15, e15, h⟩ := bnd h
      refine cV (av := [.int 0]) (rest := [.int l3_12]) (st1 := [.int v15, .int l3_12]) (k1 := 0) (k2 := 0) (ci := 4) (q0 := 0) hx hb hml hown htg hN hK (c_X9_many l dC dI cy a0 m0_12 0 v15 e15) (g_V gw935 gw937 gw10 gw63 gw938) hdV_X9_many rfl ⟨⟨Nat.le_of_ble_eq_true rfl, Nat.le_of_ble_eq_true rfl⟩, Nat.le_of_ble_eq_true rfl, Nat.le_of_ble_eq_true rfl⟩ hP hD hS hA ⟨rfl, rfl⟩ rfl [0, 1, 2, 3, 4, 5, 6, 7, 8, 9, 10, 11, 12, 13, 14] [] rfl rfl rfl (by decide) (by decide) hl.1 rfl (Nat.le_of_ble_eq_true rfl) rfl rfl rfl dX9_bestMove_15 (fun H locs hP hD hS => ?_)
      have hP : va_P (dC, dI) vwCl (wMod a0 cy m0_12) H := hP
      have hD : va_D A (wMod a0 cy m0_12) := hD
      refine lv_icmp_ge (tgt := 117) hx hb dX9_bestMove_18 (by decide) (fun c18 => ?_) (fun c18 => ?_)
      · replace h := if_t h c18
        refine lv_iload_n hx hb dX9_bestMove_117 rfl (lv_at hl 2 rfl) ?_
        obtain rfl := Option.some.inj h
        exact hE H locs 118 ls _ hP hD hS rfl dX9_bestMove_118
      replace h := if_f h c18
      refine lv_iconst (v := 0) hx hb dX9_bestMove_21 (by decide) ?_
      refine lv_istore (lv' := [(4, .int 0), (3, .int l3_12), (2, .int l2_12), (1, .int l1_12), (0, .ref (a0 0))]) hx hb dX9_bestMove_22 hl (by decide) rfl (fun ls hl => ?_)
      have hL24 : ∀ (n24 : Nat) (m0_24 : Mod) (l4_24 : Int32) (l3_24 : Int32) (l2_24 : Int32) (l1_24 : Int32) (H : Heap) (locs : List Loc) (ls : Array Slot), G_X9_bestMove_L24 (G_X9_bestMove_L12 n12) n24 m0_24 l4_24 l3_24 l2_24 l1_24 = some res → va_P (dC, dI) vwCl (wMod a0 cy m0_24) H → va_D A (wMod a0 cy m0_24) → va_S A s.heap H locs → lv_has ls 6 [(4, .int l4_24), (3, .int l3_24), (2, .int l2_24), (1, .int l1_24), (0, .ref (a0 0))] → W p l e rm_X9_bestMove s mm args below meth cd H locs 0 0 Q (F0 mm 24 ls []) := by
        intro n24
        induction n24 with
        | zero => intro m0_24 l4_24 l3_24 l2_24 l1_24 H locs ls h; exact absurd h (by simp [G_X9_bestMove_L24])
        | succ n24 ih24 =>
          intro m0_24 l4_24 l3_24 l2_24 l1_24 H locs ls h hP hD hS hl
          rw [G_X9_bestMove_L24] at h
          refine lv_iload hx hb dX9_bestMove_24 (lv_at hl 0 rfl) ?_
          refine lv_iconst (v := 4) hx hb dX9_bestMove_26 (by decide) ?_
          refine lv_icmp_ge (tgt := 111) hx hb dX9_bestMove_27 (by decide) (fun c27 => ?_) (fun c27 => ?_)
          · replace h := if_t h c27
            refine lv_iinc (v := l3_24 + 1) (lv' := [(3, .int (l3_24 + 1)), (4, .int l4_24), (2, .int l2_24), (1, .int l1_24), (0, .ref (a0 0))]) hx hb dX9_bestMove_111 hl (k := 1) rfl rfl (by decide) rfl (fun ls hl => ?_)
            refine lv_goto (tgt := 12) hx hb dX9_bestMove_114 (by decide) ?_
            exact ih12 m0_24 (l3_24 + 1) l2_24 l1_24 H locs ls h hP hD hS (lv_sub hl [0, 2, 3, 4] rfl)
          replace h := if_f h c27
          refine lv_aload_n hx hb dX9_bestMove_30 rfl (lv_at hl 4 rfl) ?_
          refine lv_iload_n hx hb dX9_bestMove_31 rfl (lv_at hl 1 rfl) ?_
          refine lv_iload hx hb dX9_bestMove_32 (lv_at hl 0 rfl) ?_
          obtain ⟨v34, e34, h⟩ := bnd h
          refine cV (av := [.int l3_24, .int l4_24]) (rest := []) (st1 := [.int v34.1]) (k1 := 0) (k2 := 0) (ci := 4) (q0 := 0) hx hb hml hown htg hN hK (c_X9_isStepped l dC dI cy a0 m0_24 l3_24 l4_24 v34 e34) (g_V gw1205 gw1207 gw55 gw63 gw1208) hdV_X9_isStepped rfl ⟨⟨Nat.le_of_ble_eq_true rfl, Nat.le_of_ble_eq_true rfl⟩, Nat.le_of_ble_eq_true rfl, Nat.le_of_ble_eq_true rfl⟩ hP hD hS hA ⟨rfl, rfl⟩ rfl [0, 1, 2, 3, 4, 5, 6, 7, 8, 9, 10, 11, 12, 13, 14] [] rfl rfl rfl (by decide) (by decide) hl.1 rfl (Nat.le_of_ble_eq_true rfl) rfl rfl rfl dX9_bestMove_34 (fun H locs hP hD hS => ?_)
          have hP : va_P (dC, dI) vwCl (wMod a0 cy v34.2) H := hP
          have hD : va_D A (wMod a0 cy v34.2) := hD
          have hj105 : ∀ (m0_105 : Mod) (l4_105 : Int32) (l3_105 : Int32) (l2_105 : Int32) (l1_105 : Int32) (H : Heap) (locs : List Loc) (ls : Array Slot), G_X9_bestMove_j105 (G_X9_bestMove_L24 (G_X9_bestMove_L12 n12) n24) m0_105 l4_105 l3_105 l2_105 l1_105 = some res → va_P (dC, dI) vwCl (wMod a0 cy m0_105) H → va_D A (wMod a0 cy m0_105) → va_S A s.heap H locs → lv_has ls 6 [(4, .int l4_105), (3, .int l3_105), (2, .int l2_105), (1, .int l1_105), (0, .ref (a0 0))] → W p l e rm_X9_bestMove s mm args below meth cd H locs 0 0 Q (F0 mm 105 ls []) := by
            intro m0_105 l4_105 l3_105 l2_105 l1_105 H locs ls h hP hD hS hl
            unfold G_X9_bestMove_j105 at h
            refine lv_iinc (v := l4_105 + 1) (lv' := [(4, .int (l4_105 + 1)), (3, .int l3_105), (2, .int l2_105), (1, .int l1_105), (0, .ref (a0 0))]) hx hb dX9_bestMove_105 hl (k := 0) rfl rfl (by decide) rfl (fun ls hl => ?_)
            refine lv_goto (tgt := 24) hx hb dX9_bestMove_108 (by decide) ?_
            exact ih24 m0_105 (l4_105 + 1) l3_105 l2_105 l1_105 H locs ls h hP hD hS (lv_sub hl [0, 1, 2, 3, 4] rfl)
          refine lv_if_eq (tgt := 105) hx hb dX9_bestMove_37 (by decide) (fun c37 => ?_) (fun c37 => ?_)
          · replace h := if_t h c37
            exact hj105 v34.2 l4_24 l3_24 l2_24 l1_24 H locs ls h hP hD hS (lv_sub hl [0, 1, 2, 3, 4] rfl)
          replace h := if_f h c37
          refine lv_iload_n hx hb dX9_bestMove_40 rfl (lv_at hl 3 rfl) ?_
          refine lv_bipush (v := (-9)) hx hb dX9_bestMove_41 (by decide) ?_
          obtain ⟨b43, e43, h⟩ := bnd h
          have hr59 : ∀ (H : Heap) (locs : List Loc) (ls : Array Slot), va_P (dC, dI) vwCl (wMod a0 cy v34.2) H → va_D A (wMod a0 cy v34.2) → va_S A s.heap H locs → lv_has ls 6 [(4, .int l4_24), (3, .int l3_24), (2, .int l2_24), (1, .int l1_24), (0, .ref (a0 0))] → W p l e rm_X9_bestMove s mm args below meth cd H locs 0 0 Q (F0 mm 59 ls [.int b43]) := by
            intro H locs ls hP hD hS hl
            refine lv_istore (lv' := [(5, .int b43), (4, .int l4_24), (3, .int l3_24), (2, .int l2_24), (1, .int l1_24), (0, .ref (a0 0))]) hx hb dX9_bestMove_59 hl (by decide) rfl (fun ls hl => ?_)
            refine lv_iload hx hb dX9_bestMove_61 (lv_at hl 0 rfl) ?_
            obtain ⟨b63, e63, h⟩ := bnd h
            have hr77 : ∀ (H : Heap) (locs : List Loc) (ls : Array Slot), va_P (dC, dI) vwCl (wMod a0 cy v34.2) H → va_D A (wMod a0 cy v34.2) → va_S A s.heap H locs → lv_has ls 6 [(5, .int b43), (4, .int l4_24), (3, .int l3_24), (2, .int l2_24), (1, .int l1_24), (0, .ref (a0 0))] → W p l e rm_X9_bestMove s mm args below meth cd H locs 0 0 Q (F0 mm 77 ls [.int b63]) := by
              intro H locs ls hP hD hS hl
              refine lv_istore_n (lv' := [(1, .int b63), (5, .int b43), (4, .int l4_24), (3, .int l3_24), (2, .int l2_24), (0, .ref (a0 0))]) hx hb dX9_bestMove_77 rfl hl (by decide) rfl (fun ls hl => ?_)
              refine lv_iload hx hb dX9_bestMove_78 (lv_at hl 1 rfl) ?_
              obtain ⟨b80, e80, h⟩ := bnd h
              have hr91 : ∀ (H : Heap) (locs : List Loc) (ls : Array Slot), va_P (dC, dI) vwCl (wMod a0 cy v34.2) H → va_D A (wMod a0 cy v34.2) → va_S A s.heap H locs → lv_has ls 6 [(1, .int b63), (5, .int b43), (4, .int l4_24), (3, .int l3_24), (2, .int l2_24), (0, .ref (a0 0))] → W p l e rm_X9_bestMove s mm args below meth cd H locs 0 0 Q (F0 mm 91 ls [.int b80]) := by
                intro H locs ls hP hD hS hl
                refine lv_istore_n (lv' := [(2, .int b80), (1, .int b63), (5, .int b43), (4, .int l4_24), (3, .int l3_24), (0, .ref (a0 0))]) hx hb dX9_bestMove_91 rfl hl (by decide) rfl (fun ls hl => ?_)
                refine lv_aload_n hx hb dX9_bestMove_92 rfl (lv_at hl 5 rfl) ?_
                refine va_get (D := (dC, dI)) (ci := 4) (v := .ref (a0 2)) (C := RX9) (T := TX9) (N := 18) hx hb htg inX9 hown hK hP 0 rfl rfl 2 (by decide) (htg _ gw852) (fun _ h9 => h9) rfl dX9_bestMove_93 ?_
                refine lv_iconst (v := 0) hx hb dX9_bestMove_96 (by decide) ?_
                refine lv_aload_n hx hb dX9_bestMove_97 rfl (lv_at hl 5 rfl) ?_
                refine va_get (D := (dC, dI)) (ci := 4) (v := .ref (a0 1)) (C := RX9) (T := TX9) (N := 18) hx hb htg inX9 hown hK hP 0 rfl rfl 1 (by decide) (htg _ gw851) (fun _ h9 => h9) rfl dX9_bestMove_98 ?_
                refine lv_iconst (v := 0) hx hb dX9_bestMove_101 (by decide) ?_
                obtain ⟨v102, e102, h⟩ := bnd h
                refine cS (av := [.ref (a0 2), .int 0, .ref (a0 1), .int 0]) (rest := []) (st1 := []) (k1 := 0) (k2 := 0) hx hb hml hown htg hN hK (c_X9_copy l dC dI cy (a0 2) (a0 1) 85 85 (m_kept v34.2) (m_state v34.2) 0 0 v102 e102) (g_S gw924 gw925 gw63 gw926) hdS_X9_copy rfl ⟨⟨Nat.le_of_ble_eq_true rfl, Nat.le_of_ble_eq_true rfl⟩, Nat.le_of_ble_eq_true rfl, Nat.le_of_ble_eq_true rfl⟩ hP hD hS hA [2, 1] [0, 3, 4, 5, 6, 7, 8, 9, 10, 11, 12, 13, 14] rfl rfl rfl (by decide) (by decide) hl.1 rfl (Nat.le_of_ble_eq_true rfl) rfl rfl rfl dX9_bestMove_102 (fun H locs hP hD hS => ?_)
                obtain ⟨hP, hD⟩ := x_perm (ws' := wMod a0 cy (ms_state v34.2 v102)) hP hD [0, 14, 13, 1, 2, 3, 4, 5, 6, 7, 8, 9, 10, 11, 12] (by decide) rfl rfl
                exact hj105 (ms_state v34.2 v102) l4_24 l3_24 b80 b63 H locs ls h hP hD hS (lv_sub hl [3, 4, 0, 1, 5] rfl)
              have h := e80
              clear e80
              refine lv_if_eq (tgt := 90) hx hb dX9_bestMove_80 (by decide) (fun c80 => ?_) (fun c80 => ?_)
              · replace h := if_t h c80
                refine lv_iload_n hx hb dX9_bestMove_90 rfl (lv_at hl 4 rfl) ?_
                obtain rfl := Option.some.inj h
                exact hr91 H locs ls hP hD hS hl
              replace h := if_f h c80
              refine lv_aload_n hx hb dX9_bestMove_83 rfl (lv_at hl 5 rfl) ?_
              obtain ⟨v84, e84, h⟩ := bnd h
              refine cV (av := []) (rest := []) (st1 := [.int v84]) (k1 := 0) (k2 := 0) (ci := 4) (q0 := 0) hx hb hml hown htg hN hK (c_X9_area l dC dI cy a0 v34.2  v84 e84) (g_V gw1004 gw1006 gw23 gw63 gw1007) hdV_X9_area rfl ⟨⟨Nat.le_of_ble_eq_true rfl, Nat.le_of_ble_eq_true rfl⟩, Nat.le_of_ble_eq_true rfl, Nat.le_of_ble_eq_true rfl⟩ hP hD hS hA ⟨rfl, rfl⟩ rfl [0, 1, 2, 3, 4, 5, 6, 7, 8, 9, 10, 11, 12, 13, 14] [] rfl rfl rfl (by decide) (by decide) hl.1 rfl (Nat.le_of_ble_eq_true rfl) rfl rfl rfl dX9_bestMove_84 (fun H locs hP hD hS => ?_)
              have hP : va_P (dC, dI) vwCl (wMod a0 cy v34.2) H := hP
              have hD : va_D A (wMod a0 cy v34.2) := hD
              refine lv_goto (tgt := 91) hx hb dX9_bestMove_87 (by decide) ?_
              obtain rfl := Option.some.inj h
              exact hr91 H locs ls hP hD hS hl
            have h := e63
            clear e63
            refine lv_if_eq (tgt := 76) hx hb dX9_bestMove_63 (by decide) (fun c63 => ?_) (fun c63 => ?_)
            · replace h := if_t h c63
              refine lv_iload_n hx hb dX9_bestMove_76 rfl (lv_at hl 4 rfl) ?_
              obtain rfl := Option.some.inj h
              exact hr77 H locs ls hP hD hS hl
            replace h := if_f h c63
            refine lv_bipush (v := 10) hx hb dX9_bestMove_66 (by decide) ?_
            refine lv_iload_n hx hb dX9_bestMove_68 rfl (lv_at hl 2 rfl) ?_
            refine lv_imul hx hb dX9_bestMove_69 ?_
            refine lv_iload hx hb dX9_bestMove_70 (lv_at hl 1 rfl) ?_
            refine lv_iadd hx hb dX9_bestMove_72 ?_
            refine lv_goto (tgt := 77) hx hb dX9_bestMove_73 (by decide) ?_
            obtain rfl := Option.some.inj h
            exact hr77 H locs ls hP hD hS hl
          have h := e43
          clear e43
          refine lv_icmp_eq (tgt := 54) hx hb dX9_bestMove_43 (by decide) (fun c43 => ?_) (fun c43 => ?_)
          · replace h := if_t h c43
            refine lv_iconst (v := 1) hx hb dX9_bestMove_54 (by decide) ?_
            refine lv_goto (tgt := 59) hx hb dX9_bestMove_55 (by decide) ?_
            obtain rfl := Option.some.inj h
            exact hr59 H locs ls hP hD hS hl
          replace h := if_f h c43
          refine lv_aload_n hx hb dX9_bestMove_46 rfl (lv_at hl 4 rfl) ?_
          obtain ⟨v47, e47, h⟩ := bnd h
          refine cV (av := []) (rest := []) (st1 := [.int v47]) (k1 := 0) (k2 := 0) (ci := 4) (q0 := 0) hx hb hml hown htg hN hK (c_X9_area l dC dI cy a0 v34.2  v47 e47) (g_V gw1004 gw1006 gw23 gw63 gw1007) hdV_X9_area rfl ⟨⟨Nat.le_of_ble_eq_true rfl, Nat.le_of_ble_eq_true rfl⟩, Nat.le_of_ble_eq_true rfl, Nat.le_of_ble_eq_true rfl⟩ hP hD hS hA ⟨rfl, rfl⟩ rfl [0, 1, 2, 3, 4, 5, 6, 7, 8, 9, 10, 11, 12, 13, 14] [] rfl rfl rfl (by decide) (by decide) hl.1 rfl (Nat.le_of_ble_eq_true rfl) rfl rfl rfl dX9_bestMove_47 (fun H locs hP hD hS => ?_)
          have hP : va_P (dC, dI) vwCl (wMod a0 cy v34.2) H := hP
          have hD : va_D A (wMod a0 cy v34.2) := hD
          refine lv_iload_n hx hb dX9_bestMove_50 rfl (lv_at hl 2 rfl) ?_
          refine lv_icmp_le (tgt := 58) hx hb dX9_bestMove_51 (by decide) (fun c51 => ?_) (fun c51 => ?_)
          · replace h := if_t h c51
            refine lv_iconst (v := 0) hx hb dX9_bestMove_58 (by decide) ?_
            obtain rfl := Option.some.inj h
            exact hr59 H locs ls hP hD hS hl
          replace h := if_f h c51
          refine lv_iconst (v := 1) hx hb dX9_bestMove_54 (by decide) ?_
          refine lv_goto (tgt := 59) hx hb dX9_bestMove_55 (by decide) ?_
          obtain rfl := Option.some.inj h
          exact hr59 H locs ls hP hD hS hl
      exact hL24 FU m0_12 0 l3_12 l2_12 l1_12 H locs ls h hP hD hS (lv_sub hl [0, 1, 2, 3, 4] rfl)
  exact hL12 FU (ms_thrown m0 0) 0 0 (-9) H locs ls h hP hD hS (lv_sub hl [0, 1, 2, 3] rfl)
def G_X9_clearText (m0 : Mod) : Option (Int32 × Mod) :=
  (some (ms_thrown m0 0)).bind fun z0_12 =>
  some (m_textLength (ms_thrown m0 0), ms_textLength z0_12 0)
abbrev rm_X9_clearText : Room := { frames := 0, cells := 0, slots := 0, locals := 0 }
theorem hdS_X9_clearText : yX9_clearText.cls ≠ "java/lang/invoke/MethodHandle" ∧ yX9_clearText.cls ≠ "java/lang/invoke/VarHandle" ∧ (parseMethodDescriptor yX9_clearText.desc).map (fun d => d.parameters.length) = some 0 := by decide +kernel
theorem hdV_X9_clearText : yX9_clearText.cls = RX9 ∧ yX9_clearText.cls ≠ "java/lang/invoke/MethodHandle" ∧ yX9_clearText.cls ≠ "java/lang/invoke/VarHandle" ∧ (parseMethodDescriptor yX9_clearText.desc).map (fun d => d.parameters.length) = some 0 := ⟨rfl, hdS_X9_clearText⟩
set_option maxHeartbeats 4000000 in
set_option maxRecDepth 100000 in
theorem c_X9_clearText (l : Launch) (dC : Nat → ClassId) (dI : Nat → Nat → Nat) (cy : Nat → ClassId) (a0 : Nat → Nat) (m0 : Mod) (res : Int32 × Mod) (h : G_X9_clearText m0 = some res) : CT l (dC, dI) (TY cy) yX9_clearText cX9_clearText 2 (some .int) rm_X9_clearText [.ref (a0 0)] (wMod a0 cy m0) (wMod a0 cy res.2) (some (.int res.1)) := by
  refine CT.mk_i (own := RX9) ⟨by decide, rfl⟩ (Nat.le_of_ble_eq_true rfl) ?_
  intro p e s mm args below meth cd A Q hx hb hml hown htg hN hK hA hP hD hS hE ls hl
  have hl : lv_has ls 2 [(0, .ref (a0 0))] := hl
  replace h : _ = some res := h
  unfold G_X9_clearText at h
  obtain ⟨H, hH⟩ : ∃ H, H = s.heap := ⟨_, rfl⟩
  obtain ⟨locs, hlocs⟩ : ∃ locs : List Loc, locs = [] := ⟨_, rfl⟩
  rw [← hlocs] at hS ⊢
  have hS : va_S A s.heap H locs := by rw [hH]; exact hS
  rw [← hH] at hP ⊢
  refine lv_aload_n hx hb dX9_clearText_0 rfl (lv_at hl 0 rfl) ?_
  refine lv_iconst (v := 0) hx hb dX9_clearText_1 (by decide) ?_
  refine va_put (D := (dC, dI)) (ci := 4) (v := .int 0) (ty := .int) (C := RX9) (T := TX9) (N := 18) hx hb htg inX9 tyX9 tyX9_ok nmX9 hown hK hP hD hS 0 rfl rfl 0 (by decide) (htg _ gw850) (fun _ h9 => h9) rfl (by decide +kernel) rfl rfl (Nat.le_of_ble_eq_true rfl) dX9_clearText_2 (fun H locs hP hD hS => ?_)
  have hP : va_P (dC, dI) vwCl (wMod a0 cy (ms_thrown m0 0)) H := hP
  have hD : va_D A (wMod a0 cy (ms_thrown m0 0)) := hD
  refine lv_aload_n hx hb dX9_clearText_5 rfl (lv_at hl 0 rfl) ?_
  refine va_get (D := (dC, dI)) (ci := 4) (v := .int (m_textLength (ms_thrown m0 0))) (C := RX9) (T := TX9) (N := 18) hx hb htg inX9 hown hK hP 0 rfl rfl 9 (by decide) (htg _ gw859) (fun _ h9 => h9) rfl dX9_clearText_6 ?_
  refine lv_istore_n (lv' := [(1, .int (m_textLength (ms_thrown m0 0))), (0, .ref (a0 0))]) hx hb dX9_clearText_9 rfl hl (by decide) rfl (fun ls hl => ?_)
  refine lv_aload_n hx hb dX9_clearText_10 rfl (lv_at hl 1 rfl) ?_
  refine lv_iconst (v := 0) hx hb dX9_clearText_11 (by decide) ?_
  obtain ⟨z0_12, ez0_12, h⟩ := bnd h
  replace ez0_12 := Option.some.inj ez0_12
  rw [ez0_12] at hP hD
  refine va_put (D := (dC, dI)) (ci := 4) (v := .int 0) (ty := .int) (C := RX9) (T := TX9) (N := 18) hx hb htg inX9 tyX9 tyX9_ok nmX9 hown hK hP hD hS 0 rfl rfl 9 (by decide) (htg _ gw859) (fun _ h9 => h9) rfl (by decide +kernel) rfl rfl (Nat.le_of_ble_eq_true rfl) dX9_clearText_12 (fun H locs hP hD hS => ?_)
  have hP : va_P (dC, dI) vwCl (wMod a0 cy (ms_textLength z0_12 0)) H := hP
  have hD : va_D A (wMod a0 cy (ms_textLength z0_12 0)) := hD
  refine lv_iload_n hx hb dX9_clearText_15 rfl (lv_at hl 0 rfl) ?_
  obtain rfl := Option.some.inj h
  exact hE H locs 16 ls _ hP hD hS rfl dX9_clearText_16
def G_X9_tryInsert_L34   : Nat → Mod → Int32 → Int32 → Int32 → Int32 → Int32 → Option (Int32 × Mod)
  | 0, _, _, _, _, _, _ => none
  | n34 + 1, m0_34, l5_34, l1_34, l2_34, l3_34, l4_34 =>
    if l5_34 ≤ l2_34 + 1 then
      (G_X9_setCorner m0_34 l1_34 (l2_34 + 1) l3_34 l4_34).bind fun v81 =>
      (rd 85 (m_state v81) (1 + l1_34)).bind fun v92 =>
      (wr 85 (m_state v81) (1 + l1_34) (v92 + 1)).bind fun g95 =>
      (G_X9_end (ms_state v81 g95)).bind fun v97 =>
      some (v97.1, v97.2)
    else
      (G_X9_x m0_34 l1_34 (l5_34 - 1)).bind fun v52 =>
      (G_X9_y m0_34 l1_34 (l5_34 - 1)).bind fun v61 =>
      (G_X9_setCorner m0_34 l1_34 l5_34 v52 v61).bind fun v64 =>
      (G_X9_tryInsert_L34 n34) v64 (l5_34 + (-1)) l1_34 l2_34 l3_34 l4_34
def G_X9_tryInsert (m0 : Mod) (p1 : Int32) (p2 : Int32) (p3 : Int32) (p4 : Int32) : Option (Int32 × Mod) :=
  (G_X9_isCorner m0 p1 p2).bind fun v3 =>
  if v3 = 0 then
    some (1, m0)
  else
    (G_X9_many m0 p1).bind fun v13 =>
    if v13 = 10 then
      some (2, m0)
    else
      (G_X9_begin m0).bind fun v24 =>
      (G_X9_many v24 p1).bind fun v29 =>
      G_X9_tryInsert_L34 FU v24 v29 p1 p2 p3 p4
abbrev rm_X9_tryInsert : Room := { frames := 6, cells := 0, slots := 0, locals := 146 }
theorem hdS_X9_tryInsert : yX9_tryInsert.cls ≠ "java/lang/invoke/MethodHandle" ∧ yX9_tryInsert.cls ≠ "java/lang/invoke/VarHandle" ∧ (parseMethodDescriptor yX9_tryInsert.desc).map (fun d => d.parameters.length) = some 4 := by decide +kernel
theorem hdV_X9_tryInsert : yX9_tryInsert.cls = RX9 ∧ yX9_tryInsert.cls ≠ "java/lang/invoke/MethodHandle" ∧ yX9_tryInsert.cls ≠ "java/lang/invoke/VarHandle" ∧ (parseMethodDescriptor yX9_tryInsert.desc).map (fun d => d.parameters.length) = some 4 := ⟨rfl, hdS_X9_tryInsert⟩
set_option maxHeartbeats 4000000 in
set_option maxRecDepth 100000 in
theorem c_X9_tryInsert (l : Launch) (dC : Nat → ClassId) (dI : Nat → Nat → Nat) (cy : Nat → ClassId) (a0 : Nat → Nat) (m0 : Mod) (p1 : Int32) (p2 : Int32) (p3 : Int32) (p4 : Int32) (res : Int32 × Mod) (h : G_X9_tryInsert m0 p1 p2 p3 p4 = some res) : CT l (dC, dI) (TY cy) yX9_tryInsert cX9_tryInsert 6 (some .int) rm_X9_tryInsert [.ref (a0 0), .int p1, .int p2, .int p3, .int p4] (wMod a0 cy m0) (wMod a0 cy res.2) (some (.int res.1)) := by
  refine CT.mk_i (own := RX9) ⟨by decide, rfl⟩ (Nat.le_of_ble_eq_true rfl) ?_
  intro p e s mm args below meth cd A Q hx hb hml hown htg hN hK hA hP hD hS hE ls hl
  have hl : lv_has ls 6 [(0, .ref (a0 0)), (1, .int p1), (2, .int p2), (3, .int p3), (4, .int p4)] := hl
  replace h : _ = some res := h
  unfold G_X9_tryInsert at h
  obtain ⟨H, hH⟩ : ∃ H, H = s.heap := ⟨_, rfl⟩
  obtain ⟨locs, hlocs⟩ : ∃ locs : List Loc, locs = [] := ⟨_, rfl⟩
  rw [← hlocs] at hS ⊢
  have hS : va_S A s.heap H locs := by rw [hH]; exact hS
  rw [← hH] at hP ⊢
  refine lv_aload_n hx hb dX9_tryInsert_0 rfl (lv_at hl 0 rfl) ?_
  refine lv_iload_n hx hb dX9_tryInsert_1 rfl (lv_at hl 1 rfl) ?_
  refine lv_iload_n hx hb dX9_tryInsert_2 rfl (lv_at hl 2 rfl) ?_
  obtain ⟨v3, e3, h⟩ := bnd h
  refine cV (av := [.int p1, .int p2]) (rest := []) (st1 := [.int v3]) (k1 := 0) (k2 := 0) (ci := 4) (q0 := 0) hx hb hml hown htg hN hK (c_X9_isCorner l dC dI cy a0 m0 p1 p2 v3 e3) (g_V gw1102 gw1104 gw44 gw63 gw1105) hdV_X9_isCorner rfl ⟨⟨Nat.le_of_ble_eq_true rfl, Nat.le_of_ble_eq_true rfl⟩, Nat.le_of_ble_eq_true rfl, Nat.le_of_ble_eq_true rfl⟩ hP hD hS hA ⟨rfl, rfl⟩ rfl [0, 1, 2, 3, 4, 5, 6, 7, 8, 9, 10, 11, 12, 13, 14] [] rfl rfl rfl (by decide) (by decide) hl.1 rfl (Nat.le_of_ble_eq_true rfl) rfl rfl rfl dX9_tryInsert_3 (fun H locs hP hD hS => ?_)
  have hP : va_P (dC, dI) vwCl (wMod a0 cy m0) H := hP
  have hD : va_D A (wMod a0 cy m0) := hD
  refine lv_if_ne (tgt := 11) hx hb dX9_tryInsert_6 (by decide) (fun c6 => ?_) (fun c6 => ?_)
  · replace h := if_f h c6
    refine lv_aload_n hx hb dX9_tryInsert_11 rfl (lv_at hl 0 rfl) ?_
    refine lv_iload_n hx hb dX9_tryInsert_12 rfl (lv_at hl 1 rfl) ?_
    obtain ⟨v13, e13, h⟩ := bnd h
    refine cV (av := [.int p1]) (rest := []) (st1 := [.int v13]) (k1 := 0) (k2 := 0) (ci := 4) (q0 := 0) hx hb hml hown htg hN hK (c_X9_many l dC dI cy a0 m0 p1 v13 e13) (g_V gw935 gw937 gw10 gw63 gw938) hdV_X9_many rfl ⟨⟨Nat.le_of_ble_eq_true rfl, Nat.le_of_ble_eq_true rfl⟩, Nat.le_of_ble_eq_true rfl, Nat.le_of_ble_eq_true rfl⟩ hP hD hS hA ⟨rfl, rfl⟩ rfl [0, 1, 2, 3, 4, 5, 6, 7, 8, 9, 10, 11, 12, 13, 14] [] rfl rfl rfl (by decide) (by decide) hl.1 rfl (Nat.le_of_ble_eq_true rfl) rfl rfl rfl dX9_tryInsert_13 (fun H locs hP hD hS => ?_)
    have hP : va_P (dC, dI) vwCl (wMod a0 cy m0) H := hP
    have hD : va_D A (wMod a0 cy m0) := hD
    refine lv_bipush (v := 10) hx hb dX9_tryInsert_16 (by decide) ?_
    refine lv_icmp_ne (tgt := 23) hx hb dX9_tryInsert_18 (by decide) (fun c18 => ?_) (fun c18 => ?_)
    · replace h := if_f h c18
      refine lv_aload_n hx hb dX9_tryInsert_23 rfl (lv_at hl 0 rfl) ?_
      obtain ⟨v24, e24, h⟩ := bnd h
      refine cV (av := []) (rest := []) (st1 := []) (k1 := 0) (k2 := 0) (ci := 4) (q0 := 0) hx hb hml hown htg hN hK (c_X9_begin l dC dI cy a0 m0  v24 e24) (g_V gw1125 gw1127 gw46 gw63 gw1128) hdV_X9_begin rfl ⟨⟨Nat.le_of_ble_eq_true rfl, Nat.le_of_ble_eq_true rfl⟩, Nat.le_of_ble_eq_true rfl, Nat.le_of_ble_eq_true rfl⟩ hP hD hS hA ⟨rfl, rfl⟩ rfl [0, 1, 2, 3, 4, 5, 6, 7, 8, 9, 10, 11, 12, 13, 14] [] rfl rfl rfl (by decide) (by decide) hl.1 rfl (Nat.le_of_ble_eq_true rfl) rfl rfl rfl dX9_tryInsert_24 (fun H locs hP hD hS => ?_)
      have hP : va_P (dC, dI) vwCl (wMod a0 cy v24) H := hP
      have hD : va_D A (wMod a0 cy v24) := hD
      refine lv_aload_n hx hb dX9_tryInsert_27 rfl (lv_at hl 0 rfl) ?_
      refine lv_iload_n hx hb dX9_tryInsert_28 rfl (lv_at hl 1 rfl) ?_
      obtain ⟨v29, e29, h⟩ := bnd h
      refine cV (av := [.int p1]) (rest := []) (st1 := [.int v29]) (k1 := 0) (k2 := 0) (ci := 4) (q0 := 0) hx hb hml hown htg hN hK (c_X9_many l dC dI cy a0 v24 p1 v29 e29) (g_V gw935 gw937 gw10 gw63 gw938) hdV_X9_many rfl ⟨⟨Nat.le_of_ble_eq_true rfl, Nat.le_of_ble_eq_true rfl⟩, Nat.le_of_ble_eq_true rfl, Nat.le_of_ble_eq_true rfl⟩ hP hD hS hA ⟨rfl, rfl⟩ rfl [0, 1, 2, 3, 4, 5, 6, 7, 8, 9, 10, 11, 12, 13, 14] [] rfl rfl rfl (by decide) (by decide) hl.1 rfl (Nat.le_of_ble_eq_true rfl) rfl rfl rfl dX9_tryInsert_29 (fun H locs hP hD hS => ?_)
      have hP : va_P (dC, dI) vwCl (wMod a0 cy v24) H := hP
      have hD : va_D A (wMod a0 cy v24) := hD
      refine lv_istore (lv' := [(5, .int v29), (0, .ref (a0 0)), (1, .int p1), (2, .int p2), (3, .int p3), (4, .int p4)]) hx hb dX9_tryInsert_32 hl (by decide) rfl (fun ls hl => ?_)
      have hL34 : ∀ (n34 : Nat) (m0_34 : Mod) (l5_34 : Int32) (l1_34 : Int32) (l2_34 : Int32) (l3_34 : Int32) (l4_34 : Int32) (H : Heap) (locs : List Loc) (ls : Array Slot), G_X9_tryInsert_L34 n34 m0_34 l5_34 l1_34 l2_34 l3_34 l4_34 = some res → va_P (dC, dI) vwCl (wMod a0 cy m0_34) H → va_D A (wMod a0 cy m0_34) → va_S A s.heap H locs → lv_has ls 6 [(5, .int l5_34), (0, .ref (a0 0)), (1, .int l1_34), (2, .int l2_34), (3, .int l3_34), (4, .int l4_34)] → W p l e rm_X9_tryInsert s mm args below meth cd H locs 0 0 Q (F0 mm 34 ls []) := by
        intro n34
        induction n34 with
        | zero => intro m0_34 l5_34 l1_34 l2_34 l3_34 l4_34 H locs ls h; exact absurd h (by simp [G_X9_tryInsert_L34])
        | succ n34 ih34 =>
          intro m0_34 l5_34 l1_34 l2_34 l3_34 l4_34 H locs ls h hP hD hS hl
          rw [G_X9_tryInsert_L34] at h
          refine lv_iload hx hb dX9_tryInsert_34 (lv_at hl 0 rfl) ?_
          refine lv_iload_n hx hb dX9_tryInsert_36 rfl (lv_at hl 3 rfl) ?_
          refine lv_iconst (v := 1) hx hb dX9_tryInsert_37 (by decide) ?_
          refine lv_iadd hx hb dX9_tryInsert_38 ?_
          refine lv_icmp_le (tgt := 73) hx hb dX9_tryInsert_39 (by decide) (fun c39 => ?_) (fun c39 => ?_)
          · replace h := if_t h c39
            refine lv_aload_n hx hb dX9_tryInsert_73 rfl (lv_at hl 1 rfl) ?_
            refine lv_iload_n hx hb dX9_tryInsert_74 rfl (lv_at hl 2 rfl) ?_
            refine lv_iload_n hx hb dX9_tryInsert_75 rfl (lv_at hl 3 rfl) ?_
            refine lv_iconst (v := 1) hx hb dX9_tryInsert_76 (by decide) ?_
            refine lv_iadd hx hb dX9_tryInsert_77 ?_
            refine lv_iload_n hx hb dX9_tryInsert_78 rfl (lv_at hl 4 rfl) ?_
            refine lv_iload hx hb dX9_tryInsert_79 (lv_at hl 5 rfl) ?_
            obtain ⟨v81, e81, h⟩ := bnd h
            refine cV (av := [.int l1_34, .int (l2_34 + 1), .int l3_34, .int l4_34]) (rest := []) (st1 := []) (k1 := 0) (k2 := 0) (ci := 4) (q0 := 0) hx hb hml hown htg hN hK (c_X9_setCorner l dC dI cy a0 m0_34 l1_34 (l2_34 + 1) l3_34 l4_34 v81 e81) (g_V gw846 gw848 gw7 gw63 gw849) hdV_X9_setCorner rfl ⟨⟨Nat.le_of_ble_eq_true rfl, Nat.le_of_ble_eq_true rfl⟩, Nat.le_of_ble_eq_true rfl, Nat.le_of_ble_eq_true rfl⟩ hP hD hS hA ⟨rfl, rfl⟩ rfl [0, 1, 2, 3, 4, 5, 6, 7, 8, 9, 10, 11, 12, 13, 14] [] rfl rfl rfl (by decide) (by decide) hl.1 rfl (Nat.le_of_ble_eq_true rfl) rfl rfl rfl dX9_tryInsert_81 (fun H locs hP hD hS => ?_)
            have hP : va_P (dC, dI) vwCl (wMod a0 cy v81) H := hP
            have hD : va_D A (wMod a0 cy v81) := hD
            refine lv_aload_n hx hb dX9_tryInsert_84 rfl (lv_at hl 1 rfl) ?_
            refine va_get (D := (dC, dI)) (ci := 4) (v := .ref (a0 1)) (C := RX9) (T := TX9) (N := 18) hx hb htg inX9 hown hK hP 0 rfl rfl 1 (by decide) (htg _ gw851) (fun _ h9 => h9) rfl dX9_tryInsert_85 ?_
            refine lv_iconst (v := 1) hx hb dX9_tryInsert_88 (by decide) ?_
            refine lv_iload_n hx hb dX9_tryInsert_89 rfl (lv_at hl 2 rfl) ?_
            refine lv_iadd hx hb dX9_tryInsert_90 ?_
            refine lv_dup2_11 hx hb dX9_tryInsert_91 rfl rfl ?_
            obtain ⟨v92, e92, h⟩ := bnd h
            refine x_iald (v := v92) hx hb hK hP 1 0 rfl rfl e92 dX9_tryInsert_92 ?_
            refine lv_iconst (v := 1) hx hb dX9_tryInsert_93 (by decide) ?_
            refine lv_iadd hx hb dX9_tryInsert_94 ?_
            obtain ⟨g95, e95, h⟩ := bnd h
            refine x_iast (g := g95) hx hb hK hP hD hS 1 0 rfl rfl e95 dX9_tryInsert_95 (fun H locs hP hD hS => ?_)
            have hP : va_P (dC, dI) vwCl (wMod a0 cy (ms_state v81 g95)) H := hP
            have hD : va_D A (wMod a0 cy (ms_state v81 g95)) := hD
            refine lv_aload_n hx hb dX9_tryInsert_96 rfl (lv_at hl 1 rfl) ?_
            obtain ⟨v97, e97, h⟩ := bnd h
            refine cV (av := []) (rest := []) (st1 := [.int v97.1]) (k1 := 0) (k2 := 0) (ci := 4) (q0 := 0) hx hb hml hown htg hN hK (c_X9_end l dC dI cy a0 (ms_state v81 g95)  v97 e97) (g_V gw1129 gw1131 gw47 gw63 gw1132) hdV_X9_end rfl ⟨⟨Nat.le_of_ble_eq_true rfl, Nat.le_of_ble_eq_true rfl⟩, Nat.le_of_ble_eq_true rfl, Nat.le_of_ble_eq_true rfl⟩ hP hD hS hA ⟨rfl, rfl⟩ rfl [0, 1, 2, 3, 4, 5, 6, 7, 8, 9, 10, 11, 12, 13, 14] [] rfl rfl rfl (by decide) (by decide) hl.1 rfl (Nat.le_of_ble_eq_true rfl) rfl rfl rfl dX9_tryInsert_97 (fun H locs hP hD hS => ?_)
            have hP : va_P (dC, dI) vwCl (wMod a0 cy v97.2) H := hP
            have hD : va_D A (wMod a0 cy v97.2) := hD
            obtain rfl := Option.some.inj h
            exact hE H locs 100 ls _ hP hD hS rfl dX9_tryInsert_100
          replace h := if_f h c39
          refine lv_aload_n hx hb dX9_tryInsert_42 rfl (lv_at hl 1 rfl) ?_
          refine lv_iload_n hx hb dX9_tryInsert_43 rfl (lv_at hl 2 rfl) ?_
          refine lv_iload hx hb dX9_tryInsert_44 (lv_at hl 0 rfl) ?_
          refine lv_aload_n hx hb dX9_tryInsert_46 rfl (lv_at hl 1 rfl) ?_
          refine lv_iload_n hx hb dX9_tryInsert_47 rfl (lv_at hl 2 rfl) ?_
          refine lv_iload hx hb dX9_tryInsert_48 (lv_at hl 0 rfl) ?_
          refine lv_iconst (v := 1) hx hb dX9_tryInsert_50 (by decide) ?_
          refine lv_isub hx hb dX9_tryInsert_51 ?_
          obtain ⟨v52, e52, h⟩ := bnd h
          refine cV (av := [.int l1_34, .int (l5_34 - 1)]) (rest := [.int l5_34, .int l1_34, .ref (a0 0)]) (st1 := [.int v52, .int l5_34, .int l1_34, .ref (a0 0)]) (k1 := 0) (k2 := 0) (ci := 4) (q0 := 0) hx hb hml hown htg hN hK (c_X9_x l dC dI cy a0 m0_34 l1_34 (l5_34 - 1) v52 e52) (g_V gw947 gw949 gw13 gw63 gw950) hdV_X9_x rfl ⟨⟨Nat.le_of_ble_eq_true rfl, Nat.le_of_ble_eq_true rfl⟩, Nat.le_of_ble_eq_true rfl, Nat.le_of_ble_eq_true rfl⟩ hP hD hS hA ⟨rfl, rfl⟩ rfl [0, 1, 2, 3, 4, 5, 6, 7, 8, 9, 10, 11, 12, 13, 14] [] rfl rfl rfl (by decide) (by decide) hl.1 rfl (Nat.le_of_ble_eq_true rfl) rfl rfl rfl dX9_tryInsert_52 (fun H locs hP hD hS => ?_)
          have hP : va_P (dC, dI) vwCl (wMod a0 cy m0_34) H := hP
          have hD : va_D A (wMod a0 cy m0_34) := hD
          refine lv_aload_n hx hb dX9_tryInsert_55 rfl (lv_at hl 1 rfl) ?_
          refine lv_iload_n hx hb dX9_tryInsert_56 rfl (lv_at hl 2 rfl) ?_
          refine lv_iload hx hb dX9_tryInsert_57 (lv_at hl 0 rfl) ?_
          refine lv_iconst (v := 1) hx hb dX9_tryInsert_59 (by decide) ?_
          refine lv_isub hx hb dX9_tryInsert_60 ?_
          obtain ⟨v61, e61, h⟩ := bnd h
          refine cV (av := [.int l1_34, .int (l5_34 - 1)]) (rest := [.int v52, .int l5_34, .int l1_34, .ref (a0 0)]) (st1 := [.int v61, .int v52, .int l5_34, .int l1_34, .ref (a0 0)]) (k1 := 0) (k2 := 0) (ci := 4) (q0 := 0) hx hb hml hown htg hN hK (c_X9_y l dC dI cy a0 m0_34 l1_34 (l5_34 - 1) v61 e61) (g_V gw951 gw953 gw14 gw63 gw954) hdV_X9_y rfl ⟨⟨Nat.le_of_ble_eq_true rfl, Nat.le_of_ble_eq_true rfl⟩, Nat.le_of_ble_eq_true rfl, Nat.le_of_ble_eq_true rfl⟩ hP hD hS hA ⟨rfl, rfl⟩ rfl [0, 1, 2, 3, 4, 5, 6, 7, 8, 9, 10, 11, 12, 13, 14] [] rfl rfl rfl (by decide) (by decide) hl.1 rfl (Nat.le_of_ble_eq_true rfl) rfl rfl rfl dX9_tryInsert_61 (fun H locs hP hD hS => ?_)
          have hP : va_P (dC, dI) vwCl (wMod a0 cy m0_34) H := hP
          have hD : va_D A (wMod a0 cy m0_34) := hD
          obtain ⟨v64, e64, h⟩ := bnd h
          refine cV (av := [.int l1_34, .int l5_34, .int v52, .int v61]) (rest := []) (st1 := []) (k1 := 0) (k2 := 0) (ci := 4) (q0 := 0) hx hb hml hown htg hN hK (c_X9_setCorner l dC dI cy a0 m0_34 l1_34 l5_34 v52 v61 v64 e64) (g_V gw846 gw848 gw7 gw63 gw849) hdV_X9_setCorner rfl ⟨⟨Nat.le_of_ble_eq_true rfl, Nat.le_of_ble_eq_true rfl⟩, Nat.le_of_ble_eq_true rfl, Nat.le_of_ble_eq_true rfl⟩ hP hD hS hA ⟨rfl, rfl⟩ rfl [0, 1, 2, 3, 4, 5, 6, 7, 8, 9, 10, 11, 12, 13, 14] [] rfl rfl rfl (by decide) (by decide) hl.1 rfl (Nat.le_of_ble_eq_true rfl) rfl rfl rfl dX9_tryInsert_64 (fun H locs hP hD hS => ?_)
          have hP : va_P (dC, dI) vwCl (wMod a0 cy v64) H := hP
          have hD : va_D A (wMod a0 cy v64) := hD
          refine lv_iinc (v := l5_34 + (-1)) (lv' := [(5, .int (l5_34 + (-1))), (0, .ref (a0 0)), (1, .int l1_34), (2, .int l2_34), (3, .int l3_34), (4, .int l4_34)]) hx hb dX9_tryInsert_67 hl (k := 0) rfl rfl (by decide) rfl (fun ls hl => ?_)
          refine lv_goto (tgt := 34) hx hb dX9_tryInsert_70 (by decide) ?_
          exact ih34 v64 (l5_34 + (-1)) l1_34 l2_34 l3_34 l4_34 H locs ls h hP hD hS (lv_sub hl [0, 1, 2, 3, 4, 5] rfl)
      exact hL34 FU v24 v29 p1 p2 p3 p4 H locs ls h hP hD hS (lv_sub hl [0, 1, 2, 3, 4, 5] rfl)
    replace h := if_t h c18
    refine lv_iconst (v := 2) hx hb dX9_tryInsert_21 (by decide) ?_
    obtain rfl := Option.some.inj h
    exact hE H locs 22 ls _ hP hD hS rfl dX9_tryInsert_22
  replace h := if_t h c6
  refine lv_iconst (v := 1) hx hb dX9_tryInsert_9 (by decide) ?_
  obtain rfl := Option.some.inj h
  exact hE H locs 10 ls _ hP hD hS rfl dX9_tryInsert_10
def G_X9_tryRemove_L28   : Nat → Mod → Int32 → Int32 → Option (Int32 × Mod)
  | 0, _, _, _ => none
  | n28 + 1, m0_28, l3_28, l1_28 =>
    (G_X9_many m0_28 l1_28).bind fun v33 =>
    if v33 ≤ l3_28 + 1 then
      (rd 85 (m_state m0_28) (1 + l1_28)).bind fun v75 =>
      (wr 85 (m_state m0_28) (1 + l1_28) (v75 - 1)).bind fun g78 =>
      (G_X9_end (ms_state m0_28 g78)).bind fun v80 =>
      some (v80.1, v80.2)
    else
      (G_X9_x m0_28 l1_28 (l3_28 + 1)).bind fun v47 =>
      (G_X9_y m0_28 l1_28 (l3_28 + 1)).bind fun v55 =>
      (G_X9_setCorner m0_28 l1_28 l3_28 v47 v55).bind fun v58 =>
      (G_X9_tryRemove_L28 n28) v58 (l3_28 + 1) l1_28
def G_X9_tryRemove (m0 : Mod) (p1 : Int32) (p2 : Int32) : Option (Int32 × Mod) :=
  (G_X9_isCorner m0 p1 p2).bind fun v3 =>
  if v3 = 0 then
    some (1, m0)
  else
    (G_X9_many m0 p1).bind fun v13 =>
    if v13 = 3 then
      some (2, m0)
    else
      (G_X9_begin m0).bind fun v23 =>
      G_X9_tryRemove_L28 FU v23 p2 p1
abbrev rm_X9_tryRemove : Room := { frames := 6, cells := 0, slots := 0, locals := 146 }
theorem hdS_X9_tryRemove : yX9_tryRemove.cls ≠ "java/lang/invoke/MethodHandle" ∧ yX9_tryRemove.cls ≠ "java/lang/invoke/VarHandle" ∧ (parseMethodDescriptor yX9_tryRemove.desc).map (fun d => d.parameters.length) = some 2 := by decide +kernel
theorem hdV_X9_tryRemove : yX9_tryRemove.cls = RX9 ∧ yX9_tryRemove.cls ≠ "java/lang/invoke/MethodHandle" ∧ yX9_tryRemove.cls ≠ "java/lang/invoke/VarHandle" ∧ (parseMethodDescriptor yX9_tryRemove.desc).map (fun d => d.parameters.length) = some 2 := ⟨rfl, hdS_X9_tryRemove⟩
set_option maxHeartbeats 4000000 in
set_option maxRecDepth 100000 in
theorem c_X9_tryRemove (l : Launch) (dC : Nat → ClassId) (dI : Nat → Nat → Nat) (cy : Nat → ClassId) (a0 : Nat → Nat) (m0 : Mod) (p1 : Int32) (p2 : Int32) (res : Int32 × Mod) (h : G_X9_tryRemove m0 p1 p2 = some res) : CT l (dC, dI) (TY cy) yX9_tryRemove cX9_tryRemove 4 (some .int) rm_X9_tryRemove [.ref (a0 0), .int p1, .int p2] (wMod a0 cy m0) (wMod a0 cy res.2) (some (.int res.1)) := by
  refine CT.mk_i (own := RX9) ⟨by decide, rfl⟩ (Nat.le_of_ble_eq_true rfl) ?_
  intro p e s mm args below meth cd A Q hx hb hml hown htg hN hK hA hP hD hS hE ls hl
  have hl : lv_has ls 4 [(0, .ref (a0 0)), (1, .int p1), (2, .int p2)] := hl
  replace h : _ = some res := h
  unfold G_X9_tryRemove at h
  obtain ⟨H, hH⟩ : ∃ H, H = s.heap := ⟨_, rfl⟩
  obtain ⟨locs, hlocs⟩ : ∃ locs : List Loc, locs = [] := ⟨_, rfl⟩
  rw [← hlocs] at hS ⊢
  have hS : va_S A s.heap H locs := by rw [hH]; exact hS
  rw [← hH] at hP ⊢
  refine lv_aload_n hx hb dX9_tryRemove_0 rfl (lv_at hl 0 rfl) ?_
  refine lv_iload_n hx hb dX9_tryRemove_1 rfl (lv_at hl 1 rfl) ?_
  refine lv_iload_n hx hb dX9_tryRemove_2 rfl (lv_at hl 2 rfl) ?_
  obtain ⟨v3, e3, h⟩ := bnd h
  refine cV (av := [.int p1, .int p2]) (rest := []) (st1 := [.int v3]) (k1 := 0) (k2 := 0) (ci := 4) (q0 := 0) hx hb hml hown htg hN hK (c_X9_isCorner l dC dI cy a0 m0 p1 p2 v3 e3) (g_V gw1102 gw1104 gw44 gw63 gw1105) hdV_X9_isCorner rfl ⟨⟨Nat.le_of_ble_eq_true rfl, Nat.le_of_ble_eq_true rfl⟩, Nat.le_of_ble_eq_true rfl, Nat.le_of_ble_eq_true rfl⟩ hP hD hS hA ⟨rfl, rfl⟩ rfl [0, 1, 2, 3, 4, 5, 6, 7, 8, 9, 10, 11, 12, 13, 14] [] rfl rfl rfl (by decide) (by decide) hl.1 rfl (Nat.le_of_ble_eq_true rfl) rfl rfl rfl dX9_tryRemove_3 (fun H locs hP hD hS => ?_)
  have hP : va_P (dC, dI) vwCl (wMod a0 cy m0) H := hP
  have hD : va_D A (wMod a0 cy m0) := hD
  refine lv_if_ne (tgt := 11) hx hb dX9_tryRemove_6 (by decide) (fun c6 => ?_) (fun c6 => ?_)
  · replace h := if_f h c6
    refine lv_aload_n hx hb dX9_tryRemove_11 rfl (lv_at hl 0 rfl) ?_
    refine lv_iload_n hx hb dX9_tryRemove_12 rfl (lv_at hl 1 rfl) ?_
    obtain ⟨v13, e13, h⟩ := bnd h
    refine cV (av := [.int p1]) (rest := []) (st1 := [.int v13]) (k1 := 0) (k2 := 0) (ci := 4) (q0 := 0) hx hb hml hown htg hN hK (c_X9_many l dC dI cy a0 m0 p1 v13 e13) (g_V gw935 gw937 gw10 gw63 gw938) hdV_X9_many rfl ⟨⟨Nat.le_of_ble_eq_true rfl, Nat.le_of_ble_eq_true rfl⟩, Nat.le_of_ble_eq_true rfl, Nat.le_of_ble_eq_true rfl⟩ hP hD hS hA ⟨rfl, rfl⟩ rfl [0, 1, 2, 3, 4, 5, 6, 7, 8, 9, 10, 11, 12, 13, 14] [] rfl rfl rfl (by decide) (by decide) hl.1 rfl (Nat.le_of_ble_eq_true rfl) rfl rfl rfl dX9_tryRemove_13 (fun H locs hP hD hS => ?_)
    have hP : va_P (dC, dI) vwCl (wMod a0 cy m0) H := hP
    have hD : va_D A (wMod a0 cy m0) := hD
    refine lv_iconst (v := 3) hx hb dX9_tryRemove_16 (by decide) ?_
    refine lv_icmp_ne (tgt := 22) hx hb dX9_tryRemove_17 (by decide) (fun c17 => ?_) (fun c17 => ?_)
    · replace h := if_f h c17
      refine lv_aload_n hx hb dX9_tryRemove_22 rfl (lv_at hl 0 rfl) ?_
      obtain ⟨v23, e23, h⟩ := bnd h
      refine cV (av := []) (rest := []) (st1 := []) (k1 := 0) (k2 := 0) (ci := 4) (q0 := 0) hx hb hml hown htg hN hK (c_X9_begin l dC dI cy a0 m0  v23 e23) (g_V gw1125 gw1127 gw46 gw63 gw1128) hdV_X9_begin rfl ⟨⟨Nat.le_of_ble_eq_true rfl, Nat.le_of_ble_eq_true rfl⟩, Nat.le_of_ble_eq_true rfl, Nat.le_of_ble_eq_true rfl⟩ hP hD hS hA ⟨rfl, rfl⟩ rfl [0, 1, 2, 3, 4, 5, 6, 7, 8, 9, 10, 11, 12, 13, 14] [] rfl rfl rfl (by decide) (by decide) hl.1 rfl (Nat.le_of_ble_eq_true rfl) rfl rfl rfl dX9_tryRemove_23 (fun H locs hP hD hS => ?_)
      have hP : va_P (dC, dI) vwCl (wMod a0 cy v23) H := hP
      have hD : va_D A (wMod a0 cy v23) := hD
      refine lv_iload_n hx hb dX9_tryRemove_26 rfl (lv_at hl 2 rfl) ?_
      refine lv_istore_n (lv' := [(3, .int p2), (0, .ref (a0 0)), (1, .int p1), (2, .int p2)]) hx hb dX9_tryRemove_27 rfl hl (by decide) rfl (fun ls hl => ?_)
      have hL28 : ∀ (n28 : Nat) (m0_28 : Mod) (l3_28 : Int32) (l1_28 : Int32) (H : Heap) (locs : List Loc) (ls : Array Slot), G_X9_tryRemove_L28 n28 m0_28 l3_28 l1_28 = some res → va_P (dC, dI) vwCl (wMod a0 cy m0_28) H → va_D A (wMod a0 cy m0_28) → va_S A s.heap H locs → lv_has ls 4 [(3, .int l3_28), (0, .ref (a0 0)), (1, .int l1_28)] → W p l e rm_X9_tryRemove s mm args below meth cd H locs 0 0 Q (F0 mm 28 ls []) := by
        intro n28
        induction n28 with
        | zero => intro m0_28 l3_28 l1_28 H locs ls h; exact absurd h (by simp [G_X9_tryRemove_L28])
        | succ n28 ih28 =>
          intro m0_28 l3_28 l1_28 H locs ls h hP hD hS hl
          rw [G_X9_tryRemove_L28] at h
          refine lv_iload_n hx hb dX9_tryRemove_28 rfl (lv_at hl 0 rfl) ?_
          refine lv_iconst (v := 1) hx hb dX9_tryRemove_29 (by decide) ?_
          refine lv_iadd hx hb dX9_tryRemove_30 ?_
          refine lv_aload_n hx hb dX9_tryRemove_31 rfl (lv_at hl 1 rfl) ?_
          refine lv_iload_n hx hb dX9_tryRemove_32 rfl (lv_at hl 2 rfl) ?_
          obtain ⟨v33, e33, h⟩ := bnd h
          refine cV (av := [.int l1_28]) (rest := [.int (l3_28 + 1)]) (st1 := [.int v33, .int (l3_28 + 1)]) (k1 := 0) (k2 := 0) (ci := 4) (q0 := 0) hx hb hml hown htg hN hK (c_X9_many l dC dI cy a0 m0_28 l1_28 v33 e33) (g_V gw935 gw937 gw10 gw63 gw938) hdV_X9_many rfl ⟨⟨Nat.le_of_ble_eq_true rfl, Nat.le_of_ble_eq_true rfl⟩, Nat.le_of_ble_eq_true rfl, Nat.le_of_ble_eq_true rfl⟩ hP hD hS hA ⟨rfl, rfl⟩ rfl [0, 1, 2, 3, 4, 5, 6, 7, 8, 9, 10, 11, 12, 13, 14] [] rfl rfl rfl (by decide) (by decide) hl.1 rfl (Nat.le_of_ble_eq_true rfl) rfl rfl rfl dX9_tryRemove_33 (fun H locs hP hD hS => ?_)
          have hP : va_P (dC, dI) vwCl (wMod a0 cy m0_28) H := hP
          have hD : va_D A (wMod a0 cy m0_28) := hD
          refine lv_icmp_ge (tgt := 67) hx hb dX9_tryRemove_36 (by decide) (fun c36 => ?_) (fun c36 => ?_)
          · replace h := if_t h c36
            refine lv_aload_n hx hb dX9_tryRemove_67 rfl (lv_at hl 1 rfl) ?_
            refine va_get (D := (dC, dI)) (ci := 4) (v := .ref (a0 1)) (C := RX9) (T := TX9) (N := 18) hx hb htg inX9 hown hK hP 0 rfl rfl 1 (by decide) (htg _ gw851) (fun _ h9 => h9) rfl dX9_tryRemove_68 ?_
            refine lv_iconst (v := 1) hx hb dX9_tryRemove_71 (by decide) ?_
            refine lv_iload_n hx hb dX9_tryRemove_72 rfl (lv_at hl 2 rfl) ?_
            refine lv_iadd hx hb dX9_tryRemove_73 ?_
            refine lv_dup2_11 hx hb dX9_tryRemove_74 rfl rfl ?_
            obtain ⟨v75, e75, h⟩ := bnd h
            refine x_iald (v := v75) hx hb hK hP 1 0 rfl rfl e75 dX9_tryRemove_75 ?_
            refine lv_iconst (v := 1) hx hb dX9_tryRemove_76 (by decide) ?_
            refine lv_isub hx hb dX9_tryRemove_77 ?_
            obtain ⟨g78, e78, h⟩ := bnd h
            refine x_iast (g := g78) hx hb hK hP hD hS 1 0 rfl rfl e78 dX9_tryRemove_78 (fun H locs hP hD hS => ?_)
            have hP : va_P (dC, dI) vwCl (wMod a0 cy (ms_state m0_28 g78)) H := hP
            have hD : va_D A (wMod a0 cy (ms_state m0_28 g78)) := hD
            refine lv_aload_n hx hb dX9_tryRemove_79 rfl (lv_at hl 1 rfl) ?_
            obtain ⟨v80, e80, h⟩ := bnd h
            refine cV (av := []) (rest := []) (st1 := [.int v80.1]) (k1 := 0) (k2 := 0) (ci := 4) (q0 := 0) hx hb hml hown htg hN hK (c_X9_end l dC dI cy a0 (ms_state m0_28 g78)  v80 e80) (g_V gw1129 gw1131 gw47 gw63 gw1132) hdV_X9_end rfl ⟨⟨Nat.le_of_ble_eq_true rfl, Nat.le_of_ble_eq_true rfl⟩, Nat.le_of_ble_eq_true rfl, Nat.le_of_ble_eq_true rfl⟩ hP hD hS hA ⟨rfl, rfl⟩ rfl [0, 1, 2, 3, 4, 5, 6, 7, 8, 9, 10, 11, 12, 13, 14] [] rfl rfl rfl (by decide) (by decide) hl.1 rfl (Nat.le_of_ble_eq_true rfl) rfl rfl rfl dX9_tryRemove_80 (fun H locs hP hD hS => ?_)
            have hP : va_P (dC, dI) vwCl (wMod a0 cy v80.2) H := hP
            have hD : va_D A (wMod a0 cy v80.2) := hD
            obtain rfl := Option.some.inj h
            exact hE H locs 83 ls _ hP hD hS rfl dX9_tryRemove_83
          replace h := if_f h c36
          refine lv_aload_n hx hb dX9_tryRemove_39 rfl (lv_at hl 1 rfl) ?_
          refine lv_iload_n hx hb dX9_tryRemove_40 rfl (lv_at hl 2 rfl) ?_
          refine lv_iload_n hx hb dX9_tryRemove_41 rfl (lv_at hl 0 rfl) ?_
          refine lv_aload_n hx hb dX9_tryRemove_42 rfl (lv_at hl 1 rfl) ?_
          refine lv_iload_n hx hb dX9_tryRemove_43 rfl (lv_at hl 2 rfl) ?_
          refine lv_iload_n hx hb dX9_tryRemove_44 rfl (lv_at hl 0 rfl) ?_
          refine lv_iconst (v := 1) hx hb dX9_tryRemove_45 (by decide) ?_
          refine lv_iadd hx hb dX9_tryRemove_46 ?_
          obtain ⟨v47, e47, h⟩ := bnd h
          refine cV (av := [.int l1_28, .int (l3_28 + 1)]) (rest := [.int l3_28, .int l1_28, .ref (a0 0)]) (st1 := [.int v47, .int l3_28, .int l1_28, .ref (a0 0)]) (k1 := 0) (k2 := 0) (ci := 4) (q0 := 0) hx hb hml hown htg hN hK (c_X9_x l dC dI cy a0 m0_28 l1_28 (l3_28 + 1) v47 e47) (g_V gw947 gw949 gw13 gw63 gw950) hdV_X9_x rfl ⟨⟨Nat.le_of_ble_eq_true rfl, Nat.le_of_ble_eq_true rfl⟩, Nat.le_of_ble_eq_true rfl, Nat.le_of_ble_eq_true rfl⟩ hP hD hS hA ⟨rfl, rfl⟩ rfl [0, 1, 2, 3, 4, 5, 6, 7, 8, 9, 10, 11, 12, 13, 14] [] rfl rfl rfl (by decide) (by decide) hl.1 rfl (Nat.le_of_ble_eq_true rfl) rfl rfl rfl dX9_tryRemove_47 (fun H locs hP hD hS => ?_)
          have hP : va_P (dC, dI) vwCl (wMod a0 cy m0_28) H := hP
          have hD : va_D A (wMod a0 cy m0_28) := hD
          refine lv_aload_n hx hb dX9_tryRemove_50 rfl (lv_at hl 1 rfl) ?_
          refine lv_iload_n hx hb dX9_tryRemove_51 rfl (lv_at hl 2 rfl) ?_
          refine lv_iload_n hx hb dX9_tryRemove_52 rfl (lv_at hl 0 rfl) ?_
          refine lv_iconst (v := 1) hx hb dX9_tryRemove_53 (by decide) ?_
          refine lv_iadd hx hb dX9_tryRemove_54 ?_
          obtain ⟨v55, e55, h⟩ := bnd h
          refine cV (av := [.int l1_28, .int (l3_28 + 1)]) (rest := [.int v47, .int l3_28, .int l1_28, .ref (a0 0)]) (st1 := [.int v55, .int v47, .int l3_28, .int l1_28, .ref (a0 0)]) (k1 := 0) (k2 := 0) (ci := 4) (q0 := 0) hx hb hml hown htg hN hK (c_X9_y l dC dI cy a0 m0_28 l1_28 (l3_28 + 1) v55 e55) (g_V gw951 gw953 gw14 gw63 gw954) hdV_X9_y rfl ⟨⟨Nat.le_of_ble_eq_true rfl, Nat.le_of_ble_eq_true rfl⟩, Nat.le_of_ble_eq_true rfl, Nat.le_of_ble_eq_true rfl⟩ hP hD hS hA ⟨rfl, rfl⟩ rfl [0, 1, 2, 3, 4, 5, 6, 7, 8, 9, 10, 11, 12, 13, 14] [] rfl rfl rfl (by decide) (by decide) hl.1 rfl (Nat.le_of_ble_eq_true rfl) rfl rfl rfl dX9_tryRemove_55 (fun H locs hP hD hS => ?_)
          have hP : va_P (dC, dI) vwCl (wMod a0 cy m0_28) H := hP
          have hD : va_D A (wMod a0 cy m0_28) := hD
          obtain ⟨v58, e58, h⟩ := bnd h
          refine cV (av := [.int l1_28, .int l3_28, .int v47, .int v55]) (rest := []) (st1 := []) (k1 := 0) (k2 := 0) (ci := 4) (q0 := 0) hx hb hml hown htg hN hK (c_X9_setCorner l dC dI cy a0 m0_28 l1_28 l3_28 v47 v55 v58 e58) (g_V gw846 gw848 gw7 gw63 gw849) hdV_X9_setCorner rfl ⟨⟨Nat.le_of_ble_eq_true rfl, Nat.le_of_ble_eq_true rfl⟩, Nat.le_of_ble_eq_true rfl, Nat.le_of_ble_eq_true rfl⟩ hP hD hS hA ⟨rfl, rfl⟩ rfl [0, 1, 2, 3, 4, 5, 6, 7, 8, 9, 10, 11, 12, 13, 14] [] rfl rfl rfl (by decide) (by decide) hl.1 rfl (Nat.le_of_ble_eq_true rfl) rfl rfl rfl dX9_tryRemove_58 (fun H locs hP hD hS => ?_)
          have hP : va_P (dC, dI) vwCl (wMod a0 cy v58) H := hP
          have hD : va_D A (wMod a0 cy v58) := hD
          refine lv_iinc (v := l3_28 + 1) (lv' := [(3, .int (l3_28 + 1)), (0, .ref (a0 0)), (1, .int l1_28)]) hx hb dX9_tryRemove_61 hl (k := 0) rfl rfl (by decide) rfl (fun ls hl => ?_)
          refine lv_goto (tgt := 28) hx hb dX9_tryRemove_64 (by decide) ?_
          exact ih28 v58 (l3_28 + 1) l1_28 H locs ls h hP hD hS (lv_sub hl [0, 1, 2] rfl)
      exact hL28 FU v23 p2 p1 H locs ls h hP hD hS (lv_sub hl [0, 1, 2] rfl)
    replace h := if_t h c17
    refine lv_iconst (v := 2) hx hb dX9_tryRemove_20 (by decide) ?_
    obtain rfl := Option.some.inj h
    exact hE H locs 21 ls _ hP hD hS rfl dX9_tryRemove_21
  replace h := if_t h c6
  refine lv_iconst (v := 1) hx hb dX9_tryRemove_9 (by decide) ?_
  obtain rfl := Option.some.inj h
  exact hE H locs 10 ls _ hP hD hS rfl dX9_tryRemove_10
def G_X9_tryShift_L43 (r30 : Mod → Int32 → Int32 → Int32 → Option (Int32 × Mod))  : Nat → Mod → Int32 → Int32 → Int32 → Int32 → Option (Int32 × Mod)
  | 0, _, _, _, _, _ => none
  | n43 + 1, m0_43, l4_43, l3_43, l1_43, l2_43 =>
    (G_X9_many m0_43 l3_43).bind fun v47 =>
    if v47 ≤ l4_43 then
      r30 m0_43 (l3_43 + 1) l1_43 l2_43
    else
      (G_X9_x m0_43 l3_43 l4_43).bind fun v61 =>
      (G_X9_y m0_43 l3_43 l4_43).bind fun v70 =>
      (G_X9_setCorner m0_43 l3_43 l4_43 (v61 + l1_43) (v70 + l2_43)).bind fun v75 =>
      (G_X9_tryShift_L43 r30 n43) v75 (l4_43 + 1) l3_43 l1_43 l2_43
def G_X9_tryShift_L30   : Nat → Mod → Int32 → Int32 → Int32 → Option (Int32 × Mod)
  | 0, _, _, _, _ => none
  | n30 + 1, m0_30, l3_30, l1_30, l2_30 =>
    (rd 85 (m_state m0_30) 0).bind fun v36 =>
    if v36 ≤ l3_30 then
      (G_X9_end m0_30).bind fun v91 =>
      some (v91.1, v91.2)
    else
      G_X9_tryShift_L43 (G_X9_tryShift_L30 n30) FU m0_30 0 l3_30 l1_30 l2_30
def G_X9_tryShift (m0 : Mod) (p1 : Int32) (p2 : Int32) : Option (Int32 × Mod) :=
  (G_X9_within p1 (-15) 15).bind fun v5 =>
  if v5 = 0 then
    some (1, m0)
  else
    (G_X9_within p2 (-15) 15).bind fun v16 =>
    if v16 = 0 then
      some (1, m0)
    else
      (G_X9_begin m0).bind fun v25 =>
      G_X9_tryShift_L30 FU v25 0 p1 p2
abbrev rm_X9_tryShift : Room := { frames := 6, cells := 0, slots := 0, locals := 146 }
theorem hdS_X9_tryShift : yX9_tryShift.cls ≠ "java/lang/invoke/MethodHandle" ∧ yX9_tryShift.cls ≠ "java/lang/invoke/VarHandle" ∧ (parseMethodDescriptor yX9_tryShift.desc).map (fun d => d.parameters.length) = some 2 := by decide +kernel
theorem hdV_X9_tryShift : yX9_tryShift.cls = RX9 ∧ yX9_tryShift.cls ≠ "java/lang/invoke/MethodHandle" ∧ yX9_tryShift.cls ≠ "java/lang/invoke/VarHandle" ∧ (parseMethodDescriptor yX9_tryShift.desc).map (fun d => d.parameters.length) = some 2 := ⟨rfl, hdS_X9_tryShift⟩
set_option maxHeartbeats 4000000 in
set_option maxRecDepth 100000 in
theorem c_X9_tryShift (l : Launch) (dC : Nat → ClassId) (dI : Nat → Nat → Nat) (cy : Nat → ClassId) (a0 : Nat → Nat) (m0 : Mod) (p1 : Int32) (p2 : Int32) (res : Int32 × Mod) (h : G_X9_tryShift m0 p1 p2 = some res) : CT l (dC, dI) (TY cy) yX9_tryShift cX9_tryShift 5 (some .int) rm_X9_tryShift [.ref (a0 0), .int p1, .int p2] (wMod a0 cy m0) (wMod a0 cy res.2) (some (.int res.1)) := by
  refine CT.mk_i (own := RX9) ⟨by decide, rfl⟩ (Nat.le_of_ble_eq_true rfl) ?_
  intro p e s mm args below meth cd A Q hx hb hml hown htg hN hK hA hP hD hS hE ls hl
  have hl : lv_has ls 5 [(0, .ref (a0 0)), (1, .int p1), (2, .int p2)] := hl
  replace h : _ = some res := h
  unfold G_X9_tryShift at h
  obtain ⟨H, hH⟩ : ∃ H, H = s.heap := ⟨_, rfl⟩
  obtain ⟨locs, hlocs⟩ : ∃ locs : List Loc, locs = [] := ⟨_, rfl⟩
  rw [← hlocs] at hS ⊢
  have hS : va_S A s.heap H locs := by rw [hH]; exact hS
  rw [← hH] at hP ⊢
  refine lv_iload_n hx hb dX9_tryShift_0 rfl (lv_at hl 1 rfl) ?_
  refine lv_bipush (v := (-15)) hx hb dX9_tryShift_1 (by decide) ?_
  refine lv_bipush (v := 15) hx hb dX9_tryShift_3 (by decide) ?_
  obtain ⟨v5, e5, h⟩ := bnd h
  refine cS (av := [.int p1, .int (-15), .int 15]) (rest := []) (st1 := [.int v5]) (k1 := 0) (k2 := 0) hx hb hml hown htg hN hK (c_X9_within l dC dI cy   p1 (-15) 15 v5 e5) (g_S gw913 gw914 gw63 gw915) hdS_X9_within rfl ⟨⟨Nat.le_of_ble_eq_true rfl, Nat.le_of_ble_eq_true rfl⟩, Nat.le_of_ble_eq_true rfl, Nat.le_of_ble_eq_true rfl⟩ hP hD hS hA [] [0, 1, 2, 3, 4, 5, 6, 7, 8, 9, 10, 11, 12, 13, 14] rfl rfl rfl (by decide) (by decide) hl.1 rfl (Nat.le_of_ble_eq_true rfl) rfl rfl rfl dX9_tryShift_5 (fun H locs hP hD hS => ?_)
  obtain ⟨hP, hD⟩ := x_perm (ws' := wMod a0 cy m0) hP hD [0, 1, 2, 3, 4, 5, 6, 7, 8, 9, 10, 11, 12, 13, 14] (by decide) rfl rfl
  refine lv_if_eq (tgt := 22) hx hb dX9_tryShift_8 (by decide) (fun c8 => ?_) (fun c8 => ?_)
  · replace h := if_t h c8
    refine lv_iconst (v := 1) hx hb dX9_tryShift_22 (by decide) ?_
    obtain rfl := Option.some.inj h
    exact hE H locs 23 ls _ hP hD hS rfl dX9_tryShift_23
  replace h := if_f h c8
  refine lv_iload_n hx hb dX9_tryShift_11 rfl (lv_at hl 2 rfl) ?_
  refine lv_bipush (v := (-15)) hx hb dX9_tryShift_12 (by decide) ?_
  refine lv_bipush (v := 15) hx hb dX9_tryShift_14 (by decide) ?_
  obtain ⟨v16, e16, h⟩ := bnd h
  refine cS (av := [.int p2, .int (-15), .int 15]) (rest := []) (st1 := [.int v16]) (k1 := 0) (k2 := 0) hx hb hml hown htg hN hK (c_X9_within l dC dI cy   p2 (-15) 15 v16 e16) (g_S gw913 gw914 gw63 gw915) hdS_X9_within rfl ⟨⟨Nat.le_of_ble_eq_true rfl, Nat.le_of_ble_eq_true rfl⟩, Nat.le_of_ble_eq_true rfl, Nat.le_of_ble_eq_true rfl⟩ hP hD hS hA [] [0, 1, 2, 3, 4, 5, 6, 7, 8, 9, 10, 11, 12, 13, 14] rfl rfl rfl (by decide) (by decide) hl.1 rfl (Nat.le_of_ble_eq_true rfl) rfl rfl rfl dX9_tryShift_16 (fun H locs hP hD hS => ?_)
  obtain ⟨hP, hD⟩ := x_perm (ws' := wMod a0 cy m0) hP hD [0, 1, 2, 3, 4, 5, 6, 7, 8, 9, 10, 11, 12, 13, 14] (by decide) rfl rfl
  refine lv_if_ne (tgt := 24) hx hb dX9_tryShift_19 (by decide) (fun c19 => ?_) (fun c19 => ?_)
  · replace h := if_f h c19
    refine lv_aload_n hx hb dX9_tryShift_24 rfl (lv_at hl 0 rfl) ?_
    obtain ⟨v25, e25, h⟩ := bnd h
    refine cV (av := []) (rest := []) (st1 := []) (k1 := 0) (k2 := 0) (ci := 4) (q0 := 0) hx hb hml hown htg hN hK (c_X9_begin l dC dI cy a0 m0  v25 e25) (g_V gw1125 gw1127 gw46 gw63 gw1128) hdV_X9_begin rfl ⟨⟨Nat.le_of_ble_eq_true rfl, Nat.le_of_ble_eq_true rfl⟩, Nat.le_of_ble_eq_true rfl, Nat.le_of_ble_eq_true rfl⟩ hP hD hS hA ⟨rfl, rfl⟩ rfl [0, 1, 2, 3, 4, 5, 6, 7, 8, 9, 10, 11, 12, 13, 14] [] rfl rfl rfl (by decide) (by decide) hl.1 rfl (Nat.le_of_ble_eq_true rfl) rfl rfl rfl dX9_tryShift_25 (fun H locs hP hD hS => ?_)
    have hP : va_P (dC, dI) vwCl (wMod a0 cy v25) H := hP
    have hD : va_D A (wMod a0 cy v25) := hD
    refine lv_iconst (v := 0) hx hb dX9_tryShift_28 (by decide) ?_
    refine lv_istore_n (lv' := [(3, .int 0), (0, .ref (a0 0)), (1, .int p1), (2, .int p2)]) hx hb dX9_tryShift_29 rfl hl (by decide) rfl (fun ls hl => ?_)
    have hL30 : ∀ (n30 : Nat) (m0_30 : Mod) (l3_30 : Int32) (l1_30 : Int32) (l2_30 : Int32) (H : Heap) (locs : List Loc) (ls : Array Slot), G_X9_tryShift_L30 n30 m0_30 l3_30 l1_30 l2_30 = some res → va_P (dC, dI) vwCl (wMod a0 cy m0_30) H → va_D A (wMod a0 cy m0_30) → va_S A s.heap H locs → lv_has ls 5 [(3, .int l3_30), (0, .ref (a0 0)), (1, .int l1_30), (2, .int l2_30)] → W p l e rm_X9_tryShift s mm args below meth cd H locs 0 0 Q (F0 mm 30 ls []) := by
      intro n30
      induction n30 with
      | zero => intro m0_30 l3_30 l1_30 l2_30 H locs ls h; exact absurd h (by simp [G_X9_tryShift_L30])
      | succ n30 ih30 =>
        intro m0_30 l3_30 l1_30 l2_30 H locs ls h hP hD hS hl
        rw [G_X9_tryShift_L30] at h
        refine lv_iload_n hx hb dX9_tryShift_30 rfl (lv_at hl 0 rfl) ?_
        refine lv_aload_n hx hb dX9_tryShift_31 rfl (lv_at hl 1 rfl) ?_
        refine va_get (D := (dC, dI)) (ci := 4) (v := .ref (a0 1)) (C := RX9) (T := TX9) (N := 18) hx hb htg inX9 hown hK hP 0 rfl rfl 1 (by decide) (htg _ gw851) (fun _ h9 => h9) rfl dX9_tryShift_32 ?_
        refine lv_iconst (v := 0) hx hb dX9_tryShift_35 (by decide) ?_
        obtain ⟨v36, e36, h⟩ := bnd h
        refine x_iald (v := v36) hx hb hK hP 1 0 rfl rfl e36 dX9_tryShift_36 ?_
        refine lv_icmp_ge (tgt := 90) hx hb dX9_tryShift_37 (by decide) (fun c37 => ?_) (fun c37 => ?_)
        · replace h := if_t h c37
          refine lv_aload_n hx hb dX9_tryShift_90 rfl (lv_at hl 1 rfl) ?_
          obtain ⟨v91, e91, h⟩ := bnd h
          refine cV (av := []) (rest := []) (st1 := [.int v91.1]) (k1 := 0) (k2 := 0) (ci := 4) (q0 := 0) hx hb hml hown htg hN hK (c_X9_end l dC dI cy a0 m0_30  v91 e91) (g_V gw1129 gw1131 gw47 gw63 gw1132) hdV_X9_end rfl ⟨⟨Nat.le_of_ble_eq_true rfl, Nat.le_of_ble_eq_true rfl⟩, Nat.le_of_ble_eq_true rfl, Nat.le_of_ble_eq_true rfl⟩ hP hD hS hA ⟨rfl, rfl⟩ rfl [0, 1, 2, 3, 4, 5, 6, 7, 8, 9, 10, 11, 12, 13, 14] [] rfl rfl rfl (by decide) (by decide) hl.1 rfl (Nat.le_of_ble_eq_true rfl) rfl rfl rfl dX9_tryShift_91 (fun H locs hP hD hS => ?_)
          have hP : va_P (dC, dI) vwCl (wMod a0 cy v91.2) H := hP
          have hD : va_D A (wMod a0 cy v91.2) := hD
          obtain rfl := Option.some.inj h
          exact hE H locs 94 ls _ hP hD hS rfl dX9_tryShift_94
        replace h := if_f h c37
        refine lv_iconst (v := 0) hx hb dX9_tryShift_40 (by decide) ?_
        refine lv_istore (lv' := [(4, .int 0), (3, .int l3_30), (0, .ref (a0 0)), (1, .int l1_30), (2, .int l2_30)]) hx hb dX9_tryShift_41 hl (by decide) rfl (fun ls hl => ?_)
        have hL43 : ∀ (n43 : Nat) (m0_43 : Mod) (l4_43 : Int32) (l3_43 : Int32) (l1_43 : Int32) (l2_43 : Int32) (H : Heap) (locs : List Loc) (ls : Array Slot), G_X9_tryShift_L43 (G_X9_tryShift_L30 n30) n43 m0_43 l4_43 l3_43 l1_43 l2_43 = some res → va_P (dC, dI) vwCl (wMod a0 cy m0_43) H → va_D A (wMod a0 cy m0_43) → va_S A s.heap H locs → lv_has ls 5 [(4, .int l4_43), (3, .int l3_43), (0, .ref (a0 0)), (1, .int l1_43), (2, .int l2_43)] → W p l e rm_X9_tryShift s mm args below meth cd H locs 0 0 Q (F0 mm 43 ls []) := by
          intro n43
          induction n43 with
          | zero => intro m0_43 l4_43 l3_43 l1_43 l2_43 H locs ls h; exact absurd h (by simp [G_X9_tryShift_L43])
          | succ n43 ih43 =>
            intro m0_43 l4_43 l3_43 l1_43 l2_43 H locs ls h hP hD hS hl
            rw [G_X9_tryShift_L43] at h
            refine lv_iload hx hb dX9_tryShift_43 (lv_at hl 0 rfl) ?_
            refine lv_aload_n hx hb dX9_tryShift_45 rfl (lv_at hl 2 rfl) ?_
            refine lv_iload_n hx hb dX9_tryShift_46 rfl (lv_at hl 1 rfl) ?_
            obtain ⟨v47, e47, h⟩ := bnd h
            refine cV (av := [.int l3_43]) (rest := [.int l4_43]) (st1 := [.int v47, .int l4_43]) (k1 := 0) (k2 := 0) (ci := 4) (q0 := 0) hx hb hml hown htg hN hK (c_X9_many l dC dI cy a0 m0_43 l3_43 v47 e47) (g_V gw935 gw937 gw10 gw63 gw938) hdV_X9_many rfl ⟨⟨Nat.le_of_ble_eq_true rfl, Nat.le_of_ble_eq_true rfl⟩, Nat.le_of_ble_eq_true rfl, Nat.le_of_ble_eq_true rfl⟩ hP hD hS hA ⟨rfl, rfl⟩ rfl [0, 1, 2, 3, 4, 5, 6, 7, 8, 9, 10, 11, 12, 13, 14] [] rfl rfl rfl (by decide) (by decide) hl.1 rfl (Nat.le_of_ble_eq_true rfl) rfl rfl rfl dX9_tryShift_47 (fun H locs hP hD hS => ?_)
            have hP : va_P (dC, dI) vwCl (wMod a0 cy m0_43) H := hP
            have hD : va_D A (wMod a0 cy m0_43) := hD
            refine lv_icmp_ge (tgt := 84) hx hb dX9_tryShift_50 (by decide) (fun c50 => ?_) (fun c50 => ?_)
            · replace h := if_t h c50
              refine lv_iinc (v := l3_43 + 1) (lv' := [(3, .int (l3_43 + 1)), (4, .int l4_43), (0, .ref (a0 0)), (1, .int l1_43), (2, .int l2_43)]) hx hb dX9_tryShift_84 hl (k := 1) rfl rfl (by decide) rfl (fun ls hl => ?_)
              refine lv_goto (tgt := 30) hx hb dX9_tryShift_87 (by decide) ?_
              exact ih30 m0_43 (l3_43 + 1) l1_43 l2_43 H locs ls h hP hD hS (lv_sub hl [0, 2, 3, 4] rfl)
            replace h := if_f h c50
            refine lv_aload_n hx hb dX9_tryShift_53 rfl (lv_at hl 2 rfl) ?_
            refine lv_iload_n hx hb dX9_tryShift_54 rfl (lv_at hl 1 rfl) ?_
            refine lv_iload hx hb dX9_tryShift_55 (lv_at hl 0 rfl) ?_
            refine lv_aload_n hx hb dX9_tryShift_57 rfl (lv_at hl 2 rfl) ?_
            refine lv_iload_n hx hb dX9_tryShift_58 rfl (lv_at hl 1 rfl) ?_
            refine lv_iload hx hb dX9_tryShift_59 (lv_at hl 0 rfl) ?_
            obtain ⟨v61, e61, h⟩ := bnd h
            refine cV (av := [.int l3_43, .int l4_43]) (rest := [.int l4_43, .int l3_43, .ref (a0 0)]) (st1 := [.int v61, .int l4_43, .int l3_43, .ref (a0 0)]) (k1 := 0) (k2 := 0) (ci := 4) (q0 := 0) hx hb hml hown htg hN hK (c_X9_x l dC dI cy a0 m0_43 l3_43 l4_43 v61 e61) (g_V gw947 gw949 gw13 gw63 gw950) hdV_X9_x rfl ⟨⟨Nat.le_of_ble_eq_true rfl, Nat.le_of_ble_eq_true rfl⟩, Nat.le_of_ble_eq_true rfl, Nat.le_of_ble_eq_true rfl⟩ hP hD hS hA ⟨rfl, rfl⟩ rfl [0, 1, 2, 3, 4, 5, 6, 7, 8, 9, 10, 11, 12, 13, 14] [] rfl rfl rfl (by decide) (by decide) hl.1 rfl (Nat.le_of_ble_eq_true rfl) rfl rfl rfl dX9_tryShift_61 (fun H locs hP hD hS => ?_)
            have hP : va_P (dC, dI) vwCl (wMod a0 cy m0_43) H := hP
            have hD : va_D A (wMod a0 cy m0_43) := hD
            refine lv_iload_n hx hb dX9_tryShift_64 rfl (lv_at hl 3 rfl) ?_
            refine lv_iadd hx hb dX9_tryShift_65 ?_
            refine lv_aload_n hx hb dX9_tryShift_66 rfl (lv_at hl 2 rfl) ?_
            refine lv_iload_n hx hb dX9_tryShift_67 rfl (lv_at hl 1 rfl) ?_
            refine lv_iload hx hb dX9_tryShift_68 (lv_at hl 0 rfl) ?_
            obtain ⟨v70, e70, h⟩ := bnd h
            refine cV (av := [.int l3_43, .int l4_43]) (rest := [.int (v61 + l1_43), .int l4_43, .int l3_43, .ref (a0 0)]) (st1 := [.int v70, .int (v61 + l1_43), .int l4_43, .int l3_43, .ref (a0 0)]) (k1 := 0) (k2 := 0) (ci := 4) (q0 := 0) hx hb hml hown htg hN hK (c_X9_y l dC dI cy a0 m0_43 l3_43 l4_43 v70 e70) (g_V gw951 gw953 gw14 gw63 gw954) hdV_X9_y rfl ⟨⟨Nat.le_of_ble_eq_true rfl, Nat.le_of_ble_eq_true rfl⟩, Nat.le_of_ble_eq_true rfl, Nat.le_of_ble_eq_true rfl⟩ hP hD hS hA ⟨rfl, rfl⟩ rfl [0, 1, 2, 3, 4, 5, 6, 7, 8, 9, 10, 11, 12, 13, 14] [] rfl rfl rfl (by decide) (by decide) hl.1 rfl (Nat.le_of_ble_eq_true rfl) rfl rfl rfl dX9_tryShift_70 (fun H locs hP hD hS => ?_)
            have hP : va_P (dC, dI) vwCl (wMod a0 cy m0_43) H := hP
            have hD : va_D A (wMod a0 cy m0_43) := hD
            refine lv_iload_n hx hb dX9_tryShift_73 rfl (lv_at hl 4 rfl) ?_
            refine lv_iadd hx hb dX9_tryShift_74 ?_
            obtain ⟨v75, e75, h⟩ := bnd h
            refine cV (av := [.int l3_43, .int l4_43, .int (v61 + l1_43), .int (v70 + l2_43)]) (rest := []) (st1 := []) (k1 := 0) (k2 := 0) (ci := 4) (q0 := 0) hx hb hml hown htg hN hK (c_X9_setCorner l dC dI cy a0 m0_43 l3_43 l4_43 (v61 + l1_43) (v70 + l2_43) v75 e75) (g_V gw846 gw848 gw7 gw63 gw849) hdV_X9_setCorner rfl ⟨⟨Nat.le_of_ble_eq_true rfl, Nat.le_of_ble_eq_true rfl⟩, Nat.le_of_ble_eq_true rfl, Nat.le_of_ble_eq_true rfl⟩ hP hD hS hA ⟨rfl, rfl⟩ rfl [0, 1, 2, 3, 4, 5, 6, 7, 8, 9, 10, 11, 12, 13, 14] [] rfl rfl rfl (by decide) (by decide) hl.1 rfl (Nat.le_of_ble_eq_true rfl) rfl rfl rfl dX9_tryShift_75 (fun H locs hP hD hS => ?_)
            have hP : va_P (dC, dI) vwCl (wMod a0 cy v75) H := hP
            have hD : va_D A (wMod a0 cy v75) := hD
            refine lv_iinc (v := l4_43 + 1) (lv' := [(4, .int (l4_43 + 1)), (3, .int l3_43), (0, .ref (a0 0)), (1, .int l1_43), (2, .int l2_43)]) hx hb dX9_tryShift_78 hl (k := 0) rfl rfl (by decide) rfl (fun ls hl => ?_)
            refine lv_goto (tgt := 43) hx hb dX9_tryShift_81 (by decide) ?_
            exact ih43 v75 (l4_43 + 1) l3_43 l1_43 l2_43 H locs ls h hP hD hS (lv_sub hl [0, 1, 2, 3, 4] rfl)
        exact hL43 FU m0_30 0 l3_30 l1_30 l2_30 H locs ls h hP hD hS (lv_sub hl [0, 1, 2, 3, 4] rfl)
    exact hL30 FU v25 0 p1 p2 H locs ls h hP hD hS (lv_sub hl [0, 1, 2, 3] rfl)
  replace h := if_t h c19
  refine lv_iconst (v := 1) hx hb dX9_tryShift_22 (by decide) ?_
  obtain rfl := Option.some.inj h
  exact hE H locs 23 ls _ hP hD hS rfl dX9_tryShift_23
def G_X9_turned_L18 (r6 : Mod → Int32 → Int32 → Option (Mod))  : Nat → Mod → Int32 → Int32 → Int32 → Option (Mod)
  | 0, _, _, _, _ => none
  | n18 + 1, m0_18, l3_18, l2_18, l1_18 =>
    (G_X9_many m0_18 l2_18).bind fun v21 =>
    if v21 ≤ l3_18 then
      r6 m0_18 (l2_18 + 1) l1_18
    else
      (G_X9_x m0_18 l2_18 l3_18).bind fun v30 =>
      (G_X9_y m0_18 l2_18 l3_18).bind fun v38 =>
      ((if l1_18 = 0 then
          some (15 - v38)
        else
          some (15 - v30)) : Option (Int32)).bind fun b47 =>
      ((if l1_18 = 0 then
          some v30
        else
          some v38) : Option (Int32)).bind fun b64 =>
      (G_X9_setCorner m0_18 l2_18 l3_18 b47 b64).bind fun v74 =>
      (G_X9_turned_L18 r6 n18) v74 (l3_18 + 1) l2_18 l1_18
def G_X9_turned_L6   : Nat → Mod → Int32 → Int32 → Option (Mod)
  | 0, _, _, _ => none
  | n6 + 1, m0_6, l2_6, l1_6 =>
    (rd 85 (m_state m0_6) 0).bind fun v12 =>
    if v12 ≤ l2_6 then
      some m0_6
    else
      G_X9_turned_L18 (G_X9_turned_L6 n6) FU m0_6 0 l2_6 l1_6
def G_X9_turned (m0 : Mod) (p1 : Int32) : Option (Mod) :=
  (G_X9_begin m0).bind fun v1 =>
  G_X9_turned_L6 FU v1 0 p1
abbrev rm_X9_turned : Room := { frames := 2, cells := 0, slots := 0, locals := 44 }
theorem hdS_X9_turned : yX9_turned.cls ≠ "java/lang/invoke/MethodHandle" ∧ yX9_turned.cls ≠ "java/lang/invoke/VarHandle" ∧ (parseMethodDescriptor yX9_turned.desc).map (fun d => d.parameters.length) = some 1 := by decide +kernel
theorem hdV_X9_turned : yX9_turned.cls = RX9 ∧ yX9_turned.cls ≠ "java/lang/invoke/MethodHandle" ∧ yX9_turned.cls ≠ "java/lang/invoke/VarHandle" ∧ (parseMethodDescriptor yX9_turned.desc).map (fun d => d.parameters.length) = some 1 := ⟨rfl, hdS_X9_turned⟩
set_option maxHeartbeats 4000000 in
set_option maxRecDepth 100000 in
theorem c_X9_turned (l : Launch) (dC : Nat → ClassId) (dI : Nat → Nat → Nat) (cy : Nat → ClassId) (a0 : Nat → Nat) (m0 : Mod) (p1 : Int32) (res : Mod) (h : G_X9_turned m0 p1 = some res) : CT l (dC, dI) (TY cy) yX9_turned cX9_turned 6 none rm_X9_turned [.ref (a0 0), .int p1] (wMod a0 cy m0) (wMod a0 cy res) none := by
  refine CT.mk_v (own := RX9) ⟨by decide, rfl⟩ (Nat.le_of_ble_eq_true rfl) ?_
  intro p e s mm args below meth cd A Q hx hb hml hown htg hN hK hA hP hD hS hE ls hl
  have hl : lv_has ls 6 [(0, .ref (a0 0)), (1, .int p1)] := hl
  replace h : _ = some res := h
  unfold G_X9_turned at h
  obtain ⟨H, hH⟩ : ∃ H, H = s.heap := ⟨_, rfl⟩
  obtain ⟨locs, hlocs⟩ : ∃ locs : List Loc, locs = [] := ⟨_, rfl⟩
  rw [← hlocs] at hS ⊢
  have hS : va_S A s.heap H locs := by rw [hH]; exact hS
  rw [← hH] at hP ⊢
  refine lv_aload_n hx hb dX9_turned_0 rfl (lv_at hl 0 rfl) ?_
  obtain ⟨v1, e1, h⟩ := bnd h
  refine cV (av := []) (rest := []) (st1 := []) (k1 := 0) (k2 := 0) (ci := 4) (q0 := 0) hx hb hml hown htg hN hK (c_X9_begin l dC dI cy a0 m0  v1 e1) (g_V gw1125 gw1127 gw46 gw63 gw1128) hdV_X9_begin rfl ⟨⟨Nat.le_of_ble_eq_true rfl, Nat.le_of_ble_eq_true rfl⟩, Nat.le_of_ble_eq_true rfl, Nat.le_of_ble_eq_true rfl⟩ hP hD hS hA ⟨rfl, rfl⟩ rfl [0, 1, 2, 3, 4, 5, 6, 7, 8, 9, 10, 11, 12, 13, 14] [] rfl rfl rfl (by decide) (by decide) hl.1 rfl (Nat.le_of_ble_eq_true rfl) rfl rfl rfl dX9_turned_1 (fun H locs hP hD hS => ?_)
  have hP : va_P (dC, dI) vwCl (wMod a0 cy v1) H := hP
  have hD : va_D A (wMod a0 cy v1) := hD
  refine lv_iconst (v := 0) hx hb dX9_turned_4 (by decide) ?_
  refine lv_istore_n (lv' := [(2, .int 0), (0, .ref (a0 0)), (1, .int p1)]) hx hb dX9_turned_5 rfl hl (by decide) rfl (fun ls hl => ?_)
  have hL6 : ∀ (n6 : Nat) (m0_6 : Mod) (l2_6 : Int32) (l1_6 : Int32) (H : Heap) (locs : List Loc) (ls : Array Slot), G_X9_turned_L6 n6 m0_6 l2_6 l1_6 = some res → va_P (dC, dI) vwCl (wMod a0 cy m0_6) H → va_D A (wMod a0 cy m0_6) → va_S A s.heap H locs → lv_has ls 6 [(2, .int l2_6), (0, .ref (a0 0)), (1, .int l1_6)] → W p l e rm_X9_turned s mm args below meth cd H locs 0 0 Q (F0 mm 6 ls []) := by
    intro n6
    induction n6 with
    | zero => intro m0_6 l2_6 l1_6 H locs ls h; exact absurd h (by simp [G_X9_turned_L6])
    | succ n6 ih6 =>
      intro m0_6 l2_6 l1_6 H locs ls h hP hD hS hl
      rw [G_X9_turned_L6] at h
      refine lv_iload_n hx hb dX9_turned_6 rfl (lv_at hl 0 rfl) ?_
      refine lv_aload_n hx hb dX9_turned_7 rfl (lv_at hl 1 rfl) ?_
      refine va_get (D := (dC, dI)) (ci := 4) (v := .ref (a0 1)) (C := RX9) (T := TX9) (N := 18) hx hb htg inX9 hown hK hP 0 rfl rfl 1 (by decide) (htg _ gw851) (fun _ h9 => h9) rfl dX9_turned_8 ?_
      refine lv_iconst (v := 0) hx hb dX9_turned_11 (by decide) ?_
      obtain ⟨v12, e12, h⟩ := bnd h
      refine x_iald (v := v12) hx hb hK hP 1 0 rfl rfl e12 dX9_turned_12 ?_
      refine lv_icmp_ge (tgt := 89) hx hb dX9_turned_13 (by decide) (fun c13 => ?_) (fun c13 => ?_)
      · replace h := if_t h c13
        obtain rfl := Option.some.inj h
        exact hE H locs 89 ls hP hD hS dX9_turned_89
      replace h := if_f h c13
      refine lv_iconst (v := 0) hx hb dX9_turned_16 (by decide) ?_
      refine lv_istore_n (lv' := [(3, .int 0), (2, .int l2_6), (0, .ref (a0 0)), (1, .int l1_6)]) hx hb dX9_turned_17 rfl hl (by decide) rfl (fun ls hl => ?_)
      have hL18 : ∀ (n18 : Nat) (m0_18 : Mod) (l3_18 : Int32) (l2_18 : Int32) (l1_18 : Int32) (H : Heap) (locs : List Loc) (ls : Array Slot), G_X9_turned_L18 (G_X9_turned_L6 n6) n18 m0_18 l3_18 l2_18 l1_18 = some res → va_P (dC, dI) vwCl (wMod a0 cy m0_18) H → va_D A (wMod a0 cy m0_18) → va_S A s.heap H locs → lv_has ls 6 [(3, .int l3_18), (2, .int l2_18), (0, .ref (a0 0)), (1, .int l1_18)] → W p l e rm_X9_turned s mm args below meth cd H locs 0 0 Q (F0 mm 18 ls []) := by
        intro n18
        induction n18 with
        | zero => intro m0_18 l3_18 l2_18 l1_18 H locs ls h; exact absurd h (by simp [G_X9_turned_L18])
        | succ n18 ih18 =>
          intro m0_18 l3_18 l2_18 l1_18 H locs ls h hP hD hS hl
          rw [G_X9_turned_L18] at h
          refine lv_iload_n hx hb dX9_turned_18 rfl (lv_at hl 0 rfl) ?_
          refine lv_aload_n hx hb dX9_turned_19 rfl (lv_at hl 2 rfl) ?_
          refine lv_iload_n hx hb dX9_turned_20 rfl (lv_at hl 1 rfl) ?_
          obtain ⟨v21, e21, h⟩ := bnd h
          refine cV (av := [.int l2_18]) (rest := [.int l3_18]) (st1 := [.int v21, .int l3_18]) (k1 := 0) (k2 := 0) (ci := 4) (q0 := 0) hx hb hml hown htg hN hK (c_X9_many l dC dI cy a0 m0_18 l2_18 v21 e21) (g_V gw935 gw937 gw10 gw63 gw938) hdV_X9_many rfl ⟨⟨Nat.le_of_ble_eq_true rfl, Nat.le_of_ble_eq_true rfl⟩, Nat.le_of_ble_eq_true rfl, Nat.le_of_ble_eq_true rfl⟩ hP hD hS hA ⟨rfl, rfl⟩ rfl [0, 1, 2, 3, 4, 5, 6, 7, 8, 9, 10, 11, 12, 13, 14] [] rfl rfl rfl (by decide) (by decide) hl.1 rfl (Nat.le_of_ble_eq_true rfl) rfl rfl rfl dX9_turned_21 (fun H locs hP hD hS => ?_)
          have hP : va_P (dC, dI) vwCl (wMod a0 cy m0_18) H := hP
          have hD : va_D A (wMod a0 cy m0_18) := hD
          refine lv_icmp_ge (tgt := 83) hx hb dX9_turned_24 (by decide) (fun c24 => ?_) (fun c24 => ?_)
          · replace h := if_t h c24
            refine lv_iinc (v := l2_18 + 1) (lv' := [(2, .int (l2_18 + 1)), (3, .int l3_18), (0, .ref (a0 0)), (1, .int l1_18)]) hx hb dX9_turned_83 hl (k := 1) rfl rfl (by decide) rfl (fun ls hl => ?_)
            refine lv_goto (tgt := 6) hx hb dX9_turned_86 (by decide) ?_
            exact ih6 m0_18 (l2_18 + 1) l1_18 H locs ls h hP hD hS (lv_sub hl [0, 2, 3] rfl)
          replace h := if_f h c24
          refine lv_aload_n hx hb dX9_turned_27 rfl (lv_at hl 2 rfl) ?_
          refine lv_iload_n hx hb dX9_turned_28 rfl (lv_at hl 1 rfl) ?_
          refine lv_iload_n hx hb dX9_turned_29 rfl (lv_at hl 0 rfl) ?_
          obtain ⟨v30, e30, h⟩ := bnd h
          refine cV (av := [.int l2_18, .int l3_18]) (rest := []) (st1 := [.int v30]) (k1 := 0) (k2 := 0) (ci := 4) (q0 := 0) hx hb hml hown htg hN hK (c_X9_x l dC dI cy a0 m0_18 l2_18 l3_18 v30 e30) (g_V gw947 gw949 gw13 gw63 gw950) hdV_X9_x rfl ⟨⟨Nat.le_of_ble_eq_true rfl, Nat.le_of_ble_eq_true rfl⟩, Nat.le_of_ble_eq_true rfl, Nat.le_of_ble_eq_true rfl⟩ hP hD hS hA ⟨rfl, rfl⟩ rfl [0, 1, 2, 3, 4, 5, 6, 7, 8, 9, 10, 11, 12, 13, 14] [] rfl rfl rfl (by decide) (by decide) hl.1 rfl (Nat.le_of_ble_eq_true rfl) rfl rfl rfl dX9_turned_30 (fun H locs hP hD hS => ?_)
          have hP : va_P (dC, dI) vwCl (wMod a0 cy m0_18) H := hP
          have hD : va_D A (wMod a0 cy m0_18) := hD
          refine lv_istore (lv' := [(4, .int v30), (3, .int l3_18), (2, .int l2_18), (0, .ref (a0 0)), (1, .int l1_18)]) hx hb dX9_turned_33 hl (by decide) rfl (fun ls hl => ?_)
          refine lv_aload_n hx hb dX9_turned_35 rfl (lv_at hl 3 rfl) ?_
          refine lv_iload_n hx hb dX9_turned_36 rfl (lv_at hl 2 rfl) ?_
          refine lv_iload_n hx hb dX9_turned_37 rfl (lv_at hl 1 rfl) ?_
          obtain ⟨v38, e38, h⟩ := bnd h
          refine cV (av := [.int l2_18, .int l3_18]) (rest := []) (st1 := [.int v38]) (k1 := 0) (k2 := 0) (ci := 4) (q0 := 0) hx hb hml hown htg hN hK (c_X9_y l dC dI cy a0 m0_18 l2_18 l3_18 v38 e38) (g_V gw951 gw953 gw14 gw63 gw954) hdV_X9_y rfl ⟨⟨Nat.le_of_ble_eq_true rfl, Nat.le_of_ble_eq_true rfl⟩, Nat.le_of_ble_eq_true rfl, Nat.le_of_ble_eq_true rfl⟩ hP hD hS hA ⟨rfl, rfl⟩ rfl [0, 1, 2, 3, 4, 5, 6, 7, 8, 9, 10, 11, 12, 13, 14] [] rfl rfl rfl (by decide) (by decide) hl.1 rfl (Nat.le_of_ble_eq_true rfl) rfl rfl rfl dX9_turned_38 (fun H locs hP hD hS => ?_)
          have hP : va_P (dC, dI) vwCl (wMod a0 cy m0_18) H := hP
          have hD : va_D A (wMod a0 cy m0_18) := hD
          refine lv_istore (lv' := [(5, .int v38), (4, .int v30), (3, .int l3_18), (2, .int l2_18), (0, .ref (a0 0)), (1, .int l1_18)]) hx hb dX9_turned_41 hl (by decide) rfl (fun ls hl => ?_)
          refine lv_aload_n hx hb dX9_turned_43 rfl (lv_at hl 4 rfl) ?_
          refine lv_iload_n hx hb dX9_turned_44 rfl (lv_at hl 3 rfl) ?_
          refine lv_iload_n hx hb dX9_turned_45 rfl (lv_at hl 2 rfl) ?_
          refine lv_iload_n hx hb dX9_turned_46 rfl (lv_at hl 5 rfl) ?_
          obtain ⟨b47, e47, h⟩ := bnd h
          have hr63 : ∀ (H : Heap) (locs : List Loc) (ls : Array Slot), va_P (dC, dI) vwCl (wMod a0 cy m0_18) H → va_D A (wMod a0 cy m0_18) → va_S A s.heap H locs → lv_has ls 6 [(5, .int v38), (4, .int v30), (3, .int l3_18), (2, .int l2_18), (0, .ref (a0 0)), (1, .int l1_18)] → W p l e rm_X9_turned s mm args below meth cd H locs 0 0 Q (F0 mm 63 ls [.int b47, .int l3_18, .int l2_18, .ref (a0 0)]) := by
            intro H locs ls hP hD hS hl
            refine lv_iload_n hx hb dX9_turned_63 rfl (lv_at hl 5 rfl) ?_
            obtain ⟨b64, e64, h⟩ := bnd h
            have hr74 : ∀ (H : Heap) (locs : List Loc) (ls : Array Slot), va_P (dC, dI) vwCl (wMod a0 cy m0_18) H → va_D A (wMod a0 cy m0_18) → va_S A s.heap H locs → lv_has ls 6 [(5, .int v38), (4, .int v30), (3, .int l3_18), (2, .int l2_18), (0, .ref (a0 0)), (1, .int l1_18)] → W p l e rm_X9_turned s mm args below meth cd H locs 0 0 Q (F0 mm 74 ls [.int b64, .int b47, .int l3_18, .int l2_18, .ref (a0 0)]) := by
              intro H locs ls hP hD hS hl
              obtain ⟨v74, e74, h⟩ := bnd h
              refine cV (av := [.int l2_18, .int l3_18, .int b47, .int b64]) (rest := []) (st1 := []) (k1 := 0) (k2 := 0) (ci := 4) (q0 := 0) hx hb hml hown htg hN hK (c_X9_setCorner l dC dI cy a0 m0_18 l2_18 l3_18 b47 b64 v74 e74) (g_V gw846 gw848 gw7 gw63 gw849) hdV_X9_setCorner rfl ⟨⟨Nat.le_of_ble_eq_true rfl, Nat.le_of_ble_eq_true rfl⟩, Nat.le_of_ble_eq_true rfl, Nat.le_of_ble_eq_true rfl⟩ hP hD hS hA ⟨rfl, rfl⟩ rfl [0, 1, 2, 3, 4, 5, 6, 7, 8, 9, 10, 11, 12, 13, 14] [] rfl rfl rfl (by decide) (by decide) hl.1 rfl (Nat.le_of_ble_eq_true rfl) rfl rfl rfl dX9_turned_74 (fun H locs hP hD hS => ?_)
              have hP : va_P (dC, dI) vwCl (wMod a0 cy v74) H := hP
              have hD : va_D A (wMod a0 cy v74) := hD
              refine lv_iinc (v := l3_18 + 1) (lv' := [(3, .int (l3_18 + 1)), (5, .int v38), (4, .int v30), (2, .int l2_18), (0, .ref (a0 0)), (1, .int l1_18)]) hx hb dX9_turned_77 hl (k := 2) rfl rfl (by decide) rfl (fun ls hl => ?_)
              refine lv_goto (tgt := 18) hx hb dX9_turned_80 (by decide) ?_
              exact ih18 v74 (l3_18 + 1) l2_18 l1_18 H locs ls h hP hD hS (lv_sub hl [0, 3, 4, 5] rfl)
            have h := e64
            clear e64
            refine lv_if_eq (tgt := 72) hx hb dX9_turned_64 (by decide) (fun c64 => ?_) (fun c64 => ?_)
            · replace h := if_t h c64
              refine lv_iload hx hb dX9_turned_72 (lv_at hl 1 rfl) ?_
              obtain rfl := Option.some.inj h
              exact hr74 H locs ls hP hD hS hl
            replace h := if_f h c64
            refine lv_iload hx hb dX9_turned_67 (lv_at hl 0 rfl) ?_
            refine lv_goto (tgt := 74) hx hb dX9_turned_69 (by decide) ?_
            obtain rfl := Option.some.inj h
            exact hr74 H locs ls hP hD hS hl
          have h := e47
          clear e47
          refine lv_if_eq (tgt := 58) hx hb dX9_turned_47 (by decide) (fun c47 => ?_) (fun c47 => ?_)
          · replace h := if_t h c47
            refine lv_bipush (v := 15) hx hb dX9_turned_58 (by decide) ?_
            refine lv_iload hx hb dX9_turned_60 (lv_at hl 0 rfl) ?_
            refine lv_isub hx hb dX9_turned_62 ?_
            obtain rfl := Option.some.inj h
            exact hr63 H locs ls hP hD hS hl
          replace h := if_f h c47
          refine lv_bipush (v := 15) hx hb dX9_turned_50 (by decide) ?_
          refine lv_iload hx hb dX9_turned_52 (lv_at hl 1 rfl) ?_
          refine lv_isub hx hb dX9_turned_54 ?_
          refine lv_goto (tgt := 63) hx hb dX9_turned_55 (by decide) ?_
          obtain rfl := Option.some.inj h
          exact hr63 H locs ls hP hD hS hl
      exact hL18 FU m0_6 0 l2_6 l1_6 H locs ls h hP hD hS (lv_sub hl [0, 1, 2, 3] rfl)
  exact hL6 FU v1 0 p1 H locs ls h hP hD hS (lv_sub hl [0, 1, 2] rfl)
def G_X9_isTurned_j19   (m0_19 : Mod) (l1_19 : Int32) : Option (Int32 × Mod) :=
  if 2 ≤ l1_19 then
    some (0, m0_19)
  else
    some (1, m0_19)
def G_X9_isTurned (m0 : Mod) (p1 : Int32) : Option (Int32 × Mod) :=
  if 2 ≤ p1 then
    G_X9_isTurned_j19 m0 p1
  else
    ((if p1 = 1 then
        some 1
      else
        some 0) : Option (Int32)).bind fun b8 =>
    (G_X9_turned m0 b8).bind fun v16 =>
    G_X9_isTurned_j19 v16 p1
abbrev rm_X9_isTurned : Room := { frames := 3, cells := 0, slots := 0, locals := 69 }
theorem hdS_X9_isTurned : yX9_isTurned.cls ≠ "java/lang/invoke/MethodHandle" ∧ yX9_isTurned.cls ≠ "java/lang/invoke/VarHandle" ∧ (parseMethodDescriptor yX9_isTurned.desc).map (fun d => d.parameters.length) = some 1 := by decide +kernel
theorem hdV_X9_isTurned : yX9_isTurned.cls = RX9 ∧ yX9_isTurned.cls ≠ "java/lang/invoke/MethodHandle" ∧ yX9_isTurned.cls ≠ "java/lang/invoke/VarHandle" ∧ (parseMethodDescriptor yX9_isTurned.desc).map (fun d => d.parameters.length) = some 1 := ⟨rfl, hdS_X9_isTurned⟩
set_option maxHeartbeats 4000000 in
set_option maxRecDepth 100000 in
theorem c_X9_isTurned (l : Launch) (dC : Nat → ClassId) (dI : Nat → Nat → Nat) (cy : Nat → ClassId) (a0 : Nat → Nat) (m0 : Mod) (p1 : Int32) (res : Int32 × Mod) (h : G_X9_isTurned m0 p1 = some res) : CT l (dC, dI) (TY cy) yX9_isTurned cX9_isTurned 2 (some .boolean) rm_X9_isTurned [.ref (a0 0), .int p1] (wMod a0 cy m0) (wMod a0 cy res.2) (some (.int res.1)) := by
  refine CT.mk_z (own := RX9) ⟨by decide, rfl⟩ (Nat.le_of_ble_eq_true rfl) ?_
  intro p e s mm args below meth cd A Q hx hb hml hown htg hN hK hA hP hD hS hE ls hl
  have hl : lv_has ls 2 [(0, .ref (a0 0)), (1, .int p1)] := hl
  replace h : _ = some res := h
  unfold G_X9_isTurned at h
  obtain ⟨H, hH⟩ : ∃ H, H = s.heap := ⟨_, rfl⟩
  obtain ⟨locs, hlocs⟩ : ∃ locs : List Loc, locs = [] := ⟨_, rfl⟩
  rw [← hlocs] at hS ⊢
  have hS : va_S A s.heap H locs := by rw [hH]; exact hS
  rw [← hH] at hP ⊢
  refine lv_iload_n hx hb dX9_isTurned_0 rfl (lv_at hl 1 rfl) ?_
  refine lv_iconst (v := 2) hx hb dX9_isTurned_1 (by decide) ?_
  have hj19 : ∀ (m0_19 : Mod) (l1_19 : Int32) (H : Heap) (locs : List Loc) (ls : Array Slot), G_X9_isTurned_j19 m0_19 l1_19 = some res → va_P (dC, dI) vwCl (wMod a0 cy m0_19) H → va_D A (wMod a0 cy m0_19) → va_S A s.heap H locs → lv_has ls 2 [(1, .int l1_19)] → W p l e rm_X9_isTurned s mm args below meth cd H locs 0 0 Q (F0 mm 19 ls []) := by
    intro m0_19 l1_19 H locs ls h hP hD hS hl
    unfold G_X9_isTurned_j19 at h
    refine lv_iload_n hx hb dX9_isTurned_19 rfl (lv_at hl 0 rfl) ?_
    refine lv_iconst (v := 2) hx hb dX9_isTurned_20 (by decide) ?_
    refine lv_icmp_ge (tgt := 28) hx hb dX9_isTurned_21 (by decide) (fun c21 => ?_) (fun c21 => ?_)
    · replace h := if_t h c21
      refine lv_iconst (v := 0) hx hb dX9_isTurned_28 (by decide) ?_
      obtain rfl := Option.some.inj h
      exact hE H locs 29 ls _ hP hD hS rfl (Or.inl rfl) dX9_isTurned_29
    replace h := if_f h c21
    refine lv_iconst (v := 1) hx hb dX9_isTurned_24 (by decide) ?_
    refine lv_goto (tgt := 29) hx hb dX9_isTurned_25 (by decide) ?_
    obtain rfl := Option.some.inj h
    exact hE H locs 29 ls _ hP hD hS rfl (Or.inr rfl) dX9_isTurned_29
  refine lv_icmp_ge (tgt := 19) hx hb dX9_isTurned_2 (by decide) (fun c2 => ?_) (fun c2 => ?_)
  · replace h := if_t h c2
    exact hj19 m0 p1 H locs ls h hP hD hS (lv_sub hl [1] rfl)
  replace h := if_f h c2
  refine lv_aload_n hx hb dX9_isTurned_5 rfl (lv_at hl 0 rfl) ?_
  refine lv_iload_n hx hb dX9_isTurned_6 rfl (lv_at hl 1 rfl) ?_
  refine lv_iconst (v := 1) hx hb dX9_isTurned_7 (by decide) ?_
  obtain ⟨b8, e8, h⟩ := bnd h
  have hr16 : ∀ (H : Heap) (locs : List Loc) (ls : Array Slot), va_P (dC, dI) vwCl (wMod a0 cy m0) H → va_D A (wMod a0 cy m0) → va_S A s.heap H locs → lv_has ls 2 [(0, .ref (a0 0)), (1, .int p1)] → W p l e rm_X9_isTurned s mm args below meth cd H locs 0 0 Q (F0 mm 16 ls [.int b8, .ref (a0 0)]) := by
    intro H locs ls hP hD hS hl
    obtain ⟨v16, e16, h⟩ := bnd h
    refine cV (av := [.int b8]) (rest := []) (st1 := []) (k1 := 0) (k2 := 0) (ci := 4) (q0 := 0) hx hb hml hown htg hN hK (c_X9_turned l dC dI cy a0 m0 b8 v16 e16) (g_V gw1181 gw1183 gw54 gw63 gw1184) hdV_X9_turned rfl ⟨⟨Nat.le_of_ble_eq_true rfl, Nat.le_of_ble_eq_true rfl⟩, Nat.le_of_ble_eq_true rfl, Nat.le_of_ble_eq_true rfl⟩ hP hD hS hA ⟨rfl, rfl⟩ rfl [0, 1, 2, 3, 4, 5, 6, 7, 8, 9, 10, 11, 12, 13, 14] [] rfl rfl rfl (by decide) (by decide) hl.1 rfl (Nat.le_of_ble_eq_true rfl) rfl rfl rfl dX9_isTurned_16 (fun H locs hP hD hS => ?_)
    have hP : va_P (dC, dI) vwCl (wMod a0 cy v16) H := hP
    have hD : va_D A (wMod a0 cy v16) := hD
    exact hj19 v16 p1 H locs ls h hP hD hS (lv_sub hl [1] rfl)
  have h := e8
  clear e8
  refine lv_icmp_ne (tgt := 15) hx hb dX9_isTurned_8 (by decide) (fun c8 => ?_) (fun c8 => ?_)
  · replace h := if_f h c8
    refine lv_iconst (v := 0) hx hb dX9_isTurned_15 (by decide) ?_
    obtain rfl := Option.some.inj h
    exact hr16 H locs ls hP hD hS hl
  replace h := if_t h c8
  refine lv_iconst (v := 1) hx hb dX9_isTurned_11 (by decide) ?_
  refine lv_goto (tgt := 16) hx hb dX9_isTurned_12 (by decide) ?_
  obtain rfl := Option.some.inj h
  exact hr16 H locs ls hP hD hS hl
def G_X9_isPoint (p0 : Int32) (p1 : Int32) : Option (Int32) :=
  (G_X9_within p0 0 15).bind fun v4 =>
  if v4 = 0 then
    some 0
  else
    (G_X9_within p1 0 15).bind fun v14 =>
    if v14 = 0 then
      some 0
    else
      some 1
abbrev rm_X9_isPoint : Room := { frames := 1, cells := 0, slots := 0, locals := 22 }
theorem hdS_X9_isPoint : yX9_isPoint.cls ≠ "java/lang/invoke/MethodHandle" ∧ yX9_isPoint.cls ≠ "java/lang/invoke/VarHandle" ∧ (parseMethodDescriptor yX9_isPoint.desc).map (fun d => d.parameters.length) = some 2 := by decide +kernel
set_option maxHeartbeats 4000000 in
set_option maxRecDepth 100000 in
theorem c_X9_isPoint (l : Launch) (dC : Nat → ClassId) (dI : Nat → Nat → Nat) (cy : Nat → ClassId)  (p0 : Int32) (p1 : Int32) (res : Int32) (h : G_X9_isPoint p0 p1 = some res) : CT l (dC, dI) (TY cy) yX9_isPoint cX9_isPoint 2 (some .boolean) rm_X9_isPoint [.int p0, .int p1] ([]) ([]) (some (.int res)) := by
  refine CT.mk_z (own := RX9) ⟨by decide, rfl⟩ (Nat.le_of_ble_eq_true rfl) ?_
  intro p e s mm args below meth cd A Q hx hb hml hown htg hN hK hA hP hD hS hE ls hl
  have hl : lv_has ls 2 [(0, .int p0), (1, .int p1)] := hl
  replace h : _ = some res := h
  unfold G_X9_isPoint at h
  obtain ⟨H, hH⟩ : ∃ H, H = s.heap := ⟨_, rfl⟩
  obtain ⟨locs, hlocs⟩ : ∃ locs : List Loc, locs = [] := ⟨_, rfl⟩
  rw [← hlocs] at hS ⊢
  have hS : va_S A s.heap H locs := by rw [hH]; exact hS
  rw [← hH] at hP ⊢
  refine lv_iload_n hx hb dX9_isPoint_0 rfl (lv_at hl 0 rfl) ?_
  refine lv_iconst (v := 0) hx hb dX9_isPoint_1 (by decide) ?_
  refine lv_bipush (v := 15) hx hb dX9_isPoint_2 (by decide) ?_
  obtain ⟨v4, e4, h⟩ := bnd h
  refine cS (av := [.int p0, .int 0, .int 15]) (rest := []) (st1 := [.int v4]) (k1 := 0) (k2 := 0) hx hb hml hown htg hN hK (c_X9_within l dC dI cy   p0 0 15 v4 e4) (g_S gw913 gw914 gw63 gw915) hdS_X9_within rfl ⟨⟨Nat.le_of_ble_eq_true rfl, Nat.le_of_ble_eq_true rfl⟩, Nat.le_of_ble_eq_true rfl, Nat.le_of_ble_eq_true rfl⟩ hP hD hS hA [] [] rfl rfl rfl (by decide) (by decide) hl.1 rfl (Nat.le_of_ble_eq_true rfl) rfl rfl rfl dX9_isPoint_4 (fun H locs hP hD hS => ?_)
  have hP : va_P (dC, dI) vwCl ([]) H := hP
  have hD : va_D A ([]) := hD
  refine lv_if_eq (tgt := 24) hx hb dX9_isPoint_7 (by decide) (fun c7 => ?_) (fun c7 => ?_)
  · replace h := if_t h c7
    refine lv_iconst (v := 0) hx hb dX9_isPoint_24 (by decide) ?_
    obtain rfl := Option.some.inj h
    exact hE H locs 25 ls _ hP hD hS rfl (Or.inl rfl) dX9_isPoint_25
  replace h := if_f h c7
  refine lv_iload_n hx hb dX9_isPoint_10 rfl (lv_at hl 1 rfl) ?_
  refine lv_iconst (v := 0) hx hb dX9_isPoint_11 (by decide) ?_
  refine lv_bipush (v := 15) hx hb dX9_isPoint_12 (by decide) ?_
  obtain ⟨v14, e14, h⟩ := bnd h
  refine cS (av := [.int p1, .int 0, .int 15]) (rest := []) (st1 := [.int v14]) (k1 := 0) (k2 := 0) hx hb hml hown htg hN hK (c_X9_within l dC dI cy   p1 0 15 v14 e14) (g_S gw913 gw914 gw63 gw915) hdS_X9_within rfl ⟨⟨Nat.le_of_ble_eq_true rfl, Nat.le_of_ble_eq_true rfl⟩, Nat.le_of_ble_eq_true rfl, Nat.le_of_ble_eq_true rfl⟩ hP hD hS hA [] [] rfl rfl rfl (by decide) (by decide) hl.1 rfl (Nat.le_of_ble_eq_true rfl) rfl rfl rfl dX9_isPoint_14 (fun H locs hP hD hS => ?_)
  have hP : va_P (dC, dI) vwCl ([]) H := hP
  have hD : va_D A ([]) := hD
  refine lv_if_eq (tgt := 24) hx hb dX9_isPoint_17 (by decide) (fun c17 => ?_) (fun c17 => ?_)
  · replace h := if_t h c17
    refine lv_iconst (v := 0) hx hb dX9_isPoint_24 (by decide) ?_
    obtain rfl := Option.some.inj h
    exact hE H locs 25 ls _ hP hD hS rfl (Or.inl rfl) dX9_isPoint_25
  replace h := if_f h c17
  refine lv_iconst (v := 1) hx hb dX9_isPoint_20 (by decide) ?_
  refine lv_goto (tgt := 25) hx hb dX9_isPoint_21 (by decide) ?_
  obtain rfl := Option.some.inj h
  exact hE H locs 25 ls _ hP hD hS rfl (Or.inr rfl) dX9_isPoint_25
def G_X9_commands (m0 : Mod) (p1 : Int32) : Option (Int32 × Mod) :=
  if p1 / 100000 = 1 then
    (G_X9_tryMove m0 0 ((p1 / 10000) - (p1 / 10000) / 10 * 10) ((p1 / 100) - (p1 / 100) / 100 * 100) (p1 - p1 / 100 * 100)).bind fun v95 =>
    if v95.1 = 0 then
      some (1, v95.2)
    else
      some (0, v95.2)
  else
  if p1 / 100000 = 2 then
    (G_X9_tryInsert m0 0 ((p1 / 10000) - (p1 / 10000) / 10 * 10) ((p1 / 100) - (p1 / 100) / 100 * 100) (p1 - p1 / 100 * 100)).bind fun v114 =>
    if v114.1 = 0 then
      some (1, v114.2)
    else
      some (0, v114.2)
  else
  if p1 / 100000 = 3 then
    if p1 - p1 / 1000 * 1000 = 0 then
      (G_X9_tryRemove m0 ((p1 / 10000) - (p1 / 10000) / 10 * 10) ((p1 / 1000) - (p1 / 1000) / 10 * 10)).bind fun v137 =>
      if v137.1 = 0 then
        some (1, v137.2)
      else
        some (0, v137.2)
    else
      some (0, m0)
  else
  if p1 / 100000 = 4 then
    if p1 - p1 / 10 * 10 = 0 then
      (G_X9_tryHole m0 ((p1 / 1000) - (p1 / 1000) / 100 * 100) ((p1 / 10) - (p1 / 10) / 100 * 100)).bind fun v172 =>
      if v172.1 = 0 then
        some (1, v172.2)
      else
        some (0, v172.2)
    else
      some (0, m0)
  else
  if p1 / 100000 = 5 then
    if (p1 / 10000) - (p1 / 10000) / 10 * 10 = 0 then
      (G_X9_tryShift m0 (((p1 / 100) - (p1 / 100) / 100 * 100) - 15) ((p1 - p1 / 100 * 100) - 15)).bind fun v199 =>
      if v199.1 = 0 then
        some (1, v199.2)
      else
        some (0, v199.2)
    else
      some (0, m0)
  else
  if p1 / 100000 = 6 then
    if p1 - p1 / 10000 * 10000 = 0 then
      (G_X9_isTurned m0 ((p1 / 10000) - (p1 / 10000) / 10 * 10)).bind fun v221 =>
      if v221.1 = 0 then
        some (0, v221.2)
      else
        some (1, v221.2)
    else
      some (0, m0)
  else
  if p1 / 100000 = 7 then
    if (p1 / 10000) - (p1 / 10000) / 10 * 10 = 0 then
      if (p1 / 1000) - (p1 / 1000) / 10 * 10 = 0 then
        (G_X9_area m0).bind fun v242 =>
        if v242 < p1 - p1 / 1000 * 1000 then
          some (0, m0)
        else
          some (1, m0)
      else
        some (0, m0)
    else
      some (0, m0)
  else
  if p1 / 100000 = 8 then
    (G_X9_isPoint ((p1 / 1000) - (p1 / 1000) / 100 * 100) ((p1 / 10) - (p1 / 10) / 100 * 100)).bind fun v274 =>
    if v274 = 0 then
      some (0, m0)
    else
      (G_X9_where m0 ((p1 / 1000) - (p1 / 1000) / 100 * 100) ((p1 / 10) - (p1 / 10) / 100 * 100)).bind fun v296 =>
      if v296 = p1 - p1 / 10 * 10 then
        some (1, m0)
      else
        some (0, m0)
  else
  if p1 / 100000 = 9 then
    if (p1 / 10000) - (p1 / 10000) / 10 * 10 = 0 then
      if (p1 / 1000) - (p1 / 1000) / 10 * 10 = 0 then
        (G_X9_inside m0).bind fun v321 =>
        if p1 - p1 / 1000 * 1000 < v321 then
          some (0, m0)
        else
          some (1, m0)
      else
        some (0, m0)
    else
      some (0, m0)
  else
  some (0, m0)
abbrev rm_X9_commands : Room := { frames := 7, cells := 0, slots := 0, locals := 171 }
theorem hdS_X9_commands : yX9_commands.cls ≠ "java/lang/invoke/MethodHandle" ∧ yX9_commands.cls ≠ "java/lang/invoke/VarHandle" ∧ (parseMethodDescriptor yX9_commands.desc).map (fun d => d.parameters.length) = some 1 := by decide +kernel
theorem hdV_X9_commands : yX9_commands.cls = RX9 ∧ yX9_commands.cls ≠ "java/lang/invoke/MethodHandle" ∧ yX9_commands.cls ≠ "java/lang/invoke/VarHandle" ∧ (parseMethodDescriptor yX9_commands.desc).map (fun d => d.parameters.length) = some 1 := ⟨rfl, hdS_X9_commands⟩
set_option maxHeartbeats 4000000 in
set_option maxRecDepth 100000 in
theorem c_X9_commands (l : Launch) (dC : Nat → ClassId) (dI : Nat → Nat → Nat) (cy : Nat → ClassId) (a0 : Nat → Nat) (m0 : Mod) (p1 : Int32) (res : Int32 × Mod) (h : G_X9_commands m0 p1 = some res) : CT l (dC, dI) (TY cy) yX9_commands cX9_commands 6 (some .boolean) rm_X9_commands [.ref (a0 0), .int p1] (wMod a0 cy m0) (wMod a0 cy res.2) (some (.int res.1)) := by
  refine CT.mk_z (own := RX9) ⟨by decide, rfl⟩ (Nat.le_of_ble_eq_true rfl) ?_
  intro p e s mm args below meth cd A Q hx hb hml hown htg hN hK hA hP hD hS hE ls hl
  have hl : lv_has ls 6 [(0, .ref (a0 0)), (1, .int p1)] := hl
  replace h : _ = some res := h
  unfold G_X9_commands at h
  obtain ⟨H, hH⟩ : ∃ H, H = s.heap := ⟨_, rfl⟩
  obtain ⟨locs, hlocs⟩ : ∃ locs : List Loc, locs = [] := ⟨_, rfl⟩
  rw [← hlocs] at hS ⊢
  have hS : va_S A s.heap H locs := by rw [hH]; exact hS
  rw [← hH] at hP ⊢
  refine lv_iload_n hx hb dX9_commands_0 rfl (lv_at hl 1 rfl) ?_
  refine lv_sipush (v := 10000) hx hb dX9_commands_1 (by decide) ?_
  refine lv_idiv hx hb dX9_commands_4 (by decide) ?_
  refine lv_bipush (v := 10) hx hb dX9_commands_5 (by decide) ?_
  refine lv_irem hx hb dX9_commands_7 (by decide) ?_
  refine lv_istore_n (lv' := [(2, .int ((p1 / 10000) - (p1 / 10000) / 10 * 10)), (0, .ref (a0 0)), (1, .int p1)]) hx hb dX9_commands_8 rfl hl (by decide) rfl (fun ls hl => ?_)
  refine lv_iload_n hx hb dX9_commands_9 rfl (lv_at hl 2 rfl) ?_
  refine lv_sipush (v := 1000) hx hb dX9_commands_10 (by decide) ?_
  refine lv_idiv hx hb dX9_commands_13 (by decide) ?_
  refine lv_bipush (v := 10) hx hb dX9_commands_14 (by decide) ?_
  refine lv_irem hx hb dX9_commands_16 (by decide) ?_
  refine lv_istore_n (lv' := [(3, .int ((p1 / 1000) - (p1 / 1000) / 10 * 10)), (2, .int ((p1 / 10000) - (p1 / 10000) / 10 * 10)), (0, .ref (a0 0)), (1, .int p1)]) hx hb dX9_commands_17 rfl hl (by decide) rfl (fun ls hl => ?_)
  refine lv_iload_n hx hb dX9_commands_18 rfl (lv_at hl 3 rfl) ?_
  refine lv_bipush (v := 100) hx hb dX9_commands_19 (by decide) ?_
  refine lv_idiv hx hb dX9_commands_21 (by decide) ?_
  refine lv_bipush (v := 100) hx hb dX9_commands_22 (by decide) ?_
  refine lv_irem hx hb dX9_commands_24 (by decide) ?_
  refine lv_istore (lv' := [(4, .int ((p1 / 100) - (p1 / 100) / 100 * 100)), (3, .int ((p1 / 1000) - (p1 / 1000) / 10 * 10)), (2, .int ((p1 / 10000) - (p1 / 10000) / 10 * 10)), (0, .ref (a0 0)), (1, .int p1)]) hx hb dX9_commands_25 hl (by decide) rfl (fun ls hl => ?_)
  refine lv_iload_n hx hb dX9_commands_27 rfl (lv_at hl 4 rfl) ?_
  refine lv_bipush (v := 100) hx hb dX9_commands_28 (by decide) ?_
  refine lv_irem hx hb dX9_commands_30 (by decide) ?_
  refine lv_istore (lv' := [(5, .int (p1 - p1 / 100 * 100)), (4, .int ((p1 / 100) - (p1 / 100) / 100 * 100)), (3, .int ((p1 / 1000) - (p1 / 1000) / 10 * 10)), (2, .int ((p1 / 10000) - (p1 / 10000) / 10 * 10)), (0, .ref (a0 0)), (1, .int p1)]) hx hb dX9_commands_31 hl (by decide) rfl (fun ls hl => ?_)
  refine lv_iload_n hx hb dX9_commands_33 rfl (lv_at hl 5 rfl) ?_
  refine lv_ldcw (v := 100000) hx hb hown (htg _ gw1234) dX9_commands_34 ?_
  refine lv_idiv hx hb dX9_commands_37 (by decide) ?_
  by_cases c38_1 : p1 / 100000 = 1
  · replace h := if_t h c38_1
    refine lv_tableIn (tgt := 88) (off := 50) hx hb dX9_commands_38 (by rw [c38_1]; decide) (by rw [c38_1]; decide) (by rw [c38_1]; rfl) (by decide) ?_
    refine lv_aload_n hx hb dX9_commands_88 rfl (lv_at hl 4 rfl) ?_
    refine lv_iconst (v := 0) hx hb dX9_commands_89 (by decide) ?_
    refine lv_iload_n hx hb dX9_commands_90 rfl (lv_at hl 3 rfl) ?_
    refine lv_iload hx hb dX9_commands_91 (lv_at hl 1 rfl) ?_
    refine lv_iload hx hb dX9_commands_93 (lv_at hl 0 rfl) ?_
    obtain ⟨v95, e95, h⟩ := bnd h
    refine cV (av := [.int 0, .int ((p1 / 10000) - (p1 / 10000) / 10 * 10), .int ((p1 / 100) - (p1 / 100) / 100 * 100), .int (p1 - p1 / 100 * 100)]) (rest := []) (st1 := [.int v95.1]) (k1 := 0) (k2 := 0) (ci := 4) (q0 := 0) hx hb hml hown htg hN hK (c_X9_tryMove l dC dI cy a0 m0 0 ((p1 / 10000) - (p1 / 10000) / 10 * 10) ((p1 / 100) - (p1 / 100) / 100 * 100) (p1 - p1 / 100 * 100) v95 e95) (g_V gw1121 gw1123 gw45 gw63 gw1124) hdV_X9_tryMove rfl ⟨⟨Nat.le_of_ble_eq_true rfl, Nat.le_of_ble_eq_true rfl⟩, Nat.le_of_ble_eq_true rfl, Nat.le_of_ble_eq_true rfl⟩ hP hD hS hA ⟨rfl, rfl⟩ rfl [0, 1, 2, 3, 4, 5, 6, 7, 8, 9, 10, 11, 12, 13, 14] [] rfl rfl rfl (by decide) (by decide) hl.1 rfl (Nat.le_of_ble_eq_true rfl) rfl rfl rfl dX9_commands_95 (fun H locs hP hD hS => ?_)
    have hP : va_P (dC, dI) vwCl (wMod a0 cy v95.2) H := hP
    have hD : va_D A (wMod a0 cy v95.2) := hD
    refine lv_if_ne (tgt := 105) hx hb dX9_commands_98 (by decide) (fun c98 => ?_) (fun c98 => ?_)
    · replace h := if_f h c98
      refine lv_iconst (v := 0) hx hb dX9_commands_105 (by decide) ?_
      obtain rfl := Option.some.inj h
      exact hE H locs 106 ls _ hP hD hS rfl (Or.inl rfl) dX9_commands_106
    replace h := if_t h c98
    refine lv_iconst (v := 1) hx hb dX9_commands_101 (by decide) ?_
    refine lv_goto (tgt := 106) hx hb dX9_commands_102 (by decide) ?_
    obtain rfl := Option.some.inj h
    exact hE H locs 106 ls _ hP hD hS rfl (Or.inr rfl) dX9_commands_106
  replace h := if_f h c38_1
  by_cases c38_2 : p1 / 100000 = 2
  · replace h := if_t h c38_2
    refine lv_tableIn (tgt := 107) (off := 69) hx hb dX9_commands_38 (by rw [c38_2]; decide) (by rw [c38_2]; decide) (by rw [c38_2]; rfl) (by decide) ?_
    refine lv_aload_n hx hb dX9_commands_107 rfl (lv_at hl 4 rfl) ?_
    refine lv_iconst (v := 0) hx hb dX9_commands_108 (by decide) ?_
    refine lv_iload_n hx hb dX9_commands_109 rfl (lv_at hl 3 rfl) ?_
    refine lv_iload hx hb dX9_commands_110 (lv_at hl 1 rfl) ?_
    refine lv_iload hx hb dX9_commands_112 (lv_at hl 0 rfl) ?_
    obtain ⟨v114, e114, h⟩ := bnd h
    refine cV (av := [.int 0, .int ((p1 / 10000) - (p1 / 10000) / 10 * 10), .int ((p1 / 100) - (p1 / 100) / 100 * 100), .int (p1 - p1 / 100 * 100)]) (rest := []) (st1 := [.int v114.1]) (k1 := 0) (k2 := 0) (ci := 4) (q0 := 0) hx hb hml hown htg hN hK (c_X9_tryInsert l dC dI cy a0 m0 0 ((p1 / 10000) - (p1 / 10000) / 10 * 10) ((p1 / 100) - (p1 / 100) / 100 * 100) (p1 - p1 / 100 * 100) v114 e114) (g_V gw1141 gw1143 gw49 gw63 gw1144) hdV_X9_tryInsert rfl ⟨⟨Nat.le_of_ble_eq_true rfl, Nat.le_of_ble_eq_true rfl⟩, Nat.le_of_ble_eq_true rfl, Nat.le_of_ble_eq_true rfl⟩ hP hD hS hA ⟨rfl, rfl⟩ rfl [0, 1, 2, 3, 4, 5, 6, 7, 8, 9, 10, 11, 12, 13, 14] [] rfl rfl rfl (by decide) (by decide) hl.1 rfl (Nat.le_of_ble_eq_true rfl) rfl rfl rfl dX9_commands_114 (fun H locs hP hD hS => ?_)
    have hP : va_P (dC, dI) vwCl (wMod a0 cy v114.2) H := hP
    have hD : va_D A (wMod a0 cy v114.2) := hD
    refine lv_if_ne (tgt := 124) hx hb dX9_commands_117 (by decide) (fun c117 => ?_) (fun c117 => ?_)
    · replace h := if_f h c117
      refine lv_iconst (v := 0) hx hb dX9_commands_124 (by decide) ?_
      obtain rfl := Option.some.inj h
      exact hE H locs 125 ls _ hP hD hS rfl (Or.inl rfl) dX9_commands_125
    replace h := if_t h c117
    refine lv_iconst (v := 1) hx hb dX9_commands_120 (by decide) ?_
    refine lv_goto (tgt := 125) hx hb dX9_commands_121 (by decide) ?_
    obtain rfl := Option.some.inj h
    exact hE H locs 125 ls _ hP hD hS rfl (Or.inr rfl) dX9_commands_125
  replace h := if_f h c38_2
  by_cases c38_3 : p1 / 100000 = 3
  · replace h := if_t h c38_3
    refine lv_tableIn (tgt := 126) (off := 88) hx hb dX9_commands_38 (by rw [c38_3]; decide) (by rw [c38_3]; decide) (by rw [c38_3]; rfl) (by decide) ?_
    refine lv_iload_n hx hb dX9_commands_126 rfl (lv_at hl 5 rfl) ?_
    refine lv_sipush (v := 1000) hx hb dX9_commands_127 (by decide) ?_
    refine lv_irem hx hb dX9_commands_130 (by decide) ?_
    refine lv_if_ne (tgt := 147) hx hb dX9_commands_131 (by decide) (fun c131 => ?_) (fun c131 => ?_)
    · replace h := if_f h c131
      refine lv_iconst (v := 0) hx hb dX9_commands_147 (by decide) ?_
      obtain rfl := Option.some.inj h
      exact hE H locs 148 ls _ hP hD hS rfl (Or.inl rfl) dX9_commands_148
    replace h := if_t h c131
    refine lv_aload_n hx hb dX9_commands_134 rfl (lv_at hl 4 rfl) ?_
    refine lv_iload_n hx hb dX9_commands_135 rfl (lv_at hl 3 rfl) ?_
    refine lv_iload_n hx hb dX9_commands_136 rfl (lv_at hl 2 rfl) ?_
    obtain ⟨v137, e137, h⟩ := bnd h
    refine cV (av := [.int ((p1 / 10000) - (p1 / 10000) / 10 * 10), .int ((p1 / 1000) - (p1 / 1000) / 10 * 10)]) (rest := []) (st1 := [.int v137.1]) (k1 := 0) (k2 := 0) (ci := 4) (q0 := 0) hx hb hml hown htg hN hK (c_X9_tryRemove l dC dI cy a0 m0 ((p1 / 10000) - (p1 / 10000) / 10 * 10) ((p1 / 1000) - (p1 / 1000) / 10 * 10) v137 e137) (g_V gw1149 gw1151 gw50 gw63 gw1152) hdV_X9_tryRemove rfl ⟨⟨Nat.le_of_ble_eq_true rfl, Nat.le_of_ble_eq_true rfl⟩, Nat.le_of_ble_eq_true rfl, Nat.le_of_ble_eq_true rfl⟩ hP hD hS hA ⟨rfl, rfl⟩ rfl [0, 1, 2, 3, 4, 5, 6, 7, 8, 9, 10, 11, 12, 13, 14] [] rfl rfl rfl (by decide) (by decide) hl.1 rfl (Nat.le_of_ble_eq_true rfl) rfl rfl rfl dX9_commands_137 (fun H locs hP hD hS => ?_)
    have hP : va_P (dC, dI) vwCl (wMod a0 cy v137.2) H := hP
    have hD : va_D A (wMod a0 cy v137.2) := hD
    refine lv_if_ne (tgt := 147) hx hb dX9_commands_140 (by decide) (fun c140 => ?_) (fun c140 => ?_)
    · replace h := if_f h c140
      refine lv_iconst (v := 0) hx hb dX9_commands_147 (by decide) ?_
      obtain rfl := Option.some.inj h
      exact hE H locs 148 ls _ hP hD hS rfl (Or.inl rfl) dX9_commands_148
    replace h := if_t h c140
    refine lv_iconst (v := 1) hx hb dX9_commands_143 (by decide) ?_
    refine lv_goto (tgt := 148) hx hb dX9_commands_144 (by decide) ?_
    obtain rfl := Option.some.inj h
    exact hE H locs 148 ls _ hP hD hS rfl (Or.inr rfl) dX9_commands_148
  replace h := if_f h c38_3
  by_cases c38_4 : p1 / 100000 = 4
  · replace h := if_t h c38_4
    refine lv_tableIn (tgt := 149) (off := 111) hx hb dX9_commands_38 (by rw [c38_4]; decide) (by rw [c38_4]; decide) (by rw [c38_4]; rfl) (by decide) ?_
    refine lv_iload_n hx hb dX9_commands_149 rfl (lv_at hl 5 rfl) ?_
    refine lv_bipush (v := 10) hx hb dX9_commands_150 (by decide) ?_
    refine lv_irem hx hb dX9_commands_152 (by decide) ?_
    refine lv_if_ne (tgt := 182) hx hb dX9_commands_153 (by decide) (fun c153 => ?_) (fun c153 => ?_)
    · replace h := if_f h c153
      refine lv_iconst (v := 0) hx hb dX9_commands_182 (by decide) ?_
      obtain rfl := Option.some.inj h
      exact hE H locs 183 ls _ hP hD hS rfl (Or.inl rfl) dX9_commands_183
    replace h := if_t h c153
    refine lv_aload_n hx hb dX9_commands_156 rfl (lv_at hl 4 rfl) ?_
    refine lv_iload_n hx hb dX9_commands_157 rfl (lv_at hl 5 rfl) ?_
    refine lv_sipush (v := 1000) hx hb dX9_commands_158 (by decide) ?_
    refine lv_idiv hx hb dX9_commands_161 (by decide) ?_
    refine lv_bipush (v := 100) hx hb dX9_commands_162 (by decide) ?_
    refine lv_irem hx hb dX9_commands_164 (by decide) ?_
    refine lv_iload_n hx hb dX9_commands_165 rfl (lv_at hl 5 rfl) ?_
    refine lv_bipush (v := 10) hx hb dX9_commands_166 (by decide) ?_
    refine lv_idiv hx hb dX9_commands_168 (by decide) ?_
    refine lv_bipush (v := 100) hx hb dX9_commands_169 (by decide) ?_
    refine lv_irem hx hb dX9_commands_171 (by decide) ?_
    obtain ⟨v172, e172, h⟩ := bnd h
    refine cV (av := [.int ((p1 / 1000) - (p1 / 1000) / 100 * 100), .int ((p1 / 10) - (p1 / 10) / 100 * 100)]) (rest := []) (st1 := [.int v172.1]) (k1 := 0) (k2 := 0) (ci := 4) (q0 := 0) hx hb hml hown htg hN hK (c_X9_tryHole l dC dI cy a0 m0 ((p1 / 1000) - (p1 / 1000) / 100 * 100) ((p1 / 10) - (p1 / 10) / 100 * 100) v172 e172) (g_V gw1157 gw1159 gw51 gw63 gw1160) hdV_X9_tryHole rfl ⟨⟨Nat.le_of_ble_eq_true rfl, Nat.le_of_ble_eq_true rfl⟩, Nat.le_of_ble_eq_true rfl, Nat.le_of_ble_eq_true rfl⟩ hP hD hS hA ⟨rfl, rfl⟩ rfl [0, 1, 2, 3, 4, 5, 6, 7, 8, 9, 10, 11, 12, 13, 14] [] rfl rfl rfl (by decide) (by decide) hl.1 rfl (Nat.le_of_ble_eq_true rfl) rfl rfl rfl dX9_commands_172 (fun H locs hP hD hS => ?_)
    have hP : va_P (dC, dI) vwCl (wMod a0 cy v172.2) H := hP
    have hD : va_D A (wMod a0 cy v172.2) := hD
    refine lv_if_ne (tgt := 182) hx hb dX9_commands_175 (by decide) (fun c175 => ?_) (fun c175 => ?_)
    · replace h := if_f h c175
      refine lv_iconst (v := 0) hx hb dX9_commands_182 (by decide) ?_
      obtain rfl := Option.some.inj h
      exact hE H locs 183 ls _ hP hD hS rfl (Or.inl rfl) dX9_commands_183
    replace h := if_t h c175
    refine lv_iconst (v := 1) hx hb dX9_commands_178 (by decide) ?_
    refine lv_goto (tgt := 183) hx hb dX9_commands_179 (by decide) ?_
    obtain rfl := Option.some.inj h
    exact hE H locs 183 ls _ hP hD hS rfl (Or.inr rfl) dX9_commands_183
  replace h := if_f h c38_4
  by_cases c38_5 : p1 / 100000 = 5
  · replace h := if_t h c38_5
    refine lv_tableIn (tgt := 184) (off := 146) hx hb dX9_commands_38 (by rw [c38_5]; decide) (by rw [c38_5]; decide) (by rw [c38_5]; rfl) (by decide) ?_
    refine lv_iload_n hx hb dX9_commands_184 rfl (lv_at hl 3 rfl) ?_
    refine lv_if_ne (tgt := 209) hx hb dX9_commands_185 (by decide) (fun c185 => ?_) (fun c185 => ?_)
    · replace h := if_f h c185
      refine lv_iconst (v := 0) hx hb dX9_commands_209 (by decide) ?_
      obtain rfl := Option.some.inj h
      exact hE H locs 210 ls _ hP hD hS rfl (Or.inl rfl) dX9_commands_210
    replace h := if_t h c185
    refine lv_aload_n hx hb dX9_commands_188 rfl (lv_at hl 4 rfl) ?_
    refine lv_iload hx hb dX9_commands_189 (lv_at hl 1 rfl) ?_
    refine lv_bipush (v := 15) hx hb dX9_commands_191 (by decide) ?_
    refine lv_isub hx hb dX9_commands_193 ?_
    refine lv_iload hx hb dX9_commands_194 (lv_at hl 0 rfl) ?_
    refine lv_bipush (v := 15) hx hb dX9_commands_196 (by decide) ?_
    refine lv_isub hx hb dX9_commands_198 ?_
    obtain ⟨v199, e199, h⟩ := bnd h
    refine cV (av := [.int (((p1 / 100) - (p1 / 100) / 100 * 100) - 15), .int ((p1 - p1 / 100 * 100) - 15)]) (rest := []) (st1 := [.int v199.1]) (k1 := 0) (k2 := 0) (ci := 4) (q0 := 0) hx hb hml hown htg hN hK (c_X9_tryShift l dC dI cy a0 m0 (((p1 / 100) - (p1 / 100) / 100 * 100) - 15) ((p1 - p1 / 100 * 100) - 15) v199 e199) (g_V gw1169 gw1171 gw52 gw63 gw1172) hdV_X9_tryShift rfl ⟨⟨Nat.le_of_ble_eq_true rfl, Nat.le_of_ble_eq_true rfl⟩, Nat.le_of_ble_eq_true rfl, Nat.le_of_ble_eq_true rfl⟩ hP hD hS hA ⟨rfl, rfl⟩ rfl [0, 1, 2, 3, 4, 5, 6, 7, 8, 9, 10, 11, 12, 13, 14] [] rfl rfl rfl (by decide) (by decide) hl.1 rfl (Nat.le_of_ble_eq_true rfl) rfl rfl rfl dX9_commands_199 (fun H locs hP hD hS => ?_)
    have hP : va_P (dC, dI) vwCl (wMod a0 cy v199.2) H := hP
    have hD : va_D A (wMod a0 cy v199.2) := hD
    refine lv_if_ne (tgt := 209) hx hb dX9_commands_202 (by decide) (fun c202 => ?_) (fun c202 => ?_)
    · replace h := if_f h c202
      refine lv_iconst (v := 0) hx hb dX9_commands_209 (by decide) ?_
      obtain rfl := Option.some.inj h
      exact hE H locs 210 ls _ hP hD hS rfl (Or.inl rfl) dX9_commands_210
    replace h := if_t h c202
    refine lv_iconst (v := 1) hx hb dX9_commands_205 (by decide) ?_
    refine lv_goto (tgt := 210) hx hb dX9_commands_206 (by decide) ?_
    obtain rfl := Option.some.inj h
    exact hE H locs 210 ls _ hP hD hS rfl (Or.inr rfl) dX9_commands_210
  replace h := if_f h c38_5
  by_cases c38_6 : p1 / 100000 = 6
  · replace h := if_t h c38_6
    refine lv_tableIn (tgt := 211) (off := 173) hx hb dX9_commands_38 (by rw [c38_6]; decide) (by rw [c38_6]; decide) (by rw [c38_6]; rfl) (by decide) ?_
    refine lv_iload_n hx hb dX9_commands_211 rfl (lv_at hl 5 rfl) ?_
    refine lv_sipush (v := 10000) hx hb dX9_commands_212 (by decide) ?_
    refine lv_irem hx hb dX9_commands_215 (by decide) ?_
    refine lv_if_ne (tgt := 231) hx hb dX9_commands_216 (by decide) (fun c216 => ?_) (fun c216 => ?_)
    · replace h := if_f h c216
      refine lv_iconst (v := 0) hx hb dX9_commands_231 (by decide) ?_
      obtain rfl := Option.some.inj h
      exact hE H locs 232 ls _ hP hD hS rfl (Or.inl rfl) dX9_commands_232
    replace h := if_t h c216
    refine lv_aload_n hx hb dX9_commands_219 rfl (lv_at hl 4 rfl) ?_
    refine lv_iload_n hx hb dX9_commands_220 rfl (lv_at hl 3 rfl) ?_
    obtain ⟨v221, e221, h⟩ := bnd h
    refine cV (av := [.int ((p1 / 10000) - (p1 / 10000) / 10 * 10)]) (rest := []) (st1 := [.int v221.1]) (k1 := 0) (k2 := 0) (ci := 4) (q0 := 0) hx hb hml hown htg hN hK (c_X9_isTurned l dC dI cy a0 m0 ((p1 / 10000) - (p1 / 10000) / 10 * 10) v221 e221) (g_V gw1235 gw1237 gw57 gw63 gw1238) hdV_X9_isTurned rfl ⟨⟨Nat.le_of_ble_eq_true rfl, Nat.le_of_ble_eq_true rfl⟩, Nat.le_of_ble_eq_true rfl, Nat.le_of_ble_eq_true rfl⟩ hP hD hS hA ⟨rfl, rfl⟩ rfl [0, 1, 2, 3, 4, 5, 6, 7, 8, 9, 10, 11, 12, 13, 14] [] rfl rfl rfl (by decide) (by decide) hl.1 rfl (Nat.le_of_ble_eq_true rfl) rfl rfl rfl dX9_commands_221 (fun H locs hP hD hS => ?_)
    have hP : va_P (dC, dI) vwCl (wMod a0 cy v221.2) H := hP
    have hD : va_D A (wMod a0 cy v221.2) := hD
    refine lv_if_eq (tgt := 231) hx hb dX9_commands_224 (by decide) (fun c224 => ?_) (fun c224 => ?_)
    · replace h := if_t h c224
      refine lv_iconst (v := 0) hx hb dX9_commands_231 (by decide) ?_
      obtain rfl := Option.some.inj h
      exact hE H locs 232 ls _ hP hD hS rfl (Or.inl rfl) dX9_commands_232
    replace h := if_f h c224
    refine lv_iconst (v := 1) hx hb dX9_commands_227 (by decide) ?_
    refine lv_goto (tgt := 232) hx hb dX9_commands_228 (by decide) ?_
    obtain rfl := Option.some.inj h
    exact hE H locs 232 ls _ hP hD hS rfl (Or.inr rfl) dX9_commands_232
  replace h := if_f h c38_6
  by_cases c38_7 : p1 / 100000 = 7
  · replace h := if_t h c38_7
    refine lv_tableIn (tgt := 233) (off := 195) hx hb dX9_commands_38 (by rw [c38_7]; decide) (by rw [c38_7]; decide) (by rw [c38_7]; rfl) (by decide) ?_
    refine lv_iload_n hx hb dX9_commands_233 rfl (lv_at hl 3 rfl) ?_
    refine lv_if_ne (tgt := 257) hx hb dX9_commands_234 (by decide) (fun c234 => ?_) (fun c234 => ?_)
    · replace h := if_f h c234
      refine lv_iconst (v := 0) hx hb dX9_commands_257 (by decide) ?_
      obtain rfl := Option.some.inj h
      exact hE H locs 258 ls _ hP hD hS rfl (Or.inl rfl) dX9_commands_258
    replace h := if_t h c234
    refine lv_iload_n hx hb dX9_commands_237 rfl (lv_at hl 2 rfl) ?_
    refine lv_if_ne (tgt := 257) hx hb dX9_commands_238 (by decide) (fun c238 => ?_) (fun c238 => ?_)
    · replace h := if_f h c238
      refine lv_iconst (v := 0) hx hb dX9_commands_257 (by decide) ?_
      obtain rfl := Option.some.inj h
      exact hE H locs 258 ls _ hP hD hS rfl (Or.inl rfl) dX9_commands_258
    replace h := if_t h c238
    refine lv_aload_n hx hb dX9_commands_241 rfl (lv_at hl 4 rfl) ?_
    obtain ⟨v242, e242, h⟩ := bnd h
    refine cV (av := []) (rest := []) (st1 := [.int v242]) (k1 := 0) (k2 := 0) (ci := 4) (q0 := 0) hx hb hml hown htg hN hK (c_X9_area l dC dI cy a0 m0  v242 e242) (g_V gw1004 gw1006 gw23 gw63 gw1007) hdV_X9_area rfl ⟨⟨Nat.le_of_ble_eq_true rfl, Nat.le_of_ble_eq_true rfl⟩, Nat.le_of_ble_eq_true rfl, Nat.le_of_ble_eq_true rfl⟩ hP hD hS hA ⟨rfl, rfl⟩ rfl [0, 1, 2, 3, 4, 5, 6, 7, 8, 9, 10, 11, 12, 13, 14] [] rfl rfl rfl (by decide) (by decide) hl.1 rfl (Nat.le_of_ble_eq_true rfl) rfl rfl rfl dX9_commands_242 (fun H locs hP hD hS => ?_)
    have hP : va_P (dC, dI) vwCl (wMod a0 cy m0) H := hP
    have hD : va_D A (wMod a0 cy m0) := hD
    refine lv_iload_n hx hb dX9_commands_245 rfl (lv_at hl 5 rfl) ?_
    refine lv_sipush (v := 1000) hx hb dX9_commands_246 (by decide) ?_
    refine lv_irem hx hb dX9_commands_249 (by decide) ?_
    refine lv_icmp_lt (tgt := 257) hx hb dX9_commands_250 (by decide) (fun c250 => ?_) (fun c250 => ?_)
    · replace h := if_t h c250
      refine lv_iconst (v := 0) hx hb dX9_commands_257 (by decide) ?_
      obtain rfl := Option.some.inj h
      exact hE H locs 258 ls _ hP hD hS rfl (Or.inl rfl) dX9_commands_258
    replace h := if_f h c250
    refine lv_iconst (v := 1) hx hb dX9_commands_253 (by decide) ?_
    refine lv_goto (tgt := 258) hx hb dX9_commands_254 (by decide) ?_
    obtain rfl := Option.some.inj h
    exact hE H locs 258 ls _ hP hD hS rfl (Or.inr rfl) dX9_commands_258
  replace h := if_f h c38_7
  by_cases c38_8 : p1 / 100000 = 8
  · replace h := if_t h c38_8
    refine lv_tableIn (tgt := 259) (off := 221) hx hb dX9_commands_38 (by rw [c38_8]; decide) (by rw [c38_8]; decide) (by rw [c38_8]; rfl) (by decide) ?_
    refine lv_iload_n hx hb dX9_commands_259 rfl (lv_at hl 5 rfl) ?_
    refine lv_sipush (v := 1000) hx hb dX9_commands_260 (by decide) ?_
    refine lv_idiv hx hb dX9_commands_263 (by decide) ?_
    refine lv_bipush (v := 100) hx hb dX9_commands_264 (by decide) ?_
    refine lv_irem hx hb dX9_commands_266 (by decide) ?_
    refine lv_iload_n hx hb dX9_commands_267 rfl (lv_at hl 5 rfl) ?_
    refine lv_bipush (v := 10) hx hb dX9_commands_268 (by decide) ?_
    refine lv_idiv hx hb dX9_commands_270 (by decide) ?_
    refine lv_bipush (v := 100) hx hb dX9_commands_271 (by decide) ?_
    refine lv_irem hx hb dX9_commands_273 (by decide) ?_
    obtain ⟨v274, e274, h⟩ := bnd h
    refine cS (av := [.int ((p1 / 1000) - (p1 / 1000) / 100 * 100), .int ((p1 / 10) - (p1 / 10) / 100 * 100)]) (rest := []) (st1 := [.int v274]) (k1 := 0) (k2 := 0) hx hb hml hown htg hN hK (c_X9_isPoint l dC dI cy   ((p1 / 1000) - (p1 / 1000) / 100 * 100) ((p1 / 10) - (p1 / 10) / 100 * 100) v274 e274) (g_S gw1110 gw1111 gw63 gw1112) hdS_X9_isPoint rfl ⟨⟨Nat.le_of_ble_eq_true rfl, Nat.le_of_ble_eq_true rfl⟩, Nat.le_of_ble_eq_true rfl, Nat.le_of_ble_eq_true rfl⟩ hP hD hS hA [] [0, 1, 2, 3, 4, 5, 6, 7, 8, 9, 10, 11, 12, 13, 14] rfl rfl rfl (by decide) (by decide) hl.1 rfl (Nat.le_of_ble_eq_true rfl) rfl rfl rfl dX9_commands_274 (fun H locs hP hD hS => ?_)
    obtain ⟨hP, hD⟩ := x_perm (ws' := wMod a0 cy m0) hP hD [0, 1, 2, 3, 4, 5, 6, 7, 8, 9, 10, 11, 12, 13, 14] (by decide) rfl rfl
    refine lv_if_eq (tgt := 310) hx hb dX9_commands_277 (by decide) (fun c277 => ?_) (fun c277 => ?_)
    · replace h := if_t h c277
      refine lv_iconst (v := 0) hx hb dX9_commands_310 (by decide) ?_
      obtain rfl := Option.some.inj h
      exact hE H locs 311 ls _ hP hD hS rfl (Or.inl rfl) dX9_commands_311
    replace h := if_f h c277
    refine lv_aload_n hx hb dX9_commands_280 rfl (lv_at hl 4 rfl) ?_
    refine lv_iload_n hx hb dX9_commands_281 rfl (lv_at hl 5 rfl) ?_
    refine lv_sipush (v := 1000) hx hb dX9_commands_282 (by decide) ?_
    refine lv_idiv hx hb dX9_commands_285 (by decide) ?_
    refine lv_bipush (v := 100) hx hb dX9_commands_286 (by decide) ?_
    refine lv_irem hx hb dX9_commands_288 (by decide) ?_
    refine lv_iload_n hx hb dX9_commands_289 rfl (lv_at hl 5 rfl) ?_
    refine lv_bipush (v := 10) hx hb dX9_commands_290 (by decide) ?_
    refine lv_idiv hx hb dX9_commands_292 (by decide) ?_
    refine lv_bipush (v := 100) hx hb dX9_commands_293 (by decide) ?_
    refine lv_irem hx hb dX9_commands_295 (by decide) ?_
    obtain ⟨v296, e296, h⟩ := bnd h
    refine cV (av := [.int ((p1 / 1000) - (p1 / 1000) / 100 * 100), .int ((p1 / 10) - (p1 / 10) / 100 * 100)]) (rest := []) (st1 := [.int v296]) (k1 := 0) (k2 := 0) (ci := 4) (q0 := 0) hx hb hml hown htg hN hK (c_X9_where l dC dI cy a0 m0 ((p1 / 1000) - (p1 / 1000) / 100 * 100) ((p1 / 10) - (p1 / 10) / 100 * 100) v296 e296) (g_V gw1034 gw1036 gw29 gw63 gw1037) hdV_X9_where rfl ⟨⟨Nat.le_of_ble_eq_true rfl, Nat.le_of_ble_eq_true rfl⟩, Nat.le_of_ble_eq_true rfl, Nat.le_of_ble_eq_true rfl⟩ hP hD hS hA ⟨rfl, rfl⟩ rfl [0, 1, 2, 3, 4, 5, 6, 7, 8, 9, 10, 11, 12, 13, 14] [] rfl rfl rfl (by decide) (by decide) hl.1 rfl (Nat.le_of_ble_eq_true rfl) rfl rfl rfl dX9_commands_296 (fun H locs hP hD hS => ?_)
    have hP : va_P (dC, dI) vwCl (wMod a0 cy m0) H := hP
    have hD : va_D A (wMod a0 cy m0) := hD
    refine lv_iload_n hx hb dX9_commands_299 rfl (lv_at hl 5 rfl) ?_
    refine lv_bipush (v := 10) hx hb dX9_commands_300 (by decide) ?_
    refine lv_irem hx hb dX9_commands_302 (by decide) ?_
    refine lv_icmp_ne (tgt := 310) hx hb dX9_commands_303 (by decide) (fun c303 => ?_) (fun c303 => ?_)
    · replace h := if_f h c303
      refine lv_iconst (v := 0) hx hb dX9_commands_310 (by decide) ?_
      obtain rfl := Option.some.inj h
      exact hE H locs 311 ls _ hP hD hS rfl (Or.inl rfl) dX9_commands_311
    replace h := if_t h c303
    refine lv_iconst (v := 1) hx hb dX9_commands_306 (by decide) ?_
    refine lv_goto (tgt := 311) hx hb dX9_commands_307 (by decide) ?_
    obtain rfl := Option.some.inj h
    exact hE H locs 311 ls _ hP hD hS rfl (Or.inr rfl) dX9_commands_311
  replace h := if_f h c38_8
  by_cases c38_9 : p1 / 100000 = 9
  · replace h := if_t h c38_9
    refine lv_tableIn (tgt := 312) (off := 274) hx hb dX9_commands_38 (by rw [c38_9]; decide) (by rw [c38_9]; decide) (by rw [c38_9]; rfl) (by decide) ?_
    refine lv_iload_n hx hb dX9_commands_312 rfl (lv_at hl 3 rfl) ?_
    refine lv_if_ne (tgt := 336) hx hb dX9_commands_313 (by decide) (fun c313 => ?_) (fun c313 => ?_)
    · replace h := if_f h c313
      refine lv_iconst (v := 0) hx hb dX9_commands_336 (by decide) ?_
      obtain rfl := Option.some.inj h
      exact hE H locs 337 ls _ hP hD hS rfl (Or.inl rfl) dX9_commands_337
    replace h := if_t h c313
    refine lv_iload_n hx hb dX9_commands_316 rfl (lv_at hl 2 rfl) ?_
    refine lv_if_ne (tgt := 336) hx hb dX9_commands_317 (by decide) (fun c317 => ?_) (fun c317 => ?_)
    · replace h := if_f h c317
      refine lv_iconst (v := 0) hx hb dX9_commands_336 (by decide) ?_
      obtain rfl := Option.some.inj h
      exact hE H locs 337 ls _ hP hD hS rfl (Or.inl rfl) dX9_commands_337
    replace h := if_t h c317
    refine lv_aload_n hx hb dX9_commands_320 rfl (lv_at hl 4 rfl) ?_
    obtain ⟨v321, e321, h⟩ := bnd h
    refine cV (av := []) (rest := []) (st1 := [.int v321]) (k1 := 0) (k2 := 0) (ci := 4) (q0 := 0) hx hb hml hown htg hN hK (c_X9_inside l dC dI cy a0 m0  v321 e321) (g_V gw1026 gw1028 gw27 gw63 gw1029) hdV_X9_inside rfl ⟨⟨Nat.le_of_ble_eq_true rfl, Nat.le_of_ble_eq_true rfl⟩, Nat.le_of_ble_eq_true rfl, Nat.le_of_ble_eq_true rfl⟩ hP hD hS hA ⟨rfl, rfl⟩ rfl [0, 1, 2, 3, 4, 5, 6, 7, 8, 9, 10, 11, 12, 13, 14] [] rfl rfl rfl (by decide) (by decide) hl.1 rfl (Nat.le_of_ble_eq_true rfl) rfl rfl rfl dX9_commands_321 (fun H locs hP hD hS => ?_)
    have hP : va_P (dC, dI) vwCl (wMod a0 cy m0) H := hP
    have hD : va_D A (wMod a0 cy m0) := hD
    refine lv_iload_n hx hb dX9_commands_324 rfl (lv_at hl 5 rfl) ?_
    refine lv_sipush (v := 1000) hx hb dX9_commands_325 (by decide) ?_
    refine lv_irem hx hb dX9_commands_328 (by decide) ?_
    refine lv_icmp_gt (tgt := 336) hx hb dX9_commands_329 (by decide) (fun c329 => ?_) (fun c329 => ?_)
    · replace h := if_t h c329
      refine lv_iconst (v := 0) hx hb dX9_commands_336 (by decide) ?_
      obtain rfl := Option.some.inj h
      exact hE H locs 337 ls _ hP hD hS rfl (Or.inl rfl) dX9_commands_337
    replace h := if_f h c329
    refine lv_iconst (v := 1) hx hb dX9_commands_332 (by decide) ?_
    refine lv_goto (tgt := 337) hx hb dX9_commands_333 (by decide) ?_
    obtain rfl := Option.some.inj h
    exact hE H locs 337 ls _ hP hD hS rfl (Or.inr rfl) dX9_commands_337
  replace h := if_f h c38_9
  refine lv_tableOut (tgt := 338) hx hb dX9_commands_38 (x_tout1_9 c38_1 c38_2 c38_3 c38_4 c38_5 c38_6 c38_7 c38_8 c38_9) (by decide) ?_
  refine lv_iconst (v := 0) hx hb dX9_commands_338 (by decide) ?_
  obtain rfl := Option.some.inj h
  exact hE H locs 339 ls _ hP hD hS rfl (Or.inl rfl) dX9_commands_339
def G_X9_corner (m0 : Mod) (p1 : Int32) (p2 : Int32) (p3 : Int32) : Option (Int32 × Mod) :=
  (G_X9_isCorner m0 p1 p2).bind fun v4 =>
  ((if v4 = 0 then
      some 1
    else
      (G_X9_within p3 0 5).bind fun v17 =>
      if v17 = 0 then
        some 2
      else
        some 0) : Option (Int32)).bind fun b7 =>
  if m_thrown (ms_thrown m0 b7) ≤ 0 then
    if p3 = 0 then
      (G_X9_x (ms_thrown m0 b7) p1 p2).bind fun v79 =>
      some (v79, ms_thrown m0 b7)
    else
    if p3 = 1 then
      (G_X9_y (ms_thrown m0 b7) p1 p2).bind fun v86 =>
      some (v86, ms_thrown m0 b7)
    else
    if p3 = 2 then
      (G_X9_kind (ms_thrown m0 b7) p1 p2).bind fun v93 =>
      some (v93, ms_thrown m0 b7)
    else
    if p3 = 3 then
      (G_X9_seenBy (ms_thrown m0 b7) p1 p2).bind fun v100 =>
      some (v100.1, v100.2)
    else
    if p3 = 4 then
      (G_X9_bend (ms_thrown m0 b7) p1 p2).bind fun v107 =>
      (G_X9_size v107).bind fun v110 =>
      some (v110, ms_thrown m0 b7)
    else
    (G_X9_pointsOf (ms_thrown m0 b7) p1 p2).bind fun v117 =>
    some (v117, ms_thrown m0 b7)
  else
    some (0, ms_thrown m0 b7)
abbrev rm_X9_corner : Room := { frames := 6, cells := 0, slots := 0, locals := 159 }
theorem hdS_X9_corner : yX9_corner.cls ≠ "java/lang/invoke/MethodHandle" ∧ yX9_corner.cls ≠ "java/lang/invoke/VarHandle" ∧ (parseMethodDescriptor yX9_corner.desc).map (fun d => d.parameters.length) = some 3 := by decide +kernel
theorem hdV_X9_corner : yX9_corner.cls = RX9 ∧ yX9_corner.cls ≠ "java/lang/invoke/MethodHandle" ∧ yX9_corner.cls ≠ "java/lang/invoke/VarHandle" ∧ (parseMethodDescriptor yX9_corner.desc).map (fun d => d.parameters.length) = some 3 := ⟨rfl, hdS_X9_corner⟩
set_option maxHeartbeats 4000000 in
set_option maxRecDepth 100000 in
theorem c_X9_corner (l : Launch) (dC : Nat → ClassId) (dI : Nat → Nat → Nat) (cy : Nat → ClassId) (a0 : Nat → Nat) (m0 : Mod) (p1 : Int32) (p2 : Int32) (p3 : Int32) (res : Int32 × Mod) (h : G_X9_corner m0 p1 p2 p3 = some res) : CT l (dC, dI) (TY cy) yX9_corner cX9_corner 4 (some .int) rm_X9_corner [.ref (a0 0), .int p1, .int p2, .int p3] (wMod a0 cy m0) (wMod a0 cy res.2) (some (.int res.1)) := by
  refine CT.mk_i (own := RX9) ⟨by decide, rfl⟩ (Nat.le_of_ble_eq_true rfl) ?_
  intro p e s mm args below meth cd A Q hx hb hml hown htg hN hK hA hP hD hS hE ls hl
  have hl : lv_has ls 4 [(0, .ref (a0 0)), (1, .int p1), (2, .int p2), (3, .int p3)] := hl
  replace h : _ = some res := h
  unfold G_X9_corner at h
  obtain ⟨H, hH⟩ : ∃ H, H = s.heap := ⟨_, rfl⟩
  obtain ⟨locs, hlocs⟩ : ∃ locs : List Loc, locs = [] := ⟨_, rfl⟩
  rw [← hlocs] at hS ⊢
  have hS : va_S A s.heap H locs := by rw [hH]; exact hS
  rw [← hH] at hP ⊢
  refine lv_aload_n hx hb dX9_corner_0 rfl (lv_at hl 0 rfl) ?_
  refine lv_aload_n hx hb dX9_corner_1 rfl (lv_at hl 0 rfl) ?_
  refine lv_iload_n hx hb dX9_corner_2 rfl (lv_at hl 1 rfl) ?_
  refine lv_iload_n hx hb dX9_corner_3 rfl (lv_at hl 2 rfl) ?_
  obtain ⟨v4, e4, h⟩ := bnd h
  refine cV (av := [.int p1, .int p2]) (rest := [.ref (a0 0)]) (st1 := [.int v4, .ref (a0 0)]) (k1 := 0) (k2 := 0) (ci := 4) (q0 := 0) hx hb hml hown htg hN hK (c_X9_isCorner l dC dI cy a0 m0 p1 p2 v4 e4) (g_V gw1102 gw1104 gw44 gw63 gw1105) hdV_X9_isCorner rfl ⟨⟨Nat.le_of_ble_eq_true rfl, Nat.le_of_ble_eq_true rfl⟩, Nat.le_of_ble_eq_true rfl, Nat.le_of_ble_eq_true rfl⟩ hP hD hS hA ⟨rfl, rfl⟩ rfl [0, 1, 2, 3, 4, 5, 6, 7, 8, 9, 10, 11, 12, 13, 14] [] rfl rfl rfl (by decide) (by decide) hl.1 rfl (Nat.le_of_ble_eq_true rfl) rfl rfl rfl dX9_corner_4 (fun H locs hP hD hS => ?_)
  have hP : va_P (dC, dI) vwCl (wMod a0 cy m0) H := hP
  have hD : va_D A (wMod a0 cy m0) := hD
  obtain ⟨b7, e7, h⟩ := bnd h
  have hr28 : ∀ (H : Heap) (locs : List Loc) (ls : Array Slot), va_P (dC, dI) vwCl (wMod a0 cy m0) H → va_D A (wMod a0 cy m0) → va_S A s.heap H locs → lv_has ls 4 [(0, .ref (a0 0)), (1, .int p1), (2, .int p2), (3, .int p3)] → W p l e rm_X9_corner s mm args below meth cd H locs 0 0 Q (F0 mm 28 ls [.int b7, .ref (a0 0)]) := by
    intro H locs ls hP hD hS hl
    refine va_put (D := (dC, dI)) (ci := 4) (v := .int b7) (ty := .int) (C := RX9) (T := TX9) (N := 18) hx hb htg inX9 tyX9 tyX9_ok nmX9 hown hK hP hD hS 0 rfl rfl 0 (by decide) (htg _ gw850) (fun _ h9 => h9) rfl (by decide +kernel) rfl rfl (Nat.le_of_ble_eq_true rfl) dX9_corner_28 (fun H locs hP hD hS => ?_)
    have hP : va_P (dC, dI) vwCl (wMod a0 cy (ms_thrown m0 b7)) H := hP
    have hD : va_D A (wMod a0 cy (ms_thrown m0 b7)) := hD
    refine lv_aload_n hx hb dX9_corner_31 rfl (lv_at hl 0 rfl) ?_
    refine va_get (D := (dC, dI)) (ci := 4) (v := .int (m_thrown (ms_thrown m0 b7))) (C := RX9) (T := TX9) (N := 18) hx hb htg inX9 hown hK hP 0 rfl rfl 0 (by decide) (htg _ gw850) (fun _ h9 => h9) rfl dX9_corner_32 ?_
    refine lv_if_le (tgt := 40) hx hb dX9_corner_35 (by decide) (fun c35 => ?_) (fun c35 => ?_)
    · replace h := if_t h c35
      refine lv_iload_n hx hb dX9_corner_40 rfl (lv_at hl 3 rfl) ?_
      by_cases c41_0 : p3 = 0
      · replace h := if_t h c41_0
        refine lv_tableIn (tgt := 76) (off := 35) hx hb dX9_corner_41 (by rw [c41_0]; decide) (by rw [c41_0]; decide) (by rw [c41_0]; rfl) (by decide) ?_
        refine lv_aload_n hx hb dX9_corner_76 rfl (lv_at hl 0 rfl) ?_
        refine lv_iload_n hx hb dX9_corner_77 rfl (lv_at hl 1 rfl) ?_
        refine lv_iload_n hx hb dX9_corner_78 rfl (lv_at hl 2 rfl) ?_
        obtain ⟨v79, e79, h⟩ := bnd h
        refine cV (av := [.int p1, .int p2]) (rest := []) (st1 := [.int v79]) (k1 := 0) (k2 := 0) (ci := 4) (q0 := 0) hx hb hml hown htg hN hK (c_X9_x l dC dI cy a0 (ms_thrown m0 b7) p1 p2 v79 e79) (g_V gw947 gw949 gw13 gw63 gw950) hdV_X9_x rfl ⟨⟨Nat.le_of_ble_eq_true rfl, Nat.le_of_ble_eq_true rfl⟩, Nat.le_of_ble_eq_true rfl, Nat.le_of_ble_eq_true rfl⟩ hP hD hS hA ⟨rfl, rfl⟩ rfl [0, 1, 2, 3, 4, 5, 6, 7, 8, 9, 10, 11, 12, 13, 14] [] rfl rfl rfl (by decide) (by decide) hl.1 rfl (Nat.le_of_ble_eq_true rfl) rfl rfl rfl dX9_corner_79 (fun H locs hP hD hS => ?_)
        have hP : va_P (dC, dI) vwCl (wMod a0 cy (ms_thrown m0 b7)) H := hP
        have hD : va_D A (wMod a0 cy (ms_thrown m0 b7)) := hD
        obtain rfl := Option.some.inj h
        exact hE H locs 82 ls _ hP hD hS rfl dX9_corner_82
      replace h := if_f h c41_0
      by_cases c41_1 : p3 = 1
      · replace h := if_t h c41_1
        refine lv_tableIn (tgt := 83) (off := 42) hx hb dX9_corner_41 (by rw [c41_1]; decide) (by rw [c41_1]; decide) (by rw [c41_1]; rfl) (by decide) ?_
        refine lv_aload_n hx hb dX9_corner_83 rfl (lv_at hl 0 rfl) ?_
        refine lv_iload_n hx hb dX9_corner_84 rfl (lv_at hl 1 rfl) ?_
        refine lv_iload_n hx hb dX9_corner_85 rfl (lv_at hl 2 rfl) ?_
        obtain ⟨v86, e86, h⟩ := bnd h
        refine cV (av := [.int p1, .int p2]) (rest := []) (st1 := [.int v86]) (k1 := 0) (k2 := 0) (ci := 4) (q0 := 0) hx hb hml hown htg hN hK (c_X9_y l dC dI cy a0 (ms_thrown m0 b7) p1 p2 v86 e86) (g_V gw951 gw953 gw14 gw63 gw954) hdV_X9_y rfl ⟨⟨Nat.le_of_ble_eq_true rfl, Nat.le_of_ble_eq_true rfl⟩, Nat.le_of_ble_eq_true rfl, Nat.le_of_ble_eq_true rfl⟩ hP hD hS hA ⟨rfl, rfl⟩ rfl [0, 1, 2, 3, 4, 5, 6, 7, 8, 9, 10, 11, 12, 13, 14] [] rfl rfl rfl (by decide) (by decide) hl.1 rfl (Nat.le_of_ble_eq_true rfl) rfl rfl rfl dX9_corner_86 (fun H locs hP hD hS => ?_)
        have hP : va_P (dC, dI) vwCl (wMod a0 cy (ms_thrown m0 b7)) H := hP
        have hD : va_D A (wMod a0 cy (ms_thrown m0 b7)) := hD
        obtain rfl := Option.some.inj h
        exact hE H locs 89 ls _ hP hD hS rfl dX9_corner_89
      replace h := if_f h c41_1
      by_cases c41_2 : p3 = 2
      · replace h := if_t h c41_2
        refine lv_tableIn (tgt := 90) (off := 49) hx hb dX9_corner_41 (by rw [c41_2]; decide) (by rw [c41_2]; decide) (by rw [c41_2]; rfl) (by decide) ?_
        refine lv_aload_n hx hb dX9_corner_90 rfl (lv_at hl 0 rfl) ?_
        refine lv_iload_n hx hb dX9_corner_91 rfl (lv_at hl 1 rfl) ?_
        refine lv_iload_n hx hb dX9_corner_92 rfl (lv_at hl 2 rfl) ?_
        obtain ⟨v93, e93, h⟩ := bnd h
        refine cV (av := [.int p1, .int p2]) (rest := []) (st1 := [.int v93]) (k1 := 0) (k2 := 0) (ci := 4) (q0 := 0) hx hb hml hown htg hN hK (c_X9_kind l dC dI cy a0 (ms_thrown m0 b7) p1 p2 v93 e93) (g_V gw1046 gw1048 gw32 gw63 gw1049) hdV_X9_kind rfl ⟨⟨Nat.le_of_ble_eq_true rfl, Nat.le_of_ble_eq_true rfl⟩, Nat.le_of_ble_eq_true rfl, Nat.le_of_ble_eq_true rfl⟩ hP hD hS hA ⟨rfl, rfl⟩ rfl [0, 1, 2, 3, 4, 5, 6, 7, 8, 9, 10, 11, 12, 13, 14] [] rfl rfl rfl (by decide) (by decide) hl.1 rfl (Nat.le_of_ble_eq_true rfl) rfl rfl rfl dX9_corner_93 (fun H locs hP hD hS => ?_)
        have hP : va_P (dC, dI) vwCl (wMod a0 cy (ms_thrown m0 b7)) H := hP
        have hD : va_D A (wMod a0 cy (ms_thrown m0 b7)) := hD
        obtain rfl := Option.some.inj h
        exact hE H locs 96 ls _ hP hD hS rfl dX9_corner_96
      replace h := if_f h c41_2
      by_cases c41_3 : p3 = 3
      · replace h := if_t h c41_3
        refine lv_tableIn (tgt := 97) (off := 56) hx hb dX9_corner_41 (by rw [c41_3]; decide) (by rw [c41_3]; decide) (by rw [c41_3]; rfl) (by decide) ?_
        refine lv_aload_n hx hb dX9_corner_97 rfl (lv_at hl 0 rfl) ?_
        refine lv_iload_n hx hb dX9_corner_98 rfl (lv_at hl 1 rfl) ?_
        refine lv_iload_n hx hb dX9_corner_99 rfl (lv_at hl 2 rfl) ?_
        obtain ⟨v100, e100, h⟩ := bnd h
        refine cV (av := [.int p1, .int p2]) (rest := []) (st1 := [.int v100.1]) (k1 := 0) (k2 := 0) (ci := 4) (q0 := 0) hx hb hml hown htg hN hK (c_X9_seenBy l dC dI cy a0 (ms_thrown m0 b7) p1 p2 v100 e100) (g_V gw1078 gw1080 gw40 gw63 gw1081) hdV_X9_seenBy rfl ⟨⟨Nat.le_of_ble_eq_true rfl, Nat.le_of_ble_eq_true rfl⟩, Nat.le_of_ble_eq_true rfl, Nat.le_of_ble_eq_true rfl⟩ hP hD hS hA ⟨rfl, rfl⟩ rfl [0, 1, 2, 3, 4, 5, 6, 7, 8, 9, 10, 11, 12, 13, 14] [] rfl rfl rfl (by decide) (by decide) hl.1 rfl (Nat.le_of_ble_eq_true rfl) rfl rfl rfl dX9_corner_100 (fun H locs hP hD hS => ?_)
        have hP : va_P (dC, dI) vwCl (wMod a0 cy v100.2) H := hP
        have hD : va_D A (wMod a0 cy v100.2) := hD
        obtain rfl := Option.some.inj h
        exact hE H locs 103 ls _ hP hD hS rfl dX9_corner_103
      replace h := if_f h c41_3
      by_cases c41_4 : p3 = 4
      · replace h := if_t h c41_4
        refine lv_tableIn (tgt := 104) (off := 63) hx hb dX9_corner_41 (by rw [c41_4]; decide) (by rw [c41_4]; decide) (by rw [c41_4]; rfl) (by decide) ?_
        refine lv_aload_n hx hb dX9_corner_104 rfl (lv_at hl 0 rfl) ?_
        refine lv_iload_n hx hb dX9_corner_105 rfl (lv_at hl 1 rfl) ?_
        refine lv_iload_n hx hb dX9_corner_106 rfl (lv_at hl 2 rfl) ?_
        obtain ⟨v107, e107, h⟩ := bnd h
        refine cV (av := [.int p1, .int p2]) (rest := []) (st1 := [.int v107]) (k1 := 0) (k2 := 0) (ci := 4) (q0 := 0) hx hb hml hown htg hN hK (c_X9_bend l dC dI cy a0 (ms_thrown m0 b7) p1 p2 v107 e107) (g_V gw1050 gw1052 gw33 gw63 gw1053) hdV_X9_bend rfl ⟨⟨Nat.le_of_ble_eq_true rfl, Nat.le_of_ble_eq_true rfl⟩, Nat.le_of_ble_eq_true rfl, Nat.le_of_ble_eq_true rfl⟩ hP hD hS hA ⟨rfl, rfl⟩ rfl [0, 1, 2, 3, 4, 5, 6, 7, 8, 9, 10, 11, 12, 13, 14] [] rfl rfl rfl (by decide) (by decide) hl.1 rfl (Nat.le_of_ble_eq_true rfl) rfl rfl rfl dX9_corner_107 (fun H locs hP hD hS => ?_)
        have hP : va_P (dC, dI) vwCl (wMod a0 cy (ms_thrown m0 b7)) H := hP
        have hD : va_D A (wMod a0 cy (ms_thrown m0 b7)) := hD
        obtain ⟨v110, e110, h⟩ := bnd h
        refine cS (av := [.int v107]) (rest := []) (st1 := [.int v110]) (k1 := 0) (k2 := 0) hx hb hml hown htg hN hK (c_X9_size l dC dI cy   v107 v110 e110) (g_S gw1012 gw1013 gw63 gw1014) hdS_X9_size rfl ⟨⟨Nat.le_of_ble_eq_true rfl, Nat.le_of_ble_eq_true rfl⟩, Nat.le_of_ble_eq_true rfl, Nat.le_of_ble_eq_true rfl⟩ hP hD hS hA [] [0, 1, 2, 3, 4, 5, 6, 7, 8, 9, 10, 11, 12, 13, 14] rfl rfl rfl (by decide) (by decide) hl.1 rfl (Nat.le_of_ble_eq_true rfl) rfl rfl rfl dX9_corner_110 (fun H locs hP hD hS => ?_)
        obtain ⟨hP, hD⟩ := x_perm (ws' := wMod a0 cy (ms_thrown m0 b7)) hP hD [0, 1, 2, 3, 4, 5, 6, 7, 8, 9, 10, 11, 12, 13, 14] (by decide) rfl rfl
        obtain rfl := Option.some.inj h
        exact hE H locs 113 ls _ hP hD hS rfl dX9_corner_113
      replace h := if_f h c41_4
      refine lv_tableOut (tgt := 114) hx hb dX9_corner_41 (x_tout0_4 c41_0 c41_1 c41_2 c41_3 c41_4) (by decide) ?_
      refine lv_aload_n hx hb dX9_corner_114 rfl (lv_at hl 0 rfl) ?_
      refine lv_iload_n hx hb dX9_corner_115 rfl (lv_at hl 1 rfl) ?_
      refine lv_iload_n hx hb dX9_corner_116 rfl (lv_at hl 2 rfl) ?_
      obtain ⟨v117, e117, h⟩ := bnd h
      refine cV (av := [.int p1, .int p2]) (rest := []) (st1 := [.int v117]) (k1 := 0) (k2 := 0) (ci := 4) (q0 := 0) hx hb hml hown htg hN hK (c_X9_pointsOf l dC dI cy a0 (ms_thrown m0 b7) p1 p2 v117 e117) (g_V gw1019 gw1021 gw26 gw63 gw1022) hdV_X9_pointsOf rfl ⟨⟨Nat.le_of_ble_eq_true rfl, Nat.le_of_ble_eq_true rfl⟩, Nat.le_of_ble_eq_true rfl, Nat.le_of_ble_eq_true rfl⟩ hP hD hS hA ⟨rfl, rfl⟩ rfl [0, 1, 2, 3, 4, 5, 6, 7, 8, 9, 10, 11, 12, 13, 14] [] rfl rfl rfl (by decide) (by decide) hl.1 rfl (Nat.le_of_ble_eq_true rfl) rfl rfl rfl dX9_corner_117 (fun H locs hP hD hS => ?_)
      have hP : va_P (dC, dI) vwCl (wMod a0 cy (ms_thrown m0 b7)) H := hP
      have hD : va_D A (wMod a0 cy (ms_thrown m0 b7)) := hD
      obtain rfl := Option.some.inj h
      exact hE H locs 120 ls _ hP hD hS rfl dX9_corner_120
    replace h := if_f h c35
    refine lv_iconst (v := 0) hx hb dX9_corner_38 (by decide) ?_
    obtain rfl := Option.some.inj h
    exact hE H locs 39 ls _ hP hD hS rfl dX9_corner_39
  have h := e7
  clear e7
  refine lv_if_ne (tgt := 14) hx hb dX9_corner_7 (by decide) (fun c7 => ?_) (fun c7 => ?_)
  · replace h := if_f h c7
    refine lv_iload_n hx hb dX9_corner_14 rfl (lv_at hl 3 rfl) ?_
    refine lv_iconst (v := 0) hx hb dX9_corner_15 (by decide) ?_
    refine lv_iconst (v := 5) hx hb dX9_corner_16 (by decide) ?_
    obtain ⟨v17, e17, h⟩ := bnd h
    refine cS (av := [.int p3, .int 0, .int 5]) (rest := [.ref (a0 0)]) (st1 := [.int v17, .ref (a0 0)]) (k1 := 0) (k2 := 0) hx hb hml hown htg hN hK (c_X9_within l dC dI cy   p3 0 5 v17 e17) (g_S gw913 gw914 gw63 gw915) hdS_X9_within rfl ⟨⟨Nat.le_of_ble_eq_true rfl, Nat.le_of_ble_eq_true rfl⟩, Nat.le_of_ble_eq_true rfl, Nat.le_of_ble_eq_true rfl⟩ hP hD hS hA [] [0, 1, 2, 3, 4, 5, 6, 7, 8, 9, 10, 11, 12, 13, 14] rfl rfl rfl (by decide) (by decide) hl.1 rfl (Nat.le_of_ble_eq_true rfl) rfl rfl rfl dX9_corner_17 (fun H locs hP hD hS => ?_)
    obtain ⟨hP, hD⟩ := x_perm (ws' := wMod a0 cy m0) hP hD [0, 1, 2, 3, 4, 5, 6, 7, 8, 9, 10, 11, 12, 13, 14] (by decide) rfl rfl
    refine lv_if_eq (tgt := 27) hx hb dX9_corner_20 (by decide) (fun c20 => ?_) (fun c20 => ?_)
    · replace h := if_t h c20
      refine lv_iconst (v := 2) hx hb dX9_corner_27 (by decide) ?_
      obtain rfl := Option.some.inj h
      exact hr28 H locs ls hP hD hS hl
    replace h := if_f h c20
    refine lv_iconst (v := 0) hx hb dX9_corner_23 (by decide) ?_
    refine lv_goto (tgt := 28) hx hb dX9_corner_24 (by decide) ?_
    obtain rfl := Option.some.inj h
    exact hr28 H locs ls hP hD hS hl
  replace h := if_t h c7
  refine lv_iconst (v := 1) hx hb dX9_corner_10 (by decide) ?_
  refine lv_goto (tgt := 28) hx hb dX9_corner_11 (by decide) ?_
  obtain rfl := Option.some.inj h
  exact hr28 H locs ls hP hD hS hl
def G_X9_cut (m0 : Mod) (p1 : Int32) : Option (Int32 × Mod) :=
  (G_X9_isCorner m0 0 p1).bind fun v4 =>
  ((if v4 = 0 then
      some 1
    else
      some 0) : Option (Int32)).bind fun b7 =>
  if m_thrown (ms_thrown m0 b7) ≤ 0 then
    (G_X9_isEar (ms_thrown m0 b7) p1).bind fun v29 =>
    if v29.1 = 0 then
      some ((-9), v29.2)
    else
      (G_X9_bend v29.2 0 p1).bind fun v38 =>
      (G_X9_size v38).bind fun v41 =>
      some (v41, v29.2)
  else
    some (0, ms_thrown m0 b7)
abbrev rm_X9_cut : Room := { frames := 6, cells := 0, slots := 0, locals := 155 }
theorem hdS_X9_cut : yX9_cut.cls ≠ "java/lang/invoke/MethodHandle" ∧ yX9_cut.cls ≠ "java/lang/invoke/VarHandle" ∧ (parseMethodDescriptor yX9_cut.desc).map (fun d => d.parameters.length) = some 1 := by decide +kernel
theorem hdV_X9_cut : yX9_cut.cls = RX9 ∧ yX9_cut.cls ≠ "java/lang/invoke/MethodHandle" ∧ yX9_cut.cls ≠ "java/lang/invoke/VarHandle" ∧ (parseMethodDescriptor yX9_cut.desc).map (fun d => d.parameters.length) = some 1 := ⟨rfl, hdS_X9_cut⟩
set_option maxHeartbeats 4000000 in
set_option maxRecDepth 100000 in
theorem c_X9_cut (l : Launch) (dC : Nat → ClassId) (dI : Nat → Nat → Nat) (cy : Nat → ClassId) (a0 : Nat → Nat) (m0 : Mod) (p1 : Int32) (res : Int32 × Mod) (h : G_X9_cut m0 p1 = some res) : CT l (dC, dI) (TY cy) yX9_cut cX9_cut 2 (some .int) rm_X9_cut [.ref (a0 0), .int p1] (wMod a0 cy m0) (wMod a0 cy res.2) (some (.int res.1)) := by
  refine CT.mk_i (own := RX9) ⟨by decide, rfl⟩ (Nat.le_of_ble_eq_true rfl) ?_
  intro p e s mm args below meth cd A Q hx hb hml hown htg hN hK hA hP hD hS hE ls hl
  have hl : lv_has ls 2 [(0, .ref (a0 0)), (1, .int p1)] := hl
  replace h : _ = some res := h
  unfold G_X9_cut at h
  obtain ⟨H, hH⟩ : ∃ H, H = s.heap := ⟨_, rfl⟩
  obtain ⟨locs, hlocs⟩ : ∃ locs : List Loc, locs = [] := ⟨_, rfl⟩
  rw [← hlocs] at hS ⊢
  have hS : va_S A s.heap H locs := by rw [hH]; exact hS
  rw [← hH] at hP ⊢
  refine lv_aload_n hx hb dX9_cut_0 rfl (lv_at hl 0 rfl) ?_
  refine lv_aload_n hx hb dX9_cut_1 rfl (lv_at hl 0 rfl) ?_
  refine lv_iconst (v := 0) hx hb dX9_cut_2 (by decide) ?_
  refine lv_iload_n hx hb dX9_cut_3 rfl (lv_at hl 1 rfl) ?_
  obtain ⟨v4, e4, h⟩ := bnd h
  refine cV (av := [.int 0, .int p1]) (rest := [.ref (a0 0)]) (st1 := [.int v4, .ref (a0 0)]) (k1 := 0) (k2 := 0) (ci := 4) (q0 := 0) hx hb hml hown htg hN hK (c_X9_isCorner l dC dI cy a0 m0 0 p1 v4 e4) (g_V gw1102 gw1104 gw44 gw63 gw1105) hdV_X9_isCorner rfl ⟨⟨Nat.le_of_ble_eq_true rfl, Nat.le_of_ble_eq_true rfl⟩, Nat.le_of_ble_eq_true rfl, Nat.le_of_ble_eq_true rfl⟩ hP hD hS hA ⟨rfl, rfl⟩ rfl [0, 1, 2, 3, 4, 5, 6, 7, 8, 9, 10, 11, 12, 13, 14] [] rfl rfl rfl (by decide) (by decide) hl.1 rfl (Nat.le_of_ble_eq_true rfl) rfl rfl rfl dX9_cut_4 (fun H locs hP hD hS => ?_)
  have hP : va_P (dC, dI) vwCl (wMod a0 cy m0) H := hP
  have hD : va_D A (wMod a0 cy m0) := hD
  obtain ⟨b7, e7, h⟩ := bnd h
  have hr15 : ∀ (H : Heap) (locs : List Loc) (ls : Array Slot), va_P (dC, dI) vwCl (wMod a0 cy m0) H → va_D A (wMod a0 cy m0) → va_S A s.heap H locs → lv_has ls 2 [(0, .ref (a0 0)), (1, .int p1)] → W p l e rm_X9_cut s mm args below meth cd H locs 0 0 Q (F0 mm 15 ls [.int b7, .ref (a0 0)]) := by
    intro H locs ls hP hD hS hl
    refine va_put (D := (dC, dI)) (ci := 4) (v := .int b7) (ty := .int) (C := RX9) (T := TX9) (N := 18) hx hb htg inX9 tyX9 tyX9_ok nmX9 hown hK hP hD hS 0 rfl rfl 0 (by decide) (htg _ gw850) (fun _ h9 => h9) rfl (by decide +kernel) rfl rfl (Nat.le_of_ble_eq_true rfl) dX9_cut_15 (fun H locs hP hD hS => ?_)
    have hP : va_P (dC, dI) vwCl (wMod a0 cy (ms_thrown m0 b7)) H := hP
    have hD : va_D A (wMod a0 cy (ms_thrown m0 b7)) := hD
    refine lv_aload_n hx hb dX9_cut_18 rfl (lv_at hl 0 rfl) ?_
    refine va_get (D := (dC, dI)) (ci := 4) (v := .int (m_thrown (ms_thrown m0 b7))) (C := RX9) (T := TX9) (N := 18) hx hb htg inX9 hown hK hP 0 rfl rfl 0 (by decide) (htg _ gw850) (fun _ h9 => h9) rfl dX9_cut_19 ?_
    refine lv_if_le (tgt := 27) hx hb dX9_cut_22 (by decide) (fun c22 => ?_) (fun c22 => ?_)
    · replace h := if_t h c22
      refine lv_aload_n hx hb dX9_cut_27 rfl (lv_at hl 0 rfl) ?_
      refine lv_iload_n hx hb dX9_cut_28 rfl (lv_at hl 1 rfl) ?_
      obtain ⟨v29, e29, h⟩ := bnd h
      refine cV (av := [.int p1]) (rest := []) (st1 := [.int v29.1]) (k1 := 0) (k2 := 0) (ci := 4) (q0 := 0) hx hb hml hown htg hN hK (c_X9_isEar l dC dI cy a0 (ms_thrown m0 b7) p1 v29 e29) (g_V gw1058 gw1060 gw35 gw63 gw1061) hdV_X9_isEar rfl ⟨⟨Nat.le_of_ble_eq_true rfl, Nat.le_of_ble_eq_true rfl⟩, Nat.le_of_ble_eq_true rfl, Nat.le_of_ble_eq_true rfl⟩ hP hD hS hA ⟨rfl, rfl⟩ rfl [0, 1, 2, 3, 4, 5, 6, 7, 8, 9, 10, 11, 12, 13, 14] [] rfl rfl rfl (by decide) (by decide) hl.1 rfl (Nat.le_of_ble_eq_true rfl) rfl rfl rfl dX9_cut_29 (fun H locs hP hD hS => ?_)
      have hP : va_P (dC, dI) vwCl (wMod a0 cy v29.2) H := hP
      have hD : va_D A (wMod a0 cy v29.2) := hD
      refine lv_if_eq (tgt := 47) hx hb dX9_cut_32 (by decide) (fun c32 => ?_) (fun c32 => ?_)
      · replace h := if_t h c32
        refine lv_bipush (v := (-9)) hx hb dX9_cut_47 (by decide) ?_
        obtain rfl := Option.some.inj h
        exact hE H locs 49 ls _ hP hD hS rfl dX9_cut_49
      replace h := if_f h c32
      refine lv_aload_n hx hb dX9_cut_35 rfl (lv_at hl 0 rfl) ?_
      refine lv_iconst (v := 0) hx hb dX9_cut_36 (by decide) ?_
      refine lv_iload_n hx hb dX9_cut_37 rfl (lv_at hl 1 rfl) ?_
      obtain ⟨v38, e38, h⟩ := bnd h
      refine cV (av := [.int 0, .int p1]) (rest := []) (st1 := [.int v38]) (k1 := 0) (k2 := 0) (ci := 4) (q0 := 0) hx hb hml hown htg hN hK (c_X9_bend l dC dI cy a0 v29.2 0 p1 v38 e38) (g_V gw1050 gw1052 gw33 gw63 gw1053) hdV_X9_bend rfl ⟨⟨Nat.le_of_ble_eq_true rfl, Nat.le_of_ble_eq_true rfl⟩, Nat.le_of_ble_eq_true rfl, Nat.le_of_ble_eq_true rfl⟩ hP hD hS hA ⟨rfl, rfl⟩ rfl [0, 1, 2, 3, 4, 5, 6, 7, 8, 9, 10, 11, 12, 13, 14] [] rfl rfl rfl (by decide) (by decide) hl.1 rfl (Nat.le_of_ble_eq_true rfl) rfl rfl rfl dX9_cut_38 (fun H locs hP hD hS => ?_)
      have hP : va_P (dC, dI) vwCl (wMod a0 cy v29.2) H := hP
      have hD : va_D A (wMod a0 cy v29.2) := hD
      obtain ⟨v41, e41, h⟩ := bnd h
      refine cS (av := [.int v38]) (rest := []) (st1 := [.int v41]) (k1 := 0) (k2 := 0) hx hb hml hown htg hN hK (c_X9_size l dC dI cy   v38 v41 e41) (g_S gw1012 gw1013 gw63 gw1014) hdS_X9_size rfl ⟨⟨Nat.le_of_ble_eq_true rfl, Nat.le_of_ble_eq_true rfl⟩, Nat.le_of_ble_eq_true rfl, Nat.le_of_ble_eq_true rfl⟩ hP hD hS hA [] [0, 1, 2, 3, 4, 5, 6, 7, 8, 9, 10, 11, 12, 13, 14] rfl rfl rfl (by decide) (by decide) hl.1 rfl (Nat.le_of_ble_eq_true rfl) rfl rfl rfl dX9_cut_41 (fun H locs hP hD hS => ?_)
      obtain ⟨hP, hD⟩ := x_perm (ws' := wMod a0 cy v29.2) hP hD [0, 1, 2, 3, 4, 5, 6, 7, 8, 9, 10, 11, 12, 13, 14] (by decide) rfl rfl
      refine lv_goto (tgt := 49) hx hb dX9_cut_44 (by decide) ?_
      obtain rfl := Option.some.inj h
      exact hE H locs 49 ls _ hP hD hS rfl dX9_cut_49
    replace h := if_f h c22
    refine lv_iconst (v := 0) hx hb dX9_cut_25 (by decide) ?_
    obtain rfl := Option.some.inj h
    exact hE H locs 26 ls _ hP hD hS rfl dX9_cut_26
  have h := e7
  clear e7
  refine lv_if_eq (tgt := 14) hx hb dX9_cut_7 (by decide) (fun c7 => ?_) (fun c7 => ?_)
  · replace h := if_t h c7
    refine lv_iconst (v := 1) hx hb dX9_cut_14 (by decide) ?_
    obtain rfl := Option.some.inj h
    exact hr15 H locs ls hP hD hS hl
  replace h := if_f h c7
  refine lv_iconst (v := 0) hx hb dX9_cut_10 (by decide) ?_
  refine lv_goto (tgt := 15) hx hb dX9_cut_11 (by decide) ?_
  obtain rfl := Option.some.inj h
  exact hr15 H locs ls hP hD hS hl
def G_X9_cuttings_j150 (r41 : Mod → Int32 → Int32 → Int32 → Option (Int32 × Mod))  (m0_150 : Mod) (l6_150 : Int32) (l4_150 : Int32) (l3_150 : Int32) (l2_150 : Int32) (l1_150 : Int32) : Option (Int32 × Mod) :=
  (wr 100 (m_cuts m0_150) ((10 * l3_150) + l4_150) l6_150).bind fun g163 =>
  r41 (ms_cuts m0_150 g163) (l3_150 + 1) l2_150 l1_150
def G_X9_cuttings_L101 (r41 : Mod → Int32 → Int32 → Int32 → Option (Int32 × Mod))  : Nat → Mod → Int32 → Int32 → Int32 → Int32 → Int32 → Int32 → Int32 → Option (Int32 × Mod)
  | 0, _, _, _, _, _, _, _, _ => none
  | n101 + 1, m0_101, l7_101, l6_101, l5_101, l4_101, l3_101, l2_101, l1_101 =>
    if l4_101 ≤ l7_101 then
      G_X9_cuttings_j150 r41 m0_101 l6_101 l4_101 l3_101 l2_101 l1_101
    else
      if l5_101 = 0 then
        G_X9_cuttings_j150 r41 m0_101 l6_101 l4_101 l3_101 l2_101 l1_101
      else
        (rd 100 (m_cuts m0_101) ((10 * l3_101) + l7_101)).bind fun v126 =>
        (rd 100 (m_cuts m0_101) ((10 * l7_101) + l4_101)).bind fun v139 =>
        (G_X9_cuttings_L101 r41 n101) m0_101 (l7_101 + 1) (l6_101 + (v126 * v139)) l5_101 l4_101 l3_101 l2_101 l1_101
def G_X9_cuttings_L41 (r34 : Mod → Int32 → Int32 → Option (Int32 × Mod))  : Nat → Mod → Int32 → Int32 → Int32 → Option (Int32 × Mod)
  | 0, _, _, _, _ => none
  | n41 + 1, m0_41, l3_41, l2_41, l1_41 =>
    if l1_41 ≤ l3_41 + l2_41 then
      r34 m0_41 (l2_41 + 1) l1_41
    else
      ((if l2_41 = 1 then
          some (1, m0_41)
        else
          if l2_41 = l1_41 - 1 then
            some (1, m0_41)
          else
            (G_X9_areSeeing m0_41 0 l3_41 0 (l3_41 + l2_41)).bind fun v71 =>
            if v71.1 = 0 then
              some (0, v71.2)
            else
              some (1, v71.2)) : Option (Int32 × Mod)).bind fun b55 =>
      ((if l2_41 = 1 then
          some 1
        else
          some 0) : Option (Int32)).bind fun b86 =>
      G_X9_cuttings_L101 (G_X9_cuttings_L41 r34 n41) FU b55.2 (l3_41 + 1) b86 b55.1 (l3_41 + l2_41) l3_41 l2_41 l1_41
def G_X9_cuttings_L34   : Nat → Mod → Int32 → Int32 → Option (Int32 × Mod)
  | 0, _, _, _ => none
  | n34 + 1, m0_34, l2_34, l1_34 =>
    if l1_34 ≤ l2_34 then
      (rd 100 (m_cuts m0_34) (l1_34 - 1)).bind fun v183 =>
      some (v183, m0_34)
    else
      G_X9_cuttings_L41 (G_X9_cuttings_L34 n34) FU m0_34 0 l2_34 l1_34
def G_X9_cuttings (m0 : Mod) : Option (Int32 × Mod) :=
  (rd 85 (m_state (ms_thrown m0 0)) 0).bind fun v10 =>
  if 1 < v10 then
    some ((-9), ms_thrown m0 0)
  else
    (G_X9_kindsOf (ms_thrown m0 0) 0).bind fun v17 =>
    if v17 ≤ 0 then
      (G_X9_many (ms_thrown m0 0) 0).bind fun v28 =>
      G_X9_cuttings_L34 FU (ms_thrown m0 0) 1 v28
    else
      some ((-9), ms_thrown m0 0)
abbrev rm_X9_cuttings : Room := { frames := 5, cells := 0, slots := 0, locals := 134 }
theorem hdS_X9_cuttings : yX9_cuttings.cls ≠ "java/lang/invoke/MethodHandle" ∧ yX9_cuttings.cls ≠ "java/lang/invoke/VarHandle" ∧ (parseMethodDescriptor yX9_cuttings.desc).map (fun d => d.parameters.length) = some 0 := by decide +kernel
theorem hdV_X9_cuttings : yX9_cuttings.cls = RX9 ∧ yX9_cuttings.cls ≠ "java/lang/invoke/MethodHandle" ∧ yX9_cuttings.cls ≠ "java/lang/invoke/VarHandle" ∧ (parseMethodDescriptor yX9_cuttings.desc).map (fun d => d.parameters.length) = some 0 := ⟨rfl, hdS_X9_cuttings⟩
set_option maxHeartbeats 4000000 in
set_option maxRecDepth 100000 in
theorem c_X9_cuttings (l : Launch) (dC : Nat → ClassId) (dI : Nat → Nat → Nat) (cy : Nat → ClassId) (a0 : Nat → Nat) (m0 : Mod) (res : Int32 × Mod) (h : G_X9_cuttings m0 = some res) : CT l (dC, dI) (TY cy) yX9_cuttings cX9_cuttings 8 (some .int) rm_X9_cuttings [.ref (a0 0)] (wMod a0 cy m0) (wMod a0 cy res.2) (some (.int res.1)) := by
  refine CT.mk_i (own := RX9) ⟨by decide, rfl⟩ (Nat.le_of_ble_eq_true rfl) ?_
  intro p e s mm args below meth cd A Q hx hb hml hown htg hN hK hA hP hD hS hE ls hl
  have hl : lv_has ls 8 [(0, .ref (a0 0))] := hl
  replace h : _ = some res := h
  unfold G_X9_cuttings at h
  obtain ⟨H, hH⟩ : ∃ H, H = s.heap := ⟨_, rfl⟩
  obtain ⟨locs, hlocs⟩ : ∃ locs : List Loc, locs = [] := ⟨_, rfl⟩
  rw [← hlocs] at hS ⊢
  have hS : va_S A s.heap H locs := by rw [hH]; exact hS
  rw [← hH] at hP ⊢
  refine lv_aload_n hx hb dX9_cuttings_0 rfl (lv_at hl 0 rfl) ?_
  refine lv_iconst (v := 0) hx hb dX9_cuttings_1 (by decide) ?_
  refine va_put (D := (dC, dI)) (ci := 4) (v := .int 0) (ty := .int) (C := RX9) (T := TX9) (N := 18) hx hb htg inX9 tyX9 tyX9_ok nmX9 hown hK hP hD hS 0 rfl rfl 0 (by decide) (htg _ gw850) (fun _ h9 => h9) rfl (by decide +kernel) rfl rfl (Nat.le_of_ble_eq_true rfl) dX9_cuttings_2 (fun H locs hP hD hS => ?_)
  have hP : va_P (dC, dI) vwCl (wMod a0 cy (ms_thrown m0 0)) H := hP
  have hD : va_D A (wMod a0 cy (ms_thrown m0 0)) := hD
  refine lv_aload_n hx hb dX9_cuttings_5 rfl (lv_at hl 0 rfl) ?_
  refine va_get (D := (dC, dI)) (ci := 4) (v := .ref (a0 1)) (C := RX9) (T := TX9) (N := 18) hx hb htg inX9 hown hK hP 0 rfl rfl 1 (by decide) (htg _ gw851) (fun _ h9 => h9) rfl dX9_cuttings_6 ?_
  refine lv_iconst (v := 0) hx hb dX9_cuttings_9 (by decide) ?_
  obtain ⟨v10, e10, h⟩ := bnd h
  refine x_iald (v := v10) hx hb hK hP 1 0 rfl rfl e10 dX9_cuttings_10 ?_
  refine lv_iconst (v := 1) hx hb dX9_cuttings_11 (by decide) ?_
  refine lv_icmp_gt (tgt := 23) hx hb dX9_cuttings_12 (by decide) (fun c12 => ?_) (fun c12 => ?_)
  · replace h := if_t h c12
    refine lv_bipush (v := (-9)) hx hb dX9_cuttings_23 (by decide) ?_
    obtain rfl := Option.some.inj h
    exact hE H locs 25 ls _ hP hD hS rfl dX9_cuttings_25
  replace h := if_f h c12
  refine lv_aload_n hx hb dX9_cuttings_15 rfl (lv_at hl 0 rfl) ?_
  refine lv_iconst (v := 0) hx hb dX9_cuttings_16 (by decide) ?_
  obtain ⟨v17, e17, h⟩ := bnd h
  refine cV (av := [.int 0]) (rest := []) (st1 := [.int v17]) (k1 := 0) (k2 := 0) (ci := 4) (q0 := 0) hx hb hml hown htg hN hK (c_X9_kindsOf l dC dI cy a0 (ms_thrown m0 0) 0 v17 e17) (g_V gw1042 gw1044 gw31 gw63 gw1045) hdV_X9_kindsOf rfl ⟨⟨Nat.le_of_ble_eq_true rfl, Nat.le_of_ble_eq_true rfl⟩, Nat.le_of_ble_eq_true rfl, Nat.le_of_ble_eq_true rfl⟩ hP hD hS hA ⟨rfl, rfl⟩ rfl [0, 1, 2, 3, 4, 5, 6, 7, 8, 9, 10, 11, 12, 13, 14] [] rfl rfl rfl (by decide) (by decide) hl.1 rfl (Nat.le_of_ble_eq_true rfl) rfl rfl rfl dX9_cuttings_17 (fun H locs hP hD hS => ?_)
  have hP : va_P (dC, dI) vwCl (wMod a0 cy (ms_thrown m0 0)) H := hP
  have hD : va_D A (wMod a0 cy (ms_thrown m0 0)) := hD
  refine lv_if_le (tgt := 26) hx hb dX9_cuttings_20 (by decide) (fun c20 => ?_) (fun c20 => ?_)
  · replace h := if_t h c20
    refine lv_aload_n hx hb dX9_cuttings_26 rfl (lv_at hl 0 rfl) ?_
    refine lv_iconst (v := 0) hx hb dX9_cuttings_27 (by decide) ?_
    obtain ⟨v28, e28, h⟩ := bnd h
    refine cV (av := [.int 0]) (rest := []) (st1 := [.int v28]) (k1 := 0) (k2 := 0) (ci := 4) (q0 := 0) hx hb hml hown htg hN hK (c_X9_many l dC dI cy a0 (ms_thrown m0 0) 0 v28 e28) (g_V gw935 gw937 gw10 gw63 gw938) hdV_X9_many rfl ⟨⟨Nat.le_of_ble_eq_true rfl, Nat.le_of_ble_eq_true rfl⟩, Nat.le_of_ble_eq_true rfl, Nat.le_of_ble_eq_true rfl⟩ hP hD hS hA ⟨rfl, rfl⟩ rfl [0, 1, 2, 3, 4, 5, 6, 7, 8, 9, 10, 11, 12, 13, 14] [] rfl rfl rfl (by decide) (by decide) hl.1 rfl (Nat.le_of_ble_eq_true rfl) rfl rfl rfl dX9_cuttings_28 (fun H locs hP hD hS => ?_)
    have hP : va_P (dC, dI) vwCl (wMod a0 cy (ms_thrown m0 0)) H := hP
    have hD : va_D A (wMod a0 cy (ms_thrown m0 0)) := hD
    refine lv_istore_n (lv' := [(1, .int v28), (0, .ref (a0 0))]) hx hb dX9_cuttings_31 rfl hl (by decide) rfl (fun ls hl => ?_)
    refine lv_iconst (v := 1) hx hb dX9_cuttings_32 (by decide) ?_
    refine lv_istore_n (lv' := [(2, .int 1), (1, .int v28), (0, .ref (a0 0))]) hx hb dX9_cuttings_33 rfl hl (by decide) rfl (fun ls hl => ?_)
    have hL34 : ∀ (n34 : Nat) (m0_34 : Mod) (l2_34 : Int32) (l1_34 : Int32) (H : Heap) (locs : List Loc) (ls : Array Slot), G_X9_cuttings_L34 n34 m0_34 l2_34 l1_34 = some res → va_P (dC, dI) vwCl (wMod a0 cy m0_34) H → va_D A (wMod a0 cy m0_34) → va_S A s.heap H locs → lv_has ls 8 [(2, .int l2_34), (1, .int l1_34), (0, .ref (a0 0))] → W p l e rm_X9_cuttings s mm args below meth cd H locs 0 0 Q (F0 mm 34 ls []) := by
      intro n34
      induction n34 with
      | zero => intro m0_34 l2_34 l1_34 H locs ls h; exact absurd h (by simp [G_X9_cuttings_L34])
      | succ n34 ih34 =>
        intro m0_34 l2_34 l1_34 H locs ls h hP hD hS hl
        rw [G_X9_cuttings_L34] at h
        refine lv_iload_n hx hb dX9_cuttings_34 rfl (lv_at hl 0 rfl) ?_
        refine lv_iload_n hx hb dX9_cuttings_35 rfl (lv_at hl 1 rfl) ?_
        refine lv_icmp_ge (tgt := 176) hx hb dX9_cuttings_36 (by decide) (fun c36 => ?_) (fun c36 => ?_)
        · replace h := if_t h c36
          refine lv_aload_n hx hb dX9_cuttings_176 rfl (lv_at hl 2 rfl) ?_
          refine va_get (D := (dC, dI)) (ci := 4) (v := .ref (a0 14)) (C := RX9) (T := TX9) (N := 18) hx hb htg inX9 hown hK hP 0 rfl rfl 17 (by decide) (htg _ gw867) (fun _ h9 => h9) rfl dX9_cuttings_177 ?_
          refine lv_iload_n hx hb dX9_cuttings_180 rfl (lv_at hl 1 rfl) ?_
          refine lv_iconst (v := 1) hx hb dX9_cuttings_181 (by decide) ?_
          refine lv_isub hx hb dX9_cuttings_182 ?_
          obtain ⟨v183, e183, h⟩ := bnd h
          refine x_iald (v := v183) hx hb hK hP 14 0 rfl rfl e183 dX9_cuttings_183 ?_
          obtain rfl := Option.some.inj h
          exact hE H locs 184 ls _ hP hD hS rfl dX9_cuttings_184
        replace h := if_f h c36
        refine lv_iconst (v := 0) hx hb dX9_cuttings_39 (by decide) ?_
        refine lv_istore_n (lv' := [(3, .int 0), (2, .int l2_34), (1, .int l1_34), (0, .ref (a0 0))]) hx hb dX9_cuttings_40 rfl hl (by decide) rfl (fun ls hl => ?_)
        have hL41 : ∀ (n41 : Nat) (m0_41 : Mod) (l3_41 : Int32) (l2_41 : Int32) (l1_41 : Int32) (H : Heap) (locs : List Loc) (ls : Array Slot), G_X9_cuttings_L41 (G_X9_cuttings_L34 n34) n41 m0_41 l3_41 l2_41 l1_41 = some res → va_P (dC, dI) vwCl (wMod a0 cy m0_41) H → va_D A (wMod a0 cy m0_41) → va_S A s.heap H locs → lv_has ls 8 [(3, .int l3_41), (2, .int l2_41), (1, .int l1_41), (0, .ref (a0 0))] → W p l e rm_X9_cuttings s mm args below meth cd H locs 0 0 Q (F0 mm 41 ls []) := by
          intro n41
          induction n41 with
          | zero => intro m0_41 l3_41 l2_41 l1_41 H locs ls h; exact absurd h (by simp [G_X9_cuttings_L41])
          | succ n41 ih41 =>
            intro m0_41 l3_41 l2_41 l1_41 H locs ls h hP hD hS hl
            rw [G_X9_cuttings_L41] at h
            refine lv_iload_n hx hb dX9_cuttings_41 rfl (lv_at hl 0 rfl) ?_
            refine lv_iload_n hx hb dX9_cuttings_42 rfl (lv_at hl 1 rfl) ?_
            refine lv_iadd hx hb dX9_cuttings_43 ?_
            refine lv_iload_n hx hb dX9_cuttings_44 rfl (lv_at hl 2 rfl) ?_
            refine lv_icmp_ge (tgt := 170) hx hb dX9_cuttings_45 (by decide) (fun c45 => ?_) (fun c45 => ?_)
            · replace h := if_t h c45
              refine lv_iinc (v := l2_41 + 1) (lv' := [(2, .int (l2_41 + 1)), (3, .int l3_41), (1, .int l1_41), (0, .ref (a0 0))]) hx hb dX9_cuttings_170 hl (k := 1) rfl rfl (by decide) rfl (fun ls hl => ?_)
              refine lv_goto (tgt := 34) hx hb dX9_cuttings_173 (by decide) ?_
              exact ih34 m0_41 (l2_41 + 1) l1_41 H locs ls h hP hD hS (lv_sub hl [0, 2, 3] rfl)
            replace h := if_f h c45
            refine lv_iload_n hx hb dX9_cuttings_48 rfl (lv_at hl 0 rfl) ?_
            refine lv_iload_n hx hb dX9_cuttings_49 rfl (lv_at hl 1 rfl) ?_
            refine lv_iadd hx hb dX9_cuttings_50 ?_
            refine lv_istore (lv' := [(4, .int (l3_41 + l2_41)), (3, .int l3_41), (2, .int l2_41), (1, .int l1_41), (0, .ref (a0 0))]) hx hb dX9_cuttings_51 hl (by decide) rfl (fun ls hl => ?_)
            refine lv_iload_n hx hb dX9_cuttings_53 rfl (lv_at hl 2 rfl) ?_
            refine lv_iconst (v := 1) hx hb dX9_cuttings_54 (by decide) ?_
            obtain ⟨b55, e55, h⟩ := bnd h
            have hr82 : ∀ (H : Heap) (locs : List Loc) (ls : Array Slot), va_P (dC, dI) vwCl (wMod a0 cy b55.2) H → va_D A (wMod a0 cy b55.2) → va_S A s.heap H locs → lv_has ls 8 [(4, .int (l3_41 + l2_41)), (3, .int l3_41), (2, .int l2_41), (1, .int l1_41), (0, .ref (a0 0))] → W p l e rm_X9_cuttings s mm args below meth cd H locs 0 0 Q (F0 mm 82 ls [.int b55.1]) := by
              intro H locs ls hP hD hS hl
              refine lv_istore (lv' := [(5, .int b55.1), (4, .int (l3_41 + l2_41)), (3, .int l3_41), (2, .int l2_41), (1, .int l1_41), (0, .ref (a0 0))]) hx hb dX9_cuttings_82 hl (by decide) rfl (fun ls hl => ?_)
              refine lv_iload_n hx hb dX9_cuttings_84 rfl (lv_at hl 3 rfl) ?_
              refine lv_iconst (v := 1) hx hb dX9_cuttings_85 (by decide) ?_
              obtain ⟨b86, e86, h⟩ := bnd h
              have hr94 : ∀ (H : Heap) (locs : List Loc) (ls : Array Slot), va_P (dC, dI) vwCl (wMod a0 cy b55.2) H → va_D A (wMod a0 cy b55.2) → va_S A s.heap H locs → lv_has ls 8 [(5, .int b55.1), (4, .int (l3_41 + l2_41)), (3, .int l3_41), (2, .int l2_41), (1, .int l1_41), (0, .ref (a0 0))] → W p l e rm_X9_cuttings s mm args below meth cd H locs 0 0 Q (F0 mm 94 ls [.int b86]) := by
                intro H locs ls hP hD hS hl
                refine lv_istore (lv' := [(6, .int b86), (5, .int b55.1), (4, .int (l3_41 + l2_41)), (3, .int l3_41), (2, .int l2_41), (1, .int l1_41), (0, .ref (a0 0))]) hx hb dX9_cuttings_94 hl (by decide) rfl (fun ls hl => ?_)
                refine lv_iload_n hx hb dX9_cuttings_96 rfl (lv_at hl 3 rfl) ?_
                refine lv_iconst (v := 1) hx hb dX9_cuttings_97 (by decide) ?_
                refine lv_iadd hx hb dX9_cuttings_98 ?_
                refine lv_istore (lv' := [(7, .int (l3_41 + 1)), (6, .int b86), (5, .int b55.1), (4, .int (l3_41 + l2_41)), (3, .int l3_41), (2, .int l2_41), (1, .int l1_41), (0, .ref (a0 0))]) hx hb dX9_cuttings_99 hl (by decide) rfl (fun ls hl => ?_)
                have hL101 : ∀ (n101 : Nat) (m0_101 : Mod) (l7_101 : Int32) (l6_101 : Int32) (l5_101 : Int32) (l4_101 : Int32) (l3_101 : Int32) (l2_101 : Int32) (l1_101 : Int32) (H : Heap) (locs : List Loc) (ls : Array Slot), G_X9_cuttings_L101 (G_X9_cuttings_L41 (G_X9_cuttings_L34 n34) n41) n101 m0_101 l7_101 l6_101 l5_101 l4_101 l3_101 l2_101 l1_101 = some res → va_P (dC, dI) vwCl (wMod a0 cy m0_101) H → va_D A (wMod a0 cy m0_101) → va_S A s.heap H locs → lv_has ls 8 [(7, .int l7_101), (6, .int l6_101), (5, .int l5_101), (4, .int l4_101), (3, .int l3_101), (2, .int l2_101), (1, .int l1_101), (0, .ref (a0 0))] → W p l e rm_X9_cuttings s mm args below meth cd H locs 0 0 Q (F0 mm 101 ls []) := by
                  intro n101
                  induction n101 with
                  | zero => intro m0_101 l7_101 l6_101 l5_101 l4_101 l3_101 l2_101 l1_101 H locs ls h; exact absurd h (by simp [G_X9_cuttings_L101])
                  | succ n101 ih101 =>
                    intro m0_101 l7_101 l6_101 l5_101 l4_101 l3_101 l2_101 l1_101 H locs ls h hP hD hS hl
                    rw [G_X9_cuttings_L101] at h
                    refine lv_iload hx hb dX9_cuttings_101 (lv_at hl 0 rfl) ?_
                    refine lv_iload hx hb dX9_cuttings_103 (lv_at hl 3 rfl) ?_
                    have hj150 : ∀ (m0_150 : Mod) (l6_150 : Int32) (l4_150 : Int32) (l3_150 : Int32) (l2_150 : Int32) (l1_150 : Int32) (H : Heap) (locs : List Loc) (ls : Array Slot), G_X9_cuttings_j150 (G_X9_cuttings_L41 (G_X9_cuttings_L34 n34) n41) m0_150 l6_150 l4_150 l3_150 l2_150 l1_150 = some res → va_P (dC, dI) vwCl (wMod a0 cy m0_150) H → va_D A (wMod a0 cy m0_150) → va_S A s.heap H locs → lv_has ls 8 [(6, .int l6_150), (4, .int l4_150), (3, .int l3_150), (2, .int l2_150), (1, .int l1_150), (0, .ref (a0 0))] → W p l e rm_X9_cuttings s mm args below meth cd H locs 0 0 Q (F0 mm 150 ls []) := by
                      intro m0_150 l6_150 l4_150 l3_150 l2_150 l1_150 H locs ls h hP hD hS hl
                      unfold G_X9_cuttings_j150 at h
                      refine lv_aload_n hx hb dX9_cuttings_150 rfl (lv_at hl 5 rfl) ?_
                      refine va_get (D := (dC, dI)) (ci := 4) (v := .ref (a0 14)) (C := RX9) (T := TX9) (N := 18) hx hb htg inX9 hown hK hP 0 rfl rfl 17 (by decide) (htg _ gw867) (fun _ h9 => h9) rfl dX9_cuttings_151 ?_
                      refine lv_bipush (v := 10) hx hb dX9_cuttings_154 (by decide) ?_
                      refine lv_iload_n hx hb dX9_cuttings_156 rfl (lv_at hl 2 rfl) ?_
                      refine lv_imul hx hb dX9_cuttings_157 ?_
                      refine lv_iload hx hb dX9_cuttings_158 (lv_at hl 1 rfl) ?_
                      refine lv_iadd hx hb dX9_cuttings_160 ?_
                      refine lv_iload hx hb dX9_cuttings_161 (lv_at hl 0 rfl) ?_
                      obtain ⟨g163, e163, h⟩ := bnd h
                      refine x_iast (g := g163) hx hb hK hP hD hS 14 0 rfl rfl e163 dX9_cuttings_163 (fun H locs hP hD hS => ?_)
                      have hP : va_P (dC, dI) vwCl (wMod a0 cy (ms_cuts m0_150 g163)) H := hP
                      have hD : va_D A (wMod a0 cy (ms_cuts m0_150 g163)) := hD
                      refine lv_iinc (v := l3_150 + 1) (lv' := [(3, .int (l3_150 + 1)), (6, .int l6_150), (4, .int l4_150), (2, .int l2_150), (1, .int l1_150), (0, .ref (a0 0))]) hx hb dX9_cuttings_164 hl (k := 2) rfl rfl (by decide) rfl (fun ls hl => ?_)
                      refine lv_goto (tgt := 41) hx hb dX9_cuttings_167 (by decide) ?_
                      exact ih41 (ms_cuts m0_150 g163) (l3_150 + 1) l2_150 l1_150 H locs ls h hP hD hS (lv_sub hl [0, 3, 4, 5] rfl)
                    refine lv_icmp_ge (tgt := 150) hx hb dX9_cuttings_105 (by decide) (fun c105 => ?_) (fun c105 => ?_)
                    · replace h := if_t h c105
                      exact hj150 m0_101 l6_101 l4_101 l3_101 l2_101 l1_101 H locs ls h hP hD hS (lv_sub hl [1, 3, 4, 5, 6, 7] rfl)
                    replace h := if_f h c105
                    refine lv_iload hx hb dX9_cuttings_108 (lv_at hl 2 rfl) ?_
                    refine lv_if_eq (tgt := 150) hx hb dX9_cuttings_110 (by decide) (fun c110 => ?_) (fun c110 => ?_)
                    · replace h := if_t h c110
                      exact hj150 m0_101 l6_101 l4_101 l3_101 l2_101 l1_101 H locs ls h hP hD hS (lv_sub hl [1, 3, 4, 5, 6, 7] rfl)
                    replace h := if_f h c110
                    refine lv_iload hx hb dX9_cuttings_113 (lv_at hl 1 rfl) ?_
                    refine lv_aload_n hx hb dX9_cuttings_115 rfl (lv_at hl 7 rfl) ?_
                    refine va_get (D := (dC, dI)) (ci := 4) (v := .ref (a0 14)) (C := RX9) (T := TX9) (N := 18) hx hb htg inX9 hown hK hP 0 rfl rfl 17 (by decide) (htg _ gw867) (fun _ h9 => h9) rfl dX9_cuttings_116 ?_
                    refine lv_bipush (v := 10) hx hb dX9_cuttings_119 (by decide) ?_
                    refine lv_iload_n hx hb dX9_cuttings_121 rfl (lv_at hl 4 rfl) ?_
                    refine lv_imul hx hb dX9_cuttings_122 ?_
                    refine lv_iload hx hb dX9_cuttings_123 (lv_at hl 0 rfl) ?_
                    refine lv_iadd hx hb dX9_cuttings_125 ?_
                    obtain ⟨v126, e126, h⟩ := bnd h
                    refine x_iald (v := v126) hx hb hK hP 14 0 rfl rfl e126 dX9_cuttings_126 ?_
                    refine lv_aload_n hx hb dX9_cuttings_127 rfl (lv_at hl 7 rfl) ?_
                    refine va_get (D := (dC, dI)) (ci := 4) (v := .ref (a0 14)) (C := RX9) (T := TX9) (N := 18) hx hb htg inX9 hown hK hP 0 rfl rfl 17 (by decide) (htg _ gw867) (fun _ h9 => h9) rfl dX9_cuttings_128 ?_
                    refine lv_bipush (v := 10) hx hb dX9_cuttings_131 (by decide) ?_
                    refine lv_iload hx hb dX9_cuttings_133 (lv_at hl 0 rfl) ?_
                    refine lv_imul hx hb dX9_cuttings_135 ?_
                    refine lv_iload hx hb dX9_cuttings_136 (lv_at hl 3 rfl) ?_
                    refine lv_iadd hx hb dX9_cuttings_138 ?_
                    obtain ⟨v139, e139, h⟩ := bnd h
                    refine x_iald (v := v139) hx hb hK hP 14 0 rfl rfl e139 dX9_cuttings_139 ?_
                    refine lv_imul hx hb dX9_cuttings_140 ?_
                    refine lv_iadd hx hb dX9_cuttings_141 ?_
                    refine lv_istore (lv' := [(6, .int (l6_101 + (v126 * v139))), (7, .int l7_101), (5, .int l5_101), (4, .int l4_101), (3, .int l3_101), (2, .int l2_101), (1, .int l1_101), (0, .ref (a0 0))]) hx hb dX9_cuttings_142 hl (by decide) rfl (fun ls hl => ?_)
                    refine lv_iinc (v := l7_101 + 1) (lv' := [(7, .int (l7_101 + 1)), (6, .int (l6_101 + (v126 * v139))), (5, .int l5_101), (4, .int l4_101), (3, .int l3_101), (2, .int l2_101), (1, .int l1_101), (0, .ref (a0 0))]) hx hb dX9_cuttings_144 hl (k := 1) rfl rfl (by decide) rfl (fun ls hl => ?_)
                    refine lv_goto (tgt := 101) hx hb dX9_cuttings_147 (by decide) ?_
                    exact ih101 m0_101 (l7_101 + 1) (l6_101 + (v126 * v139)) l5_101 l4_101 l3_101 l2_101 l1_101 H locs ls h hP hD hS (lv_sub hl [0, 1, 2, 3, 4, 5, 6, 7] rfl)
                exact hL101 FU b55.2 (l3_41 + 1) b86 b55.1 (l3_41 + l2_41) l3_41 l2_41 l1_41 H locs ls h hP hD hS (lv_sub hl [0, 1, 2, 3, 4, 5, 6, 7] rfl)
              have h := e86
              clear e86
              refine lv_icmp_ne (tgt := 93) hx hb dX9_cuttings_86 (by decide) (fun c86 => ?_) (fun c86 => ?_)
              · replace h := if_f h c86
                refine lv_iconst (v := 0) hx hb dX9_cuttings_93 (by decide) ?_
                obtain rfl := Option.some.inj h
                exact hr94 H locs ls hP hD hS hl
              replace h := if_t h c86
              refine lv_iconst (v := 1) hx hb dX9_cuttings_89 (by decide) ?_
              refine lv_goto (tgt := 94) hx hb dX9_cuttings_90 (by decide) ?_
              obtain rfl := Option.some.inj h
              exact hr94 H locs ls hP hD hS hl
            have h := e55
            clear e55
            refine lv_icmp_eq (tgt := 77) hx hb dX9_cuttings_55 (by decide) (fun c55 => ?_) (fun c55 => ?_)
            · replace h := if_t h c55
              refine lv_iconst (v := 1) hx hb dX9_cuttings_77 (by decide) ?_
              refine lv_goto (tgt := 82) hx hb dX9_cuttings_78 (by decide) ?_
              obtain rfl := Option.some.inj h
              exact hr82 H locs ls hP hD hS hl
            replace h := if_f h c55
            refine lv_iload_n hx hb dX9_cuttings_58 rfl (lv_at hl 2 rfl) ?_
            refine lv_iload_n hx hb dX9_cuttings_59 rfl (lv_at hl 3 rfl) ?_
            refine lv_iconst (v := 1) hx hb dX9_cuttings_60 (by decide) ?_
            refine lv_isub hx hb dX9_cuttings_61 ?_
            refine lv_icmp_eq (tgt := 77) hx hb dX9_cuttings_62 (by decide) (fun c62 => ?_) (fun c62 => ?_)
            · replace h := if_t h c62
              refine lv_iconst (v := 1) hx hb dX9_cuttings_77 (by decide) ?_
              refine lv_goto (tgt := 82) hx hb dX9_cuttings_78 (by decide) ?_
              obtain rfl := Option.some.inj h
              exact hr82 H locs ls hP hD hS hl
            replace h := if_f h c62
            refine lv_aload_n hx hb dX9_cuttings_65 rfl (lv_at hl 4 rfl) ?_
            refine lv_iconst (v := 0) hx hb dX9_cuttings_66 (by decide) ?_
            refine lv_iload_n hx hb dX9_cuttings_67 rfl (lv_at hl 1 rfl) ?_
            refine lv_iconst (v := 0) hx hb dX9_cuttings_68 (by decide) ?_
            refine lv_iload hx hb dX9_cuttings_69 (lv_at hl 0 rfl) ?_
            obtain ⟨v71, e71, h⟩ := bnd h
            refine cV (av := [.int 0, .int l3_41, .int 0, .int (l3_41 + l2_41)]) (rest := []) (st1 := [.int v71.1]) (k1 := 0) (k2 := 0) (ci := 4) (q0 := 0) hx hb hml hown htg hN hK (c_X9_areSeeing l dC dI cy a0 m0_41 0 l3_41 0 (l3_41 + l2_41) v71 e71) (g_V gw1062 gw1064 gw36 gw63 gw1065) hdV_X9_areSeeing rfl ⟨⟨Nat.le_of_ble_eq_true rfl, Nat.le_of_ble_eq_true rfl⟩, Nat.le_of_ble_eq_true rfl, Nat.le_of_ble_eq_true rfl⟩ hP hD hS hA ⟨rfl, rfl⟩ rfl [0, 1, 2, 3, 4, 5, 6, 7, 8, 9, 10, 11, 12, 13, 14] [] rfl rfl rfl (by decide) (by decide) hl.1 rfl (Nat.le_of_ble_eq_true rfl) rfl rfl rfl dX9_cuttings_71 (fun H locs hP hD hS => ?_)
            have hP : va_P (dC, dI) vwCl (wMod a0 cy v71.2) H := hP
            have hD : va_D A (wMod a0 cy v71.2) := hD
            refine lv_if_eq (tgt := 81) hx hb dX9_cuttings_74 (by decide) (fun c74 => ?_) (fun c74 => ?_)
            · replace h := if_t h c74
              refine lv_iconst (v := 0) hx hb dX9_cuttings_81 (by decide) ?_
              obtain rfl := Option.some.inj h
              exact hr82 H locs ls hP hD hS hl
            replace h := if_f h c74
            refine lv_iconst (v := 1) hx hb dX9_cuttings_77 (by decide) ?_
            refine lv_goto (tgt := 82) hx hb dX9_cuttings_78 (by decide) ?_
            obtain rfl := Option.some.inj h
            exact hr82 H locs ls hP hD hS hl
        exact hL41 FU m0_34 0 l2_34 l1_34 H locs ls h hP hD hS (lv_sub hl [0, 1, 2, 3] rfl)
    exact hL34 FU (ms_thrown m0 0) 1 v28 H locs ls h hP hD hS (lv_sub hl [0, 1, 2] rfl)
  replace h := if_f h c20
  refine lv_bipush (v := (-9)) hx hb dX9_cuttings_23 (by decide) ?_
  obtain rfl := Option.some.inj h
  exact hE H locs 25 ls _ hP hD hS rfl dX9_cuttings_25
def G_X9_dropHole_L69 (r40 : Mod → Int32 → Option (Int32 × Mod))  : Nat → Mod → Int32 → Int32 → Option (Int32 × Mod)
  | 0, _, _, _ => none
  | n69 + 1, m0_69, l3_69, l2_69 =>
    if 10 ≤ l3_69 then
      r40 m0_69 (l2_69 + 1)
    else
      (G_X9_x m0_69 (l2_69 + 1) l3_69).bind fun v83 =>
      (G_X9_y m0_69 (l2_69 + 1) l3_69).bind fun v91 =>
      (G_X9_setCorner m0_69 l2_69 l3_69 v83 v91).bind fun v94 =>
      (G_X9_dropHole_L69 r40 n69) v94 (l3_69 + 1) l2_69
def G_X9_dropHole_L40   : Nat → Mod → Int32 → Option (Int32 × Mod)
  | 0, _, _ => none
  | n40 + 1, m0_40, l2_40 =>
    (rd 85 (m_state m0_40) 0).bind fun v48 =>
    if v48 ≤ l2_40 + 1 then
      (rd 85 (m_state m0_40) 0).bind fun v115 =>
      (wr 85 (m_state m0_40) 0 (v115 - 1)).bind fun g118 =>
      (G_X9_remember (ms_state m0_40 g118)).bind fun v120 =>
      (G_X9_area v120).bind fun v124 =>
      some (v124, v120)
    else
      (G_X9_many m0_40 (l2_40 + 1)).bind fun v63 =>
      (wr 85 (m_state m0_40) (1 + l2_40) v63).bind fun g66 =>
      G_X9_dropHole_L69 (G_X9_dropHole_L40 n40) FU (ms_state m0_40 g66) 0 l2_40
def G_X9_dropHole (m0 : Mod) (p1 : Int32) : Option (Int32 × Mod) :=
  (G_X9_isRing m0 p1).bind fun v3 =>
  ((if v3 = 0 then
      some 1
    else
      if p1 = 0 then
        some 2
      else
        some 0) : Option (Int32)).bind fun b6 =>
  if m_thrown (ms_thrown m0 b6) ≤ 0 then
    (G_X9_begin (ms_thrown m0 b6)).bind fun v35 =>
    G_X9_dropHole_L40 FU v35 p1
  else
    some (0, ms_thrown m0 b6)
abbrev rm_X9_dropHole : Room := { frames := 4, cells := 0, slots := 0, locals := 89 }
theorem hdS_X9_dropHole : yX9_dropHole.cls ≠ "java/lang/invoke/MethodHandle" ∧ yX9_dropHole.cls ≠ "java/lang/invoke/VarHandle" ∧ (parseMethodDescriptor yX9_dropHole.desc).map (fun d => d.parameters.length) = some 1 := by decide +kernel
theorem hdV_X9_dropHole : yX9_dropHole.cls = RX9 ∧ yX9_dropHole.cls ≠ "java/lang/invoke/MethodHandle" ∧ yX9_dropHole.cls ≠ "java/lang/invoke/VarHandle" ∧ (parseMethodDescriptor yX9_dropHole.desc).map (fun d => d.parameters.length) = some 1 := ⟨rfl, hdS_X9_dropHole⟩
set_option maxHeartbeats 4000000 in
set_option maxRecDepth 100000 in
theorem c_X9_dropHole (l : Launch) (dC : Nat → ClassId) (dI : Nat → Nat → Nat) (cy : Nat → ClassId) (a0 : Nat → Nat) (m0 : Mod) (p1 : Int32) (res : Int32 × Mod) (h : G_X9_dropHole m0 p1 = some res) : CT l (dC, dI) (TY cy) yX9_dropHole cX9_dropHole 4 (some .int) rm_X9_dropHole [.ref (a0 0), .int p1] (wMod a0 cy m0) (wMod a0 cy res.2) (some (.int res.1)) := by
  refine CT.mk_i (own := RX9) ⟨by decide, rfl⟩ (Nat.le_of_ble_eq_true rfl) ?_
  intro p e s mm args below meth cd A Q hx hb hml hown htg hN hK hA hP hD hS hE ls hl
  have hl : lv_has ls 4 [(0, .ref (a0 0)), (1, .int p1)] := hl
  replace h : _ = some res := h
  unfold G_X9_dropHole at h
  obtain ⟨H, hH⟩ : ∃ H, H = s.heap := ⟨_, rfl⟩
  obtain ⟨locs, hlocs⟩ : ∃ locs : List Loc, locs = [] := ⟨_, rfl⟩
  rw [← hlocs] at hS ⊢
  have hS : va_S A s.heap H locs := by rw [hH]; exact hS
  rw [← hH] at hP ⊢
  refine lv_aload_n hx hb dX9_dropHole_0 rfl (lv_at hl 0 rfl) ?_
  refine lv_aload_n hx hb dX9_dropHole_1 rfl (lv_at hl 0 rfl) ?_
  refine lv_iload_n hx hb dX9_dropHole_2 rfl (lv_at hl 1 rfl) ?_
  obtain ⟨v3, e3, h⟩ := bnd h
  refine cV (av := [.int p1]) (rest := [.ref (a0 0)]) (st1 := [.int v3, .ref (a0 0)]) (k1 := 0) (k2 := 0) (ci := 4) (q0 := 0) hx hb hml hown htg hN hK (c_X9_isRing l dC dI cy a0 m0 p1 v3 e3) (g_V gw1086 gw1088 gw41 gw63 gw1089) hdV_X9_isRing rfl ⟨⟨Nat.le_of_ble_eq_true rfl, Nat.le_of_ble_eq_true rfl⟩, Nat.le_of_ble_eq_true rfl, Nat.le_of_ble_eq_true rfl⟩ hP hD hS hA ⟨rfl, rfl⟩ rfl [0, 1, 2, 3, 4, 5, 6, 7, 8, 9, 10, 11, 12, 13, 14] [] rfl rfl rfl (by decide) (by decide) hl.1 rfl (Nat.le_of_ble_eq_true rfl) rfl rfl rfl dX9_dropHole_3 (fun H locs hP hD hS => ?_)
  have hP : va_P (dC, dI) vwCl (wMod a0 cy m0) H := hP
  have hD : va_D A (wMod a0 cy m0) := hD
  obtain ⟨b6, e6, h⟩ := bnd h
  have hr22 : ∀ (H : Heap) (locs : List Loc) (ls : Array Slot), va_P (dC, dI) vwCl (wMod a0 cy m0) H → va_D A (wMod a0 cy m0) → va_S A s.heap H locs → lv_has ls 4 [(0, .ref (a0 0)), (1, .int p1)] → W p l e rm_X9_dropHole s mm args below meth cd H locs 0 0 Q (F0 mm 22 ls [.int b6, .ref (a0 0)]) := by
    intro H locs ls hP hD hS hl
    refine va_put (D := (dC, dI)) (ci := 4) (v := .int b6) (ty := .int) (C := RX9) (T := TX9) (N := 18) hx hb htg inX9 tyX9 tyX9_ok nmX9 hown hK hP hD hS 0 rfl rfl 0 (by decide) (htg _ gw850) (fun _ h9 => h9) rfl (by decide +kernel) rfl rfl (Nat.le_of_ble_eq_true rfl) dX9_dropHole_22 (fun H locs hP hD hS => ?_)
    have hP : va_P (dC, dI) vwCl (wMod a0 cy (ms_thrown m0 b6)) H := hP
    have hD : va_D A (wMod a0 cy (ms_thrown m0 b6)) := hD
    refine lv_aload_n hx hb dX9_dropHole_25 rfl (lv_at hl 0 rfl) ?_
    refine va_get (D := (dC, dI)) (ci := 4) (v := .int (m_thrown (ms_thrown m0 b6))) (C := RX9) (T := TX9) (N := 18) hx hb htg inX9 hown hK hP 0 rfl rfl 0 (by decide) (htg _ gw850) (fun _ h9 => h9) rfl dX9_dropHole_26 ?_
    refine lv_if_le (tgt := 34) hx hb dX9_dropHole_29 (by decide) (fun c29 => ?_) (fun c29 => ?_)
    · replace h := if_t h c29
      refine lv_aload_n hx hb dX9_dropHole_34 rfl (lv_at hl 0 rfl) ?_
      obtain ⟨v35, e35, h⟩ := bnd h
      refine cV (av := []) (rest := []) (st1 := []) (k1 := 0) (k2 := 0) (ci := 4) (q0 := 0) hx hb hml hown htg hN hK (c_X9_begin l dC dI cy a0 (ms_thrown m0 b6)  v35 e35) (g_V gw1125 gw1127 gw46 gw63 gw1128) hdV_X9_begin rfl ⟨⟨Nat.le_of_ble_eq_true rfl, Nat.le_of_ble_eq_true rfl⟩, Nat.le_of_ble_eq_true rfl, Nat.le_of_ble_eq_true rfl⟩ hP hD hS hA ⟨rfl, rfl⟩ rfl [0, 1, 2, 3, 4, 5, 6, 7, 8, 9, 10, 11, 12, 13, 14] [] rfl rfl rfl (by decide) (by decide) hl.1 rfl (Nat.le_of_ble_eq_true rfl) rfl rfl rfl dX9_dropHole_35 (fun H locs hP hD hS => ?_)
      have hP : va_P (dC, dI) vwCl (wMod a0 cy v35) H := hP
      have hD : va_D A (wMod a0 cy v35) := hD
      refine lv_iload_n hx hb dX9_dropHole_38 rfl (lv_at hl 1 rfl) ?_
      refine lv_istore_n (lv' := [(2, .int p1), (0, .ref (a0 0)), (1, .int p1)]) hx hb dX9_dropHole_39 rfl hl (by decide) rfl (fun ls hl => ?_)
      have hL40 : ∀ (n40 : Nat) (m0_40 : Mod) (l2_40 : Int32) (H : Heap) (locs : List Loc) (ls : Array Slot), G_X9_dropHole_L40 n40 m0_40 l2_40 = some res → va_P (dC, dI) vwCl (wMod a0 cy m0_40) H → va_D A (wMod a0 cy m0_40) → va_S A s.heap H locs → lv_has ls 4 [(2, .int l2_40), (0, .ref (a0 0))] → W p l e rm_X9_dropHole s mm args below meth cd H locs 0 0 Q (F0 mm 40 ls []) := by
        intro n40
        induction n40 with
        | zero => intro m0_40 l2_40 H locs ls h; exact absurd h (by simp [G_X9_dropHole_L40])
        | succ n40 ih40 =>
          intro m0_40 l2_40 H locs ls h hP hD hS hl
          rw [G_X9_dropHole_L40] at h
          refine lv_iload_n hx hb dX9_dropHole_40 rfl (lv_at hl 0 rfl) ?_
          refine lv_iconst (v := 1) hx hb dX9_dropHole_41 (by decide) ?_
          refine lv_iadd hx hb dX9_dropHole_42 ?_
          refine lv_aload_n hx hb dX9_dropHole_43 rfl (lv_at hl 1 rfl) ?_
          refine va_get (D := (dC, dI)) (ci := 4) (v := .ref (a0 1)) (C := RX9) (T := TX9) (N := 18) hx hb htg inX9 hown hK hP 0 rfl rfl 1 (by decide) (htg _ gw851) (fun _ h9 => h9) rfl dX9_dropHole_44 ?_
          refine lv_iconst (v := 0) hx hb dX9_dropHole_47 (by decide) ?_
          obtain ⟨v48, e48, h⟩ := bnd h
          refine x_iald (v := v48) hx hb hK hP 1 0 rfl rfl e48 dX9_dropHole_48 ?_
          refine lv_icmp_ge (tgt := 109) hx hb dX9_dropHole_49 (by decide) (fun c49 => ?_) (fun c49 => ?_)
          · replace h := if_t h c49
            refine lv_aload_n hx hb dX9_dropHole_109 rfl (lv_at hl 1 rfl) ?_
            refine va_get (D := (dC, dI)) (ci := 4) (v := .ref (a0 1)) (C := RX9) (T := TX9) (N := 18) hx hb htg inX9 hown hK hP 0 rfl rfl 1 (by decide) (htg _ gw851) (fun _ h9 => h9) rfl dX9_dropHole_110 ?_
            refine lv_iconst (v := 0) hx hb dX9_dropHole_113 (by decide) ?_
            refine lv_dup2_11 hx hb dX9_dropHole_114 rfl rfl ?_
            obtain ⟨v115, e115, h⟩ := bnd h
            refine x_iald (v := v115) hx hb hK hP 1 0 rfl rfl e115 dX9_dropHole_115 ?_
            refine lv_iconst (v := 1) hx hb dX9_dropHole_116 (by decide) ?_
            refine lv_isub hx hb dX9_dropHole_117 ?_
            obtain ⟨g118, e118, h⟩ := bnd h
            refine x_iast (g := g118) hx hb hK hP hD hS 1 0 rfl rfl e118 dX9_dropHole_118 (fun H locs hP hD hS => ?_)
            have hP : va_P (dC, dI) vwCl (wMod a0 cy (ms_state m0_40 g118)) H := hP
            have hD : va_D A (wMod a0 cy (ms_state m0_40 g118)) := hD
            refine lv_aload_n hx hb dX9_dropHole_119 rfl (lv_at hl 1 rfl) ?_
            obtain ⟨v120, e120, h⟩ := bnd h
            refine cV (av := []) (rest := []) (st1 := []) (k1 := 0) (k2 := 0) (ci := 4) (q0 := 0) hx hb hml hown htg hN hK (c_X9_remember l dC dI cy a0 (ms_state m0_40 g118)  v120 e120) (g_V gw1133 gw1135 gw48 gw63 gw1136) hdV_X9_remember rfl ⟨⟨Nat.le_of_ble_eq_true rfl, Nat.le_of_ble_eq_true rfl⟩, Nat.le_of_ble_eq_true rfl, Nat.le_of_ble_eq_true rfl⟩ hP hD hS hA ⟨rfl, rfl⟩ rfl [0, 1, 2, 3, 4, 5, 6, 7, 8, 9, 10, 11, 12, 13, 14] [] rfl rfl rfl (by decide) (by decide) hl.1 rfl (Nat.le_of_ble_eq_true rfl) rfl rfl rfl dX9_dropHole_120 (fun H locs hP hD hS => ?_)
            have hP : va_P (dC, dI) vwCl (wMod a0 cy v120) H := hP
            have hD : va_D A (wMod a0 cy v120) := hD
            refine lv_aload_n hx hb dX9_dropHole_123 rfl (lv_at hl 1 rfl) ?_
            obtain ⟨v124, e124, h⟩ := bnd h
            refine cV (av := []) (rest := []) (st1 := [.int v124]) (k1 := 0) (k2 := 0) (ci := 4) (q0 := 0) hx hb hml hown htg hN hK (c_X9_area l dC dI cy a0 v120  v124 e124) (g_V gw1004 gw1006 gw23 gw63 gw1007) hdV_X9_area rfl ⟨⟨Nat.le_of_ble_eq_true rfl, Nat.le_of_ble_eq_true rfl⟩, Nat.le_of_ble_eq_true rfl, Nat.le_of_ble_eq_true rfl⟩ hP hD hS hA ⟨rfl, rfl⟩ rfl [0, 1, 2, 3, 4, 5, 6, 7, 8, 9, 10, 11, 12, 13, 14] [] rfl rfl rfl (by decide) (by decide) hl.1 rfl (Nat.le_of_ble_eq_true rfl) rfl rfl rfl dX9_dropHole_124 (fun H locs hP hD hS => ?_)
            have hP : va_P (dC, dI) vwCl (wMod a0 cy v120) H := hP
            have hD : va_D A (wMod a0 cy v120) := hD
            obtain rfl := Option.some.inj h
            exact hE H locs 127 ls _ hP hD hS rfl dX9_dropHole_127
          replace h := if_f h c49
          refine lv_aload_n hx hb dX9_dropHole_52 rfl (lv_at hl 1 rfl) ?_
          refine va_get (D := (dC, dI)) (ci := 4) (v := .ref (a0 1)) (C := RX9) (T := TX9) (N := 18) hx hb htg inX9 hown hK hP 0 rfl rfl 1 (by decide) (htg _ gw851) (fun _ h9 => h9) rfl dX9_dropHole_53 ?_
          refine lv_iconst (v := 1) hx hb dX9_dropHole_56 (by decide) ?_
          refine lv_iload_n hx hb dX9_dropHole_57 rfl (lv_at hl 0 rfl) ?_
          refine lv_iadd hx hb dX9_dropHole_58 ?_
          refine lv_aload_n hx hb dX9_dropHole_59 rfl (lv_at hl 1 rfl) ?_
          refine lv_iload_n hx hb dX9_dropHole_60 rfl (lv_at hl 0 rfl) ?_
          refine lv_iconst (v := 1) hx hb dX9_dropHole_61 (by decide) ?_
          refine lv_iadd hx hb dX9_dropHole_62 ?_
          obtain ⟨v63, e63, h⟩ := bnd h
          refine cV (av := [.int (l2_40 + 1)]) (rest := [.int (1 + l2_40), .ref (a0 1)]) (st1 := [.int v63, .int (1 + l2_40), .ref (a0 1)]) (k1 := 0) (k2 := 0) (ci := 4) (q0 := 0) hx hb hml hown htg hN hK (c_X9_many l dC dI cy a0 m0_40 (l2_40 + 1) v63 e63) (g_V gw935 gw937 gw10 gw63 gw938) hdV_X9_many rfl ⟨⟨Nat.le_of_ble_eq_true rfl, Nat.le_of_ble_eq_true rfl⟩, Nat.le_of_ble_eq_true rfl, Nat.le_of_ble_eq_true rfl⟩ hP hD hS hA ⟨rfl, rfl⟩ rfl [0, 1, 2, 3, 4, 5, 6, 7, 8, 9, 10, 11, 12, 13, 14] [] rfl rfl rfl (by decide) (by decide) hl.1 rfl (Nat.le_of_ble_eq_true rfl) rfl rfl rfl dX9_dropHole_63 (fun H locs hP hD hS => ?_)
          have hP : va_P (dC, dI) vwCl (wMod a0 cy m0_40) H := hP
          have hD : va_D A (wMod a0 cy m0_40) := hD
          obtain ⟨g66, e66, h⟩ := bnd h
          refine x_iast (g := g66) hx hb hK hP hD hS 1 0 rfl rfl e66 dX9_dropHole_66 (fun H locs hP hD hS => ?_)
          have hP : va_P (dC, dI) vwCl (wMod a0 cy (ms_state m0_40 g66)) H := hP
          have hD : va_D A (wMod a0 cy (ms_state m0_40 g66)) := hD
          refine lv_iconst (v := 0) hx hb dX9_dropHole_67 (by decide) ?_
          refine lv_istore_n (lv' := [(3, .int 0), (2, .int l2_40), (0, .ref (a0 0))]) hx hb dX9_dropHole_68 rfl hl (by decide) rfl (fun ls hl => ?_)
          have hL69 : ∀ (n69 : Nat) (m0_69 : Mod) (l3_69 : Int32) (l2_69 : Int32) (H : Heap) (locs : List Loc) (ls : Array Slot), G_X9_dropHole_L69 (G_X9_dropHole_L40 n40) n69 m0_69 l3_69 l2_69 = some res → va_P (dC, dI) vwCl (wMod a0 cy m0_69) H → va_D A (wMod a0 cy m0_69) → va_S A s.heap H locs → lv_has ls 4 [(3, .int l3_69), (2, .int l2_69), (0, .ref (a0 0))] → W p l e rm_X9_dropHole s mm args below meth cd H locs 0 0 Q (F0 mm 69 ls []) := by
            intro n69
            induction n69 with
            | zero => intro m0_69 l3_69 l2_69 H locs ls h; exact absurd h (by simp [G_X9_dropHole_L69])
            | succ n69 ih69 =>
              intro m0_69 l3_69 l2_69 H locs ls h hP hD hS hl
              rw [G_X9_dropHole_L69] at h
              refine lv_iload_n hx hb dX9_dropHole_69 rfl (lv_at hl 0 rfl) ?_
              refine lv_bipush (v := 10) hx hb dX9_dropHole_70 (by decide) ?_
              refine lv_icmp_ge (tgt := 103) hx hb dX9_dropHole_72 (by decide) (fun c72 => ?_) (fun c72 => ?_)
              · replace h := if_t h c72
                refine lv_iinc (v := l2_69 + 1) (lv' := [(2, .int (l2_69 + 1)), (3, .int l3_69), (0, .ref (a0 0))]) hx hb dX9_dropHole_103 hl (k := 1) rfl rfl (by decide) rfl (fun ls hl => ?_)
                refine lv_goto (tgt := 40) hx hb dX9_dropHole_106 (by decide) ?_
                exact ih40 m0_69 (l2_69 + 1) H locs ls h hP hD hS (lv_sub hl [0, 2] rfl)
              replace h := if_f h c72
              refine lv_aload_n hx hb dX9_dropHole_75 rfl (lv_at hl 2 rfl) ?_
              refine lv_iload_n hx hb dX9_dropHole_76 rfl (lv_at hl 1 rfl) ?_
              refine lv_iload_n hx hb dX9_dropHole_77 rfl (lv_at hl 0 rfl) ?_
              refine lv_aload_n hx hb dX9_dropHole_78 rfl (lv_at hl 2 rfl) ?_
              refine lv_iload_n hx hb dX9_dropHole_79 rfl (lv_at hl 1 rfl) ?_
              refine lv_iconst (v := 1) hx hb dX9_dropHole_80 (by decide) ?_
              refine lv_iadd hx hb dX9_dropHole_81 ?_
              refine lv_iload_n hx hb dX9_dropHole_82 rfl (lv_at hl 0 rfl) ?_
              obtain ⟨v83, e83, h⟩ := bnd h
              refine cV (av := [.int (l2_69 + 1), .int l3_69]) (rest := [.int l3_69, .int l2_69, .ref (a0 0)]) (st1 := [.int v83, .int l3_69, .int l2_69, .ref (a0 0)]) (k1 := 0) (k2 := 0) (ci := 4) (q0 := 0) hx hb hml hown htg hN hK (c_X9_x l dC dI cy a0 m0_69 (l2_69 + 1) l3_69 v83 e83) (g_V gw947 gw949 gw13 gw63 gw950) hdV_X9_x rfl ⟨⟨Nat.le_of_ble_eq_true rfl, Nat.le_of_ble_eq_true rfl⟩, Nat.le_of_ble_eq_true rfl, Nat.le_of_ble_eq_true rfl⟩ hP hD hS hA ⟨rfl, rfl⟩ rfl [0, 1, 2, 3, 4, 5, 6, 7, 8, 9, 10, 11, 12, 13, 14] [] rfl rfl rfl (by decide) (by decide) hl.1 rfl (Nat.le_of_ble_eq_true rfl) rfl rfl rfl dX9_dropHole_83 (fun H locs hP hD hS => ?_)
              have hP : va_P (dC, dI) vwCl (wMod a0 cy m0_69) H := hP
              have hD : va_D A (wMod a0 cy m0_69) := hD
              refine lv_aload_n hx hb dX9_dropHole_86 rfl (lv_at hl 2 rfl) ?_
              refine lv_iload_n hx hb dX9_dropHole_87 rfl (lv_at hl 1 rfl) ?_
              refine lv_iconst (v := 1) hx hb dX9_dropHole_88 (by decide) ?_
              refine lv_iadd hx hb dX9_dropHole_89 ?_
              refine lv_iload_n hx hb dX9_dropHole_90 rfl (lv_at hl 0 rfl) ?_
              obtain ⟨v91, e91, h⟩ := bnd h
              refine cV (av := [.int (l2_69 + 1), .int l3_69]) (rest := [.int v83, .int l3_69, .int l2_69, .ref (a0 0)]) (st1 := [.int v91, .int v83, .int l3_69, .int l2_69, .ref (a0 0)]) (k1 := 0) (k2 := 0) (ci := 4) (q0 := 0) hx hb hml hown htg hN hK (c_X9_y l dC dI cy a0 m0_69 (l2_69 + 1) l3_69 v91 e91) (g_V gw951 gw953 gw14 gw63 gw954) hdV_X9_y rfl ⟨⟨Nat.le_of_ble_eq_true rfl, Nat.le_of_ble_eq_true rfl⟩, Nat.le_of_ble_eq_true rfl, Nat.le_of_ble_eq_true rfl⟩ hP hD hS hA ⟨rfl, rfl⟩ rfl [0, 1, 2, 3, 4, 5, 6, 7, 8, 9, 10, 11, 12, 13, 14] [] rfl rfl rfl (by decide) (by decide) hl.1 rfl (Nat.le_of_ble_eq_true rfl) rfl rfl rfl dX9_dropHole_91 (fun H locs hP hD hS => ?_)
              have hP : va_P (dC, dI) vwCl (wMod a0 cy m0_69) H := hP
              have hD : va_D A (wMod a0 cy m0_69) := hD
              obtain ⟨v94, e94, h⟩ := bnd h
              refine cV (av := [.int l2_69, .int l3_69, .int v83, .int v91]) (rest := []) (st1 := []) (k1 := 0) (k2 := 0) (ci := 4) (q0 := 0) hx hb hml hown htg hN hK (c_X9_setCorner l dC dI cy a0 m0_69 l2_69 l3_69 v83 v91 v94 e94) (g_V gw846 gw848 gw7 gw63 gw849) hdV_X9_setCorner rfl ⟨⟨Nat.le_of_ble_eq_true rfl, Nat.le_of_ble_eq_true rfl⟩, Nat.le_of_ble_eq_true rfl, Nat.le_of_ble_eq_true rfl⟩ hP hD hS hA ⟨rfl, rfl⟩ rfl [0, 1, 2, 3, 4, 5, 6, 7, 8, 9, 10, 11, 12, 13, 14] [] rfl rfl rfl (by decide) (by decide) hl.1 rfl (Nat.le_of_ble_eq_true rfl) rfl rfl rfl dX9_dropHole_94 (fun H locs hP hD hS => ?_)
              have hP : va_P (dC, dI) vwCl (wMod a0 cy v94) H := hP
              have hD : va_D A (wMod a0 cy v94) := hD
              refine lv_iinc (v := l3_69 + 1) (lv' := [(3, .int (l3_69 + 1)), (2, .int l2_69), (0, .ref (a0 0))]) hx hb dX9_dropHole_97 hl (k := 0) rfl rfl (by decide) rfl (fun ls hl => ?_)
              refine lv_goto (tgt := 69) hx hb dX9_dropHole_100 (by decide) ?_
              exact ih69 v94 (l3_69 + 1) l2_69 H locs ls h hP hD hS (lv_sub hl [0, 1, 2] rfl)
          exact hL69 FU (ms_state m0_40 g66) 0 l2_40 H locs ls h hP hD hS (lv_sub hl [0, 1, 2] rfl)
      exact hL40 FU v35 p1 H locs ls h hP hD hS (lv_sub hl [0, 1] rfl)
    replace h := if_f h c29
    refine lv_iconst (v := 0) hx hb dX9_dropHole_32 (by decide) ?_
    obtain rfl := Option.some.inj h
    exact hE H locs 33 ls _ hP hD hS rfl dX9_dropHole_33
  have h := e6
  clear e6
  refine lv_if_ne (tgt := 13) hx hb dX9_dropHole_6 (by decide) (fun c6 => ?_) (fun c6 => ?_)
  · replace h := if_f h c6
    refine lv_iload_n hx hb dX9_dropHole_13 rfl (lv_at hl 1 rfl) ?_
    refine lv_if_ne (tgt := 21) hx hb dX9_dropHole_14 (by decide) (fun c14 => ?_) (fun c14 => ?_)
    · replace h := if_f h c14
      refine lv_iconst (v := 0) hx hb dX9_dropHole_21 (by decide) ?_
      obtain rfl := Option.some.inj h
      exact hr22 H locs ls hP hD hS hl
    replace h := if_t h c14
    refine lv_iconst (v := 2) hx hb dX9_dropHole_17 (by decide) ?_
    refine lv_goto (tgt := 22) hx hb dX9_dropHole_18 (by decide) ?_
    obtain rfl := Option.some.inj h
    exact hr22 H locs ls hP hD hS hl
  replace h := if_t h c6
  refine lv_iconst (v := 1) hx hb dX9_dropHole_9 (by decide) ?_
  refine lv_goto (tgt := 22) hx hb dX9_dropHole_10 (by decide) ?_
  obtain rfl := Option.some.inj h
  exact hr22 H locs ls hP hD hS hl
