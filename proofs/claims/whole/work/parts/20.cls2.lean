def G_X0_shifted (f0 : Fig) (p1 : Int32) (p2 : Int32) : Option (Int32 × Fig) :=
  (G_X8_inRange p1 (-15) 15).bind fun v5 =>
  if v5 = 0 then
    some (0, f0)
  else
    (G_X8_inRange p2 (-15) 15).bind fun v16 =>
    if v16 = 0 then
      some (0, f0)
    else
      (G_X1_shiftAll f0 p1 p2).bind fun v27 =>
      (G_X4_leavesPaper v27).bind fun v31 =>
      if v31 = 0 then
        some (1, v27)
      else
        some (0, v27)
abbrev rm_X0_shifted : Room := { frames := 2, cells := 0, slots := 0, locals := 43 }
theorem hdS_X0_shifted : yX0_shifted.cls ≠ "java/lang/invoke/MethodHandle" ∧ yX0_shifted.cls ≠ "java/lang/invoke/VarHandle" ∧ (parseMethodDescriptor yX0_shifted.desc).map (fun d => d.parameters.length) = some 3 := by decide +kernel
set_option maxHeartbeats 4000000 in
set_option maxRecDepth 100000 in
theorem c_X0_shifted (l : Launch) (dC : Nat → ClassId) (dI : Nat → Nat → Nat) (cy : Nat → ClassId) (a0 : Nat → Nat) (f0 : Fig) (p1 : Int32) (p2 : Int32) (res : Int32 × Fig) (h : G_X0_shifted f0 p1 p2 = some res) : CT l (dC, dI) (TY cy) yX0_shifted cX0_shifted 3 (some .boolean) rm_X0_shifted [.ref (a0 0), .int p1, .int p2] (wFig a0 cy f0) (wFig a0 cy res.2) (some (.int res.1)) := by
  refine CT.mk_z (own := RX0) ⟨by decide, rfl⟩ (Nat.le_of_ble_eq_true rfl) ?_
  intro p e s mm args below meth cd A Q hx hb hml hown htg hN hK hA hP hD hS hE ls hl
  have hl : lv_has ls 3 [(0, .ref (a0 0)), (1, .int p1), (2, .int p2)] := hl
  replace h : _ = some res := h
  unfold G_X0_shifted at h
  obtain ⟨H, hH⟩ : ∃ H, H = s.heap := ⟨_, rfl⟩
  obtain ⟨locs, hlocs⟩ : ∃ locs : List Loc, locs = [] := ⟨_, rfl⟩
  rw [← hlocs] at hS ⊢
  have hS : va_S A s.heap H locs := by rw [hH]; exact hS
  rw [← hH] at hP ⊢
  refine lv_iload_n hx hb dX0_shifted_0 rfl (lv_at hl 1 rfl) ?_
  refine lv_bipush (v := (-15)) hx hb dX0_shifted_1 (by decide) ?_
  refine lv_bipush (v := 15) hx hb dX0_shifted_3 (by decide) ?_
  obtain ⟨v5, e5, h⟩ := bnd h
  refine cSN (av := [.int p1, .int (-15), .int 15]) (rest := []) (st1 := [.int v5]) (k1 := 0) (k2 := 0) (host := "SquaredPaper") hx hb hml hown htg hN hK (c_X8_inRange l dC dI cy   p1 (-15) 15 v5 e5) (by decide +kernel) ⟨gw245, gw59, g_ws (fun _ h => h) gw246⟩ hdS_X8_inRange rfl ⟨⟨Nat.le_of_ble_eq_true rfl, Nat.le_of_ble_eq_true rfl⟩, Nat.le_of_ble_eq_true rfl, Nat.le_of_ble_eq_true rfl⟩ hP hD hS hA [] [0, 1, 2, 3, 4] rfl rfl rfl (by decide) (by decide) hl.1 rfl (Nat.le_of_ble_eq_true rfl) rfl rfl rfl dX0_shifted_5 (fun H locs hP hD hS => ?_)
  obtain ⟨hP, hD⟩ := x_perm (ws' := wFig a0 cy f0) hP hD [0, 1, 2, 3, 4] (by decide) rfl rfl
  refine lv_if_eq (tgt := 22) hx hb dX0_shifted_8 (by decide) (fun c8 => ?_) (fun c8 => ?_)
  · replace h := if_t h c8
    refine lv_iconst (v := 0) hx hb dX0_shifted_22 (by decide) ?_
    obtain rfl := Option.some.inj h
    exact hE H locs 23 ls _ hP hD hS rfl (Or.inl rfl) dX0_shifted_23
  replace h := if_f h c8
  refine lv_iload_n hx hb dX0_shifted_11 rfl (lv_at hl 2 rfl) ?_
  refine lv_bipush (v := (-15)) hx hb dX0_shifted_12 (by decide) ?_
  refine lv_bipush (v := 15) hx hb dX0_shifted_14 (by decide) ?_
  obtain ⟨v16, e16, h⟩ := bnd h
  refine cSN (av := [.int p2, .int (-15), .int 15]) (rest := []) (st1 := [.int v16]) (k1 := 0) (k2 := 0) (host := "SquaredPaper") hx hb hml hown htg hN hK (c_X8_inRange l dC dI cy   p2 (-15) 15 v16 e16) (by decide +kernel) ⟨gw245, gw59, g_ws (fun _ h => h) gw246⟩ hdS_X8_inRange rfl ⟨⟨Nat.le_of_ble_eq_true rfl, Nat.le_of_ble_eq_true rfl⟩, Nat.le_of_ble_eq_true rfl, Nat.le_of_ble_eq_true rfl⟩ hP hD hS hA [] [0, 1, 2, 3, 4] rfl rfl rfl (by decide) (by decide) hl.1 rfl (Nat.le_of_ble_eq_true rfl) rfl rfl rfl dX0_shifted_16 (fun H locs hP hD hS => ?_)
  obtain ⟨hP, hD⟩ := x_perm (ws' := wFig a0 cy f0) hP hD [0, 1, 2, 3, 4] (by decide) rfl rfl
  refine lv_if_ne (tgt := 24) hx hb dX0_shifted_19 (by decide) (fun c19 => ?_) (fun c19 => ?_)
  · replace h := if_f h c19
    refine lv_aload_n hx hb dX0_shifted_24 rfl (lv_at hl 0 rfl) ?_
    refine lv_iload_n hx hb dX0_shifted_25 rfl (lv_at hl 1 rfl) ?_
    refine lv_iload_n hx hb dX0_shifted_26 rfl (lv_at hl 2 rfl) ?_
    obtain ⟨v27, e27, h⟩ := bnd h
    refine cV (av := [.int p1, .int p2]) (rest := []) (st1 := []) (k1 := 0) (k2 := 0) (ci := 0) (q0 := 0) hx hb hml hown htg hN hK (c_X1_shiftAll l dC dI cy a0 f0 p1 p2 v27 e27) (g_V gw737 gw738 gw739 gw60 gw740) hdV_X1_shiftAll rfl ⟨⟨Nat.le_of_ble_eq_true rfl, Nat.le_of_ble_eq_true rfl⟩, Nat.le_of_ble_eq_true rfl, Nat.le_of_ble_eq_true rfl⟩ hP hD hS hA ⟨rfl, rfl⟩ rfl [0, 1, 2, 3, 4] [] rfl rfl rfl (by decide) (by decide) hl.1 rfl (Nat.le_of_ble_eq_true rfl) rfl rfl rfl dX0_shifted_27 (fun H locs hP hD hS => ?_)
    have hP : va_P (dC, dI) vwCl (wFig a0 cy v27) H := hP
    have hD : va_D A (wFig a0 cy v27) := hD
    refine lv_aload_n hx hb dX0_shifted_30 rfl (lv_at hl 0 rfl) ?_
    obtain ⟨v31, e31, h⟩ := bnd h
    refine cS (av := [.ref (a0 0)]) (rest := []) (st1 := [.int v31]) (k1 := 0) (k2 := 0) hx hb hml hown htg hN hK (c_X4_leavesPaper l dC dI cy a0 v27  v31 e31) (g_S gw741 gw238 gw69 gw239) hdS_X4_leavesPaper rfl ⟨⟨Nat.le_of_ble_eq_true rfl, Nat.le_of_ble_eq_true rfl⟩, Nat.le_of_ble_eq_true rfl, Nat.le_of_ble_eq_true rfl⟩ hP hD hS hA [0, 1, 2, 3, 4] [] rfl rfl rfl (by decide) (by decide) hl.1 rfl (Nat.le_of_ble_eq_true rfl) rfl rfl rfl dX0_shifted_31 (fun H locs hP hD hS => ?_)
    have hP : va_P (dC, dI) vwCl (wFig a0 cy v27) H := hP
    have hD : va_D A (wFig a0 cy v27) := hD
    refine lv_if_ne (tgt := 41) hx hb dX0_shifted_34 (by decide) (fun c34 => ?_) (fun c34 => ?_)
    · replace h := if_f h c34
      refine lv_iconst (v := 0) hx hb dX0_shifted_41 (by decide) ?_
      obtain rfl := Option.some.inj h
      exact hE H locs 42 ls _ hP hD hS rfl (Or.inl rfl) dX0_shifted_42
    replace h := if_t h c34
    refine lv_iconst (v := 1) hx hb dX0_shifted_37 (by decide) ?_
    refine lv_goto (tgt := 42) hx hb dX0_shifted_38 (by decide) ?_
    obtain rfl := Option.some.inj h
    exact hE H locs 42 ls _ hP hD hS rfl (Or.inr rfl) dX0_shifted_42
  replace h := if_t h c19
  refine lv_iconst (v := 0) hx hb dX0_shifted_22 (by decide) ?_
  obtain rfl := Option.some.inj h
  exact hE H locs 23 ls _ hP hD hS rfl (Or.inl rfl) dX0_shifted_23
def G_X1_priorOf (f0 : Fig) (p1 : Int32) (p2 : Int32) : Option (Int32) :=
  (G_X1_firstOf f0 p1).bind fun v2 =>
  if p2 ≤ 0 then
    (G_X1_sizeOf f0 p1).bind fun v15 =>
    some ((v2 + v15) - 1)
  else
    some ((v2 + p2) - 1)
abbrev rm_X1_priorOf : Room := { frames := 1, cells := 0, slots := 0, locals := 23 }
theorem hdS_X1_priorOf : yX1_priorOf.cls ≠ "java/lang/invoke/MethodHandle" ∧ yX1_priorOf.cls ≠ "java/lang/invoke/VarHandle" ∧ (parseMethodDescriptor yX1_priorOf.desc).map (fun d => d.parameters.length) = some 2 := by decide +kernel
theorem hdV_X1_priorOf : yX1_priorOf.cls = RX1 ∧ yX1_priorOf.cls ≠ "java/lang/invoke/MethodHandle" ∧ yX1_priorOf.cls ≠ "java/lang/invoke/VarHandle" ∧ (parseMethodDescriptor yX1_priorOf.desc).map (fun d => d.parameters.length) = some 2 := ⟨rfl, hdS_X1_priorOf⟩
set_option maxHeartbeats 4000000 in
set_option maxRecDepth 100000 in
theorem c_X1_priorOf (l : Launch) (dC : Nat → ClassId) (dI : Nat → Nat → Nat) (cy : Nat → ClassId) (a0 : Nat → Nat) (f0 : Fig) (p1 : Int32) (p2 : Int32) (res : Int32) (h : G_X1_priorOf f0 p1 p2 = some res) : CT l (dC, dI) (TY cy) yX1_priorOf cX1_priorOf 3 (some .int) rm_X1_priorOf [.ref (a0 0), .int p1, .int p2] (wFig a0 cy f0) (wFig a0 cy f0) (some (.int res)) := by
  refine CT.mk_i (own := RX1) ⟨by decide, rfl⟩ (Nat.le_of_ble_eq_true rfl) ?_
  intro p e s mm args below meth cd A Q hx hb hml hown htg hN hK hA hP hD hS hE ls hl
  have hl : lv_has ls 3 [(0, .ref (a0 0)), (1, .int p1), (2, .int p2)] := hl
  replace h : _ = some res := h
  unfold G_X1_priorOf at h
  obtain ⟨H, hH⟩ : ∃ H, H = s.heap := ⟨_, rfl⟩
  obtain ⟨locs, hlocs⟩ : ∃ locs : List Loc, locs = [] := ⟨_, rfl⟩
  rw [← hlocs] at hS ⊢
  have hS : va_S A s.heap H locs := by rw [hH]; exact hS
  rw [← hH] at hP ⊢
  refine lv_aload_n hx hb dX1_priorOf_0 rfl (lv_at hl 0 rfl) ?_
  refine lv_iload_n hx hb dX1_priorOf_1 rfl (lv_at hl 1 rfl) ?_
  obtain ⟨v2, e2, h⟩ := bnd h
  refine cV (av := [.int p1]) (rest := []) (st1 := [.int v2]) (k1 := 0) (k2 := 0) (ci := 0) (q0 := 0) hx hb hml hown htg hN hK (c_X1_firstOf l dC dI cy a0 f0 p1 v2 e2) (g_V gw180 gw181 gw182 gw60 gw183) hdV_X1_firstOf rfl ⟨⟨Nat.le_of_ble_eq_true rfl, Nat.le_of_ble_eq_true rfl⟩, Nat.le_of_ble_eq_true rfl, Nat.le_of_ble_eq_true rfl⟩ hP hD hS hA ⟨rfl, rfl⟩ rfl [0, 1, 2, 3, 4] [] rfl rfl rfl (by decide) (by decide) hl.1 rfl (Nat.le_of_ble_eq_true rfl) rfl rfl rfl dX1_priorOf_2 (fun H locs hP hD hS => ?_)
  have hP : va_P (dC, dI) vwCl (wFig a0 cy f0) H := hP
  have hD : va_D A (wFig a0 cy f0) := hD
  refine lv_iload_n hx hb dX1_priorOf_5 rfl (lv_at hl 2 rfl) ?_
  refine lv_if_le (tgt := 13) hx hb dX1_priorOf_6 (by decide) (fun c6 => ?_) (fun c6 => ?_)
  · replace h := if_t h c6
    refine lv_aload_n hx hb dX1_priorOf_13 rfl (lv_at hl 0 rfl) ?_
    refine lv_iload_n hx hb dX1_priorOf_14 rfl (lv_at hl 1 rfl) ?_
    obtain ⟨v15, e15, h⟩ := bnd h
    refine cV (av := [.int p1]) (rest := [.int v2]) (st1 := [.int v15, .int v2]) (k1 := 0) (k2 := 0) (ci := 0) (q0 := 0) hx hb hml hown htg hN hK (c_X1_sizeOf l dC dI cy a0 f0 p1 v15 e15) (g_V gw164 gw165 gw166 gw60 gw167) hdV_X1_sizeOf rfl ⟨⟨Nat.le_of_ble_eq_true rfl, Nat.le_of_ble_eq_true rfl⟩, Nat.le_of_ble_eq_true rfl, Nat.le_of_ble_eq_true rfl⟩ hP hD hS hA ⟨rfl, rfl⟩ rfl [0, 1, 2, 3, 4] [] rfl rfl rfl (by decide) (by decide) hl.1 rfl (Nat.le_of_ble_eq_true rfl) rfl rfl rfl dX1_priorOf_15 (fun H locs hP hD hS => ?_)
    have hP : va_P (dC, dI) vwCl (wFig a0 cy f0) H := hP
    have hD : va_D A (wFig a0 cy f0) := hD
    refine lv_iadd hx hb dX1_priorOf_18 ?_
    refine lv_iconst (v := 1) hx hb dX1_priorOf_19 (by decide) ?_
    refine lv_isub hx hb dX1_priorOf_20 ?_
    obtain rfl := Option.some.inj h
    exact hE H locs 21 ls _ hP hD hS rfl dX1_priorOf_21
  replace h := if_f h c6
  refine lv_iload_n hx hb dX1_priorOf_9 rfl (lv_at hl 2 rfl) ?_
  refine lv_goto (tgt := 18) hx hb dX1_priorOf_10 (by decide) ?_
  refine lv_iadd hx hb dX1_priorOf_18 ?_
  refine lv_iconst (v := 1) hx hb dX1_priorOf_19 (by decide) ?_
  refine lv_isub hx hb dX1_priorOf_20 ?_
  obtain rfl := Option.some.inj h
  exact hE H locs 21 ls _ hP hD hS rfl dX1_priorOf_21
def G_X1_bendAt (f0 : Fig) (p1 : Int32) (p2 : Int32) : Option (Int32) :=
  (G_X1_at f0 p1 p2).bind fun v3 =>
  (G_X1_priorOf f0 p1 p2).bind fun v11 =>
  (G_X1_nextOf f0 v3).bind fun v17 =>
  (G_X1_bend f0 v11 v3 v17).bind fun v20 =>
  some v20
abbrev rm_X1_bendAt : Room := { frames := 2, cells := 0, slots := 0, locals := 45 }
theorem hdS_X1_bendAt : yX1_bendAt.cls ≠ "java/lang/invoke/MethodHandle" ∧ yX1_bendAt.cls ≠ "java/lang/invoke/VarHandle" ∧ (parseMethodDescriptor yX1_bendAt.desc).map (fun d => d.parameters.length) = some 2 := by decide +kernel
theorem hdV_X1_bendAt : yX1_bendAt.cls = RX1 ∧ yX1_bendAt.cls ≠ "java/lang/invoke/MethodHandle" ∧ yX1_bendAt.cls ≠ "java/lang/invoke/VarHandle" ∧ (parseMethodDescriptor yX1_bendAt.desc).map (fun d => d.parameters.length) = some 2 := ⟨rfl, hdS_X1_bendAt⟩
set_option maxHeartbeats 4000000 in
set_option maxRecDepth 100000 in
theorem c_X1_bendAt (l : Launch) (dC : Nat → ClassId) (dI : Nat → Nat → Nat) (cy : Nat → ClassId) (a0 : Nat → Nat) (f0 : Fig) (p1 : Int32) (p2 : Int32) (res : Int32) (h : G_X1_bendAt f0 p1 p2 = some res) : CT l (dC, dI) (TY cy) yX1_bendAt cX1_bendAt 4 (some .int) rm_X1_bendAt [.ref (a0 0), .int p1, .int p2] (wFig a0 cy f0) (wFig a0 cy f0) (some (.int res)) := by
  refine CT.mk_i (own := RX1) ⟨by decide, rfl⟩ (Nat.le_of_ble_eq_true rfl) ?_
  intro p e s mm args below meth cd A Q hx hb hml hown htg hN hK hA hP hD hS hE ls hl
  have hl : lv_has ls 4 [(0, .ref (a0 0)), (1, .int p1), (2, .int p2)] := hl
  replace h : _ = some res := h
  unfold G_X1_bendAt at h
  obtain ⟨H, hH⟩ : ∃ H, H = s.heap := ⟨_, rfl⟩
  obtain ⟨locs, hlocs⟩ : ∃ locs : List Loc, locs = [] := ⟨_, rfl⟩
  rw [← hlocs] at hS ⊢
  have hS : va_S A s.heap H locs := by rw [hH]; exact hS
  rw [← hH] at hP ⊢
  refine lv_aload_n hx hb dX1_bendAt_0 rfl (lv_at hl 0 rfl) ?_
  refine lv_iload_n hx hb dX1_bendAt_1 rfl (lv_at hl 1 rfl) ?_
  refine lv_iload_n hx hb dX1_bendAt_2 rfl (lv_at hl 2 rfl) ?_
  obtain ⟨v3, e3, h⟩ := bnd h
  refine cV (av := [.int p1, .int p2]) (rest := []) (st1 := [.int v3]) (k1 := 0) (k2 := 0) (ci := 0) (q0 := 0) hx hb hml hown htg hN hK (c_X1_at l dC dI cy a0 f0 p1 p2 v3 e3) (g_V gw176 gw177 gw178 gw60 gw179) hdV_X1_at rfl ⟨⟨Nat.le_of_ble_eq_true rfl, Nat.le_of_ble_eq_true rfl⟩, Nat.le_of_ble_eq_true rfl, Nat.le_of_ble_eq_true rfl⟩ hP hD hS hA ⟨rfl, rfl⟩ rfl [0, 1, 2, 3, 4] [] rfl rfl rfl (by decide) (by decide) hl.1 rfl (Nat.le_of_ble_eq_true rfl) rfl rfl rfl dX1_bendAt_3 (fun H locs hP hD hS => ?_)
  have hP : va_P (dC, dI) vwCl (wFig a0 cy f0) H := hP
  have hD : va_D A (wFig a0 cy f0) := hD
  refine lv_istore_n (lv' := [(3, .int v3), (0, .ref (a0 0)), (1, .int p1), (2, .int p2)]) hx hb dX1_bendAt_6 rfl hl (by decide) rfl (fun ls hl => ?_)
  refine lv_aload_n hx hb dX1_bendAt_7 rfl (lv_at hl 1 rfl) ?_
  refine lv_aload_n hx hb dX1_bendAt_8 rfl (lv_at hl 1 rfl) ?_
  refine lv_iload_n hx hb dX1_bendAt_9 rfl (lv_at hl 2 rfl) ?_
  refine lv_iload_n hx hb dX1_bendAt_10 rfl (lv_at hl 3 rfl) ?_
  obtain ⟨v11, e11, h⟩ := bnd h
  refine cV (av := [.int p1, .int p2]) (rest := [.ref (a0 0)]) (st1 := [.int v11, .ref (a0 0)]) (k1 := 0) (k2 := 0) (ci := 0) (q0 := 0) hx hb hml hown htg hN hK (c_X1_priorOf l dC dI cy a0 f0 p1 p2 v11 e11) (g_V gw399 gw400 gw401 gw60 gw402) hdV_X1_priorOf rfl ⟨⟨Nat.le_of_ble_eq_true rfl, Nat.le_of_ble_eq_true rfl⟩, Nat.le_of_ble_eq_true rfl, Nat.le_of_ble_eq_true rfl⟩ hP hD hS hA ⟨rfl, rfl⟩ rfl [0, 1, 2, 3, 4] [] rfl rfl rfl (by decide) (by decide) hl.1 rfl (Nat.le_of_ble_eq_true rfl) rfl rfl rfl dX1_bendAt_11 (fun H locs hP hD hS => ?_)
  have hP : va_P (dC, dI) vwCl (wFig a0 cy f0) H := hP
  have hD : va_D A (wFig a0 cy f0) := hD
  refine lv_iload_n hx hb dX1_bendAt_14 rfl (lv_at hl 0 rfl) ?_
  refine lv_aload_n hx hb dX1_bendAt_15 rfl (lv_at hl 1 rfl) ?_
  refine lv_iload_n hx hb dX1_bendAt_16 rfl (lv_at hl 0 rfl) ?_
  obtain ⟨v17, e17, h⟩ := bnd h
  refine cV (av := [.int v3]) (rest := [.int v3, .int v11, .ref (a0 0)]) (st1 := [.int v17, .int v3, .int v11, .ref (a0 0)]) (k1 := 0) (k2 := 0) (ci := 0) (q0 := 0) hx hb hml hown htg hN hK (c_X1_nextOf l dC dI cy a0 f0 v3 v17 e17) (g_V gw258 gw259 gw260 gw60 gw261) hdV_X1_nextOf rfl ⟨⟨Nat.le_of_ble_eq_true rfl, Nat.le_of_ble_eq_true rfl⟩, Nat.le_of_ble_eq_true rfl, Nat.le_of_ble_eq_true rfl⟩ hP hD hS hA ⟨rfl, rfl⟩ rfl [0, 1, 2, 3, 4] [] rfl rfl rfl (by decide) (by decide) hl.1 rfl (Nat.le_of_ble_eq_true rfl) rfl rfl rfl dX1_bendAt_17 (fun H locs hP hD hS => ?_)
  have hP : va_P (dC, dI) vwCl (wFig a0 cy f0) H := hP
  have hD : va_D A (wFig a0 cy f0) := hD
  obtain ⟨v20, e20, h⟩ := bnd h
  refine cV (av := [.int v11, .int v3, .int v17]) (rest := []) (st1 := [.int v20]) (k1 := 0) (k2 := 0) (ci := 0) (q0 := 0) hx hb hml hown htg hN hK (c_X1_bend l dC dI cy a0 f0 v11 v3 v17 v20 e20) (g_V gw272 gw273 gw274 gw60 gw275) hdV_X1_bend rfl ⟨⟨Nat.le_of_ble_eq_true rfl, Nat.le_of_ble_eq_true rfl⟩, Nat.le_of_ble_eq_true rfl, Nat.le_of_ble_eq_true rfl⟩ hP hD hS hA ⟨rfl, rfl⟩ rfl [0, 1, 2, 3, 4] [] rfl rfl rfl (by decide) (by decide) hl.1 rfl (Nat.le_of_ble_eq_true rfl) rfl rfl rfl dX1_bendAt_20 (fun H locs hP hD hS => ?_)
  have hP : va_P (dC, dI) vwCl (wFig a0 cy f0) H := hP
  have hD : va_D A (wFig a0 cy f0) := hD
  obtain rfl := Option.some.inj h
  exact hE H locs 23 ls _ hP hD hS rfl dX1_bendAt_23
def G_X1_clear (f0 : Fig) : Option (Fig) :=
  (some (fs_rings f0 0)).bind fun z0_7 =>
  some (fs_corners z0_7 0)
abbrev rm_X1_clear : Room := { frames := 0, cells := 0, slots := 0, locals := 0 }
theorem hdS_X1_clear : yX1_clear.cls ≠ "java/lang/invoke/MethodHandle" ∧ yX1_clear.cls ≠ "java/lang/invoke/VarHandle" ∧ (parseMethodDescriptor yX1_clear.desc).map (fun d => d.parameters.length) = some 0 := by decide +kernel
theorem hdV_X1_clear : yX1_clear.cls = RX1 ∧ yX1_clear.cls ≠ "java/lang/invoke/MethodHandle" ∧ yX1_clear.cls ≠ "java/lang/invoke/VarHandle" ∧ (parseMethodDescriptor yX1_clear.desc).map (fun d => d.parameters.length) = some 0 := ⟨rfl, hdS_X1_clear⟩
set_option maxHeartbeats 4000000 in
set_option maxRecDepth 100000 in
theorem c_X1_clear (l : Launch) (dC : Nat → ClassId) (dI : Nat → Nat → Nat) (cy : Nat → ClassId) (a0 : Nat → Nat) (f0 : Fig) (res : Fig) (h : G_X1_clear f0 = some res) : CT l (dC, dI) (TY cy) yX1_clear cX1_clear 1 none rm_X1_clear [.ref (a0 0)] (wFig a0 cy f0) (wFig a0 cy res) none := by
  refine CT.mk_v (own := RX1) ⟨by decide, rfl⟩ (Nat.le_of_ble_eq_true rfl) ?_
  intro p e s mm args below meth cd A Q hx hb hml hown htg hN hK hA hP hD hS hE ls hl
  have hl : lv_has ls 1 [(0, .ref (a0 0))] := hl
  replace h : _ = some res := h
  unfold G_X1_clear at h
  obtain ⟨H, hH⟩ : ∃ H, H = s.heap := ⟨_, rfl⟩
  obtain ⟨locs, hlocs⟩ : ∃ locs : List Loc, locs = [] := ⟨_, rfl⟩
  rw [← hlocs] at hS ⊢
  have hS : va_S A s.heap H locs := by rw [hH]; exact hS
  rw [← hH] at hP ⊢
  refine lv_aload_n hx hb dX1_clear_0 rfl (lv_at hl 0 rfl) ?_
  refine lv_iconst (v := 0) hx hb dX1_clear_1 (by decide) ?_
  refine va_put (D := (dC, dI)) (ci := 0) (v := .int 0) (ty := .int) (C := RX1) (T := TX1) (N := 6) hx hb htg inX1 tyX1 tyX1_ok nmX1 hown hK hP hD hS 0 rfl rfl 0 (by decide) (htg _ gw91) (fun _ h9 => h9) rfl (by decide +kernel) rfl rfl (Nat.le_of_ble_eq_true rfl) dX1_clear_2 (fun H locs hP hD hS => ?_)
  have hP : va_P (dC, dI) vwCl (wFig a0 cy (fs_rings f0 0)) H := hP
  have hD : va_D A (wFig a0 cy (fs_rings f0 0)) := hD
  refine lv_aload_n hx hb dX1_clear_5 rfl (lv_at hl 0 rfl) ?_
  refine lv_iconst (v := 0) hx hb dX1_clear_6 (by decide) ?_
  obtain ⟨z0_7, ez0_7, h⟩ := bnd h
  replace ez0_7 := Option.some.inj ez0_7
  rw [ez0_7] at hP hD
  refine va_put (D := (dC, dI)) (ci := 0) (v := .int 0) (ty := .int) (C := RX1) (T := TX1) (N := 6) hx hb htg inX1 tyX1 tyX1_ok nmX1 hown hK hP hD hS 0 rfl rfl 1 (by decide) (htg _ gw97) (fun _ h9 => h9) rfl (by decide +kernel) rfl rfl (Nat.le_of_ble_eq_true rfl) dX1_clear_7 (fun H locs hP hD hS => ?_)
  have hP : va_P (dC, dI) vwCl (wFig a0 cy (fs_corners z0_7 0)) H := hP
  have hD : va_D A (wFig a0 cy (fs_corners z0_7 0)) := hD
  obtain rfl := Option.some.inj h
  exact hE H locs 10 ls hP hD hS dX1_clear_10
def G_X1_copyFrom (f0 : Fig) (f1 : Fig) : Option (Fig) :=
  (some (fs_rings f0 (f_rings f1))).bind fun z0_13 =>
  (some (fs_corners z0_13 (f_corners f1))).bind fun z0_27 =>
  (some (fs_sizes z0_27 (va_cpy (f_sizes f1) (f_sizes z0_27) 0 0 4))).bind fun z0_42 =>
  (some (fs_xs z0_42 (va_cpy (f_xs f1) (f_xs z0_42) 0 0 40))).bind fun z0_57 =>
  (some (fs_ys z0_57 (va_cpy (f_ys f1) (f_ys z0_57) 0 0 40))).bind fun z0_72 =>
  some (fs_next z0_72 (va_cpy (f_next f1) (f_next z0_72) 0 0 40))
abbrev rm_X1_copyFrom : Room := { frames := 1, cells := 0, slots := 0, locals := 40 }
theorem hdS_X1_copyFrom : yX1_copyFrom.cls ≠ "java/lang/invoke/MethodHandle" ∧ yX1_copyFrom.cls ≠ "java/lang/invoke/VarHandle" ∧ (parseMethodDescriptor yX1_copyFrom.desc).map (fun d => d.parameters.length) = some 1 := by decide +kernel
theorem hdV_X1_copyFrom : yX1_copyFrom.cls = RX1 ∧ yX1_copyFrom.cls ≠ "java/lang/invoke/MethodHandle" ∧ yX1_copyFrom.cls ≠ "java/lang/invoke/VarHandle" ∧ (parseMethodDescriptor yX1_copyFrom.desc).map (fun d => d.parameters.length) = some 1 := ⟨rfl, hdS_X1_copyFrom⟩
set_option maxHeartbeats 4000000 in
set_option maxRecDepth 100000 in
theorem c_X1_copyFrom (l : Launch) (dC : Nat → ClassId) (dI : Nat → Nat → Nat) (cy : Nat → ClassId) (a0 : Nat → Nat) (a1 : Nat → Nat) (f0 : Fig) (f1 : Fig) (res : Fig) (h : G_X1_copyFrom f0 f1 = some res) : CT l (dC, dI) (TY cy) yX1_copyFrom cX1_copyFrom 2 none rm_X1_copyFrom [.ref (a0 0), .ref (a1 0)] (wFig a0 cy f0 ++ wFig a1 cy f1) (wFig a0 cy res ++ wFig a1 cy f1) none := by
  refine CT.mk_v (own := RX1) ⟨by decide, rfl⟩ (Nat.le_of_ble_eq_true rfl) ?_
  intro p e s mm args below meth cd A Q hx hb hml hown htg hN hK hA hP hD hS hE ls hl
  have hl : lv_has ls 2 [(0, .ref (a0 0)), (1, .ref (a1 0))] := hl
  replace h : _ = some res := h
  unfold G_X1_copyFrom at h
  obtain ⟨H, hH⟩ : ∃ H, H = s.heap := ⟨_, rfl⟩
  obtain ⟨locs, hlocs⟩ : ∃ locs : List Loc, locs = [] := ⟨_, rfl⟩
  rw [← hlocs] at hS ⊢
  have hS : va_S A s.heap H locs := by rw [hH]; exact hS
  rw [← hH] at hP ⊢
  refine lv_aload_n hx hb dX1_copyFrom_0 rfl (lv_at hl 0 rfl) ?_
  refine lv_aload_n hx hb dX1_copyFrom_1 rfl (lv_at hl 1 rfl) ?_
  refine va_get (D := (dC, dI)) (ci := 0) (v := .int (f_rings f1)) (C := RX1) (T := TX1) (N := 6) hx hb htg inX1 hown hK hP 5 rfl rfl 0 (by decide) (htg _ gw91) (fun _ h9 => h9) rfl dX1_copyFrom_2 ?_
  refine va_put (D := (dC, dI)) (ci := 0) (v := .int (f_rings f1)) (ty := .int) (C := RX1) (T := TX1) (N := 6) hx hb htg inX1 tyX1 tyX1_ok nmX1 hown hK hP hD hS 0 rfl rfl 0 (by decide) (htg _ gw91) (fun _ h9 => h9) rfl (by decide +kernel) rfl rfl (Nat.le_of_ble_eq_true rfl) dX1_copyFrom_5 (fun H locs hP hD hS => ?_)
  have hP : va_P (dC, dI) vwCl (wFig a0 cy (fs_rings f0 (f_rings f1)) ++ wFig a1 cy f1) H := hP
  have hD : va_D A (wFig a0 cy (fs_rings f0 (f_rings f1)) ++ wFig a1 cy f1) := hD
  refine lv_aload_n hx hb dX1_copyFrom_8 rfl (lv_at hl 0 rfl) ?_
  refine lv_aload_n hx hb dX1_copyFrom_9 rfl (lv_at hl 1 rfl) ?_
  refine va_get (D := (dC, dI)) (ci := 0) (v := .int (f_corners f1)) (C := RX1) (T := TX1) (N := 6) hx hb htg inX1 hown hK hP 5 rfl rfl 1 (by decide) (htg _ gw97) (fun _ h9 => h9) rfl dX1_copyFrom_10 ?_
  obtain ⟨z0_13, ez0_13, h⟩ := bnd h
  replace ez0_13 := Option.some.inj ez0_13
  rw [ez0_13] at hP hD
  refine va_put (D := (dC, dI)) (ci := 0) (v := .int (f_corners f1)) (ty := .int) (C := RX1) (T := TX1) (N := 6) hx hb htg inX1 tyX1 tyX1_ok nmX1 hown hK hP hD hS 0 rfl rfl 1 (by decide) (htg _ gw97) (fun _ h9 => h9) rfl (by decide +kernel) rfl rfl (Nat.le_of_ble_eq_true rfl) dX1_copyFrom_13 (fun H locs hP hD hS => ?_)
  have hP : va_P (dC, dI) vwCl (wFig a0 cy (fs_corners z0_13 (f_corners f1)) ++ wFig a1 cy f1) H := hP
  have hD : va_D A (wFig a0 cy (fs_corners z0_13 (f_corners f1)) ++ wFig a1 cy f1) := hD
  refine lv_aload_n hx hb dX1_copyFrom_16 rfl (lv_at hl 1 rfl) ?_
  refine va_get (D := (dC, dI)) (ci := 0) (v := .ref (a1 1)) (C := RX1) (T := TX1) (N := 6) hx hb htg inX1 hown hK hP 5 rfl rfl 2 (by decide) (htg _ gw102) (fun _ h9 => h9) rfl dX1_copyFrom_17 ?_
  refine lv_iconst (v := 0) hx hb dX1_copyFrom_20 (by decide) ?_
  refine lv_aload_n hx hb dX1_copyFrom_21 rfl (lv_at hl 0 rfl) ?_
  refine va_get (D := (dC, dI)) (ci := 0) (v := .ref (a0 1)) (C := RX1) (T := TX1) (N := 6) hx hb htg inX1 hown hK hP 0 rfl rfl 2 (by decide) (htg _ gw102) (fun _ h9 => h9) rfl dX1_copyFrom_22 ?_
  refine lv_iconst (v := 0) hx hb dX1_copyFrom_25 (by decide) ?_
  refine lv_iconst (v := 4) hx hb dX1_copyFrom_26 (by decide) ?_
  obtain ⟨z0_27, ez0_27, h⟩ := bnd h
  replace ez0_27 := Option.some.inj ez0_27
  rw [ez0_27] at hP hD
  refine va_copyi (n := 4) hx hb (hml.trans hl.1.symm) hown (htg _ gw317) (htg _ gw319) (htg _ gw318) (htg _ gw71) hK hP hD hS 6 1 0 0 rfl rfl rfl rfl rfl (by decide) (by decide) (by decide) (by decide) (by decide) (fun _ _ => rfl) (Nat.le_of_ble_eq_true rfl) (by decide) dX1_copyFrom_27 (fun H locs hP hD hS => ?_)
  have hP : va_P (dC, dI) vwCl (wFig a0 cy (fs_sizes z0_27 (va_cpy (f_sizes f1) (f_sizes z0_27) 0 0 4)) ++ wFig a1 cy f1) H := hP
  have hD : va_D A (wFig a0 cy (fs_sizes z0_27 (va_cpy (f_sizes f1) (f_sizes z0_27) 0 0 4)) ++ wFig a1 cy f1) := hD
  refine lv_aload_n hx hb dX1_copyFrom_30 rfl (lv_at hl 1 rfl) ?_
  refine va_get (D := (dC, dI)) (ci := 0) (v := .ref (a1 2)) (C := RX1) (T := TX1) (N := 6) hx hb htg inX1 hown hK hP 5 rfl rfl 3 (by decide) (htg _ gw103) (fun _ h9 => h9) rfl dX1_copyFrom_31 ?_
  refine lv_iconst (v := 0) hx hb dX1_copyFrom_34 (by decide) ?_
  refine lv_aload_n hx hb dX1_copyFrom_35 rfl (lv_at hl 0 rfl) ?_
  refine va_get (D := (dC, dI)) (ci := 0) (v := .ref (a0 2)) (C := RX1) (T := TX1) (N := 6) hx hb htg inX1 hown hK hP 0 rfl rfl 3 (by decide) (htg _ gw103) (fun _ h9 => h9) rfl dX1_copyFrom_36 ?_
  refine lv_iconst (v := 0) hx hb dX1_copyFrom_39 (by decide) ?_
  refine lv_bipush (v := 40) hx hb dX1_copyFrom_40 (by decide) ?_
  obtain ⟨z0_42, ez0_42, h⟩ := bnd h
  replace ez0_42 := Option.some.inj ez0_42
  rw [ez0_42] at hP hD
  refine va_copyi (n := 40) hx hb (hml.trans hl.1.symm) hown (htg _ gw317) (htg _ gw319) (htg _ gw318) (htg _ gw71) hK hP hD hS 7 2 0 0 rfl rfl rfl rfl rfl (by decide) (by decide) (by decide) (by decide) (by decide) (fun _ _ => rfl) (Nat.le_of_ble_eq_true rfl) (by decide) dX1_copyFrom_42 (fun H locs hP hD hS => ?_)
  have hP : va_P (dC, dI) vwCl (wFig a0 cy (fs_xs z0_42 (va_cpy (f_xs f1) (f_xs z0_42) 0 0 40)) ++ wFig a1 cy f1) H := hP
  have hD : va_D A (wFig a0 cy (fs_xs z0_42 (va_cpy (f_xs f1) (f_xs z0_42) 0 0 40)) ++ wFig a1 cy f1) := hD
  refine lv_aload_n hx hb dX1_copyFrom_45 rfl (lv_at hl 1 rfl) ?_
  refine va_get (D := (dC, dI)) (ci := 0) (v := .ref (a1 3)) (C := RX1) (T := TX1) (N := 6) hx hb htg inX1 hown hK hP 5 rfl rfl 4 (by decide) (htg _ gw104) (fun _ h9 => h9) rfl dX1_copyFrom_46 ?_
  refine lv_iconst (v := 0) hx hb dX1_copyFrom_49 (by decide) ?_
  refine lv_aload_n hx hb dX1_copyFrom_50 rfl (lv_at hl 0 rfl) ?_
  refine va_get (D := (dC, dI)) (ci := 0) (v := .ref (a0 3)) (C := RX1) (T := TX1) (N := 6) hx hb htg inX1 hown hK hP 0 rfl rfl 4 (by decide) (htg _ gw104) (fun _ h9 => h9) rfl dX1_copyFrom_51 ?_
  refine lv_iconst (v := 0) hx hb dX1_copyFrom_54 (by decide) ?_
  refine lv_bipush (v := 40) hx hb dX1_copyFrom_55 (by decide) ?_
  obtain ⟨z0_57, ez0_57, h⟩ := bnd h
  replace ez0_57 := Option.some.inj ez0_57
  rw [ez0_57] at hP hD
  refine va_copyi (n := 40) hx hb (hml.trans hl.1.symm) hown (htg _ gw317) (htg _ gw319) (htg _ gw318) (htg _ gw71) hK hP hD hS 8 3 0 0 rfl rfl rfl rfl rfl (by decide) (by decide) (by decide) (by decide) (by decide) (fun _ _ => rfl) (Nat.le_of_ble_eq_true rfl) (by decide) dX1_copyFrom_57 (fun H locs hP hD hS => ?_)
  have hP : va_P (dC, dI) vwCl (wFig a0 cy (fs_ys z0_57 (va_cpy (f_ys f1) (f_ys z0_57) 0 0 40)) ++ wFig a1 cy f1) H := hP
  have hD : va_D A (wFig a0 cy (fs_ys z0_57 (va_cpy (f_ys f1) (f_ys z0_57) 0 0 40)) ++ wFig a1 cy f1) := hD
  refine lv_aload_n hx hb dX1_copyFrom_60 rfl (lv_at hl 1 rfl) ?_
  refine va_get (D := (dC, dI)) (ci := 0) (v := .ref (a1 4)) (C := RX1) (T := TX1) (N := 6) hx hb htg inX1 hown hK hP 5 rfl rfl 5 (by decide) (htg _ gw105) (fun _ h9 => h9) rfl dX1_copyFrom_61 ?_
  refine lv_iconst (v := 0) hx hb dX1_copyFrom_64 (by decide) ?_
  refine lv_aload_n hx hb dX1_copyFrom_65 rfl (lv_at hl 0 rfl) ?_
  refine va_get (D := (dC, dI)) (ci := 0) (v := .ref (a0 4)) (C := RX1) (T := TX1) (N := 6) hx hb htg inX1 hown hK hP 0 rfl rfl 5 (by decide) (htg _ gw105) (fun _ h9 => h9) rfl dX1_copyFrom_66 ?_
  refine lv_iconst (v := 0) hx hb dX1_copyFrom_69 (by decide) ?_
  refine lv_bipush (v := 40) hx hb dX1_copyFrom_70 (by decide) ?_
  obtain ⟨z0_72, ez0_72, h⟩ := bnd h
  replace ez0_72 := Option.some.inj ez0_72
  rw [ez0_72] at hP hD
  refine va_copyi (n := 40) hx hb (hml.trans hl.1.symm) hown (htg _ gw317) (htg _ gw319) (htg _ gw318) (htg _ gw71) hK hP hD hS 9 4 0 0 rfl rfl rfl rfl rfl (by decide) (by decide) (by decide) (by decide) (by decide) (fun _ _ => rfl) (Nat.le_of_ble_eq_true rfl) (by decide) dX1_copyFrom_72 (fun H locs hP hD hS => ?_)
  have hP : va_P (dC, dI) vwCl (wFig a0 cy (fs_next z0_72 (va_cpy (f_next f1) (f_next z0_72) 0 0 40)) ++ wFig a1 cy f1) H := hP
  have hD : va_D A (wFig a0 cy (fs_next z0_72 (va_cpy (f_next f1) (f_next z0_72) 0 0 40)) ++ wFig a1 cy f1) := hD
  obtain rfl := Option.some.inj h
  exact hE H locs 75 ls hP hD hS dX1_copyFrom_75
def G_X1_dropRing_L26   : Nat → Fig → Int32 → Option (Fig)
  | 0, _, _ => none
  | n26 + 1, f0_26, l2_26 =>
    if f_rings f0_26 ≤ l2_26 + 1 then
      (G_X1_relink (fs_rings f0_26 ((f_rings f0_26) - 1))).bind fun v67 =>
      some v67
    else
      (rd 4 (f_sizes f0_26) (l2_26 + 1)).bind fun v48 =>
      (wr 4 (f_sizes f0_26) l2_26 v48).bind fun g49 =>
      (G_X1_dropRing_L26 n26) (fs_sizes f0_26 g49) (l2_26 + 1)
def G_X1_dropRing (f0 : Fig) (p1 : Int32) : Option (Fig) :=
  (G_X1_hasRing f0 p1).bind fun v2 =>
  if v2 = 0 then
    some f0
  else
    (G_X1_firstOf f0 p1).bind fun v12 =>
    (rd 4 (f_sizes f0) p1).bind fun v20 =>
    (G_X1_closeGap f0 v12 v20).bind fun v21 =>
    G_X1_dropRing_L26 FU v21 p1
abbrev rm_X1_dropRing : Room := { frames := 1, cells := 0, slots := 0, locals := 24 }
theorem hdS_X1_dropRing : yX1_dropRing.cls ≠ "java/lang/invoke/MethodHandle" ∧ yX1_dropRing.cls ≠ "java/lang/invoke/VarHandle" ∧ (parseMethodDescriptor yX1_dropRing.desc).map (fun d => d.parameters.length) = some 1 := by decide +kernel
theorem hdV_X1_dropRing : yX1_dropRing.cls = RX1 ∧ yX1_dropRing.cls ≠ "java/lang/invoke/MethodHandle" ∧ yX1_dropRing.cls ≠ "java/lang/invoke/VarHandle" ∧ (parseMethodDescriptor yX1_dropRing.desc).map (fun d => d.parameters.length) = some 1 := ⟨rfl, hdS_X1_dropRing⟩
set_option maxHeartbeats 4000000 in
set_option maxRecDepth 100000 in
theorem c_X1_dropRing (l : Launch) (dC : Nat → ClassId) (dI : Nat → Nat → Nat) (cy : Nat → ClassId) (a0 : Nat → Nat) (f0 : Fig) (p1 : Int32) (res : Fig) (h : G_X1_dropRing f0 p1 = some res) : CT l (dC, dI) (TY cy) yX1_dropRing cX1_dropRing 3 none rm_X1_dropRing [.ref (a0 0), .int p1] (wFig a0 cy f0) (wFig a0 cy res) none := by
  refine CT.mk_v (own := RX1) ⟨by decide, rfl⟩ (Nat.le_of_ble_eq_true rfl) ?_
  intro p e s mm args below meth cd A Q hx hb hml hown htg hN hK hA hP hD hS hE ls hl
  have hl : lv_has ls 3 [(0, .ref (a0 0)), (1, .int p1)] := hl
  replace h : _ = some res := h
  unfold G_X1_dropRing at h
  obtain ⟨H, hH⟩ : ∃ H, H = s.heap := ⟨_, rfl⟩
  obtain ⟨locs, hlocs⟩ : ∃ locs : List Loc, locs = [] := ⟨_, rfl⟩
  rw [← hlocs] at hS ⊢
  have hS : va_S A s.heap H locs := by rw [hH]; exact hS
  rw [← hH] at hP ⊢
  refine lv_aload_n hx hb dX1_dropRing_0 rfl (lv_at hl 0 rfl) ?_
  refine lv_iload_n hx hb dX1_dropRing_1 rfl (lv_at hl 1 rfl) ?_
  obtain ⟨v2, e2, h⟩ := bnd h
  refine cV (av := [.int p1]) (rest := []) (st1 := [.int v2]) (k1 := 0) (k2 := 0) (ci := 0) (q0 := 0) hx hb hml hown htg hN hK (c_X1_hasRing l dC dI cy a0 f0 p1 v2 e2) (g_V gw172 gw173 gw174 gw60 gw175) hdV_X1_hasRing rfl ⟨⟨Nat.le_of_ble_eq_true rfl, Nat.le_of_ble_eq_true rfl⟩, Nat.le_of_ble_eq_true rfl, Nat.le_of_ble_eq_true rfl⟩ hP hD hS hA ⟨rfl, rfl⟩ rfl [0, 1, 2, 3, 4] [] rfl rfl rfl (by decide) (by decide) hl.1 rfl (Nat.le_of_ble_eq_true rfl) rfl rfl rfl dX1_dropRing_2 (fun H locs hP hD hS => ?_)
  have hP : va_P (dC, dI) vwCl (wFig a0 cy f0) H := hP
  have hD : va_D A (wFig a0 cy f0) := hD
  refine lv_if_ne (tgt := 9) hx hb dX1_dropRing_5 (by decide) (fun c5 => ?_) (fun c5 => ?_)
  · replace h := if_f h c5
    refine lv_aload_n hx hb dX1_dropRing_9 rfl (lv_at hl 0 rfl) ?_
    refine lv_aload_n hx hb dX1_dropRing_10 rfl (lv_at hl 0 rfl) ?_
    refine lv_iload_n hx hb dX1_dropRing_11 rfl (lv_at hl 1 rfl) ?_
    obtain ⟨v12, e12, h⟩ := bnd h
    refine cV (av := [.int p1]) (rest := [.ref (a0 0)]) (st1 := [.int v12, .ref (a0 0)]) (k1 := 0) (k2 := 0) (ci := 0) (q0 := 0) hx hb hml hown htg hN hK (c_X1_firstOf l dC dI cy a0 f0 p1 v12 e12) (g_V gw180 gw181 gw182 gw60 gw183) hdV_X1_firstOf rfl ⟨⟨Nat.le_of_ble_eq_true rfl, Nat.le_of_ble_eq_true rfl⟩, Nat.le_of_ble_eq_true rfl, Nat.le_of_ble_eq_true rfl⟩ hP hD hS hA ⟨rfl, rfl⟩ rfl [0, 1, 2, 3, 4] [] rfl rfl rfl (by decide) (by decide) hl.1 rfl (Nat.le_of_ble_eq_true rfl) rfl rfl rfl dX1_dropRing_12 (fun H locs hP hD hS => ?_)
    have hP : va_P (dC, dI) vwCl (wFig a0 cy f0) H := hP
    have hD : va_D A (wFig a0 cy f0) := hD
    refine lv_aload_n hx hb dX1_dropRing_15 rfl (lv_at hl 0 rfl) ?_
    refine va_get (D := (dC, dI)) (ci := 0) (v := .ref (a0 1)) (C := RX1) (T := TX1) (N := 6) hx hb htg inX1 hown hK hP 0 rfl rfl 2 (by decide) (htg _ gw102) (fun _ h9 => h9) rfl dX1_dropRing_16 ?_
    refine lv_iload_n hx hb dX1_dropRing_19 rfl (lv_at hl 1 rfl) ?_
    obtain ⟨v20, e20, h⟩ := bnd h
    refine x_iald (v := v20) hx hb hK hP 1 0 rfl rfl e20 dX1_dropRing_20 ?_
    obtain ⟨v21, e21, h⟩ := bnd h
    refine cV (av := [.int v12, .int v20]) (rest := []) (st1 := []) (k1 := 0) (k2 := 0) (ci := 0) (q0 := 0) hx hb hml hown htg hN hK (c_X1_closeGap l dC dI cy a0 f0 v12 v20 v21 e21) (g_V gw694 gw696 gw6 gw60 gw697) hdV_X1_closeGap rfl ⟨⟨Nat.le_of_ble_eq_true rfl, Nat.le_of_ble_eq_true rfl⟩, Nat.le_of_ble_eq_true rfl, Nat.le_of_ble_eq_true rfl⟩ hP hD hS hA ⟨rfl, rfl⟩ rfl [0, 1, 2, 3, 4] [] rfl rfl rfl (by decide) (by decide) hl.1 rfl (Nat.le_of_ble_eq_true rfl) rfl rfl rfl dX1_dropRing_21 (fun H locs hP hD hS => ?_)
    have hP : va_P (dC, dI) vwCl (wFig a0 cy v21) H := hP
    have hD : va_D A (wFig a0 cy v21) := hD
    refine lv_iload_n hx hb dX1_dropRing_24 rfl (lv_at hl 1 rfl) ?_
    refine lv_istore_n (lv' := [(2, .int p1), (0, .ref (a0 0)), (1, .int p1)]) hx hb dX1_dropRing_25 rfl hl (by decide) rfl (fun ls hl => ?_)
    have hL26 : ∀ (n26 : Nat) (f0_26 : Fig) (l2_26 : Int32) (H : Heap) (locs : List Loc) (ls : Array Slot), G_X1_dropRing_L26 n26 f0_26 l2_26 = some res → va_P (dC, dI) vwCl (wFig a0 cy f0_26) H → va_D A (wFig a0 cy f0_26) → va_S A s.heap H locs → lv_has ls 3 [(2, .int l2_26), (0, .ref (a0 0))] → W p l e rm_X1_dropRing s mm args below meth cd H locs 0 0 Q (F0 mm 26 ls []) := by
      intro n26
      induction n26 with
      | zero => intro f0_26 l2_26 H locs ls h; exact absurd h (by simp [G_X1_dropRing_L26])
      | succ n26 ih26 =>
        intro f0_26 l2_26 H locs ls h hP hD hS hl
        rw [G_X1_dropRing_L26] at h
        refine lv_iload_n hx hb dX1_dropRing_26 rfl (lv_at hl 0 rfl) ?_
        refine lv_iconst (v := 1) hx hb dX1_dropRing_27 (by decide) ?_
        refine lv_iadd hx hb dX1_dropRing_28 ?_
        refine lv_aload_n hx hb dX1_dropRing_29 rfl (lv_at hl 1 rfl) ?_
        refine va_get (D := (dC, dI)) (ci := 0) (v := .int (f_rings f0_26)) (C := RX1) (T := TX1) (N := 6) hx hb htg inX1 hown hK hP 0 rfl rfl 0 (by decide) (htg _ gw91) (fun _ h9 => h9) rfl dX1_dropRing_30 ?_
        refine lv_icmp_ge (tgt := 56) hx hb dX1_dropRing_33 (by decide) (fun c33 => ?_) (fun c33 => ?_)
        · replace h := if_t h c33
          refine lv_aload_n hx hb dX1_dropRing_56 rfl (lv_at hl 1 rfl) ?_
          refine lv_dup hx hb dX1_dropRing_57 rfl ?_
          refine va_get (D := (dC, dI)) (ci := 0) (v := .int (f_rings f0_26)) (C := RX1) (T := TX1) (N := 6) hx hb htg inX1 hown hK hP 0 rfl rfl 0 (by decide) (htg _ gw91) (fun _ h9 => h9) rfl dX1_dropRing_58 ?_
          refine lv_iconst (v := 1) hx hb dX1_dropRing_61 (by decide) ?_
          refine lv_isub hx hb dX1_dropRing_62 ?_
          refine va_put (D := (dC, dI)) (ci := 0) (v := .int ((f_rings f0_26) - 1)) (ty := .int) (C := RX1) (T := TX1) (N := 6) hx hb htg inX1 tyX1 tyX1_ok nmX1 hown hK hP hD hS 0 rfl rfl 0 (by decide) (htg _ gw91) (fun _ h9 => h9) rfl (by decide +kernel) rfl rfl (Nat.le_of_ble_eq_true rfl) dX1_dropRing_63 (fun H locs hP hD hS => ?_)
          have hP : va_P (dC, dI) vwCl (wFig a0 cy (fs_rings f0_26 ((f_rings f0_26) - 1))) H := hP
          have hD : va_D A (wFig a0 cy (fs_rings f0_26 ((f_rings f0_26) - 1))) := hD
          refine lv_aload_n hx hb dX1_dropRing_66 rfl (lv_at hl 1 rfl) ?_
          obtain ⟨v67, e67, h⟩ := bnd h
          refine cV (av := []) (rest := []) (st1 := []) (k1 := 0) (k2 := 0) (ci := 0) (q0 := 0) hx hb hml hown htg hN hK (c_X1_relink l dC dI cy a0 (fs_rings f0_26 ((f_rings f0_26) - 1))  v67 e67) (g_V gw188 gw190 gw0 gw60 gw191) hdV_X1_relink rfl ⟨⟨Nat.le_of_ble_eq_true rfl, Nat.le_of_ble_eq_true rfl⟩, Nat.le_of_ble_eq_true rfl, Nat.le_of_ble_eq_true rfl⟩ hP hD hS hA ⟨rfl, rfl⟩ rfl [0, 1, 2, 3, 4] [] rfl rfl rfl (by decide) (by decide) hl.1 rfl (Nat.le_of_ble_eq_true rfl) rfl rfl rfl dX1_dropRing_67 (fun H locs hP hD hS => ?_)
          have hP : va_P (dC, dI) vwCl (wFig a0 cy v67) H := hP
          have hD : va_D A (wFig a0 cy v67) := hD
          obtain rfl := Option.some.inj h
          exact hE H locs 70 ls hP hD hS dX1_dropRing_70
        replace h := if_f h c33
        refine lv_aload_n hx hb dX1_dropRing_36 rfl (lv_at hl 1 rfl) ?_
        refine va_get (D := (dC, dI)) (ci := 0) (v := .ref (a0 1)) (C := RX1) (T := TX1) (N := 6) hx hb htg inX1 hown hK hP 0 rfl rfl 2 (by decide) (htg _ gw102) (fun _ h9 => h9) rfl dX1_dropRing_37 ?_
        refine lv_iload_n hx hb dX1_dropRing_40 rfl (lv_at hl 0 rfl) ?_
        refine lv_aload_n hx hb dX1_dropRing_41 rfl (lv_at hl 1 rfl) ?_
        refine va_get (D := (dC, dI)) (ci := 0) (v := .ref (a0 1)) (C := RX1) (T := TX1) (N := 6) hx hb htg inX1 hown hK hP 0 rfl rfl 2 (by decide) (htg _ gw102) (fun _ h9 => h9) rfl dX1_dropRing_42 ?_
        refine lv_iload_n hx hb dX1_dropRing_45 rfl (lv_at hl 0 rfl) ?_
        refine lv_iconst (v := 1) hx hb dX1_dropRing_46 (by decide) ?_
        refine lv_iadd hx hb dX1_dropRing_47 ?_
        obtain ⟨v48, e48, h⟩ := bnd h
        refine x_iald (v := v48) hx hb hK hP 1 0 rfl rfl e48 dX1_dropRing_48 ?_
        obtain ⟨g49, e49, h⟩ := bnd h
        refine x_iast (g := g49) hx hb hK hP hD hS 1 0 rfl rfl e49 dX1_dropRing_49 (fun H locs hP hD hS => ?_)
        have hP : va_P (dC, dI) vwCl (wFig a0 cy (fs_sizes f0_26 g49)) H := hP
        have hD : va_D A (wFig a0 cy (fs_sizes f0_26 g49)) := hD
        refine lv_iinc (v := l2_26 + 1) (lv' := [(2, .int (l2_26 + 1)), (0, .ref (a0 0))]) hx hb dX1_dropRing_50 hl (k := 0) rfl rfl (by decide) rfl (fun ls hl => ?_)
        refine lv_goto (tgt := 26) hx hb dX1_dropRing_53 (by decide) ?_
        exact ih26 (fs_sizes f0_26 g49) (l2_26 + 1) H locs ls h hP hD hS (lv_sub hl [0, 1] rfl)
    exact hL26 FU v21 p1 H locs ls h hP hD hS (lv_sub hl [0, 1] rfl)
  replace h := if_t h c5
  obtain rfl := Option.some.inj h
  exact hE H locs 8 ls hP hD hS dX1_dropRing_8
def G_X1_inSomeHole_L2  (f0 : Fig) : Nat → Int32 → Int32 → Int32 → Option (Int32)
  | 0, _, _, _ => none
  | n2 + 1, l3_2, l1_2, l2_2 =>
    if f_rings f0 ≤ l3_2 then
      some 0
    else
      (G_X1_surrounds f0 l3_2 l1_2 l2_2).bind fun v14 =>
      if v14 = 0 then
        (G_X1_inSomeHole_L2 f0 n2) (l3_2 + 1) l1_2 l2_2
      else
        some 1
def G_X1_inSomeHole (f0 : Fig) (p1 : Int32) (p2 : Int32) : Option (Int32) :=
  G_X1_inSomeHole_L2 f0 FU 1 p1 p2
abbrev rm_X1_inSomeHole : Room := { frames := 2, cells := 0, slots := 0, locals := 54 }
theorem hdS_X1_inSomeHole : yX1_inSomeHole.cls ≠ "java/lang/invoke/MethodHandle" ∧ yX1_inSomeHole.cls ≠ "java/lang/invoke/VarHandle" ∧ (parseMethodDescriptor yX1_inSomeHole.desc).map (fun d => d.parameters.length) = some 2 := by decide +kernel
theorem hdV_X1_inSomeHole : yX1_inSomeHole.cls = RX1 ∧ yX1_inSomeHole.cls ≠ "java/lang/invoke/MethodHandle" ∧ yX1_inSomeHole.cls ≠ "java/lang/invoke/VarHandle" ∧ (parseMethodDescriptor yX1_inSomeHole.desc).map (fun d => d.parameters.length) = some 2 := ⟨rfl, hdS_X1_inSomeHole⟩
set_option maxHeartbeats 4000000 in
set_option maxRecDepth 100000 in
theorem c_X1_inSomeHole (l : Launch) (dC : Nat → ClassId) (dI : Nat → Nat → Nat) (cy : Nat → ClassId) (a0 : Nat → Nat) (f0 : Fig) (p1 : Int32) (p2 : Int32) (res : Int32) (h : G_X1_inSomeHole f0 p1 p2 = some res) : CT l (dC, dI) (TY cy) yX1_inSomeHole cX1_inSomeHole 4 (some .boolean) rm_X1_inSomeHole [.ref (a0 0), .int p1, .int p2] (wFig a0 cy f0) (wFig a0 cy f0) (some (.int res)) := by
  refine CT.mk_z (own := RX1) ⟨by decide, rfl⟩ (Nat.le_of_ble_eq_true rfl) ?_
  intro p e s mm args below meth cd A Q hx hb hml hown htg hN hK hA hP hD hS hE ls hl
  have hl : lv_has ls 4 [(0, .ref (a0 0)), (1, .int p1), (2, .int p2)] := hl
  replace h : _ = some res := h
  unfold G_X1_inSomeHole at h
  obtain ⟨H, hH⟩ : ∃ H, H = s.heap := ⟨_, rfl⟩
  obtain ⟨locs, hlocs⟩ : ∃ locs : List Loc, locs = [] := ⟨_, rfl⟩
  rw [← hlocs] at hS ⊢
  have hS : va_S A s.heap H locs := by rw [hH]; exact hS
  rw [← hH] at hP ⊢
  refine lv_iconst (v := 1) hx hb dX1_inSomeHole_0 (by decide) ?_
  refine lv_istore_n (lv' := [(3, .int 1), (0, .ref (a0 0)), (1, .int p1), (2, .int p2)]) hx hb dX1_inSomeHole_1 rfl hl (by decide) rfl (fun ls hl => ?_)
  have hL2 : ∀ (n2 : Nat) (l3_2 : Int32) (l1_2 : Int32) (l2_2 : Int32) (H : Heap) (locs : List Loc) (ls : Array Slot), G_X1_inSomeHole_L2 f0 n2 l3_2 l1_2 l2_2 = some res → va_P (dC, dI) vwCl (wFig a0 cy f0) H → va_D A (wFig a0 cy f0) → va_S A s.heap H locs → lv_has ls 4 [(3, .int l3_2), (0, .ref (a0 0)), (1, .int l1_2), (2, .int l2_2)] → W p l e rm_X1_inSomeHole s mm args below meth cd H locs 0 0 Q (F0 mm 2 ls []) := by
    intro n2
    induction n2 with
    | zero => intro l3_2 l1_2 l2_2 H locs ls h; exact absurd h (by simp [G_X1_inSomeHole_L2])
    | succ n2 ih2 =>
      intro l3_2 l1_2 l2_2 H locs ls h hP hD hS hl
      rw [G_X1_inSomeHole_L2] at h
      refine lv_iload_n hx hb dX1_inSomeHole_2 rfl (lv_at hl 0 rfl) ?_
      refine lv_aload_n hx hb dX1_inSomeHole_3 rfl (lv_at hl 1 rfl) ?_
      refine va_get (D := (dC, dI)) (ci := 0) (v := .int (f_rings f0)) (C := RX1) (T := TX1) (N := 6) hx hb htg inX1 hown hK hP 0 rfl rfl 0 (by decide) (htg _ gw91) (fun _ h9 => h9) rfl dX1_inSomeHole_4 ?_
      refine lv_icmp_ge (tgt := 28) hx hb dX1_inSomeHole_7 (by decide) (fun c7 => ?_) (fun c7 => ?_)
      · replace h := if_t h c7
        refine lv_iconst (v := 0) hx hb dX1_inSomeHole_28 (by decide) ?_
        obtain rfl := Option.some.inj h
        exact hE H locs 29 ls _ hP hD hS rfl (Or.inl rfl) dX1_inSomeHole_29
      replace h := if_f h c7
      refine lv_aload_n hx hb dX1_inSomeHole_10 rfl (lv_at hl 1 rfl) ?_
      refine lv_iload_n hx hb dX1_inSomeHole_11 rfl (lv_at hl 0 rfl) ?_
      refine lv_iload_n hx hb dX1_inSomeHole_12 rfl (lv_at hl 2 rfl) ?_
      refine lv_iload_n hx hb dX1_inSomeHole_13 rfl (lv_at hl 3 rfl) ?_
      obtain ⟨v14, e14, h⟩ := bnd h
      refine cV (av := [.int l3_2, .int l1_2, .int l2_2]) (rest := []) (st1 := [.int v14]) (k1 := 0) (k2 := 0) (ci := 0) (q0 := 0) hx hb hml hown htg hN hK (c_X1_surrounds l dC dI cy a0 f0 l3_2 l1_2 l2_2 v14 e14) (g_V gw423 gw298 gw299 gw60 gw300) hdV_X1_surrounds rfl ⟨⟨Nat.le_of_ble_eq_true rfl, Nat.le_of_ble_eq_true rfl⟩, Nat.le_of_ble_eq_true rfl, Nat.le_of_ble_eq_true rfl⟩ hP hD hS hA ⟨rfl, rfl⟩ rfl [0, 1, 2, 3, 4] [] rfl rfl rfl (by decide) (by decide) hl.1 rfl (Nat.le_of_ble_eq_true rfl) rfl rfl rfl dX1_inSomeHole_14 (fun H locs hP hD hS => ?_)
      have hP : va_P (dC, dI) vwCl (wFig a0 cy f0) H := hP
      have hD : va_D A (wFig a0 cy f0) := hD
      refine lv_if_eq (tgt := 22) hx hb dX1_inSomeHole_17 (by decide) (fun c17 => ?_) (fun c17 => ?_)
      · replace h := if_t h c17
        refine lv_iinc (v := l3_2 + 1) (lv' := [(3, .int (l3_2 + 1)), (0, .ref (a0 0)), (1, .int l1_2), (2, .int l2_2)]) hx hb dX1_inSomeHole_22 hl (k := 0) rfl rfl (by decide) rfl (fun ls hl => ?_)
        refine lv_goto (tgt := 2) hx hb dX1_inSomeHole_25 (by decide) ?_
        exact ih2 (l3_2 + 1) l1_2 l2_2 H locs ls h hP hD hS (lv_sub hl [0, 1, 2, 3] rfl)
      replace h := if_f h c17
      refine lv_iconst (v := 1) hx hb dX1_inSomeHole_20 (by decide) ?_
      obtain rfl := Option.some.inj h
      exact hE H locs 21 ls _ hP hD hS rfl (Or.inr rfl) dX1_inSomeHole_21
  exact hL2 FU 1 p1 p2 H locs ls h hP hD hS (lv_sub hl [0, 1, 2, 3] rfl)
def G_X1_mirrorAll_L2   : Nat → Fig → Int32 → Option (Fig)
  | 0, _, _ => none
  | n2 + 1, f0_2, l1_2 =>
    if f_corners f0_2 ≤ l1_2 then
      some f0_2
    else
      (rd 40 (f_xs f0_2) l1_2).bind fun v22 =>
      (wr 40 (f_xs f0_2) l1_2 (15 - v22)).bind fun g24 =>
      (G_X1_mirrorAll_L2 n2) (fs_xs f0_2 g24) (l1_2 + 1)
def G_X1_mirrorAll (f0 : Fig) : Option (Fig) :=
  G_X1_mirrorAll_L2 FU f0 0
abbrev rm_X1_mirrorAll : Room := { frames := 0, cells := 0, slots := 0, locals := 0 }
theorem hdS_X1_mirrorAll : yX1_mirrorAll.cls ≠ "java/lang/invoke/MethodHandle" ∧ yX1_mirrorAll.cls ≠ "java/lang/invoke/VarHandle" ∧ (parseMethodDescriptor yX1_mirrorAll.desc).map (fun d => d.parameters.length) = some 0 := by decide +kernel
theorem hdV_X1_mirrorAll : yX1_mirrorAll.cls = RX1 ∧ yX1_mirrorAll.cls ≠ "java/lang/invoke/MethodHandle" ∧ yX1_mirrorAll.cls ≠ "java/lang/invoke/VarHandle" ∧ (parseMethodDescriptor yX1_mirrorAll.desc).map (fun d => d.parameters.length) = some 0 := ⟨rfl, hdS_X1_mirrorAll⟩
set_option maxHeartbeats 4000000 in
set_option maxRecDepth 100000 in
theorem c_X1_mirrorAll (l : Launch) (dC : Nat → ClassId) (dI : Nat → Nat → Nat) (cy : Nat → ClassId) (a0 : Nat → Nat) (f0 : Fig) (res : Fig) (h : G_X1_mirrorAll f0 = some res) : CT l (dC, dI) (TY cy) yX1_mirrorAll cX1_mirrorAll 2 none rm_X1_mirrorAll [.ref (a0 0)] (wFig a0 cy f0) (wFig a0 cy res) none := by
  refine CT.mk_v (own := RX1) ⟨by decide, rfl⟩ (Nat.le_of_ble_eq_true rfl) ?_
  intro p e s mm args below meth cd A Q hx hb hml hown htg hN hK hA hP hD hS hE ls hl
  have hl : lv_has ls 2 [(0, .ref (a0 0))] := hl
  replace h : _ = some res := h
  unfold G_X1_mirrorAll at h
  obtain ⟨H, hH⟩ : ∃ H, H = s.heap := ⟨_, rfl⟩
  obtain ⟨locs, hlocs⟩ : ∃ locs : List Loc, locs = [] := ⟨_, rfl⟩
  rw [← hlocs] at hS ⊢
  have hS : va_S A s.heap H locs := by rw [hH]; exact hS
  rw [← hH] at hP ⊢
  refine lv_iconst (v := 0) hx hb dX1_mirrorAll_0 (by decide) ?_
  refine lv_istore_n (lv' := [(1, .int 0), (0, .ref (a0 0))]) hx hb dX1_mirrorAll_1 rfl hl (by decide) rfl (fun ls hl => ?_)
  have hL2 : ∀ (n2 : Nat) (f0_2 : Fig) (l1_2 : Int32) (H : Heap) (locs : List Loc) (ls : Array Slot), G_X1_mirrorAll_L2 n2 f0_2 l1_2 = some res → va_P (dC, dI) vwCl (wFig a0 cy f0_2) H → va_D A (wFig a0 cy f0_2) → va_S A s.heap H locs → lv_has ls 2 [(1, .int l1_2), (0, .ref (a0 0))] → W p l e rm_X1_mirrorAll s mm args below meth cd H locs 0 0 Q (F0 mm 2 ls []) := by
    intro n2
    induction n2 with
    | zero => intro f0_2 l1_2 H locs ls h; exact absurd h (by simp [G_X1_mirrorAll_L2])
    | succ n2 ih2 =>
      intro f0_2 l1_2 H locs ls h hP hD hS hl
      rw [G_X1_mirrorAll_L2] at h
      refine lv_iload_n hx hb dX1_mirrorAll_2 rfl (lv_at hl 0 rfl) ?_
      refine lv_aload_n hx hb dX1_mirrorAll_3 rfl (lv_at hl 1 rfl) ?_
      refine va_get (D := (dC, dI)) (ci := 0) (v := .int (f_corners f0_2)) (C := RX1) (T := TX1) (N := 6) hx hb htg inX1 hown hK hP 0 rfl rfl 1 (by decide) (htg _ gw97) (fun _ h9 => h9) rfl dX1_mirrorAll_4 ?_
      refine lv_icmp_ge (tgt := 31) hx hb dX1_mirrorAll_7 (by decide) (fun c7 => ?_) (fun c7 => ?_)
      · replace h := if_t h c7
        obtain rfl := Option.some.inj h
        exact hE H locs 31 ls hP hD hS dX1_mirrorAll_31
      replace h := if_f h c7
      refine lv_aload_n hx hb dX1_mirrorAll_10 rfl (lv_at hl 1 rfl) ?_
      refine va_get (D := (dC, dI)) (ci := 0) (v := .ref (a0 2)) (C := RX1) (T := TX1) (N := 6) hx hb htg inX1 hown hK hP 0 rfl rfl 3 (by decide) (htg _ gw103) (fun _ h9 => h9) rfl dX1_mirrorAll_11 ?_
      refine lv_iload_n hx hb dX1_mirrorAll_14 rfl (lv_at hl 0 rfl) ?_
      refine lv_bipush (v := 15) hx hb dX1_mirrorAll_15 (by decide) ?_
      refine lv_aload_n hx hb dX1_mirrorAll_17 rfl (lv_at hl 1 rfl) ?_
      refine va_get (D := (dC, dI)) (ci := 0) (v := .ref (a0 2)) (C := RX1) (T := TX1) (N := 6) hx hb htg inX1 hown hK hP 0 rfl rfl 3 (by decide) (htg _ gw103) (fun _ h9 => h9) rfl dX1_mirrorAll_18 ?_
      refine lv_iload_n hx hb dX1_mirrorAll_21 rfl (lv_at hl 0 rfl) ?_
      obtain ⟨v22, e22, h⟩ := bnd h
      refine x_iald (v := v22) hx hb hK hP 2 0 rfl rfl e22 dX1_mirrorAll_22 ?_
      refine lv_isub hx hb dX1_mirrorAll_23 ?_
      obtain ⟨g24, e24, h⟩ := bnd h
      refine x_iast (g := g24) hx hb hK hP hD hS 2 0 rfl rfl e24 dX1_mirrorAll_24 (fun H locs hP hD hS => ?_)
      have hP : va_P (dC, dI) vwCl (wFig a0 cy (fs_xs f0_2 g24)) H := hP
      have hD : va_D A (wFig a0 cy (fs_xs f0_2 g24)) := hD
      refine lv_iinc (v := l1_2 + 1) (lv' := [(1, .int (l1_2 + 1)), (0, .ref (a0 0))]) hx hb dX1_mirrorAll_25 hl (k := 0) rfl rfl (by decide) rfl (fun ls hl => ?_)
      refine lv_goto (tgt := 2) hx hb dX1_mirrorAll_28 (by decide) ?_
      exact ih2 (fs_xs f0_2 g24) (l1_2 + 1) H locs ls h hP hD hS (lv_sub hl [0, 1] rfl)
  exact hL2 FU f0 0 H locs ls h hP hD hS (lv_sub hl [0, 1] rfl)
def G_X1_placeOf_L2  (f0 : Fig) : Nat → Int32 → Int32 → Int32 → Option (Int32)
  | 0, _, _, _ => none
  | n2 + 1, l3_2, l1_2, l2_2 =>
    if f_corners f0 ≤ l3_2 then
      (G_X1_surrounds f0 0 (2 * l1_2) (2 * l2_2)).bind fun v41 =>
      if v41 = 0 then
        some 0
      else
        (G_X1_inSomeHole f0 (2 * l1_2) (2 * l2_2)).bind fun v56 =>
        if v56 = 0 then
          some 2
        else
          some 3
    else
      (G_X1_nextOf f0 l3_2).bind fun v16 =>
      (G_X1_onLine f0 l1_2 l2_2 l3_2 v16).bind fun v19 =>
      if v19 = 0 then
        (G_X1_placeOf_L2 f0 n2) (l3_2 + 1) l1_2 l2_2
      else
        some 1
def G_X1_placeOf (f0 : Fig) (p1 : Int32) (p2 : Int32) : Option (Int32) :=
  G_X1_placeOf_L2 f0 FU 0 p1 p2
abbrev rm_X1_placeOf : Room := { frames := 3, cells := 0, slots := 0, locals := 77 }
theorem hdS_X1_placeOf : yX1_placeOf.cls ≠ "java/lang/invoke/MethodHandle" ∧ yX1_placeOf.cls ≠ "java/lang/invoke/VarHandle" ∧ (parseMethodDescriptor yX1_placeOf.desc).map (fun d => d.parameters.length) = some 2 := by decide +kernel
theorem hdV_X1_placeOf : yX1_placeOf.cls = RX1 ∧ yX1_placeOf.cls ≠ "java/lang/invoke/MethodHandle" ∧ yX1_placeOf.cls ≠ "java/lang/invoke/VarHandle" ∧ (parseMethodDescriptor yX1_placeOf.desc).map (fun d => d.parameters.length) = some 2 := ⟨rfl, hdS_X1_placeOf⟩
set_option maxHeartbeats 4000000 in
set_option maxRecDepth 100000 in
theorem c_X1_placeOf (l : Launch) (dC : Nat → ClassId) (dI : Nat → Nat → Nat) (cy : Nat → ClassId) (a0 : Nat → Nat) (f0 : Fig) (p1 : Int32) (p2 : Int32) (res : Int32) (h : G_X1_placeOf f0 p1 p2 = some res) : CT l (dC, dI) (TY cy) yX1_placeOf cX1_placeOf 4 (some .int) rm_X1_placeOf [.ref (a0 0), .int p1, .int p2] (wFig a0 cy f0) (wFig a0 cy f0) (some (.int res)) := by
  refine CT.mk_i (own := RX1) ⟨by decide, rfl⟩ (Nat.le_of_ble_eq_true rfl) ?_
  intro p e s mm args below meth cd A Q hx hb hml hown htg hN hK hA hP hD hS hE ls hl
  have hl : lv_has ls 4 [(0, .ref (a0 0)), (1, .int p1), (2, .int p2)] := hl
  replace h : _ = some res := h
  unfold G_X1_placeOf at h
  obtain ⟨H, hH⟩ : ∃ H, H = s.heap := ⟨_, rfl⟩
  obtain ⟨locs, hlocs⟩ : ∃ locs : List Loc, locs = [] := ⟨_, rfl⟩
  rw [← hlocs] at hS ⊢
  have hS : va_S A s.heap H locs := by rw [hH]; exact hS
  rw [← hH] at hP ⊢
  refine lv_iconst (v := 0) hx hb dX1_placeOf_0 (by decide) ?_
  refine lv_istore_n (lv' := [(3, .int 0), (0, .ref (a0 0)), (1, .int p1), (2, .int p2)]) hx hb dX1_placeOf_1 rfl hl (by decide) rfl (fun ls hl => ?_)
  have hL2 : ∀ (n2 : Nat) (l3_2 : Int32) (l1_2 : Int32) (l2_2 : Int32) (H : Heap) (locs : List Loc) (ls : Array Slot), G_X1_placeOf_L2 f0 n2 l3_2 l1_2 l2_2 = some res → va_P (dC, dI) vwCl (wFig a0 cy f0) H → va_D A (wFig a0 cy f0) → va_S A s.heap H locs → lv_has ls 4 [(3, .int l3_2), (0, .ref (a0 0)), (1, .int l1_2), (2, .int l2_2)] → W p l e rm_X1_placeOf s mm args below meth cd H locs 0 0 Q (F0 mm 2 ls []) := by
    intro n2
    induction n2 with
    | zero => intro l3_2 l1_2 l2_2 H locs ls h; exact absurd h (by simp [G_X1_placeOf_L2])
    | succ n2 ih2 =>
      intro l3_2 l1_2 l2_2 H locs ls h hP hD hS hl
      rw [G_X1_placeOf_L2] at h
      refine lv_iload_n hx hb dX1_placeOf_2 rfl (lv_at hl 0 rfl) ?_
      refine lv_aload_n hx hb dX1_placeOf_3 rfl (lv_at hl 1 rfl) ?_
      refine va_get (D := (dC, dI)) (ci := 0) (v := .int (f_corners f0)) (C := RX1) (T := TX1) (N := 6) hx hb htg inX1 hown hK hP 0 rfl rfl 1 (by decide) (htg _ gw97) (fun _ h9 => h9) rfl dX1_placeOf_4 ?_
      refine lv_icmp_ge (tgt := 33) hx hb dX1_placeOf_7 (by decide) (fun c7 => ?_) (fun c7 => ?_)
      · replace h := if_t h c7
        refine lv_aload_n hx hb dX1_placeOf_33 rfl (lv_at hl 1 rfl) ?_
        refine lv_iconst (v := 0) hx hb dX1_placeOf_34 (by decide) ?_
        refine lv_iconst (v := 2) hx hb dX1_placeOf_35 (by decide) ?_
        refine lv_iload_n hx hb dX1_placeOf_36 rfl (lv_at hl 2 rfl) ?_
        refine lv_imul hx hb dX1_placeOf_37 ?_
        refine lv_iconst (v := 2) hx hb dX1_placeOf_38 (by decide) ?_
        refine lv_iload_n hx hb dX1_placeOf_39 rfl (lv_at hl 3 rfl) ?_
        refine lv_imul hx hb dX1_placeOf_40 ?_
        obtain ⟨v41, e41, h⟩ := bnd h
        refine cV (av := [.int 0, .int (2 * l1_2), .int (2 * l2_2)]) (rest := []) (st1 := [.int v41]) (k1 := 0) (k2 := 0) (ci := 0) (q0 := 0) hx hb hml hown htg hN hK (c_X1_surrounds l dC dI cy a0 f0 0 (2 * l1_2) (2 * l2_2) v41 e41) (g_V gw423 gw298 gw299 gw60 gw300) hdV_X1_surrounds rfl ⟨⟨Nat.le_of_ble_eq_true rfl, Nat.le_of_ble_eq_true rfl⟩, Nat.le_of_ble_eq_true rfl, Nat.le_of_ble_eq_true rfl⟩ hP hD hS hA ⟨rfl, rfl⟩ rfl [0, 1, 2, 3, 4] [] rfl rfl rfl (by decide) (by decide) hl.1 rfl (Nat.le_of_ble_eq_true rfl) rfl rfl rfl dX1_placeOf_41 (fun H locs hP hD hS => ?_)
        have hP : va_P (dC, dI) vwCl (wFig a0 cy f0) H := hP
        have hD : va_D A (wFig a0 cy f0) := hD
        refine lv_if_ne (tgt := 49) hx hb dX1_placeOf_44 (by decide) (fun c44 => ?_) (fun c44 => ?_)
        · replace h := if_f h c44
          refine lv_aload_n hx hb dX1_placeOf_49 rfl (lv_at hl 1 rfl) ?_
          refine lv_iconst (v := 2) hx hb dX1_placeOf_50 (by decide) ?_
          refine lv_iload_n hx hb dX1_placeOf_51 rfl (lv_at hl 2 rfl) ?_
          refine lv_imul hx hb dX1_placeOf_52 ?_
          refine lv_iconst (v := 2) hx hb dX1_placeOf_53 (by decide) ?_
          refine lv_iload_n hx hb dX1_placeOf_54 rfl (lv_at hl 3 rfl) ?_
          refine lv_imul hx hb dX1_placeOf_55 ?_
          obtain ⟨v56, e56, h⟩ := bnd h
          refine cV (av := [.int (2 * l1_2), .int (2 * l2_2)]) (rest := []) (st1 := [.int v56]) (k1 := 0) (k2 := 0) (ci := 0) (q0 := 0) hx hb hml hown htg hN hK (c_X1_inSomeHole l dC dI cy a0 f0 (2 * l1_2) (2 * l2_2) v56 e56) (g_V gw648 gw420 gw421 gw60 gw422) hdV_X1_inSomeHole rfl ⟨⟨Nat.le_of_ble_eq_true rfl, Nat.le_of_ble_eq_true rfl⟩, Nat.le_of_ble_eq_true rfl, Nat.le_of_ble_eq_true rfl⟩ hP hD hS hA ⟨rfl, rfl⟩ rfl [0, 1, 2, 3, 4] [] rfl rfl rfl (by decide) (by decide) hl.1 rfl (Nat.le_of_ble_eq_true rfl) rfl rfl rfl dX1_placeOf_56 (fun H locs hP hD hS => ?_)
          have hP : va_P (dC, dI) vwCl (wFig a0 cy f0) H := hP
          have hD : va_D A (wFig a0 cy f0) := hD
          refine lv_if_eq (tgt := 66) hx hb dX1_placeOf_59 (by decide) (fun c59 => ?_) (fun c59 => ?_)
          · replace h := if_t h c59
            refine lv_iconst (v := 2) hx hb dX1_placeOf_66 (by decide) ?_
            obtain rfl := Option.some.inj h
            exact hE H locs 67 ls _ hP hD hS rfl dX1_placeOf_67
          replace h := if_f h c59
          refine lv_iconst (v := 3) hx hb dX1_placeOf_62 (by decide) ?_
          refine lv_goto (tgt := 67) hx hb dX1_placeOf_63 (by decide) ?_
          obtain rfl := Option.some.inj h
          exact hE H locs 67 ls _ hP hD hS rfl dX1_placeOf_67
        replace h := if_t h c44
        refine lv_iconst (v := 0) hx hb dX1_placeOf_47 (by decide) ?_
        obtain rfl := Option.some.inj h
        exact hE H locs 48 ls _ hP hD hS rfl dX1_placeOf_48
      replace h := if_f h c7
      refine lv_aload_n hx hb dX1_placeOf_10 rfl (lv_at hl 1 rfl) ?_
      refine lv_iload_n hx hb dX1_placeOf_11 rfl (lv_at hl 2 rfl) ?_
      refine lv_iload_n hx hb dX1_placeOf_12 rfl (lv_at hl 3 rfl) ?_
      refine lv_iload_n hx hb dX1_placeOf_13 rfl (lv_at hl 0 rfl) ?_
      refine lv_aload_n hx hb dX1_placeOf_14 rfl (lv_at hl 1 rfl) ?_
      refine lv_iload_n hx hb dX1_placeOf_15 rfl (lv_at hl 0 rfl) ?_
      obtain ⟨v16, e16, h⟩ := bnd h
      refine cV (av := [.int l3_2]) (rest := [.int l3_2, .int l2_2, .int l1_2, .ref (a0 0)]) (st1 := [.int v16, .int l3_2, .int l2_2, .int l1_2, .ref (a0 0)]) (k1 := 0) (k2 := 0) (ci := 0) (q0 := 0) hx hb hml hown htg hN hK (c_X1_nextOf l dC dI cy a0 f0 l3_2 v16 e16) (g_V gw258 gw259 gw260 gw60 gw261) hdV_X1_nextOf rfl ⟨⟨Nat.le_of_ble_eq_true rfl, Nat.le_of_ble_eq_true rfl⟩, Nat.le_of_ble_eq_true rfl, Nat.le_of_ble_eq_true rfl⟩ hP hD hS hA ⟨rfl, rfl⟩ rfl [0, 1, 2, 3, 4] [] rfl rfl rfl (by decide) (by decide) hl.1 rfl (Nat.le_of_ble_eq_true rfl) rfl rfl rfl dX1_placeOf_16 (fun H locs hP hD hS => ?_)
      have hP : va_P (dC, dI) vwCl (wFig a0 cy f0) H := hP
      have hD : va_D A (wFig a0 cy f0) := hD
      obtain ⟨v19, e19, h⟩ := bnd h
      refine cV (av := [.int l1_2, .int l2_2, .int l3_2, .int v16]) (rest := []) (st1 := [.int v19]) (k1 := 0) (k2 := 0) (ci := 0) (q0 := 0) hx hb hml hown htg hN hK (c_X1_onLine l dC dI cy a0 f0 l1_2 l2_2 l3_2 v16 v19 e19) (g_V gw283 gw284 gw285 gw60 gw286) hdV_X1_onLine rfl ⟨⟨Nat.le_of_ble_eq_true rfl, Nat.le_of_ble_eq_true rfl⟩, Nat.le_of_ble_eq_true rfl, Nat.le_of_ble_eq_true rfl⟩ hP hD hS hA ⟨rfl, rfl⟩ rfl [0, 1, 2, 3, 4] [] rfl rfl rfl (by decide) (by decide) hl.1 rfl (Nat.le_of_ble_eq_true rfl) rfl rfl rfl dX1_placeOf_19 (fun H locs hP hD hS => ?_)
      have hP : va_P (dC, dI) vwCl (wFig a0 cy f0) H := hP
      have hD : va_D A (wFig a0 cy f0) := hD
      refine lv_if_eq (tgt := 27) hx hb dX1_placeOf_22 (by decide) (fun c22 => ?_) (fun c22 => ?_)
      · replace h := if_t h c22
        refine lv_iinc (v := l3_2 + 1) (lv' := [(3, .int (l3_2 + 1)), (0, .ref (a0 0)), (1, .int l1_2), (2, .int l2_2)]) hx hb dX1_placeOf_27 hl (k := 0) rfl rfl (by decide) rfl (fun ls hl => ?_)
        refine lv_goto (tgt := 2) hx hb dX1_placeOf_30 (by decide) ?_
        exact ih2 (l3_2 + 1) l1_2 l2_2 H locs ls h hP hD hS (lv_sub hl [0, 1, 2, 3] rfl)
      replace h := if_f h c22
      refine lv_iconst (v := 1) hx hb dX1_placeOf_25 (by decide) ?_
      obtain rfl := Option.some.inj h
      exact hE H locs 26 ls _ hP hD hS rfl dX1_placeOf_26
  exact hL2 FU 0 p1 p2 H locs ls h hP hD hS (lv_sub hl [0, 1, 2, 3] rfl)
def G_X1_stepsOfSide_j59 (r36 : Int32 → Int32 → Int32 → Option (Int32)) (f0 : Fig) (l4_59 : Int32) (l3_59 : Int32) (l2_59 : Int32) : Option (Int32) :=
  r36 (l4_59 + (-1)) l3_59 l2_59
def G_X1_stepsOfSide_L36  (f0 : Fig) : Nat → Int32 → Int32 → Int32 → Option (Int32)
  | 0, _, _, _ => none
  | n36 + 1, l4_36, l3_36, l2_36 =>
    if l4_36 ≤ 1 then
      some 1
    else
      (rmI l2_36 l4_36).bind fun v45 =>
      if v45 = 0 then
        (rmI l3_36 l4_36).bind fun v52 =>
        if v52 = 0 then
          some l4_36
        else
          G_X1_stepsOfSide_j59 (G_X1_stepsOfSide_L36 f0 n36) f0 l4_36 l3_36 l2_36
      else
        G_X1_stepsOfSide_j59 (G_X1_stepsOfSide_L36 f0 n36) f0 l4_36 l3_36 l2_36
def G_X1_stepsOfSide (f0 : Fig) (p1 : Int32) : Option (Int32) :=
  (G_X1_nextOf f0 p1).bind fun v3 =>
  (G_X1_xOf f0 v3).bind fun v6 =>
  (G_X1_xOf f0 p1).bind fun v11 =>
  (G_X1_nextOf f0 p1).bind fun v19 =>
  (G_X1_yOf f0 v19).bind fun v22 =>
  (G_X1_yOf f0 p1).bind fun v27 =>
  G_X1_stepsOfSide_L36 f0 FU 15 (v22 - v27) (v6 - v11)
abbrev rm_X1_stepsOfSide : Room := { frames := 1, cells := 0, slots := 0, locals := 21 }
theorem hdS_X1_stepsOfSide : yX1_stepsOfSide.cls ≠ "java/lang/invoke/MethodHandle" ∧ yX1_stepsOfSide.cls ≠ "java/lang/invoke/VarHandle" ∧ (parseMethodDescriptor yX1_stepsOfSide.desc).map (fun d => d.parameters.length) = some 1 := by decide +kernel
theorem hdV_X1_stepsOfSide : yX1_stepsOfSide.cls = RX1 ∧ yX1_stepsOfSide.cls ≠ "java/lang/invoke/MethodHandle" ∧ yX1_stepsOfSide.cls ≠ "java/lang/invoke/VarHandle" ∧ (parseMethodDescriptor yX1_stepsOfSide.desc).map (fun d => d.parameters.length) = some 1 := ⟨rfl, hdS_X1_stepsOfSide⟩
set_option maxHeartbeats 4000000 in
set_option maxRecDepth 100000 in
theorem c_X1_stepsOfSide (l : Launch) (dC : Nat → ClassId) (dI : Nat → Nat → Nat) (cy : Nat → ClassId) (a0 : Nat → Nat) (f0 : Fig) (p1 : Int32) (res : Int32) (h : G_X1_stepsOfSide f0 p1 = some res) : CT l (dC, dI) (TY cy) yX1_stepsOfSide cX1_stepsOfSide 5 (some .int) rm_X1_stepsOfSide [.ref (a0 0), .int p1] (wFig a0 cy f0) (wFig a0 cy f0) (some (.int res)) := by
  refine CT.mk_i (own := RX1) ⟨by decide, rfl⟩ (Nat.le_of_ble_eq_true rfl) ?_
  intro p e s mm args below meth cd A Q hx hb hml hown htg hN hK hA hP hD hS hE ls hl
  have hl : lv_has ls 5 [(0, .ref (a0 0)), (1, .int p1)] := hl
  replace h : _ = some res := h
  unfold G_X1_stepsOfSide at h
  obtain ⟨H, hH⟩ : ∃ H, H = s.heap := ⟨_, rfl⟩
  obtain ⟨locs, hlocs⟩ : ∃ locs : List Loc, locs = [] := ⟨_, rfl⟩
  rw [← hlocs] at hS ⊢
  have hS : va_S A s.heap H locs := by rw [hH]; exact hS
  rw [← hH] at hP ⊢
  refine lv_aload_n hx hb dX1_stepsOfSide_0 rfl (lv_at hl 0 rfl) ?_
  refine lv_aload_n hx hb dX1_stepsOfSide_1 rfl (lv_at hl 0 rfl) ?_
  refine lv_iload_n hx hb dX1_stepsOfSide_2 rfl (lv_at hl 1 rfl) ?_
  obtain ⟨v3, e3, h⟩ := bnd h
  refine cV (av := [.int p1]) (rest := [.ref (a0 0)]) (st1 := [.int v3, .ref (a0 0)]) (k1 := 0) (k2 := 0) (ci := 0) (q0 := 0) hx hb hml hown htg hN hK (c_X1_nextOf l dC dI cy a0 f0 p1 v3 e3) (g_V gw258 gw259 gw260 gw60 gw261) hdV_X1_nextOf rfl ⟨⟨Nat.le_of_ble_eq_true rfl, Nat.le_of_ble_eq_true rfl⟩, Nat.le_of_ble_eq_true rfl, Nat.le_of_ble_eq_true rfl⟩ hP hD hS hA ⟨rfl, rfl⟩ rfl [0, 1, 2, 3, 4] [] rfl rfl rfl (by decide) (by decide) hl.1 rfl (Nat.le_of_ble_eq_true rfl) rfl rfl rfl dX1_stepsOfSide_3 (fun H locs hP hD hS => ?_)
  have hP : va_P (dC, dI) vwCl (wFig a0 cy f0) H := hP
  have hD : va_D A (wFig a0 cy f0) := hD
  obtain ⟨v6, e6, h⟩ := bnd h
  refine cV (av := [.int v3]) (rest := []) (st1 := [.int v6]) (k1 := 0) (k2 := 0) (ci := 0) (q0 := 0) hx hb hml hown htg hN hK (c_X1_xOf l dC dI cy a0 f0 v3 v6 e6) (g_V gw262 gw241 gw242 gw60 gw243) hdV_X1_xOf rfl ⟨⟨Nat.le_of_ble_eq_true rfl, Nat.le_of_ble_eq_true rfl⟩, Nat.le_of_ble_eq_true rfl, Nat.le_of_ble_eq_true rfl⟩ hP hD hS hA ⟨rfl, rfl⟩ rfl [0, 1, 2, 3, 4] [] rfl rfl rfl (by decide) (by decide) hl.1 rfl (Nat.le_of_ble_eq_true rfl) rfl rfl rfl dX1_stepsOfSide_6 (fun H locs hP hD hS => ?_)
  have hP : va_P (dC, dI) vwCl (wFig a0 cy f0) H := hP
  have hD : va_D A (wFig a0 cy f0) := hD
  refine lv_aload_n hx hb dX1_stepsOfSide_9 rfl (lv_at hl 0 rfl) ?_
  refine lv_iload_n hx hb dX1_stepsOfSide_10 rfl (lv_at hl 1 rfl) ?_
  obtain ⟨v11, e11, h⟩ := bnd h
  refine cV (av := [.int p1]) (rest := [.int v6]) (st1 := [.int v11, .int v6]) (k1 := 0) (k2 := 0) (ci := 0) (q0 := 0) hx hb hml hown htg hN hK (c_X1_xOf l dC dI cy a0 f0 p1 v11 e11) (g_V gw262 gw241 gw242 gw60 gw243) hdV_X1_xOf rfl ⟨⟨Nat.le_of_ble_eq_true rfl, Nat.le_of_ble_eq_true rfl⟩, Nat.le_of_ble_eq_true rfl, Nat.le_of_ble_eq_true rfl⟩ hP hD hS hA ⟨rfl, rfl⟩ rfl [0, 1, 2, 3, 4] [] rfl rfl rfl (by decide) (by decide) hl.1 rfl (Nat.le_of_ble_eq_true rfl) rfl rfl rfl dX1_stepsOfSide_11 (fun H locs hP hD hS => ?_)
  have hP : va_P (dC, dI) vwCl (wFig a0 cy f0) H := hP
  have hD : va_D A (wFig a0 cy f0) := hD
  refine lv_isub hx hb dX1_stepsOfSide_14 ?_
  refine lv_istore_n (lv' := [(2, .int (v6 - v11)), (0, .ref (a0 0)), (1, .int p1)]) hx hb dX1_stepsOfSide_15 rfl hl (by decide) rfl (fun ls hl => ?_)
  refine lv_aload_n hx hb dX1_stepsOfSide_16 rfl (lv_at hl 1 rfl) ?_
  refine lv_aload_n hx hb dX1_stepsOfSide_17 rfl (lv_at hl 1 rfl) ?_
  refine lv_iload_n hx hb dX1_stepsOfSide_18 rfl (lv_at hl 2 rfl) ?_
  obtain ⟨v19, e19, h⟩ := bnd h
  refine cV (av := [.int p1]) (rest := [.ref (a0 0)]) (st1 := [.int v19, .ref (a0 0)]) (k1 := 0) (k2 := 0) (ci := 0) (q0 := 0) hx hb hml hown htg hN hK (c_X1_nextOf l dC dI cy a0 f0 p1 v19 e19) (g_V gw258 gw259 gw260 gw60 gw261) hdV_X1_nextOf rfl ⟨⟨Nat.le_of_ble_eq_true rfl, Nat.le_of_ble_eq_true rfl⟩, Nat.le_of_ble_eq_true rfl, Nat.le_of_ble_eq_true rfl⟩ hP hD hS hA ⟨rfl, rfl⟩ rfl [0, 1, 2, 3, 4] [] rfl rfl rfl (by decide) (by decide) hl.1 rfl (Nat.le_of_ble_eq_true rfl) rfl rfl rfl dX1_stepsOfSide_19 (fun H locs hP hD hS => ?_)
  have hP : va_P (dC, dI) vwCl (wFig a0 cy f0) H := hP
  have hD : va_D A (wFig a0 cy f0) := hD
  obtain ⟨v22, e22, h⟩ := bnd h
  refine cV (av := [.int v19]) (rest := []) (st1 := [.int v22]) (k1 := 0) (k2 := 0) (ci := 0) (q0 := 0) hx hb hml hown htg hN hK (c_X1_yOf l dC dI cy a0 f0 v19 v22 e22) (g_V gw263 gw248 gw249 gw60 gw250) hdV_X1_yOf rfl ⟨⟨Nat.le_of_ble_eq_true rfl, Nat.le_of_ble_eq_true rfl⟩, Nat.le_of_ble_eq_true rfl, Nat.le_of_ble_eq_true rfl⟩ hP hD hS hA ⟨rfl, rfl⟩ rfl [0, 1, 2, 3, 4] [] rfl rfl rfl (by decide) (by decide) hl.1 rfl (Nat.le_of_ble_eq_true rfl) rfl rfl rfl dX1_stepsOfSide_22 (fun H locs hP hD hS => ?_)
  have hP : va_P (dC, dI) vwCl (wFig a0 cy f0) H := hP
  have hD : va_D A (wFig a0 cy f0) := hD
  refine lv_aload_n hx hb dX1_stepsOfSide_25 rfl (lv_at hl 1 rfl) ?_
  refine lv_iload_n hx hb dX1_stepsOfSide_26 rfl (lv_at hl 2 rfl) ?_
  obtain ⟨v27, e27, h⟩ := bnd h
  refine cV (av := [.int p1]) (rest := [.int v22]) (st1 := [.int v27, .int v22]) (k1 := 0) (k2 := 0) (ci := 0) (q0 := 0) hx hb hml hown htg hN hK (c_X1_yOf l dC dI cy a0 f0 p1 v27 e27) (g_V gw263 gw248 gw249 gw60 gw250) hdV_X1_yOf rfl ⟨⟨Nat.le_of_ble_eq_true rfl, Nat.le_of_ble_eq_true rfl⟩, Nat.le_of_ble_eq_true rfl, Nat.le_of_ble_eq_true rfl⟩ hP hD hS hA ⟨rfl, rfl⟩ rfl [0, 1, 2, 3, 4] [] rfl rfl rfl (by decide) (by decide) hl.1 rfl (Nat.le_of_ble_eq_true rfl) rfl rfl rfl dX1_stepsOfSide_27 (fun H locs hP hD hS => ?_)
  have hP : va_P (dC, dI) vwCl (wFig a0 cy f0) H := hP
  have hD : va_D A (wFig a0 cy f0) := hD
  refine lv_isub hx hb dX1_stepsOfSide_30 ?_
  refine lv_istore_n (lv' := [(3, .int (v22 - v27)), (2, .int (v6 - v11)), (0, .ref (a0 0)), (1, .int p1)]) hx hb dX1_stepsOfSide_31 rfl hl (by decide) rfl (fun ls hl => ?_)
  refine lv_bipush (v := 15) hx hb dX1_stepsOfSide_32 (by decide) ?_
  refine lv_istore (lv' := [(4, .int 15), (3, .int (v22 - v27)), (2, .int (v6 - v11)), (0, .ref (a0 0)), (1, .int p1)]) hx hb dX1_stepsOfSide_34 hl (by decide) rfl (fun ls hl => ?_)
  have hL36 : ∀ (n36 : Nat) (l4_36 : Int32) (l3_36 : Int32) (l2_36 : Int32) (H : Heap) (locs : List Loc) (ls : Array Slot), G_X1_stepsOfSide_L36 f0 n36 l4_36 l3_36 l2_36 = some res → va_P (dC, dI) vwCl (wFig a0 cy f0) H → va_D A (wFig a0 cy f0) → va_S A s.heap H locs → lv_has ls 5 [(4, .int l4_36), (3, .int l3_36), (2, .int l2_36)] → W p l e rm_X1_stepsOfSide s mm args below meth cd H locs 0 0 Q (F0 mm 36 ls []) := by
    intro n36
    induction n36 with
    | zero => intro l4_36 l3_36 l2_36 H locs ls h; exact absurd h (by simp [G_X1_stepsOfSide_L36])
    | succ n36 ih36 =>
      intro l4_36 l3_36 l2_36 H locs ls h hP hD hS hl
      rw [G_X1_stepsOfSide_L36] at h
      refine lv_iload hx hb dX1_stepsOfSide_36 (lv_at hl 0 rfl) ?_
      refine lv_iconst (v := 1) hx hb dX1_stepsOfSide_38 (by decide) ?_
      refine lv_icmp_le (tgt := 65) hx hb dX1_stepsOfSide_39 (by decide) (fun c39 => ?_) (fun c39 => ?_)
      · replace h := if_t h c39
        refine lv_iconst (v := 1) hx hb dX1_stepsOfSide_65 (by decide) ?_
        obtain rfl := Option.some.inj h
        exact hE H locs 66 ls _ hP hD hS rfl dX1_stepsOfSide_66
      replace h := if_f h c39
      refine lv_iload_n hx hb dX1_stepsOfSide_42 rfl (lv_at hl 2 rfl) ?_
      refine lv_iload hx hb dX1_stepsOfSide_43 (lv_at hl 0 rfl) ?_
      obtain ⟨v45, e45, h⟩ := bnd h
      refine x_irem hx hb e45 dX1_stepsOfSide_45 ?_
      have hj59 : ∀ (l4_59 : Int32) (l3_59 : Int32) (l2_59 : Int32) (H : Heap) (locs : List Loc) (ls : Array Slot), G_X1_stepsOfSide_j59 (G_X1_stepsOfSide_L36 f0 n36) f0 l4_59 l3_59 l2_59 = some res → va_P (dC, dI) vwCl (wFig a0 cy f0) H → va_D A (wFig a0 cy f0) → va_S A s.heap H locs → lv_has ls 5 [(4, .int l4_59), (3, .int l3_59), (2, .int l2_59)] → W p l e rm_X1_stepsOfSide s mm args below meth cd H locs 0 0 Q (F0 mm 59 ls []) := by
        intro l4_59 l3_59 l2_59 H locs ls h hP hD hS hl
        unfold G_X1_stepsOfSide_j59 at h
        refine lv_iinc (v := l4_59 + (-1)) (lv' := [(4, .int (l4_59 + (-1))), (3, .int l3_59), (2, .int l2_59)]) hx hb dX1_stepsOfSide_59 hl (k := 0) rfl rfl (by decide) rfl (fun ls hl => ?_)
        refine lv_goto (tgt := 36) hx hb dX1_stepsOfSide_62 (by decide) ?_
        exact ih36 (l4_59 + (-1)) l3_59 l2_59 H locs ls h hP hD hS (lv_sub hl [0, 1, 2] rfl)
      refine lv_if_ne (tgt := 59) hx hb dX1_stepsOfSide_46 (by decide) (fun c46 => ?_) (fun c46 => ?_)
      · replace h := if_f h c46
        exact hj59 l4_36 l3_36 l2_36 H locs ls h hP hD hS (lv_sub hl [0, 1, 2] rfl)
      replace h := if_t h c46
      refine lv_iload_n hx hb dX1_stepsOfSide_49 rfl (lv_at hl 1 rfl) ?_
      refine lv_iload hx hb dX1_stepsOfSide_50 (lv_at hl 0 rfl) ?_
      obtain ⟨v52, e52, h⟩ := bnd h
      refine x_irem hx hb e52 dX1_stepsOfSide_52 ?_
      refine lv_if_ne (tgt := 59) hx hb dX1_stepsOfSide_53 (by decide) (fun c53 => ?_) (fun c53 => ?_)
      · replace h := if_f h c53
        exact hj59 l4_36 l3_36 l2_36 H locs ls h hP hD hS (lv_sub hl [0, 1, 2] rfl)
      replace h := if_t h c53
      refine lv_iload hx hb dX1_stepsOfSide_56 (lv_at hl 0 rfl) ?_
      obtain rfl := Option.some.inj h
      exact hE H locs 58 ls _ hP hD hS rfl dX1_stepsOfSide_58
  exact hL36 FU 15 (v22 - v27) (v6 - v11) H locs ls h hP hD hS (lv_sub hl [0, 1, 2] rfl)
def G_X1_turnQuarter_L2   : Nat → Fig → Int32 → Option (Fig)
  | 0, _, _ => none
  | n2 + 1, f0_2, l1_2 =>
    if f_corners f0_2 ≤ l1_2 then
      some f0_2
    else
      (rd 40 (f_xs f0_2) l1_2).bind fun v15 =>
      (rd 40 (f_ys f0_2) l1_2).bind fun v29 =>
      (wr 40 (f_xs f0_2) l1_2 (15 - v29)).bind fun g31 =>
      (some (fs_xs f0_2 g31)).bind fun z0_38 =>
      (wr 40 (f_ys z0_38) l1_2 v15).bind fun g38 =>
      (G_X1_turnQuarter_L2 n2) (fs_ys z0_38 g38) (l1_2 + 1)
def G_X1_turnQuarter (f0 : Fig) : Option (Fig) :=
  G_X1_turnQuarter_L2 FU f0 0
abbrev rm_X1_turnQuarter : Room := { frames := 0, cells := 0, slots := 0, locals := 0 }
theorem hdS_X1_turnQuarter : yX1_turnQuarter.cls ≠ "java/lang/invoke/MethodHandle" ∧ yX1_turnQuarter.cls ≠ "java/lang/invoke/VarHandle" ∧ (parseMethodDescriptor yX1_turnQuarter.desc).map (fun d => d.parameters.length) = some 0 := by decide +kernel
theorem hdV_X1_turnQuarter : yX1_turnQuarter.cls = RX1 ∧ yX1_turnQuarter.cls ≠ "java/lang/invoke/MethodHandle" ∧ yX1_turnQuarter.cls ≠ "java/lang/invoke/VarHandle" ∧ (parseMethodDescriptor yX1_turnQuarter.desc).map (fun d => d.parameters.length) = some 0 := ⟨rfl, hdS_X1_turnQuarter⟩
set_option maxHeartbeats 4000000 in
set_option maxRecDepth 100000 in
theorem c_X1_turnQuarter (l : Launch) (dC : Nat → ClassId) (dI : Nat → Nat → Nat) (cy : Nat → ClassId) (a0 : Nat → Nat) (f0 : Fig) (res : Fig) (h : G_X1_turnQuarter f0 = some res) : CT l (dC, dI) (TY cy) yX1_turnQuarter cX1_turnQuarter 3 none rm_X1_turnQuarter [.ref (a0 0)] (wFig a0 cy f0) (wFig a0 cy res) none := by
  refine CT.mk_v (own := RX1) ⟨by decide, rfl⟩ (Nat.le_of_ble_eq_true rfl) ?_
  intro p e s mm args below meth cd A Q hx hb hml hown htg hN hK hA hP hD hS hE ls hl
  have hl : lv_has ls 3 [(0, .ref (a0 0))] := hl
  replace h : _ = some res := h
  unfold G_X1_turnQuarter at h
  obtain ⟨H, hH⟩ : ∃ H, H = s.heap := ⟨_, rfl⟩
  obtain ⟨locs, hlocs⟩ : ∃ locs : List Loc, locs = [] := ⟨_, rfl⟩
  rw [← hlocs] at hS ⊢
  have hS : va_S A s.heap H locs := by rw [hH]; exact hS
  rw [← hH] at hP ⊢
  refine lv_iconst (v := 0) hx hb dX1_turnQuarter_0 (by decide) ?_
  refine lv_istore_n (lv' := [(1, .int 0), (0, .ref (a0 0))]) hx hb dX1_turnQuarter_1 rfl hl (by decide) rfl (fun ls hl => ?_)
  have hL2 : ∀ (n2 : Nat) (f0_2 : Fig) (l1_2 : Int32) (H : Heap) (locs : List Loc) (ls : Array Slot), G_X1_turnQuarter_L2 n2 f0_2 l1_2 = some res → va_P (dC, dI) vwCl (wFig a0 cy f0_2) H → va_D A (wFig a0 cy f0_2) → va_S A s.heap H locs → lv_has ls 3 [(1, .int l1_2), (0, .ref (a0 0))] → W p l e rm_X1_turnQuarter s mm args below meth cd H locs 0 0 Q (F0 mm 2 ls []) := by
    intro n2
    induction n2 with
    | zero => intro f0_2 l1_2 H locs ls h; exact absurd h (by simp [G_X1_turnQuarter_L2])
    | succ n2 ih2 =>
      intro f0_2 l1_2 H locs ls h hP hD hS hl
      rw [G_X1_turnQuarter_L2] at h
      refine lv_iload_n hx hb dX1_turnQuarter_2 rfl (lv_at hl 0 rfl) ?_
      refine lv_aload_n hx hb dX1_turnQuarter_3 rfl (lv_at hl 1 rfl) ?_
      refine va_get (D := (dC, dI)) (ci := 0) (v := .int (f_corners f0_2)) (C := RX1) (T := TX1) (N := 6) hx hb htg inX1 hown hK hP 0 rfl rfl 1 (by decide) (htg _ gw97) (fun _ h9 => h9) rfl dX1_turnQuarter_4 ?_
      refine lv_icmp_ge (tgt := 45) hx hb dX1_turnQuarter_7 (by decide) (fun c7 => ?_) (fun c7 => ?_)
      · replace h := if_t h c7
        obtain rfl := Option.some.inj h
        exact hE H locs 45 ls hP hD hS dX1_turnQuarter_45
      replace h := if_f h c7
      refine lv_aload_n hx hb dX1_turnQuarter_10 rfl (lv_at hl 1 rfl) ?_
      refine va_get (D := (dC, dI)) (ci := 0) (v := .ref (a0 2)) (C := RX1) (T := TX1) (N := 6) hx hb htg inX1 hown hK hP 0 rfl rfl 3 (by decide) (htg _ gw103) (fun _ h9 => h9) rfl dX1_turnQuarter_11 ?_
      refine lv_iload_n hx hb dX1_turnQuarter_14 rfl (lv_at hl 0 rfl) ?_
      obtain ⟨v15, e15, h⟩ := bnd h
      refine x_iald (v := v15) hx hb hK hP 2 0 rfl rfl e15 dX1_turnQuarter_15 ?_
      refine lv_istore_n (lv' := [(2, .int v15), (1, .int l1_2), (0, .ref (a0 0))]) hx hb dX1_turnQuarter_16 rfl hl (by decide) rfl (fun ls hl => ?_)
      refine lv_aload_n hx hb dX1_turnQuarter_17 rfl (lv_at hl 2 rfl) ?_
      refine va_get (D := (dC, dI)) (ci := 0) (v := .ref (a0 2)) (C := RX1) (T := TX1) (N := 6) hx hb htg inX1 hown hK hP 0 rfl rfl 3 (by decide) (htg _ gw103) (fun _ h9 => h9) rfl dX1_turnQuarter_18 ?_
      refine lv_iload_n hx hb dX1_turnQuarter_21 rfl (lv_at hl 1 rfl) ?_
      refine lv_bipush (v := 15) hx hb dX1_turnQuarter_22 (by decide) ?_
      refine lv_aload_n hx hb dX1_turnQuarter_24 rfl (lv_at hl 2 rfl) ?_
      refine va_get (D := (dC, dI)) (ci := 0) (v := .ref (a0 3)) (C := RX1) (T := TX1) (N := 6) hx hb htg inX1 hown hK hP 0 rfl rfl 4 (by decide) (htg _ gw104) (fun _ h9 => h9) rfl dX1_turnQuarter_25 ?_
      refine lv_iload_n hx hb dX1_turnQuarter_28 rfl (lv_at hl 1 rfl) ?_
      obtain ⟨v29, e29, h⟩ := bnd h
      refine x_iald (v := v29) hx hb hK hP 3 0 rfl rfl e29 dX1_turnQuarter_29 ?_
      refine lv_isub hx hb dX1_turnQuarter_30 ?_
      obtain ⟨g31, e31, h⟩ := bnd h
      refine x_iast (g := g31) hx hb hK hP hD hS 2 0 rfl rfl e31 dX1_turnQuarter_31 (fun H locs hP hD hS => ?_)
      have hP : va_P (dC, dI) vwCl (wFig a0 cy (fs_xs f0_2 g31)) H := hP
      have hD : va_D A (wFig a0 cy (fs_xs f0_2 g31)) := hD
      refine lv_aload_n hx hb dX1_turnQuarter_32 rfl (lv_at hl 2 rfl) ?_
      refine va_get (D := (dC, dI)) (ci := 0) (v := .ref (a0 3)) (C := RX1) (T := TX1) (N := 6) hx hb htg inX1 hown hK hP 0 rfl rfl 4 (by decide) (htg _ gw104) (fun _ h9 => h9) rfl dX1_turnQuarter_33 ?_
      refine lv_iload_n hx hb dX1_turnQuarter_36 rfl (lv_at hl 1 rfl) ?_
      refine lv_iload_n hx hb dX1_turnQuarter_37 rfl (lv_at hl 0 rfl) ?_
      obtain ⟨z0_38, ez0_38, h⟩ := bnd h
      replace ez0_38 := Option.some.inj ez0_38
      rw [ez0_38] at hP hD
      obtain ⟨g38, e38, h⟩ := bnd h
      refine x_iast (g := g38) hx hb hK hP hD hS 3 0 rfl rfl e38 dX1_turnQuarter_38 (fun H locs hP hD hS => ?_)
      have hP : va_P (dC, dI) vwCl (wFig a0 cy (fs_ys z0_38 g38)) H := hP
      have hD : va_D A (wFig a0 cy (fs_ys z0_38 g38)) := hD
      refine lv_iinc (v := l1_2 + 1) (lv' := [(1, .int (l1_2 + 1)), (2, .int v15), (0, .ref (a0 0))]) hx hb dX1_turnQuarter_39 hl (k := 1) rfl rfl (by decide) rfl (fun ls hl => ?_)
      refine lv_goto (tgt := 2) hx hb dX1_turnQuarter_42 (by decide) ?_
      exact ih2 (fs_ys z0_38 g38) (l1_2 + 1) H locs ls h hP hD hS (lv_sub hl [0, 2] rfl)
  exact hL2 FU f0 0 H locs ls h hP hD hS (lv_sub hl [0, 1] rfl)
def G_X2_product (f0 : Fig) (p1 : Int32) (p2 : Int32) : Option (Int32) :=
  (G_X1_xOf f0 p1).bind fun v2 =>
  (G_X1_yOf f0 p2).bind fun v7 =>
  (G_X1_xOf f0 p2).bind fun v13 =>
  (G_X1_yOf f0 p1).bind fun v18 =>
  some ((v2 * v7) - (v13 * v18))
abbrev rm_X2_product : Room := { frames := 1, cells := 0, slots := 0, locals := 21 }
theorem hdS_X2_product : yX2_product.cls ≠ "java/lang/invoke/MethodHandle" ∧ yX2_product.cls ≠ "java/lang/invoke/VarHandle" ∧ (parseMethodDescriptor yX2_product.desc).map (fun d => d.parameters.length) = some 3 := by decide +kernel
set_option maxHeartbeats 4000000 in
set_option maxRecDepth 100000 in
theorem c_X2_product (l : Launch) (dC : Nat → ClassId) (dI : Nat → Nat → Nat) (cy : Nat → ClassId) (a0 : Nat → Nat) (f0 : Fig) (p1 : Int32) (p2 : Int32) (res : Int32) (h : G_X2_product f0 p1 p2 = some res) : CT l (dC, dI) (TY cy) yX2_product cX2_product 3 (some .int) rm_X2_product [.ref (a0 0), .int p1, .int p2] (wFig a0 cy f0) (wFig a0 cy f0) (some (.int res)) := by
  refine CT.mk_i (own := RX2) ⟨by decide, rfl⟩ (Nat.le_of_ble_eq_true rfl) ?_
  intro p e s mm args below meth cd A Q hx hb hml hown htg hN hK hA hP hD hS hE ls hl
  have hl : lv_has ls 3 [(0, .ref (a0 0)), (1, .int p1), (2, .int p2)] := hl
  replace h : _ = some res := h
  unfold G_X2_product at h
  obtain ⟨H, hH⟩ : ∃ H, H = s.heap := ⟨_, rfl⟩
  obtain ⟨locs, hlocs⟩ : ∃ locs : List Loc, locs = [] := ⟨_, rfl⟩
  rw [← hlocs] at hS ⊢
  have hS : va_S A s.heap H locs := by rw [hH]; exact hS
  rw [← hH] at hP ⊢
  refine lv_aload_n hx hb dX2_product_0 rfl (lv_at hl 0 rfl) ?_
  refine lv_iload_n hx hb dX2_product_1 rfl (lv_at hl 1 rfl) ?_
  obtain ⟨v2, e2, h⟩ := bnd h
  refine cV (av := [.int p1]) (rest := []) (st1 := [.int v2]) (k1 := 0) (k2 := 0) (ci := 0) (q0 := 0) hx hb hml hown htg hN hK (c_X1_xOf l dC dI cy a0 f0 p1 v2 e2) (g_V gw336 gw241 gw242 gw60 gw243) hdV_X1_xOf rfl ⟨⟨Nat.le_of_ble_eq_true rfl, Nat.le_of_ble_eq_true rfl⟩, Nat.le_of_ble_eq_true rfl, Nat.le_of_ble_eq_true rfl⟩ hP hD hS hA ⟨rfl, rfl⟩ rfl [0, 1, 2, 3, 4] [] rfl rfl rfl (by decide) (by decide) hl.1 rfl (Nat.le_of_ble_eq_true rfl) rfl rfl rfl dX2_product_2 (fun H locs hP hD hS => ?_)
  have hP : va_P (dC, dI) vwCl (wFig a0 cy f0) H := hP
  have hD : va_D A (wFig a0 cy f0) := hD
  refine lv_aload_n hx hb dX2_product_5 rfl (lv_at hl 0 rfl) ?_
  refine lv_iload_n hx hb dX2_product_6 rfl (lv_at hl 2 rfl) ?_
  obtain ⟨v7, e7, h⟩ := bnd h
  refine cV (av := [.int p2]) (rest := [.int v2]) (st1 := [.int v7, .int v2]) (k1 := 0) (k2 := 0) (ci := 0) (q0 := 0) hx hb hml hown htg hN hK (c_X1_yOf l dC dI cy a0 f0 p2 v7 e7) (g_V gw381 gw248 gw249 gw60 gw250) hdV_X1_yOf rfl ⟨⟨Nat.le_of_ble_eq_true rfl, Nat.le_of_ble_eq_true rfl⟩, Nat.le_of_ble_eq_true rfl, Nat.le_of_ble_eq_true rfl⟩ hP hD hS hA ⟨rfl, rfl⟩ rfl [0, 1, 2, 3, 4] [] rfl rfl rfl (by decide) (by decide) hl.1 rfl (Nat.le_of_ble_eq_true rfl) rfl rfl rfl dX2_product_7 (fun H locs hP hD hS => ?_)
  have hP : va_P (dC, dI) vwCl (wFig a0 cy f0) H := hP
  have hD : va_D A (wFig a0 cy f0) := hD
  refine lv_imul hx hb dX2_product_10 ?_
  refine lv_aload_n hx hb dX2_product_11 rfl (lv_at hl 0 rfl) ?_
  refine lv_iload_n hx hb dX2_product_12 rfl (lv_at hl 2 rfl) ?_
  obtain ⟨v13, e13, h⟩ := bnd h
  refine cV (av := [.int p2]) (rest := [.int (v2 * v7)]) (st1 := [.int v13, .int (v2 * v7)]) (k1 := 0) (k2 := 0) (ci := 0) (q0 := 0) hx hb hml hown htg hN hK (c_X1_xOf l dC dI cy a0 f0 p2 v13 e13) (g_V gw336 gw241 gw242 gw60 gw243) hdV_X1_xOf rfl ⟨⟨Nat.le_of_ble_eq_true rfl, Nat.le_of_ble_eq_true rfl⟩, Nat.le_of_ble_eq_true rfl, Nat.le_of_ble_eq_true rfl⟩ hP hD hS hA ⟨rfl, rfl⟩ rfl [0, 1, 2, 3, 4] [] rfl rfl rfl (by decide) (by decide) hl.1 rfl (Nat.le_of_ble_eq_true rfl) rfl rfl rfl dX2_product_13 (fun H locs hP hD hS => ?_)
  have hP : va_P (dC, dI) vwCl (wFig a0 cy f0) H := hP
  have hD : va_D A (wFig a0 cy f0) := hD
  refine lv_aload_n hx hb dX2_product_16 rfl (lv_at hl 0 rfl) ?_
  refine lv_iload_n hx hb dX2_product_17 rfl (lv_at hl 1 rfl) ?_
  obtain ⟨v18, e18, h⟩ := bnd h
  refine cV (av := [.int p1]) (rest := [.int v13, .int (v2 * v7)]) (st1 := [.int v18, .int v13, .int (v2 * v7)]) (k1 := 0) (k2 := 0) (ci := 0) (q0 := 0) hx hb hml hown htg hN hK (c_X1_yOf l dC dI cy a0 f0 p1 v18 e18) (g_V gw381 gw248 gw249 gw60 gw250) hdV_X1_yOf rfl ⟨⟨Nat.le_of_ble_eq_true rfl, Nat.le_of_ble_eq_true rfl⟩, Nat.le_of_ble_eq_true rfl, Nat.le_of_ble_eq_true rfl⟩ hP hD hS hA ⟨rfl, rfl⟩ rfl [0, 1, 2, 3, 4] [] rfl rfl rfl (by decide) (by decide) hl.1 rfl (Nat.le_of_ble_eq_true rfl) rfl rfl rfl dX2_product_18 (fun H locs hP hD hS => ?_)
  have hP : va_P (dC, dI) vwCl (wFig a0 cy f0) H := hP
  have hD : va_D A (wFig a0 cy f0) := hD
  refine lv_imul hx hb dX2_product_21 ?_
  refine lv_isub hx hb dX2_product_22 ?_
  obtain rfl := Option.some.inj h
  exact hE H locs 23 ls _ hP hD hS rfl dX2_product_23
def G_X2_ringSum_L11  (f0 : Fig) : Nat → Int32 → Int32 → Int32 → Int32 → Option (Int32)
  | 0, _, _, _, _ => none
  | n11 + 1, l4_11, l3_11, l2_11, l1_11 =>
    (G_X1_sizeOf f0 l1_11).bind fun v16 =>
    if l3_11 + v16 ≤ l4_11 then
      some l2_11
    else
      (G_X1_nextOf f0 l4_11).bind fun v30 =>
      (G_X2_product f0 l4_11 v30).bind fun v33 =>
      (G_X2_ringSum_L11 f0 n11) (l4_11 + 1) l3_11 (l2_11 + v33) l1_11
def G_X2_ringSum (f0 : Fig) (p1 : Int32) : Option (Int32) :=
  (G_X1_firstOf f0 p1).bind fun v4 =>
  G_X2_ringSum_L11 f0 FU v4 v4 0 p1
abbrev rm_X2_ringSum : Room := { frames := 2, cells := 0, slots := 0, locals := 43 }
theorem hdS_X2_ringSum : yX2_ringSum.cls ≠ "java/lang/invoke/MethodHandle" ∧ yX2_ringSum.cls ≠ "java/lang/invoke/VarHandle" ∧ (parseMethodDescriptor yX2_ringSum.desc).map (fun d => d.parameters.length) = some 2 := by decide +kernel
set_option maxHeartbeats 4000000 in
set_option maxRecDepth 100000 in
theorem c_X2_ringSum (l : Launch) (dC : Nat → ClassId) (dI : Nat → Nat → Nat) (cy : Nat → ClassId) (a0 : Nat → Nat) (f0 : Fig) (p1 : Int32) (res : Int32) (h : G_X2_ringSum f0 p1 = some res) : CT l (dC, dI) (TY cy) yX2_ringSum cX2_ringSum 5 (some .int) rm_X2_ringSum [.ref (a0 0), .int p1] (wFig a0 cy f0) (wFig a0 cy f0) (some (.int res)) := by
  refine CT.mk_i (own := RX2) ⟨by decide, rfl⟩ (Nat.le_of_ble_eq_true rfl) ?_
  intro p e s mm args below meth cd A Q hx hb hml hown htg hN hK hA hP hD hS hE ls hl
  have hl : lv_has ls 5 [(0, .ref (a0 0)), (1, .int p1)] := hl
  replace h : _ = some res := h
  unfold G_X2_ringSum at h
  obtain ⟨H, hH⟩ : ∃ H, H = s.heap := ⟨_, rfl⟩
  obtain ⟨locs, hlocs⟩ : ∃ locs : List Loc, locs = [] := ⟨_, rfl⟩
  rw [← hlocs] at hS ⊢
  have hS : va_S A s.heap H locs := by rw [hH]; exact hS
  rw [← hH] at hP ⊢
  refine lv_iconst (v := 0) hx hb dX2_ringSum_0 (by decide) ?_
  refine lv_istore_n (lv' := [(2, .int 0), (0, .ref (a0 0)), (1, .int p1)]) hx hb dX2_ringSum_1 rfl hl (by decide) rfl (fun ls hl => ?_)
  refine lv_aload_n hx hb dX2_ringSum_2 rfl (lv_at hl 1 rfl) ?_
  refine lv_iload_n hx hb dX2_ringSum_3 rfl (lv_at hl 2 rfl) ?_
  obtain ⟨v4, e4, h⟩ := bnd h
  refine cV (av := [.int p1]) (rest := []) (st1 := [.int v4]) (k1 := 0) (k2 := 0) (ci := 0) (q0 := 0) hx hb hml hown htg hN hK (c_X1_firstOf l dC dI cy a0 f0 p1 v4 e4) (g_V gw375 gw181 gw182 gw60 gw183) hdV_X1_firstOf rfl ⟨⟨Nat.le_of_ble_eq_true rfl, Nat.le_of_ble_eq_true rfl⟩, Nat.le_of_ble_eq_true rfl, Nat.le_of_ble_eq_true rfl⟩ hP hD hS hA ⟨rfl, rfl⟩ rfl [0, 1, 2, 3, 4] [] rfl rfl rfl (by decide) (by decide) hl.1 rfl (Nat.le_of_ble_eq_true rfl) rfl rfl rfl dX2_ringSum_4 (fun H locs hP hD hS => ?_)
  have hP : va_P (dC, dI) vwCl (wFig a0 cy f0) H := hP
  have hD : va_D A (wFig a0 cy f0) := hD
  refine lv_istore_n (lv' := [(3, .int v4), (2, .int 0), (0, .ref (a0 0)), (1, .int p1)]) hx hb dX2_ringSum_7 rfl hl (by decide) rfl (fun ls hl => ?_)
  refine lv_iload_n hx hb dX2_ringSum_8 rfl (lv_at hl 0 rfl) ?_
  refine lv_istore (lv' := [(4, .int v4), (3, .int v4), (2, .int 0), (0, .ref (a0 0)), (1, .int p1)]) hx hb dX2_ringSum_9 hl (by decide) rfl (fun ls hl => ?_)
  have hL11 : ∀ (n11 : Nat) (l4_11 : Int32) (l3_11 : Int32) (l2_11 : Int32) (l1_11 : Int32) (H : Heap) (locs : List Loc) (ls : Array Slot), G_X2_ringSum_L11 f0 n11 l4_11 l3_11 l2_11 l1_11 = some res → va_P (dC, dI) vwCl (wFig a0 cy f0) H → va_D A (wFig a0 cy f0) → va_S A s.heap H locs → lv_has ls 5 [(4, .int l4_11), (3, .int l3_11), (2, .int l2_11), (0, .ref (a0 0)), (1, .int l1_11)] → W p l e rm_X2_ringSum s mm args below meth cd H locs 0 0 Q (F0 mm 11 ls []) := by
    intro n11
    induction n11 with
    | zero => intro l4_11 l3_11 l2_11 l1_11 H locs ls h; exact absurd h (by simp [G_X2_ringSum_L11])
    | succ n11 ih11 =>
      intro l4_11 l3_11 l2_11 l1_11 H locs ls h hP hD hS hl
      rw [G_X2_ringSum_L11] at h
      refine lv_iload hx hb dX2_ringSum_11 (lv_at hl 0 rfl) ?_
      refine lv_iload_n hx hb dX2_ringSum_13 rfl (lv_at hl 1 rfl) ?_
      refine lv_aload_n hx hb dX2_ringSum_14 rfl (lv_at hl 3 rfl) ?_
      refine lv_iload_n hx hb dX2_ringSum_15 rfl (lv_at hl 4 rfl) ?_
      obtain ⟨v16, e16, h⟩ := bnd h
      refine cV (av := [.int l1_11]) (rest := [.int l3_11, .int l4_11]) (st1 := [.int v16, .int l3_11, .int l4_11]) (k1 := 0) (k2 := 0) (ci := 0) (q0 := 0) hx hb hml hown htg hN hK (c_X1_sizeOf l dC dI cy a0 f0 l1_11 v16 e16) (g_V gw376 gw165 gw166 gw60 gw167) hdV_X1_sizeOf rfl ⟨⟨Nat.le_of_ble_eq_true rfl, Nat.le_of_ble_eq_true rfl⟩, Nat.le_of_ble_eq_true rfl, Nat.le_of_ble_eq_true rfl⟩ hP hD hS hA ⟨rfl, rfl⟩ rfl [0, 1, 2, 3, 4] [] rfl rfl rfl (by decide) (by decide) hl.1 rfl (Nat.le_of_ble_eq_true rfl) rfl rfl rfl dX2_ringSum_16 (fun H locs hP hD hS => ?_)
      have hP : va_P (dC, dI) vwCl (wFig a0 cy f0) H := hP
      have hD : va_D A (wFig a0 cy f0) := hD
      refine lv_iadd hx hb dX2_ringSum_19 ?_
      refine lv_icmp_ge (tgt := 44) hx hb dX2_ringSum_20 (by decide) (fun c20 => ?_) (fun c20 => ?_)
      · replace h := if_t h c20
        refine lv_iload_n hx hb dX2_ringSum_44 rfl (lv_at hl 2 rfl) ?_
        obtain rfl := Option.some.inj h
        exact hE H locs 45 ls _ hP hD hS rfl dX2_ringSum_45
      replace h := if_f h c20
      refine lv_iload_n hx hb dX2_ringSum_23 rfl (lv_at hl 2 rfl) ?_
      refine lv_aload_n hx hb dX2_ringSum_24 rfl (lv_at hl 3 rfl) ?_
      refine lv_iload hx hb dX2_ringSum_25 (lv_at hl 0 rfl) ?_
      refine lv_aload_n hx hb dX2_ringSum_27 rfl (lv_at hl 3 rfl) ?_
      refine lv_iload hx hb dX2_ringSum_28 (lv_at hl 0 rfl) ?_
      obtain ⟨v30, e30, h⟩ := bnd h
      refine cV (av := [.int l4_11]) (rest := [.int l4_11, .ref (a0 0), .int l2_11]) (st1 := [.int v30, .int l4_11, .ref (a0 0), .int l2_11]) (k1 := 0) (k2 := 0) (ci := 0) (q0 := 0) hx hb hml hown htg hN hK (c_X1_nextOf l dC dI cy a0 f0 l4_11 v30 e30) (g_V gw377 gw259 gw260 gw60 gw261) hdV_X1_nextOf rfl ⟨⟨Nat.le_of_ble_eq_true rfl, Nat.le_of_ble_eq_true rfl⟩, Nat.le_of_ble_eq_true rfl, Nat.le_of_ble_eq_true rfl⟩ hP hD hS hA ⟨rfl, rfl⟩ rfl [0, 1, 2, 3, 4] [] rfl rfl rfl (by decide) (by decide) hl.1 rfl (Nat.le_of_ble_eq_true rfl) rfl rfl rfl dX2_ringSum_30 (fun H locs hP hD hS => ?_)
      have hP : va_P (dC, dI) vwCl (wFig a0 cy f0) H := hP
      have hD : va_D A (wFig a0 cy f0) := hD
      obtain ⟨v33, e33, h⟩ := bnd h
      refine cS (av := [.ref (a0 0), .int l4_11, .int v30]) (rest := [.int l2_11]) (st1 := [.int v33, .int l2_11]) (k1 := 0) (k2 := 0) hx hb hml hown htg hN hK (c_X2_product l dC dI cy a0 f0 l4_11 v30 v33 e33) (g_S gw378 gw379 gw72 gw380) hdS_X2_product rfl ⟨⟨Nat.le_of_ble_eq_true rfl, Nat.le_of_ble_eq_true rfl⟩, Nat.le_of_ble_eq_true rfl, Nat.le_of_ble_eq_true rfl⟩ hP hD hS hA [0, 1, 2, 3, 4] [] rfl rfl rfl (by decide) (by decide) hl.1 rfl (Nat.le_of_ble_eq_true rfl) rfl rfl rfl dX2_ringSum_33 (fun H locs hP hD hS => ?_)
      have hP : va_P (dC, dI) vwCl (wFig a0 cy f0) H := hP
      have hD : va_D A (wFig a0 cy f0) := hD
      refine lv_iadd hx hb dX2_ringSum_36 ?_
      refine lv_istore_n (lv' := [(2, .int (l2_11 + v33)), (4, .int l4_11), (3, .int l3_11), (0, .ref (a0 0)), (1, .int l1_11)]) hx hb dX2_ringSum_37 rfl hl (by decide) rfl (fun ls hl => ?_)
      refine lv_iinc (v := l4_11 + 1) (lv' := [(4, .int (l4_11 + 1)), (2, .int (l2_11 + v33)), (3, .int l3_11), (0, .ref (a0 0)), (1, .int l1_11)]) hx hb dX2_ringSum_38 hl (k := 1) rfl rfl (by decide) rfl (fun ls hl => ?_)
      refine lv_goto (tgt := 11) hx hb dX2_ringSum_41 (by decide) ?_
      exact ih11 (l4_11 + 1) l3_11 (l2_11 + v33) l1_11 H locs ls h hP hD hS (lv_sub hl [0, 2, 1, 3, 4] rfl)
  exact hL11 FU v4 v4 0 p1 H locs ls h hP hD hS (lv_sub hl [0, 1, 2, 3, 4] rfl)
def G_X2_ringArea (f0 : Fig) (p1 : Int32) : Option (Int32) :=
  (G_X2_ringSum f0 p1).bind fun v2 =>
  some (if 0 ≤ v2 then v2 else 0 - v2)
abbrev rm_X2_ringArea : Room := { frames := 3, cells := 0, slots := 0, locals := 67 }
theorem hdS_X2_ringArea : yX2_ringArea.cls ≠ "java/lang/invoke/MethodHandle" ∧ yX2_ringArea.cls ≠ "java/lang/invoke/VarHandle" ∧ (parseMethodDescriptor yX2_ringArea.desc).map (fun d => d.parameters.length) = some 2 := by decide +kernel
set_option maxHeartbeats 4000000 in
set_option maxRecDepth 100000 in
theorem c_X2_ringArea (l : Launch) (dC : Nat → ClassId) (dI : Nat → Nat → Nat) (cy : Nat → ClassId) (a0 : Nat → Nat) (f0 : Fig) (p1 : Int32) (res : Int32) (h : G_X2_ringArea f0 p1 = some res) : CT l (dC, dI) (TY cy) yX2_ringArea cX2_ringArea 2 (some .int) rm_X2_ringArea [.ref (a0 0), .int p1] (wFig a0 cy f0) (wFig a0 cy f0) (some (.int res)) := by
  refine CT.mk_i (own := RX2) ⟨by decide, rfl⟩ (Nat.le_of_ble_eq_true rfl) ?_
  intro p e s mm args below meth cd A Q hx hb hml hown htg hN hK hA hP hD hS hE ls hl
  have hl : lv_has ls 2 [(0, .ref (a0 0)), (1, .int p1)] := hl
  replace h : _ = some res := h
  unfold G_X2_ringArea at h
  obtain ⟨H, hH⟩ : ∃ H, H = s.heap := ⟨_, rfl⟩
  obtain ⟨locs, hlocs⟩ : ∃ locs : List Loc, locs = [] := ⟨_, rfl⟩
  rw [← hlocs] at hS ⊢
  have hS : va_S A s.heap H locs := by rw [hH]; exact hS
  rw [← hH] at hP ⊢
  refine lv_aload_n hx hb dX2_ringArea_0 rfl (lv_at hl 0 rfl) ?_
  refine lv_iload_n hx hb dX2_ringArea_1 rfl (lv_at hl 1 rfl) ?_
  obtain ⟨v2, e2, h⟩ := bnd h
  refine cS (av := [.ref (a0 0), .int p1]) (rest := []) (st1 := [.int v2]) (k1 := 0) (k2 := 0) hx hb hml hown htg hN hK (c_X2_ringSum l dC dI cy a0 f0 p1 v2 e2) (g_S gw372 gw373 gw72 gw374) hdS_X2_ringSum rfl ⟨⟨Nat.le_of_ble_eq_true rfl, Nat.le_of_ble_eq_true rfl⟩, Nat.le_of_ble_eq_true rfl, Nat.le_of_ble_eq_true rfl⟩ hP hD hS hA [0, 1, 2, 3, 4] [] rfl rfl rfl (by decide) (by decide) hl.1 rfl (Nat.le_of_ble_eq_true rfl) rfl rfl rfl dX2_ringArea_2 (fun H locs hP hD hS => ?_)
  have hP : va_P (dC, dI) vwCl (wFig a0 cy f0) H := hP
  have hD : va_D A (wFig a0 cy f0) := hD
  refine va_mabs hx hb (hml.trans hl.1.symm) hown (htg _ gw382) (htg _ gw383) (htg _ gw70) (htg _ gw384) (Nat.le_of_ble_eq_true rfl) (Nat.le_of_ble_eq_true rfl) (Nat.le_of_ble_eq_true rfl) (Nat.le_of_ble_eq_true rfl) dX2_ringArea_5 ?_
  obtain rfl := Option.some.inj h
  exact hE H locs 8 ls _ hP hD hS rfl dX2_ringArea_8
def G_X2_area_L8  (f0 : Fig) : Nat → Int32 → Int32 → Option (Int32)
  | 0, _, _ => none
  | n8 + 1, l2_8, l1_8 =>
    if f_rings f0 ≤ l2_8 then
      some l1_8
    else
      (G_X2_ringArea f0 l2_8).bind fun v19 =>
      (G_X2_area_L8 f0 n8) (l2_8 + 1) (l1_8 - v19)
def G_X2_area (f0 : Fig) : Option (Int32) :=
  (G_X2_ringArea f0 0).bind fun v2 =>
  G_X2_area_L8 f0 FU 1 v2
abbrev rm_X2_area : Room := { frames := 4, cells := 0, slots := 0, locals := 88 }
theorem hdS_X2_area : yX2_area.cls ≠ "java/lang/invoke/MethodHandle" ∧ yX2_area.cls ≠ "java/lang/invoke/VarHandle" ∧ (parseMethodDescriptor yX2_area.desc).map (fun d => d.parameters.length) = some 1 := by decide +kernel
set_option maxHeartbeats 4000000 in
set_option maxRecDepth 100000 in
theorem c_X2_area (l : Launch) (dC : Nat → ClassId) (dI : Nat → Nat → Nat) (cy : Nat → ClassId) (a0 : Nat → Nat) (f0 : Fig) (res : Int32) (h : G_X2_area f0 = some res) : CT l (dC, dI) (TY cy) yX2_area cX2_area 3 (some .int) rm_X2_area [.ref (a0 0)] (wFig a0 cy f0) (wFig a0 cy f0) (some (.int res)) := by
  refine CT.mk_i (own := RX2) ⟨by decide, rfl⟩ (Nat.le_of_ble_eq_true rfl) ?_
  intro p e s mm args below meth cd A Q hx hb hml hown htg hN hK hA hP hD hS hE ls hl
  have hl : lv_has ls 3 [(0, .ref (a0 0))] := hl
  replace h : _ = some res := h
  unfold G_X2_area at h
  obtain ⟨H, hH⟩ : ∃ H, H = s.heap := ⟨_, rfl⟩
  obtain ⟨locs, hlocs⟩ : ∃ locs : List Loc, locs = [] := ⟨_, rfl⟩
  rw [← hlocs] at hS ⊢
  have hS : va_S A s.heap H locs := by rw [hH]; exact hS
  rw [← hH] at hP ⊢
  refine lv_aload_n hx hb dX2_area_0 rfl (lv_at hl 0 rfl) ?_
  refine lv_iconst (v := 0) hx hb dX2_area_1 (by decide) ?_
  obtain ⟨v2, e2, h⟩ := bnd h
  refine cS (av := [.ref (a0 0), .int 0]) (rest := []) (st1 := [.int v2]) (k1 := 0) (k2 := 0) hx hb hml hown htg hN hK (c_X2_ringArea l dC dI cy a0 f0 0 v2 e2) (g_S gw369 gw370 gw72 gw371) hdS_X2_ringArea rfl ⟨⟨Nat.le_of_ble_eq_true rfl, Nat.le_of_ble_eq_true rfl⟩, Nat.le_of_ble_eq_true rfl, Nat.le_of_ble_eq_true rfl⟩ hP hD hS hA [0, 1, 2, 3, 4] [] rfl rfl rfl (by decide) (by decide) hl.1 rfl (Nat.le_of_ble_eq_true rfl) rfl rfl rfl dX2_area_2 (fun H locs hP hD hS => ?_)
  have hP : va_P (dC, dI) vwCl (wFig a0 cy f0) H := hP
  have hD : va_D A (wFig a0 cy f0) := hD
  refine lv_istore_n (lv' := [(1, .int v2), (0, .ref (a0 0))]) hx hb dX2_area_5 rfl hl (by decide) rfl (fun ls hl => ?_)
  refine lv_iconst (v := 1) hx hb dX2_area_6 (by decide) ?_
  refine lv_istore_n (lv' := [(2, .int 1), (1, .int v2), (0, .ref (a0 0))]) hx hb dX2_area_7 rfl hl (by decide) rfl (fun ls hl => ?_)
  have hL8 : ∀ (n8 : Nat) (l2_8 : Int32) (l1_8 : Int32) (H : Heap) (locs : List Loc) (ls : Array Slot), G_X2_area_L8 f0 n8 l2_8 l1_8 = some res → va_P (dC, dI) vwCl (wFig a0 cy f0) H → va_D A (wFig a0 cy f0) → va_S A s.heap H locs → lv_has ls 3 [(2, .int l2_8), (1, .int l1_8), (0, .ref (a0 0))] → W p l e rm_X2_area s mm args below meth cd H locs 0 0 Q (F0 mm 8 ls []) := by
    intro n8
    induction n8 with
    | zero => intro l2_8 l1_8 H locs ls h; exact absurd h (by simp [G_X2_area_L8])
    | succ n8 ih8 =>
      intro l2_8 l1_8 H locs ls h hP hD hS hl
      rw [G_X2_area_L8] at h
      refine lv_iload_n hx hb dX2_area_8 rfl (lv_at hl 0 rfl) ?_
      refine lv_aload_n hx hb dX2_area_9 rfl (lv_at hl 2 rfl) ?_
      refine va_getN (D := (dC, dI)) (ci := 0) (v := .int (f_rings f0)) (C := RX1) (T := TX1) (N := 6) hx hb htg inX1 hown hK hP 0 rfl rfl 0 (by decide) (va_Nw.use rfl (hN (.fieldLinkNest RX2 43 "SquaredPaper$Figure" "rings" "I" "SquaredPaper") (by decide +kernel))) (fun _ h9 => h9) rfl dX2_area_10 ?_
      refine lv_icmp_ge (tgt := 30) hx hb dX2_area_13 (by decide) (fun c13 => ?_) (fun c13 => ?_)
      · replace h := if_t h c13
        refine lv_iload_n hx hb dX2_area_30 rfl (lv_at hl 1 rfl) ?_
        obtain rfl := Option.some.inj h
        exact hE H locs 31 ls _ hP hD hS rfl dX2_area_31
      replace h := if_f h c13
      refine lv_iload_n hx hb dX2_area_16 rfl (lv_at hl 1 rfl) ?_
      refine lv_aload_n hx hb dX2_area_17 rfl (lv_at hl 2 rfl) ?_
      refine lv_iload_n hx hb dX2_area_18 rfl (lv_at hl 0 rfl) ?_
      obtain ⟨v19, e19, h⟩ := bnd h
      refine cS (av := [.ref (a0 0), .int l2_8]) (rest := [.int l1_8]) (st1 := [.int v19, .int l1_8]) (k1 := 0) (k2 := 0) hx hb hml hown htg hN hK (c_X2_ringArea l dC dI cy a0 f0 l2_8 v19 e19) (g_S gw369 gw370 gw72 gw371) hdS_X2_ringArea rfl ⟨⟨Nat.le_of_ble_eq_true rfl, Nat.le_of_ble_eq_true rfl⟩, Nat.le_of_ble_eq_true rfl, Nat.le_of_ble_eq_true rfl⟩ hP hD hS hA [0, 1, 2, 3, 4] [] rfl rfl rfl (by decide) (by decide) hl.1 rfl (Nat.le_of_ble_eq_true rfl) rfl rfl rfl dX2_area_19 (fun H locs hP hD hS => ?_)
      have hP : va_P (dC, dI) vwCl (wFig a0 cy f0) H := hP
      have hD : va_D A (wFig a0 cy f0) := hD
      refine lv_isub hx hb dX2_area_22 ?_
      refine lv_istore_n (lv' := [(1, .int (l1_8 - v19)), (2, .int l2_8), (0, .ref (a0 0))]) hx hb dX2_area_23 rfl hl (by decide) rfl (fun ls hl => ?_)
      refine lv_iinc (v := l2_8 + 1) (lv' := [(2, .int (l2_8 + 1)), (1, .int (l1_8 - v19)), (0, .ref (a0 0))]) hx hb dX2_area_24 hl (k := 1) rfl rfl (by decide) rfl (fun ls hl => ?_)
      refine lv_goto (tgt := 8) hx hb dX2_area_27 (by decide) ?_
      exact ih8 (l2_8 + 1) (l1_8 - v19) H locs ls h hP hD hS (lv_sub hl [0, 1, 2] rfl)
  exact hL8 FU 1 v2 H locs ls h hP hD hS (lv_sub hl [0, 1, 2] rfl)
def G_X2_ringBorder_L11  (f0 : Fig) : Nat → Int32 → Int32 → Int32 → Int32 → Option (Int32)
  | 0, _, _, _, _ => none
  | n11 + 1, l4_11, l3_11, l2_11, l1_11 =>
    (G_X1_sizeOf f0 l1_11).bind fun v16 =>
    if l3_11 + v16 ≤ l4_11 then
      some l2_11
    else
      (G_X1_stepsOfSide f0 l4_11).bind fun v27 =>
      (G_X2_ringBorder_L11 f0 n11) (l4_11 + 1) l3_11 (l2_11 + v27) l1_11
def G_X2_ringBorder (f0 : Fig) (p1 : Int32) : Option (Int32) :=
  (G_X1_firstOf f0 p1).bind fun v4 =>
  G_X2_ringBorder_L11 f0 FU v4 v4 0 p1
abbrev rm_X2_ringBorder : Room := { frames := 2, cells := 0, slots := 0, locals := 45 }
theorem hdS_X2_ringBorder : yX2_ringBorder.cls ≠ "java/lang/invoke/MethodHandle" ∧ yX2_ringBorder.cls ≠ "java/lang/invoke/VarHandle" ∧ (parseMethodDescriptor yX2_ringBorder.desc).map (fun d => d.parameters.length) = some 2 := by decide +kernel
set_option maxHeartbeats 4000000 in
set_option maxRecDepth 100000 in
theorem c_X2_ringBorder (l : Launch) (dC : Nat → ClassId) (dI : Nat → Nat → Nat) (cy : Nat → ClassId) (a0 : Nat → Nat) (f0 : Fig) (p1 : Int32) (res : Int32) (h : G_X2_ringBorder f0 p1 = some res) : CT l (dC, dI) (TY cy) yX2_ringBorder cX2_ringBorder 5 (some .int) rm_X2_ringBorder [.ref (a0 0), .int p1] (wFig a0 cy f0) (wFig a0 cy f0) (some (.int res)) := by
  refine CT.mk_i (own := RX2) ⟨by decide, rfl⟩ (Nat.le_of_ble_eq_true rfl) ?_
  intro p e s mm args below meth cd A Q hx hb hml hown htg hN hK hA hP hD hS hE ls hl
  have hl : lv_has ls 5 [(0, .ref (a0 0)), (1, .int p1)] := hl
  replace h : _ = some res := h
  unfold G_X2_ringBorder at h
  obtain ⟨H, hH⟩ : ∃ H, H = s.heap := ⟨_, rfl⟩
  obtain ⟨locs, hlocs⟩ : ∃ locs : List Loc, locs = [] := ⟨_, rfl⟩
  rw [← hlocs] at hS ⊢
  have hS : va_S A s.heap H locs := by rw [hH]; exact hS
  rw [← hH] at hP ⊢
  refine lv_iconst (v := 0) hx hb dX2_ringBorder_0 (by decide) ?_
  refine lv_istore_n (lv' := [(2, .int 0), (0, .ref (a0 0)), (1, .int p1)]) hx hb dX2_ringBorder_1 rfl hl (by decide) rfl (fun ls hl => ?_)
  refine lv_aload_n hx hb dX2_ringBorder_2 rfl (lv_at hl 1 rfl) ?_
  refine lv_iload_n hx hb dX2_ringBorder_3 rfl (lv_at hl 2 rfl) ?_
  obtain ⟨v4, e4, h⟩ := bnd h
  refine cV (av := [.int p1]) (rest := []) (st1 := [.int v4]) (k1 := 0) (k2 := 0) (ci := 0) (q0 := 0) hx hb hml hown htg hN hK (c_X1_firstOf l dC dI cy a0 f0 p1 v4 e4) (g_V gw375 gw181 gw182 gw60 gw183) hdV_X1_firstOf rfl ⟨⟨Nat.le_of_ble_eq_true rfl, Nat.le_of_ble_eq_true rfl⟩, Nat.le_of_ble_eq_true rfl, Nat.le_of_ble_eq_true rfl⟩ hP hD hS hA ⟨rfl, rfl⟩ rfl [0, 1, 2, 3, 4] [] rfl rfl rfl (by decide) (by decide) hl.1 rfl (Nat.le_of_ble_eq_true rfl) rfl rfl rfl dX2_ringBorder_4 (fun H locs hP hD hS => ?_)
  have hP : va_P (dC, dI) vwCl (wFig a0 cy f0) H := hP
  have hD : va_D A (wFig a0 cy f0) := hD
  refine lv_istore_n (lv' := [(3, .int v4), (2, .int 0), (0, .ref (a0 0)), (1, .int p1)]) hx hb dX2_ringBorder_7 rfl hl (by decide) rfl (fun ls hl => ?_)
  refine lv_iload_n hx hb dX2_ringBorder_8 rfl (lv_at hl 0 rfl) ?_
  refine lv_istore (lv' := [(4, .int v4), (3, .int v4), (2, .int 0), (0, .ref (a0 0)), (1, .int p1)]) hx hb dX2_ringBorder_9 hl (by decide) rfl (fun ls hl => ?_)
  have hL11 : ∀ (n11 : Nat) (l4_11 : Int32) (l3_11 : Int32) (l2_11 : Int32) (l1_11 : Int32) (H : Heap) (locs : List Loc) (ls : Array Slot), G_X2_ringBorder_L11 f0 n11 l4_11 l3_11 l2_11 l1_11 = some res → va_P (dC, dI) vwCl (wFig a0 cy f0) H → va_D A (wFig a0 cy f0) → va_S A s.heap H locs → lv_has ls 5 [(4, .int l4_11), (3, .int l3_11), (2, .int l2_11), (0, .ref (a0 0)), (1, .int l1_11)] → W p l e rm_X2_ringBorder s mm args below meth cd H locs 0 0 Q (F0 mm 11 ls []) := by
    intro n11
    induction n11 with
    | zero => intro l4_11 l3_11 l2_11 l1_11 H locs ls h; exact absurd h (by simp [G_X2_ringBorder_L11])
    | succ n11 ih11 =>
      intro l4_11 l3_11 l2_11 l1_11 H locs ls h hP hD hS hl
      rw [G_X2_ringBorder_L11] at h
      refine lv_iload hx hb dX2_ringBorder_11 (lv_at hl 0 rfl) ?_
      refine lv_iload_n hx hb dX2_ringBorder_13 rfl (lv_at hl 1 rfl) ?_
      refine lv_aload_n hx hb dX2_ringBorder_14 rfl (lv_at hl 3 rfl) ?_
      refine lv_iload_n hx hb dX2_ringBorder_15 rfl (lv_at hl 4 rfl) ?_
      obtain ⟨v16, e16, h⟩ := bnd h
      refine cV (av := [.int l1_11]) (rest := [.int l3_11, .int l4_11]) (st1 := [.int v16, .int l3_11, .int l4_11]) (k1 := 0) (k2 := 0) (ci := 0) (q0 := 0) hx hb hml hown htg hN hK (c_X1_sizeOf l dC dI cy a0 f0 l1_11 v16 e16) (g_V gw376 gw165 gw166 gw60 gw167) hdV_X1_sizeOf rfl ⟨⟨Nat.le_of_ble_eq_true rfl, Nat.le_of_ble_eq_true rfl⟩, Nat.le_of_ble_eq_true rfl, Nat.le_of_ble_eq_true rfl⟩ hP hD hS hA ⟨rfl, rfl⟩ rfl [0, 1, 2, 3, 4] [] rfl rfl rfl (by decide) (by decide) hl.1 rfl (Nat.le_of_ble_eq_true rfl) rfl rfl rfl dX2_ringBorder_16 (fun H locs hP hD hS => ?_)
      have hP : va_P (dC, dI) vwCl (wFig a0 cy f0) H := hP
      have hD : va_D A (wFig a0 cy f0) := hD
      refine lv_iadd hx hb dX2_ringBorder_19 ?_
      refine lv_icmp_ge (tgt := 38) hx hb dX2_ringBorder_20 (by decide) (fun c20 => ?_) (fun c20 => ?_)
      · replace h := if_t h c20
        refine lv_iload_n hx hb dX2_ringBorder_38 rfl (lv_at hl 2 rfl) ?_
        obtain rfl := Option.some.inj h
        exact hE H locs 39 ls _ hP hD hS rfl dX2_ringBorder_39
      replace h := if_f h c20
      refine lv_iload_n hx hb dX2_ringBorder_23 rfl (lv_at hl 2 rfl) ?_
      refine lv_aload_n hx hb dX2_ringBorder_24 rfl (lv_at hl 3 rfl) ?_
      refine lv_iload hx hb dX2_ringBorder_25 (lv_at hl 0 rfl) ?_
      obtain ⟨v27, e27, h⟩ := bnd h
      refine cV (av := [.int l4_11]) (rest := [.int l2_11]) (st1 := [.int v27, .int l2_11]) (k1 := 0) (k2 := 0) (ci := 0) (q0 := 0) hx hb hml hown htg hN hK (c_X1_stepsOfSide l dC dI cy a0 f0 l4_11 v27 e27) (g_V gw547 gw548 gw549 gw60 gw550) hdV_X1_stepsOfSide rfl ⟨⟨Nat.le_of_ble_eq_true rfl, Nat.le_of_ble_eq_true rfl⟩, Nat.le_of_ble_eq_true rfl, Nat.le_of_ble_eq_true rfl⟩ hP hD hS hA ⟨rfl, rfl⟩ rfl [0, 1, 2, 3, 4] [] rfl rfl rfl (by decide) (by decide) hl.1 rfl (Nat.le_of_ble_eq_true rfl) rfl rfl rfl dX2_ringBorder_27 (fun H locs hP hD hS => ?_)
      have hP : va_P (dC, dI) vwCl (wFig a0 cy f0) H := hP
      have hD : va_D A (wFig a0 cy f0) := hD
      refine lv_iadd hx hb dX2_ringBorder_30 ?_
      refine lv_istore_n (lv' := [(2, .int (l2_11 + v27)), (4, .int l4_11), (3, .int l3_11), (0, .ref (a0 0)), (1, .int l1_11)]) hx hb dX2_ringBorder_31 rfl hl (by decide) rfl (fun ls hl => ?_)
      refine lv_iinc (v := l4_11 + 1) (lv' := [(4, .int (l4_11 + 1)), (2, .int (l2_11 + v27)), (3, .int l3_11), (0, .ref (a0 0)), (1, .int l1_11)]) hx hb dX2_ringBorder_32 hl (k := 1) rfl rfl (by decide) rfl (fun ls hl => ?_)
      refine lv_goto (tgt := 11) hx hb dX2_ringBorder_35 (by decide) ?_
      exact ih11 (l4_11 + 1) l3_11 (l2_11 + v27) l1_11 H locs ls h hP hD hS (lv_sub hl [0, 2, 1, 3, 4] rfl)
  exact hL11 FU v4 v4 0 p1 H locs ls h hP hD hS (lv_sub hl [0, 1, 2, 3, 4] rfl)
def G_X2_border_L4  (f0 : Fig) : Nat → Int32 → Int32 → Option (Int32)
  | 0, _, _ => none
  | n4 + 1, l2_4, l1_4 =>
    if f_rings f0 ≤ l2_4 then
      some l1_4
    else
      (G_X2_ringBorder f0 l2_4).bind fun v15 =>
      (G_X2_border_L4 f0 n4) (l2_4 + 1) (l1_4 + v15)
def G_X2_border (f0 : Fig) : Option (Int32) :=
  G_X2_border_L4 f0 FU 0 0
abbrev rm_X2_border : Room := { frames := 3, cells := 0, slots := 0, locals := 69 }
theorem hdS_X2_border : yX2_border.cls ≠ "java/lang/invoke/MethodHandle" ∧ yX2_border.cls ≠ "java/lang/invoke/VarHandle" ∧ (parseMethodDescriptor yX2_border.desc).map (fun d => d.parameters.length) = some 1 := by decide +kernel
set_option maxHeartbeats 4000000 in
set_option maxRecDepth 100000 in
theorem c_X2_border (l : Launch) (dC : Nat → ClassId) (dI : Nat → Nat → Nat) (cy : Nat → ClassId) (a0 : Nat → Nat) (f0 : Fig) (res : Int32) (h : G_X2_border f0 = some res) : CT l (dC, dI) (TY cy) yX2_border cX2_border 3 (some .int) rm_X2_border [.ref (a0 0)] (wFig a0 cy f0) (wFig a0 cy f0) (some (.int res)) := by
  refine CT.mk_i (own := RX2) ⟨by decide, rfl⟩ (Nat.le_of_ble_eq_true rfl) ?_
  intro p e s mm args below meth cd A Q hx hb hml hown htg hN hK hA hP hD hS hE ls hl
  have hl : lv_has ls 3 [(0, .ref (a0 0))] := hl
  replace h : _ = some res := h
  unfold G_X2_border at h
  obtain ⟨H, hH⟩ : ∃ H, H = s.heap := ⟨_, rfl⟩
  obtain ⟨locs, hlocs⟩ : ∃ locs : List Loc, locs = [] := ⟨_, rfl⟩
  rw [← hlocs] at hS ⊢
  have hS : va_S A s.heap H locs := by rw [hH]; exact hS
  rw [← hH] at hP ⊢
  refine lv_iconst (v := 0) hx hb dX2_border_0 (by decide) ?_
  refine lv_istore_n (lv' := [(1, .int 0), (0, .ref (a0 0))]) hx hb dX2_border_1 rfl hl (by decide) rfl (fun ls hl => ?_)
  refine lv_iconst (v := 0) hx hb dX2_border_2 (by decide) ?_
  refine lv_istore_n (lv' := [(2, .int 0), (1, .int 0), (0, .ref (a0 0))]) hx hb dX2_border_3 rfl hl (by decide) rfl (fun ls hl => ?_)
  have hL4 : ∀ (n4 : Nat) (l2_4 : Int32) (l1_4 : Int32) (H : Heap) (locs : List Loc) (ls : Array Slot), G_X2_border_L4 f0 n4 l2_4 l1_4 = some res → va_P (dC, dI) vwCl (wFig a0 cy f0) H → va_D A (wFig a0 cy f0) → va_S A s.heap H locs → lv_has ls 3 [(2, .int l2_4), (1, .int l1_4), (0, .ref (a0 0))] → W p l e rm_X2_border s mm args below meth cd H locs 0 0 Q (F0 mm 4 ls []) := by
    intro n4
    induction n4 with
    | zero => intro l2_4 l1_4 H locs ls h; exact absurd h (by simp [G_X2_border_L4])
    | succ n4 ih4 =>
      intro l2_4 l1_4 H locs ls h hP hD hS hl
      rw [G_X2_border_L4] at h
      refine lv_iload_n hx hb dX2_border_4 rfl (lv_at hl 0 rfl) ?_
      refine lv_aload_n hx hb dX2_border_5 rfl (lv_at hl 2 rfl) ?_
      refine va_getN (D := (dC, dI)) (ci := 0) (v := .int (f_rings f0)) (C := RX1) (T := TX1) (N := 6) hx hb htg inX1 hown hK hP 0 rfl rfl 0 (by decide) (va_Nw.use rfl (hN (.fieldLinkNest RX2 43 "SquaredPaper$Figure" "rings" "I" "SquaredPaper") (by decide +kernel))) (fun _ h9 => h9) rfl dX2_border_6 ?_
      refine lv_icmp_ge (tgt := 26) hx hb dX2_border_9 (by decide) (fun c9 => ?_) (fun c9 => ?_)
      · replace h := if_t h c9
        refine lv_iload_n hx hb dX2_border_26 rfl (lv_at hl 1 rfl) ?_
        obtain rfl := Option.some.inj h
        exact hE H locs 27 ls _ hP hD hS rfl dX2_border_27
      replace h := if_f h c9
      refine lv_iload_n hx hb dX2_border_12 rfl (lv_at hl 1 rfl) ?_
      refine lv_aload_n hx hb dX2_border_13 rfl (lv_at hl 2 rfl) ?_
      refine lv_iload_n hx hb dX2_border_14 rfl (lv_at hl 0 rfl) ?_
      obtain ⟨v15, e15, h⟩ := bnd h
      refine cS (av := [.ref (a0 0), .int l2_4]) (rest := [.int l1_4]) (st1 := [.int v15, .int l1_4]) (k1 := 0) (k2 := 0) hx hb hml hown htg hN hK (c_X2_ringBorder l dC dI cy a0 f0 l2_4 v15 e15) (g_S gw544 gw545 gw72 gw546) hdS_X2_ringBorder rfl ⟨⟨Nat.le_of_ble_eq_true rfl, Nat.le_of_ble_eq_true rfl⟩, Nat.le_of_ble_eq_true rfl, Nat.le_of_ble_eq_true rfl⟩ hP hD hS hA [0, 1, 2, 3, 4] [] rfl rfl rfl (by decide) (by decide) hl.1 rfl (Nat.le_of_ble_eq_true rfl) rfl rfl rfl dX2_border_15 (fun H locs hP hD hS => ?_)
      have hP : va_P (dC, dI) vwCl (wFig a0 cy f0) H := hP
      have hD : va_D A (wFig a0 cy f0) := hD
      refine lv_iadd hx hb dX2_border_18 ?_
      refine lv_istore_n (lv' := [(1, .int (l1_4 + v15)), (2, .int l2_4), (0, .ref (a0 0))]) hx hb dX2_border_19 rfl hl (by decide) rfl (fun ls hl => ?_)
      refine lv_iinc (v := l2_4 + 1) (lv' := [(2, .int (l2_4 + 1)), (1, .int (l1_4 + v15)), (0, .ref (a0 0))]) hx hb dX2_border_20 hl (k := 1) rfl rfl (by decide) rfl (fun ls hl => ?_)
      refine lv_goto (tgt := 4) hx hb dX2_border_23 (by decide) ?_
      exact ih4 (l2_4 + 1) (l1_4 + v15) H locs ls h hP hD hS (lv_sub hl [0, 1, 2] rfl)
  exact hL4 FU 0 0 H locs ls h hP hD hS (lv_sub hl [0, 1, 2] rfl)
def G_X2_greatestX_L4  (f0 : Fig) : Nat → Int32 → Int32 → Option (Int32)
  | 0, _, _ => none
  | n4 + 1, l2_4, l1_4 =>
    if f_corners f0 ≤ l2_4 then
      some l1_4
    else
      (G_X1_xOf f0 l2_4).bind fun v15 =>
      (G_X2_greatestX_L4 f0 n4) (l2_4 + 1) (if l1_4 < v15 then v15 else l1_4)
def G_X2_greatestX (f0 : Fig) : Option (Int32) :=
  G_X2_greatestX_L4 f0 FU 0 0
abbrev rm_X2_greatestX : Room := { frames := 1, cells := 0, slots := 0, locals := 24 }
theorem hdS_X2_greatestX : yX2_greatestX.cls ≠ "java/lang/invoke/MethodHandle" ∧ yX2_greatestX.cls ≠ "java/lang/invoke/VarHandle" ∧ (parseMethodDescriptor yX2_greatestX.desc).map (fun d => d.parameters.length) = some 1 := by decide +kernel
set_option maxHeartbeats 4000000 in
set_option maxRecDepth 100000 in
theorem c_X2_greatestX (l : Launch) (dC : Nat → ClassId) (dI : Nat → Nat → Nat) (cy : Nat → ClassId) (a0 : Nat → Nat) (f0 : Fig) (res : Int32) (h : G_X2_greatestX f0 = some res) : CT l (dC, dI) (TY cy) yX2_greatestX cX2_greatestX 3 (some .int) rm_X2_greatestX [.ref (a0 0)] (wFig a0 cy f0) (wFig a0 cy f0) (some (.int res)) := by
  refine CT.mk_i (own := RX2) ⟨by decide, rfl⟩ (Nat.le_of_ble_eq_true rfl) ?_
  intro p e s mm args below meth cd A Q hx hb hml hown htg hN hK hA hP hD hS hE ls hl
  have hl : lv_has ls 3 [(0, .ref (a0 0))] := hl
  replace h : _ = some res := h
  unfold G_X2_greatestX at h
  obtain ⟨H, hH⟩ : ∃ H, H = s.heap := ⟨_, rfl⟩
  obtain ⟨locs, hlocs⟩ : ∃ locs : List Loc, locs = [] := ⟨_, rfl⟩
  rw [← hlocs] at hS ⊢
  have hS : va_S A s.heap H locs := by rw [hH]; exact hS
  rw [← hH] at hP ⊢
  refine lv_iconst (v := 0) hx hb dX2_greatestX_0 (by decide) ?_
  refine lv_istore_n (lv' := [(1, .int 0), (0, .ref (a0 0))]) hx hb dX2_greatestX_1 rfl hl (by decide) rfl (fun ls hl => ?_)
  refine lv_iconst (v := 0) hx hb dX2_greatestX_2 (by decide) ?_
  refine lv_istore_n (lv' := [(2, .int 0), (1, .int 0), (0, .ref (a0 0))]) hx hb dX2_greatestX_3 rfl hl (by decide) rfl (fun ls hl => ?_)
  have hL4 : ∀ (n4 : Nat) (l2_4 : Int32) (l1_4 : Int32) (H : Heap) (locs : List Loc) (ls : Array Slot), G_X2_greatestX_L4 f0 n4 l2_4 l1_4 = some res → va_P (dC, dI) vwCl (wFig a0 cy f0) H → va_D A (wFig a0 cy f0) → va_S A s.heap H locs → lv_has ls 3 [(2, .int l2_4), (1, .int l1_4), (0, .ref (a0 0))] → W p l e rm_X2_greatestX s mm args below meth cd H locs 0 0 Q (F0 mm 4 ls []) := by
    intro n4
    induction n4 with
    | zero => intro l2_4 l1_4 H locs ls h; exact absurd h (by simp [G_X2_greatestX_L4])
    | succ n4 ih4 =>
      intro l2_4 l1_4 H locs ls h hP hD hS hl
      rw [G_X2_greatestX_L4] at h
      refine lv_iload_n hx hb dX2_greatestX_4 rfl (lv_at hl 0 rfl) ?_
      refine lv_aload_n hx hb dX2_greatestX_5 rfl (lv_at hl 2 rfl) ?_
      refine va_getN (D := (dC, dI)) (ci := 0) (v := .int (f_corners f0)) (C := RX1) (T := TX1) (N := 6) hx hb htg inX1 hown hK hP 0 rfl rfl 1 (by decide) (va_Nw.use rfl (hN (.fieldLinkNest RX2 63 "SquaredPaper$Figure" "corners" "I" "SquaredPaper") (by decide +kernel))) (fun _ h9 => h9) rfl dX2_greatestX_6 ?_
      refine lv_icmp_ge (tgt := 28) hx hb dX2_greatestX_9 (by decide) (fun c9 => ?_) (fun c9 => ?_)
      · replace h := if_t h c9
        refine lv_iload_n hx hb dX2_greatestX_28 rfl (lv_at hl 1 rfl) ?_
        obtain rfl := Option.some.inj h
        exact hE H locs 29 ls _ hP hD hS rfl dX2_greatestX_29
      replace h := if_f h c9
      refine lv_iload_n hx hb dX2_greatestX_12 rfl (lv_at hl 1 rfl) ?_
      refine lv_aload_n hx hb dX2_greatestX_13 rfl (lv_at hl 2 rfl) ?_
      refine lv_iload_n hx hb dX2_greatestX_14 rfl (lv_at hl 0 rfl) ?_
      obtain ⟨v15, e15, h⟩ := bnd h
      refine cV (av := [.int l2_4]) (rest := [.int l1_4]) (st1 := [.int v15, .int l1_4]) (k1 := 0) (k2 := 0) (ci := 0) (q0 := 0) hx hb hml hown htg hN hK (c_X1_xOf l dC dI cy a0 f0 l2_4 v15 e15) (g_V gw336 gw241 gw242 gw60 gw243) hdV_X1_xOf rfl ⟨⟨Nat.le_of_ble_eq_true rfl, Nat.le_of_ble_eq_true rfl⟩, Nat.le_of_ble_eq_true rfl, Nat.le_of_ble_eq_true rfl⟩ hP hD hS hA ⟨rfl, rfl⟩ rfl [0, 1, 2, 3, 4] [] rfl rfl rfl (by decide) (by decide) hl.1 rfl (Nat.le_of_ble_eq_true rfl) rfl rfl rfl dX2_greatestX_15 (fun H locs hP hD hS => ?_)
      have hP : va_P (dC, dI) vwCl (wFig a0 cy f0) H := hP
      have hD : va_D A (wFig a0 cy f0) := hD
      refine va_mmax hx hb (hml.trans hl.1.symm) hown (htg _ gw337) (htg _ gw291) (htg _ gw70) (htg _ gw292) (Nat.le_of_ble_eq_true rfl) (Nat.le_of_ble_eq_true rfl) (Nat.le_of_ble_eq_true rfl) (Nat.le_of_ble_eq_true rfl) dX2_greatestX_18 ?_
      refine lv_istore_n (lv' := [(1, .int (if l1_4 < v15 then v15 else l1_4)), (2, .int l2_4), (0, .ref (a0 0))]) hx hb dX2_greatestX_21 rfl hl (by decide) rfl (fun ls hl => ?_)
      refine lv_iinc (v := l2_4 + 1) (lv' := [(2, .int (l2_4 + 1)), (1, .int (if l1_4 < v15 then v15 else l1_4)), (0, .ref (a0 0))]) hx hb dX2_greatestX_22 hl (k := 1) rfl rfl (by decide) rfl (fun ls hl => ?_)
      refine lv_goto (tgt := 4) hx hb dX2_greatestX_25 (by decide) ?_
      exact ih4 (l2_4 + 1) (if l1_4 < v15 then v15 else l1_4) H locs ls h hP hD hS (lv_sub hl [0, 1, 2] rfl)
  exact hL4 FU 0 0 H locs ls h hP hD hS (lv_sub hl [0, 1, 2] rfl)
def G_X2_isHullSide_j51 (r2 : Int32 → Int32 → Int32 → Option (Int32)) (f0 : Fig) (l3_51 : Int32) (l1_51 : Int32) (l2_51 : Int32) : Option (Int32) :=
  r2 (l3_51 + 1) l1_51 l2_51
def G_X2_isHullSide_L2  (f0 : Fig) : Nat → Int32 → Int32 → Int32 → Option (Int32)
  | 0, _, _, _ => none
  | n2 + 1, l3_2, l1_2, l2_2 =>
    (G_X1_sizeOf f0 0).bind fun v5 =>
    if v5 ≤ l3_2 then
      some 1
    else
      (G_X1_bend f0 l1_2 l2_2 l3_2).bind fun v15 =>
      if v15 < 0 then
        some 0
      else
        if v15 = 0 then
          (G_X1_xOf f0 l3_2).bind fun v33 =>
          (G_X1_yOf f0 l3_2).bind fun v38 =>
          (G_X1_onLine f0 v33 v38 l1_2 l2_2).bind fun v43 =>
          if v43 = 0 then
            some 0
          else
            G_X2_isHullSide_j51 (G_X2_isHullSide_L2 f0 n2) f0 l3_2 l1_2 l2_2
        else
          G_X2_isHullSide_j51 (G_X2_isHullSide_L2 f0 n2) f0 l3_2 l1_2 l2_2
def G_X2_isHullSide (f0 : Fig) (p1 : Int32) (p2 : Int32) : Option (Int32) :=
  G_X2_isHullSide_L2 f0 FU 0 p1 p2
abbrev rm_X2_isHullSide : Room := { frames := 2, cells := 0, slots := 0, locals := 48 }
theorem hdS_X2_isHullSide : yX2_isHullSide.cls ≠ "java/lang/invoke/MethodHandle" ∧ yX2_isHullSide.cls ≠ "java/lang/invoke/VarHandle" ∧ (parseMethodDescriptor yX2_isHullSide.desc).map (fun d => d.parameters.length) = some 3 := by decide +kernel
set_option maxHeartbeats 4000000 in
set_option maxRecDepth 100000 in
theorem c_X2_isHullSide (l : Launch) (dC : Nat → ClassId) (dI : Nat → Nat → Nat) (cy : Nat → ClassId) (a0 : Nat → Nat) (f0 : Fig) (p1 : Int32) (p2 : Int32) (res : Int32) (h : G_X2_isHullSide f0 p1 p2 = some res) : CT l (dC, dI) (TY cy) yX2_isHullSide cX2_isHullSide 5 (some .boolean) rm_X2_isHullSide [.ref (a0 0), .int p1, .int p2] (wFig a0 cy f0) (wFig a0 cy f0) (some (.int res)) := by
  refine CT.mk_z (own := RX2) ⟨by decide, rfl⟩ (Nat.le_of_ble_eq_true rfl) ?_
  intro p e s mm args below meth cd A Q hx hb hml hown htg hN hK hA hP hD hS hE ls hl
  have hl : lv_has ls 5 [(0, .ref (a0 0)), (1, .int p1), (2, .int p2)] := hl
  replace h : _ = some res := h
  unfold G_X2_isHullSide at h
  obtain ⟨H, hH⟩ : ∃ H, H = s.heap := ⟨_, rfl⟩
  obtain ⟨locs, hlocs⟩ : ∃ locs : List Loc, locs = [] := ⟨_, rfl⟩
  rw [← hlocs] at hS ⊢
  have hS : va_S A s.heap H locs := by rw [hH]; exact hS
  rw [← hH] at hP ⊢
  refine lv_iconst (v := 0) hx hb dX2_isHullSide_0 (by decide) ?_
  refine lv_istore_n (lv' := [(3, .int 0), (0, .ref (a0 0)), (1, .int p1), (2, .int p2)]) hx hb dX2_isHullSide_1 rfl hl (by decide) rfl (fun ls hl => ?_)
  have hL2 : ∀ (n2 : Nat) (l3_2 : Int32) (l1_2 : Int32) (l2_2 : Int32) (H : Heap) (locs : List Loc) (ls : Array Slot), G_X2_isHullSide_L2 f0 n2 l3_2 l1_2 l2_2 = some res → va_P (dC, dI) vwCl (wFig a0 cy f0) H → va_D A (wFig a0 cy f0) → va_S A s.heap H locs → lv_has ls 5 [(3, .int l3_2), (0, .ref (a0 0)), (1, .int l1_2), (2, .int l2_2)] → W p l e rm_X2_isHullSide s mm args below meth cd H locs 0 0 Q (F0 mm 2 ls []) := by
    intro n2
    induction n2 with
    | zero => intro l3_2 l1_2 l2_2 H locs ls h; exact absurd h (by simp [G_X2_isHullSide_L2])
    | succ n2 ih2 =>
      intro l3_2 l1_2 l2_2 H locs ls h hP hD hS hl
      rw [G_X2_isHullSide_L2] at h
      refine lv_iload_n hx hb dX2_isHullSide_2 rfl (lv_at hl 0 rfl) ?_
      refine lv_aload_n hx hb dX2_isHullSide_3 rfl (lv_at hl 1 rfl) ?_
      refine lv_iconst (v := 0) hx hb dX2_isHullSide_4 (by decide) ?_
      obtain ⟨v5, e5, h⟩ := bnd h
      refine cV (av := [.int 0]) (rest := [.int l3_2]) (st1 := [.int v5, .int l3_2]) (k1 := 0) (k2 := 0) (ci := 0) (q0 := 0) hx hb hml hown htg hN hK (c_X1_sizeOf l dC dI cy a0 f0 0 v5 e5) (g_V gw376 gw165 gw166 gw60 gw167) hdV_X1_sizeOf rfl ⟨⟨Nat.le_of_ble_eq_true rfl, Nat.le_of_ble_eq_true rfl⟩, Nat.le_of_ble_eq_true rfl, Nat.le_of_ble_eq_true rfl⟩ hP hD hS hA ⟨rfl, rfl⟩ rfl [0, 1, 2, 3, 4] [] rfl rfl rfl (by decide) (by decide) hl.1 rfl (Nat.le_of_ble_eq_true rfl) rfl rfl rfl dX2_isHullSide_5 (fun H locs hP hD hS => ?_)
      have hP : va_P (dC, dI) vwCl (wFig a0 cy f0) H := hP
      have hD : va_D A (wFig a0 cy f0) := hD
      refine lv_icmp_ge (tgt := 57) hx hb dX2_isHullSide_8 (by decide) (fun c8 => ?_) (fun c8 => ?_)
      · replace h := if_t h c8
        refine lv_iconst (v := 1) hx hb dX2_isHullSide_57 (by decide) ?_
        obtain rfl := Option.some.inj h
        exact hE H locs 58 ls _ hP hD hS rfl (Or.inr rfl) dX2_isHullSide_58
      replace h := if_f h c8
      refine lv_aload_n hx hb dX2_isHullSide_11 rfl (lv_at hl 1 rfl) ?_
      refine lv_iload_n hx hb dX2_isHullSide_12 rfl (lv_at hl 2 rfl) ?_
      refine lv_iload_n hx hb dX2_isHullSide_13 rfl (lv_at hl 3 rfl) ?_
      refine lv_iload_n hx hb dX2_isHullSide_14 rfl (lv_at hl 0 rfl) ?_
      obtain ⟨v15, e15, h⟩ := bnd h
      refine cV (av := [.int l1_2, .int l2_2, .int l3_2]) (rest := []) (st1 := [.int v15]) (k1 := 0) (k2 := 0) (ci := 0) (q0 := 0) hx hb hml hown htg hN hK (c_X1_bend l dC dI cy a0 f0 l1_2 l2_2 l3_2 v15 e15) (g_V gw568 gw273 gw274 gw60 gw275) hdV_X1_bend rfl ⟨⟨Nat.le_of_ble_eq_true rfl, Nat.le_of_ble_eq_true rfl⟩, Nat.le_of_ble_eq_true rfl, Nat.le_of_ble_eq_true rfl⟩ hP hD hS hA ⟨rfl, rfl⟩ rfl [0, 1, 2, 3, 4] [] rfl rfl rfl (by decide) (by decide) hl.1 rfl (Nat.le_of_ble_eq_true rfl) rfl rfl rfl dX2_isHullSide_15 (fun H locs hP hD hS => ?_)
      have hP : va_P (dC, dI) vwCl (wFig a0 cy f0) H := hP
      have hD : va_D A (wFig a0 cy f0) := hD
      refine lv_istore (lv' := [(4, .int v15), (3, .int l3_2), (0, .ref (a0 0)), (1, .int l1_2), (2, .int l2_2)]) hx hb dX2_isHullSide_18 hl (by decide) rfl (fun ls hl => ?_)
      refine lv_iload hx hb dX2_isHullSide_20 (lv_at hl 0 rfl) ?_
      refine lv_if_lt (tgt := 49) hx hb dX2_isHullSide_22 (by decide) (fun c22 => ?_) (fun c22 => ?_)
      · replace h := if_t h c22
        refine lv_iconst (v := 0) hx hb dX2_isHullSide_49 (by decide) ?_
        obtain rfl := Option.some.inj h
        exact hE H locs 50 ls _ hP hD hS rfl (Or.inl rfl) dX2_isHullSide_50
      replace h := if_f h c22
      refine lv_iload hx hb dX2_isHullSide_25 (lv_at hl 0 rfl) ?_
      have hj51 : ∀ (l3_51 : Int32) (l1_51 : Int32) (l2_51 : Int32) (H : Heap) (locs : List Loc) (ls : Array Slot), G_X2_isHullSide_j51 (G_X2_isHullSide_L2 f0 n2) f0 l3_51 l1_51 l2_51 = some res → va_P (dC, dI) vwCl (wFig a0 cy f0) H → va_D A (wFig a0 cy f0) → va_S A s.heap H locs → lv_has ls 5 [(3, .int l3_51), (0, .ref (a0 0)), (1, .int l1_51), (2, .int l2_51)] → W p l e rm_X2_isHullSide s mm args below meth cd H locs 0 0 Q (F0 mm 51 ls []) := by
        intro l3_51 l1_51 l2_51 H locs ls h hP hD hS hl
        unfold G_X2_isHullSide_j51 at h
        refine lv_iinc (v := l3_51 + 1) (lv' := [(3, .int (l3_51 + 1)), (0, .ref (a0 0)), (1, .int l1_51), (2, .int l2_51)]) hx hb dX2_isHullSide_51 hl (k := 0) rfl rfl (by decide) rfl (fun ls hl => ?_)
        refine lv_goto (tgt := 2) hx hb dX2_isHullSide_54 (by decide) ?_
        exact ih2 (l3_51 + 1) l1_51 l2_51 H locs ls h hP hD hS (lv_sub hl [0, 1, 2, 3] rfl)
      refine lv_if_ne (tgt := 51) hx hb dX2_isHullSide_27 (by decide) (fun c27 => ?_) (fun c27 => ?_)
      · replace h := if_f h c27
        exact hj51 l3_2 l1_2 l2_2 H locs ls h hP hD hS (lv_sub hl [1, 2, 3, 4] rfl)
      replace h := if_t h c27
      refine lv_aload_n hx hb dX2_isHullSide_30 rfl (lv_at hl 2 rfl) ?_
      refine lv_aload_n hx hb dX2_isHullSide_31 rfl (lv_at hl 2 rfl) ?_
      refine lv_iload_n hx hb dX2_isHullSide_32 rfl (lv_at hl 1 rfl) ?_
      obtain ⟨v33, e33, h⟩ := bnd h
      refine cV (av := [.int l3_2]) (rest := [.ref (a0 0)]) (st1 := [.int v33, .ref (a0 0)]) (k1 := 0) (k2 := 0) (ci := 0) (q0 := 0) hx hb hml hown htg hN hK (c_X1_xOf l dC dI cy a0 f0 l3_2 v33 e33) (g_V gw336 gw241 gw242 gw60 gw243) hdV_X1_xOf rfl ⟨⟨Nat.le_of_ble_eq_true rfl, Nat.le_of_ble_eq_true rfl⟩, Nat.le_of_ble_eq_true rfl, Nat.le_of_ble_eq_true rfl⟩ hP hD hS hA ⟨rfl, rfl⟩ rfl [0, 1, 2, 3, 4] [] rfl rfl rfl (by decide) (by decide) hl.1 rfl (Nat.le_of_ble_eq_true rfl) rfl rfl rfl dX2_isHullSide_33 (fun H locs hP hD hS => ?_)
      have hP : va_P (dC, dI) vwCl (wFig a0 cy f0) H := hP
      have hD : va_D A (wFig a0 cy f0) := hD
      refine lv_aload_n hx hb dX2_isHullSide_36 rfl (lv_at hl 2 rfl) ?_
      refine lv_iload_n hx hb dX2_isHullSide_37 rfl (lv_at hl 1 rfl) ?_
      obtain ⟨v38, e38, h⟩ := bnd h
      refine cV (av := [.int l3_2]) (rest := [.int v33, .ref (a0 0)]) (st1 := [.int v38, .int v33, .ref (a0 0)]) (k1 := 0) (k2 := 0) (ci := 0) (q0 := 0) hx hb hml hown htg hN hK (c_X1_yOf l dC dI cy a0 f0 l3_2 v38 e38) (g_V gw381 gw248 gw249 gw60 gw250) hdV_X1_yOf rfl ⟨⟨Nat.le_of_ble_eq_true rfl, Nat.le_of_ble_eq_true rfl⟩, Nat.le_of_ble_eq_true rfl, Nat.le_of_ble_eq_true rfl⟩ hP hD hS hA ⟨rfl, rfl⟩ rfl [0, 1, 2, 3, 4] [] rfl rfl rfl (by decide) (by decide) hl.1 rfl (Nat.le_of_ble_eq_true rfl) rfl rfl rfl dX2_isHullSide_38 (fun H locs hP hD hS => ?_)
      have hP : va_P (dC, dI) vwCl (wFig a0 cy f0) H := hP
      have hD : va_D A (wFig a0 cy f0) := hD
      refine lv_iload_n hx hb dX2_isHullSide_41 rfl (lv_at hl 3 rfl) ?_
      refine lv_iload_n hx hb dX2_isHullSide_42 rfl (lv_at hl 4 rfl) ?_
      obtain ⟨v43, e43, h⟩ := bnd h
      refine cV (av := [.int v33, .int v38, .int l1_2, .int l2_2]) (rest := []) (st1 := [.int v43]) (k1 := 0) (k2 := 0) (ci := 0) (q0 := 0) hx hb hml hown htg hN hK (c_X1_onLine l dC dI cy a0 f0 v33 v38 l1_2 l2_2 v43 e43) (g_V gw569 gw284 gw285 gw60 gw286) hdV_X1_onLine rfl ⟨⟨Nat.le_of_ble_eq_true rfl, Nat.le_of_ble_eq_true rfl⟩, Nat.le_of_ble_eq_true rfl, Nat.le_of_ble_eq_true rfl⟩ hP hD hS hA ⟨rfl, rfl⟩ rfl [0, 1, 2, 3, 4] [] rfl rfl rfl (by decide) (by decide) hl.1 rfl (Nat.le_of_ble_eq_true rfl) rfl rfl rfl dX2_isHullSide_43 (fun H locs hP hD hS => ?_)
      have hP : va_P (dC, dI) vwCl (wFig a0 cy f0) H := hP
      have hD : va_D A (wFig a0 cy f0) := hD
      refine lv_if_ne (tgt := 51) hx hb dX2_isHullSide_46 (by decide) (fun c46 => ?_) (fun c46 => ?_)
      · replace h := if_f h c46
        exact hj51 l3_2 l1_2 l2_2 H locs ls h hP hD hS (lv_sub hl [1, 2, 3, 4] rfl)
      replace h := if_t h c46
      refine lv_iconst (v := 0) hx hb dX2_isHullSide_49 (by decide) ?_
      obtain rfl := Option.some.inj h
      exact hE H locs 50 ls _ hP hD hS rfl (Or.inl rfl) dX2_isHullSide_50
  exact hL2 FU 0 p1 p2 H locs ls h hP hD hS (lv_sub hl [0, 1, 2, 3] rfl)
def G_X2_hull_j47 (r15 : Int32 → Int32 → Int32 → Option (Int32)) (f0 : Fig) (l3_47 : Int32) (l2_47 : Int32) (l1_47 : Int32) : Option (Int32) :=
  r15 (l3_47 + 1) l2_47 l1_47
def G_X2_hull_L15 (r4 : Int32 → Int32 → Option (Int32)) (f0 : Fig) : Nat → Int32 → Int32 → Int32 → Option (Int32)
  | 0, _, _, _ => none
  | n15 + 1, l3_15, l2_15, l1_15 =>
    (G_X1_sizeOf f0 0).bind fun v18 =>
    if v18 ≤ l3_15 then
      r4 (l2_15 + 1) l1_15
    else
      if l2_15 = l3_15 then
        G_X2_hull_j47 (G_X2_hull_L15 r4 f0 n15) f0 l3_15 l2_15 l1_15
      else
        (G_X2_isHullSide f0 l2_15 l3_15).bind fun v32 =>
        if v32 = 0 then
          G_X2_hull_j47 (G_X2_hull_L15 r4 f0 n15) f0 l3_15 l2_15 l1_15
        else
          (G_X2_product f0 l2_15 l3_15).bind fun v42 =>
          G_X2_hull_j47 (G_X2_hull_L15 r4 f0 n15) f0 l3_15 l2_15 (l1_15 + v42)
def G_X2_hull_L4  (f0 : Fig) : Nat → Int32 → Int32 → Option (Int32)
  | 0, _, _ => none
  | n4 + 1, l2_4, l1_4 =>
    (G_X1_sizeOf f0 0).bind fun v7 =>
    if v7 ≤ l2_4 then
      some l1_4
    else
      G_X2_hull_L15 (G_X2_hull_L4 f0 n4) f0 FU 0 l2_4 l1_4
def G_X2_hull (f0 : Fig) : Option (Int32) :=
  G_X2_hull_L4 f0 FU 0 0
abbrev rm_X2_hull : Room := { frames := 3, cells := 0, slots := 0, locals := 72 }
theorem hdS_X2_hull : yX2_hull.cls ≠ "java/lang/invoke/MethodHandle" ∧ yX2_hull.cls ≠ "java/lang/invoke/VarHandle" ∧ (parseMethodDescriptor yX2_hull.desc).map (fun d => d.parameters.length) = some 1 := by decide +kernel
set_option maxHeartbeats 4000000 in
set_option maxRecDepth 100000 in
theorem c_X2_hull (l : Launch) (dC : Nat → ClassId) (dI : Nat → Nat → Nat) (cy : Nat → ClassId) (a0 : Nat → Nat) (f0 : Fig) (res : Int32) (h : G_X2_hull f0 = some res) : CT l (dC, dI) (TY cy) yX2_hull cX2_hull 4 (some .int) rm_X2_hull [.ref (a0 0)] (wFig a0 cy f0) (wFig a0 cy f0) (some (.int res)) := by
  refine CT.mk_i (own := RX2) ⟨by decide, rfl⟩ (Nat.le_of_ble_eq_true rfl) ?_
  intro p e s mm args below meth cd A Q hx hb hml hown htg hN hK hA hP hD hS hE ls hl
  have hl : lv_has ls 4 [(0, .ref (a0 0))] := hl
  replace h : _ = some res := h
  unfold G_X2_hull at h
  obtain ⟨H, hH⟩ : ∃ H, H = s.heap := ⟨_, rfl⟩
  obtain ⟨locs, hlocs⟩ : ∃ locs : List Loc, locs = [] := ⟨_, rfl⟩
  rw [← hlocs] at hS ⊢
  have hS : va_S A s.heap H locs := by rw [hH]; exact hS
  rw [← hH] at hP ⊢
  refine lv_iconst (v := 0) hx hb dX2_hull_0 (by decide) ?_
  refine lv_istore_n (lv' := [(1, .int 0), (0, .ref (a0 0))]) hx hb dX2_hull_1 rfl hl (by decide) rfl (fun ls hl => ?_)
  refine lv_iconst (v := 0) hx hb dX2_hull_2 (by decide) ?_
  refine lv_istore_n (lv' := [(2, .int 0), (1, .int 0), (0, .ref (a0 0))]) hx hb dX2_hull_3 rfl hl (by decide) rfl (fun ls hl => ?_)
  have hL4 : ∀ (n4 : Nat) (l2_4 : Int32) (l1_4 : Int32) (H : Heap) (locs : List Loc) (ls : Array Slot), G_X2_hull_L4 f0 n4 l2_4 l1_4 = some res → va_P (dC, dI) vwCl (wFig a0 cy f0) H → va_D A (wFig a0 cy f0) → va_S A s.heap H locs → lv_has ls 4 [(2, .int l2_4), (1, .int l1_4), (0, .ref (a0 0))] → W p l e rm_X2_hull s mm args below meth cd H locs 0 0 Q (F0 mm 4 ls []) := by
    intro n4
    induction n4 with
    | zero => intro l2_4 l1_4 H locs ls h; exact absurd h (by simp [G_X2_hull_L4])
    | succ n4 ih4 =>
      intro l2_4 l1_4 H locs ls h hP hD hS hl
      rw [G_X2_hull_L4] at h
      refine lv_iload_n hx hb dX2_hull_4 rfl (lv_at hl 0 rfl) ?_
      refine lv_aload_n hx hb dX2_hull_5 rfl (lv_at hl 2 rfl) ?_
      refine lv_iconst (v := 0) hx hb dX2_hull_6 (by decide) ?_
      obtain ⟨v7, e7, h⟩ := bnd h
      refine cV (av := [.int 0]) (rest := [.int l2_4]) (st1 := [.int v7, .int l2_4]) (k1 := 0) (k2 := 0) (ci := 0) (q0 := 0) hx hb hml hown htg hN hK (c_X1_sizeOf l dC dI cy a0 f0 0 v7 e7) (g_V gw376 gw165 gw166 gw60 gw167) hdV_X1_sizeOf rfl ⟨⟨Nat.le_of_ble_eq_true rfl, Nat.le_of_ble_eq_true rfl⟩, Nat.le_of_ble_eq_true rfl, Nat.le_of_ble_eq_true rfl⟩ hP hD hS hA ⟨rfl, rfl⟩ rfl [0, 1, 2, 3, 4] [] rfl rfl rfl (by decide) (by decide) hl.1 rfl (Nat.le_of_ble_eq_true rfl) rfl rfl rfl dX2_hull_7 (fun H locs hP hD hS => ?_)
      have hP : va_P (dC, dI) vwCl (wFig a0 cy f0) H := hP
      have hD : va_D A (wFig a0 cy f0) := hD
      refine lv_icmp_ge (tgt := 59) hx hb dX2_hull_10 (by decide) (fun c10 => ?_) (fun c10 => ?_)
      · replace h := if_t h c10
        refine lv_iload_n hx hb dX2_hull_59 rfl (lv_at hl 1 rfl) ?_
        obtain rfl := Option.some.inj h
        exact hE H locs 60 ls _ hP hD hS rfl dX2_hull_60
      replace h := if_f h c10
      refine lv_iconst (v := 0) hx hb dX2_hull_13 (by decide) ?_
      refine lv_istore_n (lv' := [(3, .int 0), (2, .int l2_4), (1, .int l1_4), (0, .ref (a0 0))]) hx hb dX2_hull_14 rfl hl (by decide) rfl (fun ls hl => ?_)
      have hL15 : ∀ (n15 : Nat) (l3_15 : Int32) (l2_15 : Int32) (l1_15 : Int32) (H : Heap) (locs : List Loc) (ls : Array Slot), G_X2_hull_L15 (G_X2_hull_L4 f0 n4) f0 n15 l3_15 l2_15 l1_15 = some res → va_P (dC, dI) vwCl (wFig a0 cy f0) H → va_D A (wFig a0 cy f0) → va_S A s.heap H locs → lv_has ls 4 [(3, .int l3_15), (2, .int l2_15), (1, .int l1_15), (0, .ref (a0 0))] → W p l e rm_X2_hull s mm args below meth cd H locs 0 0 Q (F0 mm 15 ls []) := by
        intro n15
        induction n15 with
        | zero => intro l3_15 l2_15 l1_15 H locs ls h; exact absurd h (by simp [G_X2_hull_L15])
        | succ n15 ih15 =>
          intro l3_15 l2_15 l1_15 H locs ls h hP hD hS hl
          rw [G_X2_hull_L15] at h
          refine lv_iload_n hx hb dX2_hull_15 rfl (lv_at hl 0 rfl) ?_
          refine lv_aload_n hx hb dX2_hull_16 rfl (lv_at hl 3 rfl) ?_
          refine lv_iconst (v := 0) hx hb dX2_hull_17 (by decide) ?_
          obtain ⟨v18, e18, h⟩ := bnd h
          refine cV (av := [.int 0]) (rest := [.int l3_15]) (st1 := [.int v18, .int l3_15]) (k1 := 0) (k2 := 0) (ci := 0) (q0 := 0) hx hb hml hown htg hN hK (c_X1_sizeOf l dC dI cy a0 f0 0 v18 e18) (g_V gw376 gw165 gw166 gw60 gw167) hdV_X1_sizeOf rfl ⟨⟨Nat.le_of_ble_eq_true rfl, Nat.le_of_ble_eq_true rfl⟩, Nat.le_of_ble_eq_true rfl, Nat.le_of_ble_eq_true rfl⟩ hP hD hS hA ⟨rfl, rfl⟩ rfl [0, 1, 2, 3, 4] [] rfl rfl rfl (by decide) (by decide) hl.1 rfl (Nat.le_of_ble_eq_true rfl) rfl rfl rfl dX2_hull_18 (fun H locs hP hD hS => ?_)
          have hP : va_P (dC, dI) vwCl (wFig a0 cy f0) H := hP
          have hD : va_D A (wFig a0 cy f0) := hD
          refine lv_icmp_ge (tgt := 53) hx hb dX2_hull_21 (by decide) (fun c21 => ?_) (fun c21 => ?_)
          · replace h := if_t h c21
            refine lv_iinc (v := l2_15 + 1) (lv' := [(2, .int (l2_15 + 1)), (3, .int l3_15), (1, .int l1_15), (0, .ref (a0 0))]) hx hb dX2_hull_53 hl (k := 1) rfl rfl (by decide) rfl (fun ls hl => ?_)
            refine lv_goto (tgt := 4) hx hb dX2_hull_56 (by decide) ?_
            exact ih4 (l2_15 + 1) l1_15 H locs ls h hP hD hS (lv_sub hl [0, 2, 3] rfl)
          replace h := if_f h c21
          refine lv_iload_n hx hb dX2_hull_24 rfl (lv_at hl 1 rfl) ?_
          refine lv_iload_n hx hb dX2_hull_25 rfl (lv_at hl 0 rfl) ?_
          have hj47 : ∀ (l3_47 : Int32) (l2_47 : Int32) (l1_47 : Int32) (H : Heap) (locs : List Loc) (ls : Array Slot), G_X2_hull_j47 (G_X2_hull_L15 (G_X2_hull_L4 f0 n4) f0 n15) f0 l3_47 l2_47 l1_47 = some res → va_P (dC, dI) vwCl (wFig a0 cy f0) H → va_D A (wFig a0 cy f0) → va_S A s.heap H locs → lv_has ls 4 [(3, .int l3_47), (2, .int l2_47), (1, .int l1_47), (0, .ref (a0 0))] → W p l e rm_X2_hull s mm args below meth cd H locs 0 0 Q (F0 mm 47 ls []) := by
            intro l3_47 l2_47 l1_47 H locs ls h hP hD hS hl
            unfold G_X2_hull_j47 at h
            refine lv_iinc (v := l3_47 + 1) (lv' := [(3, .int (l3_47 + 1)), (2, .int l2_47), (1, .int l1_47), (0, .ref (a0 0))]) hx hb dX2_hull_47 hl (k := 0) rfl rfl (by decide) rfl (fun ls hl => ?_)
            refine lv_goto (tgt := 15) hx hb dX2_hull_50 (by decide) ?_
            exact ih15 (l3_47 + 1) l2_47 l1_47 H locs ls h hP hD hS (lv_sub hl [0, 1, 2, 3] rfl)
          refine lv_icmp_eq (tgt := 47) hx hb dX2_hull_26 (by decide) (fun c26 => ?_) (fun c26 => ?_)
          · replace h := if_t h c26
            exact hj47 l3_15 l2_15 l1_15 H locs ls h hP hD hS (lv_sub hl [0, 1, 2, 3] rfl)
          replace h := if_f h c26
          refine lv_aload_n hx hb dX2_hull_29 rfl (lv_at hl 3 rfl) ?_
          refine lv_iload_n hx hb dX2_hull_30 rfl (lv_at hl 1 rfl) ?_
          refine lv_iload_n hx hb dX2_hull_31 rfl (lv_at hl 0 rfl) ?_
          obtain ⟨v32, e32, h⟩ := bnd h
          refine cS (av := [.ref (a0 0), .int l2_15, .int l3_15]) (rest := []) (st1 := [.int v32]) (k1 := 0) (k2 := 0) hx hb hml hown htg hN hK (c_X2_isHullSide l dC dI cy a0 f0 l2_15 l3_15 v32 e32) (g_S gw565 gw566 gw72 gw567) hdS_X2_isHullSide rfl ⟨⟨Nat.le_of_ble_eq_true rfl, Nat.le_of_ble_eq_true rfl⟩, Nat.le_of_ble_eq_true rfl, Nat.le_of_ble_eq_true rfl⟩ hP hD hS hA [0, 1, 2, 3, 4] [] rfl rfl rfl (by decide) (by decide) hl.1 rfl (Nat.le_of_ble_eq_true rfl) rfl rfl rfl dX2_hull_32 (fun H locs hP hD hS => ?_)
          have hP : va_P (dC, dI) vwCl (wFig a0 cy f0) H := hP
          have hD : va_D A (wFig a0 cy f0) := hD
          refine lv_if_eq (tgt := 47) hx hb dX2_hull_35 (by decide) (fun c35 => ?_) (fun c35 => ?_)
          · replace h := if_t h c35
            exact hj47 l3_15 l2_15 l1_15 H locs ls h hP hD hS (lv_sub hl [0, 1, 2, 3] rfl)
          replace h := if_f h c35
          refine lv_iload_n hx hb dX2_hull_38 rfl (lv_at hl 2 rfl) ?_
          refine lv_aload_n hx hb dX2_hull_39 rfl (lv_at hl 3 rfl) ?_
          refine lv_iload_n hx hb dX2_hull_40 rfl (lv_at hl 1 rfl) ?_
          refine lv_iload_n hx hb dX2_hull_41 rfl (lv_at hl 0 rfl) ?_
          obtain ⟨v42, e42, h⟩ := bnd h
          refine cS (av := [.ref (a0 0), .int l2_15, .int l3_15]) (rest := [.int l1_15]) (st1 := [.int v42, .int l1_15]) (k1 := 0) (k2 := 0) hx hb hml hown htg hN hK (c_X2_product l dC dI cy a0 f0 l2_15 l3_15 v42 e42) (g_S gw378 gw379 gw72 gw380) hdS_X2_product rfl ⟨⟨Nat.le_of_ble_eq_true rfl, Nat.le_of_ble_eq_true rfl⟩, Nat.le_of_ble_eq_true rfl, Nat.le_of_ble_eq_true rfl⟩ hP hD hS hA [0, 1, 2, 3, 4] [] rfl rfl rfl (by decide) (by decide) hl.1 rfl (Nat.le_of_ble_eq_true rfl) rfl rfl rfl dX2_hull_42 (fun H locs hP hD hS => ?_)
          have hP : va_P (dC, dI) vwCl (wFig a0 cy f0) H := hP
          have hD : va_D A (wFig a0 cy f0) := hD
          refine lv_iadd hx hb dX2_hull_45 ?_
          refine lv_istore_n (lv' := [(1, .int (l1_15 + v42)), (3, .int l3_15), (2, .int l2_15), (0, .ref (a0 0))]) hx hb dX2_hull_46 rfl hl (by decide) rfl (fun ls hl => ?_)
          exact hj47 l3_15 l2_15 (l1_15 + v42) H locs ls h hP hD hS (lv_sub hl [1, 2, 0, 3] rfl)
      exact hL15 FU 0 l2_4 l1_4 H locs ls h hP hD hS (lv_sub hl [0, 1, 2, 3] rfl)
  exact hL4 FU 0 0 H locs ls h hP hD hS (lv_sub hl [0, 1, 2] rfl)
def G_X2_inside_L18  (f0 : Fig) : Nat → Int32 → Int32 → Option (Int32)
  | 0, _, _ => none
  | n18 + 1, l2_18, l1_18 =>
    if f_rings f0 ≤ l2_18 then
      some l1_18
    else
      (G_X2_ringArea f0 l2_18).bind fun v29 =>
      (G_X2_ringBorder f0 l2_18).bind fun v34 =>
      (G_X2_inside_L18 f0 n18) (l2_18 + 1) (l1_18 - (((v29 + v34) + 2) / 2))
def G_X2_inside (f0 : Fig) : Option (Int32) :=
  (G_X2_ringArea f0 0).bind fun v2 =>
  (G_X2_ringBorder f0 0).bind fun v7 =>
  G_X2_inside_L18 f0 FU 1 (((v2 - v7) + 2) / 2)
abbrev rm_X2_inside : Room := { frames := 4, cells := 0, slots := 0, locals := 88 }
theorem hdS_X2_inside : yX2_inside.cls ≠ "java/lang/invoke/MethodHandle" ∧ yX2_inside.cls ≠ "java/lang/invoke/VarHandle" ∧ (parseMethodDescriptor yX2_inside.desc).map (fun d => d.parameters.length) = some 1 := by decide +kernel
set_option maxHeartbeats 4000000 in
set_option maxRecDepth 100000 in
theorem c_X2_inside (l : Launch) (dC : Nat → ClassId) (dI : Nat → Nat → Nat) (cy : Nat → ClassId) (a0 : Nat → Nat) (f0 : Fig) (res : Int32) (h : G_X2_inside f0 = some res) : CT l (dC, dI) (TY cy) yX2_inside cX2_inside 3 (some .int) rm_X2_inside [.ref (a0 0)] (wFig a0 cy f0) (wFig a0 cy f0) (some (.int res)) := by
  refine CT.mk_i (own := RX2) ⟨by decide, rfl⟩ (Nat.le_of_ble_eq_true rfl) ?_
  intro p e s mm args below meth cd A Q hx hb hml hown htg hN hK hA hP hD hS hE ls hl
  have hl : lv_has ls 3 [(0, .ref (a0 0))] := hl
  replace h : _ = some res := h
  unfold G_X2_inside at h
  obtain ⟨H, hH⟩ : ∃ H, H = s.heap := ⟨_, rfl⟩
  obtain ⟨locs, hlocs⟩ : ∃ locs : List Loc, locs = [] := ⟨_, rfl⟩
  rw [← hlocs] at hS ⊢
  have hS : va_S A s.heap H locs := by rw [hH]; exact hS
  rw [← hH] at hP ⊢
  refine lv_aload_n hx hb dX2_inside_0 rfl (lv_at hl 0 rfl) ?_
  refine lv_iconst (v := 0) hx hb dX2_inside_1 (by decide) ?_
  obtain ⟨v2, e2, h⟩ := bnd h
  refine cS (av := [.ref (a0 0), .int 0]) (rest := []) (st1 := [.int v2]) (k1 := 0) (k2 := 0) hx hb hml hown htg hN hK (c_X2_ringArea l dC dI cy a0 f0 0 v2 e2) (g_S gw369 gw370 gw72 gw371) hdS_X2_ringArea rfl ⟨⟨Nat.le_of_ble_eq_true rfl, Nat.le_of_ble_eq_true rfl⟩, Nat.le_of_ble_eq_true rfl, Nat.le_of_ble_eq_true rfl⟩ hP hD hS hA [0, 1, 2, 3, 4] [] rfl rfl rfl (by decide) (by decide) hl.1 rfl (Nat.le_of_ble_eq_true rfl) rfl rfl rfl dX2_inside_2 (fun H locs hP hD hS => ?_)
  have hP : va_P (dC, dI) vwCl (wFig a0 cy f0) H := hP
  have hD : va_D A (wFig a0 cy f0) := hD
  refine lv_aload_n hx hb dX2_inside_5 rfl (lv_at hl 0 rfl) ?_
  refine lv_iconst (v := 0) hx hb dX2_inside_6 (by decide) ?_
  obtain ⟨v7, e7, h⟩ := bnd h
  refine cS (av := [.ref (a0 0), .int 0]) (rest := [.int v2]) (st1 := [.int v7, .int v2]) (k1 := 0) (k2 := 0) hx hb hml hown htg hN hK (c_X2_ringBorder l dC dI cy a0 f0 0 v7 e7) (g_S gw544 gw545 gw72 gw546) hdS_X2_ringBorder rfl ⟨⟨Nat.le_of_ble_eq_true rfl, Nat.le_of_ble_eq_true rfl⟩, Nat.le_of_ble_eq_true rfl, Nat.le_of_ble_eq_true rfl⟩ hP hD hS hA [0, 1, 2, 3, 4] [] rfl rfl rfl (by decide) (by decide) hl.1 rfl (Nat.le_of_ble_eq_true rfl) rfl rfl rfl dX2_inside_7 (fun H locs hP hD hS => ?_)
  have hP : va_P (dC, dI) vwCl (wFig a0 cy f0) H := hP
  have hD : va_D A (wFig a0 cy f0) := hD
  refine lv_isub hx hb dX2_inside_10 ?_
  refine lv_iconst (v := 2) hx hb dX2_inside_11 (by decide) ?_
  refine lv_iadd hx hb dX2_inside_12 ?_
  refine lv_iconst (v := 2) hx hb dX2_inside_13 (by decide) ?_
  refine lv_idiv hx hb dX2_inside_14 (by decide) ?_
  refine lv_istore_n (lv' := [(1, .int (((v2 - v7) + 2) / 2)), (0, .ref (a0 0))]) hx hb dX2_inside_15 rfl hl (by decide) rfl (fun ls hl => ?_)
  refine lv_iconst (v := 1) hx hb dX2_inside_16 (by decide) ?_
  refine lv_istore_n (lv' := [(2, .int 1), (1, .int (((v2 - v7) + 2) / 2)), (0, .ref (a0 0))]) hx hb dX2_inside_17 rfl hl (by decide) rfl (fun ls hl => ?_)
  have hL18 : ∀ (n18 : Nat) (l2_18 : Int32) (l1_18 : Int32) (H : Heap) (locs : List Loc) (ls : Array Slot), G_X2_inside_L18 f0 n18 l2_18 l1_18 = some res → va_P (dC, dI) vwCl (wFig a0 cy f0) H → va_D A (wFig a0 cy f0) → va_S A s.heap H locs → lv_has ls 3 [(2, .int l2_18), (1, .int l1_18), (0, .ref (a0 0))] → W p l e rm_X2_inside s mm args below meth cd H locs 0 0 Q (F0 mm 18 ls []) := by
    intro n18
    induction n18 with
    | zero => intro l2_18 l1_18 H locs ls h; exact absurd h (by simp [G_X2_inside_L18])
    | succ n18 ih18 =>
      intro l2_18 l1_18 H locs ls h hP hD hS hl
      rw [G_X2_inside_L18] at h
      refine lv_iload_n hx hb dX2_inside_18 rfl (lv_at hl 0 rfl) ?_
      refine lv_aload_n hx hb dX2_inside_19 rfl (lv_at hl 2 rfl) ?_
      refine va_getN (D := (dC, dI)) (ci := 0) (v := .int (f_rings f0)) (C := RX1) (T := TX1) (N := 6) hx hb htg inX1 hown hK hP 0 rfl rfl 0 (by decide) (va_Nw.use rfl (hN (.fieldLinkNest RX2 43 "SquaredPaper$Figure" "rings" "I" "SquaredPaper") (by decide +kernel))) (fun _ h9 => h9) rfl dX2_inside_20 ?_
      refine lv_icmp_ge (tgt := 50) hx hb dX2_inside_23 (by decide) (fun c23 => ?_) (fun c23 => ?_)
      · replace h := if_t h c23
        refine lv_iload_n hx hb dX2_inside_50 rfl (lv_at hl 1 rfl) ?_
        obtain rfl := Option.some.inj h
        exact hE H locs 51 ls _ hP hD hS rfl dX2_inside_51
      replace h := if_f h c23
      refine lv_iload_n hx hb dX2_inside_26 rfl (lv_at hl 1 rfl) ?_
      refine lv_aload_n hx hb dX2_inside_27 rfl (lv_at hl 2 rfl) ?_
      refine lv_iload_n hx hb dX2_inside_28 rfl (lv_at hl 0 rfl) ?_
      obtain ⟨v29, e29, h⟩ := bnd h
      refine cS (av := [.ref (a0 0), .int l2_18]) (rest := [.int l1_18]) (st1 := [.int v29, .int l1_18]) (k1 := 0) (k2 := 0) hx hb hml hown htg hN hK (c_X2_ringArea l dC dI cy a0 f0 l2_18 v29 e29) (g_S gw369 gw370 gw72 gw371) hdS_X2_ringArea rfl ⟨⟨Nat.le_of_ble_eq_true rfl, Nat.le_of_ble_eq_true rfl⟩, Nat.le_of_ble_eq_true rfl, Nat.le_of_ble_eq_true rfl⟩ hP hD hS hA [0, 1, 2, 3, 4] [] rfl rfl rfl (by decide) (by decide) hl.1 rfl (Nat.le_of_ble_eq_true rfl) rfl rfl rfl dX2_inside_29 (fun H locs hP hD hS => ?_)
      have hP : va_P (dC, dI) vwCl (wFig a0 cy f0) H := hP
      have hD : va_D A (wFig a0 cy f0) := hD
      refine lv_aload_n hx hb dX2_inside_32 rfl (lv_at hl 2 rfl) ?_
      refine lv_iload_n hx hb dX2_inside_33 rfl (lv_at hl 0 rfl) ?_
      obtain ⟨v34, e34, h⟩ := bnd h
      refine cS (av := [.ref (a0 0), .int l2_18]) (rest := [.int v29, .int l1_18]) (st1 := [.int v34, .int v29, .int l1_18]) (k1 := 0) (k2 := 0) hx hb hml hown htg hN hK (c_X2_ringBorder l dC dI cy a0 f0 l2_18 v34 e34) (g_S gw544 gw545 gw72 gw546) hdS_X2_ringBorder rfl ⟨⟨Nat.le_of_ble_eq_true rfl, Nat.le_of_ble_eq_true rfl⟩, Nat.le_of_ble_eq_true rfl, Nat.le_of_ble_eq_true rfl⟩ hP hD hS hA [0, 1, 2, 3, 4] [] rfl rfl rfl (by decide) (by decide) hl.1 rfl (Nat.le_of_ble_eq_true rfl) rfl rfl rfl dX2_inside_34 (fun H locs hP hD hS => ?_)
      have hP : va_P (dC, dI) vwCl (wFig a0 cy f0) H := hP
      have hD : va_D A (wFig a0 cy f0) := hD
      refine lv_iadd hx hb dX2_inside_37 ?_
      refine lv_iconst (v := 2) hx hb dX2_inside_38 (by decide) ?_
      refine lv_iadd hx hb dX2_inside_39 ?_
      refine lv_iconst (v := 2) hx hb dX2_inside_40 (by decide) ?_
      refine lv_idiv hx hb dX2_inside_41 (by decide) ?_
      refine lv_isub hx hb dX2_inside_42 ?_
      refine lv_istore_n (lv' := [(1, .int (l1_18 - (((v29 + v34) + 2) / 2))), (2, .int l2_18), (0, .ref (a0 0))]) hx hb dX2_inside_43 rfl hl (by decide) rfl (fun ls hl => ?_)
      refine lv_iinc (v := l2_18 + 1) (lv' := [(2, .int (l2_18 + 1)), (1, .int (l1_18 - (((v29 + v34) + 2) / 2))), (0, .ref (a0 0))]) hx hb dX2_inside_44 hl (k := 1) rfl rfl (by decide) rfl (fun ls hl => ?_)
      refine lv_goto (tgt := 18) hx hb dX2_inside_47 (by decide) ?_
      exact ih18 (l2_18 + 1) (l1_18 - (((v29 + v34) + 2) / 2)) H locs ls h hP hD hS (lv_sub hl [0, 1, 2] rfl)
  exact hL18 FU 1 (((v2 - v7) + 2) / 2) H locs ls h hP hD hS (lv_sub hl [0, 1, 2] rfl)
def G_X2_kind (f0 : Fig) (p1 : Int32) (p2 : Int32) : Option (Int32) :=
  (G_X1_bendAt f0 p1 p2).bind fun v3 =>
  if v3 = 0 then
    some 0
  else
    ((if v3 ≤ 0 then
        some 0
      else
        some 1) : Option (Int32)).bind fun b14 =>
    (G_X2_ringSum f0 p1).bind fun v24 =>
    ((if v24 ≤ 0 then
        some 0
      else
        some 1) : Option (Int32)).bind fun b27 =>
    if b14 = b27 then
      some 1
    else
      some (-1)
abbrev rm_X2_kind : Room := { frames := 3, cells := 0, slots := 0, locals := 68 }
theorem hdS_X2_kind : yX2_kind.cls ≠ "java/lang/invoke/MethodHandle" ∧ yX2_kind.cls ≠ "java/lang/invoke/VarHandle" ∧ (parseMethodDescriptor yX2_kind.desc).map (fun d => d.parameters.length) = some 3 := by decide +kernel
set_option maxHeartbeats 4000000 in
set_option maxRecDepth 100000 in
theorem c_X2_kind (l : Launch) (dC : Nat → ClassId) (dI : Nat → Nat → Nat) (cy : Nat → ClassId) (a0 : Nat → Nat) (f0 : Fig) (p1 : Int32) (p2 : Int32) (res : Int32) (h : G_X2_kind f0 p1 p2 = some res) : CT l (dC, dI) (TY cy) yX2_kind cX2_kind 4 (some .int) rm_X2_kind [.ref (a0 0), .int p1, .int p2] (wFig a0 cy f0) (wFig a0 cy f0) (some (.int res)) := by
  refine CT.mk_i (own := RX2) ⟨by decide, rfl⟩ (Nat.le_of_ble_eq_true rfl) ?_
  intro p e s mm args below meth cd A Q hx hb hml hown htg hN hK hA hP hD hS hE ls hl
  have hl : lv_has ls 4 [(0, .ref (a0 0)), (1, .int p1), (2, .int p2)] := hl
  replace h : _ = some res := h
  unfold G_X2_kind at h
  obtain ⟨H, hH⟩ : ∃ H, H = s.heap := ⟨_, rfl⟩
  obtain ⟨locs, hlocs⟩ : ∃ locs : List Loc, locs = [] := ⟨_, rfl⟩
  rw [← hlocs] at hS ⊢
  have hS : va_S A s.heap H locs := by rw [hH]; exact hS
  rw [← hH] at hP ⊢
  refine lv_aload_n hx hb dX2_kind_0 rfl (lv_at hl 0 rfl) ?_
  refine lv_iload_n hx hb dX2_kind_1 rfl (lv_at hl 1 rfl) ?_
  refine lv_iload_n hx hb dX2_kind_2 rfl (lv_at hl 2 rfl) ?_
  obtain ⟨v3, e3, h⟩ := bnd h
  refine cV (av := [.int p1, .int p2]) (rest := []) (st1 := [.int v3]) (k1 := 0) (k2 := 0) (ci := 0) (q0 := 0) hx hb hml hown htg hN hK (c_X1_bendAt l dC dI cy a0 f0 p1 p2 v3 e3) (g_V gw395 gw396 gw397 gw60 gw398) hdV_X1_bendAt rfl ⟨⟨Nat.le_of_ble_eq_true rfl, Nat.le_of_ble_eq_true rfl⟩, Nat.le_of_ble_eq_true rfl, Nat.le_of_ble_eq_true rfl⟩ hP hD hS hA ⟨rfl, rfl⟩ rfl [0, 1, 2, 3, 4] [] rfl rfl rfl (by decide) (by decide) hl.1 rfl (Nat.le_of_ble_eq_true rfl) rfl rfl rfl dX2_kind_3 (fun H locs hP hD hS => ?_)
  have hP : va_P (dC, dI) vwCl (wFig a0 cy f0) H := hP
  have hD : va_D A (wFig a0 cy f0) := hD
  refine lv_istore_n (lv' := [(3, .int v3), (0, .ref (a0 0)), (1, .int p1), (2, .int p2)]) hx hb dX2_kind_6 rfl hl (by decide) rfl (fun ls hl => ?_)
  refine lv_iload_n hx hb dX2_kind_7 rfl (lv_at hl 0 rfl) ?_
  refine lv_if_ne (tgt := 13) hx hb dX2_kind_8 (by decide) (fun c8 => ?_) (fun c8 => ?_)
  · replace h := if_f h c8
    refine lv_iload_n hx hb dX2_kind_13 rfl (lv_at hl 0 rfl) ?_
    obtain ⟨b14, e14, h⟩ := bnd h
    have hr22 : ∀ (H : Heap) (locs : List Loc) (ls : Array Slot), va_P (dC, dI) vwCl (wFig a0 cy f0) H → va_D A (wFig a0 cy f0) → va_S A s.heap H locs → lv_has ls 4 [(3, .int v3), (0, .ref (a0 0)), (1, .int p1), (2, .int p2)] → W p l e rm_X2_kind s mm args below meth cd H locs 0 0 Q (F0 mm 22 ls [.int b14]) := by
      intro H locs ls hP hD hS hl
      refine lv_aload_n hx hb dX2_kind_22 rfl (lv_at hl 1 rfl) ?_
      refine lv_iload_n hx hb dX2_kind_23 rfl (lv_at hl 2 rfl) ?_
      obtain ⟨v24, e24, h⟩ := bnd h
      refine cS (av := [.ref (a0 0), .int p1]) (rest := [.int b14]) (st1 := [.int v24, .int b14]) (k1 := 0) (k2 := 0) hx hb hml hown htg hN hK (c_X2_ringSum l dC dI cy a0 f0 p1 v24 e24) (g_S gw372 gw373 gw72 gw374) hdS_X2_ringSum rfl ⟨⟨Nat.le_of_ble_eq_true rfl, Nat.le_of_ble_eq_true rfl⟩, Nat.le_of_ble_eq_true rfl, Nat.le_of_ble_eq_true rfl⟩ hP hD hS hA [0, 1, 2, 3, 4] [] rfl rfl rfl (by decide) (by decide) hl.1 rfl (Nat.le_of_ble_eq_true rfl) rfl rfl rfl dX2_kind_24 (fun H locs hP hD hS => ?_)
      have hP : va_P (dC, dI) vwCl (wFig a0 cy f0) H := hP
      have hD : va_D A (wFig a0 cy f0) := hD
      obtain ⟨b27, e27, h⟩ := bnd h
      have hr35 : ∀ (H : Heap) (locs : List Loc) (ls : Array Slot), va_P (dC, dI) vwCl (wFig a0 cy f0) H → va_D A (wFig a0 cy f0) → va_S A s.heap H locs → lv_has ls 4 [(3, .int v3), (0, .ref (a0 0)), (1, .int p1), (2, .int p2)] → W p l e rm_X2_kind s mm args below meth cd H locs 0 0 Q (F0 mm 35 ls [.int b27, .int b14]) := by
        intro H locs ls hP hD hS hl
        refine lv_icmp_ne (tgt := 42) hx hb dX2_kind_35 (by decide) (fun c35 => ?_) (fun c35 => ?_)
        · replace h := if_f h c35
          refine lv_iconst (v := (-1)) hx hb dX2_kind_42 (by decide) ?_
          obtain rfl := Option.some.inj h
          exact hE H locs 43 ls _ hP hD hS rfl dX2_kind_43
        replace h := if_t h c35
        refine lv_iconst (v := 1) hx hb dX2_kind_38 (by decide) ?_
        refine lv_goto (tgt := 43) hx hb dX2_kind_39 (by decide) ?_
        obtain rfl := Option.some.inj h
        exact hE H locs 43 ls _ hP hD hS rfl dX2_kind_43
      have h := e27
      clear e27
      refine lv_if_le (tgt := 34) hx hb dX2_kind_27 (by decide) (fun c27 => ?_) (fun c27 => ?_)
      · replace h := if_t h c27
        refine lv_iconst (v := 0) hx hb dX2_kind_34 (by decide) ?_
        obtain rfl := Option.some.inj h
        exact hr35 H locs ls hP hD hS hl
      replace h := if_f h c27
      refine lv_iconst (v := 1) hx hb dX2_kind_30 (by decide) ?_
      refine lv_goto (tgt := 35) hx hb dX2_kind_31 (by decide) ?_
      obtain rfl := Option.some.inj h
      exact hr35 H locs ls hP hD hS hl
    have h := e14
    clear e14
    refine lv_if_le (tgt := 21) hx hb dX2_kind_14 (by decide) (fun c14 => ?_) (fun c14 => ?_)
    · replace h := if_t h c14
      refine lv_iconst (v := 0) hx hb dX2_kind_21 (by decide) ?_
      obtain rfl := Option.some.inj h
      exact hr22 H locs ls hP hD hS hl
    replace h := if_f h c14
    refine lv_iconst (v := 1) hx hb dX2_kind_17 (by decide) ?_
    refine lv_goto (tgt := 22) hx hb dX2_kind_18 (by decide) ?_
    obtain rfl := Option.some.inj h
    exact hr22 H locs ls hP hD hS hl
  replace h := if_t h c8
  refine lv_iconst (v := 0) hx hb dX2_kind_11 (by decide) ?_
  obtain rfl := Option.some.inj h
  exact hE H locs 12 ls _ hP hD hS rfl dX2_kind_12
def G_X2_longestSide_j40 (r11 : Int32 → Int32 → Int32 → Int32 → Option (Int32)) (f0 : Fig) (l4_40 : Int32) (l3_40 : Int32) (l2_40 : Int32) (l1_40 : Int32) : Option (Int32) :=
  r11 (l4_40 + 1) l3_40 l2_40 l1_40
def G_X2_longestSide_L11  (f0 : Fig) : Nat → Int32 → Int32 → Int32 → Int32 → Option (Int32)
  | 0, _, _, _, _ => none
  | n11 + 1, l4_11, l3_11, l2_11, l1_11 =>
    (G_X1_sizeOf f0 l1_11).bind fun v16 =>
    if l2_11 + v16 ≤ l4_11 then
      some l3_11
    else
      (G_X1_squareOfSide f0 l4_11).bind fun v26 =>
      (G_X1_squareOfSide f0 l3_11).bind fun v31 =>
      if v26 ≤ v31 then
        G_X2_longestSide_j40 (G_X2_longestSide_L11 f0 n11) f0 l4_11 l3_11 l2_11 l1_11
      else
        G_X2_longestSide_j40 (G_X2_longestSide_L11 f0 n11) f0 l4_11 l4_11 l2_11 l1_11
def G_X2_longestSide (f0 : Fig) (p1 : Int32) : Option (Int32) :=
  (G_X1_firstOf f0 p1).bind fun v2 =>
  G_X2_longestSide_L11 f0 FU v2 v2 v2 p1
abbrev rm_X2_longestSide : Room := { frames := 2, cells := 0, slots := 0, locals := 44 }
theorem hdS_X2_longestSide : yX2_longestSide.cls ≠ "java/lang/invoke/MethodHandle" ∧ yX2_longestSide.cls ≠ "java/lang/invoke/VarHandle" ∧ (parseMethodDescriptor yX2_longestSide.desc).map (fun d => d.parameters.length) = some 2 := by decide +kernel
set_option maxHeartbeats 4000000 in
set_option maxRecDepth 100000 in
theorem c_X2_longestSide (l : Launch) (dC : Nat → ClassId) (dI : Nat → Nat → Nat) (cy : Nat → ClassId) (a0 : Nat → Nat) (f0 : Fig) (p1 : Int32) (res : Int32) (h : G_X2_longestSide f0 p1 = some res) : CT l (dC, dI) (TY cy) yX2_longestSide cX2_longestSide 5 (some .int) rm_X2_longestSide [.ref (a0 0), .int p1] (wFig a0 cy f0) (wFig a0 cy f0) (some (.int res)) := by
  refine CT.mk_i (own := RX2) ⟨by decide, rfl⟩ (Nat.le_of_ble_eq_true rfl) ?_
  intro p e s mm args below meth cd A Q hx hb hml hown htg hN hK hA hP hD hS hE ls hl
  have hl : lv_has ls 5 [(0, .ref (a0 0)), (1, .int p1)] := hl
  replace h : _ = some res := h
  unfold G_X2_longestSide at h
  obtain ⟨H, hH⟩ : ∃ H, H = s.heap := ⟨_, rfl⟩
  obtain ⟨locs, hlocs⟩ : ∃ locs : List Loc, locs = [] := ⟨_, rfl⟩
  rw [← hlocs] at hS ⊢
  have hS : va_S A s.heap H locs := by rw [hH]; exact hS
  rw [← hH] at hP ⊢
  refine lv_aload_n hx hb dX2_longestSide_0 rfl (lv_at hl 0 rfl) ?_
  refine lv_iload_n hx hb dX2_longestSide_1 rfl (lv_at hl 1 rfl) ?_
  obtain ⟨v2, e2, h⟩ := bnd h
  refine cV (av := [.int p1]) (rest := []) (st1 := [.int v2]) (k1 := 0) (k2 := 0) (ci := 0) (q0 := 0) hx hb hml hown htg hN hK (c_X1_firstOf l dC dI cy a0 f0 p1 v2 e2) (g_V gw375 gw181 gw182 gw60 gw183) hdV_X1_firstOf rfl ⟨⟨Nat.le_of_ble_eq_true rfl, Nat.le_of_ble_eq_true rfl⟩, Nat.le_of_ble_eq_true rfl, Nat.le_of_ble_eq_true rfl⟩ hP hD hS hA ⟨rfl, rfl⟩ rfl [0, 1, 2, 3, 4] [] rfl rfl rfl (by decide) (by decide) hl.1 rfl (Nat.le_of_ble_eq_true rfl) rfl rfl rfl dX2_longestSide_2 (fun H locs hP hD hS => ?_)
  have hP : va_P (dC, dI) vwCl (wFig a0 cy f0) H := hP
  have hD : va_D A (wFig a0 cy f0) := hD
  refine lv_istore_n (lv' := [(2, .int v2), (0, .ref (a0 0)), (1, .int p1)]) hx hb dX2_longestSide_5 rfl hl (by decide) rfl (fun ls hl => ?_)
  refine lv_iload_n hx hb dX2_longestSide_6 rfl (lv_at hl 0 rfl) ?_
  refine lv_istore_n (lv' := [(3, .int v2), (2, .int v2), (0, .ref (a0 0)), (1, .int p1)]) hx hb dX2_longestSide_7 rfl hl (by decide) rfl (fun ls hl => ?_)
  refine lv_iload_n hx hb dX2_longestSide_8 rfl (lv_at hl 1 rfl) ?_
  refine lv_istore (lv' := [(4, .int v2), (3, .int v2), (2, .int v2), (0, .ref (a0 0)), (1, .int p1)]) hx hb dX2_longestSide_9 hl (by decide) rfl (fun ls hl => ?_)
  have hL11 : ∀ (n11 : Nat) (l4_11 : Int32) (l3_11 : Int32) (l2_11 : Int32) (l1_11 : Int32) (H : Heap) (locs : List Loc) (ls : Array Slot), G_X2_longestSide_L11 f0 n11 l4_11 l3_11 l2_11 l1_11 = some res → va_P (dC, dI) vwCl (wFig a0 cy f0) H → va_D A (wFig a0 cy f0) → va_S A s.heap H locs → lv_has ls 5 [(4, .int l4_11), (3, .int l3_11), (2, .int l2_11), (0, .ref (a0 0)), (1, .int l1_11)] → W p l e rm_X2_longestSide s mm args below meth cd H locs 0 0 Q (F0 mm 11 ls []) := by
    intro n11
    induction n11 with
    | zero => intro l4_11 l3_11 l2_11 l1_11 H locs ls h; exact absurd h (by simp [G_X2_longestSide_L11])
    | succ n11 ih11 =>
      intro l4_11 l3_11 l2_11 l1_11 H locs ls h hP hD hS hl
      rw [G_X2_longestSide_L11] at h
      refine lv_iload hx hb dX2_longestSide_11 (lv_at hl 0 rfl) ?_
      refine lv_iload_n hx hb dX2_longestSide_13 rfl (lv_at hl 2 rfl) ?_
      refine lv_aload_n hx hb dX2_longestSide_14 rfl (lv_at hl 3 rfl) ?_
      refine lv_iload_n hx hb dX2_longestSide_15 rfl (lv_at hl 4 rfl) ?_
      obtain ⟨v16, e16, h⟩ := bnd h
      refine cV (av := [.int l1_11]) (rest := [.int l2_11, .int l4_11]) (st1 := [.int v16, .int l2_11, .int l4_11]) (k1 := 0) (k2 := 0) (ci := 0) (q0 := 0) hx hb hml hown htg hN hK (c_X1_sizeOf l dC dI cy a0 f0 l1_11 v16 e16) (g_V gw376 gw165 gw166 gw60 gw167) hdV_X1_sizeOf rfl ⟨⟨Nat.le_of_ble_eq_true rfl, Nat.le_of_ble_eq_true rfl⟩, Nat.le_of_ble_eq_true rfl, Nat.le_of_ble_eq_true rfl⟩ hP hD hS hA ⟨rfl, rfl⟩ rfl [0, 1, 2, 3, 4] [] rfl rfl rfl (by decide) (by decide) hl.1 rfl (Nat.le_of_ble_eq_true rfl) rfl rfl rfl dX2_longestSide_16 (fun H locs hP hD hS => ?_)
      have hP : va_P (dC, dI) vwCl (wFig a0 cy f0) H := hP
      have hD : va_D A (wFig a0 cy f0) := hD
      refine lv_iadd hx hb dX2_longestSide_19 ?_
      refine lv_icmp_ge (tgt := 46) hx hb dX2_longestSide_20 (by decide) (fun c20 => ?_) (fun c20 => ?_)
      · replace h := if_t h c20
        refine lv_iload_n hx hb dX2_longestSide_46 rfl (lv_at hl 1 rfl) ?_
        obtain rfl := Option.some.inj h
        exact hE H locs 47 ls _ hP hD hS rfl dX2_longestSide_47
      replace h := if_f h c20
      refine lv_aload_n hx hb dX2_longestSide_23 rfl (lv_at hl 3 rfl) ?_
      refine lv_iload hx hb dX2_longestSide_24 (lv_at hl 0 rfl) ?_
      obtain ⟨v26, e26, h⟩ := bnd h
      refine cV (av := [.int l4_11]) (rest := []) (st1 := [.int v26]) (k1 := 0) (k2 := 0) (ci := 0) (q0 := 0) hx hb hml hown htg hN hK (c_X1_squareOfSide l dC dI cy a0 f0 l4_11 v26 e26) (g_V gw609 gw255 gw256 gw60 gw257) hdV_X1_squareOfSide rfl ⟨⟨Nat.le_of_ble_eq_true rfl, Nat.le_of_ble_eq_true rfl⟩, Nat.le_of_ble_eq_true rfl, Nat.le_of_ble_eq_true rfl⟩ hP hD hS hA ⟨rfl, rfl⟩ rfl [0, 1, 2, 3, 4] [] rfl rfl rfl (by decide) (by decide) hl.1 rfl (Nat.le_of_ble_eq_true rfl) rfl rfl rfl dX2_longestSide_26 (fun H locs hP hD hS => ?_)
      have hP : va_P (dC, dI) vwCl (wFig a0 cy f0) H := hP
      have hD : va_D A (wFig a0 cy f0) := hD
      refine lv_aload_n hx hb dX2_longestSide_29 rfl (lv_at hl 3 rfl) ?_
      refine lv_iload_n hx hb dX2_longestSide_30 rfl (lv_at hl 1 rfl) ?_
      obtain ⟨v31, e31, h⟩ := bnd h
      refine cV (av := [.int l3_11]) (rest := [.int v26]) (st1 := [.int v31, .int v26]) (k1 := 0) (k2 := 0) (ci := 0) (q0 := 0) hx hb hml hown htg hN hK (c_X1_squareOfSide l dC dI cy a0 f0 l3_11 v31 e31) (g_V gw609 gw255 gw256 gw60 gw257) hdV_X1_squareOfSide rfl ⟨⟨Nat.le_of_ble_eq_true rfl, Nat.le_of_ble_eq_true rfl⟩, Nat.le_of_ble_eq_true rfl, Nat.le_of_ble_eq_true rfl⟩ hP hD hS hA ⟨rfl, rfl⟩ rfl [0, 1, 2, 3, 4] [] rfl rfl rfl (by decide) (by decide) hl.1 rfl (Nat.le_of_ble_eq_true rfl) rfl rfl rfl dX2_longestSide_31 (fun H locs hP hD hS => ?_)
      have hP : va_P (dC, dI) vwCl (wFig a0 cy f0) H := hP
      have hD : va_D A (wFig a0 cy f0) := hD
      have hj40 : ∀ (l4_40 : Int32) (l3_40 : Int32) (l2_40 : Int32) (l1_40 : Int32) (H : Heap) (locs : List Loc) (ls : Array Slot), G_X2_longestSide_j40 (G_X2_longestSide_L11 f0 n11) f0 l4_40 l3_40 l2_40 l1_40 = some res → va_P (dC, dI) vwCl (wFig a0 cy f0) H → va_D A (wFig a0 cy f0) → va_S A s.heap H locs → lv_has ls 5 [(4, .int l4_40), (3, .int l3_40), (2, .int l2_40), (0, .ref (a0 0)), (1, .int l1_40)] → W p l e rm_X2_longestSide s mm args below meth cd H locs 0 0 Q (F0 mm 40 ls []) := by
        intro l4_40 l3_40 l2_40 l1_40 H locs ls h hP hD hS hl
        unfold G_X2_longestSide_j40 at h
        refine lv_iinc (v := l4_40 + 1) (lv' := [(4, .int (l4_40 + 1)), (3, .int l3_40), (2, .int l2_40), (0, .ref (a0 0)), (1, .int l1_40)]) hx hb dX2_longestSide_40 hl (k := 0) rfl rfl (by decide) rfl (fun ls hl => ?_)
        refine lv_goto (tgt := 11) hx hb dX2_longestSide_43 (by decide) ?_
        exact ih11 (l4_40 + 1) l3_40 l2_40 l1_40 H locs ls h hP hD hS (lv_sub hl [0, 1, 2, 3, 4] rfl)
      refine lv_icmp_le (tgt := 40) hx hb dX2_longestSide_34 (by decide) (fun c34 => ?_) (fun c34 => ?_)
      · replace h := if_t h c34
        exact hj40 l4_11 l3_11 l2_11 l1_11 H locs ls h hP hD hS (lv_sub hl [0, 1, 2, 3, 4] rfl)
      replace h := if_f h c34
      refine lv_iload hx hb dX2_longestSide_37 (lv_at hl 0 rfl) ?_
      refine lv_istore_n (lv' := [(3, .int l4_11), (4, .int l4_11), (2, .int l2_11), (0, .ref (a0 0)), (1, .int l1_11)]) hx hb dX2_longestSide_39 rfl hl (by decide) rfl (fun ls hl => ?_)
      exact hj40 l4_11 l4_11 l2_11 l1_11 H locs ls h hP hD hS (lv_sub hl [1, 0, 2, 3, 4] rfl)
  exact hL11 FU v2 v2 v2 p1 H locs ls h hP hD hS (lv_sub hl [0, 1, 2, 3, 4] rfl)
def G_X2_outlineCorners_j26 (r4 : Int32 → Int32 → Int32 → Option (Int32)) (f0 : Fig) (l3_26 : Int32) (l2_26 : Int32) (l1_26 : Int32) : Option (Int32) :=
  r4 (l3_26 + 1) l2_26 l1_26
def G_X2_outlineCorners_L4  (f0 : Fig) : Nat → Int32 → Int32 → Int32 → Option (Int32)
  | 0, _, _, _ => none
  | n4 + 1, l3_4, l2_4, l1_4 =>
    (G_X1_sizeOf f0 0).bind fun v7 =>
    if v7 ≤ l3_4 then
      some l2_4
    else
      (G_X2_kind f0 0 l3_4).bind fun v16 =>
      if v16 = l1_4 then
        G_X2_outlineCorners_j26 (G_X2_outlineCorners_L4 f0 n4) f0 l3_4 (l2_4 + 1) l1_4
      else
        G_X2_outlineCorners_j26 (G_X2_outlineCorners_L4 f0 n4) f0 l3_4 l2_4 l1_4
def G_X2_outlineCorners (f0 : Fig) (p1 : Int32) : Option (Int32) :=
  G_X2_outlineCorners_L4 f0 FU 0 0 p1
abbrev rm_X2_outlineCorners : Room := { frames := 4, cells := 0, slots := 0, locals := 91 }
theorem hdS_X2_outlineCorners : yX2_outlineCorners.cls ≠ "java/lang/invoke/MethodHandle" ∧ yX2_outlineCorners.cls ≠ "java/lang/invoke/VarHandle" ∧ (parseMethodDescriptor yX2_outlineCorners.desc).map (fun d => d.parameters.length) = some 2 := by decide +kernel
set_option maxHeartbeats 4000000 in
set_option maxRecDepth 100000 in
theorem c_X2_outlineCorners (l : Launch) (dC : Nat → ClassId) (dI : Nat → Nat → Nat) (cy : Nat → ClassId) (a0 : Nat → Nat) (f0 : Fig) (p1 : Int32) (res : Int32) (h : G_X2_outlineCorners f0 p1 = some res) : CT l (dC, dI) (TY cy) yX2_outlineCorners cX2_outlineCorners 4 (some .int) rm_X2_outlineCorners [.ref (a0 0), .int p1] (wFig a0 cy f0) (wFig a0 cy f0) (some (.int res)) := by
  refine CT.mk_i (own := RX2) ⟨by decide, rfl⟩ (Nat.le_of_ble_eq_true rfl) ?_
  intro p e s mm args below meth cd A Q hx hb hml hown htg hN hK hA hP hD hS hE ls hl
  have hl : lv_has ls 4 [(0, .ref (a0 0)), (1, .int p1)] := hl
  replace h : _ = some res := h
  unfold G_X2_outlineCorners at h
  obtain ⟨H, hH⟩ : ∃ H, H = s.heap := ⟨_, rfl⟩
  obtain ⟨locs, hlocs⟩ : ∃ locs : List Loc, locs = [] := ⟨_, rfl⟩
  rw [← hlocs] at hS ⊢
  have hS : va_S A s.heap H locs := by rw [hH]; exact hS
  rw [← hH] at hP ⊢
  refine lv_iconst (v := 0) hx hb dX2_outlineCorners_0 (by decide) ?_
  refine lv_istore_n (lv' := [(2, .int 0), (0, .ref (a0 0)), (1, .int p1)]) hx hb dX2_outlineCorners_1 rfl hl (by decide) rfl (fun ls hl => ?_)
  refine lv_iconst (v := 0) hx hb dX2_outlineCorners_2 (by decide) ?_
  refine lv_istore_n (lv' := [(3, .int 0), (2, .int 0), (0, .ref (a0 0)), (1, .int p1)]) hx hb dX2_outlineCorners_3 rfl hl (by decide) rfl (fun ls hl => ?_)
  have hL4 : ∀ (n4 : Nat) (l3_4 : Int32) (l2_4 : Int32) (l1_4 : Int32) (H : Heap) (locs : List Loc) (ls : Array Slot), G_X2_outlineCorners_L4 f0 n4 l3_4 l2_4 l1_4 = some res → va_P (dC, dI) vwCl (wFig a0 cy f0) H → va_D A (wFig a0 cy f0) → va_S A s.heap H locs → lv_has ls 4 [(3, .int l3_4), (2, .int l2_4), (0, .ref (a0 0)), (1, .int l1_4)] → W p l e rm_X2_outlineCorners s mm args below meth cd H locs 0 0 Q (F0 mm 4 ls []) := by
    intro n4
    induction n4 with
    | zero => intro l3_4 l2_4 l1_4 H locs ls h; exact absurd h (by simp [G_X2_outlineCorners_L4])
    | succ n4 ih4 =>
      intro l3_4 l2_4 l1_4 H locs ls h hP hD hS hl
      rw [G_X2_outlineCorners_L4] at h
      refine lv_iload_n hx hb dX2_outlineCorners_4 rfl (lv_at hl 0 rfl) ?_
      refine lv_aload_n hx hb dX2_outlineCorners_5 rfl (lv_at hl 2 rfl) ?_
      refine lv_iconst (v := 0) hx hb dX2_outlineCorners_6 (by decide) ?_
      obtain ⟨v7, e7, h⟩ := bnd h
      refine cV (av := [.int 0]) (rest := [.int l3_4]) (st1 := [.int v7, .int l3_4]) (k1 := 0) (k2 := 0) (ci := 0) (q0 := 0) hx hb hml hown htg hN hK (c_X1_sizeOf l dC dI cy a0 f0 0 v7 e7) (g_V gw376 gw165 gw166 gw60 gw167) hdV_X1_sizeOf rfl ⟨⟨Nat.le_of_ble_eq_true rfl, Nat.le_of_ble_eq_true rfl⟩, Nat.le_of_ble_eq_true rfl, Nat.le_of_ble_eq_true rfl⟩ hP hD hS hA ⟨rfl, rfl⟩ rfl [0, 1, 2, 3, 4] [] rfl rfl rfl (by decide) (by decide) hl.1 rfl (Nat.le_of_ble_eq_true rfl) rfl rfl rfl dX2_outlineCorners_7 (fun H locs hP hD hS => ?_)
      have hP : va_P (dC, dI) vwCl (wFig a0 cy f0) H := hP
      have hD : va_D A (wFig a0 cy f0) := hD
      refine lv_icmp_ge (tgt := 32) hx hb dX2_outlineCorners_10 (by decide) (fun c10 => ?_) (fun c10 => ?_)
      · replace h := if_t h c10
        refine lv_iload_n hx hb dX2_outlineCorners_32 rfl (lv_at hl 1 rfl) ?_
        obtain rfl := Option.some.inj h
        exact hE H locs 33 ls _ hP hD hS rfl dX2_outlineCorners_33
      replace h := if_f h c10
      refine lv_aload_n hx hb dX2_outlineCorners_13 rfl (lv_at hl 2 rfl) ?_
      refine lv_iconst (v := 0) hx hb dX2_outlineCorners_14 (by decide) ?_
      refine lv_iload_n hx hb dX2_outlineCorners_15 rfl (lv_at hl 0 rfl) ?_
      obtain ⟨v16, e16, h⟩ := bnd h
      refine cS (av := [.ref (a0 0), .int 0, .int l3_4]) (rest := []) (st1 := [.int v16]) (k1 := 0) (k2 := 0) hx hb hml hown htg hN hK (c_X2_kind l dC dI cy a0 f0 0 l3_4 v16 e16) (g_S gw392 gw393 gw72 gw394) hdS_X2_kind rfl ⟨⟨Nat.le_of_ble_eq_true rfl, Nat.le_of_ble_eq_true rfl⟩, Nat.le_of_ble_eq_true rfl, Nat.le_of_ble_eq_true rfl⟩ hP hD hS hA [0, 1, 2, 3, 4] [] rfl rfl rfl (by decide) (by decide) hl.1 rfl (Nat.le_of_ble_eq_true rfl) rfl rfl rfl dX2_outlineCorners_16 (fun H locs hP hD hS => ?_)
      have hP : va_P (dC, dI) vwCl (wFig a0 cy f0) H := hP
      have hD : va_D A (wFig a0 cy f0) := hD
      refine lv_iload_n hx hb dX2_outlineCorners_19 rfl (lv_at hl 3 rfl) ?_
      have hj26 : ∀ (l3_26 : Int32) (l2_26 : Int32) (l1_26 : Int32) (H : Heap) (locs : List Loc) (ls : Array Slot), G_X2_outlineCorners_j26 (G_X2_outlineCorners_L4 f0 n4) f0 l3_26 l2_26 l1_26 = some res → va_P (dC, dI) vwCl (wFig a0 cy f0) H → va_D A (wFig a0 cy f0) → va_S A s.heap H locs → lv_has ls 4 [(3, .int l3_26), (2, .int l2_26), (0, .ref (a0 0)), (1, .int l1_26)] → W p l e rm_X2_outlineCorners s mm args below meth cd H locs 0 0 Q (F0 mm 26 ls []) := by
        intro l3_26 l2_26 l1_26 H locs ls h hP hD hS hl
        unfold G_X2_outlineCorners_j26 at h
        refine lv_iinc (v := l3_26 + 1) (lv' := [(3, .int (l3_26 + 1)), (2, .int l2_26), (0, .ref (a0 0)), (1, .int l1_26)]) hx hb dX2_outlineCorners_26 hl (k := 0) rfl rfl (by decide) rfl (fun ls hl => ?_)
        refine lv_goto (tgt := 4) hx hb dX2_outlineCorners_29 (by decide) ?_
        exact ih4 (l3_26 + 1) l2_26 l1_26 H locs ls h hP hD hS (lv_sub hl [0, 1, 2, 3] rfl)
      refine lv_icmp_ne (tgt := 26) hx hb dX2_outlineCorners_20 (by decide) (fun c20 => ?_) (fun c20 => ?_)
      · replace h := if_f h c20
        exact hj26 l3_4 l2_4 l1_4 H locs ls h hP hD hS (lv_sub hl [0, 1, 2, 3] rfl)
      replace h := if_t h c20
      refine lv_iinc (v := l2_4 + 1) (lv' := [(2, .int (l2_4 + 1)), (3, .int l3_4), (0, .ref (a0 0)), (1, .int l1_4)]) hx hb dX2_outlineCorners_23 hl (k := 1) rfl rfl (by decide) rfl (fun ls hl => ?_)
      exact hj26 l3_4 (l2_4 + 1) l1_4 H locs ls h hP hD hS (lv_sub hl [1, 0, 2, 3] rfl)
  exact hL4 FU 0 0 p1 H locs ls h hP hD hS (lv_sub hl [0, 1, 2, 3] rfl)
def G_X5_isAt (f0 : Fig) (p1 : Int32) (p2 : Int32) (p3 : Int32) : Option (Int32) :=
  (G_X8_inRange p1 0 15).bind fun v4 =>
  if v4 = 0 then
    some 0
  else
    (G_X8_inRange p2 0 15).bind fun v14 =>
    if v14 = 0 then
      some 0
    else
      (G_X1_placeOf f0 p1 p2).bind fun v23 =>
      if v23 = p3 then
        some 1
      else
        some 0
abbrev rm_X5_isAt : Room := { frames := 4, cells := 0, slots := 0, locals := 100 }
theorem hdS_X5_isAt : yX5_isAt.cls ≠ "java/lang/invoke/MethodHandle" ∧ yX5_isAt.cls ≠ "java/lang/invoke/VarHandle" ∧ (parseMethodDescriptor yX5_isAt.desc).map (fun d => d.parameters.length) = some 4 := by decide +kernel
set_option maxHeartbeats 4000000 in
set_option maxRecDepth 100000 in
theorem c_X5_isAt (l : Launch) (dC : Nat → ClassId) (dI : Nat → Nat → Nat) (cy : Nat → ClassId) (a0 : Nat → Nat) (f0 : Fig) (p1 : Int32) (p2 : Int32) (p3 : Int32) (res : Int32) (h : G_X5_isAt f0 p1 p2 p3 = some res) : CT l (dC, dI) (TY cy) yX5_isAt cX5_isAt 4 (some .boolean) rm_X5_isAt [.ref (a0 0), .int p1, .int p2, .int p3] (wFig a0 cy f0) (wFig a0 cy f0) (some (.int res)) := by
  refine CT.mk_z (own := RX5) ⟨by decide, rfl⟩ (Nat.le_of_ble_eq_true rfl) ?_
  intro p e s mm args below meth cd A Q hx hb hml hown htg hN hK hA hP hD hS hE ls hl
  have hl : lv_has ls 4 [(0, .ref (a0 0)), (1, .int p1), (2, .int p2), (3, .int p3)] := hl
  replace h : _ = some res := h
  unfold G_X5_isAt at h
  obtain ⟨H, hH⟩ : ∃ H, H = s.heap := ⟨_, rfl⟩
  obtain ⟨locs, hlocs⟩ : ∃ locs : List Loc, locs = [] := ⟨_, rfl⟩
  rw [← hlocs] at hS ⊢
  have hS : va_S A s.heap H locs := by rw [hH]; exact hS
  rw [← hH] at hP ⊢
  refine lv_iload_n hx hb dX5_isAt_0 rfl (lv_at hl 1 rfl) ?_
  refine lv_iconst (v := 0) hx hb dX5_isAt_1 (by decide) ?_
  refine lv_bipush (v := 15) hx hb dX5_isAt_2 (by decide) ?_
  obtain ⟨v4, e4, h⟩ := bnd h
  refine cSN (av := [.int p1, .int 0, .int 15]) (rest := []) (st1 := [.int v4]) (k1 := 0) (k2 := 0) (host := "SquaredPaper") hx hb hml hown htg hN hK (c_X8_inRange l dC dI cy   p1 0 15 v4 e4) (by decide +kernel) ⟨gw245, gw59, g_ws (fun _ h => h) gw246⟩ hdS_X8_inRange rfl ⟨⟨Nat.le_of_ble_eq_true rfl, Nat.le_of_ble_eq_true rfl⟩, Nat.le_of_ble_eq_true rfl, Nat.le_of_ble_eq_true rfl⟩ hP hD hS hA [] [0, 1, 2, 3, 4] rfl rfl rfl (by decide) (by decide) hl.1 rfl (Nat.le_of_ble_eq_true rfl) rfl rfl rfl dX5_isAt_4 (fun H locs hP hD hS => ?_)
  obtain ⟨hP, hD⟩ := x_perm (ws' := wFig a0 cy f0) hP hD [0, 1, 2, 3, 4] (by decide) rfl rfl
  refine lv_if_eq (tgt := 34) hx hb dX5_isAt_7 (by decide) (fun c7 => ?_) (fun c7 => ?_)
  · replace h := if_t h c7
    refine lv_iconst (v := 0) hx hb dX5_isAt_34 (by decide) ?_
    obtain rfl := Option.some.inj h
    exact hE H locs 35 ls _ hP hD hS rfl (Or.inl rfl) dX5_isAt_35
  replace h := if_f h c7
  refine lv_iload_n hx hb dX5_isAt_10 rfl (lv_at hl 2 rfl) ?_
  refine lv_iconst (v := 0) hx hb dX5_isAt_11 (by decide) ?_
  refine lv_bipush (v := 15) hx hb dX5_isAt_12 (by decide) ?_
  obtain ⟨v14, e14, h⟩ := bnd h
  refine cSN (av := [.int p2, .int 0, .int 15]) (rest := []) (st1 := [.int v14]) (k1 := 0) (k2 := 0) (host := "SquaredPaper") hx hb hml hown htg hN hK (c_X8_inRange l dC dI cy   p2 0 15 v14 e14) (by decide +kernel) ⟨gw245, gw59, g_ws (fun _ h => h) gw246⟩ hdS_X8_inRange rfl ⟨⟨Nat.le_of_ble_eq_true rfl, Nat.le_of_ble_eq_true rfl⟩, Nat.le_of_ble_eq_true rfl, Nat.le_of_ble_eq_true rfl⟩ hP hD hS hA [] [0, 1, 2, 3, 4] rfl rfl rfl (by decide) (by decide) hl.1 rfl (Nat.le_of_ble_eq_true rfl) rfl rfl rfl dX5_isAt_14 (fun H locs hP hD hS => ?_)
  obtain ⟨hP, hD⟩ := x_perm (ws' := wFig a0 cy f0) hP hD [0, 1, 2, 3, 4] (by decide) rfl rfl
  refine lv_if_eq (tgt := 34) hx hb dX5_isAt_17 (by decide) (fun c17 => ?_) (fun c17 => ?_)
  · replace h := if_t h c17
    refine lv_iconst (v := 0) hx hb dX5_isAt_34 (by decide) ?_
    obtain rfl := Option.some.inj h
    exact hE H locs 35 ls _ hP hD hS rfl (Or.inl rfl) dX5_isAt_35
  replace h := if_f h c17
  refine lv_aload_n hx hb dX5_isAt_20 rfl (lv_at hl 0 rfl) ?_
  refine lv_iload_n hx hb dX5_isAt_21 rfl (lv_at hl 1 rfl) ?_
  refine lv_iload_n hx hb dX5_isAt_22 rfl (lv_at hl 2 rfl) ?_
  obtain ⟨v23, e23, h⟩ := bnd h
  refine cV (av := [.int p1, .int p2]) (rest := []) (st1 := [.int v23]) (k1 := 0) (k2 := 0) (ci := 0) (q0 := 0) hx hb hml hown htg hN hK (c_X1_placeOf l dC dI cy a0 f0 p1 p2 v23 e23) (g_V gw809 gw645 gw646 gw60 gw647) hdV_X1_placeOf rfl ⟨⟨Nat.le_of_ble_eq_true rfl, Nat.le_of_ble_eq_true rfl⟩, Nat.le_of_ble_eq_true rfl, Nat.le_of_ble_eq_true rfl⟩ hP hD hS hA ⟨rfl, rfl⟩ rfl [0, 1, 2, 3, 4] [] rfl rfl rfl (by decide) (by decide) hl.1 rfl (Nat.le_of_ble_eq_true rfl) rfl rfl rfl dX5_isAt_23 (fun H locs hP hD hS => ?_)
  have hP : va_P (dC, dI) vwCl (wFig a0 cy f0) H := hP
  have hD : va_D A (wFig a0 cy f0) := hD
  refine lv_iload_n hx hb dX5_isAt_26 rfl (lv_at hl 3 rfl) ?_
  refine lv_icmp_ne (tgt := 34) hx hb dX5_isAt_27 (by decide) (fun c27 => ?_) (fun c27 => ?_)
  · replace h := if_f h c27
    refine lv_iconst (v := 0) hx hb dX5_isAt_34 (by decide) ?_
    obtain rfl := Option.some.inj h
    exact hE H locs 35 ls _ hP hD hS rfl (Or.inl rfl) dX5_isAt_35
  replace h := if_t h c27
  refine lv_iconst (v := 1) hx hb dX5_isAt_30 (by decide) ?_
  refine lv_goto (tgt := 35) hx hb dX5_isAt_31 (by decide) ?_
  obtain rfl := Option.some.inj h
  exact hE H locs 35 ls _ hP hD hS rfl (Or.inr rfl) dX5_isAt_35
def G_X5_turnsOrMirrors_j20   (f0_20 : Fig) (l1_20 : Int32) : Option (Int32 × Fig) :=
  if l1_20 = 0 then
    some (1, f0_20)
  else
    if l1_20 = 1 then
      some (1, f0_20)
    else
      some (0, f0_20)
def G_X5_turnsOrMirrors (f0 : Fig) (p1 : Int32) : Option (Int32 × Fig) :=
  if p1 = 0 then
    (G_X1_turnQuarter f0).bind fun v5 =>
    G_X5_turnsOrMirrors_j20 v5 p1
  else
    if p1 = 1 then
      (G_X1_mirrorAll f0).bind fun v17 =>
      G_X5_turnsOrMirrors_j20 v17 p1
    else
      G_X5_turnsOrMirrors_j20 f0 p1
abbrev rm_X5_turnsOrMirrors : Room := { frames := 1, cells := 0, slots := 0, locals := 22 }
theorem hdS_X5_turnsOrMirrors : yX5_turnsOrMirrors.cls ≠ "java/lang/invoke/MethodHandle" ∧ yX5_turnsOrMirrors.cls ≠ "java/lang/invoke/VarHandle" ∧ (parseMethodDescriptor yX5_turnsOrMirrors.desc).map (fun d => d.parameters.length) = some 2 := by decide +kernel
set_option maxHeartbeats 4000000 in
set_option maxRecDepth 100000 in
theorem c_X5_turnsOrMirrors (l : Launch) (dC : Nat → ClassId) (dI : Nat → Nat → Nat) (cy : Nat → ClassId) (a0 : Nat → Nat) (f0 : Fig) (p1 : Int32) (res : Int32 × Fig) (h : G_X5_turnsOrMirrors f0 p1 = some res) : CT l (dC, dI) (TY cy) yX5_turnsOrMirrors cX5_turnsOrMirrors 2 (some .boolean) rm_X5_turnsOrMirrors [.ref (a0 0), .int p1] (wFig a0 cy f0) (wFig a0 cy res.2) (some (.int res.1)) := by
  refine CT.mk_z (own := RX5) ⟨by decide, rfl⟩ (Nat.le_of_ble_eq_true rfl) ?_
  intro p e s mm args below meth cd A Q hx hb hml hown htg hN hK hA hP hD hS hE ls hl
  have hl : lv_has ls 2 [(0, .ref (a0 0)), (1, .int p1)] := hl
  replace h : _ = some res := h
  unfold G_X5_turnsOrMirrors at h
  obtain ⟨H, hH⟩ : ∃ H, H = s.heap := ⟨_, rfl⟩
  obtain ⟨locs, hlocs⟩ : ∃ locs : List Loc, locs = [] := ⟨_, rfl⟩
  rw [← hlocs] at hS ⊢
  have hS : va_S A s.heap H locs := by rw [hH]; exact hS
  rw [← hH] at hP ⊢
  refine lv_iload_n hx hb dX5_turnsOrMirrors_0 rfl (lv_at hl 1 rfl) ?_
  have hj20 : ∀ (f0_20 : Fig) (l1_20 : Int32) (H : Heap) (locs : List Loc) (ls : Array Slot), G_X5_turnsOrMirrors_j20 f0_20 l1_20 = some res → va_P (dC, dI) vwCl (wFig a0 cy f0_20) H → va_D A (wFig a0 cy f0_20) → va_S A s.heap H locs → lv_has ls 2 [(1, .int l1_20)] → W p l e rm_X5_turnsOrMirrors s mm args below meth cd H locs 0 0 Q (F0 mm 20 ls []) := by
    intro f0_20 l1_20 H locs ls h hP hD hS hl
    unfold G_X5_turnsOrMirrors_j20 at h
    refine lv_iload_n hx hb dX5_turnsOrMirrors_20 rfl (lv_at hl 0 rfl) ?_
    refine lv_if_eq (tgt := 29) hx hb dX5_turnsOrMirrors_21 (by decide) (fun c21 => ?_) (fun c21 => ?_)
    · replace h := if_t h c21
      refine lv_iconst (v := 1) hx hb dX5_turnsOrMirrors_29 (by decide) ?_
      refine lv_goto (tgt := 34) hx hb dX5_turnsOrMirrors_30 (by decide) ?_
      obtain rfl := Option.some.inj h
      exact hE H locs 34 ls _ hP hD hS rfl (Or.inr rfl) dX5_turnsOrMirrors_34
    replace h := if_f h c21
    refine lv_iload_n hx hb dX5_turnsOrMirrors_24 rfl (lv_at hl 0 rfl) ?_
    refine lv_iconst (v := 1) hx hb dX5_turnsOrMirrors_25 (by decide) ?_
    refine lv_icmp_ne (tgt := 33) hx hb dX5_turnsOrMirrors_26 (by decide) (fun c26 => ?_) (fun c26 => ?_)
    · replace h := if_f h c26
      refine lv_iconst (v := 0) hx hb dX5_turnsOrMirrors_33 (by decide) ?_
      obtain rfl := Option.some.inj h
      exact hE H locs 34 ls _ hP hD hS rfl (Or.inl rfl) dX5_turnsOrMirrors_34
    replace h := if_t h c26
    refine lv_iconst (v := 1) hx hb dX5_turnsOrMirrors_29 (by decide) ?_
    refine lv_goto (tgt := 34) hx hb dX5_turnsOrMirrors_30 (by decide) ?_
    obtain rfl := Option.some.inj h
    exact hE H locs 34 ls _ hP hD hS rfl (Or.inr rfl) dX5_turnsOrMirrors_34
  refine lv_if_ne (tgt := 11) hx hb dX5_turnsOrMirrors_1 (by decide) (fun c1 => ?_) (fun c1 => ?_)
  · replace h := if_f h c1
    refine lv_iload_n hx hb dX5_turnsOrMirrors_11 rfl (lv_at hl 1 rfl) ?_
    refine lv_iconst (v := 1) hx hb dX5_turnsOrMirrors_12 (by decide) ?_
    refine lv_icmp_ne (tgt := 20) hx hb dX5_turnsOrMirrors_13 (by decide) (fun c13 => ?_) (fun c13 => ?_)
    · replace h := if_f h c13
      exact hj20 f0 p1 H locs ls h hP hD hS (lv_sub hl [1] rfl)
    replace h := if_t h c13
    refine lv_aload_n hx hb dX5_turnsOrMirrors_16 rfl (lv_at hl 0 rfl) ?_
    obtain ⟨v17, e17, h⟩ := bnd h
    refine cV (av := []) (rest := []) (st1 := []) (k1 := 0) (k2 := 0) (ci := 0) (q0 := 0) hx hb hml hown htg hN hK (c_X1_mirrorAll l dC dI cy a0 f0  v17 e17) (g_V gw803 gw343 gw344 gw60 gw345) hdV_X1_mirrorAll rfl ⟨⟨Nat.le_of_ble_eq_true rfl, Nat.le_of_ble_eq_true rfl⟩, Nat.le_of_ble_eq_true rfl, Nat.le_of_ble_eq_true rfl⟩ hP hD hS hA ⟨rfl, rfl⟩ rfl [0, 1, 2, 3, 4] [] rfl rfl rfl (by decide) (by decide) hl.1 rfl (Nat.le_of_ble_eq_true rfl) rfl rfl rfl dX5_turnsOrMirrors_17 (fun H locs hP hD hS => ?_)
    have hP : va_P (dC, dI) vwCl (wFig a0 cy v17) H := hP
    have hD : va_D A (wFig a0 cy v17) := hD
    exact hj20 v17 p1 H locs ls h hP hD hS (lv_sub hl [1] rfl)
  replace h := if_t h c1
  refine lv_aload_n hx hb dX5_turnsOrMirrors_4 rfl (lv_at hl 0 rfl) ?_
  obtain ⟨v5, e5, h⟩ := bnd h
  refine cV (av := []) (rest := []) (st1 := []) (k1 := 0) (k2 := 0) (ci := 0) (q0 := 0) hx hb hml hown htg hN hK (c_X1_turnQuarter l dC dI cy a0 f0  v5 e5) (g_V gw802 gw321 gw322 gw60 gw323) hdV_X1_turnQuarter rfl ⟨⟨Nat.le_of_ble_eq_true rfl, Nat.le_of_ble_eq_true rfl⟩, Nat.le_of_ble_eq_true rfl, Nat.le_of_ble_eq_true rfl⟩ hP hD hS hA ⟨rfl, rfl⟩ rfl [0, 1, 2, 3, 4] [] rfl rfl rfl (by decide) (by decide) hl.1 rfl (Nat.le_of_ble_eq_true rfl) rfl rfl rfl dX5_turnsOrMirrors_5 (fun H locs hP hD hS => ?_)
  have hP : va_P (dC, dI) vwCl (wFig a0 cy v5) H := hP
  have hD : va_D A (wFig a0 cy v5) := hD
  refine lv_goto (tgt := 20) hx hb dX5_turnsOrMirrors_8 (by decide) ?_
  exact hj20 v5 p1 H locs ls h hP hD hS (lv_sub hl [1] rfl)
def G_X5_succeeds (f0 : Fig) (p1 : Int32) : Option (Int32 × Fig) :=
  if p1 / 100000 = 1 then
    (G_X0_movedCorner f0 0 ((p1 / 10000) - (p1 / 10000) / 10 * 10) ((p1 / 100) - (p1 / 100) / 100 * 100) (p1 - p1 / 100 * 100)).bind fun v95 =>
    (bck v95.1).bind fun v98 =>
    some (v98, v95.2)
  else
  if p1 / 100000 = 2 then
    (G_X0_addedCorner f0 0 ((p1 / 10000) - (p1 / 10000) / 10 * 10) ((p1 / 100) - (p1 / 100) / 100 * 100) (p1 - p1 / 100 * 100)).bind fun v106 =>
    (bck v106.1).bind fun v109 =>
    some (v109, v106.2)
  else
  if p1 / 100000 = 3 then
    if p1 - p1 / 1000 * 1000 = 0 then
      (G_X0_lostCorner f0 ((p1 / 10000) - (p1 / 10000) / 10 * 10) ((p1 / 1000) - (p1 / 1000) / 10 * 10)).bind fun v121 =>
      if v121.1 = 0 then
        some (0, v121.2)
      else
        some (1, v121.2)
    else
      some (0, f0)
  else
  if p1 / 100000 = 4 then
    if p1 - p1 / 10 * 10 = 0 then
      (G_X0_addedHole f0 ((p1 / 1000) - (p1 / 1000) / 100 * 100) ((p1 / 10) - (p1 / 10) / 100 * 100)).bind fun v156 =>
      if v156.1 = 0 then
        some (0, v156.2)
      else
        some (1, v156.2)
    else
      some (0, f0)
  else
  if p1 / 100000 = 5 then
    if (p1 / 10000) - (p1 / 10000) / 10 * 10 = 0 then
      (G_X0_shifted f0 (((p1 / 100) - (p1 / 100) / 100 * 100) - 15) ((p1 - p1 / 100 * 100) - 15)).bind fun v183 =>
      if v183.1 = 0 then
        some (0, v183.2)
      else
        some (1, v183.2)
    else
      some (0, f0)
  else
  if p1 / 100000 = 6 then
    if p1 - p1 / 10000 * 10000 = 0 then
      (G_X5_turnsOrMirrors f0 ((p1 / 10000) - (p1 / 10000) / 10 * 10)).bind fun v205 =>
      if v205.1 = 0 then
        some (0, v205.2)
      else
        some (1, v205.2)
    else
      some (0, f0)
  else
  if p1 / 100000 = 7 then
    if (p1 / 10000) - (p1 / 10000) / 10 * 10 = 0 then
      if (p1 / 1000) - (p1 / 1000) / 10 * 10 = 0 then
        (G_X2_area f0).bind fun v226 =>
        if v226 < p1 - p1 / 1000 * 1000 then
          some (0, f0)
        else
          some (1, f0)
      else
        some (0, f0)
    else
      some (0, f0)
  else
  if p1 / 100000 = 8 then
    (G_X5_isAt f0 ((p1 / 1000) - (p1 / 1000) / 100 * 100) ((p1 / 10) - (p1 / 10) / 100 * 100) (p1 - p1 / 10 * 10)).bind fun v263 =>
    (bck v263).bind fun v266 =>
    some (v266, f0)
  else
  if p1 / 100000 = 9 then
    if (p1 / 10000) - (p1 / 10000) / 10 * 10 = 0 then
      if (p1 / 1000) - (p1 / 1000) / 10 * 10 = 0 then
        (G_X2_inside f0).bind fun v276 =>
        if p1 - p1 / 1000 * 1000 < v276 then
          some (0, f0)
        else
          some (1, f0)
      else
        some (0, f0)
    else
      some (0, f0)
  else
  some (0, f0)
abbrev rm_X5_succeeds : Room := { frames := 6, cells := 0, slots := 0, locals := 138 }
theorem hdS_X5_succeeds : yX5_succeeds.cls ≠ "java/lang/invoke/MethodHandle" ∧ yX5_succeeds.cls ≠ "java/lang/invoke/VarHandle" ∧ (parseMethodDescriptor yX5_succeeds.desc).map (fun d => d.parameters.length) = some 2 := by decide +kernel
set_option maxHeartbeats 4000000 in
set_option maxRecDepth 100000 in
theorem c_X5_succeeds (l : Launch) (dC : Nat → ClassId) (dI : Nat → Nat → Nat) (cy : Nat → ClassId) (a0 : Nat → Nat) (f0 : Fig) (p1 : Int32) (res : Int32 × Fig) (h : G_X5_succeeds f0 p1 = some res) : CT l (dC, dI) (TY cy) yX5_succeeds cX5_succeeds 6 (some .boolean) rm_X5_succeeds [.ref (a0 0), .int p1] (wFig a0 cy f0) (wFig a0 cy res.2) (some (.int res.1)) := by
  refine CT.mk_z (own := RX5) ⟨by decide, rfl⟩ (Nat.le_of_ble_eq_true rfl) ?_
  intro p e s mm args below meth cd A Q hx hb hml hown htg hN hK hA hP hD hS hE ls hl
  have hl : lv_has ls 6 [(0, .ref (a0 0)), (1, .int p1)] := hl
  replace h : _ = some res := h
  unfold G_X5_succeeds at h
  obtain ⟨H, hH⟩ : ∃ H, H = s.heap := ⟨_, rfl⟩
  obtain ⟨locs, hlocs⟩ : ∃ locs : List Loc, locs = [] := ⟨_, rfl⟩
  rw [← hlocs] at hS ⊢
  have hS : va_S A s.heap H locs := by rw [hH]; exact hS
  rw [← hH] at hP ⊢
  refine lv_iload_n hx hb dX5_succeeds_0 rfl (lv_at hl 1 rfl) ?_
  refine lv_sipush (v := 10000) hx hb dX5_succeeds_1 (by decide) ?_
  refine lv_idiv hx hb dX5_succeeds_4 (by decide) ?_
  refine lv_bipush (v := 10) hx hb dX5_succeeds_5 (by decide) ?_
  refine lv_irem hx hb dX5_succeeds_7 (by decide) ?_
  refine lv_istore_n (lv' := [(2, .int ((p1 / 10000) - (p1 / 10000) / 10 * 10)), (0, .ref (a0 0)), (1, .int p1)]) hx hb dX5_succeeds_8 rfl hl (by decide) rfl (fun ls hl => ?_)
  refine lv_iload_n hx hb dX5_succeeds_9 rfl (lv_at hl 2 rfl) ?_
  refine lv_sipush (v := 1000) hx hb dX5_succeeds_10 (by decide) ?_
  refine lv_idiv hx hb dX5_succeeds_13 (by decide) ?_
  refine lv_bipush (v := 10) hx hb dX5_succeeds_14 (by decide) ?_
  refine lv_irem hx hb dX5_succeeds_16 (by decide) ?_
  refine lv_istore_n (lv' := [(3, .int ((p1 / 1000) - (p1 / 1000) / 10 * 10)), (2, .int ((p1 / 10000) - (p1 / 10000) / 10 * 10)), (0, .ref (a0 0)), (1, .int p1)]) hx hb dX5_succeeds_17 rfl hl (by decide) rfl (fun ls hl => ?_)
  refine lv_iload_n hx hb dX5_succeeds_18 rfl (lv_at hl 3 rfl) ?_
  refine lv_bipush (v := 100) hx hb dX5_succeeds_19 (by decide) ?_
  refine lv_idiv hx hb dX5_succeeds_21 (by decide) ?_
  refine lv_bipush (v := 100) hx hb dX5_succeeds_22 (by decide) ?_
  refine lv_irem hx hb dX5_succeeds_24 (by decide) ?_
  refine lv_istore (lv' := [(4, .int ((p1 / 100) - (p1 / 100) / 100 * 100)), (3, .int ((p1 / 1000) - (p1 / 1000) / 10 * 10)), (2, .int ((p1 / 10000) - (p1 / 10000) / 10 * 10)), (0, .ref (a0 0)), (1, .int p1)]) hx hb dX5_succeeds_25 hl (by decide) rfl (fun ls hl => ?_)
  refine lv_iload_n hx hb dX5_succeeds_27 rfl (lv_at hl 4 rfl) ?_
  refine lv_bipush (v := 100) hx hb dX5_succeeds_28 (by decide) ?_
  refine lv_irem hx hb dX5_succeeds_30 (by decide) ?_
  refine lv_istore (lv' := [(5, .int (p1 - p1 / 100 * 100)), (4, .int ((p1 / 100) - (p1 / 100) / 100 * 100)), (3, .int ((p1 / 1000) - (p1 / 1000) / 10 * 10)), (2, .int ((p1 / 10000) - (p1 / 10000) / 10 * 10)), (0, .ref (a0 0)), (1, .int p1)]) hx hb dX5_succeeds_31 hl (by decide) rfl (fun ls hl => ?_)
  refine lv_iload_n hx hb dX5_succeeds_33 rfl (lv_at hl 5 rfl) ?_
  refine lv_ldc (v := 100000) hx hb hown (htg _ gw793) dX5_succeeds_34 ?_
  refine lv_idiv hx hb dX5_succeeds_36 (by decide) ?_
  by_cases c37_1 : p1 / 100000 = 1
  · replace h := if_t h c37_1
    refine lv_tableIn (tgt := 88) (off := 51) hx hb dX5_succeeds_37 (by rw [c37_1]; decide) (by rw [c37_1]; decide) (by rw [c37_1]; rfl) (by decide) ?_
    refine lv_aload_n hx hb dX5_succeeds_88 rfl (lv_at hl 4 rfl) ?_
    refine lv_iconst (v := 0) hx hb dX5_succeeds_89 (by decide) ?_
    refine lv_iload_n hx hb dX5_succeeds_90 rfl (lv_at hl 3 rfl) ?_
    refine lv_iload hx hb dX5_succeeds_91 (lv_at hl 1 rfl) ?_
    refine lv_iload hx hb dX5_succeeds_93 (lv_at hl 0 rfl) ?_
    obtain ⟨v95, e95, h⟩ := bnd h
    refine cS (av := [.ref (a0 0), .int 0, .int ((p1 / 10000) - (p1 / 10000) / 10 * 10), .int ((p1 / 100) - (p1 / 100) / 100 * 100), .int (p1 - p1 / 100 * 100)]) (rest := []) (st1 := [.int v95.1]) (k1 := 0) (k2 := 0) hx hb hml hown htg hN hK (c_X0_movedCorner l dC dI cy a0 f0 0 ((p1 / 10000) - (p1 / 10000) / 10 * 10) ((p1 / 100) - (p1 / 100) / 100 * 100) (p1 - p1 / 100 * 100) v95 e95) (g_S gw794 gw357 gw75 gw358) hdS_X0_movedCorner rfl ⟨⟨Nat.le_of_ble_eq_true rfl, Nat.le_of_ble_eq_true rfl⟩, Nat.le_of_ble_eq_true rfl, Nat.le_of_ble_eq_true rfl⟩ hP hD hS hA [0, 1, 2, 3, 4] [] rfl rfl rfl (by decide) (by decide) hl.1 rfl (Nat.le_of_ble_eq_true rfl) rfl rfl rfl dX5_succeeds_95 (fun H locs hP hD hS => ?_)
    have hP : va_P (dC, dI) vwCl (wFig a0 cy v95.2) H := hP
    have hD : va_D A (wFig a0 cy v95.2) := hD
    obtain ⟨v98, e98, h⟩ := bnd h
    obtain ⟨rfl, hz98⟩ := bck_in e98
    obtain rfl := Option.some.inj h
    exact hE H locs 98 ls _ hP hD hS rfl hz98 dX5_succeeds_98
  replace h := if_f h c37_1
  by_cases c37_2 : p1 / 100000 = 2
  · replace h := if_t h c37_2
    refine lv_tableIn (tgt := 99) (off := 62) hx hb dX5_succeeds_37 (by rw [c37_2]; decide) (by rw [c37_2]; decide) (by rw [c37_2]; rfl) (by decide) ?_
    refine lv_aload_n hx hb dX5_succeeds_99 rfl (lv_at hl 4 rfl) ?_
    refine lv_iconst (v := 0) hx hb dX5_succeeds_100 (by decide) ?_
    refine lv_iload_n hx hb dX5_succeeds_101 rfl (lv_at hl 3 rfl) ?_
    refine lv_iload hx hb dX5_succeeds_102 (lv_at hl 1 rfl) ?_
    refine lv_iload hx hb dX5_succeeds_104 (lv_at hl 0 rfl) ?_
    obtain ⟨v106, e106, h⟩ := bnd h
    refine cS (av := [.ref (a0 0), .int 0, .int ((p1 / 10000) - (p1 / 10000) / 10 * 10), .int ((p1 / 100) - (p1 / 100) / 100 * 100), .int (p1 - p1 / 100 * 100)]) (rest := []) (st1 := [.int v106.1]) (k1 := 0) (k2 := 0) hx hb hml hown htg hN hK (c_X0_addedCorner l dC dI cy a0 f0 0 ((p1 / 10000) - (p1 / 10000) / 10 * 10) ((p1 / 100) - (p1 / 100) / 100 * 100) (p1 - p1 / 100 * 100) v106 e106) (g_S gw795 gw674 gw75 gw675) hdS_X0_addedCorner rfl ⟨⟨Nat.le_of_ble_eq_true rfl, Nat.le_of_ble_eq_true rfl⟩, Nat.le_of_ble_eq_true rfl, Nat.le_of_ble_eq_true rfl⟩ hP hD hS hA [0, 1, 2, 3, 4] [] rfl rfl rfl (by decide) (by decide) hl.1 rfl (Nat.le_of_ble_eq_true rfl) rfl rfl rfl dX5_succeeds_106 (fun H locs hP hD hS => ?_)
    have hP : va_P (dC, dI) vwCl (wFig a0 cy v106.2) H := hP
    have hD : va_D A (wFig a0 cy v106.2) := hD
    obtain ⟨v109, e109, h⟩ := bnd h
    obtain ⟨rfl, hz109⟩ := bck_in e109
    obtain rfl := Option.some.inj h
    exact hE H locs 109 ls _ hP hD hS rfl hz109 dX5_succeeds_109
  replace h := if_f h c37_2
  by_cases c37_3 : p1 / 100000 = 3
  · replace h := if_t h c37_3
    refine lv_tableIn (tgt := 110) (off := 73) hx hb dX5_succeeds_37 (by rw [c37_3]; decide) (by rw [c37_3]; decide) (by rw [c37_3]; rfl) (by decide) ?_
    refine lv_iload_n hx hb dX5_succeeds_110 rfl (lv_at hl 5 rfl) ?_
    refine lv_sipush (v := 1000) hx hb dX5_succeeds_111 (by decide) ?_
    refine lv_irem hx hb dX5_succeeds_114 (by decide) ?_
    refine lv_if_ne (tgt := 131) hx hb dX5_succeeds_115 (by decide) (fun c115 => ?_) (fun c115 => ?_)
    · replace h := if_f h c115
      refine lv_iconst (v := 0) hx hb dX5_succeeds_131 (by decide) ?_
      obtain rfl := Option.some.inj h
      exact hE H locs 132 ls _ hP hD hS rfl (Or.inl rfl) dX5_succeeds_132
    replace h := if_t h c115
    refine lv_aload_n hx hb dX5_succeeds_118 rfl (lv_at hl 4 rfl) ?_
    refine lv_iload_n hx hb dX5_succeeds_119 rfl (lv_at hl 3 rfl) ?_
    refine lv_iload_n hx hb dX5_succeeds_120 rfl (lv_at hl 2 rfl) ?_
    obtain ⟨v121, e121, h⟩ := bnd h
    refine cS (av := [.ref (a0 0), .int ((p1 / 10000) - (p1 / 10000) / 10 * 10), .int ((p1 / 1000) - (p1 / 1000) / 10 * 10)]) (rest := []) (st1 := [.int v121.1]) (k1 := 0) (k2 := 0) hx hb hml hown htg hN hK (c_X0_lostCorner l dC dI cy a0 f0 ((p1 / 10000) - (p1 / 10000) / 10 * 10) ((p1 / 1000) - (p1 / 1000) / 10 * 10) v121 e121) (g_S gw796 gw687 gw75 gw688) hdS_X0_lostCorner rfl ⟨⟨Nat.le_of_ble_eq_true rfl, Nat.le_of_ble_eq_true rfl⟩, Nat.le_of_ble_eq_true rfl, Nat.le_of_ble_eq_true rfl⟩ hP hD hS hA [0, 1, 2, 3, 4] [] rfl rfl rfl (by decide) (by decide) hl.1 rfl (Nat.le_of_ble_eq_true rfl) rfl rfl rfl dX5_succeeds_121 (fun H locs hP hD hS => ?_)
    have hP : va_P (dC, dI) vwCl (wFig a0 cy v121.2) H := hP
    have hD : va_D A (wFig a0 cy v121.2) := hD
    refine lv_if_eq (tgt := 131) hx hb dX5_succeeds_124 (by decide) (fun c124 => ?_) (fun c124 => ?_)
    · replace h := if_t h c124
      refine lv_iconst (v := 0) hx hb dX5_succeeds_131 (by decide) ?_
      obtain rfl := Option.some.inj h
      exact hE H locs 132 ls _ hP hD hS rfl (Or.inl rfl) dX5_succeeds_132
    replace h := if_f h c124
    refine lv_iconst (v := 1) hx hb dX5_succeeds_127 (by decide) ?_
    refine lv_goto (tgt := 132) hx hb dX5_succeeds_128 (by decide) ?_
    obtain rfl := Option.some.inj h
    exact hE H locs 132 ls _ hP hD hS rfl (Or.inr rfl) dX5_succeeds_132
  replace h := if_f h c37_3
  by_cases c37_4 : p1 / 100000 = 4
  · replace h := if_t h c37_4
    refine lv_tableIn (tgt := 133) (off := 96) hx hb dX5_succeeds_37 (by rw [c37_4]; decide) (by rw [c37_4]; decide) (by rw [c37_4]; rfl) (by decide) ?_
    refine lv_iload_n hx hb dX5_succeeds_133 rfl (lv_at hl 5 rfl) ?_
    refine lv_bipush (v := 10) hx hb dX5_succeeds_134 (by decide) ?_
    refine lv_irem hx hb dX5_succeeds_136 (by decide) ?_
    refine lv_if_ne (tgt := 166) hx hb dX5_succeeds_137 (by decide) (fun c137 => ?_) (fun c137 => ?_)
    · replace h := if_f h c137
      refine lv_iconst (v := 0) hx hb dX5_succeeds_166 (by decide) ?_
      obtain rfl := Option.some.inj h
      exact hE H locs 167 ls _ hP hD hS rfl (Or.inl rfl) dX5_succeeds_167
    replace h := if_t h c137
    refine lv_aload_n hx hb dX5_succeeds_140 rfl (lv_at hl 4 rfl) ?_
    refine lv_iload_n hx hb dX5_succeeds_141 rfl (lv_at hl 5 rfl) ?_
    refine lv_sipush (v := 1000) hx hb dX5_succeeds_142 (by decide) ?_
    refine lv_idiv hx hb dX5_succeeds_145 (by decide) ?_
    refine lv_bipush (v := 100) hx hb dX5_succeeds_146 (by decide) ?_
    refine lv_irem hx hb dX5_succeeds_148 (by decide) ?_
    refine lv_iload_n hx hb dX5_succeeds_149 rfl (lv_at hl 5 rfl) ?_
    refine lv_bipush (v := 10) hx hb dX5_succeeds_150 (by decide) ?_
    refine lv_idiv hx hb dX5_succeeds_152 (by decide) ?_
    refine lv_bipush (v := 100) hx hb dX5_succeeds_153 (by decide) ?_
    refine lv_irem hx hb dX5_succeeds_155 (by decide) ?_
    obtain ⟨v156, e156, h⟩ := bnd h
    refine cS (av := [.ref (a0 0), .int ((p1 / 1000) - (p1 / 1000) / 100 * 100), .int ((p1 / 10) - (p1 / 10) / 100 * 100)]) (rest := []) (st1 := [.int v156.1]) (k1 := 0) (k2 := 0) hx hb hml hown htg hN hK (c_X0_addedHole l dC dI cy a0 f0 ((p1 / 1000) - (p1 / 1000) / 100 * 100) ((p1 / 10) - (p1 / 10) / 100 * 100) v156 e156) (g_S gw797 gw708 gw75 gw709) hdS_X0_addedHole rfl ⟨⟨Nat.le_of_ble_eq_true rfl, Nat.le_of_ble_eq_true rfl⟩, Nat.le_of_ble_eq_true rfl, Nat.le_of_ble_eq_true rfl⟩ hP hD hS hA [0, 1, 2, 3, 4] [] rfl rfl rfl (by decide) (by decide) hl.1 rfl (Nat.le_of_ble_eq_true rfl) rfl rfl rfl dX5_succeeds_156 (fun H locs hP hD hS => ?_)
    have hP : va_P (dC, dI) vwCl (wFig a0 cy v156.2) H := hP
    have hD : va_D A (wFig a0 cy v156.2) := hD
    refine lv_if_eq (tgt := 166) hx hb dX5_succeeds_159 (by decide) (fun c159 => ?_) (fun c159 => ?_)
    · replace h := if_t h c159
      refine lv_iconst (v := 0) hx hb dX5_succeeds_166 (by decide) ?_
      obtain rfl := Option.some.inj h
      exact hE H locs 167 ls _ hP hD hS rfl (Or.inl rfl) dX5_succeeds_167
    replace h := if_f h c159
    refine lv_iconst (v := 1) hx hb dX5_succeeds_162 (by decide) ?_
    refine lv_goto (tgt := 167) hx hb dX5_succeeds_163 (by decide) ?_
    obtain rfl := Option.some.inj h
    exact hE H locs 167 ls _ hP hD hS rfl (Or.inr rfl) dX5_succeeds_167
  replace h := if_f h c37_4
  by_cases c37_5 : p1 / 100000 = 5
  · replace h := if_t h c37_5
    refine lv_tableIn (tgt := 168) (off := 131) hx hb dX5_succeeds_37 (by rw [c37_5]; decide) (by rw [c37_5]; decide) (by rw [c37_5]; rfl) (by decide) ?_
    refine lv_iload_n hx hb dX5_succeeds_168 rfl (lv_at hl 3 rfl) ?_
    refine lv_if_ne (tgt := 193) hx hb dX5_succeeds_169 (by decide) (fun c169 => ?_) (fun c169 => ?_)
    · replace h := if_f h c169
      refine lv_iconst (v := 0) hx hb dX5_succeeds_193 (by decide) ?_
      obtain rfl := Option.some.inj h
      exact hE H locs 194 ls _ hP hD hS rfl (Or.inl rfl) dX5_succeeds_194
    replace h := if_t h c169
    refine lv_aload_n hx hb dX5_succeeds_172 rfl (lv_at hl 4 rfl) ?_
    refine lv_iload hx hb dX5_succeeds_173 (lv_at hl 1 rfl) ?_
    refine lv_bipush (v := 15) hx hb dX5_succeeds_175 (by decide) ?_
    refine lv_isub hx hb dX5_succeeds_177 ?_
    refine lv_iload hx hb dX5_succeeds_178 (lv_at hl 0 rfl) ?_
    refine lv_bipush (v := 15) hx hb dX5_succeeds_180 (by decide) ?_
    refine lv_isub hx hb dX5_succeeds_182 ?_
    obtain ⟨v183, e183, h⟩ := bnd h
    refine cS (av := [.ref (a0 0), .int (((p1 / 100) - (p1 / 100) / 100 * 100) - 15), .int ((p1 - p1 / 100 * 100) - 15)]) (rest := []) (st1 := [.int v183.1]) (k1 := 0) (k2 := 0) hx hb hml hown htg hN hK (c_X0_shifted l dC dI cy a0 f0 (((p1 / 100) - (p1 / 100) / 100 * 100) - 15) ((p1 - p1 / 100 * 100) - 15) v183 e183) (g_S gw798 gw735 gw75 gw736) hdS_X0_shifted rfl ⟨⟨Nat.le_of_ble_eq_true rfl, Nat.le_of_ble_eq_true rfl⟩, Nat.le_of_ble_eq_true rfl, Nat.le_of_ble_eq_true rfl⟩ hP hD hS hA [0, 1, 2, 3, 4] [] rfl rfl rfl (by decide) (by decide) hl.1 rfl (Nat.le_of_ble_eq_true rfl) rfl rfl rfl dX5_succeeds_183 (fun H locs hP hD hS => ?_)
    have hP : va_P (dC, dI) vwCl (wFig a0 cy v183.2) H := hP
    have hD : va_D A (wFig a0 cy v183.2) := hD
    refine lv_if_eq (tgt := 193) hx hb dX5_succeeds_186 (by decide) (fun c186 => ?_) (fun c186 => ?_)
    · replace h := if_t h c186
      refine lv_iconst (v := 0) hx hb dX5_succeeds_193 (by decide) ?_
      obtain rfl := Option.some.inj h
      exact hE H locs 194 ls _ hP hD hS rfl (Or.inl rfl) dX5_succeeds_194
    replace h := if_f h c186
    refine lv_iconst (v := 1) hx hb dX5_succeeds_189 (by decide) ?_
    refine lv_goto (tgt := 194) hx hb dX5_succeeds_190 (by decide) ?_
    obtain rfl := Option.some.inj h
    exact hE H locs 194 ls _ hP hD hS rfl (Or.inr rfl) dX5_succeeds_194
  replace h := if_f h c37_5
  by_cases c37_6 : p1 / 100000 = 6
  · replace h := if_t h c37_6
    refine lv_tableIn (tgt := 195) (off := 158) hx hb dX5_succeeds_37 (by rw [c37_6]; decide) (by rw [c37_6]; decide) (by rw [c37_6]; rfl) (by decide) ?_
    refine lv_iload_n hx hb dX5_succeeds_195 rfl (lv_at hl 5 rfl) ?_
    refine lv_sipush (v := 10000) hx hb dX5_succeeds_196 (by decide) ?_
    refine lv_irem hx hb dX5_succeeds_199 (by decide) ?_
    refine lv_if_ne (tgt := 215) hx hb dX5_succeeds_200 (by decide) (fun c200 => ?_) (fun c200 => ?_)
    · replace h := if_f h c200
      refine lv_iconst (v := 0) hx hb dX5_succeeds_215 (by decide) ?_
      obtain rfl := Option.some.inj h
      exact hE H locs 216 ls _ hP hD hS rfl (Or.inl rfl) dX5_succeeds_216
    replace h := if_t h c200
    refine lv_aload_n hx hb dX5_succeeds_203 rfl (lv_at hl 4 rfl) ?_
    refine lv_iload_n hx hb dX5_succeeds_204 rfl (lv_at hl 3 rfl) ?_
    obtain ⟨v205, e205, h⟩ := bnd h
    refine cS (av := [.ref (a0 0), .int ((p1 / 10000) - (p1 / 10000) / 10 * 10)]) (rest := []) (st1 := [.int v205.1]) (k1 := 0) (k2 := 0) hx hb hml hown htg hN hK (c_X5_turnsOrMirrors l dC dI cy a0 f0 ((p1 / 10000) - (p1 / 10000) / 10 * 10) v205 e205) (g_S gw799 gw800 gw76 gw801) hdS_X5_turnsOrMirrors rfl ⟨⟨Nat.le_of_ble_eq_true rfl, Nat.le_of_ble_eq_true rfl⟩, Nat.le_of_ble_eq_true rfl, Nat.le_of_ble_eq_true rfl⟩ hP hD hS hA [0, 1, 2, 3, 4] [] rfl rfl rfl (by decide) (by decide) hl.1 rfl (Nat.le_of_ble_eq_true rfl) rfl rfl rfl dX5_succeeds_205 (fun H locs hP hD hS => ?_)
    have hP : va_P (dC, dI) vwCl (wFig a0 cy v205.2) H := hP
    have hD : va_D A (wFig a0 cy v205.2) := hD
    refine lv_if_eq (tgt := 215) hx hb dX5_succeeds_208 (by decide) (fun c208 => ?_) (fun c208 => ?_)
    · replace h := if_t h c208
      refine lv_iconst (v := 0) hx hb dX5_succeeds_215 (by decide) ?_
      obtain rfl := Option.some.inj h
      exact hE H locs 216 ls _ hP hD hS rfl (Or.inl rfl) dX5_succeeds_216
    replace h := if_f h c208
    refine lv_iconst (v := 1) hx hb dX5_succeeds_211 (by decide) ?_
    refine lv_goto (tgt := 216) hx hb dX5_succeeds_212 (by decide) ?_
    obtain rfl := Option.some.inj h
    exact hE H locs 216 ls _ hP hD hS rfl (Or.inr rfl) dX5_succeeds_216
  replace h := if_f h c37_6
  by_cases c37_7 : p1 / 100000 = 7
  · replace h := if_t h c37_7
    refine lv_tableIn (tgt := 217) (off := 180) hx hb dX5_succeeds_37 (by rw [c37_7]; decide) (by rw [c37_7]; decide) (by rw [c37_7]; rfl) (by decide) ?_
    refine lv_iload_n hx hb dX5_succeeds_217 rfl (lv_at hl 3 rfl) ?_
    refine lv_if_ne (tgt := 241) hx hb dX5_succeeds_218 (by decide) (fun c218 => ?_) (fun c218 => ?_)
    · replace h := if_f h c218
      refine lv_iconst (v := 0) hx hb dX5_succeeds_241 (by decide) ?_
      obtain rfl := Option.some.inj h
      exact hE H locs 242 ls _ hP hD hS rfl (Or.inl rfl) dX5_succeeds_242
    replace h := if_t h c218
    refine lv_iload_n hx hb dX5_succeeds_221 rfl (lv_at hl 2 rfl) ?_
    refine lv_if_ne (tgt := 241) hx hb dX5_succeeds_222 (by decide) (fun c222 => ?_) (fun c222 => ?_)
    · replace h := if_f h c222
      refine lv_iconst (v := 0) hx hb dX5_succeeds_241 (by decide) ?_
      obtain rfl := Option.some.inj h
      exact hE H locs 242 ls _ hP hD hS rfl (Or.inl rfl) dX5_succeeds_242
    replace h := if_t h c222
    refine lv_aload_n hx hb dX5_succeeds_225 rfl (lv_at hl 4 rfl) ?_
    obtain ⟨v226, e226, h⟩ := bnd h
    refine cS (av := [.ref (a0 0)]) (rest := []) (st1 := [.int v226]) (k1 := 0) (k2 := 0) hx hb hml hown htg hN hK (c_X2_area l dC dI cy a0 f0  v226 e226) (g_S gw804 gw367 gw72 gw368) hdS_X2_area rfl ⟨⟨Nat.le_of_ble_eq_true rfl, Nat.le_of_ble_eq_true rfl⟩, Nat.le_of_ble_eq_true rfl, Nat.le_of_ble_eq_true rfl⟩ hP hD hS hA [0, 1, 2, 3, 4] [] rfl rfl rfl (by decide) (by decide) hl.1 rfl (Nat.le_of_ble_eq_true rfl) rfl rfl rfl dX5_succeeds_226 (fun H locs hP hD hS => ?_)
    have hP : va_P (dC, dI) vwCl (wFig a0 cy f0) H := hP
    have hD : va_D A (wFig a0 cy f0) := hD
    refine lv_iload_n hx hb dX5_succeeds_229 rfl (lv_at hl 5 rfl) ?_
    refine lv_sipush (v := 1000) hx hb dX5_succeeds_230 (by decide) ?_
    refine lv_irem hx hb dX5_succeeds_233 (by decide) ?_
    refine lv_icmp_lt (tgt := 241) hx hb dX5_succeeds_234 (by decide) (fun c234 => ?_) (fun c234 => ?_)
    · replace h := if_t h c234
      refine lv_iconst (v := 0) hx hb dX5_succeeds_241 (by decide) ?_
      obtain rfl := Option.some.inj h
      exact hE H locs 242 ls _ hP hD hS rfl (Or.inl rfl) dX5_succeeds_242
    replace h := if_f h c234
    refine lv_iconst (v := 1) hx hb dX5_succeeds_237 (by decide) ?_
    refine lv_goto (tgt := 242) hx hb dX5_succeeds_238 (by decide) ?_
    obtain rfl := Option.some.inj h
    exact hE H locs 242 ls _ hP hD hS rfl (Or.inr rfl) dX5_succeeds_242
  replace h := if_f h c37_7
  by_cases c37_8 : p1 / 100000 = 8
  · replace h := if_t h c37_8
    refine lv_tableIn (tgt := 243) (off := 206) hx hb dX5_succeeds_37 (by rw [c37_8]; decide) (by rw [c37_8]; decide) (by rw [c37_8]; rfl) (by decide) ?_
    refine lv_aload_n hx hb dX5_succeeds_243 rfl (lv_at hl 4 rfl) ?_
    refine lv_iload_n hx hb dX5_succeeds_244 rfl (lv_at hl 5 rfl) ?_
    refine lv_sipush (v := 1000) hx hb dX5_succeeds_245 (by decide) ?_
    refine lv_idiv hx hb dX5_succeeds_248 (by decide) ?_
    refine lv_bipush (v := 100) hx hb dX5_succeeds_249 (by decide) ?_
    refine lv_irem hx hb dX5_succeeds_251 (by decide) ?_
    refine lv_iload_n hx hb dX5_succeeds_252 rfl (lv_at hl 5 rfl) ?_
    refine lv_bipush (v := 10) hx hb dX5_succeeds_253 (by decide) ?_
    refine lv_idiv hx hb dX5_succeeds_255 (by decide) ?_
    refine lv_bipush (v := 100) hx hb dX5_succeeds_256 (by decide) ?_
    refine lv_irem hx hb dX5_succeeds_258 (by decide) ?_
    refine lv_iload_n hx hb dX5_succeeds_259 rfl (lv_at hl 5 rfl) ?_
    refine lv_bipush (v := 10) hx hb dX5_succeeds_260 (by decide) ?_
    refine lv_irem hx hb dX5_succeeds_262 (by decide) ?_
    obtain ⟨v263, e263, h⟩ := bnd h
    refine cS (av := [.ref (a0 0), .int ((p1 / 1000) - (p1 / 1000) / 100 * 100), .int ((p1 / 10) - (p1 / 10) / 100 * 100), .int (p1 - p1 / 10 * 10)]) (rest := []) (st1 := [.int v263]) (k1 := 0) (k2 := 0) hx hb hml hown htg hN hK (c_X5_isAt l dC dI cy a0 f0 ((p1 / 1000) - (p1 / 1000) / 100 * 100) ((p1 / 10) - (p1 / 10) / 100 * 100) (p1 - p1 / 10 * 10) v263 e263) (g_S gw805 gw806 gw76 gw807) hdS_X5_isAt rfl ⟨⟨Nat.le_of_ble_eq_true rfl, Nat.le_of_ble_eq_true rfl⟩, Nat.le_of_ble_eq_true rfl, Nat.le_of_ble_eq_true rfl⟩ hP hD hS hA [0, 1, 2, 3, 4] [] rfl rfl rfl (by decide) (by decide) hl.1 rfl (Nat.le_of_ble_eq_true rfl) rfl rfl rfl dX5_succeeds_263 (fun H locs hP hD hS => ?_)
    have hP : va_P (dC, dI) vwCl (wFig a0 cy f0) H := hP
    have hD : va_D A (wFig a0 cy f0) := hD
    obtain ⟨v266, e266, h⟩ := bnd h
    obtain ⟨rfl, hz266⟩ := bck_in e266
    obtain rfl := Option.some.inj h
    exact hE H locs 266 ls _ hP hD hS rfl hz266 dX5_succeeds_266
  replace h := if_f h c37_8
  by_cases c37_9 : p1 / 100000 = 9
  · replace h := if_t h c37_9
    refine lv_tableIn (tgt := 267) (off := 230) hx hb dX5_succeeds_37 (by rw [c37_9]; decide) (by rw [c37_9]; decide) (by rw [c37_9]; rfl) (by decide) ?_
    refine lv_iload_n hx hb dX5_succeeds_267 rfl (lv_at hl 3 rfl) ?_
    refine lv_if_ne (tgt := 291) hx hb dX5_succeeds_268 (by decide) (fun c268 => ?_) (fun c268 => ?_)
    · replace h := if_f h c268
      refine lv_iconst (v := 0) hx hb dX5_succeeds_291 (by decide) ?_
      obtain rfl := Option.some.inj h
      exact hE H locs 292 ls _ hP hD hS rfl (Or.inl rfl) dX5_succeeds_292
    replace h := if_t h c268
    refine lv_iload_n hx hb dX5_succeeds_271 rfl (lv_at hl 2 rfl) ?_
    refine lv_if_ne (tgt := 291) hx hb dX5_succeeds_272 (by decide) (fun c272 => ?_) (fun c272 => ?_)
    · replace h := if_f h c272
      refine lv_iconst (v := 0) hx hb dX5_succeeds_291 (by decide) ?_
      obtain rfl := Option.some.inj h
      exact hE H locs 292 ls _ hP hD hS rfl (Or.inl rfl) dX5_succeeds_292
    replace h := if_t h c272
    refine lv_aload_n hx hb dX5_succeeds_275 rfl (lv_at hl 4 rfl) ?_
    obtain ⟨v276, e276, h⟩ := bnd h
    refine cS (av := [.ref (a0 0)]) (rest := []) (st1 := [.int v276]) (k1 := 0) (k2 := 0) hx hb hml hown htg hN hK (c_X2_inside l dC dI cy a0 f0  v276 e276) (g_S gw810 gw552 gw72 gw553) hdS_X2_inside rfl ⟨⟨Nat.le_of_ble_eq_true rfl, Nat.le_of_ble_eq_true rfl⟩, Nat.le_of_ble_eq_true rfl, Nat.le_of_ble_eq_true rfl⟩ hP hD hS hA [0, 1, 2, 3, 4] [] rfl rfl rfl (by decide) (by decide) hl.1 rfl (Nat.le_of_ble_eq_true rfl) rfl rfl rfl dX5_succeeds_276 (fun H locs hP hD hS => ?_)
    have hP : va_P (dC, dI) vwCl (wFig a0 cy f0) H := hP
    have hD : va_D A (wFig a0 cy f0) := hD
    refine lv_iload_n hx hb dX5_succeeds_279 rfl (lv_at hl 5 rfl) ?_
    refine lv_sipush (v := 1000) hx hb dX5_succeeds_280 (by decide) ?_
    refine lv_irem hx hb dX5_succeeds_283 (by decide) ?_
    refine lv_icmp_gt (tgt := 291) hx hb dX5_succeeds_284 (by decide) (fun c284 => ?_) (fun c284 => ?_)
    · replace h := if_t h c284
      refine lv_iconst (v := 0) hx hb dX5_succeeds_291 (by decide) ?_
      obtain rfl := Option.some.inj h
      exact hE H locs 292 ls _ hP hD hS rfl (Or.inl rfl) dX5_succeeds_292
    replace h := if_f h c284
    refine lv_iconst (v := 1) hx hb dX5_succeeds_287 (by decide) ?_
    refine lv_goto (tgt := 292) hx hb dX5_succeeds_288 (by decide) ?_
    obtain rfl := Option.some.inj h
    exact hE H locs 292 ls _ hP hD hS rfl (Or.inr rfl) dX5_succeeds_292
  replace h := if_f h c37_9
  refine lv_tableOut (tgt := 293) hx hb dX5_succeeds_37 (x_tout1_9 c37_1 c37_2 c37_3 c37_4 c37_5 c37_6 c37_7 c37_8 c37_9) (by decide) ?_
  refine lv_iconst (v := 0) hx hb dX5_succeeds_293 (by decide) ?_
  obtain rfl := Option.some.inj h
  exact hE H locs 294 ls _ hP hD hS rfl (Or.inl rfl) dX5_succeeds_294
def G_X6_between_L27  (f0 : Fig) : Nat → Int32 → Int32 → Int32 → Option (Int32)
  | 0, _, _, _ => none
  | n27 + 1, l3_27, l1_27, l2_27 =>
    if f_corners f0 ≤ l3_27 then
      (G_X1_xOf f0 l1_27).bind fun v70 =>
      (G_X1_xOf f0 l2_27).bind fun v75 =>
      (G_X1_yOf f0 l1_27).bind fun v82 =>
      (G_X1_yOf f0 l2_27).bind fun v87 =>
      (G_X1_surrounds f0 0 (v70 + v75) (v82 + v87)).bind fun v98 =>
      if v98 = 0 then
        some 0
      else
        (G_X1_inSomeHole f0 (v70 + v75) (v82 + v87)).bind fun v108 =>
        if v108 = 0 then
          some 1
        else
          some 0
    else
      (G_X1_cornerOnLine f0 l3_27 l1_27 l2_27).bind fun v39 =>
      if v39 = 0 then
        (G_X1_nextOf f0 l3_27).bind fun v51 =>
        (G_X1_linesCross f0 l1_27 l2_27 l3_27 v51).bind fun v54 =>
        if v54 = 0 then
          (G_X6_between_L27 f0 n27) (l3_27 + 1) l1_27 l2_27
        else
          some 0
      else
        some 0
def G_X6_between (f0 : Fig) (p1 : Int32) (p2 : Int32) : Option (Int32) :=
  if p1 = p2 then
    some 0
  else
    (G_X1_nextOf f0 p1).bind fun v7 =>
    if v7 = p2 then
      some 0
    else
      (G_X1_nextOf f0 p2).bind fun v16 =>
      if v16 = p1 then
        some 0
      else
        G_X6_between_L27 f0 FU 0 p1 p2
abbrev rm_X6_between : Room := { frames := 3, cells := 0, slots := 0, locals := 77 }
theorem hdS_X6_between : yX6_between.cls ≠ "java/lang/invoke/MethodHandle" ∧ yX6_between.cls ≠ "java/lang/invoke/VarHandle" ∧ (parseMethodDescriptor yX6_between.desc).map (fun d => d.parameters.length) = some 3 := by decide +kernel
set_option maxHeartbeats 4000000 in
set_option maxRecDepth 100000 in
theorem c_X6_between (l : Launch) (dC : Nat → ClassId) (dI : Nat → Nat → Nat) (cy : Nat → ClassId) (a0 : Nat → Nat) (f0 : Fig) (p1 : Int32) (p2 : Int32) (res : Int32) (h : G_X6_between f0 p1 p2 = some res) : CT l (dC, dI) (TY cy) yX6_between cX6_between 5 (some .boolean) rm_X6_between [.ref (a0 0), .int p1, .int p2] (wFig a0 cy f0) (wFig a0 cy f0) (some (.int res)) := by
  refine CT.mk_z (own := RX6) ⟨by decide, rfl⟩ (Nat.le_of_ble_eq_true rfl) ?_
  intro p e s mm args below meth cd A Q hx hb hml hown htg hN hK hA hP hD hS hE ls hl
  have hl : lv_has ls 5 [(0, .ref (a0 0)), (1, .int p1), (2, .int p2)] := hl
  replace h : _ = some res := h
  unfold G_X6_between at h
  obtain ⟨H, hH⟩ : ∃ H, H = s.heap := ⟨_, rfl⟩
  obtain ⟨locs, hlocs⟩ : ∃ locs : List Loc, locs = [] := ⟨_, rfl⟩
  rw [← hlocs] at hS ⊢
  have hS : va_S A s.heap H locs := by rw [hH]; exact hS
  rw [← hH] at hP ⊢
  refine lv_iload_n hx hb dX6_between_0 rfl (lv_at hl 1 rfl) ?_
  refine lv_iload_n hx hb dX6_between_1 rfl (lv_at hl 2 rfl) ?_
  refine lv_icmp_eq (tgt := 23) hx hb dX6_between_2 (by decide) (fun c2 => ?_) (fun c2 => ?_)
  · replace h := if_t h c2
    refine lv_iconst (v := 0) hx hb dX6_between_23 (by decide) ?_
    obtain rfl := Option.some.inj h
    exact hE H locs 24 ls _ hP hD hS rfl (Or.inl rfl) dX6_between_24
  replace h := if_f h c2
  refine lv_aload_n hx hb dX6_between_5 rfl (lv_at hl 0 rfl) ?_
  refine lv_iload_n hx hb dX6_between_6 rfl (lv_at hl 1 rfl) ?_
  obtain ⟨v7, e7, h⟩ := bnd h
  refine cV (av := [.int p1]) (rest := []) (st1 := [.int v7]) (k1 := 0) (k2 := 0) (ci := 0) (q0 := 0) hx hb hml hown htg hN hK (c_X1_nextOf l dC dI cy a0 f0 p1 v7 e7) (g_V gw410 gw259 gw260 gw60 gw261) hdV_X1_nextOf rfl ⟨⟨Nat.le_of_ble_eq_true rfl, Nat.le_of_ble_eq_true rfl⟩, Nat.le_of_ble_eq_true rfl, Nat.le_of_ble_eq_true rfl⟩ hP hD hS hA ⟨rfl, rfl⟩ rfl [0, 1, 2, 3, 4] [] rfl rfl rfl (by decide) (by decide) hl.1 rfl (Nat.le_of_ble_eq_true rfl) rfl rfl rfl dX6_between_7 (fun H locs hP hD hS => ?_)
  have hP : va_P (dC, dI) vwCl (wFig a0 cy f0) H := hP
  have hD : va_D A (wFig a0 cy f0) := hD
  refine lv_iload_n hx hb dX6_between_10 rfl (lv_at hl 2 rfl) ?_
  refine lv_icmp_eq (tgt := 23) hx hb dX6_between_11 (by decide) (fun c11 => ?_) (fun c11 => ?_)
  · replace h := if_t h c11
    refine lv_iconst (v := 0) hx hb dX6_between_23 (by decide) ?_
    obtain rfl := Option.some.inj h
    exact hE H locs 24 ls _ hP hD hS rfl (Or.inl rfl) dX6_between_24
  replace h := if_f h c11
  refine lv_aload_n hx hb dX6_between_14 rfl (lv_at hl 0 rfl) ?_
  refine lv_iload_n hx hb dX6_between_15 rfl (lv_at hl 2 rfl) ?_
  obtain ⟨v16, e16, h⟩ := bnd h
  refine cV (av := [.int p2]) (rest := []) (st1 := [.int v16]) (k1 := 0) (k2 := 0) (ci := 0) (q0 := 0) hx hb hml hown htg hN hK (c_X1_nextOf l dC dI cy a0 f0 p2 v16 e16) (g_V gw410 gw259 gw260 gw60 gw261) hdV_X1_nextOf rfl ⟨⟨Nat.le_of_ble_eq_true rfl, Nat.le_of_ble_eq_true rfl⟩, Nat.le_of_ble_eq_true rfl, Nat.le_of_ble_eq_true rfl⟩ hP hD hS hA ⟨rfl, rfl⟩ rfl [0, 1, 2, 3, 4] [] rfl rfl rfl (by decide) (by decide) hl.1 rfl (Nat.le_of_ble_eq_true rfl) rfl rfl rfl dX6_between_16 (fun H locs hP hD hS => ?_)
  have hP : va_P (dC, dI) vwCl (wFig a0 cy f0) H := hP
  have hD : va_D A (wFig a0 cy f0) := hD
  refine lv_iload_n hx hb dX6_between_19 rfl (lv_at hl 1 rfl) ?_
  refine lv_icmp_ne (tgt := 25) hx hb dX6_between_20 (by decide) (fun c20 => ?_) (fun c20 => ?_)
  · replace h := if_f h c20
    refine lv_iconst (v := 0) hx hb dX6_between_25 (by decide) ?_
    refine lv_istore_n (lv' := [(3, .int 0), (0, .ref (a0 0)), (1, .int p1), (2, .int p2)]) hx hb dX6_between_26 rfl hl (by decide) rfl (fun ls hl => ?_)
    have hL27 : ∀ (n27 : Nat) (l3_27 : Int32) (l1_27 : Int32) (l2_27 : Int32) (H : Heap) (locs : List Loc) (ls : Array Slot), G_X6_between_L27 f0 n27 l3_27 l1_27 l2_27 = some res → va_P (dC, dI) vwCl (wFig a0 cy f0) H → va_D A (wFig a0 cy f0) → va_S A s.heap H locs → lv_has ls 5 [(3, .int l3_27), (0, .ref (a0 0)), (1, .int l1_27), (2, .int l2_27)] → W p l e rm_X6_between s mm args below meth cd H locs 0 0 Q (F0 mm 27 ls []) := by
      intro n27
      induction n27 with
      | zero => intro l3_27 l1_27 l2_27 H locs ls h; exact absurd h (by simp [G_X6_between_L27])
      | succ n27 ih27 =>
        intro l3_27 l1_27 l2_27 H locs ls h hP hD hS hl
        rw [G_X6_between_L27] at h
        refine lv_iload_n hx hb dX6_between_27 rfl (lv_at hl 0 rfl) ?_
        refine lv_aload_n hx hb dX6_between_28 rfl (lv_at hl 1 rfl) ?_
        refine va_getN (D := (dC, dI)) (ci := 0) (v := .int (f_corners f0)) (C := RX1) (T := TX1) (N := 6) hx hb htg inX1 hown hK hP 0 rfl rfl 1 (by decide) (va_Nw.use rfl (hN (.fieldLinkNest RX6 15 "SquaredPaper$Figure" "corners" "I" "SquaredPaper") (by decide +kernel))) (fun _ h9 => h9) rfl dX6_between_29 ?_
        refine lv_icmp_ge (tgt := 68) hx hb dX6_between_32 (by decide) (fun c32 => ?_) (fun c32 => ?_)
        · replace h := if_t h c32
          refine lv_aload_n hx hb dX6_between_68 rfl (lv_at hl 1 rfl) ?_
          refine lv_iload_n hx hb dX6_between_69 rfl (lv_at hl 2 rfl) ?_
          obtain ⟨v70, e70, h⟩ := bnd h
          refine cV (av := [.int l1_27]) (rest := []) (st1 := [.int v70]) (k1 := 0) (k2 := 0) (ci := 0) (q0 := 0) hx hb hml hown htg hN hK (c_X1_xOf l dC dI cy a0 f0 l1_27 v70 e70) (g_V gw416 gw241 gw242 gw60 gw243) hdV_X1_xOf rfl ⟨⟨Nat.le_of_ble_eq_true rfl, Nat.le_of_ble_eq_true rfl⟩, Nat.le_of_ble_eq_true rfl, Nat.le_of_ble_eq_true rfl⟩ hP hD hS hA ⟨rfl, rfl⟩ rfl [0, 1, 2, 3, 4] [] rfl rfl rfl (by decide) (by decide) hl.1 rfl (Nat.le_of_ble_eq_true rfl) rfl rfl rfl dX6_between_70 (fun H locs hP hD hS => ?_)
          have hP : va_P (dC, dI) vwCl (wFig a0 cy f0) H := hP
          have hD : va_D A (wFig a0 cy f0) := hD
          refine lv_aload_n hx hb dX6_between_73 rfl (lv_at hl 1 rfl) ?_
          refine lv_iload_n hx hb dX6_between_74 rfl (lv_at hl 3 rfl) ?_
          obtain ⟨v75, e75, h⟩ := bnd h
          refine cV (av := [.int l2_27]) (rest := [.int v70]) (st1 := [.int v75, .int v70]) (k1 := 0) (k2 := 0) (ci := 0) (q0 := 0) hx hb hml hown htg hN hK (c_X1_xOf l dC dI cy a0 f0 l2_27 v75 e75) (g_V gw416 gw241 gw242 gw60 gw243) hdV_X1_xOf rfl ⟨⟨Nat.le_of_ble_eq_true rfl, Nat.le_of_ble_eq_true rfl⟩, Nat.le_of_ble_eq_true rfl, Nat.le_of_ble_eq_true rfl⟩ hP hD hS hA ⟨rfl, rfl⟩ rfl [0, 1, 2, 3, 4] [] rfl rfl rfl (by decide) (by decide) hl.1 rfl (Nat.le_of_ble_eq_true rfl) rfl rfl rfl dX6_between_75 (fun H locs hP hD hS => ?_)
          have hP : va_P (dC, dI) vwCl (wFig a0 cy f0) H := hP
          have hD : va_D A (wFig a0 cy f0) := hD
          refine lv_iadd hx hb dX6_between_78 ?_
          refine lv_istore_n (lv' := [(3, .int (v70 + v75)), (0, .ref (a0 0)), (1, .int l1_27), (2, .int l2_27)]) hx hb dX6_between_79 rfl hl (by decide) rfl (fun ls hl => ?_)
          refine lv_aload_n hx hb dX6_between_80 rfl (lv_at hl 1 rfl) ?_
          refine lv_iload_n hx hb dX6_between_81 rfl (lv_at hl 2 rfl) ?_
          obtain ⟨v82, e82, h⟩ := bnd h
          refine cV (av := [.int l1_27]) (rest := []) (st1 := [.int v82]) (k1 := 0) (k2 := 0) (ci := 0) (q0 := 0) hx hb hml hown htg hN hK (c_X1_yOf l dC dI cy a0 f0 l1_27 v82 e82) (g_V gw417 gw248 gw249 gw60 gw250) hdV_X1_yOf rfl ⟨⟨Nat.le_of_ble_eq_true rfl, Nat.le_of_ble_eq_true rfl⟩, Nat.le_of_ble_eq_true rfl, Nat.le_of_ble_eq_true rfl⟩ hP hD hS hA ⟨rfl, rfl⟩ rfl [0, 1, 2, 3, 4] [] rfl rfl rfl (by decide) (by decide) hl.1 rfl (Nat.le_of_ble_eq_true rfl) rfl rfl rfl dX6_between_82 (fun H locs hP hD hS => ?_)
          have hP : va_P (dC, dI) vwCl (wFig a0 cy f0) H := hP
          have hD : va_D A (wFig a0 cy f0) := hD
          refine lv_aload_n hx hb dX6_between_85 rfl (lv_at hl 1 rfl) ?_
          refine lv_iload_n hx hb dX6_between_86 rfl (lv_at hl 3 rfl) ?_
          obtain ⟨v87, e87, h⟩ := bnd h
          refine cV (av := [.int l2_27]) (rest := [.int v82]) (st1 := [.int v87, .int v82]) (k1 := 0) (k2 := 0) (ci := 0) (q0 := 0) hx hb hml hown htg hN hK (c_X1_yOf l dC dI cy a0 f0 l2_27 v87 e87) (g_V gw417 gw248 gw249 gw60 gw250) hdV_X1_yOf rfl ⟨⟨Nat.le_of_ble_eq_true rfl, Nat.le_of_ble_eq_true rfl⟩, Nat.le_of_ble_eq_true rfl, Nat.le_of_ble_eq_true rfl⟩ hP hD hS hA ⟨rfl, rfl⟩ rfl [0, 1, 2, 3, 4] [] rfl rfl rfl (by decide) (by decide) hl.1 rfl (Nat.le_of_ble_eq_true rfl) rfl rfl rfl dX6_between_87 (fun H locs hP hD hS => ?_)
          have hP : va_P (dC, dI) vwCl (wFig a0 cy f0) H := hP
          have hD : va_D A (wFig a0 cy f0) := hD
          refine lv_iadd hx hb dX6_between_90 ?_
          refine lv_istore (lv' := [(4, .int (v82 + v87)), (3, .int (v70 + v75)), (0, .ref (a0 0)), (1, .int l1_27), (2, .int l2_27)]) hx hb dX6_between_91 hl (by decide) rfl (fun ls hl => ?_)
          refine lv_aload_n hx hb dX6_between_93 rfl (lv_at hl 2 rfl) ?_
          refine lv_iconst (v := 0) hx hb dX6_between_94 (by decide) ?_
          refine lv_iload_n hx hb dX6_between_95 rfl (lv_at hl 1 rfl) ?_
          refine lv_iload hx hb dX6_between_96 (lv_at hl 0 rfl) ?_
          obtain ⟨v98, e98, h⟩ := bnd h
          refine cV (av := [.int 0, .int (v70 + v75), .int (v82 + v87)]) (rest := []) (st1 := [.int v98]) (k1 := 0) (k2 := 0) (ci := 0) (q0 := 0) hx hb hml hown htg hN hK (c_X1_surrounds l dC dI cy a0 f0 0 (v70 + v75) (v82 + v87) v98 e98) (g_V gw418 gw298 gw299 gw60 gw300) hdV_X1_surrounds rfl ⟨⟨Nat.le_of_ble_eq_true rfl, Nat.le_of_ble_eq_true rfl⟩, Nat.le_of_ble_eq_true rfl, Nat.le_of_ble_eq_true rfl⟩ hP hD hS hA ⟨rfl, rfl⟩ rfl [0, 1, 2, 3, 4] [] rfl rfl rfl (by decide) (by decide) hl.1 rfl (Nat.le_of_ble_eq_true rfl) rfl rfl rfl dX6_between_98 (fun H locs hP hD hS => ?_)
          have hP : va_P (dC, dI) vwCl (wFig a0 cy f0) H := hP
          have hD : va_D A (wFig a0 cy f0) := hD
          refine lv_if_eq (tgt := 118) hx hb dX6_between_101 (by decide) (fun c101 => ?_) (fun c101 => ?_)
          · replace h := if_t h c101
            refine lv_iconst (v := 0) hx hb dX6_between_118 (by decide) ?_
            obtain rfl := Option.some.inj h
            exact hE H locs 119 ls _ hP hD hS rfl (Or.inl rfl) dX6_between_119
          replace h := if_f h c101
          refine lv_aload_n hx hb dX6_between_104 rfl (lv_at hl 2 rfl) ?_
          refine lv_iload_n hx hb dX6_between_105 rfl (lv_at hl 1 rfl) ?_
          refine lv_iload hx hb dX6_between_106 (lv_at hl 0 rfl) ?_
          obtain ⟨v108, e108, h⟩ := bnd h
          refine cV (av := [.int (v70 + v75), .int (v82 + v87)]) (rest := []) (st1 := [.int v108]) (k1 := 0) (k2 := 0) (ci := 0) (q0 := 0) hx hb hml hown htg hN hK (c_X1_inSomeHole l dC dI cy a0 f0 (v70 + v75) (v82 + v87) v108 e108) (g_V gw419 gw420 gw421 gw60 gw422) hdV_X1_inSomeHole rfl ⟨⟨Nat.le_of_ble_eq_true rfl, Nat.le_of_ble_eq_true rfl⟩, Nat.le_of_ble_eq_true rfl, Nat.le_of_ble_eq_true rfl⟩ hP hD hS hA ⟨rfl, rfl⟩ rfl [0, 1, 2, 3, 4] [] rfl rfl rfl (by decide) (by decide) hl.1 rfl (Nat.le_of_ble_eq_true rfl) rfl rfl rfl dX6_between_108 (fun H locs hP hD hS => ?_)
          have hP : va_P (dC, dI) vwCl (wFig a0 cy f0) H := hP
          have hD : va_D A (wFig a0 cy f0) := hD
          refine lv_if_ne (tgt := 118) hx hb dX6_between_111 (by decide) (fun c111 => ?_) (fun c111 => ?_)
          · replace h := if_f h c111
            refine lv_iconst (v := 0) hx hb dX6_between_118 (by decide) ?_
            obtain rfl := Option.some.inj h
            exact hE H locs 119 ls _ hP hD hS rfl (Or.inl rfl) dX6_between_119
          replace h := if_t h c111
          refine lv_iconst (v := 1) hx hb dX6_between_114 (by decide) ?_
          refine lv_goto (tgt := 119) hx hb dX6_between_115 (by decide) ?_
          obtain rfl := Option.some.inj h
          exact hE H locs 119 ls _ hP hD hS rfl (Or.inr rfl) dX6_between_119
        replace h := if_f h c32
        refine lv_aload_n hx hb dX6_between_35 rfl (lv_at hl 1 rfl) ?_
        refine lv_iload_n hx hb dX6_between_36 rfl (lv_at hl 0 rfl) ?_
        refine lv_iload_n hx hb dX6_between_37 rfl (lv_at hl 2 rfl) ?_
        refine lv_iload_n hx hb dX6_between_38 rfl (lv_at hl 3 rfl) ?_
        obtain ⟨v39, e39, h⟩ := bnd h
        refine cV (av := [.int l3_27, .int l1_27, .int l2_27]) (rest := []) (st1 := [.int v39]) (k1 := 0) (k2 := 0) (ci := 0) (q0 := 0) hx hb hml hown htg hN hK (c_X1_cornerOnLine l dC dI cy a0 f0 l3_27 l1_27 l2_27 v39 e39) (g_V gw414 gw280 gw281 gw60 gw282) hdV_X1_cornerOnLine rfl ⟨⟨Nat.le_of_ble_eq_true rfl, Nat.le_of_ble_eq_true rfl⟩, Nat.le_of_ble_eq_true rfl, Nat.le_of_ble_eq_true rfl⟩ hP hD hS hA ⟨rfl, rfl⟩ rfl [0, 1, 2, 3, 4] [] rfl rfl rfl (by decide) (by decide) hl.1 rfl (Nat.le_of_ble_eq_true rfl) rfl rfl rfl dX6_between_39 (fun H locs hP hD hS => ?_)
        have hP : va_P (dC, dI) vwCl (wFig a0 cy f0) H := hP
        have hD : va_D A (wFig a0 cy f0) := hD
        refine lv_if_ne (tgt := 60) hx hb dX6_between_42 (by decide) (fun c42 => ?_) (fun c42 => ?_)
        · replace h := if_f h c42
          refine lv_iconst (v := 0) hx hb dX6_between_60 (by decide) ?_
          obtain rfl := Option.some.inj h
          exact hE H locs 61 ls _ hP hD hS rfl (Or.inl rfl) dX6_between_61
        replace h := if_t h c42
        refine lv_aload_n hx hb dX6_between_45 rfl (lv_at hl 1 rfl) ?_
        refine lv_iload_n hx hb dX6_between_46 rfl (lv_at hl 2 rfl) ?_
        refine lv_iload_n hx hb dX6_between_47 rfl (lv_at hl 3 rfl) ?_
        refine lv_iload_n hx hb dX6_between_48 rfl (lv_at hl 0 rfl) ?_
        refine lv_aload_n hx hb dX6_between_49 rfl (lv_at hl 1 rfl) ?_
        refine lv_iload_n hx hb dX6_between_50 rfl (lv_at hl 0 rfl) ?_
        obtain ⟨v51, e51, h⟩ := bnd h
        refine cV (av := [.int l3_27]) (rest := [.int l3_27, .int l2_27, .int l1_27, .ref (a0 0)]) (st1 := [.int v51, .int l3_27, .int l2_27, .int l1_27, .ref (a0 0)]) (k1 := 0) (k2 := 0) (ci := 0) (q0 := 0) hx hb hml hown htg hN hK (c_X1_nextOf l dC dI cy a0 f0 l3_27 v51 e51) (g_V gw410 gw259 gw260 gw60 gw261) hdV_X1_nextOf rfl ⟨⟨Nat.le_of_ble_eq_true rfl, Nat.le_of_ble_eq_true rfl⟩, Nat.le_of_ble_eq_true rfl, Nat.le_of_ble_eq_true rfl⟩ hP hD hS hA ⟨rfl, rfl⟩ rfl [0, 1, 2, 3, 4] [] rfl rfl rfl (by decide) (by decide) hl.1 rfl (Nat.le_of_ble_eq_true rfl) rfl rfl rfl dX6_between_51 (fun H locs hP hD hS => ?_)
        have hP : va_P (dC, dI) vwCl (wFig a0 cy f0) H := hP
        have hD : va_D A (wFig a0 cy f0) := hD
        obtain ⟨v54, e54, h⟩ := bnd h
        refine cV (av := [.int l1_27, .int l2_27, .int l3_27, .int v51]) (rest := []) (st1 := [.int v54]) (k1 := 0) (k2 := 0) (ci := 0) (q0 := 0) hx hb hml hown htg hN hK (c_X1_linesCross l dC dI cy a0 f0 l1_27 l2_27 l3_27 v51 v54 e54) (g_V gw415 gw269 gw270 gw60 gw271) hdV_X1_linesCross rfl ⟨⟨Nat.le_of_ble_eq_true rfl, Nat.le_of_ble_eq_true rfl⟩, Nat.le_of_ble_eq_true rfl, Nat.le_of_ble_eq_true rfl⟩ hP hD hS hA ⟨rfl, rfl⟩ rfl [0, 1, 2, 3, 4] [] rfl rfl rfl (by decide) (by decide) hl.1 rfl (Nat.le_of_ble_eq_true rfl) rfl rfl rfl dX6_between_54 (fun H locs hP hD hS => ?_)
        have hP : va_P (dC, dI) vwCl (wFig a0 cy f0) H := hP
        have hD : va_D A (wFig a0 cy f0) := hD
        refine lv_if_eq (tgt := 62) hx hb dX6_between_57 (by decide) (fun c57 => ?_) (fun c57 => ?_)
        · replace h := if_t h c57
          refine lv_iinc (v := l3_27 + 1) (lv' := [(3, .int (l3_27 + 1)), (0, .ref (a0 0)), (1, .int l1_27), (2, .int l2_27)]) hx hb dX6_between_62 hl (k := 0) rfl rfl (by decide) rfl (fun ls hl => ?_)
          refine lv_goto (tgt := 27) hx hb dX6_between_65 (by decide) ?_
          exact ih27 (l3_27 + 1) l1_27 l2_27 H locs ls h hP hD hS (lv_sub hl [0, 1, 2, 3] rfl)
        replace h := if_f h c57
        refine lv_iconst (v := 0) hx hb dX6_between_60 (by decide) ?_
        obtain rfl := Option.some.inj h
        exact hE H locs 61 ls _ hP hD hS rfl (Or.inl rfl) dX6_between_61
    exact hL27 FU 0 p1 p2 H locs ls h hP hD hS (lv_sub hl [0, 1, 2, 3] rfl)
  replace h := if_t h c20
  refine lv_iconst (v := 0) hx hb dX6_between_23 (by decide) ?_
  obtain rfl := Option.some.inj h
  exact hE H locs 24 ls _ hP hD hS rfl (Or.inl rfl) dX6_between_24
def G_X6_isEar (f0 : Fig) (p1 : Int32) : Option (Int32) :=
  (G_X1_sizeOf f0 0).bind fun v2 =>
  if v2 ≤ 3 then
    some 0
  else
    (G_X2_kind f0 0 p1).bind fun v12 =>
    if v12 = 1 then
      (G_X1_priorOf f0 0 p1).bind fun v23 =>
      (G_X1_nextOf f0 p1).bind fun v28 =>
      (G_X6_between f0 v23 v28).bind fun v31 =>
      if v31 = 0 then
        some 0
      else
        some 1
    else
      some 0
abbrev rm_X6_isEar : Room := { frames := 4, cells := 0, slots := 0, locals := 101 }
theorem hdS_X6_isEar : yX6_isEar.cls ≠ "java/lang/invoke/MethodHandle" ∧ yX6_isEar.cls ≠ "java/lang/invoke/VarHandle" ∧ (parseMethodDescriptor yX6_isEar.desc).map (fun d => d.parameters.length) = some 2 := by decide +kernel
set_option maxHeartbeats 4000000 in
set_option maxRecDepth 100000 in
theorem c_X6_isEar (l : Launch) (dC : Nat → ClassId) (dI : Nat → Nat → Nat) (cy : Nat → ClassId) (a0 : Nat → Nat) (f0 : Fig) (p1 : Int32) (res : Int32) (h : G_X6_isEar f0 p1 = some res) : CT l (dC, dI) (TY cy) yX6_isEar cX6_isEar 2 (some .boolean) rm_X6_isEar [.ref (a0 0), .int p1] (wFig a0 cy f0) (wFig a0 cy f0) (some (.int res)) := by
  refine CT.mk_z (own := RX6) ⟨by decide, rfl⟩ (Nat.le_of_ble_eq_true rfl) ?_
  intro p e s mm args below meth cd A Q hx hb hml hown htg hN hK hA hP hD hS hE ls hl
  have hl : lv_has ls 2 [(0, .ref (a0 0)), (1, .int p1)] := hl
  replace h : _ = some res := h
  unfold G_X6_isEar at h
  obtain ⟨H, hH⟩ : ∃ H, H = s.heap := ⟨_, rfl⟩
  obtain ⟨locs, hlocs⟩ : ∃ locs : List Loc, locs = [] := ⟨_, rfl⟩
  rw [← hlocs] at hS ⊢
  have hS : va_S A s.heap H locs := by rw [hH]; exact hS
  rw [← hH] at hP ⊢
  refine lv_aload_n hx hb dX6_isEar_0 rfl (lv_at hl 0 rfl) ?_
  refine lv_iconst (v := 0) hx hb dX6_isEar_1 (by decide) ?_
  obtain ⟨v2, e2, h⟩ := bnd h
  refine cV (av := [.int 0]) (rest := []) (st1 := [.int v2]) (k1 := 0) (k2 := 0) (ci := 0) (q0 := 0) hx hb hml hown htg hN hK (c_X1_sizeOf l dC dI cy a0 f0 0 v2 e2) (g_V gw406 gw165 gw166 gw60 gw167) hdV_X1_sizeOf rfl ⟨⟨Nat.le_of_ble_eq_true rfl, Nat.le_of_ble_eq_true rfl⟩, Nat.le_of_ble_eq_true rfl, Nat.le_of_ble_eq_true rfl⟩ hP hD hS hA ⟨rfl, rfl⟩ rfl [0, 1, 2, 3, 4] [] rfl rfl rfl (by decide) (by decide) hl.1 rfl (Nat.le_of_ble_eq_true rfl) rfl rfl rfl dX6_isEar_2 (fun H locs hP hD hS => ?_)
  have hP : va_P (dC, dI) vwCl (wFig a0 cy f0) H := hP
  have hD : va_D A (wFig a0 cy f0) := hD
  refine lv_iconst (v := 3) hx hb dX6_isEar_5 (by decide) ?_
  refine lv_icmp_le (tgt := 41) hx hb dX6_isEar_6 (by decide) (fun c6 => ?_) (fun c6 => ?_)
  · replace h := if_t h c6
    refine lv_iconst (v := 0) hx hb dX6_isEar_41 (by decide) ?_
    obtain rfl := Option.some.inj h
    exact hE H locs 42 ls _ hP hD hS rfl (Or.inl rfl) dX6_isEar_42
  replace h := if_f h c6
  refine lv_aload_n hx hb dX6_isEar_9 rfl (lv_at hl 0 rfl) ?_
  refine lv_iconst (v := 0) hx hb dX6_isEar_10 (by decide) ?_
  refine lv_iload_n hx hb dX6_isEar_11 rfl (lv_at hl 1 rfl) ?_
  obtain ⟨v12, e12, h⟩ := bnd h
  refine cS (av := [.ref (a0 0), .int 0, .int p1]) (rest := []) (st1 := [.int v12]) (k1 := 0) (k2 := 0) hx hb hml hown htg hN hK (c_X2_kind l dC dI cy a0 f0 0 p1 v12 e12) (g_S gw560 gw393 gw72 gw394) hdS_X2_kind rfl ⟨⟨Nat.le_of_ble_eq_true rfl, Nat.le_of_ble_eq_true rfl⟩, Nat.le_of_ble_eq_true rfl, Nat.le_of_ble_eq_true rfl⟩ hP hD hS hA [0, 1, 2, 3, 4] [] rfl rfl rfl (by decide) (by decide) hl.1 rfl (Nat.le_of_ble_eq_true rfl) rfl rfl rfl dX6_isEar_12 (fun H locs hP hD hS => ?_)
  have hP : va_P (dC, dI) vwCl (wFig a0 cy f0) H := hP
  have hD : va_D A (wFig a0 cy f0) := hD
  refine lv_iconst (v := 1) hx hb dX6_isEar_15 (by decide) ?_
  refine lv_icmp_ne (tgt := 41) hx hb dX6_isEar_16 (by decide) (fun c16 => ?_) (fun c16 => ?_)
  · replace h := if_f h c16
    refine lv_iconst (v := 0) hx hb dX6_isEar_41 (by decide) ?_
    obtain rfl := Option.some.inj h
    exact hE H locs 42 ls _ hP hD hS rfl (Or.inl rfl) dX6_isEar_42
  replace h := if_t h c16
  refine lv_aload_n hx hb dX6_isEar_19 rfl (lv_at hl 0 rfl) ?_
  refine lv_aload_n hx hb dX6_isEar_20 rfl (lv_at hl 0 rfl) ?_
  refine lv_iconst (v := 0) hx hb dX6_isEar_21 (by decide) ?_
  refine lv_iload_n hx hb dX6_isEar_22 rfl (lv_at hl 1 rfl) ?_
  obtain ⟨v23, e23, h⟩ := bnd h
  refine cV (av := [.int 0, .int p1]) (rest := [.ref (a0 0)]) (st1 := [.int v23, .ref (a0 0)]) (k1 := 0) (k2 := 0) (ci := 0) (q0 := 0) hx hb hml hown htg hN hK (c_X1_priorOf l dC dI cy a0 f0 0 p1 v23 e23) (g_V gw561 gw400 gw401 gw60 gw402) hdV_X1_priorOf rfl ⟨⟨Nat.le_of_ble_eq_true rfl, Nat.le_of_ble_eq_true rfl⟩, Nat.le_of_ble_eq_true rfl, Nat.le_of_ble_eq_true rfl⟩ hP hD hS hA ⟨rfl, rfl⟩ rfl [0, 1, 2, 3, 4] [] rfl rfl rfl (by decide) (by decide) hl.1 rfl (Nat.le_of_ble_eq_true rfl) rfl rfl rfl dX6_isEar_23 (fun H locs hP hD hS => ?_)
  have hP : va_P (dC, dI) vwCl (wFig a0 cy f0) H := hP
  have hD : va_D A (wFig a0 cy f0) := hD
  refine lv_aload_n hx hb dX6_isEar_26 rfl (lv_at hl 0 rfl) ?_
  refine lv_iload_n hx hb dX6_isEar_27 rfl (lv_at hl 1 rfl) ?_
  obtain ⟨v28, e28, h⟩ := bnd h
  refine cV (av := [.int p1]) (rest := [.int v23, .ref (a0 0)]) (st1 := [.int v28, .int v23, .ref (a0 0)]) (k1 := 0) (k2 := 0) (ci := 0) (q0 := 0) hx hb hml hown htg hN hK (c_X1_nextOf l dC dI cy a0 f0 p1 v28 e28) (g_V gw410 gw259 gw260 gw60 gw261) hdV_X1_nextOf rfl ⟨⟨Nat.le_of_ble_eq_true rfl, Nat.le_of_ble_eq_true rfl⟩, Nat.le_of_ble_eq_true rfl, Nat.le_of_ble_eq_true rfl⟩ hP hD hS hA ⟨rfl, rfl⟩ rfl [0, 1, 2, 3, 4] [] rfl rfl rfl (by decide) (by decide) hl.1 rfl (Nat.le_of_ble_eq_true rfl) rfl rfl rfl dX6_isEar_28 (fun H locs hP hD hS => ?_)
  have hP : va_P (dC, dI) vwCl (wFig a0 cy f0) H := hP
  have hD : va_D A (wFig a0 cy f0) := hD
  obtain ⟨v31, e31, h⟩ := bnd h
  refine cS (av := [.ref (a0 0), .int v23, .int v28]) (rest := []) (st1 := [.int v31]) (k1 := 0) (k2 := 0) hx hb hml hown htg hN hK (c_X6_between l dC dI cy a0 f0 v23 v28 v31 e31) (g_S gw411 gw412 gw73 gw413) hdS_X6_between rfl ⟨⟨Nat.le_of_ble_eq_true rfl, Nat.le_of_ble_eq_true rfl⟩, Nat.le_of_ble_eq_true rfl, Nat.le_of_ble_eq_true rfl⟩ hP hD hS hA [0, 1, 2, 3, 4] [] rfl rfl rfl (by decide) (by decide) hl.1 rfl (Nat.le_of_ble_eq_true rfl) rfl rfl rfl dX6_isEar_31 (fun H locs hP hD hS => ?_)
  have hP : va_P (dC, dI) vwCl (wFig a0 cy f0) H := hP
  have hD : va_D A (wFig a0 cy f0) := hD
  refine lv_if_eq (tgt := 41) hx hb dX6_isEar_34 (by decide) (fun c34 => ?_) (fun c34 => ?_)
  · replace h := if_t h c34
    refine lv_iconst (v := 0) hx hb dX6_isEar_41 (by decide) ?_
    obtain rfl := Option.some.inj h
    exact hE H locs 42 ls _ hP hD hS rfl (Or.inl rfl) dX6_isEar_42
  replace h := if_f h c34
  refine lv_iconst (v := 1) hx hb dX6_isEar_37 (by decide) ?_
  refine lv_goto (tgt := 42) hx hb dX6_isEar_38 (by decide) ?_
  obtain rfl := Option.some.inj h
  exact hE H locs 42 ls _ hP hD hS rfl (Or.inr rfl) dX6_isEar_42
def G_X6_ears_j24 (r4 : Int32 → Int32 → Option (Int32)) (f0 : Fig) (l2_24 : Int32) (l1_24 : Int32) : Option (Int32) :=
  r4 (l2_24 + 1) l1_24
def G_X6_ears_L4  (f0 : Fig) : Nat → Int32 → Int32 → Option (Int32)
  | 0, _, _ => none
  | n4 + 1, l2_4, l1_4 =>
    (G_X1_sizeOf f0 0).bind fun v7 =>
    if v7 ≤ l2_4 then
      some l1_4
    else
      (G_X6_isEar f0 l2_4).bind fun v15 =>
      if v15 = 0 then
        G_X6_ears_j24 (G_X6_ears_L4 f0 n4) f0 l2_4 l1_4
      else
        G_X6_ears_j24 (G_X6_ears_L4 f0 n4) f0 l2_4 (l1_4 + 1)
def G_X6_ears (f0 : Fig) : Option (Int32) :=
  G_X6_ears_L4 f0 FU 0 0
abbrev rm_X6_ears : Room := { frames := 5, cells := 0, slots := 0, locals := 122 }
theorem hdS_X6_ears : yX6_ears.cls ≠ "java/lang/invoke/MethodHandle" ∧ yX6_ears.cls ≠ "java/lang/invoke/VarHandle" ∧ (parseMethodDescriptor yX6_ears.desc).map (fun d => d.parameters.length) = some 1 := by decide +kernel
set_option maxHeartbeats 4000000 in
set_option maxRecDepth 100000 in
theorem c_X6_ears (l : Launch) (dC : Nat → ClassId) (dI : Nat → Nat → Nat) (cy : Nat → ClassId) (a0 : Nat → Nat) (f0 : Fig) (res : Int32) (h : G_X6_ears f0 = some res) : CT l (dC, dI) (TY cy) yX6_ears cX6_ears 3 (some .int) rm_X6_ears [.ref (a0 0)] (wFig a0 cy f0) (wFig a0 cy f0) (some (.int res)) := by
  refine CT.mk_i (own := RX6) ⟨by decide, rfl⟩ (Nat.le_of_ble_eq_true rfl) ?_
  intro p e s mm args below meth cd A Q hx hb hml hown htg hN hK hA hP hD hS hE ls hl
  have hl : lv_has ls 3 [(0, .ref (a0 0))] := hl
  replace h : _ = some res := h
  unfold G_X6_ears at h
  obtain ⟨H, hH⟩ : ∃ H, H = s.heap := ⟨_, rfl⟩
  obtain ⟨locs, hlocs⟩ : ∃ locs : List Loc, locs = [] := ⟨_, rfl⟩
  rw [← hlocs] at hS ⊢
  have hS : va_S A s.heap H locs := by rw [hH]; exact hS
  rw [← hH] at hP ⊢
  refine lv_iconst (v := 0) hx hb dX6_ears_0 (by decide) ?_
  refine lv_istore_n (lv' := [(1, .int 0), (0, .ref (a0 0))]) hx hb dX6_ears_1 rfl hl (by decide) rfl (fun ls hl => ?_)
  refine lv_iconst (v := 0) hx hb dX6_ears_2 (by decide) ?_
  refine lv_istore_n (lv' := [(2, .int 0), (1, .int 0), (0, .ref (a0 0))]) hx hb dX6_ears_3 rfl hl (by decide) rfl (fun ls hl => ?_)
  have hL4 : ∀ (n4 : Nat) (l2_4 : Int32) (l1_4 : Int32) (H : Heap) (locs : List Loc) (ls : Array Slot), G_X6_ears_L4 f0 n4 l2_4 l1_4 = some res → va_P (dC, dI) vwCl (wFig a0 cy f0) H → va_D A (wFig a0 cy f0) → va_S A s.heap H locs → lv_has ls 3 [(2, .int l2_4), (1, .int l1_4), (0, .ref (a0 0))] → W p l e rm_X6_ears s mm args below meth cd H locs 0 0 Q (F0 mm 4 ls []) := by
    intro n4
    induction n4 with
    | zero => intro l2_4 l1_4 H locs ls h; exact absurd h (by simp [G_X6_ears_L4])
    | succ n4 ih4 =>
      intro l2_4 l1_4 H locs ls h hP hD hS hl
      rw [G_X6_ears_L4] at h
      refine lv_iload_n hx hb dX6_ears_4 rfl (lv_at hl 0 rfl) ?_
      refine lv_aload_n hx hb dX6_ears_5 rfl (lv_at hl 2 rfl) ?_
      refine lv_iconst (v := 0) hx hb dX6_ears_6 (by decide) ?_
      obtain ⟨v7, e7, h⟩ := bnd h
      refine cV (av := [.int 0]) (rest := [.int l2_4]) (st1 := [.int v7, .int l2_4]) (k1 := 0) (k2 := 0) (ci := 0) (q0 := 0) hx hb hml hown htg hN hK (c_X1_sizeOf l dC dI cy a0 f0 0 v7 e7) (g_V gw406 gw165 gw166 gw60 gw167) hdV_X1_sizeOf rfl ⟨⟨Nat.le_of_ble_eq_true rfl, Nat.le_of_ble_eq_true rfl⟩, Nat.le_of_ble_eq_true rfl, Nat.le_of_ble_eq_true rfl⟩ hP hD hS hA ⟨rfl, rfl⟩ rfl [0, 1, 2, 3, 4] [] rfl rfl rfl (by decide) (by decide) hl.1 rfl (Nat.le_of_ble_eq_true rfl) rfl rfl rfl dX6_ears_7 (fun H locs hP hD hS => ?_)
      have hP : va_P (dC, dI) vwCl (wFig a0 cy f0) H := hP
      have hD : va_D A (wFig a0 cy f0) := hD
      refine lv_icmp_ge (tgt := 30) hx hb dX6_ears_10 (by decide) (fun c10 => ?_) (fun c10 => ?_)
      · replace h := if_t h c10
        refine lv_iload_n hx hb dX6_ears_30 rfl (lv_at hl 1 rfl) ?_
        obtain rfl := Option.some.inj h
        exact hE H locs 31 ls _ hP hD hS rfl dX6_ears_31
      replace h := if_f h c10
      refine lv_aload_n hx hb dX6_ears_13 rfl (lv_at hl 2 rfl) ?_
      refine lv_iload_n hx hb dX6_ears_14 rfl (lv_at hl 0 rfl) ?_
      obtain ⟨v15, e15, h⟩ := bnd h
      refine cS (av := [.ref (a0 0), .int l2_4]) (rest := []) (st1 := [.int v15]) (k1 := 0) (k2 := 0) hx hb hml hown htg hN hK (c_X6_isEar l dC dI cy a0 f0 l2_4 v15 e15) (g_S gw557 gw558 gw73 gw559) hdS_X6_isEar rfl ⟨⟨Nat.le_of_ble_eq_true rfl, Nat.le_of_ble_eq_true rfl⟩, Nat.le_of_ble_eq_true rfl, Nat.le_of_ble_eq_true rfl⟩ hP hD hS hA [0, 1, 2, 3, 4] [] rfl rfl rfl (by decide) (by decide) hl.1 rfl (Nat.le_of_ble_eq_true rfl) rfl rfl rfl dX6_ears_15 (fun H locs hP hD hS => ?_)
      have hP : va_P (dC, dI) vwCl (wFig a0 cy f0) H := hP
      have hD : va_D A (wFig a0 cy f0) := hD
      have hj24 : ∀ (l2_24 : Int32) (l1_24 : Int32) (H : Heap) (locs : List Loc) (ls : Array Slot), G_X6_ears_j24 (G_X6_ears_L4 f0 n4) f0 l2_24 l1_24 = some res → va_P (dC, dI) vwCl (wFig a0 cy f0) H → va_D A (wFig a0 cy f0) → va_S A s.heap H locs → lv_has ls 3 [(2, .int l2_24), (1, .int l1_24), (0, .ref (a0 0))] → W p l e rm_X6_ears s mm args below meth cd H locs 0 0 Q (F0 mm 24 ls []) := by
        intro l2_24 l1_24 H locs ls h hP hD hS hl
        unfold G_X6_ears_j24 at h
        refine lv_iinc (v := l2_24 + 1) (lv' := [(2, .int (l2_24 + 1)), (1, .int l1_24), (0, .ref (a0 0))]) hx hb dX6_ears_24 hl (k := 0) rfl rfl (by decide) rfl (fun ls hl => ?_)
        refine lv_goto (tgt := 4) hx hb dX6_ears_27 (by decide) ?_
        exact ih4 (l2_24 + 1) l1_24 H locs ls h hP hD hS (lv_sub hl [0, 1, 2] rfl)
      refine lv_if_eq (tgt := 24) hx hb dX6_ears_18 (by decide) (fun c18 => ?_) (fun c18 => ?_)
      · replace h := if_t h c18
        exact hj24 l2_4 l1_4 H locs ls h hP hD hS (lv_sub hl [0, 1, 2] rfl)
      replace h := if_f h c18
      refine lv_iinc (v := l1_4 + 1) (lv' := [(1, .int (l1_4 + 1)), (2, .int l2_4), (0, .ref (a0 0))]) hx hb dX6_ears_21 hl (k := 1) rfl rfl (by decide) rfl (fun ls hl => ?_)
      exact hj24 l2_4 (l1_4 + 1) H locs ls h hP hD hS (lv_sub hl [1, 0, 2] rfl)
  exact hL4 FU 0 0 H locs ls h hP hD hS (lv_sub hl [0, 1, 2] rfl)
def G_X6_pairs_j31 (r14 : Int32 → Int32 → Int32 → Option (Int32)) (f0 : Fig) (l3_31 : Int32) (l2_31 : Int32) (l1_31 : Int32) : Option (Int32) :=
  r14 (l3_31 + 1) l2_31 l1_31
def G_X6_pairs_L14 (r4 : Int32 → Int32 → Option (Int32)) (f0 : Fig) : Nat → Int32 → Int32 → Int32 → Option (Int32)
  | 0, _, _, _ => none
  | n14 + 1, l3_14, l2_14, l1_14 =>
    if l2_14 ≤ l3_14 then
      r4 (l2_14 + 1) l1_14
    else
      (G_X6_between f0 l2_14 l3_14).bind fun v22 =>
      if v22 = 0 then
        G_X6_pairs_j31 (G_X6_pairs_L14 r4 f0 n14) f0 l3_14 l2_14 l1_14
      else
        G_X6_pairs_j31 (G_X6_pairs_L14 r4 f0 n14) f0 l3_14 l2_14 (l1_14 + 1)
def G_X6_pairs_L4  (f0 : Fig) : Nat → Int32 → Int32 → Option (Int32)
  | 0, _, _ => none
  | n4 + 1, l2_4, l1_4 =>
    if f_corners f0 ≤ l2_4 then
      some l1_4
    else
      G_X6_pairs_L14 (G_X6_pairs_L4 f0 n4) f0 FU 0 l2_4 l1_4
def G_X6_pairs (f0 : Fig) : Option (Int32) :=
  G_X6_pairs_L4 f0 FU 0 0
abbrev rm_X6_pairs : Room := { frames := 4, cells := 0, slots := 0, locals := 101 }
theorem hdS_X6_pairs : yX6_pairs.cls ≠ "java/lang/invoke/MethodHandle" ∧ yX6_pairs.cls ≠ "java/lang/invoke/VarHandle" ∧ (parseMethodDescriptor yX6_pairs.desc).map (fun d => d.parameters.length) = some 1 := by decide +kernel
set_option maxHeartbeats 4000000 in
set_option maxRecDepth 100000 in
theorem c_X6_pairs (l : Launch) (dC : Nat → ClassId) (dI : Nat → Nat → Nat) (cy : Nat → ClassId) (a0 : Nat → Nat) (f0 : Fig) (res : Int32) (h : G_X6_pairs f0 = some res) : CT l (dC, dI) (TY cy) yX6_pairs cX6_pairs 4 (some .int) rm_X6_pairs [.ref (a0 0)] (wFig a0 cy f0) (wFig a0 cy f0) (some (.int res)) := by
  refine CT.mk_i (own := RX6) ⟨by decide, rfl⟩ (Nat.le_of_ble_eq_true rfl) ?_
  intro p e s mm args below meth cd A Q hx hb hml hown htg hN hK hA hP hD hS hE ls hl
  have hl : lv_has ls 4 [(0, .ref (a0 0))] := hl
  replace h : _ = some res := h
  unfold G_X6_pairs at h
  obtain ⟨H, hH⟩ : ∃ H, H = s.heap := ⟨_, rfl⟩
  obtain ⟨locs, hlocs⟩ : ∃ locs : List Loc, locs = [] := ⟨_, rfl⟩
  rw [← hlocs] at hS ⊢
  have hS : va_S A s.heap H locs := by rw [hH]; exact hS
  rw [← hH] at hP ⊢
  refine lv_iconst (v := 0) hx hb dX6_pairs_0 (by decide) ?_
  refine lv_istore_n (lv' := [(1, .int 0), (0, .ref (a0 0))]) hx hb dX6_pairs_1 rfl hl (by decide) rfl (fun ls hl => ?_)
  refine lv_iconst (v := 0) hx hb dX6_pairs_2 (by decide) ?_
  refine lv_istore_n (lv' := [(2, .int 0), (1, .int 0), (0, .ref (a0 0))]) hx hb dX6_pairs_3 rfl hl (by decide) rfl (fun ls hl => ?_)
  have hL4 : ∀ (n4 : Nat) (l2_4 : Int32) (l1_4 : Int32) (H : Heap) (locs : List Loc) (ls : Array Slot), G_X6_pairs_L4 f0 n4 l2_4 l1_4 = some res → va_P (dC, dI) vwCl (wFig a0 cy f0) H → va_D A (wFig a0 cy f0) → va_S A s.heap H locs → lv_has ls 4 [(2, .int l2_4), (1, .int l1_4), (0, .ref (a0 0))] → W p l e rm_X6_pairs s mm args below meth cd H locs 0 0 Q (F0 mm 4 ls []) := by
    intro n4
    induction n4 with
    | zero => intro l2_4 l1_4 H locs ls h; exact absurd h (by simp [G_X6_pairs_L4])
    | succ n4 ih4 =>
      intro l2_4 l1_4 H locs ls h hP hD hS hl
      rw [G_X6_pairs_L4] at h
      refine lv_iload_n hx hb dX6_pairs_4 rfl (lv_at hl 0 rfl) ?_
      refine lv_aload_n hx hb dX6_pairs_5 rfl (lv_at hl 2 rfl) ?_
      refine va_getN (D := (dC, dI)) (ci := 0) (v := .int (f_corners f0)) (C := RX1) (T := TX1) (N := 6) hx hb htg inX1 hown hK hP 0 rfl rfl 1 (by decide) (va_Nw.use rfl (hN (.fieldLinkNest RX6 15 "SquaredPaper$Figure" "corners" "I" "SquaredPaper") (by decide +kernel))) (fun _ h9 => h9) rfl dX6_pairs_6 ?_
      refine lv_icmp_ge (tgt := 43) hx hb dX6_pairs_9 (by decide) (fun c9 => ?_) (fun c9 => ?_)
      · replace h := if_t h c9
        refine lv_iload_n hx hb dX6_pairs_43 rfl (lv_at hl 1 rfl) ?_
        obtain rfl := Option.some.inj h
        exact hE H locs 44 ls _ hP hD hS rfl dX6_pairs_44
      replace h := if_f h c9
      refine lv_iconst (v := 0) hx hb dX6_pairs_12 (by decide) ?_
      refine lv_istore_n (lv' := [(3, .int 0), (2, .int l2_4), (1, .int l1_4), (0, .ref (a0 0))]) hx hb dX6_pairs_13 rfl hl (by decide) rfl (fun ls hl => ?_)
      have hL14 : ∀ (n14 : Nat) (l3_14 : Int32) (l2_14 : Int32) (l1_14 : Int32) (H : Heap) (locs : List Loc) (ls : Array Slot), G_X6_pairs_L14 (G_X6_pairs_L4 f0 n4) f0 n14 l3_14 l2_14 l1_14 = some res → va_P (dC, dI) vwCl (wFig a0 cy f0) H → va_D A (wFig a0 cy f0) → va_S A s.heap H locs → lv_has ls 4 [(3, .int l3_14), (2, .int l2_14), (1, .int l1_14), (0, .ref (a0 0))] → W p l e rm_X6_pairs s mm args below meth cd H locs 0 0 Q (F0 mm 14 ls []) := by
        intro n14
        induction n14 with
        | zero => intro l3_14 l2_14 l1_14 H locs ls h; exact absurd h (by simp [G_X6_pairs_L14])
        | succ n14 ih14 =>
          intro l3_14 l2_14 l1_14 H locs ls h hP hD hS hl
          rw [G_X6_pairs_L14] at h
          refine lv_iload_n hx hb dX6_pairs_14 rfl (lv_at hl 0 rfl) ?_
          refine lv_iload_n hx hb dX6_pairs_15 rfl (lv_at hl 1 rfl) ?_
          refine lv_icmp_ge (tgt := 37) hx hb dX6_pairs_16 (by decide) (fun c16 => ?_) (fun c16 => ?_)
          · replace h := if_t h c16
            refine lv_iinc (v := l2_14 + 1) (lv' := [(2, .int (l2_14 + 1)), (3, .int l3_14), (1, .int l1_14), (0, .ref (a0 0))]) hx hb dX6_pairs_37 hl (k := 1) rfl rfl (by decide) rfl (fun ls hl => ?_)
            refine lv_goto (tgt := 4) hx hb dX6_pairs_40 (by decide) ?_
            exact ih4 (l2_14 + 1) l1_14 H locs ls h hP hD hS (lv_sub hl [0, 2, 3] rfl)
          replace h := if_f h c16
          refine lv_aload_n hx hb dX6_pairs_19 rfl (lv_at hl 3 rfl) ?_
          refine lv_iload_n hx hb dX6_pairs_20 rfl (lv_at hl 1 rfl) ?_
          refine lv_iload_n hx hb dX6_pairs_21 rfl (lv_at hl 0 rfl) ?_
          obtain ⟨v22, e22, h⟩ := bnd h
          refine cS (av := [.ref (a0 0), .int l2_14, .int l3_14]) (rest := []) (st1 := [.int v22]) (k1 := 0) (k2 := 0) hx hb hml hown htg hN hK (c_X6_between l dC dI cy a0 f0 l2_14 l3_14 v22 e22) (g_S gw411 gw412 gw73 gw413) hdS_X6_between rfl ⟨⟨Nat.le_of_ble_eq_true rfl, Nat.le_of_ble_eq_true rfl⟩, Nat.le_of_ble_eq_true rfl, Nat.le_of_ble_eq_true rfl⟩ hP hD hS hA [0, 1, 2, 3, 4] [] rfl rfl rfl (by decide) (by decide) hl.1 rfl (Nat.le_of_ble_eq_true rfl) rfl rfl rfl dX6_pairs_22 (fun H locs hP hD hS => ?_)
          have hP : va_P (dC, dI) vwCl (wFig a0 cy f0) H := hP
          have hD : va_D A (wFig a0 cy f0) := hD
          have hj31 : ∀ (l3_31 : Int32) (l2_31 : Int32) (l1_31 : Int32) (H : Heap) (locs : List Loc) (ls : Array Slot), G_X6_pairs_j31 (G_X6_pairs_L14 (G_X6_pairs_L4 f0 n4) f0 n14) f0 l3_31 l2_31 l1_31 = some res → va_P (dC, dI) vwCl (wFig a0 cy f0) H → va_D A (wFig a0 cy f0) → va_S A s.heap H locs → lv_has ls 4 [(3, .int l3_31), (2, .int l2_31), (1, .int l1_31), (0, .ref (a0 0))] → W p l e rm_X6_pairs s mm args below meth cd H locs 0 0 Q (F0 mm 31 ls []) := by
            intro l3_31 l2_31 l1_31 H locs ls h hP hD hS hl
            unfold G_X6_pairs_j31 at h
            refine lv_iinc (v := l3_31 + 1) (lv' := [(3, .int (l3_31 + 1)), (2, .int l2_31), (1, .int l1_31), (0, .ref (a0 0))]) hx hb dX6_pairs_31 hl (k := 0) rfl rfl (by decide) rfl (fun ls hl => ?_)
            refine lv_goto (tgt := 14) hx hb dX6_pairs_34 (by decide) ?_
            exact ih14 (l3_31 + 1) l2_31 l1_31 H locs ls h hP hD hS (lv_sub hl [0, 1, 2, 3] rfl)
          refine lv_if_eq (tgt := 31) hx hb dX6_pairs_25 (by decide) (fun c25 => ?_) (fun c25 => ?_)
          · replace h := if_t h c25
            exact hj31 l3_14 l2_14 l1_14 H locs ls h hP hD hS (lv_sub hl [0, 1, 2, 3] rfl)
          replace h := if_f h c25
          refine lv_iinc (v := l1_14 + 1) (lv' := [(1, .int (l1_14 + 1)), (3, .int l3_14), (2, .int l2_14), (0, .ref (a0 0))]) hx hb dX6_pairs_28 hl (k := 2) rfl rfl (by decide) rfl (fun ls hl => ?_)
          exact hj31 l3_14 l2_14 (l1_14 + 1) H locs ls h hP hD hS (lv_sub hl [1, 2, 0, 3] rfl)
      exact hL14 FU 0 l2_4 l1_4 H locs ls h hP hD hS (lv_sub hl [0, 1, 2, 3] rfl)
  exact hL4 FU 0 0 H locs ls h hP hD hS (lv_sub hl [0, 1, 2] rfl)
def G_X6_seenFrom_j24 (r4 : Int32 → Int32 → Int32 → Option (Int32)) (f0 : Fig) (l3_24 : Int32) (l2_24 : Int32) (l1_24 : Int32) : Option (Int32) :=
  r4 (l3_24 + 1) l2_24 l1_24
def G_X6_seenFrom_L4  (f0 : Fig) : Nat → Int32 → Int32 → Int32 → Option (Int32)
  | 0, _, _, _ => none
  | n4 + 1, l3_4, l2_4, l1_4 =>
    if f_corners f0 ≤ l3_4 then
      some l2_4
    else
      (G_X6_between f0 l1_4 l3_4).bind fun v15 =>
      if v15 = 0 then
        G_X6_seenFrom_j24 (G_X6_seenFrom_L4 f0 n4) f0 l3_4 l2_4 l1_4
      else
        G_X6_seenFrom_j24 (G_X6_seenFrom_L4 f0 n4) f0 l3_4 (l2_4 + 1) l1_4
def G_X6_seenFrom (f0 : Fig) (p1 : Int32) : Option (Int32) :=
  G_X6_seenFrom_L4 f0 FU 0 0 p1
abbrev rm_X6_seenFrom : Room := { frames := 4, cells := 0, slots := 0, locals := 101 }
theorem hdS_X6_seenFrom : yX6_seenFrom.cls ≠ "java/lang/invoke/MethodHandle" ∧ yX6_seenFrom.cls ≠ "java/lang/invoke/VarHandle" ∧ (parseMethodDescriptor yX6_seenFrom.desc).map (fun d => d.parameters.length) = some 2 := by decide +kernel
set_option maxHeartbeats 4000000 in
set_option maxRecDepth 100000 in
theorem c_X6_seenFrom (l : Launch) (dC : Nat → ClassId) (dI : Nat → Nat → Nat) (cy : Nat → ClassId) (a0 : Nat → Nat) (f0 : Fig) (p1 : Int32) (res : Int32) (h : G_X6_seenFrom f0 p1 = some res) : CT l (dC, dI) (TY cy) yX6_seenFrom cX6_seenFrom 4 (some .int) rm_X6_seenFrom [.ref (a0 0), .int p1] (wFig a0 cy f0) (wFig a0 cy f0) (some (.int res)) := by
  refine CT.mk_i (own := RX6) ⟨by decide, rfl⟩ (Nat.le_of_ble_eq_true rfl) ?_
  intro p e s mm args below meth cd A Q hx hb hml hown htg hN hK hA hP hD hS hE ls hl
  have hl : lv_has ls 4 [(0, .ref (a0 0)), (1, .int p1)] := hl
  replace h : _ = some res := h
  unfold G_X6_seenFrom at h
  obtain ⟨H, hH⟩ : ∃ H, H = s.heap := ⟨_, rfl⟩
  obtain ⟨locs, hlocs⟩ : ∃ locs : List Loc, locs = [] := ⟨_, rfl⟩
  rw [← hlocs] at hS ⊢
  have hS : va_S A s.heap H locs := by rw [hH]; exact hS
  rw [← hH] at hP ⊢
  refine lv_iconst (v := 0) hx hb dX6_seenFrom_0 (by decide) ?_
  refine lv_istore_n (lv' := [(2, .int 0), (0, .ref (a0 0)), (1, .int p1)]) hx hb dX6_seenFrom_1 rfl hl (by decide) rfl (fun ls hl => ?_)
  refine lv_iconst (v := 0) hx hb dX6_seenFrom_2 (by decide) ?_
  refine lv_istore_n (lv' := [(3, .int 0), (2, .int 0), (0, .ref (a0 0)), (1, .int p1)]) hx hb dX6_seenFrom_3 rfl hl (by decide) rfl (fun ls hl => ?_)
  have hL4 : ∀ (n4 : Nat) (l3_4 : Int32) (l2_4 : Int32) (l1_4 : Int32) (H : Heap) (locs : List Loc) (ls : Array Slot), G_X6_seenFrom_L4 f0 n4 l3_4 l2_4 l1_4 = some res → va_P (dC, dI) vwCl (wFig a0 cy f0) H → va_D A (wFig a0 cy f0) → va_S A s.heap H locs → lv_has ls 4 [(3, .int l3_4), (2, .int l2_4), (0, .ref (a0 0)), (1, .int l1_4)] → W p l e rm_X6_seenFrom s mm args below meth cd H locs 0 0 Q (F0 mm 4 ls []) := by
    intro n4
    induction n4 with
    | zero => intro l3_4 l2_4 l1_4 H locs ls h; exact absurd h (by simp [G_X6_seenFrom_L4])
    | succ n4 ih4 =>
      intro l3_4 l2_4 l1_4 H locs ls h hP hD hS hl
      rw [G_X6_seenFrom_L4] at h
      refine lv_iload_n hx hb dX6_seenFrom_4 rfl (lv_at hl 0 rfl) ?_
      refine lv_aload_n hx hb dX6_seenFrom_5 rfl (lv_at hl 2 rfl) ?_
      refine va_getN (D := (dC, dI)) (ci := 0) (v := .int (f_corners f0)) (C := RX1) (T := TX1) (N := 6) hx hb htg inX1 hown hK hP 0 rfl rfl 1 (by decide) (va_Nw.use rfl (hN (.fieldLinkNest RX6 15 "SquaredPaper$Figure" "corners" "I" "SquaredPaper") (by decide +kernel))) (fun _ h9 => h9) rfl dX6_seenFrom_6 ?_
      refine lv_icmp_ge (tgt := 30) hx hb dX6_seenFrom_9 (by decide) (fun c9 => ?_) (fun c9 => ?_)
      · replace h := if_t h c9
        refine lv_iload_n hx hb dX6_seenFrom_30 rfl (lv_at hl 1 rfl) ?_
        obtain rfl := Option.some.inj h
        exact hE H locs 31 ls _ hP hD hS rfl dX6_seenFrom_31
      replace h := if_f h c9
      refine lv_aload_n hx hb dX6_seenFrom_12 rfl (lv_at hl 2 rfl) ?_
      refine lv_iload_n hx hb dX6_seenFrom_13 rfl (lv_at hl 3 rfl) ?_
      refine lv_iload_n hx hb dX6_seenFrom_14 rfl (lv_at hl 0 rfl) ?_
      obtain ⟨v15, e15, h⟩ := bnd h
      refine cS (av := [.ref (a0 0), .int l1_4, .int l3_4]) (rest := []) (st1 := [.int v15]) (k1 := 0) (k2 := 0) hx hb hml hown htg hN hK (c_X6_between l dC dI cy a0 f0 l1_4 l3_4 v15 e15) (g_S gw411 gw412 gw73 gw413) hdS_X6_between rfl ⟨⟨Nat.le_of_ble_eq_true rfl, Nat.le_of_ble_eq_true rfl⟩, Nat.le_of_ble_eq_true rfl, Nat.le_of_ble_eq_true rfl⟩ hP hD hS hA [0, 1, 2, 3, 4] [] rfl rfl rfl (by decide) (by decide) hl.1 rfl (Nat.le_of_ble_eq_true rfl) rfl rfl rfl dX6_seenFrom_15 (fun H locs hP hD hS => ?_)
      have hP : va_P (dC, dI) vwCl (wFig a0 cy f0) H := hP
      have hD : va_D A (wFig a0 cy f0) := hD
      have hj24 : ∀ (l3_24 : Int32) (l2_24 : Int32) (l1_24 : Int32) (H : Heap) (locs : List Loc) (ls : Array Slot), G_X6_seenFrom_j24 (G_X6_seenFrom_L4 f0 n4) f0 l3_24 l2_24 l1_24 = some res → va_P (dC, dI) vwCl (wFig a0 cy f0) H → va_D A (wFig a0 cy f0) → va_S A s.heap H locs → lv_has ls 4 [(3, .int l3_24), (2, .int l2_24), (0, .ref (a0 0)), (1, .int l1_24)] → W p l e rm_X6_seenFrom s mm args below meth cd H locs 0 0 Q (F0 mm 24 ls []) := by
        intro l3_24 l2_24 l1_24 H locs ls h hP hD hS hl
        unfold G_X6_seenFrom_j24 at h
        refine lv_iinc (v := l3_24 + 1) (lv' := [(3, .int (l3_24 + 1)), (2, .int l2_24), (0, .ref (a0 0)), (1, .int l1_24)]) hx hb dX6_seenFrom_24 hl (k := 0) rfl rfl (by decide) rfl (fun ls hl => ?_)
        refine lv_goto (tgt := 4) hx hb dX6_seenFrom_27 (by decide) ?_
        exact ih4 (l3_24 + 1) l2_24 l1_24 H locs ls h hP hD hS (lv_sub hl [0, 1, 2, 3] rfl)
      refine lv_if_eq (tgt := 24) hx hb dX6_seenFrom_18 (by decide) (fun c18 => ?_) (fun c18 => ?_)
      · replace h := if_t h c18
        exact hj24 l3_4 l2_4 l1_4 H locs ls h hP hD hS (lv_sub hl [0, 1, 2, 3] rfl)
      replace h := if_f h c18
      refine lv_iinc (v := l2_4 + 1) (lv' := [(2, .int (l2_4 + 1)), (3, .int l3_4), (0, .ref (a0 0)), (1, .int l1_4)]) hx hb dX6_seenFrom_21 hl (k := 1) rfl rfl (by decide) rfl (fun ls hl => ?_)
      exact hj24 l3_4 (l2_4 + 1) l1_4 H locs ls h hP hD hS (lv_sub hl [1, 0, 2, 3] rfl)
  exact hL4 FU 0 0 p1 H locs ls h hP hD hS (lv_sub hl [0, 1, 2, 3] rfl)
