def G_L_next (N0 : Nat) (w0 : Nat → Int32) (p0 : Int32) : Option (Int32) :=
  (rd N0 w0 (1 + (p0 / 10))).bind fun v13 =>
  if (p0 - p0 / 10 * 10) + 1 = v13 then
    some (p0 - (p0 - p0 / 10 * 10))
  else
    some (p0 + 1)
abbrev rm_L_next : Room := { frames := 0, cells := 0, slots := 0, locals := 0 }
theorem hdS_L_next : yL_next.cls ≠ "java/lang/invoke/MethodHandle" ∧ yL_next.cls ≠ "java/lang/invoke/VarHandle" ∧ (parseMethodDescriptor yL_next.desc).map (fun d => d.parameters.length) = some 2 := by decide +kernel
set_option maxHeartbeats 4000000 in
set_option maxRecDepth 100000 in
theorem c_L_next (l : Launch) (dC : Nat → ClassId) (dI : Nat → Nat → Nat) (cy : Nat → ClassId) (a0 : Nat) (N0 : Nat) (w0 : Nat → Int32) (p0 : Int32) (res : Int32) (h : G_L_next N0 w0 p0 = some res) : CT l (dC, dI) (TY cy) yL_next cL_next 2 (some .int) rm_L_next [.int p0, .ref a0] (wIA a0 cy N0 w0) (wIA a0 cy N0 w0) (some (.int res)) := by
  refine CT.mk_i (own := RL) ⟨by decide, rfl⟩ (Nat.le_of_ble_eq_true rfl) ?_
  intro p e s mm args below meth cd A Q hx hb hml hown htg hN hK hA hP hD hS hE ls hl
  have hl : lv_has ls 2 [(0, .int p0), (1, .ref a0)] := hl
  replace h : _ = some res := h
  unfold G_L_next at h
  obtain ⟨H, hH⟩ : ∃ H, H = s.heap := ⟨_, rfl⟩
  obtain ⟨locs, hlocs⟩ : ∃ locs : List Loc, locs = [] := ⟨_, rfl⟩
  rw [← hlocs] at hS ⊢
  have hS : va_S A s.heap H locs := by rw [hH]; exact hS
  rw [← hH] at hP ⊢
  refine lv_iload_n hx hb dL_next_0 rfl (lv_at hl 0 rfl) ?_
  refine lv_bipush (v := 10) hx hb dL_next_1 (by decide) ?_
  refine lv_irem hx hb dL_next_3 (by decide) ?_
  refine lv_iconst (v := 1) hx hb dL_next_4 (by decide) ?_
  refine lv_iadd hx hb dL_next_5 ?_
  refine lv_aload_n hx hb dL_next_6 rfl (lv_at hl 1 rfl) ?_
  refine lv_iconst (v := 1) hx hb dL_next_7 (by decide) ?_
  refine lv_iload_n hx hb dL_next_8 rfl (lv_at hl 0 rfl) ?_
  refine lv_bipush (v := 10) hx hb dL_next_9 (by decide) ?_
  refine lv_idiv hx hb dL_next_11 (by decide) ?_
  refine lv_iadd hx hb dL_next_12 ?_
  obtain ⟨v13, e13, h⟩ := bnd h
  refine x_iald (v := v13) hx hb hK hP 0 0 rfl rfl e13 dL_next_13 ?_
  refine lv_icmp_ne (tgt := 26) hx hb dL_next_14 (by decide) (fun c14 => ?_) (fun c14 => ?_)
  · replace h := if_f h c14
    refine lv_iload_n hx hb dL_next_26 rfl (lv_at hl 0 rfl) ?_
    refine lv_iconst (v := 1) hx hb dL_next_27 (by decide) ?_
    refine lv_iadd hx hb dL_next_28 ?_
    obtain rfl := Option.some.inj h
    exact hE H locs 29 ls _ hP hD hS rfl dL_next_29
  replace h := if_t h c14
  refine lv_iload_n hx hb dL_next_17 rfl (lv_at hl 0 rfl) ?_
  refine lv_iload_n hx hb dL_next_18 rfl (lv_at hl 0 rfl) ?_
  refine lv_bipush (v := 10) hx hb dL_next_19 (by decide) ?_
  refine lv_irem hx hb dL_next_21 (by decide) ?_
  refine lv_isub hx hb dL_next_22 ?_
  refine lv_goto (tgt := 29) hx hb dL_next_23 (by decide) ?_
  obtain rfl := Option.some.inj h
  exact hE H locs 29 ls _ hP hD hS rfl dL_next_29
def G_L_sum_L9  (N0 : Nat) (N1 : Nat) (N2 : Nat) (w0 : Nat → Int32) (w1 : Nat → Int32) (w2 : Nat → Int32) : Nat → Int32 → Int32 → Int32 → Option (Int32)
  | 0, _, _, _ => none
  | n9 + 1, l5_9, l4_9, l0_9 =>
    (rd N0 w0 (1 + l0_9)).bind fun v19 =>
    if (10 * l0_9) + v19 ≤ l5_9 then
      some l4_9
    else
      (rd N1 w1 l5_9).bind fun v29 =>
      (G_L_next N0 w0 l5_9).bind fun v34 =>
      (rd N1 w1 v34).bind fun v37 =>
      (G_L_next N0 w0 l5_9).bind fun v43 =>
      (rd N2 w2 v43).bind fun v46 =>
      (rd N2 w2 l5_9).bind fun v50 =>
      (G_L_sum_L9 N0 N1 N2 w0 w1 w2 n9) (l5_9 + 1) (l4_9 + ((v29 + v37) * (v46 - v50))) l0_9
def G_L_sum (N0 : Nat) (N1 : Nat) (N2 : Nat) (w0 : Nat → Int32) (w1 : Nat → Int32) (w2 : Nat → Int32) (p0 : Int32) : Option (Int32) :=
  G_L_sum_L9 N0 N1 N2 w0 w1 w2 FU (10 * p0) 0 p0
abbrev rm_L_sum : Room := { frames := 1, cells := 0, slots := 0, locals := 21 }
theorem hdS_L_sum : yL_sum.cls ≠ "java/lang/invoke/MethodHandle" ∧ yL_sum.cls ≠ "java/lang/invoke/VarHandle" ∧ (parseMethodDescriptor yL_sum.desc).map (fun d => d.parameters.length) = some 4 := by decide +kernel
set_option maxHeartbeats 4000000 in
set_option maxRecDepth 100000 in
theorem c_L_sum (l : Launch) (dC : Nat → ClassId) (dI : Nat → Nat → Nat) (cy : Nat → ClassId) (a0 : Nat) (a1 : Nat) (a2 : Nat) (N0 : Nat) (N1 : Nat) (N2 : Nat) (w0 : Nat → Int32) (w1 : Nat → Int32) (w2 : Nat → Int32) (p0 : Int32) (res : Int32) (h : G_L_sum N0 N1 N2 w0 w1 w2 p0 = some res) : CT l (dC, dI) (TY cy) yL_sum cL_sum 6 (some .int) rm_L_sum [.int p0, .ref a0, .ref a1, .ref a2] (wIA a0 cy N0 w0 ++ wIA a1 cy N1 w1 ++ wIA a2 cy N2 w2) (wIA a0 cy N0 w0 ++ wIA a1 cy N1 w1 ++ wIA a2 cy N2 w2) (some (.int res)) := by
  refine CT.mk_i (own := RL) ⟨by decide, rfl⟩ (Nat.le_of_ble_eq_true rfl) ?_
  intro p e s mm args below meth cd A Q hx hb hml hown htg hN hK hA hP hD hS hE ls hl
  have hl : lv_has ls 6 [(0, .int p0), (1, .ref a0), (2, .ref a1), (3, .ref a2)] := hl
  replace h : _ = some res := h
  unfold G_L_sum at h
  obtain ⟨H, hH⟩ : ∃ H, H = s.heap := ⟨_, rfl⟩
  obtain ⟨locs, hlocs⟩ : ∃ locs : List Loc, locs = [] := ⟨_, rfl⟩
  rw [← hlocs] at hS ⊢
  have hS : va_S A s.heap H locs := by rw [hH]; exact hS
  rw [← hH] at hP ⊢
  refine lv_iconst (v := 0) hx hb dL_sum_0 (by decide) ?_
  refine lv_istore (lv' := [(4, .int 0), (0, .int p0), (1, .ref a0), (2, .ref a1), (3, .ref a2)]) hx hb dL_sum_1 hl (by decide) rfl (fun ls hl => ?_)
  refine lv_bipush (v := 10) hx hb dL_sum_3 (by decide) ?_
  refine lv_iload_n hx hb dL_sum_5 rfl (lv_at hl 1 rfl) ?_
  refine lv_imul hx hb dL_sum_6 ?_
  refine lv_istore (lv' := [(5, .int (10 * p0)), (4, .int 0), (0, .int p0), (1, .ref a0), (2, .ref a1), (3, .ref a2)]) hx hb dL_sum_7 hl (by decide) rfl (fun ls hl => ?_)
  have hL9 : ∀ (n9 : Nat) (l5_9 : Int32) (l4_9 : Int32) (l0_9 : Int32) (H : Heap) (locs : List Loc) (ls : Array Slot), G_L_sum_L9 N0 N1 N2 w0 w1 w2 n9 l5_9 l4_9 l0_9 = some res → va_P (dC, dI) vwCl (wIA a0 cy N0 w0 ++ wIA a1 cy N1 w1 ++ wIA a2 cy N2 w2) H → va_D A (wIA a0 cy N0 w0 ++ wIA a1 cy N1 w1 ++ wIA a2 cy N2 w2) → va_S A s.heap H locs → lv_has ls 6 [(5, .int l5_9), (4, .int l4_9), (0, .int l0_9), (1, .ref a0), (2, .ref a1), (3, .ref a2)] → W p l e rm_L_sum s mm args below meth cd H locs 0 0 Q (F0 mm 9 ls []) := by
    intro n9
    induction n9 with
    | zero => intro l5_9 l4_9 l0_9 H locs ls h; exact absurd h (by simp [G_L_sum_L9])
    | succ n9 ih9 =>
      intro l5_9 l4_9 l0_9 H locs ls h hP hD hS hl
      rw [G_L_sum_L9] at h
      refine lv_iload hx hb dL_sum_9 (lv_at hl 0 rfl) ?_
      refine lv_bipush (v := 10) hx hb dL_sum_11 (by decide) ?_
      refine lv_iload_n hx hb dL_sum_13 rfl (lv_at hl 2 rfl) ?_
      refine lv_imul hx hb dL_sum_14 ?_
      refine lv_aload_n hx hb dL_sum_15 rfl (lv_at hl 3 rfl) ?_
      refine lv_iconst (v := 1) hx hb dL_sum_16 (by decide) ?_
      refine lv_iload_n hx hb dL_sum_17 rfl (lv_at hl 2 rfl) ?_
      refine lv_iadd hx hb dL_sum_18 ?_
      obtain ⟨v19, e19, h⟩ := bnd h
      refine x_iald (v := v19) hx hb hK hP 0 0 rfl rfl e19 dL_sum_19 ?_
      refine lv_iadd hx hb dL_sum_20 ?_
      refine lv_icmp_ge (tgt := 62) hx hb dL_sum_21 (by decide) (fun c21 => ?_) (fun c21 => ?_)
      · replace h := if_t h c21
        refine lv_iload hx hb dL_sum_62 (lv_at hl 1 rfl) ?_
        obtain rfl := Option.some.inj h
        exact hE H locs 64 ls _ hP hD hS rfl dL_sum_64
      replace h := if_f h c21
      refine lv_iload hx hb dL_sum_24 (lv_at hl 1 rfl) ?_
      refine lv_aload_n hx hb dL_sum_26 rfl (lv_at hl 4 rfl) ?_
      refine lv_iload hx hb dL_sum_27 (lv_at hl 0 rfl) ?_
      obtain ⟨v29, e29, h⟩ := bnd h
      refine x_iald (v := v29) hx hb hK hP 1 0 rfl rfl e29 dL_sum_29 ?_
      refine lv_aload_n hx hb dL_sum_30 rfl (lv_at hl 4 rfl) ?_
      refine lv_iload hx hb dL_sum_31 (lv_at hl 0 rfl) ?_
      refine lv_aload_n hx hb dL_sum_33 rfl (lv_at hl 3 rfl) ?_
      obtain ⟨v34, e34, h⟩ := bnd h
      refine cS (av := [.int l5_9, .ref a0]) (rest := [.ref a1, .int v29, .int l4_9]) (st1 := [.int v34, .ref a1, .int v29, .int l4_9]) (k1 := 0) (k2 := 0) hx hb hml hown htg hN hK (c_L_next l dC dI cy a0 N0 w0 l5_9 v34 e34) (g_S gw456 gw457 gw6 gw458) hdS_L_next rfl ⟨⟨Nat.le_of_ble_eq_true rfl, Nat.le_of_ble_eq_true rfl⟩, Nat.le_of_ble_eq_true rfl, Nat.le_of_ble_eq_true rfl⟩ hP hD hS hA [0] [1, 2] rfl rfl rfl (by decide) (by decide) hl.1 rfl (Nat.le_of_ble_eq_true rfl) rfl rfl rfl dL_sum_34 (fun H locs hP hD hS => ?_)
      obtain ⟨hP, hD⟩ := x_perm (ws' := wIA a0 cy N0 w0 ++ wIA a1 cy N1 w1 ++ wIA a2 cy N2 w2) hP hD [2, 0, 1] (by decide) rfl rfl
      obtain ⟨v37, e37, h⟩ := bnd h
      refine x_iald (v := v37) hx hb hK hP 1 0 rfl rfl e37 dL_sum_37 ?_
      refine lv_iadd hx hb dL_sum_38 ?_
      refine lv_aload_n hx hb dL_sum_39 rfl (lv_at hl 5 rfl) ?_
      refine lv_iload hx hb dL_sum_40 (lv_at hl 0 rfl) ?_
      refine lv_aload_n hx hb dL_sum_42 rfl (lv_at hl 3 rfl) ?_
      obtain ⟨v43, e43, h⟩ := bnd h
      refine cS (av := [.int l5_9, .ref a0]) (rest := [.ref a2, .int (v29 + v37), .int l4_9]) (st1 := [.int v43, .ref a2, .int (v29 + v37), .int l4_9]) (k1 := 0) (k2 := 0) hx hb hml hown htg hN hK (c_L_next l dC dI cy a0 N0 w0 l5_9 v43 e43) (g_S gw456 gw457 gw6 gw458) hdS_L_next rfl ⟨⟨Nat.le_of_ble_eq_true rfl, Nat.le_of_ble_eq_true rfl⟩, Nat.le_of_ble_eq_true rfl, Nat.le_of_ble_eq_true rfl⟩ hP hD hS hA [0] [1, 2] rfl rfl rfl (by decide) (by decide) hl.1 rfl (Nat.le_of_ble_eq_true rfl) rfl rfl rfl dL_sum_43 (fun H locs hP hD hS => ?_)
      obtain ⟨hP, hD⟩ := x_perm (ws' := wIA a0 cy N0 w0 ++ wIA a1 cy N1 w1 ++ wIA a2 cy N2 w2) hP hD [2, 0, 1] (by decide) rfl rfl
      obtain ⟨v46, e46, h⟩ := bnd h
      refine x_iald (v := v46) hx hb hK hP 2 0 rfl rfl e46 dL_sum_46 ?_
      refine lv_aload_n hx hb dL_sum_47 rfl (lv_at hl 5 rfl) ?_
      refine lv_iload hx hb dL_sum_48 (lv_at hl 0 rfl) ?_
      obtain ⟨v50, e50, h⟩ := bnd h
      refine x_iald (v := v50) hx hb hK hP 2 0 rfl rfl e50 dL_sum_50 ?_
      refine lv_isub hx hb dL_sum_51 ?_
      refine lv_imul hx hb dL_sum_52 ?_
      refine lv_iadd hx hb dL_sum_53 ?_
      refine lv_istore (lv' := [(4, .int (l4_9 + ((v29 + v37) * (v46 - v50)))), (5, .int l5_9), (0, .int l0_9), (1, .ref a0), (2, .ref a1), (3, .ref a2)]) hx hb dL_sum_54 hl (by decide) rfl (fun ls hl => ?_)
      refine lv_iinc (v := l5_9 + 1) (lv' := [(5, .int (l5_9 + 1)), (4, .int (l4_9 + ((v29 + v37) * (v46 - v50)))), (0, .int l0_9), (1, .ref a0), (2, .ref a1), (3, .ref a2)]) hx hb dL_sum_56 hl (k := 1) rfl rfl (by decide) rfl (fun ls hl => ?_)
      refine lv_goto (tgt := 9) hx hb dL_sum_59 (by decide) ?_
      exact ih9 (l5_9 + 1) (l4_9 + ((v29 + v37) * (v46 - v50))) l0_9 H locs ls h hP hD hS (lv_sub hl [0, 1, 2, 3, 4, 5] rfl)
  exact hL9 FU (10 * p0) 0 p0 H locs ls h hP hD hS (lv_sub hl [0, 1, 2, 3, 4, 5] rfl)
def G_L_area_L5  (N0 : Nat) (N1 : Nat) (N2 : Nat) (w0 : Nat → Int32) (w1 : Nat → Int32) (w2 : Nat → Int32) : Nat → Int32 → Int32 → Option (Int32)
  | 0, _, _ => none
  | n5 + 1, l4_5, l3_5 =>
    (rd N0 w0 0).bind fun v9 =>
    if v9 ≤ l4_5 then
      some l3_5
    else
      (G_L_sum N0 N1 N2 w0 w1 w2 l4_5).bind fun v18 =>
      ((if 0 ≤ v18 then
          some v18
        else
          some (-v18)) : Option (Int32)).bind fun b26 =>
      ((if l4_5 = 0 then
          some 1
        else
          some (-1)) : Option (Int32)).bind fun b39 =>
      (G_L_area_L5 N0 N1 N2 w0 w1 w2 n5) (l4_5 + 1) (l3_5 + (b26 * b39))
def G_L_area (N0 : Nat) (N1 : Nat) (N2 : Nat) (w0 : Nat → Int32) (w1 : Nat → Int32) (w2 : Nat → Int32) : Option (Int32) :=
  G_L_area_L5 N0 N1 N2 w0 w1 w2 FU 0 0
abbrev rm_L_area : Room := { frames := 2, cells := 0, slots := 0, locals := 46 }
theorem hdS_L_area : yL_area.cls ≠ "java/lang/invoke/MethodHandle" ∧ yL_area.cls ≠ "java/lang/invoke/VarHandle" ∧ (parseMethodDescriptor yL_area.desc).map (fun d => d.parameters.length) = some 3 := by decide +kernel
set_option maxHeartbeats 4000000 in
set_option maxRecDepth 100000 in
theorem c_L_area (l : Launch) (dC : Nat → ClassId) (dI : Nat → Nat → Nat) (cy : Nat → ClassId) (a0 : Nat) (a1 : Nat) (a2 : Nat) (N0 : Nat) (N1 : Nat) (N2 : Nat) (w0 : Nat → Int32) (w1 : Nat → Int32) (w2 : Nat → Int32) (res : Int32) (h : G_L_area N0 N1 N2 w0 w1 w2 = some res) : CT l (dC, dI) (TY cy) yL_area cL_area 6 (some .int) rm_L_area [.ref a0, .ref a1, .ref a2] (wIA a0 cy N0 w0 ++ wIA a1 cy N1 w1 ++ wIA a2 cy N2 w2) (wIA a0 cy N0 w0 ++ wIA a1 cy N1 w1 ++ wIA a2 cy N2 w2) (some (.int res)) := by
  refine CT.mk_i (own := RL) ⟨by decide, rfl⟩ (Nat.le_of_ble_eq_true rfl) ?_
  intro p e s mm args below meth cd A Q hx hb hml hown htg hN hK hA hP hD hS hE ls hl
  have hl : lv_has ls 6 [(0, .ref a0), (1, .ref a1), (2, .ref a2)] := hl
  replace h : _ = some res := h
  unfold G_L_area at h
  obtain ⟨H, hH⟩ : ∃ H, H = s.heap := ⟨_, rfl⟩
  obtain ⟨locs, hlocs⟩ : ∃ locs : List Loc, locs = [] := ⟨_, rfl⟩
  rw [← hlocs] at hS ⊢
  have hS : va_S A s.heap H locs := by rw [hH]; exact hS
  rw [← hH] at hP ⊢
  refine lv_iconst (v := 0) hx hb dL_area_0 (by decide) ?_
  refine lv_istore_n (lv' := [(3, .int 0), (0, .ref a0), (1, .ref a1), (2, .ref a2)]) hx hb dL_area_1 rfl hl (by decide) rfl (fun ls hl => ?_)
  refine lv_iconst (v := 0) hx hb dL_area_2 (by decide) ?_
  refine lv_istore (lv' := [(4, .int 0), (3, .int 0), (0, .ref a0), (1, .ref a1), (2, .ref a2)]) hx hb dL_area_3 hl (by decide) rfl (fun ls hl => ?_)
  have hL5 : ∀ (n5 : Nat) (l4_5 : Int32) (l3_5 : Int32) (H : Heap) (locs : List Loc) (ls : Array Slot), G_L_area_L5 N0 N1 N2 w0 w1 w2 n5 l4_5 l3_5 = some res → va_P (dC, dI) vwCl (wIA a0 cy N0 w0 ++ wIA a1 cy N1 w1 ++ wIA a2 cy N2 w2) H → va_D A (wIA a0 cy N0 w0 ++ wIA a1 cy N1 w1 ++ wIA a2 cy N2 w2) → va_S A s.heap H locs → lv_has ls 6 [(4, .int l4_5), (3, .int l3_5), (0, .ref a0), (1, .ref a1), (2, .ref a2)] → W p l e rm_L_area s mm args below meth cd H locs 0 0 Q (F0 mm 5 ls []) := by
    intro n5
    induction n5 with
    | zero => intro l4_5 l3_5 H locs ls h; exact absurd h (by simp [G_L_area_L5])
    | succ n5 ih5 =>
      intro l4_5 l3_5 H locs ls h hP hD hS hl
      rw [G_L_area_L5] at h
      refine lv_iload hx hb dL_area_5 (lv_at hl 0 rfl) ?_
      refine lv_aload_n hx hb dL_area_7 rfl (lv_at hl 2 rfl) ?_
      refine lv_iconst (v := 0) hx hb dL_area_8 (by decide) ?_
      obtain ⟨v9, e9, h⟩ := bnd h
      refine x_iald (v := v9) hx hb hK hP 0 0 rfl rfl e9 dL_area_9 ?_
      refine lv_icmp_ge (tgt := 56) hx hb dL_area_10 (by decide) (fun c10 => ?_) (fun c10 => ?_)
      · replace h := if_t h c10
        refine lv_iload_n hx hb dL_area_56 rfl (lv_at hl 1 rfl) ?_
        obtain rfl := Option.some.inj h
        exact hE H locs 57 ls _ hP hD hS rfl dL_area_57
      replace h := if_f h c10
      refine lv_iload hx hb dL_area_13 (lv_at hl 0 rfl) ?_
      refine lv_aload_n hx hb dL_area_15 rfl (lv_at hl 2 rfl) ?_
      refine lv_aload_n hx hb dL_area_16 rfl (lv_at hl 3 rfl) ?_
      refine lv_aload_n hx hb dL_area_17 rfl (lv_at hl 4 rfl) ?_
      obtain ⟨v18, e18, h⟩ := bnd h
      refine cS (av := [.int l4_5, .ref a0, .ref a1, .ref a2]) (rest := []) (st1 := [.int v18]) (k1 := 0) (k2 := 0) hx hb hml hown htg hN hK (c_L_sum l dC dI cy a0 a1 a2 N0 N1 N2 w0 w1 w2 l4_5 v18 e18) (g_S gw474 gw475 gw6 gw476) hdS_L_sum rfl ⟨⟨Nat.le_of_ble_eq_true rfl, Nat.le_of_ble_eq_true rfl⟩, Nat.le_of_ble_eq_true rfl, Nat.le_of_ble_eq_true rfl⟩ hP hD hS hA [0, 1, 2] [] rfl rfl rfl (by decide) (by decide) hl.1 rfl (Nat.le_of_ble_eq_true rfl) rfl rfl rfl dL_area_18 (fun H locs hP hD hS => ?_)
      have hP : va_P (dC, dI) vwCl (wIA a0 cy N0 w0 ++ wIA a1 cy N1 w1 ++ wIA a2 cy N2 w2) H := hP
      have hD : va_D A (wIA a0 cy N0 w0 ++ wIA a1 cy N1 w1 ++ wIA a2 cy N2 w2) := hD
      refine lv_istore (lv' := [(5, .int v18), (4, .int l4_5), (3, .int l3_5), (0, .ref a0), (1, .ref a1), (2, .ref a2)]) hx hb dL_area_21 hl (by decide) rfl (fun ls hl => ?_)
      refine lv_iload_n hx hb dL_area_23 rfl (lv_at hl 2 rfl) ?_
      refine lv_iload hx hb dL_area_24 (lv_at hl 0 rfl) ?_
      obtain ⟨b26, e26, h⟩ := bnd h
      have hr37 : ∀ (H : Heap) (locs : List Loc) (ls : Array Slot), va_P (dC, dI) vwCl (wIA a0 cy N0 w0 ++ wIA a1 cy N1 w1 ++ wIA a2 cy N2 w2) H → va_D A (wIA a0 cy N0 w0 ++ wIA a1 cy N1 w1 ++ wIA a2 cy N2 w2) → va_S A s.heap H locs → lv_has ls 6 [(5, .int v18), (4, .int l4_5), (3, .int l3_5), (0, .ref a0), (1, .ref a1), (2, .ref a2)] → W p l e rm_L_area s mm args below meth cd H locs 0 0 Q (F0 mm 37 ls [.int b26, .int l3_5]) := by
        intro H locs ls hP hD hS hl
        refine lv_iload hx hb dL_area_37 (lv_at hl 1 rfl) ?_
        obtain ⟨b39, e39, h⟩ := bnd h
        have hr47 : ∀ (H : Heap) (locs : List Loc) (ls : Array Slot), va_P (dC, dI) vwCl (wIA a0 cy N0 w0 ++ wIA a1 cy N1 w1 ++ wIA a2 cy N2 w2) H → va_D A (wIA a0 cy N0 w0 ++ wIA a1 cy N1 w1 ++ wIA a2 cy N2 w2) → va_S A s.heap H locs → lv_has ls 6 [(5, .int v18), (4, .int l4_5), (3, .int l3_5), (0, .ref a0), (1, .ref a1), (2, .ref a2)] → W p l e rm_L_area s mm args below meth cd H locs 0 0 Q (F0 mm 47 ls [.int b39, .int b26, .int l3_5]) := by
          intro H locs ls hP hD hS hl
          refine lv_imul hx hb dL_area_47 ?_
          refine lv_iadd hx hb dL_area_48 ?_
          refine lv_istore_n (lv' := [(3, .int (l3_5 + (b26 * b39))), (5, .int v18), (4, .int l4_5), (0, .ref a0), (1, .ref a1), (2, .ref a2)]) hx hb dL_area_49 rfl hl (by decide) rfl (fun ls hl => ?_)
          refine lv_iinc (v := l4_5 + 1) (lv' := [(4, .int (l4_5 + 1)), (3, .int (l3_5 + (b26 * b39))), (5, .int v18), (0, .ref a0), (1, .ref a1), (2, .ref a2)]) hx hb dL_area_50 hl (k := 2) rfl rfl (by decide) rfl (fun ls hl => ?_)
          refine lv_goto (tgt := 5) hx hb dL_area_53 (by decide) ?_
          exact ih5 (l4_5 + 1) (l3_5 + (b26 * b39)) H locs ls h hP hD hS (lv_sub hl [0, 1, 3, 4, 5] rfl)
        have h := e39
        clear e39
        refine lv_if_ne (tgt := 46) hx hb dL_area_39 (by decide) (fun c39 => ?_) (fun c39 => ?_)
        · replace h := if_f h c39
          refine lv_iconst (v := (-1)) hx hb dL_area_46 (by decide) ?_
          obtain rfl := Option.some.inj h
          exact hr47 H locs ls hP hD hS hl
        replace h := if_t h c39
        refine lv_iconst (v := 1) hx hb dL_area_42 (by decide) ?_
        refine lv_goto (tgt := 47) hx hb dL_area_43 (by decide) ?_
        obtain rfl := Option.some.inj h
        exact hr47 H locs ls hP hD hS hl
      have h := e26
      clear e26
      refine lv_if_ge (tgt := 35) hx hb dL_area_26 (by decide) (fun c26 => ?_) (fun c26 => ?_)
      · replace h := if_t h c26
        refine lv_iload hx hb dL_area_35 (lv_at hl 0 rfl) ?_
        obtain rfl := Option.some.inj h
        exact hr37 H locs ls hP hD hS hl
      replace h := if_f h c26
      refine lv_iload hx hb dL_area_29 (lv_at hl 0 rfl) ?_
      refine lv_ineg hx hb dL_area_31 ?_
      refine lv_goto (tgt := 37) hx hb dL_area_32 (by decide) ?_
      obtain rfl := Option.some.inj h
      exact hr37 H locs ls hP hD hS hl
  exact hL5 FU 0 0 H locs ls h hP hD hS (lv_sub hl [0, 1, 2, 3, 4] rfl)
def G_L_cross (p0 : Int32) (p1 : Int32) (p2 : Int32) (p3 : Int32) : Option (Int32) :=
  some ((p0 * p3) - (p1 * p2))
abbrev rm_L_cross : Room := { frames := 0, cells := 0, slots := 0, locals := 0 }
theorem hdS_L_cross : yL_cross.cls ≠ "java/lang/invoke/MethodHandle" ∧ yL_cross.cls ≠ "java/lang/invoke/VarHandle" ∧ (parseMethodDescriptor yL_cross.desc).map (fun d => d.parameters.length) = some 4 := by decide +kernel
set_option maxHeartbeats 4000000 in
set_option maxRecDepth 100000 in
theorem c_L_cross (l : Launch) (dC : Nat → ClassId) (dI : Nat → Nat → Nat) (cy : Nat → ClassId)  (p0 : Int32) (p1 : Int32) (p2 : Int32) (p3 : Int32) (res : Int32) (h : G_L_cross p0 p1 p2 p3 = some res) : CT l (dC, dI) (TY cy) yL_cross cL_cross 4 (some .int) rm_L_cross [.int p0, .int p1, .int p2, .int p3] ([]) ([]) (some (.int res)) := by
  refine CT.mk_i (own := RL) ⟨by decide, rfl⟩ (Nat.le_of_ble_eq_true rfl) ?_
  intro p e s mm args below meth cd A Q hx hb hml hown htg hN hK hA hP hD hS hE ls hl
  have hl : lv_has ls 4 [(0, .int p0), (1, .int p1), (2, .int p2), (3, .int p3)] := hl
  replace h : _ = some res := h
  unfold G_L_cross at h
  obtain ⟨H, hH⟩ : ∃ H, H = s.heap := ⟨_, rfl⟩
  obtain ⟨locs, hlocs⟩ : ∃ locs : List Loc, locs = [] := ⟨_, rfl⟩
  rw [← hlocs] at hS ⊢
  have hS : va_S A s.heap H locs := by rw [hH]; exact hS
  rw [← hH] at hP ⊢
  refine lv_iload_n hx hb dL_cross_0 rfl (lv_at hl 0 rfl) ?_
  refine lv_iload_n hx hb dL_cross_1 rfl (lv_at hl 3 rfl) ?_
  refine lv_imul hx hb dL_cross_2 ?_
  refine lv_iload_n hx hb dL_cross_3 rfl (lv_at hl 1 rfl) ?_
  refine lv_iload_n hx hb dL_cross_4 rfl (lv_at hl 2 rfl) ?_
  refine lv_imul hx hb dL_cross_5 ?_
  refine lv_isub hx hb dL_cross_6 ?_
  obtain rfl := Option.some.inj h
  exact hE H locs 7 ls _ hP hD hS rfl dL_cross_7
def G_L_around_j145 (r9 : Int32 → Int32 → Int32 → Int32 → Int32 → Option (Int32)) (N0 : Nat) (N1 : Nat) (N2 : Nat) (w0 : Nat → Int32) (w1 : Nat → Int32) (w2 : Nat → Int32) (l7_145 : Int32) (l6_145 : Int32) (l0_145 : Int32) (l1_145 : Int32) (l2_145 : Int32) : Option (Int32) :=
  r9 (l7_145 + 1) l6_145 l0_145 l1_145 l2_145
def G_L_around_j115 (r9 : Int32 → Int32 → Int32 → Int32 → Int32 → Option (Int32)) (N0 : Nat) (N1 : Nat) (N2 : Nat) (w0 : Nat → Int32) (w1 : Nat → Int32) (w2 : Nat → Int32) (l9_115 : Int32) (l8_115 : Int32) (l7_115 : Int32) (l6_115 : Int32) (l0_115 : Int32) (l1_115 : Int32) (l2_115 : Int32) : Option (Int32) :=
  (rd N2 w2 l7_115).bind fun v120 =>
  if 2 * v120 ≤ l2_115 then
    G_L_around_j145 r9 N0 N1 N2 w0 w1 w2 l7_115 l6_115 l0_115 l1_115 l2_115
  else
    (rd N2 w2 l8_115).bind fun v131 =>
    if l2_115 < 2 * v131 then
      G_L_around_j145 r9 N0 N1 N2 w0 w1 w2 l7_115 l6_115 l0_115 l1_115 l2_115
    else
      if 0 ≤ l9_115 then
        G_L_around_j145 r9 N0 N1 N2 w0 w1 w2 l7_115 l6_115 l0_115 l1_115 l2_115
      else
        G_L_around_j145 r9 N0 N1 N2 w0 w1 w2 l7_115 (l6_115 + (-1)) l0_115 l1_115 l2_115
def G_L_around_L9  (N0 : Nat) (N1 : Nat) (N2 : Nat) (w0 : Nat → Int32) (w1 : Nat → Int32) (w2 : Nat → Int32) : Nat → Int32 → Int32 → Int32 → Int32 → Int32 → Option (Int32)
  | 0, _, _, _, _, _ => none
  | n9 + 1, l7_9, l6_9, l0_9, l1_9, l2_9 =>
    (rd N0 w0 (1 + l0_9)).bind fun v19 =>
    if (10 * l0_9) + v19 ≤ l7_9 then
      some l6_9
    else
      (G_L_next N0 w0 l7_9).bind fun v27 =>
      (rd N1 w1 v27).bind fun v37 =>
      (rd N1 w1 l7_9).bind fun v44 =>
      (rd N2 w2 v27).bind fun v52 =>
      (rd N2 w2 l7_9).bind fun v59 =>
      (rd N1 w1 l7_9).bind fun v68 =>
      (rd N2 w2 l7_9).bind fun v77 =>
      (G_L_cross ((2 * v37) - (2 * v44)) ((2 * v52) - (2 * v59)) (l1_9 - (2 * v68)) (l2_9 - (2 * v77))).bind fun v80 =>
      (rd N2 w2 l7_9).bind fun v90 =>
      if l2_9 < 2 * v90 then
        G_L_around_j115 (G_L_around_L9 N0 N1 N2 w0 w1 w2 n9) N0 N1 N2 w0 w1 w2 v80 v27 l7_9 l6_9 l0_9 l1_9 l2_9
      else
        (rd N2 w2 v27).bind fun v101 =>
        if 2 * v101 ≤ l2_9 then
          G_L_around_j115 (G_L_around_L9 N0 N1 N2 w0 w1 w2 n9) N0 N1 N2 w0 w1 w2 v80 v27 l7_9 l6_9 l0_9 l1_9 l2_9
        else
          if v80 ≤ 0 then
            G_L_around_j115 (G_L_around_L9 N0 N1 N2 w0 w1 w2 n9) N0 N1 N2 w0 w1 w2 v80 v27 l7_9 l6_9 l0_9 l1_9 l2_9
          else
            G_L_around_j115 (G_L_around_L9 N0 N1 N2 w0 w1 w2 n9) N0 N1 N2 w0 w1 w2 v80 v27 l7_9 (l6_9 + 1) l0_9 l1_9 l2_9
def G_L_around (N0 : Nat) (N1 : Nat) (N2 : Nat) (w0 : Nat → Int32) (w1 : Nat → Int32) (w2 : Nat → Int32) (p0 : Int32) (p1 : Int32) (p2 : Int32) : Option (Int32) :=
  G_L_around_L9 N0 N1 N2 w0 w1 w2 FU (10 * p0) 0 p0 p1 p2
abbrev rm_L_around : Room := { frames := 1, cells := 0, slots := 0, locals := 23 }
theorem hdS_L_around : yL_around.cls ≠ "java/lang/invoke/MethodHandle" ∧ yL_around.cls ≠ "java/lang/invoke/VarHandle" ∧ (parseMethodDescriptor yL_around.desc).map (fun d => d.parameters.length) = some 6 := by decide +kernel
set_option maxHeartbeats 4000000 in
set_option maxRecDepth 100000 in
theorem c_L_around (l : Launch) (dC : Nat → ClassId) (dI : Nat → Nat → Nat) (cy : Nat → ClassId) (a0 : Nat) (a1 : Nat) (a2 : Nat) (N0 : Nat) (N1 : Nat) (N2 : Nat) (w0 : Nat → Int32) (w1 : Nat → Int32) (w2 : Nat → Int32) (p0 : Int32) (p1 : Int32) (p2 : Int32) (res : Int32) (h : G_L_around N0 N1 N2 w0 w1 w2 p0 p1 p2 = some res) : CT l (dC, dI) (TY cy) yL_around cL_around 10 (some .int) rm_L_around [.int p0, .int p1, .int p2, .ref a0, .ref a1, .ref a2] (wIA a0 cy N0 w0 ++ wIA a1 cy N1 w1 ++ wIA a2 cy N2 w2) (wIA a0 cy N0 w0 ++ wIA a1 cy N1 w1 ++ wIA a2 cy N2 w2) (some (.int res)) := by
  refine CT.mk_i (own := RL) ⟨by decide, rfl⟩ (Nat.le_of_ble_eq_true rfl) ?_
  intro p e s mm args below meth cd A Q hx hb hml hown htg hN hK hA hP hD hS hE ls hl
  have hl : lv_has ls 10 [(0, .int p0), (1, .int p1), (2, .int p2), (3, .ref a0), (4, .ref a1), (5, .ref a2)] := hl
  replace h : _ = some res := h
  unfold G_L_around at h
  obtain ⟨H, hH⟩ : ∃ H, H = s.heap := ⟨_, rfl⟩
  obtain ⟨locs, hlocs⟩ : ∃ locs : List Loc, locs = [] := ⟨_, rfl⟩
  rw [← hlocs] at hS ⊢
  have hS : va_S A s.heap H locs := by rw [hH]; exact hS
  rw [← hH] at hP ⊢
  refine lv_iconst (v := 0) hx hb dL_around_0 (by decide) ?_
  refine lv_istore (lv' := [(6, .int 0), (0, .int p0), (1, .int p1), (2, .int p2), (3, .ref a0), (4, .ref a1), (5, .ref a2)]) hx hb dL_around_1 hl (by decide) rfl (fun ls hl => ?_)
  refine lv_bipush (v := 10) hx hb dL_around_3 (by decide) ?_
  refine lv_iload_n hx hb dL_around_5 rfl (lv_at hl 1 rfl) ?_
  refine lv_imul hx hb dL_around_6 ?_
  refine lv_istore (lv' := [(7, .int (10 * p0)), (6, .int 0), (0, .int p0), (1, .int p1), (2, .int p2), (3, .ref a0), (4, .ref a1), (5, .ref a2)]) hx hb dL_around_7 hl (by decide) rfl (fun ls hl => ?_)
  have hL9 : ∀ (n9 : Nat) (l7_9 : Int32) (l6_9 : Int32) (l0_9 : Int32) (l1_9 : Int32) (l2_9 : Int32) (H : Heap) (locs : List Loc) (ls : Array Slot), G_L_around_L9 N0 N1 N2 w0 w1 w2 n9 l7_9 l6_9 l0_9 l1_9 l2_9 = some res → va_P (dC, dI) vwCl (wIA a0 cy N0 w0 ++ wIA a1 cy N1 w1 ++ wIA a2 cy N2 w2) H → va_D A (wIA a0 cy N0 w0 ++ wIA a1 cy N1 w1 ++ wIA a2 cy N2 w2) → va_S A s.heap H locs → lv_has ls 10 [(7, .int l7_9), (6, .int l6_9), (0, .int l0_9), (1, .int l1_9), (2, .int l2_9), (3, .ref a0), (4, .ref a1), (5, .ref a2)] → W p l e rm_L_around s mm args below meth cd H locs 0 0 Q (F0 mm 9 ls []) := by
    intro n9
    induction n9 with
    | zero => intro l7_9 l6_9 l0_9 l1_9 l2_9 H locs ls h; exact absurd h (by simp [G_L_around_L9])
    | succ n9 ih9 =>
      intro l7_9 l6_9 l0_9 l1_9 l2_9 H locs ls h hP hD hS hl
      rw [G_L_around_L9] at h
      refine lv_iload hx hb dL_around_9 (lv_at hl 0 rfl) ?_
      refine lv_bipush (v := 10) hx hb dL_around_11 (by decide) ?_
      refine lv_iload_n hx hb dL_around_13 rfl (lv_at hl 2 rfl) ?_
      refine lv_imul hx hb dL_around_14 ?_
      refine lv_aload_n hx hb dL_around_15 rfl (lv_at hl 5 rfl) ?_
      refine lv_iconst (v := 1) hx hb dL_around_16 (by decide) ?_
      refine lv_iload_n hx hb dL_around_17 rfl (lv_at hl 2 rfl) ?_
      refine lv_iadd hx hb dL_around_18 ?_
      obtain ⟨v19, e19, h⟩ := bnd h
      refine x_iald (v := v19) hx hb hK hP 0 0 rfl rfl e19 dL_around_19 ?_
      refine lv_iadd hx hb dL_around_20 ?_
      refine lv_icmp_ge (tgt := 151) hx hb dL_around_21 (by decide) (fun c21 => ?_) (fun c21 => ?_)
      · replace h := if_t h c21
        refine lv_iload hx hb dL_around_151 (lv_at hl 1 rfl) ?_
        obtain rfl := Option.some.inj h
        exact hE H locs 153 ls _ hP hD hS rfl dL_around_153
      replace h := if_f h c21
      refine lv_iload hx hb dL_around_24 (lv_at hl 0 rfl) ?_
      refine lv_aload_n hx hb dL_around_26 rfl (lv_at hl 5 rfl) ?_
      obtain ⟨v27, e27, h⟩ := bnd h
      refine cS (av := [.int l7_9, .ref a0]) (rest := []) (st1 := [.int v27]) (k1 := 0) (k2 := 0) hx hb hml hown htg hN hK (c_L_next l dC dI cy a0 N0 w0 l7_9 v27 e27) (g_S gw456 gw457 gw6 gw458) hdS_L_next rfl ⟨⟨Nat.le_of_ble_eq_true rfl, Nat.le_of_ble_eq_true rfl⟩, Nat.le_of_ble_eq_true rfl, Nat.le_of_ble_eq_true rfl⟩ hP hD hS hA [0] [1, 2] rfl rfl rfl (by decide) (by decide) hl.1 rfl (Nat.le_of_ble_eq_true rfl) rfl rfl rfl dL_around_27 (fun H locs hP hD hS => ?_)
      obtain ⟨hP, hD⟩ := x_perm (ws' := wIA a0 cy N0 w0 ++ wIA a1 cy N1 w1 ++ wIA a2 cy N2 w2) hP hD [2, 0, 1] (by decide) rfl rfl
      refine lv_istore (lv' := [(8, .int v27), (7, .int l7_9), (6, .int l6_9), (0, .int l0_9), (1, .int l1_9), (2, .int l2_9), (3, .ref a0), (4, .ref a1), (5, .ref a2)]) hx hb dL_around_30 hl (by decide) rfl (fun ls hl => ?_)
      refine lv_iconst (v := 2) hx hb dL_around_32 (by decide) ?_
      refine lv_aload hx hb dL_around_33 (lv_at hl 7 rfl) ?_
      refine lv_iload hx hb dL_around_35 (lv_at hl 0 rfl) ?_
      obtain ⟨v37, e37, h⟩ := bnd h
      refine x_iald (v := v37) hx hb hK hP 1 0 rfl rfl e37 dL_around_37 ?_
      refine lv_imul hx hb dL_around_38 ?_
      refine lv_iconst (v := 2) hx hb dL_around_39 (by decide) ?_
      refine lv_aload hx hb dL_around_40 (lv_at hl 7 rfl) ?_
      refine lv_iload hx hb dL_around_42 (lv_at hl 1 rfl) ?_
      obtain ⟨v44, e44, h⟩ := bnd h
      refine x_iald (v := v44) hx hb hK hP 1 0 rfl rfl e44 dL_around_44 ?_
      refine lv_imul hx hb dL_around_45 ?_
      refine lv_isub hx hb dL_around_46 ?_
      refine lv_iconst (v := 2) hx hb dL_around_47 (by decide) ?_
      refine lv_aload hx hb dL_around_48 (lv_at hl 8 rfl) ?_
      refine lv_iload hx hb dL_around_50 (lv_at hl 0 rfl) ?_
      obtain ⟨v52, e52, h⟩ := bnd h
      refine x_iald (v := v52) hx hb hK hP 2 0 rfl rfl e52 dL_around_52 ?_
      refine lv_imul hx hb dL_around_53 ?_
      refine lv_iconst (v := 2) hx hb dL_around_54 (by decide) ?_
      refine lv_aload hx hb dL_around_55 (lv_at hl 8 rfl) ?_
      refine lv_iload hx hb dL_around_57 (lv_at hl 1 rfl) ?_
      obtain ⟨v59, e59, h⟩ := bnd h
      refine x_iald (v := v59) hx hb hK hP 2 0 rfl rfl e59 dL_around_59 ?_
      refine lv_imul hx hb dL_around_60 ?_
      refine lv_isub hx hb dL_around_61 ?_
      refine lv_iload_n hx hb dL_around_62 rfl (lv_at hl 4 rfl) ?_
      refine lv_iconst (v := 2) hx hb dL_around_63 (by decide) ?_
      refine lv_aload hx hb dL_around_64 (lv_at hl 7 rfl) ?_
      refine lv_iload hx hb dL_around_66 (lv_at hl 1 rfl) ?_
      obtain ⟨v68, e68, h⟩ := bnd h
      refine x_iald (v := v68) hx hb hK hP 1 0 rfl rfl e68 dL_around_68 ?_
      refine lv_imul hx hb dL_around_69 ?_
      refine lv_isub hx hb dL_around_70 ?_
      refine lv_iload_n hx hb dL_around_71 rfl (lv_at hl 5 rfl) ?_
      refine lv_iconst (v := 2) hx hb dL_around_72 (by decide) ?_
      refine lv_aload hx hb dL_around_73 (lv_at hl 8 rfl) ?_
      refine lv_iload hx hb dL_around_75 (lv_at hl 1 rfl) ?_
      obtain ⟨v77, e77, h⟩ := bnd h
      refine x_iald (v := v77) hx hb hK hP 2 0 rfl rfl e77 dL_around_77 ?_
      refine lv_imul hx hb dL_around_78 ?_
      refine lv_isub hx hb dL_around_79 ?_
      obtain ⟨v80, e80, h⟩ := bnd h
      refine cS (av := [.int ((2 * v37) - (2 * v44)), .int ((2 * v52) - (2 * v59)), .int (l1_9 - (2 * v68)), .int (l2_9 - (2 * v77))]) (rest := []) (st1 := [.int v80]) (k1 := 0) (k2 := 0) hx hb hml hown htg hN hK (c_L_cross l dC dI cy   ((2 * v37) - (2 * v44)) ((2 * v52) - (2 * v59)) (l1_9 - (2 * v68)) (l2_9 - (2 * v77)) v80 e80) (g_S gw465 gw466 gw6 gw467) hdS_L_cross rfl ⟨⟨Nat.le_of_ble_eq_true rfl, Nat.le_of_ble_eq_true rfl⟩, Nat.le_of_ble_eq_true rfl, Nat.le_of_ble_eq_true rfl⟩ hP hD hS hA [] [0, 1, 2] rfl rfl rfl (by decide) (by decide) hl.1 rfl (Nat.le_of_ble_eq_true rfl) rfl rfl rfl dL_around_80 (fun H locs hP hD hS => ?_)
      obtain ⟨hP, hD⟩ := x_perm (ws' := wIA a0 cy N0 w0 ++ wIA a1 cy N1 w1 ++ wIA a2 cy N2 w2) hP hD [0, 1, 2] (by decide) rfl rfl
      refine lv_istore (lv' := [(9, .int v80), (8, .int v27), (7, .int l7_9), (6, .int l6_9), (0, .int l0_9), (1, .int l1_9), (2, .int l2_9), (3, .ref a0), (4, .ref a1), (5, .ref a2)]) hx hb dL_around_83 hl (by decide) rfl (fun ls hl => ?_)
      refine lv_iconst (v := 2) hx hb dL_around_85 (by decide) ?_
      refine lv_aload hx hb dL_around_86 (lv_at hl 9 rfl) ?_
      refine lv_iload hx hb dL_around_88 (lv_at hl 2 rfl) ?_
      obtain ⟨v90, e90, h⟩ := bnd h
      refine x_iald (v := v90) hx hb hK hP 2 0 rfl rfl e90 dL_around_90 ?_
      refine lv_imul hx hb dL_around_91 ?_
      refine lv_iload_n hx hb dL_around_92 rfl (lv_at hl 6 rfl) ?_
      have hj115 : ∀ (l9_115 : Int32) (l8_115 : Int32) (l7_115 : Int32) (l6_115 : Int32) (l0_115 : Int32) (l1_115 : Int32) (l2_115 : Int32) (H : Heap) (locs : List Loc) (ls : Array Slot), G_L_around_j115 (G_L_around_L9 N0 N1 N2 w0 w1 w2 n9) N0 N1 N2 w0 w1 w2 l9_115 l8_115 l7_115 l6_115 l0_115 l1_115 l2_115 = some res → va_P (dC, dI) vwCl (wIA a0 cy N0 w0 ++ wIA a1 cy N1 w1 ++ wIA a2 cy N2 w2) H → va_D A (wIA a0 cy N0 w0 ++ wIA a1 cy N1 w1 ++ wIA a2 cy N2 w2) → va_S A s.heap H locs → lv_has ls 10 [(9, .int l9_115), (8, .int l8_115), (7, .int l7_115), (6, .int l6_115), (0, .int l0_115), (1, .int l1_115), (2, .int l2_115), (3, .ref a0), (4, .ref a1), (5, .ref a2)] → W p l e rm_L_around s mm args below meth cd H locs 0 0 Q (F0 mm 115 ls []) := by
        intro l9_115 l8_115 l7_115 l6_115 l0_115 l1_115 l2_115 H locs ls h hP hD hS hl
        unfold G_L_around_j115 at h
        refine lv_iconst (v := 2) hx hb dL_around_115 (by decide) ?_
        refine lv_aload hx hb dL_around_116 (lv_at hl 9 rfl) ?_
        refine lv_iload hx hb dL_around_118 (lv_at hl 2 rfl) ?_
        obtain ⟨v120, e120, h⟩ := bnd h
        refine x_iald (v := v120) hx hb hK hP 2 0 rfl rfl e120 dL_around_120 ?_
        refine lv_imul hx hb dL_around_121 ?_
        refine lv_iload_n hx hb dL_around_122 rfl (lv_at hl 6 rfl) ?_
        have hj145 : ∀ (l7_145 : Int32) (l6_145 : Int32) (l0_145 : Int32) (l1_145 : Int32) (l2_145 : Int32) (H : Heap) (locs : List Loc) (ls : Array Slot), G_L_around_j145 (G_L_around_L9 N0 N1 N2 w0 w1 w2 n9) N0 N1 N2 w0 w1 w2 l7_145 l6_145 l0_145 l1_145 l2_145 = some res → va_P (dC, dI) vwCl (wIA a0 cy N0 w0 ++ wIA a1 cy N1 w1 ++ wIA a2 cy N2 w2) H → va_D A (wIA a0 cy N0 w0 ++ wIA a1 cy N1 w1 ++ wIA a2 cy N2 w2) → va_S A s.heap H locs → lv_has ls 10 [(7, .int l7_145), (6, .int l6_145), (0, .int l0_145), (1, .int l1_145), (2, .int l2_145), (3, .ref a0), (4, .ref a1), (5, .ref a2)] → W p l e rm_L_around s mm args below meth cd H locs 0 0 Q (F0 mm 145 ls []) := by
          intro l7_145 l6_145 l0_145 l1_145 l2_145 H locs ls h hP hD hS hl
          unfold G_L_around_j145 at h
          refine lv_iinc (v := l7_145 + 1) (lv' := [(7, .int (l7_145 + 1)), (6, .int l6_145), (0, .int l0_145), (1, .int l1_145), (2, .int l2_145), (3, .ref a0), (4, .ref a1), (5, .ref a2)]) hx hb dL_around_145 hl (k := 0) rfl rfl (by decide) rfl (fun ls hl => ?_)
          refine lv_goto (tgt := 9) hx hb dL_around_148 (by decide) ?_
          exact ih9 (l7_145 + 1) l6_145 l0_145 l1_145 l2_145 H locs ls h hP hD hS (lv_sub hl [0, 1, 2, 3, 4, 5, 6, 7] rfl)
        refine lv_icmp_le (tgt := 145) hx hb dL_around_123 (by decide) (fun c123 => ?_) (fun c123 => ?_)
        · replace h := if_t h c123
          exact hj145 l7_115 l6_115 l0_115 l1_115 l2_115 H locs ls h hP hD hS (lv_sub hl [2, 3, 4, 5, 6, 7, 8, 9] rfl)
        replace h := if_f h c123
        refine lv_iconst (v := 2) hx hb dL_around_126 (by decide) ?_
        refine lv_aload hx hb dL_around_127 (lv_at hl 9 rfl) ?_
        refine lv_iload hx hb dL_around_129 (lv_at hl 1 rfl) ?_
        obtain ⟨v131, e131, h⟩ := bnd h
        refine x_iald (v := v131) hx hb hK hP 2 0 rfl rfl e131 dL_around_131 ?_
        refine lv_imul hx hb dL_around_132 ?_
        refine lv_iload_n hx hb dL_around_133 rfl (lv_at hl 6 rfl) ?_
        refine lv_icmp_gt (tgt := 145) hx hb dL_around_134 (by decide) (fun c134 => ?_) (fun c134 => ?_)
        · replace h := if_t h c134
          exact hj145 l7_115 l6_115 l0_115 l1_115 l2_115 H locs ls h hP hD hS (lv_sub hl [2, 3, 4, 5, 6, 7, 8, 9] rfl)
        replace h := if_f h c134
        refine lv_iload hx hb dL_around_137 (lv_at hl 0 rfl) ?_
        refine lv_if_ge (tgt := 145) hx hb dL_around_139 (by decide) (fun c139 => ?_) (fun c139 => ?_)
        · replace h := if_t h c139
          exact hj145 l7_115 l6_115 l0_115 l1_115 l2_115 H locs ls h hP hD hS (lv_sub hl [2, 3, 4, 5, 6, 7, 8, 9] rfl)
        replace h := if_f h c139
        refine lv_iinc (v := l6_115 + (-1)) (lv' := [(6, .int (l6_115 + (-1))), (9, .int l9_115), (8, .int l8_115), (7, .int l7_115), (0, .int l0_115), (1, .int l1_115), (2, .int l2_115), (3, .ref a0), (4, .ref a1), (5, .ref a2)]) hx hb dL_around_142 hl (k := 3) rfl rfl (by decide) rfl (fun ls hl => ?_)
        exact hj145 l7_115 (l6_115 + (-1)) l0_115 l1_115 l2_115 H locs ls h hP hD hS (lv_sub hl [3, 0, 4, 5, 6, 7, 8, 9] rfl)
      refine lv_icmp_gt (tgt := 115) hx hb dL_around_93 (by decide) (fun c93 => ?_) (fun c93 => ?_)
      · replace h := if_t h c93
        exact hj115 v80 v27 l7_9 l6_9 l0_9 l1_9 l2_9 H locs ls h hP hD hS (lv_sub hl [0, 1, 2, 3, 4, 5, 6, 7, 8, 9] rfl)
      replace h := if_f h c93
      refine lv_iconst (v := 2) hx hb dL_around_96 (by decide) ?_
      refine lv_aload hx hb dL_around_97 (lv_at hl 9 rfl) ?_
      refine lv_iload hx hb dL_around_99 (lv_at hl 1 rfl) ?_
      obtain ⟨v101, e101, h⟩ := bnd h
      refine x_iald (v := v101) hx hb hK hP 2 0 rfl rfl e101 dL_around_101 ?_
      refine lv_imul hx hb dL_around_102 ?_
      refine lv_iload_n hx hb dL_around_103 rfl (lv_at hl 6 rfl) ?_
      refine lv_icmp_le (tgt := 115) hx hb dL_around_104 (by decide) (fun c104 => ?_) (fun c104 => ?_)
      · replace h := if_t h c104
        exact hj115 v80 v27 l7_9 l6_9 l0_9 l1_9 l2_9 H locs ls h hP hD hS (lv_sub hl [0, 1, 2, 3, 4, 5, 6, 7, 8, 9] rfl)
      replace h := if_f h c104
      refine lv_iload hx hb dL_around_107 (lv_at hl 0 rfl) ?_
      refine lv_if_le (tgt := 115) hx hb dL_around_109 (by decide) (fun c109 => ?_) (fun c109 => ?_)
      · replace h := if_t h c109
        exact hj115 v80 v27 l7_9 l6_9 l0_9 l1_9 l2_9 H locs ls h hP hD hS (lv_sub hl [0, 1, 2, 3, 4, 5, 6, 7, 8, 9] rfl)
      replace h := if_f h c109
      refine lv_iinc (v := l6_9 + 1) (lv' := [(6, .int (l6_9 + 1)), (9, .int v80), (8, .int v27), (7, .int l7_9), (0, .int l0_9), (1, .int l1_9), (2, .int l2_9), (3, .ref a0), (4, .ref a1), (5, .ref a2)]) hx hb dL_around_112 hl (k := 3) rfl rfl (by decide) rfl (fun ls hl => ?_)
      exact hj115 v80 v27 l7_9 (l6_9 + 1) l0_9 l1_9 l2_9 H locs ls h hP hD hS (lv_sub hl [1, 2, 3, 0, 4, 5, 6, 7, 8, 9] rfl)
  exact hL9 FU (10 * p0) 0 p0 p1 p2 H locs ls h hP hD hS (lv_sub hl [0, 1, 2, 3, 4, 5, 6, 7] rfl)
def G_L_before (N0 : Nat) (w0 : Nat → Int32) (p0 : Int32) : Option (Int32) :=
  if p0 - p0 / 10 * 10 = 0 then
    (rd N0 w0 (1 + (p0 / 10))).bind fun v15 =>
    some ((p0 + v15) - 1)
  else
    some (p0 - 1)
abbrev rm_L_before : Room := { frames := 0, cells := 0, slots := 0, locals := 0 }
theorem hdS_L_before : yL_before.cls ≠ "java/lang/invoke/MethodHandle" ∧ yL_before.cls ≠ "java/lang/invoke/VarHandle" ∧ (parseMethodDescriptor yL_before.desc).map (fun d => d.parameters.length) = some 2 := by decide +kernel
set_option maxHeartbeats 4000000 in
set_option maxRecDepth 100000 in
theorem c_L_before (l : Launch) (dC : Nat → ClassId) (dI : Nat → Nat → Nat) (cy : Nat → ClassId) (a0 : Nat) (N0 : Nat) (w0 : Nat → Int32) (p0 : Int32) (res : Int32) (h : G_L_before N0 w0 p0 = some res) : CT l (dC, dI) (TY cy) yL_before cL_before 2 (some .int) rm_L_before [.int p0, .ref a0] (wIA a0 cy N0 w0) (wIA a0 cy N0 w0) (some (.int res)) := by
  refine CT.mk_i (own := RL) ⟨by decide, rfl⟩ (Nat.le_of_ble_eq_true rfl) ?_
  intro p e s mm args below meth cd A Q hx hb hml hown htg hN hK hA hP hD hS hE ls hl
  have hl : lv_has ls 2 [(0, .int p0), (1, .ref a0)] := hl
  replace h : _ = some res := h
  unfold G_L_before at h
  obtain ⟨H, hH⟩ : ∃ H, H = s.heap := ⟨_, rfl⟩
  obtain ⟨locs, hlocs⟩ : ∃ locs : List Loc, locs = [] := ⟨_, rfl⟩
  rw [← hlocs] at hS ⊢
  have hS : va_S A s.heap H locs := by rw [hH]; exact hS
  rw [← hH] at hP ⊢
  refine lv_iload_n hx hb dL_before_0 rfl (lv_at hl 0 rfl) ?_
  refine lv_bipush (v := 10) hx hb dL_before_1 (by decide) ?_
  refine lv_irem hx hb dL_before_3 (by decide) ?_
  refine lv_if_ne (tgt := 22) hx hb dL_before_4 (by decide) (fun c4 => ?_) (fun c4 => ?_)
  · replace h := if_f h c4
    refine lv_iload_n hx hb dL_before_22 rfl (lv_at hl 0 rfl) ?_
    refine lv_iconst (v := 1) hx hb dL_before_23 (by decide) ?_
    refine lv_isub hx hb dL_before_24 ?_
    obtain rfl := Option.some.inj h
    exact hE H locs 25 ls _ hP hD hS rfl dL_before_25
  replace h := if_t h c4
  refine lv_iload_n hx hb dL_before_7 rfl (lv_at hl 0 rfl) ?_
  refine lv_aload_n hx hb dL_before_8 rfl (lv_at hl 1 rfl) ?_
  refine lv_iconst (v := 1) hx hb dL_before_9 (by decide) ?_
  refine lv_iload_n hx hb dL_before_10 rfl (lv_at hl 0 rfl) ?_
  refine lv_bipush (v := 10) hx hb dL_before_11 (by decide) ?_
  refine lv_idiv hx hb dL_before_13 (by decide) ?_
  refine lv_iadd hx hb dL_before_14 ?_
  obtain ⟨v15, e15, h⟩ := bnd h
  refine x_iald (v := v15) hx hb hK hP 0 0 rfl rfl e15 dL_before_15 ?_
  refine lv_iadd hx hb dL_before_16 ?_
  refine lv_iconst (v := 1) hx hb dL_before_17 (by decide) ?_
  refine lv_isub hx hb dL_before_18 ?_
  refine lv_goto (tgt := 25) hx hb dL_before_19 (by decide) ?_
  obtain rfl := Option.some.inj h
  exact hE H locs 25 ls _ hP hD hS rfl dL_before_25
def G_L_bend (N0 : Nat) (N1 : Nat) (N2 : Nat) (w0 : Nat → Int32) (w1 : Nat → Int32) (w2 : Nat → Int32) (p0 : Int32) : Option (Int32) :=
  (G_L_before N0 w0 p0).bind fun v2 =>
  (G_L_next N0 w0 p0).bind fun v9 =>
  (rd N1 w1 p0).bind fun v16 =>
  (rd N1 w1 v2).bind fun v20 =>
  (rd N2 w2 p0).bind fun v24 =>
  (rd N2 w2 v2).bind fun v28 =>
  (rd N1 w1 v9).bind fun v33 =>
  (rd N1 w1 p0).bind fun v36 =>
  (rd N2 w2 v9).bind fun v41 =>
  (rd N2 w2 p0).bind fun v44 =>
  (G_L_cross (v16 - v20) (v24 - v28) (v33 - v36) (v41 - v44)).bind fun v46 =>
  some v46
abbrev rm_L_bend : Room := { frames := 1, cells := 0, slots := 0, locals := 23 }
theorem hdS_L_bend : yL_bend.cls ≠ "java/lang/invoke/MethodHandle" ∧ yL_bend.cls ≠ "java/lang/invoke/VarHandle" ∧ (parseMethodDescriptor yL_bend.desc).map (fun d => d.parameters.length) = some 4 := by decide +kernel
set_option maxHeartbeats 4000000 in
set_option maxRecDepth 100000 in
theorem c_L_bend (l : Launch) (dC : Nat → ClassId) (dI : Nat → Nat → Nat) (cy : Nat → ClassId) (a0 : Nat) (a1 : Nat) (a2 : Nat) (N0 : Nat) (N1 : Nat) (N2 : Nat) (w0 : Nat → Int32) (w1 : Nat → Int32) (w2 : Nat → Int32) (p0 : Int32) (res : Int32) (h : G_L_bend N0 N1 N2 w0 w1 w2 p0 = some res) : CT l (dC, dI) (TY cy) yL_bend cL_bend 6 (some .int) rm_L_bend [.int p0, .ref a0, .ref a1, .ref a2] (wIA a0 cy N0 w0 ++ wIA a1 cy N1 w1 ++ wIA a2 cy N2 w2) (wIA a0 cy N0 w0 ++ wIA a1 cy N1 w1 ++ wIA a2 cy N2 w2) (some (.int res)) := by
  refine CT.mk_i (own := RL) ⟨by decide, rfl⟩ (Nat.le_of_ble_eq_true rfl) ?_
  intro p e s mm args below meth cd A Q hx hb hml hown htg hN hK hA hP hD hS hE ls hl
  have hl : lv_has ls 6 [(0, .int p0), (1, .ref a0), (2, .ref a1), (3, .ref a2)] := hl
  replace h : _ = some res := h
  unfold G_L_bend at h
  obtain ⟨H, hH⟩ : ∃ H, H = s.heap := ⟨_, rfl⟩
  obtain ⟨locs, hlocs⟩ : ∃ locs : List Loc, locs = [] := ⟨_, rfl⟩
  rw [← hlocs] at hS ⊢
  have hS : va_S A s.heap H locs := by rw [hH]; exact hS
  rw [← hH] at hP ⊢
  refine lv_iload_n hx hb dL_bend_0 rfl (lv_at hl 0 rfl) ?_
  refine lv_aload_n hx hb dL_bend_1 rfl (lv_at hl 1 rfl) ?_
  obtain ⟨v2, e2, h⟩ := bnd h
  refine cS (av := [.int p0, .ref a0]) (rest := []) (st1 := [.int v2]) (k1 := 0) (k2 := 0) hx hb hml hown htg hN hK (c_L_before l dC dI cy a0 N0 w0 p0 v2 e2) (g_S gw507 gw508 gw6 gw509) hdS_L_before rfl ⟨⟨Nat.le_of_ble_eq_true rfl, Nat.le_of_ble_eq_true rfl⟩, Nat.le_of_ble_eq_true rfl, Nat.le_of_ble_eq_true rfl⟩ hP hD hS hA [0] [1, 2] rfl rfl rfl (by decide) (by decide) hl.1 rfl (Nat.le_of_ble_eq_true rfl) rfl rfl rfl dL_bend_2 (fun H locs hP hD hS => ?_)
  obtain ⟨hP, hD⟩ := x_perm (ws' := wIA a0 cy N0 w0 ++ wIA a1 cy N1 w1 ++ wIA a2 cy N2 w2) hP hD [2, 0, 1] (by decide) rfl rfl
  refine lv_istore (lv' := [(4, .int v2), (0, .int p0), (1, .ref a0), (2, .ref a1), (3, .ref a2)]) hx hb dL_bend_5 hl (by decide) rfl (fun ls hl => ?_)
  refine lv_iload_n hx hb dL_bend_7 rfl (lv_at hl 1 rfl) ?_
  refine lv_aload_n hx hb dL_bend_8 rfl (lv_at hl 2 rfl) ?_
  obtain ⟨v9, e9, h⟩ := bnd h
  refine cS (av := [.int p0, .ref a0]) (rest := []) (st1 := [.int v9]) (k1 := 0) (k2 := 0) hx hb hml hown htg hN hK (c_L_next l dC dI cy a0 N0 w0 p0 v9 e9) (g_S gw456 gw457 gw6 gw458) hdS_L_next rfl ⟨⟨Nat.le_of_ble_eq_true rfl, Nat.le_of_ble_eq_true rfl⟩, Nat.le_of_ble_eq_true rfl, Nat.le_of_ble_eq_true rfl⟩ hP hD hS hA [0] [1, 2] rfl rfl rfl (by decide) (by decide) hl.1 rfl (Nat.le_of_ble_eq_true rfl) rfl rfl rfl dL_bend_9 (fun H locs hP hD hS => ?_)
  obtain ⟨hP, hD⟩ := x_perm (ws' := wIA a0 cy N0 w0 ++ wIA a1 cy N1 w1 ++ wIA a2 cy N2 w2) hP hD [2, 0, 1] (by decide) rfl rfl
  refine lv_istore (lv' := [(5, .int v9), (4, .int v2), (0, .int p0), (1, .ref a0), (2, .ref a1), (3, .ref a2)]) hx hb dL_bend_12 hl (by decide) rfl (fun ls hl => ?_)
  refine lv_aload_n hx hb dL_bend_14 rfl (lv_at hl 4 rfl) ?_
  refine lv_iload_n hx hb dL_bend_15 rfl (lv_at hl 2 rfl) ?_
  obtain ⟨v16, e16, h⟩ := bnd h
  refine x_iald (v := v16) hx hb hK hP 1 0 rfl rfl e16 dL_bend_16 ?_
  refine lv_aload_n hx hb dL_bend_17 rfl (lv_at hl 4 rfl) ?_
  refine lv_iload hx hb dL_bend_18 (lv_at hl 1 rfl) ?_
  obtain ⟨v20, e20, h⟩ := bnd h
  refine x_iald (v := v20) hx hb hK hP 1 0 rfl rfl e20 dL_bend_20 ?_
  refine lv_isub hx hb dL_bend_21 ?_
  refine lv_aload_n hx hb dL_bend_22 rfl (lv_at hl 5 rfl) ?_
  refine lv_iload_n hx hb dL_bend_23 rfl (lv_at hl 2 rfl) ?_
  obtain ⟨v24, e24, h⟩ := bnd h
  refine x_iald (v := v24) hx hb hK hP 2 0 rfl rfl e24 dL_bend_24 ?_
  refine lv_aload_n hx hb dL_bend_25 rfl (lv_at hl 5 rfl) ?_
  refine lv_iload hx hb dL_bend_26 (lv_at hl 1 rfl) ?_
  obtain ⟨v28, e28, h⟩ := bnd h
  refine x_iald (v := v28) hx hb hK hP 2 0 rfl rfl e28 dL_bend_28 ?_
  refine lv_isub hx hb dL_bend_29 ?_
  refine lv_aload_n hx hb dL_bend_30 rfl (lv_at hl 4 rfl) ?_
  refine lv_iload hx hb dL_bend_31 (lv_at hl 0 rfl) ?_
  obtain ⟨v33, e33, h⟩ := bnd h
  refine x_iald (v := v33) hx hb hK hP 1 0 rfl rfl e33 dL_bend_33 ?_
  refine lv_aload_n hx hb dL_bend_34 rfl (lv_at hl 4 rfl) ?_
  refine lv_iload_n hx hb dL_bend_35 rfl (lv_at hl 2 rfl) ?_
  obtain ⟨v36, e36, h⟩ := bnd h
  refine x_iald (v := v36) hx hb hK hP 1 0 rfl rfl e36 dL_bend_36 ?_
  refine lv_isub hx hb dL_bend_37 ?_
  refine lv_aload_n hx hb dL_bend_38 rfl (lv_at hl 5 rfl) ?_
  refine lv_iload hx hb dL_bend_39 (lv_at hl 0 rfl) ?_
  obtain ⟨v41, e41, h⟩ := bnd h
  refine x_iald (v := v41) hx hb hK hP 2 0 rfl rfl e41 dL_bend_41 ?_
  refine lv_aload_n hx hb dL_bend_42 rfl (lv_at hl 5 rfl) ?_
  refine lv_iload_n hx hb dL_bend_43 rfl (lv_at hl 2 rfl) ?_
  obtain ⟨v44, e44, h⟩ := bnd h
  refine x_iald (v := v44) hx hb hK hP 2 0 rfl rfl e44 dL_bend_44 ?_
  refine lv_isub hx hb dL_bend_45 ?_
  obtain ⟨v46, e46, h⟩ := bnd h
  refine cS (av := [.int (v16 - v20), .int (v24 - v28), .int (v33 - v36), .int (v41 - v44)]) (rest := []) (st1 := [.int v46]) (k1 := 0) (k2 := 0) hx hb hml hown htg hN hK (c_L_cross l dC dI cy   (v16 - v20) (v24 - v28) (v33 - v36) (v41 - v44) v46 e46) (g_S gw465 gw466 gw6 gw467) hdS_L_cross rfl ⟨⟨Nat.le_of_ble_eq_true rfl, Nat.le_of_ble_eq_true rfl⟩, Nat.le_of_ble_eq_true rfl, Nat.le_of_ble_eq_true rfl⟩ hP hD hS hA [] [0, 1, 2] rfl rfl rfl (by decide) (by decide) hl.1 rfl (Nat.le_of_ble_eq_true rfl) rfl rfl rfl dL_bend_46 (fun H locs hP hD hS => ?_)
  obtain ⟨hP, hD⟩ := x_perm (ws' := wIA a0 cy N0 w0 ++ wIA a1 cy N1 w1 ++ wIA a2 cy N2 w2) hP hD [0, 1, 2] (by decide) rfl rfl
  obtain rfl := Option.some.inj h
  exact hE H locs 49 ls _ hP hD hS rfl dL_bend_49
def G_L_there (N0 : Nat) (w0 : Nat → Int32) (p0 : Int32) : Option (Int32) :=
  (rd N0 w0 0).bind fun v6 =>
  if v6 ≤ p0 / 10 then
    some 0
  else
    (rd N0 w0 (1 + (p0 / 10))).bind fun v21 =>
    if v21 ≤ p0 - p0 / 10 * 10 then
      some 0
    else
      some 1
abbrev rm_L_there : Room := { frames := 0, cells := 0, slots := 0, locals := 0 }
theorem hdS_L_there : yL_there.cls ≠ "java/lang/invoke/MethodHandle" ∧ yL_there.cls ≠ "java/lang/invoke/VarHandle" ∧ (parseMethodDescriptor yL_there.desc).map (fun d => d.parameters.length) = some 2 := by decide +kernel
set_option maxHeartbeats 4000000 in
set_option maxRecDepth 100000 in
theorem c_L_there (l : Launch) (dC : Nat → ClassId) (dI : Nat → Nat → Nat) (cy : Nat → ClassId) (a0 : Nat) (N0 : Nat) (w0 : Nat → Int32) (p0 : Int32) (res : Int32) (h : G_L_there N0 w0 p0 = some res) : CT l (dC, dI) (TY cy) yL_there cL_there 2 (some .boolean) rm_L_there [.int p0, .ref a0] (wIA a0 cy N0 w0) (wIA a0 cy N0 w0) (some (.int res)) := by
  refine CT.mk_z (own := RL) ⟨by decide, rfl⟩ (Nat.le_of_ble_eq_true rfl) ?_
  intro p e s mm args below meth cd A Q hx hb hml hown htg hN hK hA hP hD hS hE ls hl
  have hl : lv_has ls 2 [(0, .int p0), (1, .ref a0)] := hl
  replace h : _ = some res := h
  unfold G_L_there at h
  obtain ⟨H, hH⟩ : ∃ H, H = s.heap := ⟨_, rfl⟩
  obtain ⟨locs, hlocs⟩ : ∃ locs : List Loc, locs = [] := ⟨_, rfl⟩
  rw [← hlocs] at hS ⊢
  have hS : va_S A s.heap H locs := by rw [hH]; exact hS
  rw [← hH] at hP ⊢
  refine lv_iload_n hx hb dL_there_0 rfl (lv_at hl 0 rfl) ?_
  refine lv_bipush (v := 10) hx hb dL_there_1 (by decide) ?_
  refine lv_idiv hx hb dL_there_3 (by decide) ?_
  refine lv_aload_n hx hb dL_there_4 rfl (lv_at hl 1 rfl) ?_
  refine lv_iconst (v := 0) hx hb dL_there_5 (by decide) ?_
  obtain ⟨v6, e6, h⟩ := bnd h
  refine x_iald (v := v6) hx hb hK hP 0 0 rfl rfl e6 dL_there_6 ?_
  refine lv_icmp_ge (tgt := 29) hx hb dL_there_7 (by decide) (fun c7 => ?_) (fun c7 => ?_)
  · replace h := if_t h c7
    refine lv_iconst (v := 0) hx hb dL_there_29 (by decide) ?_
    obtain rfl := Option.some.inj h
    exact hE H locs 30 ls _ hP hD hS rfl (Or.inl rfl) dL_there_30
  replace h := if_f h c7
  refine lv_iload_n hx hb dL_there_10 rfl (lv_at hl 0 rfl) ?_
  refine lv_bipush (v := 10) hx hb dL_there_11 (by decide) ?_
  refine lv_irem hx hb dL_there_13 (by decide) ?_
  refine lv_aload_n hx hb dL_there_14 rfl (lv_at hl 1 rfl) ?_
  refine lv_iconst (v := 1) hx hb dL_there_15 (by decide) ?_
  refine lv_iload_n hx hb dL_there_16 rfl (lv_at hl 0 rfl) ?_
  refine lv_bipush (v := 10) hx hb dL_there_17 (by decide) ?_
  refine lv_idiv hx hb dL_there_19 (by decide) ?_
  refine lv_iadd hx hb dL_there_20 ?_
  obtain ⟨v21, e21, h⟩ := bnd h
  refine x_iald (v := v21) hx hb hK hP 0 0 rfl rfl e21 dL_there_21 ?_
  refine lv_icmp_ge (tgt := 29) hx hb dL_there_22 (by decide) (fun c22 => ?_) (fun c22 => ?_)
  · replace h := if_t h c22
    refine lv_iconst (v := 0) hx hb dL_there_29 (by decide) ?_
    obtain rfl := Option.some.inj h
    exact hE H locs 30 ls _ hP hD hS rfl (Or.inl rfl) dL_there_30
  replace h := if_f h c22
  refine lv_iconst (v := 1) hx hb dL_there_25 (by decide) ?_
  refine lv_goto (tgt := 30) hx hb dL_there_26 (by decide) ?_
  obtain rfl := Option.some.inj h
  exact hE H locs 30 ls _ hP hD hS rfl (Or.inr rfl) dL_there_30
def G_L_common (p0 : Int32) (p1 : Int32) (p2 : Int32) (p3 : Int32) (p4 : Int32) (p5 : Int32) (p6 : Int32) (p7 : Int32) : Option (Int32) :=
  (G_L_cross p2 p3 p6 p7).bind fun v6 =>
  (G_L_cross (p4 - p0) (p5 - p1) p6 p7).bind fun v23 =>
  (G_L_cross (p4 - p0) (p5 - p1) p2 p3).bind fun v38 =>
  if v6 = 0 then
    if v38 = 0 then
      ((if (((p4 + p6) - p0) * p2) + (((p5 + p7) - p1) * p3) ≤ ((p4 - p0) * p2) + ((p5 - p1) * p3) then
          some ((((p4 + p6) - p0) * p2) + (((p5 + p7) - p1) * p3))
        else
          some (((p4 - p0) * p2) + ((p5 - p1) * p3))) : Option (Int32)).bind fun b193 =>
      ((if (((p4 + p6) - p0) * p2) + (((p5 + p7) - p1) * p3) ≤ ((p4 - p0) * p2) + ((p5 - p1) * p3) then
          some (((p4 - p0) * p2) + ((p5 - p1) * p3))
        else
          some ((((p4 + p6) - p0) * p2) + (((p5 + p7) - p1) * p3))) : Option (Int32)).bind fun b209 =>
      ((if 0 ≤ b193 then
          some b193
        else
          some 0) : Option (Int32)).bind fun b223 =>
      ((if b209 ≤ (p2 * p2) + (p3 * p3) then
          some b209
        else
          some ((p2 * p2) + (p3 * p3))) : Option (Int32)).bind fun b238 =>
      if b223 ≤ b238 then
        if b223 = b238 then
          some 2
        else
          some 3
      else
        some 0
    else
      some 0
  else
    ((if 0 ≤ v6 then
        some 1
      else
        some (-1)) : Option (Int32)).bind fun b50 =>
    if v23 * b50 < 0 then
      some 0
    else
      if v6 * b50 < v23 * b50 then
        some 0
      else
        if v38 * b50 < 0 then
          some 0
        else
          if v38 * b50 ≤ v6 * b50 then
            if v23 * b50 ≤ 0 then
              some 2
            else
              if v6 * b50 ≤ v23 * b50 then
                some 2
              else
                if v38 * b50 ≤ 0 then
                  some 2
                else
                  if v6 * b50 ≤ v38 * b50 then
                    some 2
                  else
                    some 1
          else
            some 0
abbrev rm_L_common : Room := { frames := 1, cells := 0, slots := 0, locals := 23 }
theorem hdS_L_common : yL_common.cls ≠ "java/lang/invoke/MethodHandle" ∧ yL_common.cls ≠ "java/lang/invoke/VarHandle" ∧ (parseMethodDescriptor yL_common.desc).map (fun d => d.parameters.length) = some 8 := by decide +kernel
set_option maxHeartbeats 4000000 in
set_option maxRecDepth 100000 in
theorem c_L_common (l : Launch) (dC : Nat → ClassId) (dI : Nat → Nat → Nat) (cy : Nat → ClassId)  (p0 : Int32) (p1 : Int32) (p2 : Int32) (p3 : Int32) (p4 : Int32) (p5 : Int32) (p6 : Int32) (p7 : Int32) (res : Int32) (h : G_L_common p0 p1 p2 p3 p4 p5 p6 p7 = some res) : CT l (dC, dI) (TY cy) yL_common cL_common 16 (some .int) rm_L_common [.int p0, .int p1, .int p2, .int p3, .int p4, .int p5, .int p6, .int p7] ([]) ([]) (some (.int res)) := by
  refine CT.mk_i (own := RL) ⟨by decide, rfl⟩ (Nat.le_of_ble_eq_true rfl) ?_
  intro p e s mm args below meth cd A Q hx hb hml hown htg hN hK hA hP hD hS hE ls hl
  have hl : lv_has ls 16 [(0, .int p0), (1, .int p1), (2, .int p2), (3, .int p3), (4, .int p4), (5, .int p5), (6, .int p6), (7, .int p7)] := hl
  replace h : _ = some res := h
  unfold G_L_common at h
  obtain ⟨H, hH⟩ : ∃ H, H = s.heap := ⟨_, rfl⟩
  obtain ⟨locs, hlocs⟩ : ∃ locs : List Loc, locs = [] := ⟨_, rfl⟩
  rw [← hlocs] at hS ⊢
  have hS : va_S A s.heap H locs := by rw [hH]; exact hS
  rw [← hH] at hP ⊢
  refine lv_iload_n hx hb dL_common_0 rfl (lv_at hl 2 rfl) ?_
  refine lv_iload_n hx hb dL_common_1 rfl (lv_at hl 3 rfl) ?_
  refine lv_iload hx hb dL_common_2 (lv_at hl 6 rfl) ?_
  refine lv_iload hx hb dL_common_4 (lv_at hl 7 rfl) ?_
  obtain ⟨v6, e6, h⟩ := bnd h
  refine cS (av := [.int p2, .int p3, .int p6, .int p7]) (rest := []) (st1 := [.int v6]) (k1 := 0) (k2 := 0) hx hb hml hown htg hN hK (c_L_cross l dC dI cy   p2 p3 p6 p7 v6 e6) (g_S gw465 gw466 gw6 gw467) hdS_L_cross rfl ⟨⟨Nat.le_of_ble_eq_true rfl, Nat.le_of_ble_eq_true rfl⟩, Nat.le_of_ble_eq_true rfl, Nat.le_of_ble_eq_true rfl⟩ hP hD hS hA [] [] rfl rfl rfl (by decide) (by decide) hl.1 rfl (Nat.le_of_ble_eq_true rfl) rfl rfl rfl dL_common_6 (fun H locs hP hD hS => ?_)
  have hP : va_P (dC, dI) vwCl ([]) H := hP
  have hD : va_D A ([]) := hD
  refine lv_istore (lv' := [(8, .int v6), (0, .int p0), (1, .int p1), (2, .int p2), (3, .int p3), (4, .int p4), (5, .int p5), (6, .int p6), (7, .int p7)]) hx hb dL_common_9 hl (by decide) rfl (fun ls hl => ?_)
  refine lv_iload hx hb dL_common_11 (lv_at hl 5 rfl) ?_
  refine lv_iload_n hx hb dL_common_13 rfl (lv_at hl 1 rfl) ?_
  refine lv_isub hx hb dL_common_14 ?_
  refine lv_iload hx hb dL_common_15 (lv_at hl 6 rfl) ?_
  refine lv_iload_n hx hb dL_common_17 rfl (lv_at hl 2 rfl) ?_
  refine lv_isub hx hb dL_common_18 ?_
  refine lv_iload hx hb dL_common_19 (lv_at hl 7 rfl) ?_
  refine lv_iload hx hb dL_common_21 (lv_at hl 8 rfl) ?_
  obtain ⟨v23, e23, h⟩ := bnd h
  refine cS (av := [.int (p4 - p0), .int (p5 - p1), .int p6, .int p7]) (rest := []) (st1 := [.int v23]) (k1 := 0) (k2 := 0) hx hb hml hown htg hN hK (c_L_cross l dC dI cy   (p4 - p0) (p5 - p1) p6 p7 v23 e23) (g_S gw465 gw466 gw6 gw467) hdS_L_cross rfl ⟨⟨Nat.le_of_ble_eq_true rfl, Nat.le_of_ble_eq_true rfl⟩, Nat.le_of_ble_eq_true rfl, Nat.le_of_ble_eq_true rfl⟩ hP hD hS hA [] [] rfl rfl rfl (by decide) (by decide) hl.1 rfl (Nat.le_of_ble_eq_true rfl) rfl rfl rfl dL_common_23 (fun H locs hP hD hS => ?_)
  have hP : va_P (dC, dI) vwCl ([]) H := hP
  have hD : va_D A ([]) := hD
  refine lv_istore (lv' := [(9, .int v23), (8, .int v6), (0, .int p0), (1, .int p1), (2, .int p2), (3, .int p3), (4, .int p4), (5, .int p5), (6, .int p6), (7, .int p7)]) hx hb dL_common_26 hl (by decide) rfl (fun ls hl => ?_)
  refine lv_iload hx hb dL_common_28 (lv_at hl 6 rfl) ?_
  refine lv_iload_n hx hb dL_common_30 rfl (lv_at hl 2 rfl) ?_
  refine lv_isub hx hb dL_common_31 ?_
  refine lv_iload hx hb dL_common_32 (lv_at hl 7 rfl) ?_
  refine lv_iload_n hx hb dL_common_34 rfl (lv_at hl 3 rfl) ?_
  refine lv_isub hx hb dL_common_35 ?_
  refine lv_iload_n hx hb dL_common_36 rfl (lv_at hl 4 rfl) ?_
  refine lv_iload_n hx hb dL_common_37 rfl (lv_at hl 5 rfl) ?_
  obtain ⟨v38, e38, h⟩ := bnd h
  refine cS (av := [.int (p4 - p0), .int (p5 - p1), .int p2, .int p3]) (rest := []) (st1 := [.int v38]) (k1 := 0) (k2 := 0) hx hb hml hown htg hN hK (c_L_cross l dC dI cy   (p4 - p0) (p5 - p1) p2 p3 v38 e38) (g_S gw465 gw466 gw6 gw467) hdS_L_cross rfl ⟨⟨Nat.le_of_ble_eq_true rfl, Nat.le_of_ble_eq_true rfl⟩, Nat.le_of_ble_eq_true rfl, Nat.le_of_ble_eq_true rfl⟩ hP hD hS hA [] [] rfl rfl rfl (by decide) (by decide) hl.1 rfl (Nat.le_of_ble_eq_true rfl) rfl rfl rfl dL_common_38 (fun H locs hP hD hS => ?_)
  have hP : va_P (dC, dI) vwCl ([]) H := hP
  have hD : va_D A ([]) := hD
  refine lv_istore (lv' := [(10, .int v38), (9, .int v23), (8, .int v6), (0, .int p0), (1, .int p1), (2, .int p2), (3, .int p3), (4, .int p4), (5, .int p5), (6, .int p6), (7, .int p7)]) hx hb dL_common_41 hl (by decide) rfl (fun ls hl => ?_)
  refine lv_iload hx hb dL_common_43 (lv_at hl 2 rfl) ?_
  refine lv_if_eq (tgt := 137) hx hb dL_common_45 (by decide) (fun c45 => ?_) (fun c45 => ?_)
  · replace h := if_t h c45
    refine lv_iload hx hb dL_common_137 (lv_at hl 0 rfl) ?_
    refine lv_if_eq (tgt := 144) hx hb dL_common_139 (by decide) (fun c139 => ?_) (fun c139 => ?_)
    · replace h := if_t h c139
      refine lv_iload_n hx hb dL_common_144 rfl (lv_at hl 5 rfl) ?_
      refine lv_iload_n hx hb dL_common_145 rfl (lv_at hl 5 rfl) ?_
      refine lv_imul hx hb dL_common_146 ?_
      refine lv_iload_n hx hb dL_common_147 rfl (lv_at hl 6 rfl) ?_
      refine lv_iload_n hx hb dL_common_148 rfl (lv_at hl 6 rfl) ?_
      refine lv_imul hx hb dL_common_149 ?_
      refine lv_iadd hx hb dL_common_150 ?_
      refine lv_istore (lv' := [(11, .int ((p2 * p2) + (p3 * p3))), (10, .int v38), (9, .int v23), (8, .int v6), (0, .int p0), (1, .int p1), (2, .int p2), (3, .int p3), (4, .int p4), (5, .int p5), (6, .int p6), (7, .int p7)]) hx hb dL_common_151 hl (by decide) rfl (fun ls hl => ?_)
      refine lv_iload hx hb dL_common_153 (lv_at hl 8 rfl) ?_
      refine lv_iload_n hx hb dL_common_155 rfl (lv_at hl 4 rfl) ?_
      refine lv_isub hx hb dL_common_156 ?_
      refine lv_iload_n hx hb dL_common_157 rfl (lv_at hl 6 rfl) ?_
      refine lv_imul hx hb dL_common_158 ?_
      refine lv_iload hx hb dL_common_159 (lv_at hl 9 rfl) ?_
      refine lv_iload_n hx hb dL_common_161 rfl (lv_at hl 5 rfl) ?_
      refine lv_isub hx hb dL_common_162 ?_
      refine lv_iload_n hx hb dL_common_163 rfl (lv_at hl 7 rfl) ?_
      refine lv_imul hx hb dL_common_164 ?_
      refine lv_iadd hx hb dL_common_165 ?_
      refine lv_istore (lv' := [(12, .int (((p4 - p0) * p2) + ((p5 - p1) * p3))), (11, .int ((p2 * p2) + (p3 * p3))), (10, .int v38), (9, .int v23), (8, .int v6), (0, .int p0), (1, .int p1), (2, .int p2), (3, .int p3), (4, .int p4), (5, .int p5), (6, .int p6), (7, .int p7)]) hx hb dL_common_166 hl (by decide) rfl (fun ls hl => ?_)
      refine lv_iload hx hb dL_common_168 (lv_at hl 9 rfl) ?_
      refine lv_iload hx hb dL_common_170 (lv_at hl 11 rfl) ?_
      refine lv_iadd hx hb dL_common_172 ?_
      refine lv_iload_n hx hb dL_common_173 rfl (lv_at hl 5 rfl) ?_
      refine lv_isub hx hb dL_common_174 ?_
      refine lv_iload_n hx hb dL_common_175 rfl (lv_at hl 7 rfl) ?_
      refine lv_imul hx hb dL_common_176 ?_
      refine lv_iload hx hb dL_common_177 (lv_at hl 10 rfl) ?_
      refine lv_iload hx hb dL_common_179 (lv_at hl 12 rfl) ?_
      refine lv_iadd hx hb dL_common_181 ?_
      refine lv_iload_n hx hb dL_common_182 rfl (lv_at hl 6 rfl) ?_
      refine lv_isub hx hb dL_common_183 ?_
      refine lv_iload_n hx hb dL_common_184 rfl (lv_at hl 8 rfl) ?_
      refine lv_imul hx hb dL_common_185 ?_
      refine lv_iadd hx hb dL_common_186 ?_
      refine lv_istore (lv' := [(13, .int ((((p4 + p6) - p0) * p2) + (((p5 + p7) - p1) * p3))), (12, .int (((p4 - p0) * p2) + ((p5 - p1) * p3))), (11, .int ((p2 * p2) + (p3 * p3))), (10, .int v38), (9, .int v23), (8, .int v6), (0, .int p0), (1, .int p1), (2, .int p2), (3, .int p3), (4, .int p4), (5, .int p5), (6, .int p6), (7, .int p7)]) hx hb dL_common_187 hl (by decide) rfl (fun ls hl => ?_)
      refine lv_iload hx hb dL_common_189 (lv_at hl 1 rfl) ?_
      refine lv_iload hx hb dL_common_191 (lv_at hl 0 rfl) ?_
      obtain ⟨b193, e193, h⟩ := bnd h
      have hr203 : ∀ (H : Heap) (locs : List Loc) (ls : Array Slot), va_P (dC, dI) vwCl ([]) H → va_D A ([]) → va_S A s.heap H locs → lv_has ls 16 [(13, .int ((((p4 + p6) - p0) * p2) + (((p5 + p7) - p1) * p3))), (12, .int (((p4 - p0) * p2) + ((p5 - p1) * p3))), (11, .int ((p2 * p2) + (p3 * p3))), (10, .int v38), (9, .int v23), (8, .int v6), (0, .int p0), (1, .int p1), (2, .int p2), (3, .int p3), (4, .int p4), (5, .int p5), (6, .int p6), (7, .int p7)] → W p l e rm_L_common s mm args below meth cd H locs 0 0 Q (F0 mm 203 ls [.int b193]) := by
        intro H locs ls hP hD hS hl
        refine lv_istore (lv' := [(14, .int b193), (13, .int ((((p4 + p6) - p0) * p2) + (((p5 + p7) - p1) * p3))), (12, .int (((p4 - p0) * p2) + ((p5 - p1) * p3))), (11, .int ((p2 * p2) + (p3 * p3))), (10, .int v38), (9, .int v23), (8, .int v6), (0, .int p0), (1, .int p1), (2, .int p2), (3, .int p3), (4, .int p4), (5, .int p5), (6, .int p6), (7, .int p7)]) hx hb dL_common_203 hl (by decide) rfl (fun ls hl => ?_)
        refine lv_iload hx hb dL_common_205 (lv_at hl 2 rfl) ?_
        refine lv_iload hx hb dL_common_207 (lv_at hl 1 rfl) ?_
        obtain ⟨b209, e209, h⟩ := bnd h
        have hr219 : ∀ (H : Heap) (locs : List Loc) (ls : Array Slot), va_P (dC, dI) vwCl ([]) H → va_D A ([]) → va_S A s.heap H locs → lv_has ls 16 [(14, .int b193), (13, .int ((((p4 + p6) - p0) * p2) + (((p5 + p7) - p1) * p3))), (12, .int (((p4 - p0) * p2) + ((p5 - p1) * p3))), (11, .int ((p2 * p2) + (p3 * p3))), (10, .int v38), (9, .int v23), (8, .int v6), (0, .int p0), (1, .int p1), (2, .int p2), (3, .int p3), (4, .int p4), (5, .int p5), (6, .int p6), (7, .int p7)] → W p l e rm_L_common s mm args below meth cd H locs 0 0 Q (F0 mm 219 ls [.int b209]) := by
          intro H locs ls hP hD hS hl
          refine lv_istore (lv' := [(15, .int b209), (14, .int b193), (13, .int ((((p4 + p6) - p0) * p2) + (((p5 + p7) - p1) * p3))), (12, .int (((p4 - p0) * p2) + ((p5 - p1) * p3))), (11, .int ((p2 * p2) + (p3 * p3))), (10, .int v38), (9, .int v23), (8, .int v6), (0, .int p0), (1, .int p1), (2, .int p2), (3, .int p3), (4, .int p4), (5, .int p5), (6, .int p6), (7, .int p7)]) hx hb dL_common_219 hl (by decide) rfl (fun ls hl => ?_)
          refine lv_iload hx hb dL_common_221 (lv_at hl 1 rfl) ?_
          obtain ⟨b223, e223, h⟩ := bnd h
          have hr232 : ∀ (H : Heap) (locs : List Loc) (ls : Array Slot), va_P (dC, dI) vwCl ([]) H → va_D A ([]) → va_S A s.heap H locs → lv_has ls 16 [(15, .int b209), (14, .int b193), (13, .int ((((p4 + p6) - p0) * p2) + (((p5 + p7) - p1) * p3))), (12, .int (((p4 - p0) * p2) + ((p5 - p1) * p3))), (11, .int ((p2 * p2) + (p3 * p3))), (10, .int v38), (9, .int v23), (8, .int v6), (0, .int p0), (1, .int p1), (2, .int p2), (3, .int p3), (4, .int p4), (5, .int p5), (6, .int p6), (7, .int p7)] → W p l e rm_L_common s mm args below meth cd H locs 0 0 Q (F0 mm 232 ls [.int b223]) := by
            intro H locs ls hP hD hS hl
            refine lv_istore (lv' := [(14, .int b223), (15, .int b209), (13, .int ((((p4 + p6) - p0) * p2) + (((p5 + p7) - p1) * p3))), (12, .int (((p4 - p0) * p2) + ((p5 - p1) * p3))), (11, .int ((p2 * p2) + (p3 * p3))), (10, .int v38), (9, .int v23), (8, .int v6), (0, .int p0), (1, .int p1), (2, .int p2), (3, .int p3), (4, .int p4), (5, .int p5), (6, .int p6), (7, .int p7)]) hx hb dL_common_232 hl (by decide) rfl (fun ls hl => ?_)
            refine lv_iload hx hb dL_common_234 (lv_at hl 1 rfl) ?_
            refine lv_iload hx hb dL_common_236 (lv_at hl 4 rfl) ?_
            obtain ⟨b238, e238, h⟩ := bnd h
            have hr248 : ∀ (H : Heap) (locs : List Loc) (ls : Array Slot), va_P (dC, dI) vwCl ([]) H → va_D A ([]) → va_S A s.heap H locs → lv_has ls 16 [(14, .int b223), (15, .int b209), (13, .int ((((p4 + p6) - p0) * p2) + (((p5 + p7) - p1) * p3))), (12, .int (((p4 - p0) * p2) + ((p5 - p1) * p3))), (11, .int ((p2 * p2) + (p3 * p3))), (10, .int v38), (9, .int v23), (8, .int v6), (0, .int p0), (1, .int p1), (2, .int p2), (3, .int p3), (4, .int p4), (5, .int p5), (6, .int p6), (7, .int p7)] → W p l e rm_L_common s mm args below meth cd H locs 0 0 Q (F0 mm 248 ls [.int b238]) := by
              intro H locs ls hP hD hS hl
              refine lv_istore (lv' := [(15, .int b238), (14, .int b223), (13, .int ((((p4 + p6) - p0) * p2) + (((p5 + p7) - p1) * p3))), (12, .int (((p4 - p0) * p2) + ((p5 - p1) * p3))), (11, .int ((p2 * p2) + (p3 * p3))), (10, .int v38), (9, .int v23), (8, .int v6), (0, .int p0), (1, .int p1), (2, .int p2), (3, .int p3), (4, .int p4), (5, .int p5), (6, .int p6), (7, .int p7)]) hx hb dL_common_248 hl (by decide) rfl (fun ls hl => ?_)
              refine lv_iload hx hb dL_common_250 (lv_at hl 1 rfl) ?_
              refine lv_iload hx hb dL_common_252 (lv_at hl 0 rfl) ?_
              refine lv_icmp_le (tgt := 261) hx hb dL_common_254 (by decide) (fun c254 => ?_) (fun c254 => ?_)
              · replace h := if_t h c254
                refine lv_iload hx hb dL_common_261 (lv_at hl 1 rfl) ?_
                refine lv_iload hx hb dL_common_263 (lv_at hl 0 rfl) ?_
                refine lv_icmp_ne (tgt := 272) hx hb dL_common_265 (by decide) (fun c265 => ?_) (fun c265 => ?_)
                · replace h := if_f h c265
                  refine lv_iconst (v := 3) hx hb dL_common_272 (by decide) ?_
                  obtain rfl := Option.some.inj h
                  exact hE H locs 273 ls _ hP hD hS rfl dL_common_273
                replace h := if_t h c265
                refine lv_iconst (v := 2) hx hb dL_common_268 (by decide) ?_
                refine lv_goto (tgt := 273) hx hb dL_common_269 (by decide) ?_
                obtain rfl := Option.some.inj h
                exact hE H locs 273 ls _ hP hD hS rfl dL_common_273
              replace h := if_f h c254
              refine lv_iconst (v := 0) hx hb dL_common_257 (by decide) ?_
              refine lv_goto (tgt := 273) hx hb dL_common_258 (by decide) ?_
              obtain rfl := Option.some.inj h
              exact hE H locs 273 ls _ hP hD hS rfl dL_common_273
            have h := e238
            clear e238
            refine lv_icmp_le (tgt := 246) hx hb dL_common_238 (by decide) (fun c238 => ?_) (fun c238 => ?_)
            · replace h := if_t h c238
              refine lv_iload hx hb dL_common_246 (lv_at hl 1 rfl) ?_
              obtain rfl := Option.some.inj h
              exact hr248 H locs ls hP hD hS hl
            replace h := if_f h c238
            refine lv_iload hx hb dL_common_241 (lv_at hl 4 rfl) ?_
            refine lv_goto (tgt := 248) hx hb dL_common_243 (by decide) ?_
            obtain rfl := Option.some.inj h
            exact hr248 H locs ls hP hD hS hl
          have h := e223
          clear e223
          refine lv_if_ge (tgt := 230) hx hb dL_common_223 (by decide) (fun c223 => ?_) (fun c223 => ?_)
          · replace h := if_t h c223
            refine lv_iload hx hb dL_common_230 (lv_at hl 1 rfl) ?_
            obtain rfl := Option.some.inj h
            exact hr232 H locs ls hP hD hS hl
          replace h := if_f h c223
          refine lv_iconst (v := 0) hx hb dL_common_226 (by decide) ?_
          refine lv_goto (tgt := 232) hx hb dL_common_227 (by decide) ?_
          obtain rfl := Option.some.inj h
          exact hr232 H locs ls hP hD hS hl
        have h := e209
        clear e209
        refine lv_icmp_ge (tgt := 217) hx hb dL_common_209 (by decide) (fun c209 => ?_) (fun c209 => ?_)
        · replace h := if_t h c209
          refine lv_iload hx hb dL_common_217 (lv_at hl 2 rfl) ?_
          obtain rfl := Option.some.inj h
          exact hr219 H locs ls hP hD hS hl
        replace h := if_f h c209
        refine lv_iload hx hb dL_common_212 (lv_at hl 1 rfl) ?_
        refine lv_goto (tgt := 219) hx hb dL_common_214 (by decide) ?_
        obtain rfl := Option.some.inj h
        exact hr219 H locs ls hP hD hS hl
      have h := e193
      clear e193
      refine lv_icmp_ge (tgt := 201) hx hb dL_common_193 (by decide) (fun c193 => ?_) (fun c193 => ?_)
      · replace h := if_t h c193
        refine lv_iload hx hb dL_common_201 (lv_at hl 0 rfl) ?_
        obtain rfl := Option.some.inj h
        exact hr203 H locs ls hP hD hS hl
      replace h := if_f h c193
      refine lv_iload hx hb dL_common_196 (lv_at hl 1 rfl) ?_
      refine lv_goto (tgt := 203) hx hb dL_common_198 (by decide) ?_
      obtain rfl := Option.some.inj h
      exact hr203 H locs ls hP hD hS hl
    replace h := if_f h c139
    refine lv_iconst (v := 0) hx hb dL_common_142 (by decide) ?_
    obtain rfl := Option.some.inj h
    exact hE H locs 143 ls _ hP hD hS rfl dL_common_143
  replace h := if_f h c45
  refine lv_iload hx hb dL_common_48 (lv_at hl 2 rfl) ?_
  obtain ⟨b50, e50, h⟩ := bnd h
  have hr58 : ∀ (H : Heap) (locs : List Loc) (ls : Array Slot), va_P (dC, dI) vwCl ([]) H → va_D A ([]) → va_S A s.heap H locs → lv_has ls 16 [(10, .int v38), (9, .int v23), (8, .int v6), (0, .int p0), (1, .int p1), (2, .int p2), (3, .int p3), (4, .int p4), (5, .int p5), (6, .int p6), (7, .int p7)] → W p l e rm_L_common s mm args below meth cd H locs 0 0 Q (F0 mm 58 ls [.int b50]) := by
    intro H locs ls hP hD hS hl
    refine lv_istore (lv' := [(11, .int b50), (10, .int v38), (9, .int v23), (8, .int v6), (0, .int p0), (1, .int p1), (2, .int p2), (3, .int p3), (4, .int p4), (5, .int p5), (6, .int p6), (7, .int p7)]) hx hb dL_common_58 hl (by decide) rfl (fun ls hl => ?_)
    refine lv_iload hx hb dL_common_60 (lv_at hl 2 rfl) ?_
    refine lv_iload hx hb dL_common_62 (lv_at hl 0 rfl) ?_
    refine lv_imul hx hb dL_common_64 ?_
    refine lv_istore (lv' := [(9, .int (v23 * b50)), (11, .int b50), (10, .int v38), (8, .int v6), (0, .int p0), (1, .int p1), (2, .int p2), (3, .int p3), (4, .int p4), (5, .int p5), (6, .int p6), (7, .int p7)]) hx hb dL_common_65 hl (by decide) rfl (fun ls hl => ?_)
    refine lv_iload hx hb dL_common_67 (lv_at hl 2 rfl) ?_
    refine lv_iload hx hb dL_common_69 (lv_at hl 1 rfl) ?_
    refine lv_imul hx hb dL_common_71 ?_
    refine lv_istore (lv' := [(10, .int (v38 * b50)), (9, .int (v23 * b50)), (11, .int b50), (8, .int v6), (0, .int p0), (1, .int p1), (2, .int p2), (3, .int p3), (4, .int p4), (5, .int p5), (6, .int p6), (7, .int p7)]) hx hb dL_common_72 hl (by decide) rfl (fun ls hl => ?_)
    refine lv_iload hx hb dL_common_74 (lv_at hl 3 rfl) ?_
    refine lv_iload hx hb dL_common_76 (lv_at hl 2 rfl) ?_
    refine lv_imul hx hb dL_common_78 ?_
    refine lv_istore (lv' := [(8, .int (v6 * b50)), (10, .int (v38 * b50)), (9, .int (v23 * b50)), (11, .int b50), (0, .int p0), (1, .int p1), (2, .int p2), (3, .int p3), (4, .int p4), (5, .int p5), (6, .int p6), (7, .int p7)]) hx hb dL_common_79 hl (by decide) rfl (fun ls hl => ?_)
    refine lv_iload hx hb dL_common_81 (lv_at hl 2 rfl) ?_
    refine lv_if_lt (tgt := 105) hx hb dL_common_83 (by decide) (fun c83 => ?_) (fun c83 => ?_)
    · replace h := if_t h c83
      refine lv_iconst (v := 0) hx hb dL_common_105 (by decide) ?_
      obtain rfl := Option.some.inj h
      exact hE H locs 106 ls _ hP hD hS rfl dL_common_106
    replace h := if_f h c83
    refine lv_iload hx hb dL_common_86 (lv_at hl 2 rfl) ?_
    refine lv_iload hx hb dL_common_88 (lv_at hl 0 rfl) ?_
    refine lv_icmp_gt (tgt := 105) hx hb dL_common_90 (by decide) (fun c90 => ?_) (fun c90 => ?_)
    · replace h := if_t h c90
      refine lv_iconst (v := 0) hx hb dL_common_105 (by decide) ?_
      obtain rfl := Option.some.inj h
      exact hE H locs 106 ls _ hP hD hS rfl dL_common_106
    replace h := if_f h c90
    refine lv_iload hx hb dL_common_93 (lv_at hl 1 rfl) ?_
    refine lv_if_lt (tgt := 105) hx hb dL_common_95 (by decide) (fun c95 => ?_) (fun c95 => ?_)
    · replace h := if_t h c95
      refine lv_iconst (v := 0) hx hb dL_common_105 (by decide) ?_
      obtain rfl := Option.some.inj h
      exact hE H locs 106 ls _ hP hD hS rfl dL_common_106
    replace h := if_f h c95
    refine lv_iload hx hb dL_common_98 (lv_at hl 1 rfl) ?_
    refine lv_iload hx hb dL_common_100 (lv_at hl 0 rfl) ?_
    refine lv_icmp_le (tgt := 107) hx hb dL_common_102 (by decide) (fun c102 => ?_) (fun c102 => ?_)
    · replace h := if_t h c102
      refine lv_iload hx hb dL_common_107 (lv_at hl 2 rfl) ?_
      refine lv_if_le (tgt := 135) hx hb dL_common_109 (by decide) (fun c109 => ?_) (fun c109 => ?_)
      · replace h := if_t h c109
        refine lv_iconst (v := 2) hx hb dL_common_135 (by decide) ?_
        obtain rfl := Option.some.inj h
        exact hE H locs 136 ls _ hP hD hS rfl dL_common_136
      replace h := if_f h c109
      refine lv_iload hx hb dL_common_112 (lv_at hl 2 rfl) ?_
      refine lv_iload hx hb dL_common_114 (lv_at hl 0 rfl) ?_
      refine lv_icmp_ge (tgt := 135) hx hb dL_common_116 (by decide) (fun c116 => ?_) (fun c116 => ?_)
      · replace h := if_t h c116
        refine lv_iconst (v := 2) hx hb dL_common_135 (by decide) ?_
        obtain rfl := Option.some.inj h
        exact hE H locs 136 ls _ hP hD hS rfl dL_common_136
      replace h := if_f h c116
      refine lv_iload hx hb dL_common_119 (lv_at hl 1 rfl) ?_
      refine lv_if_le (tgt := 135) hx hb dL_common_121 (by decide) (fun c121 => ?_) (fun c121 => ?_)
      · replace h := if_t h c121
        refine lv_iconst (v := 2) hx hb dL_common_135 (by decide) ?_
        obtain rfl := Option.some.inj h
        exact hE H locs 136 ls _ hP hD hS rfl dL_common_136
      replace h := if_f h c121
      refine lv_iload hx hb dL_common_124 (lv_at hl 1 rfl) ?_
      refine lv_iload hx hb dL_common_126 (lv_at hl 0 rfl) ?_
      refine lv_icmp_ge (tgt := 135) hx hb dL_common_128 (by decide) (fun c128 => ?_) (fun c128 => ?_)
      · replace h := if_t h c128
        refine lv_iconst (v := 2) hx hb dL_common_135 (by decide) ?_
        obtain rfl := Option.some.inj h
        exact hE H locs 136 ls _ hP hD hS rfl dL_common_136
      replace h := if_f h c128
      refine lv_iconst (v := 1) hx hb dL_common_131 (by decide) ?_
      refine lv_goto (tgt := 136) hx hb dL_common_132 (by decide) ?_
      obtain rfl := Option.some.inj h
      exact hE H locs 136 ls _ hP hD hS rfl dL_common_136
    replace h := if_f h c102
    refine lv_iconst (v := 0) hx hb dL_common_105 (by decide) ?_
    obtain rfl := Option.some.inj h
    exact hE H locs 106 ls _ hP hD hS rfl dL_common_106
  have h := e50
  clear e50
  refine lv_if_ge (tgt := 57) hx hb dL_common_50 (by decide) (fun c50 => ?_) (fun c50 => ?_)
  · replace h := if_t h c50
    refine lv_iconst (v := 1) hx hb dL_common_57 (by decide) ?_
    obtain rfl := Option.some.inj h
    exact hr58 H locs ls hP hD hS hl
  replace h := if_f h c50
  refine lv_iconst (v := (-1)) hx hb dL_common_53 (by decide) ?_
  refine lv_goto (tgt := 58) hx hb dL_common_54 (by decide) ?_
  obtain rfl := Option.some.inj h
  exact hr58 H locs ls hP hD hS hl
def G_L_sides (N0 : Nat) (N1 : Nat) (N2 : Nat) (w0 : Nat → Int32) (w1 : Nat → Int32) (w2 : Nat → Int32) (p0 : Int32) (p1 : Int32) : Option (Int32) :=
  (G_L_next N0 w0 p0).bind fun v2 =>
  (G_L_next N0 w0 p1).bind fun v9 =>
  (rd N1 w1 p0).bind fun v16 =>
  (rd N2 w2 p0).bind fun v20 =>
  (rd N1 w1 v2).bind fun v24 =>
  (rd N1 w1 p0).bind fun v27 =>
  (rd N2 w2 v2).bind fun v33 =>
  (rd N2 w2 p0).bind fun v37 =>
  (rd N1 w1 p1).bind fun v41 =>
  (rd N2 w2 p1).bind fun v45 =>
  (rd N1 w1 v9).bind fun v49 =>
  (rd N1 w1 p1).bind fun v52 =>
  (rd N2 w2 v9).bind fun v58 =>
  (rd N2 w2 p1).bind fun v62 =>
  (G_L_common v16 v20 (v24 - v27) (v33 - v37) v41 v45 (v49 - v52) (v58 - v62)).bind fun v64 =>
  some v64
abbrev rm_L_sides : Room := { frames := 2, cells := 0, slots := 0, locals := 58 }
theorem hdS_L_sides : yL_sides.cls ≠ "java/lang/invoke/MethodHandle" ∧ yL_sides.cls ≠ "java/lang/invoke/VarHandle" ∧ (parseMethodDescriptor yL_sides.desc).map (fun d => d.parameters.length) = some 5 := by decide +kernel
set_option maxHeartbeats 4000000 in
set_option maxRecDepth 100000 in
theorem c_L_sides (l : Launch) (dC : Nat → ClassId) (dI : Nat → Nat → Nat) (cy : Nat → ClassId) (a0 : Nat) (a1 : Nat) (a2 : Nat) (N0 : Nat) (N1 : Nat) (N2 : Nat) (w0 : Nat → Int32) (w1 : Nat → Int32) (w2 : Nat → Int32) (p0 : Int32) (p1 : Int32) (res : Int32) (h : G_L_sides N0 N1 N2 w0 w1 w2 p0 p1 = some res) : CT l (dC, dI) (TY cy) yL_sides cL_sides 7 (some .int) rm_L_sides [.int p0, .int p1, .ref a0, .ref a1, .ref a2] (wIA a0 cy N0 w0 ++ wIA a1 cy N1 w1 ++ wIA a2 cy N2 w2) (wIA a0 cy N0 w0 ++ wIA a1 cy N1 w1 ++ wIA a2 cy N2 w2) (some (.int res)) := by
  refine CT.mk_i (own := RL) ⟨by decide, rfl⟩ (Nat.le_of_ble_eq_true rfl) ?_
  intro p e s mm args below meth cd A Q hx hb hml hown htg hN hK hA hP hD hS hE ls hl
  have hl : lv_has ls 7 [(0, .int p0), (1, .int p1), (2, .ref a0), (3, .ref a1), (4, .ref a2)] := hl
  replace h : _ = some res := h
  unfold G_L_sides at h
  obtain ⟨H, hH⟩ : ∃ H, H = s.heap := ⟨_, rfl⟩
  obtain ⟨locs, hlocs⟩ : ∃ locs : List Loc, locs = [] := ⟨_, rfl⟩
  rw [← hlocs] at hS ⊢
  have hS : va_S A s.heap H locs := by rw [hH]; exact hS
  rw [← hH] at hP ⊢
  refine lv_iload_n hx hb dL_sides_0 rfl (lv_at hl 0 rfl) ?_
  refine lv_aload_n hx hb dL_sides_1 rfl (lv_at hl 2 rfl) ?_
  obtain ⟨v2, e2, h⟩ := bnd h
  refine cS (av := [.int p0, .ref a0]) (rest := []) (st1 := [.int v2]) (k1 := 0) (k2 := 0) hx hb hml hown htg hN hK (c_L_next l dC dI cy a0 N0 w0 p0 v2 e2) (g_S gw456 gw457 gw6 gw458) hdS_L_next rfl ⟨⟨Nat.le_of_ble_eq_true rfl, Nat.le_of_ble_eq_true rfl⟩, Nat.le_of_ble_eq_true rfl, Nat.le_of_ble_eq_true rfl⟩ hP hD hS hA [0] [1, 2] rfl rfl rfl (by decide) (by decide) hl.1 rfl (Nat.le_of_ble_eq_true rfl) rfl rfl rfl dL_sides_2 (fun H locs hP hD hS => ?_)
  obtain ⟨hP, hD⟩ := x_perm (ws' := wIA a0 cy N0 w0 ++ wIA a1 cy N1 w1 ++ wIA a2 cy N2 w2) hP hD [2, 0, 1] (by decide) rfl rfl
  refine lv_istore (lv' := [(5, .int v2), (0, .int p0), (1, .int p1), (2, .ref a0), (3, .ref a1), (4, .ref a2)]) hx hb dL_sides_5 hl (by decide) rfl (fun ls hl => ?_)
  refine lv_iload_n hx hb dL_sides_7 rfl (lv_at hl 2 rfl) ?_
  refine lv_aload_n hx hb dL_sides_8 rfl (lv_at hl 3 rfl) ?_
  obtain ⟨v9, e9, h⟩ := bnd h
  refine cS (av := [.int p1, .ref a0]) (rest := []) (st1 := [.int v9]) (k1 := 0) (k2 := 0) hx hb hml hown htg hN hK (c_L_next l dC dI cy a0 N0 w0 p1 v9 e9) (g_S gw456 gw457 gw6 gw458) hdS_L_next rfl ⟨⟨Nat.le_of_ble_eq_true rfl, Nat.le_of_ble_eq_true rfl⟩, Nat.le_of_ble_eq_true rfl, Nat.le_of_ble_eq_true rfl⟩ hP hD hS hA [0] [1, 2] rfl rfl rfl (by decide) (by decide) hl.1 rfl (Nat.le_of_ble_eq_true rfl) rfl rfl rfl dL_sides_9 (fun H locs hP hD hS => ?_)
  obtain ⟨hP, hD⟩ := x_perm (ws' := wIA a0 cy N0 w0 ++ wIA a1 cy N1 w1 ++ wIA a2 cy N2 w2) hP hD [2, 0, 1] (by decide) rfl rfl
  refine lv_istore (lv' := [(6, .int v9), (5, .int v2), (0, .int p0), (1, .int p1), (2, .ref a0), (3, .ref a1), (4, .ref a2)]) hx hb dL_sides_12 hl (by decide) rfl (fun ls hl => ?_)
  refine lv_aload_n hx hb dL_sides_14 rfl (lv_at hl 5 rfl) ?_
  refine lv_iload_n hx hb dL_sides_15 rfl (lv_at hl 2 rfl) ?_
  obtain ⟨v16, e16, h⟩ := bnd h
  refine x_iald (v := v16) hx hb hK hP 1 0 rfl rfl e16 dL_sides_16 ?_
  refine lv_aload hx hb dL_sides_17 (lv_at hl 6 rfl) ?_
  refine lv_iload_n hx hb dL_sides_19 rfl (lv_at hl 2 rfl) ?_
  obtain ⟨v20, e20, h⟩ := bnd h
  refine x_iald (v := v20) hx hb hK hP 2 0 rfl rfl e20 dL_sides_20 ?_
  refine lv_aload_n hx hb dL_sides_21 rfl (lv_at hl 5 rfl) ?_
  refine lv_iload hx hb dL_sides_22 (lv_at hl 1 rfl) ?_
  obtain ⟨v24, e24, h⟩ := bnd h
  refine x_iald (v := v24) hx hb hK hP 1 0 rfl rfl e24 dL_sides_24 ?_
  refine lv_aload_n hx hb dL_sides_25 rfl (lv_at hl 5 rfl) ?_
  refine lv_iload_n hx hb dL_sides_26 rfl (lv_at hl 2 rfl) ?_
  obtain ⟨v27, e27, h⟩ := bnd h
  refine x_iald (v := v27) hx hb hK hP 1 0 rfl rfl e27 dL_sides_27 ?_
  refine lv_isub hx hb dL_sides_28 ?_
  refine lv_aload hx hb dL_sides_29 (lv_at hl 6 rfl) ?_
  refine lv_iload hx hb dL_sides_31 (lv_at hl 1 rfl) ?_
  obtain ⟨v33, e33, h⟩ := bnd h
  refine x_iald (v := v33) hx hb hK hP 2 0 rfl rfl e33 dL_sides_33 ?_
  refine lv_aload hx hb dL_sides_34 (lv_at hl 6 rfl) ?_
  refine lv_iload_n hx hb dL_sides_36 rfl (lv_at hl 2 rfl) ?_
  obtain ⟨v37, e37, h⟩ := bnd h
  refine x_iald (v := v37) hx hb hK hP 2 0 rfl rfl e37 dL_sides_37 ?_
  refine lv_isub hx hb dL_sides_38 ?_
  refine lv_aload_n hx hb dL_sides_39 rfl (lv_at hl 5 rfl) ?_
  refine lv_iload_n hx hb dL_sides_40 rfl (lv_at hl 3 rfl) ?_
  obtain ⟨v41, e41, h⟩ := bnd h
  refine x_iald (v := v41) hx hb hK hP 1 0 rfl rfl e41 dL_sides_41 ?_
  refine lv_aload hx hb dL_sides_42 (lv_at hl 6 rfl) ?_
  refine lv_iload_n hx hb dL_sides_44 rfl (lv_at hl 3 rfl) ?_
  obtain ⟨v45, e45, h⟩ := bnd h
  refine x_iald (v := v45) hx hb hK hP 2 0 rfl rfl e45 dL_sides_45 ?_
  refine lv_aload_n hx hb dL_sides_46 rfl (lv_at hl 5 rfl) ?_
  refine lv_iload hx hb dL_sides_47 (lv_at hl 0 rfl) ?_
  obtain ⟨v49, e49, h⟩ := bnd h
  refine x_iald (v := v49) hx hb hK hP 1 0 rfl rfl e49 dL_sides_49 ?_
  refine lv_aload_n hx hb dL_sides_50 rfl (lv_at hl 5 rfl) ?_
  refine lv_iload_n hx hb dL_sides_51 rfl (lv_at hl 3 rfl) ?_
  obtain ⟨v52, e52, h⟩ := bnd h
  refine x_iald (v := v52) hx hb hK hP 1 0 rfl rfl e52 dL_sides_52 ?_
  refine lv_isub hx hb dL_sides_53 ?_
  refine lv_aload hx hb dL_sides_54 (lv_at hl 6 rfl) ?_
  refine lv_iload hx hb dL_sides_56 (lv_at hl 0 rfl) ?_
  obtain ⟨v58, e58, h⟩ := bnd h
  refine x_iald (v := v58) hx hb hK hP 2 0 rfl rfl e58 dL_sides_58 ?_
  refine lv_aload hx hb dL_sides_59 (lv_at hl 6 rfl) ?_
  refine lv_iload_n hx hb dL_sides_61 rfl (lv_at hl 3 rfl) ?_
  obtain ⟨v62, e62, h⟩ := bnd h
  refine x_iald (v := v62) hx hb hK hP 2 0 rfl rfl e62 dL_sides_62 ?_
  refine lv_isub hx hb dL_sides_63 ?_
  obtain ⟨v64, e64, h⟩ := bnd h
  refine cS (av := [.int v16, .int v20, .int (v24 - v27), .int (v33 - v37), .int v41, .int v45, .int (v49 - v52), .int (v58 - v62)]) (rest := []) (st1 := [.int v64]) (k1 := 0) (k2 := 0) hx hb hml hown htg hN hK (c_L_common l dC dI cy   v16 v20 (v24 - v27) (v33 - v37) v41 v45 (v49 - v52) (v58 - v62) v64 e64) (g_S gw462 gw463 gw6 gw464) hdS_L_common rfl ⟨⟨Nat.le_of_ble_eq_true rfl, Nat.le_of_ble_eq_true rfl⟩, Nat.le_of_ble_eq_true rfl, Nat.le_of_ble_eq_true rfl⟩ hP hD hS hA [] [0, 1, 2] rfl rfl rfl (by decide) (by decide) hl.1 rfl (Nat.le_of_ble_eq_true rfl) rfl rfl rfl dL_sides_64 (fun H locs hP hD hS => ?_)
  obtain ⟨hP, hD⟩ := x_perm (ws' := wIA a0 cy N0 w0 ++ wIA a1 cy N1 w1 ++ wIA a2 cy N2 w2) hP hD [0, 1, 2] (by decide) rfl rfl
  obtain rfl := Option.some.inj h
  exact hE H locs 67 ls _ hP hD hS rfl dL_sides_67
def G_L_broken_j345  (N0 : Nat) (N1 : Nat) (N2 : Nat) (w0 : Nat → Int32) (w1 : Nat → Int32) (w2 : Nat → Int32) (l3_345 : Int32) : Option (Int32) :=
  if l3_345 = 6 then
    some 0
  else
    some l3_345
def G_L_broken_j339 (r244 : Int32 → Int32 → Option (Int32)) (N0 : Nat) (N1 : Nat) (N2 : Nat) (w0 : Nat → Int32) (w1 : Nat → Int32) (w2 : Nat → Int32) (l4_339 : Int32) (l3_339 : Int32) : Option (Int32) :=
  r244 (l4_339 + 1) l3_339
def G_L_broken_j333 (r272 : Int32 → Int32 → Int32 → Option (Int32)) (N0 : Nat) (N1 : Nat) (N2 : Nat) (w0 : Nat → Int32) (w1 : Nat → Int32) (w2 : Nat → Int32) (l5_333 : Int32) (l4_333 : Int32) (l3_333 : Int32) : Option (Int32) :=
  r272 (l5_333 + 1) l4_333 l3_333
def G_L_broken_L272 (r244 : Int32 → Int32 → Option (Int32)) (N0 : Nat) (N1 : Nat) (N2 : Nat) (w0 : Nat → Int32) (w1 : Nat → Int32) (w2 : Nat → Int32) : Nat → Int32 → Int32 → Int32 → Option (Int32)
  | 0, _, _, _ => none
  | n272 + 1, l5_272, l4_272, l3_272 =>
    (rd N0 w0 0).bind fun v276 =>
    if v276 ≤ l5_272 then
      G_L_broken_j339 r244 N0 N1 N2 w0 w1 w2 l4_272 l3_272
    else
      if l5_272 = l4_272 / 10 then
        G_L_broken_j333 (G_L_broken_L272 r244 N0 N1 N2 w0 w1 w2 n272) N0 N1 N2 w0 w1 w2 l5_272 l4_272 l3_272
      else
        (rd N1 w1 l4_272).bind fun v296 =>
        (rd N2 w2 l4_272).bind fun v302 =>
        (G_L_around N0 N1 N2 w0 w1 w2 l5_272 (2 * v296) (2 * v302)).bind fun v307 =>
        ((if v307 = 0 then
            some 0
          else
            some 1) : Option (Int32)).bind fun b310 =>
        ((if l5_272 = 0 then
            some 1
          else
            some 0) : Option (Int32)).bind fun b320 =>
        if b310 = b320 then
          G_L_broken_j333 (G_L_broken_L272 r244 N0 N1 N2 w0 w1 w2 n272) N0 N1 N2 w0 w1 w2 l5_272 l4_272 l3_272
        else
          G_L_broken_j333 (G_L_broken_L272 r244 N0 N1 N2 w0 w1 w2 n272) N0 N1 N2 w0 w1 w2 l5_272 l4_272 5
def G_L_broken_L244  (N0 : Nat) (N1 : Nat) (N2 : Nat) (w0 : Nat → Int32) (w1 : Nat → Int32) (w2 : Nat → Int32) : Nat → Int32 → Int32 → Option (Int32)
  | 0, _, _ => none
  | n244 + 1, l4_244, l3_244 =>
    if 40 ≤ l4_244 then
      G_L_broken_j345 N0 N1 N2 w0 w1 w2 l3_244
    else
      if l3_244 = 6 then
        (G_L_there N0 w0 l4_244).bind fun v260 =>
        if v260 = 0 then
          G_L_broken_j339 (G_L_broken_L244 N0 N1 N2 w0 w1 w2 n244) N0 N1 N2 w0 w1 w2 l4_244 l3_244
        else
          G_L_broken_L272 (G_L_broken_L244 N0 N1 N2 w0 w1 w2 n244) N0 N1 N2 w0 w1 w2 FU 0 l4_244 l3_244
      else
        G_L_broken_j345 N0 N1 N2 w0 w1 w2 l3_244
def G_L_broken_j228 (r117 : Int32 → Int32 → Int32 → Option (Int32)) (N0 : Nat) (N1 : Nat) (N2 : Nat) (w0 : Nat → Int32) (w1 : Nat → Int32) (w2 : Nat → Int32) (l5_228 : Int32) (l4_228 : Int32) (l3_228 : Int32) : Option (Int32) :=
  r117 (l5_228 + 1) l4_228 l3_228
def G_L_broken_L117 (r107 : Int32 → Int32 → Option (Int32)) (N0 : Nat) (N1 : Nat) (N2 : Nat) (w0 : Nat → Int32) (w1 : Nat → Int32) (w2 : Nat → Int32) : Nat → Int32 → Int32 → Int32 → Option (Int32)
  | 0, _, _, _ => none
  | n117 + 1, l5_117, l4_117, l3_117 =>
    if l4_117 ≤ l5_117 then
      r107 (l4_117 + 1) l3_117
    else
      (G_L_there N0 w0 l4_117).bind fun v127 =>
      if v127 = 0 then
        G_L_broken_j228 (G_L_broken_L117 r107 N0 N1 N2 w0 w1 w2 n117) N0 N1 N2 w0 w1 w2 l5_117 l4_117 l3_117
      else
        (G_L_there N0 w0 l5_117).bind fun v136 =>
        if v136 = 0 then
          G_L_broken_j228 (G_L_broken_L117 r107 N0 N1 N2 w0 w1 w2 n117) N0 N1 N2 w0 w1 w2 l5_117 l4_117 l3_117
        else
          (G_L_sides N0 N1 N2 w0 w1 w2 l4_117 l5_117).bind fun v152 =>
          (G_L_next N0 w0 l4_117).bind fun v160 =>
          ((if v160 = l5_117 then
              some 1
            else
              (G_L_next N0 w0 l5_117).bind fun v171 =>
              if v171 = l4_117 then
                some 1
              else
                some 0) : Option (Int32)).bind fun b165 =>
          ((if v152 = 1 then
              some 3
            else
              if v152 = 3 then
                if 4 ≤ l3_117 then
                  some 4
                else
                  some l3_117
              else
                if v152 = 2 then
                  if b165 = 0 then
                    if 4 ≤ l3_117 then
                      some 4
                    else
                      some l3_117
                  else
                    some l3_117
                else
                  some l3_117) : Option (Int32)).bind fun b189 =>
          G_L_broken_j228 (G_L_broken_L117 r107 N0 N1 N2 w0 w1 w2 n117) N0 N1 N2 w0 w1 w2 l5_117 l4_117 b189
def G_L_broken_L107  (N0 : Nat) (N1 : Nat) (N2 : Nat) (w0 : Nat → Int32) (w1 : Nat → Int32) (w2 : Nat → Int32) : Nat → Int32 → Int32 → Option (Int32)
  | 0, _, _ => none
  | n107 + 1, l4_107, l3_107 =>
    if 40 ≤ l4_107 then
      G_L_broken_L244 N0 N1 N2 w0 w1 w2 FU 10 l3_107
    else
      G_L_broken_L117 (G_L_broken_L107 N0 N1 N2 w0 w1 w2 n107) N0 N1 N2 w0 w1 w2 FU 0 l4_107 l3_107
def G_L_broken_j91 (r6 : Int32 → Int32 → Option (Int32)) (N0 : Nat) (N1 : Nat) (N2 : Nat) (w0 : Nat → Int32) (w1 : Nat → Int32) (w2 : Nat → Int32) (l4_91 : Int32) (l3_91 : Int32) : Option (Int32) :=
  r6 (l4_91 + 1) l3_91
def G_L_broken_L6  (N0 : Nat) (N1 : Nat) (N2 : Nat) (w0 : Nat → Int32) (w1 : Nat → Int32) (w2 : Nat → Int32) : Nat → Int32 → Int32 → Option (Int32)
  | 0, _, _ => none
  | n6 + 1, l4_6, l3_6 =>
    if 40 ≤ l4_6 then
      if l3_6 = 2 then
        some 2
      else
        G_L_broken_L107 N0 N1 N2 w0 w1 w2 FU 0 l3_6
    else
      (G_L_there N0 w0 l4_6).bind fun v16 =>
      if v16 = 0 then
        G_L_broken_j91 (G_L_broken_L6 N0 N1 N2 w0 w1 w2 n6) N0 N1 N2 w0 w1 w2 l4_6 l3_6
      else
        (G_L_next N0 w0 l4_6).bind fun v28 =>
        (rd N1 w1 l4_6).bind fun v36 =>
        if v36 < 0 then
          some 1
        else
          (rd N1 w1 l4_6).bind fun v43 =>
          if 15 < v43 then
            some 1
          else
            (rd N2 w2 l4_6).bind fun v52 =>
            if v52 < 0 then
              some 1
            else
              (rd N2 w2 l4_6).bind fun v59 =>
              if v59 ≤ 15 then
                (rd N1 w1 l4_6).bind fun v70 =>
                (rd N1 w1 v28).bind fun v74 =>
                if v70 = v74 then
                  (rd N2 w2 l4_6).bind fun v81 =>
                  (rd N2 w2 v28).bind fun v85 =>
                  if v81 = v85 then
                    G_L_broken_j91 (G_L_broken_L6 N0 N1 N2 w0 w1 w2 n6) N0 N1 N2 w0 w1 w2 l4_6 2
                  else
                    G_L_broken_j91 (G_L_broken_L6 N0 N1 N2 w0 w1 w2 n6) N0 N1 N2 w0 w1 w2 l4_6 l3_6
                else
                  G_L_broken_j91 (G_L_broken_L6 N0 N1 N2 w0 w1 w2 n6) N0 N1 N2 w0 w1 w2 l4_6 l3_6
              else
                some 1
def G_L_broken (N0 : Nat) (N1 : Nat) (N2 : Nat) (w0 : Nat → Int32) (w1 : Nat → Int32) (w2 : Nat → Int32) : Option (Int32) :=
  G_L_broken_L6 N0 N1 N2 w0 w1 w2 FU 0 6
abbrev rm_L_broken : Room := { frames := 3, cells := 0, slots := 0, locals := 84 }
theorem hdS_L_broken : yL_broken.cls ≠ "java/lang/invoke/MethodHandle" ∧ yL_broken.cls ≠ "java/lang/invoke/VarHandle" ∧ (parseMethodDescriptor yL_broken.desc).map (fun d => d.parameters.length) = some 3 := by decide +kernel
set_option maxHeartbeats 4000000 in
set_option maxRecDepth 100000 in
theorem c_L_broken (l : Launch) (dC : Nat → ClassId) (dI : Nat → Nat → Nat) (cy : Nat → ClassId) (a0 : Nat) (a1 : Nat) (a2 : Nat) (N0 : Nat) (N1 : Nat) (N2 : Nat) (w0 : Nat → Int32) (w1 : Nat → Int32) (w2 : Nat → Int32) (res : Int32) (h : G_L_broken N0 N1 N2 w0 w1 w2 = some res) : CT l (dC, dI) (TY cy) yL_broken cL_broken 8 (some .int) rm_L_broken [.ref a0, .ref a1, .ref a2] (wIA a0 cy N0 w0 ++ wIA a1 cy N1 w1 ++ wIA a2 cy N2 w2) (wIA a0 cy N0 w0 ++ wIA a1 cy N1 w1 ++ wIA a2 cy N2 w2) (some (.int res)) := by
  refine CT.mk_i (own := RL) ⟨by decide, rfl⟩ (Nat.le_of_ble_eq_true rfl) ?_
  intro p e s mm args below meth cd A Q hx hb hml hown htg hN hK hA hP hD hS hE ls hl
  have hl : lv_has ls 8 [(0, .ref a0), (1, .ref a1), (2, .ref a2)] := hl
  replace h : _ = some res := h
  unfold G_L_broken at h
  obtain ⟨H, hH⟩ : ∃ H, H = s.heap := ⟨_, rfl⟩
  obtain ⟨locs, hlocs⟩ : ∃ locs : List Loc, locs = [] := ⟨_, rfl⟩
  rw [← hlocs] at hS ⊢
  have hS : va_S A s.heap H locs := by rw [hH]; exact hS
  rw [← hH] at hP ⊢
  refine lv_bipush (v := 6) hx hb dL_broken_0 (by decide) ?_
  refine lv_istore_n (lv' := [(3, .int 6), (0, .ref a0), (1, .ref a1), (2, .ref a2)]) hx hb dL_broken_2 rfl hl (by decide) rfl (fun ls hl => ?_)
  refine lv_iconst (v := 0) hx hb dL_broken_3 (by decide) ?_
  refine lv_istore (lv' := [(4, .int 0), (3, .int 6), (0, .ref a0), (1, .ref a1), (2, .ref a2)]) hx hb dL_broken_4 hl (by decide) rfl (fun ls hl => ?_)
  have hL6 : ∀ (n6 : Nat) (l4_6 : Int32) (l3_6 : Int32) (H : Heap) (locs : List Loc) (ls : Array Slot), G_L_broken_L6 N0 N1 N2 w0 w1 w2 n6 l4_6 l3_6 = some res → va_P (dC, dI) vwCl (wIA a0 cy N0 w0 ++ wIA a1 cy N1 w1 ++ wIA a2 cy N2 w2) H → va_D A (wIA a0 cy N0 w0 ++ wIA a1 cy N1 w1 ++ wIA a2 cy N2 w2) → va_S A s.heap H locs → lv_has ls 8 [(4, .int l4_6), (3, .int l3_6), (0, .ref a0), (1, .ref a1), (2, .ref a2)] → W p l e rm_L_broken s mm args below meth cd H locs 0 0 Q (F0 mm 6 ls []) := by
    intro n6
    induction n6 with
    | zero => intro l4_6 l3_6 H locs ls h; exact absurd h (by simp [G_L_broken_L6])
    | succ n6 ih6 =>
      intro l4_6 l3_6 H locs ls h hP hD hS hl
      rw [G_L_broken_L6] at h
      refine lv_iload hx hb dL_broken_6 (lv_at hl 0 rfl) ?_
      refine lv_bipush (v := 40) hx hb dL_broken_8 (by decide) ?_
      refine lv_icmp_ge (tgt := 97) hx hb dL_broken_10 (by decide) (fun c10 => ?_) (fun c10 => ?_)
      · replace h := if_t h c10
        refine lv_iload_n hx hb dL_broken_97 rfl (lv_at hl 1 rfl) ?_
        refine lv_iconst (v := 2) hx hb dL_broken_98 (by decide) ?_
        refine lv_icmp_ne (tgt := 104) hx hb dL_broken_99 (by decide) (fun c99 => ?_) (fun c99 => ?_)
        · replace h := if_f h c99
          refine lv_iconst (v := 0) hx hb dL_broken_104 (by decide) ?_
          refine lv_istore (lv' := [(4, .int 0), (3, .int l3_6), (0, .ref a0), (1, .ref a1), (2, .ref a2)]) hx hb dL_broken_105 hl (by decide) rfl (fun ls hl => ?_)
          have hL107 : ∀ (n107 : Nat) (l4_107 : Int32) (l3_107 : Int32) (H : Heap) (locs : List Loc) (ls : Array Slot), G_L_broken_L107 N0 N1 N2 w0 w1 w2 n107 l4_107 l3_107 = some res → va_P (dC, dI) vwCl (wIA a0 cy N0 w0 ++ wIA a1 cy N1 w1 ++ wIA a2 cy N2 w2) H → va_D A (wIA a0 cy N0 w0 ++ wIA a1 cy N1 w1 ++ wIA a2 cy N2 w2) → va_S A s.heap H locs → lv_has ls 8 [(4, .int l4_107), (3, .int l3_107), (0, .ref a0), (1, .ref a1), (2, .ref a2)] → W p l e rm_L_broken s mm args below meth cd H locs 0 0 Q (F0 mm 107 ls []) := by
            intro n107
            induction n107 with
            | zero => intro l4_107 l3_107 H locs ls h; exact absurd h (by simp [G_L_broken_L107])
            | succ n107 ih107 =>
              intro l4_107 l3_107 H locs ls h hP hD hS hl
              rw [G_L_broken_L107] at h
              refine lv_iload hx hb dL_broken_107 (lv_at hl 0 rfl) ?_
              refine lv_bipush (v := 40) hx hb dL_broken_109 (by decide) ?_
              refine lv_icmp_ge (tgt := 240) hx hb dL_broken_111 (by decide) (fun c111 => ?_) (fun c111 => ?_)
              · replace h := if_t h c111
                refine lv_bipush (v := 10) hx hb dL_broken_240 (by decide) ?_
                refine lv_istore (lv' := [(4, .int 10), (3, .int l3_107), (0, .ref a0), (1, .ref a1), (2, .ref a2)]) hx hb dL_broken_242 hl (by decide) rfl (fun ls hl => ?_)
                have hL244 : ∀ (n244 : Nat) (l4_244 : Int32) (l3_244 : Int32) (H : Heap) (locs : List Loc) (ls : Array Slot), G_L_broken_L244 N0 N1 N2 w0 w1 w2 n244 l4_244 l3_244 = some res → va_P (dC, dI) vwCl (wIA a0 cy N0 w0 ++ wIA a1 cy N1 w1 ++ wIA a2 cy N2 w2) H → va_D A (wIA a0 cy N0 w0 ++ wIA a1 cy N1 w1 ++ wIA a2 cy N2 w2) → va_S A s.heap H locs → lv_has ls 8 [(4, .int l4_244), (3, .int l3_244), (0, .ref a0), (1, .ref a1), (2, .ref a2)] → W p l e rm_L_broken s mm args below meth cd H locs 0 0 Q (F0 mm 244 ls []) := by
                  intro n244
                  induction n244 with
                  | zero => intro l4_244 l3_244 H locs ls h; exact absurd h (by simp [G_L_broken_L244])
                  | succ n244 ih244 =>
                    intro l4_244 l3_244 H locs ls h hP hD hS hl
                    rw [G_L_broken_L244] at h
                    refine lv_iload hx hb dL_broken_244 (lv_at hl 0 rfl) ?_
                    refine lv_bipush (v := 40) hx hb dL_broken_246 (by decide) ?_
                    have hj345 : ∀ (l3_345 : Int32) (H : Heap) (locs : List Loc) (ls : Array Slot), G_L_broken_j345 N0 N1 N2 w0 w1 w2 l3_345 = some res → va_P (dC, dI) vwCl (wIA a0 cy N0 w0 ++ wIA a1 cy N1 w1 ++ wIA a2 cy N2 w2) H → va_D A (wIA a0 cy N0 w0 ++ wIA a1 cy N1 w1 ++ wIA a2 cy N2 w2) → va_S A s.heap H locs → lv_has ls 8 [(3, .int l3_345)] → W p l e rm_L_broken s mm args below meth cd H locs 0 0 Q (F0 mm 345 ls []) := by
                      intro l3_345 H locs ls h hP hD hS hl
                      unfold G_L_broken_j345 at h
                      refine lv_iload_n hx hb dL_broken_345 rfl (lv_at hl 0 rfl) ?_
                      refine lv_bipush (v := 6) hx hb dL_broken_346 (by decide) ?_
                      refine lv_icmp_ne (tgt := 355) hx hb dL_broken_348 (by decide) (fun c348 => ?_) (fun c348 => ?_)
                      · replace h := if_f h c348
                        refine lv_iload_n hx hb dL_broken_355 rfl (lv_at hl 0 rfl) ?_
                        obtain rfl := Option.some.inj h
                        exact hE H locs 356 ls _ hP hD hS rfl dL_broken_356
                      replace h := if_t h c348
                      refine lv_iconst (v := 0) hx hb dL_broken_351 (by decide) ?_
                      refine lv_goto (tgt := 356) hx hb dL_broken_352 (by decide) ?_
                      obtain rfl := Option.some.inj h
                      exact hE H locs 356 ls _ hP hD hS rfl dL_broken_356
                    refine lv_icmp_ge (tgt := 345) hx hb dL_broken_248 (by decide) (fun c248 => ?_) (fun c248 => ?_)
                    · replace h := if_t h c248
                      exact hj345 l3_244 H locs ls h hP hD hS (lv_sub hl [1] rfl)
                    replace h := if_f h c248
                    refine lv_iload_n hx hb dL_broken_251 rfl (lv_at hl 1 rfl) ?_
                    refine lv_bipush (v := 6) hx hb dL_broken_252 (by decide) ?_
                    refine lv_icmp_ne (tgt := 345) hx hb dL_broken_254 (by decide) (fun c254 => ?_) (fun c254 => ?_)
                    · replace h := if_f h c254
                      exact hj345 l3_244 H locs ls h hP hD hS (lv_sub hl [1] rfl)
                    replace h := if_t h c254
                    refine lv_iload hx hb dL_broken_257 (lv_at hl 0 rfl) ?_
                    refine lv_aload_n hx hb dL_broken_259 rfl (lv_at hl 2 rfl) ?_
                    obtain ⟨v260, e260, h⟩ := bnd h
                    refine cS (av := [.int l4_244, .ref a0]) (rest := []) (st1 := [.int v260]) (k1 := 0) (k2 := 0) hx hb hml hown htg hN hK (c_L_there l dC dI cy a0 N0 w0 l4_244 v260 e260) (g_S gw453 gw454 gw6 gw455) hdS_L_there rfl ⟨⟨Nat.le_of_ble_eq_true rfl, Nat.le_of_ble_eq_true rfl⟩, Nat.le_of_ble_eq_true rfl, Nat.le_of_ble_eq_true rfl⟩ hP hD hS hA [0] [1, 2] rfl rfl rfl (by decide) (by decide) hl.1 rfl (Nat.le_of_ble_eq_true rfl) rfl rfl rfl dL_broken_260 (fun H locs hP hD hS => ?_)
                    obtain ⟨hP, hD⟩ := x_perm (ws' := wIA a0 cy N0 w0 ++ wIA a1 cy N1 w1 ++ wIA a2 cy N2 w2) hP hD [2, 0, 1] (by decide) rfl rfl
                    have hj339 : ∀ (l4_339 : Int32) (l3_339 : Int32) (H : Heap) (locs : List Loc) (ls : Array Slot), G_L_broken_j339 (G_L_broken_L244 N0 N1 N2 w0 w1 w2 n244) N0 N1 N2 w0 w1 w2 l4_339 l3_339 = some res → va_P (dC, dI) vwCl (wIA a0 cy N0 w0 ++ wIA a1 cy N1 w1 ++ wIA a2 cy N2 w2) H → va_D A (wIA a0 cy N0 w0 ++ wIA a1 cy N1 w1 ++ wIA a2 cy N2 w2) → va_S A s.heap H locs → lv_has ls 8 [(4, .int l4_339), (3, .int l3_339), (0, .ref a0), (1, .ref a1), (2, .ref a2)] → W p l e rm_L_broken s mm args below meth cd H locs 0 0 Q (F0 mm 339 ls []) := by
                      intro l4_339 l3_339 H locs ls h hP hD hS hl
                      unfold G_L_broken_j339 at h
                      refine lv_iinc (v := l4_339 + 1) (lv' := [(4, .int (l4_339 + 1)), (3, .int l3_339), (0, .ref a0), (1, .ref a1), (2, .ref a2)]) hx hb dL_broken_339 hl (k := 0) rfl rfl (by decide) rfl (fun ls hl => ?_)
                      refine lv_goto (tgt := 244) hx hb dL_broken_342 (by decide) ?_
                      exact ih244 (l4_339 + 1) l3_339 H locs ls h hP hD hS (lv_sub hl [0, 1, 2, 3, 4] rfl)
                    refine lv_if_ne (tgt := 269) hx hb dL_broken_263 (by decide) (fun c263 => ?_) (fun c263 => ?_)
                    · replace h := if_f h c263
                      refine lv_iconst (v := 0) hx hb dL_broken_269 (by decide) ?_
                      refine lv_istore (lv' := [(5, .int 0), (4, .int l4_244), (3, .int l3_244), (0, .ref a0), (1, .ref a1), (2, .ref a2)]) hx hb dL_broken_270 hl (by decide) rfl (fun ls hl => ?_)
                      have hL272 : ∀ (n272 : Nat) (l5_272 : Int32) (l4_272 : Int32) (l3_272 : Int32) (H : Heap) (locs : List Loc) (ls : Array Slot), G_L_broken_L272 (G_L_broken_L244 N0 N1 N2 w0 w1 w2 n244) N0 N1 N2 w0 w1 w2 n272 l5_272 l4_272 l3_272 = some res → va_P (dC, dI) vwCl (wIA a0 cy N0 w0 ++ wIA a1 cy N1 w1 ++ wIA a2 cy N2 w2) H → va_D A (wIA a0 cy N0 w0 ++ wIA a1 cy N1 w1 ++ wIA a2 cy N2 w2) → va_S A s.heap H locs → lv_has ls 8 [(5, .int l5_272), (4, .int l4_272), (3, .int l3_272), (0, .ref a0), (1, .ref a1), (2, .ref a2)] → W p l e rm_L_broken s mm args below meth cd H locs 0 0 Q (F0 mm 272 ls []) := by
                        intro n272
                        induction n272 with
                        | zero => intro l5_272 l4_272 l3_272 H locs ls h; exact absurd h (by simp [G_L_broken_L272])
                        | succ n272 ih272 =>
                          intro l5_272 l4_272 l3_272 H locs ls h hP hD hS hl
                          rw [G_L_broken_L272] at h
                          refine lv_iload hx hb dL_broken_272 (lv_at hl 0 rfl) ?_
                          refine lv_aload_n hx hb dL_broken_274 rfl (lv_at hl 3 rfl) ?_
                          refine lv_iconst (v := 0) hx hb dL_broken_275 (by decide) ?_
                          obtain ⟨v276, e276, h⟩ := bnd h
                          refine x_iald (v := v276) hx hb hK hP 0 0 rfl rfl e276 dL_broken_276 ?_
                          refine lv_icmp_ge (tgt := 339) hx hb dL_broken_277 (by decide) (fun c277 => ?_) (fun c277 => ?_)
                          · replace h := if_t h c277
                            exact hj339 l4_272 l3_272 H locs ls h hP hD hS (lv_sub hl [1, 2, 3, 4, 5] rfl)
                          replace h := if_f h c277
                          refine lv_iload hx hb dL_broken_280 (lv_at hl 0 rfl) ?_
                          refine lv_iload hx hb dL_broken_282 (lv_at hl 1 rfl) ?_
                          refine lv_bipush (v := 10) hx hb dL_broken_284 (by decide) ?_
                          refine lv_idiv hx hb dL_broken_286 (by decide) ?_
                          have hj333 : ∀ (l5_333 : Int32) (l4_333 : Int32) (l3_333 : Int32) (H : Heap) (locs : List Loc) (ls : Array Slot), G_L_broken_j333 (G_L_broken_L272 (G_L_broken_L244 N0 N1 N2 w0 w1 w2 n244) N0 N1 N2 w0 w1 w2 n272) N0 N1 N2 w0 w1 w2 l5_333 l4_333 l3_333 = some res → va_P (dC, dI) vwCl (wIA a0 cy N0 w0 ++ wIA a1 cy N1 w1 ++ wIA a2 cy N2 w2) H → va_D A (wIA a0 cy N0 w0 ++ wIA a1 cy N1 w1 ++ wIA a2 cy N2 w2) → va_S A s.heap H locs → lv_has ls 8 [(5, .int l5_333), (4, .int l4_333), (3, .int l3_333), (0, .ref a0), (1, .ref a1), (2, .ref a2)] → W p l e rm_L_broken s mm args below meth cd H locs 0 0 Q (F0 mm 333 ls []) := by
                            intro l5_333 l4_333 l3_333 H locs ls h hP hD hS hl
                            unfold G_L_broken_j333 at h
                            refine lv_iinc (v := l5_333 + 1) (lv' := [(5, .int (l5_333 + 1)), (4, .int l4_333), (3, .int l3_333), (0, .ref a0), (1, .ref a1), (2, .ref a2)]) hx hb dL_broken_333 hl (k := 0) rfl rfl (by decide) rfl (fun ls hl => ?_)
                            refine lv_goto (tgt := 272) hx hb dL_broken_336 (by decide) ?_
                            exact ih272 (l5_333 + 1) l4_333 l3_333 H locs ls h hP hD hS (lv_sub hl [0, 1, 2, 3, 4, 5] rfl)
                          refine lv_icmp_eq (tgt := 333) hx hb dL_broken_287 (by decide) (fun c287 => ?_) (fun c287 => ?_)
                          · replace h := if_t h c287
                            exact hj333 l5_272 l4_272 l3_272 H locs ls h hP hD hS (lv_sub hl [0, 1, 2, 3, 4, 5] rfl)
                          replace h := if_f h c287
                          refine lv_iload hx hb dL_broken_290 (lv_at hl 0 rfl) ?_
                          refine lv_iconst (v := 2) hx hb dL_broken_292 (by decide) ?_
                          refine lv_aload_n hx hb dL_broken_293 rfl (lv_at hl 4 rfl) ?_
                          refine lv_iload hx hb dL_broken_294 (lv_at hl 1 rfl) ?_
                          obtain ⟨v296, e296, h⟩ := bnd h
                          refine x_iald (v := v296) hx hb hK hP 1 0 rfl rfl e296 dL_broken_296 ?_
                          refine lv_imul hx hb dL_broken_297 ?_
                          refine lv_iconst (v := 2) hx hb dL_broken_298 (by decide) ?_
                          refine lv_aload_n hx hb dL_broken_299 rfl (lv_at hl 5 rfl) ?_
                          refine lv_iload hx hb dL_broken_300 (lv_at hl 1 rfl) ?_
                          obtain ⟨v302, e302, h⟩ := bnd h
                          refine x_iald (v := v302) hx hb hK hP 2 0 rfl rfl e302 dL_broken_302 ?_
                          refine lv_imul hx hb dL_broken_303 ?_
                          refine lv_aload_n hx hb dL_broken_304 rfl (lv_at hl 3 rfl) ?_
                          refine lv_aload_n hx hb dL_broken_305 rfl (lv_at hl 4 rfl) ?_
                          refine lv_aload_n hx hb dL_broken_306 rfl (lv_at hl 5 rfl) ?_
                          obtain ⟨v307, e307, h⟩ := bnd h
                          refine cS (av := [.int l5_272, .int (2 * v296), .int (2 * v302), .ref a0, .ref a1, .ref a2]) (rest := []) (st1 := [.int v307]) (k1 := 0) (k2 := 0) hx hb hml hown htg hN hK (c_L_around l dC dI cy a0 a1 a2 N0 N1 N2 w0 w1 w2 l5_272 (2 * v296) (2 * v302) v307 e307) (g_S gw468 gw469 gw6 gw470) hdS_L_around rfl ⟨⟨Nat.le_of_ble_eq_true rfl, Nat.le_of_ble_eq_true rfl⟩, Nat.le_of_ble_eq_true rfl, Nat.le_of_ble_eq_true rfl⟩ hP hD hS hA [0, 1, 2] [] rfl rfl rfl (by decide) (by decide) hl.1 rfl (Nat.le_of_ble_eq_true rfl) rfl rfl rfl dL_broken_307 (fun H locs hP hD hS => ?_)
                          have hP : va_P (dC, dI) vwCl (wIA a0 cy N0 w0 ++ wIA a1 cy N1 w1 ++ wIA a2 cy N2 w2) H := hP
                          have hD : va_D A (wIA a0 cy N0 w0 ++ wIA a1 cy N1 w1 ++ wIA a2 cy N2 w2) := hD
                          obtain ⟨b310, e310, h⟩ := bnd h
                          have hr318 : ∀ (H : Heap) (locs : List Loc) (ls : Array Slot), va_P (dC, dI) vwCl (wIA a0 cy N0 w0 ++ wIA a1 cy N1 w1 ++ wIA a2 cy N2 w2) H → va_D A (wIA a0 cy N0 w0 ++ wIA a1 cy N1 w1 ++ wIA a2 cy N2 w2) → va_S A s.heap H locs → lv_has ls 8 [(5, .int l5_272), (4, .int l4_272), (3, .int l3_272), (0, .ref a0), (1, .ref a1), (2, .ref a2)] → W p l e rm_L_broken s mm args below meth cd H locs 0 0 Q (F0 mm 318 ls [.int b310]) := by
                            intro H locs ls hP hD hS hl
                            refine lv_iload hx hb dL_broken_318 (lv_at hl 0 rfl) ?_
                            obtain ⟨b320, e320, h⟩ := bnd h
                            have hr328 : ∀ (H : Heap) (locs : List Loc) (ls : Array Slot), va_P (dC, dI) vwCl (wIA a0 cy N0 w0 ++ wIA a1 cy N1 w1 ++ wIA a2 cy N2 w2) H → va_D A (wIA a0 cy N0 w0 ++ wIA a1 cy N1 w1 ++ wIA a2 cy N2 w2) → va_S A s.heap H locs → lv_has ls 8 [(5, .int l5_272), (4, .int l4_272), (3, .int l3_272), (0, .ref a0), (1, .ref a1), (2, .ref a2)] → W p l e rm_L_broken s mm args below meth cd H locs 0 0 Q (F0 mm 328 ls [.int b320, .int b310]) := by
                              intro H locs ls hP hD hS hl
                              refine lv_icmp_eq (tgt := 333) hx hb dL_broken_328 (by decide) (fun c328 => ?_) (fun c328 => ?_)
                              · replace h := if_t h c328
                                exact hj333 l5_272 l4_272 l3_272 H locs ls h hP hD hS (lv_sub hl [0, 1, 2, 3, 4, 5] rfl)
                              replace h := if_f h c328
                              refine lv_iconst (v := 5) hx hb dL_broken_331 (by decide) ?_
                              refine lv_istore_n (lv' := [(3, .int 5), (5, .int l5_272), (4, .int l4_272), (0, .ref a0), (1, .ref a1), (2, .ref a2)]) hx hb dL_broken_332 rfl hl (by decide) rfl (fun ls hl => ?_)
                              exact hj333 l5_272 l4_272 5 H locs ls h hP hD hS (lv_sub hl [1, 2, 0, 3, 4, 5] rfl)
                            have h := e320
                            clear e320
                            refine lv_if_ne (tgt := 327) hx hb dL_broken_320 (by decide) (fun c320 => ?_) (fun c320 => ?_)
                            · replace h := if_f h c320
                              refine lv_iconst (v := 0) hx hb dL_broken_327 (by decide) ?_
                              obtain rfl := Option.some.inj h
                              exact hr328 H locs ls hP hD hS hl
                            replace h := if_t h c320
                            refine lv_iconst (v := 1) hx hb dL_broken_323 (by decide) ?_
                            refine lv_goto (tgt := 328) hx hb dL_broken_324 (by decide) ?_
                            obtain rfl := Option.some.inj h
                            exact hr328 H locs ls hP hD hS hl
                          have h := e310
                          clear e310
                          refine lv_if_eq (tgt := 317) hx hb dL_broken_310 (by decide) (fun c310 => ?_) (fun c310 => ?_)
                          · replace h := if_t h c310
                            refine lv_iconst (v := 0) hx hb dL_broken_317 (by decide) ?_
                            obtain rfl := Option.some.inj h
                            exact hr318 H locs ls hP hD hS hl
                          replace h := if_f h c310
                          refine lv_iconst (v := 1) hx hb dL_broken_313 (by decide) ?_
                          refine lv_goto (tgt := 318) hx hb dL_broken_314 (by decide) ?_
                          obtain rfl := Option.some.inj h
                          exact hr318 H locs ls hP hD hS hl
                      exact hL272 FU 0 l4_244 l3_244 H locs ls h hP hD hS (lv_sub hl [0, 1, 2, 3, 4, 5] rfl)
                    replace h := if_t h c263
                    refine lv_goto (tgt := 339) hx hb dL_broken_266 (by decide) ?_
                    exact hj339 l4_244 l3_244 H locs ls h hP hD hS (lv_sub hl [0, 1, 2, 3, 4] rfl)
                exact hL244 FU 10 l3_107 H locs ls h hP hD hS (lv_sub hl [0, 1, 2, 3, 4] rfl)
              replace h := if_f h c111
              refine lv_iconst (v := 0) hx hb dL_broken_114 (by decide) ?_
              refine lv_istore (lv' := [(5, .int 0), (4, .int l4_107), (3, .int l3_107), (0, .ref a0), (1, .ref a1), (2, .ref a2)]) hx hb dL_broken_115 hl (by decide) rfl (fun ls hl => ?_)
              have hL117 : ∀ (n117 : Nat) (l5_117 : Int32) (l4_117 : Int32) (l3_117 : Int32) (H : Heap) (locs : List Loc) (ls : Array Slot), G_L_broken_L117 (G_L_broken_L107 N0 N1 N2 w0 w1 w2 n107) N0 N1 N2 w0 w1 w2 n117 l5_117 l4_117 l3_117 = some res → va_P (dC, dI) vwCl (wIA a0 cy N0 w0 ++ wIA a1 cy N1 w1 ++ wIA a2 cy N2 w2) H → va_D A (wIA a0 cy N0 w0 ++ wIA a1 cy N1 w1 ++ wIA a2 cy N2 w2) → va_S A s.heap H locs → lv_has ls 8 [(5, .int l5_117), (4, .int l4_117), (3, .int l3_117), (0, .ref a0), (1, .ref a1), (2, .ref a2)] → W p l e rm_L_broken s mm args below meth cd H locs 0 0 Q (F0 mm 117 ls []) := by
                intro n117
                induction n117 with
                | zero => intro l5_117 l4_117 l3_117 H locs ls h; exact absurd h (by simp [G_L_broken_L117])
                | succ n117 ih117 =>
                  intro l5_117 l4_117 l3_117 H locs ls h hP hD hS hl
                  rw [G_L_broken_L117] at h
                  refine lv_iload hx hb dL_broken_117 (lv_at hl 0 rfl) ?_
                  refine lv_iload hx hb dL_broken_119 (lv_at hl 1 rfl) ?_
                  refine lv_icmp_ge (tgt := 234) hx hb dL_broken_121 (by decide) (fun c121 => ?_) (fun c121 => ?_)
                  · replace h := if_t h c121
                    refine lv_iinc (v := l4_117 + 1) (lv' := [(4, .int (l4_117 + 1)), (5, .int l5_117), (3, .int l3_117), (0, .ref a0), (1, .ref a1), (2, .ref a2)]) hx hb dL_broken_234 hl (k := 1) rfl rfl (by decide) rfl (fun ls hl => ?_)
                    refine lv_goto (tgt := 107) hx hb dL_broken_237 (by decide) ?_
                    exact ih107 (l4_117 + 1) l3_117 H locs ls h hP hD hS (lv_sub hl [0, 2, 3, 4, 5] rfl)
                  replace h := if_f h c121
                  refine lv_iload hx hb dL_broken_124 (lv_at hl 1 rfl) ?_
                  refine lv_aload_n hx hb dL_broken_126 rfl (lv_at hl 3 rfl) ?_
                  obtain ⟨v127, e127, h⟩ := bnd h
                  refine cS (av := [.int l4_117, .ref a0]) (rest := []) (st1 := [.int v127]) (k1 := 0) (k2 := 0) hx hb hml hown htg hN hK (c_L_there l dC dI cy a0 N0 w0 l4_117 v127 e127) (g_S gw453 gw454 gw6 gw455) hdS_L_there rfl ⟨⟨Nat.le_of_ble_eq_true rfl, Nat.le_of_ble_eq_true rfl⟩, Nat.le_of_ble_eq_true rfl, Nat.le_of_ble_eq_true rfl⟩ hP hD hS hA [0] [1, 2] rfl rfl rfl (by decide) (by decide) hl.1 rfl (Nat.le_of_ble_eq_true rfl) rfl rfl rfl dL_broken_127 (fun H locs hP hD hS => ?_)
                  obtain ⟨hP, hD⟩ := x_perm (ws' := wIA a0 cy N0 w0 ++ wIA a1 cy N1 w1 ++ wIA a2 cy N2 w2) hP hD [2, 0, 1] (by decide) rfl rfl
                  have hj228 : ∀ (l5_228 : Int32) (l4_228 : Int32) (l3_228 : Int32) (H : Heap) (locs : List Loc) (ls : Array Slot), G_L_broken_j228 (G_L_broken_L117 (G_L_broken_L107 N0 N1 N2 w0 w1 w2 n107) N0 N1 N2 w0 w1 w2 n117) N0 N1 N2 w0 w1 w2 l5_228 l4_228 l3_228 = some res → va_P (dC, dI) vwCl (wIA a0 cy N0 w0 ++ wIA a1 cy N1 w1 ++ wIA a2 cy N2 w2) H → va_D A (wIA a0 cy N0 w0 ++ wIA a1 cy N1 w1 ++ wIA a2 cy N2 w2) → va_S A s.heap H locs → lv_has ls 8 [(5, .int l5_228), (4, .int l4_228), (3, .int l3_228), (0, .ref a0), (1, .ref a1), (2, .ref a2)] → W p l e rm_L_broken s mm args below meth cd H locs 0 0 Q (F0 mm 228 ls []) := by
                    intro l5_228 l4_228 l3_228 H locs ls h hP hD hS hl
                    unfold G_L_broken_j228 at h
                    refine lv_iinc (v := l5_228 + 1) (lv' := [(5, .int (l5_228 + 1)), (4, .int l4_228), (3, .int l3_228), (0, .ref a0), (1, .ref a1), (2, .ref a2)]) hx hb dL_broken_228 hl (k := 0) rfl rfl (by decide) rfl (fun ls hl => ?_)
                    refine lv_goto (tgt := 117) hx hb dL_broken_231 (by decide) ?_
                    exact ih117 (l5_228 + 1) l4_228 l3_228 H locs ls h hP hD hS (lv_sub hl [0, 1, 2, 3, 4, 5] rfl)
                  refine lv_if_eq (tgt := 228) hx hb dL_broken_130 (by decide) (fun c130 => ?_) (fun c130 => ?_)
                  · replace h := if_t h c130
                    exact hj228 l5_117 l4_117 l3_117 H locs ls h hP hD hS (lv_sub hl [0, 1, 2, 3, 4, 5] rfl)
                  replace h := if_f h c130
                  refine lv_iload hx hb dL_broken_133 (lv_at hl 0 rfl) ?_
                  refine lv_aload_n hx hb dL_broken_135 rfl (lv_at hl 3 rfl) ?_
                  obtain ⟨v136, e136, h⟩ := bnd h
                  refine cS (av := [.int l5_117, .ref a0]) (rest := []) (st1 := [.int v136]) (k1 := 0) (k2 := 0) hx hb hml hown htg hN hK (c_L_there l dC dI cy a0 N0 w0 l5_117 v136 e136) (g_S gw453 gw454 gw6 gw455) hdS_L_there rfl ⟨⟨Nat.le_of_ble_eq_true rfl, Nat.le_of_ble_eq_true rfl⟩, Nat.le_of_ble_eq_true rfl, Nat.le_of_ble_eq_true rfl⟩ hP hD hS hA [0] [1, 2] rfl rfl rfl (by decide) (by decide) hl.1 rfl (Nat.le_of_ble_eq_true rfl) rfl rfl rfl dL_broken_136 (fun H locs hP hD hS => ?_)
                  obtain ⟨hP, hD⟩ := x_perm (ws' := wIA a0 cy N0 w0 ++ wIA a1 cy N1 w1 ++ wIA a2 cy N2 w2) hP hD [2, 0, 1] (by decide) rfl rfl
                  refine lv_if_ne (tgt := 145) hx hb dL_broken_139 (by decide) (fun c139 => ?_) (fun c139 => ?_)
                  · replace h := if_f h c139
                    refine lv_iload hx hb dL_broken_145 (lv_at hl 1 rfl) ?_
                    refine lv_iload hx hb dL_broken_147 (lv_at hl 0 rfl) ?_
                    refine lv_aload_n hx hb dL_broken_149 rfl (lv_at hl 3 rfl) ?_
                    refine lv_aload_n hx hb dL_broken_150 rfl (lv_at hl 4 rfl) ?_
                    refine lv_aload_n hx hb dL_broken_151 rfl (lv_at hl 5 rfl) ?_
                    obtain ⟨v152, e152, h⟩ := bnd h
                    refine cS (av := [.int l4_117, .int l5_117, .ref a0, .ref a1, .ref a2]) (rest := []) (st1 := [.int v152]) (k1 := 0) (k2 := 0) hx hb hml hown htg hN hK (c_L_sides l dC dI cy a0 a1 a2 N0 N1 N2 w0 w1 w2 l4_117 l5_117 v152 e152) (g_S gw459 gw460 gw6 gw461) hdS_L_sides rfl ⟨⟨Nat.le_of_ble_eq_true rfl, Nat.le_of_ble_eq_true rfl⟩, Nat.le_of_ble_eq_true rfl, Nat.le_of_ble_eq_true rfl⟩ hP hD hS hA [0, 1, 2] [] rfl rfl rfl (by decide) (by decide) hl.1 rfl (Nat.le_of_ble_eq_true rfl) rfl rfl rfl dL_broken_152 (fun H locs hP hD hS => ?_)
                    have hP : va_P (dC, dI) vwCl (wIA a0 cy N0 w0 ++ wIA a1 cy N1 w1 ++ wIA a2 cy N2 w2) H := hP
                    have hD : va_D A (wIA a0 cy N0 w0 ++ wIA a1 cy N1 w1 ++ wIA a2 cy N2 w2) := hD
                    refine lv_istore (lv' := [(6, .int v152), (5, .int l5_117), (4, .int l4_117), (3, .int l3_117), (0, .ref a0), (1, .ref a1), (2, .ref a2)]) hx hb dL_broken_155 hl (by decide) rfl (fun ls hl => ?_)
                    refine lv_iload hx hb dL_broken_157 (lv_at hl 2 rfl) ?_
                    refine lv_aload_n hx hb dL_broken_159 rfl (lv_at hl 4 rfl) ?_
                    obtain ⟨v160, e160, h⟩ := bnd h
                    refine cS (av := [.int l4_117, .ref a0]) (rest := []) (st1 := [.int v160]) (k1 := 0) (k2 := 0) hx hb hml hown htg hN hK (c_L_next l dC dI cy a0 N0 w0 l4_117 v160 e160) (g_S gw456 gw457 gw6 gw458) hdS_L_next rfl ⟨⟨Nat.le_of_ble_eq_true rfl, Nat.le_of_ble_eq_true rfl⟩, Nat.le_of_ble_eq_true rfl, Nat.le_of_ble_eq_true rfl⟩ hP hD hS hA [0] [1, 2] rfl rfl rfl (by decide) (by decide) hl.1 rfl (Nat.le_of_ble_eq_true rfl) rfl rfl rfl dL_broken_160 (fun H locs hP hD hS => ?_)
                    obtain ⟨hP, hD⟩ := x_perm (ws' := wIA a0 cy N0 w0 ++ wIA a1 cy N1 w1 ++ wIA a2 cy N2 w2) hP hD [2, 0, 1] (by decide) rfl rfl
                    refine lv_iload hx hb dL_broken_163 (lv_at hl 1 rfl) ?_
                    obtain ⟨b165, e165, h⟩ := bnd h
                    have hr184 : ∀ (H : Heap) (locs : List Loc) (ls : Array Slot), va_P (dC, dI) vwCl (wIA a0 cy N0 w0 ++ wIA a1 cy N1 w1 ++ wIA a2 cy N2 w2) H → va_D A (wIA a0 cy N0 w0 ++ wIA a1 cy N1 w1 ++ wIA a2 cy N2 w2) → va_S A s.heap H locs → lv_has ls 8 [(6, .int v152), (5, .int l5_117), (4, .int l4_117), (3, .int l3_117), (0, .ref a0), (1, .ref a1), (2, .ref a2)] → W p l e rm_L_broken s mm args below meth cd H locs 0 0 Q (F0 mm 184 ls [.int b165]) := by
                      intro H locs ls hP hD hS hl
                      refine lv_istore (lv' := [(7, .int b165), (6, .int v152), (5, .int l5_117), (4, .int l4_117), (3, .int l3_117), (0, .ref a0), (1, .ref a1), (2, .ref a2)]) hx hb dL_broken_184 hl (by decide) rfl (fun ls hl => ?_)
                      refine lv_iload hx hb dL_broken_186 (lv_at hl 1 rfl) ?_
                      refine lv_iconst (v := 1) hx hb dL_broken_188 (by decide) ?_
                      obtain ⟨b189, e189, h⟩ := bnd h
                      have hr227 : ∀ (H : Heap) (locs : List Loc) (ls : Array Slot), va_P (dC, dI) vwCl (wIA a0 cy N0 w0 ++ wIA a1 cy N1 w1 ++ wIA a2 cy N2 w2) H → va_D A (wIA a0 cy N0 w0 ++ wIA a1 cy N1 w1 ++ wIA a2 cy N2 w2) → va_S A s.heap H locs → lv_has ls 8 [(7, .int b165), (6, .int v152), (5, .int l5_117), (4, .int l4_117), (3, .int l3_117), (0, .ref a0), (1, .ref a1), (2, .ref a2)] → W p l e rm_L_broken s mm args below meth cd H locs 0 0 Q (F0 mm 227 ls [.int b189]) := by
                        intro H locs ls hP hD hS hl
                        refine lv_istore_n (lv' := [(3, .int b189), (7, .int b165), (6, .int v152), (5, .int l5_117), (4, .int l4_117), (0, .ref a0), (1, .ref a1), (2, .ref a2)]) hx hb dL_broken_227 rfl hl (by decide) rfl (fun ls hl => ?_)
                        exact hj228 l5_117 l4_117 b189 H locs ls h hP hD hS (lv_sub hl [3, 4, 0, 5, 6, 7] rfl)
                      have h := e189
                      clear e189
                      refine lv_icmp_ne (tgt := 196) hx hb dL_broken_189 (by decide) (fun c189 => ?_) (fun c189 => ?_)
                      · replace h := if_f h c189
                        refine lv_iload hx hb dL_broken_196 (lv_at hl 1 rfl) ?_
                        refine lv_iconst (v := 3) hx hb dL_broken_198 (by decide) ?_
                        refine lv_icmp_eq (tgt := 213) hx hb dL_broken_199 (by decide) (fun c199 => ?_) (fun c199 => ?_)
                        · replace h := if_t h c199
                          refine lv_iload_n hx hb dL_broken_213 rfl (lv_at hl 4 rfl) ?_
                          refine lv_iconst (v := 4) hx hb dL_broken_214 (by decide) ?_
                          refine lv_icmp_ge (tgt := 222) hx hb dL_broken_215 (by decide) (fun c215 => ?_) (fun c215 => ?_)
                          · replace h := if_t h c215
                            refine lv_iconst (v := 4) hx hb dL_broken_222 (by decide) ?_
                            refine lv_goto (tgt := 227) hx hb dL_broken_223 (by decide) ?_
                            obtain rfl := Option.some.inj h
                            exact hr227 H locs ls hP hD hS hl
                          replace h := if_f h c215
                          refine lv_iload_n hx hb dL_broken_218 rfl (lv_at hl 4 rfl) ?_
                          refine lv_goto (tgt := 227) hx hb dL_broken_219 (by decide) ?_
                          obtain rfl := Option.some.inj h
                          exact hr227 H locs ls hP hD hS hl
                        replace h := if_f h c199
                        refine lv_iload hx hb dL_broken_202 (lv_at hl 1 rfl) ?_
                        refine lv_iconst (v := 2) hx hb dL_broken_204 (by decide) ?_
                        refine lv_icmp_ne (tgt := 226) hx hb dL_broken_205 (by decide) (fun c205 => ?_) (fun c205 => ?_)
                        · replace h := if_f h c205
                          refine lv_iload_n hx hb dL_broken_226 rfl (lv_at hl 4 rfl) ?_
                          obtain rfl := Option.some.inj h
                          exact hr227 H locs ls hP hD hS hl
                        replace h := if_t h c205
                        refine lv_iload hx hb dL_broken_208 (lv_at hl 0 rfl) ?_
                        refine lv_if_ne (tgt := 226) hx hb dL_broken_210 (by decide) (fun c210 => ?_) (fun c210 => ?_)
                        · replace h := if_f h c210
                          refine lv_iload_n hx hb dL_broken_226 rfl (lv_at hl 4 rfl) ?_
                          obtain rfl := Option.some.inj h
                          exact hr227 H locs ls hP hD hS hl
                        replace h := if_t h c210
                        refine lv_iload_n hx hb dL_broken_213 rfl (lv_at hl 4 rfl) ?_
                        refine lv_iconst (v := 4) hx hb dL_broken_214 (by decide) ?_
                        refine lv_icmp_ge (tgt := 222) hx hb dL_broken_215 (by decide) (fun c215 => ?_) (fun c215 => ?_)
                        · replace h := if_t h c215
                          refine lv_iconst (v := 4) hx hb dL_broken_222 (by decide) ?_
                          refine lv_goto (tgt := 227) hx hb dL_broken_223 (by decide) ?_
                          obtain rfl := Option.some.inj h
                          exact hr227 H locs ls hP hD hS hl
                        replace h := if_f h c215
                        refine lv_iload_n hx hb dL_broken_218 rfl (lv_at hl 4 rfl) ?_
                        refine lv_goto (tgt := 227) hx hb dL_broken_219 (by decide) ?_
                        obtain rfl := Option.some.inj h
                        exact hr227 H locs ls hP hD hS hl
                      replace h := if_t h c189
                      refine lv_iconst (v := 3) hx hb dL_broken_192 (by decide) ?_
                      refine lv_goto (tgt := 227) hx hb dL_broken_193 (by decide) ?_
                      obtain rfl := Option.some.inj h
                      exact hr227 H locs ls hP hD hS hl
                    have h := e165
                    clear e165
                    refine lv_icmp_eq (tgt := 179) hx hb dL_broken_165 (by decide) (fun c165 => ?_) (fun c165 => ?_)
                    · replace h := if_t h c165
                      refine lv_iconst (v := 1) hx hb dL_broken_179 (by decide) ?_
                      refine lv_goto (tgt := 184) hx hb dL_broken_180 (by decide) ?_
                      obtain rfl := Option.some.inj h
                      exact hr184 H locs ls hP hD hS hl
                    replace h := if_f h c165
                    refine lv_iload hx hb dL_broken_168 (lv_at hl 1 rfl) ?_
                    refine lv_aload_n hx hb dL_broken_170 rfl (lv_at hl 4 rfl) ?_
                    obtain ⟨v171, e171, h⟩ := bnd h
                    refine cS (av := [.int l5_117, .ref a0]) (rest := []) (st1 := [.int v171]) (k1 := 0) (k2 := 0) hx hb hml hown htg hN hK (c_L_next l dC dI cy a0 N0 w0 l5_117 v171 e171) (g_S gw456 gw457 gw6 gw458) hdS_L_next rfl ⟨⟨Nat.le_of_ble_eq_true rfl, Nat.le_of_ble_eq_true rfl⟩, Nat.le_of_ble_eq_true rfl, Nat.le_of_ble_eq_true rfl⟩ hP hD hS hA [0] [1, 2] rfl rfl rfl (by decide) (by decide) hl.1 rfl (Nat.le_of_ble_eq_true rfl) rfl rfl rfl dL_broken_171 (fun H locs hP hD hS => ?_)
                    obtain ⟨hP, hD⟩ := x_perm (ws' := wIA a0 cy N0 w0 ++ wIA a1 cy N1 w1 ++ wIA a2 cy N2 w2) hP hD [2, 0, 1] (by decide) rfl rfl
                    refine lv_iload hx hb dL_broken_174 (lv_at hl 2 rfl) ?_
                    refine lv_icmp_ne (tgt := 183) hx hb dL_broken_176 (by decide) (fun c176 => ?_) (fun c176 => ?_)
                    · replace h := if_f h c176
                      refine lv_iconst (v := 0) hx hb dL_broken_183 (by decide) ?_
                      obtain rfl := Option.some.inj h
                      exact hr184 H locs ls hP hD hS hl
                    replace h := if_t h c176
                    refine lv_iconst (v := 1) hx hb dL_broken_179 (by decide) ?_
                    refine lv_goto (tgt := 184) hx hb dL_broken_180 (by decide) ?_
                    obtain rfl := Option.some.inj h
                    exact hr184 H locs ls hP hD hS hl
                  replace h := if_t h c139
                  refine lv_goto (tgt := 228) hx hb dL_broken_142 (by decide) ?_
                  exact hj228 l5_117 l4_117 l3_117 H locs ls h hP hD hS (lv_sub hl [0, 1, 2, 3, 4, 5] rfl)
              exact hL117 FU 0 l4_107 l3_107 H locs ls h hP hD hS (lv_sub hl [0, 1, 2, 3, 4, 5] rfl)
          exact hL107 FU 0 l3_6 H locs ls h hP hD hS (lv_sub hl [0, 1, 2, 3, 4] rfl)
        replace h := if_t h c99
        refine lv_iconst (v := 2) hx hb dL_broken_102 (by decide) ?_
        obtain rfl := Option.some.inj h
        exact hE H locs 103 ls _ hP hD hS rfl dL_broken_103
      replace h := if_f h c10
      refine lv_iload hx hb dL_broken_13 (lv_at hl 0 rfl) ?_
      refine lv_aload_n hx hb dL_broken_15 rfl (lv_at hl 2 rfl) ?_
      obtain ⟨v16, e16, h⟩ := bnd h
      refine cS (av := [.int l4_6, .ref a0]) (rest := []) (st1 := [.int v16]) (k1 := 0) (k2 := 0) hx hb hml hown htg hN hK (c_L_there l dC dI cy a0 N0 w0 l4_6 v16 e16) (g_S gw453 gw454 gw6 gw455) hdS_L_there rfl ⟨⟨Nat.le_of_ble_eq_true rfl, Nat.le_of_ble_eq_true rfl⟩, Nat.le_of_ble_eq_true rfl, Nat.le_of_ble_eq_true rfl⟩ hP hD hS hA [0] [1, 2] rfl rfl rfl (by decide) (by decide) hl.1 rfl (Nat.le_of_ble_eq_true rfl) rfl rfl rfl dL_broken_16 (fun H locs hP hD hS => ?_)
      obtain ⟨hP, hD⟩ := x_perm (ws' := wIA a0 cy N0 w0 ++ wIA a1 cy N1 w1 ++ wIA a2 cy N2 w2) hP hD [2, 0, 1] (by decide) rfl rfl
      have hj91 : ∀ (l4_91 : Int32) (l3_91 : Int32) (H : Heap) (locs : List Loc) (ls : Array Slot), G_L_broken_j91 (G_L_broken_L6 N0 N1 N2 w0 w1 w2 n6) N0 N1 N2 w0 w1 w2 l4_91 l3_91 = some res → va_P (dC, dI) vwCl (wIA a0 cy N0 w0 ++ wIA a1 cy N1 w1 ++ wIA a2 cy N2 w2) H → va_D A (wIA a0 cy N0 w0 ++ wIA a1 cy N1 w1 ++ wIA a2 cy N2 w2) → va_S A s.heap H locs → lv_has ls 8 [(4, .int l4_91), (3, .int l3_91), (0, .ref a0), (1, .ref a1), (2, .ref a2)] → W p l e rm_L_broken s mm args below meth cd H locs 0 0 Q (F0 mm 91 ls []) := by
        intro l4_91 l3_91 H locs ls h hP hD hS hl
        unfold G_L_broken_j91 at h
        refine lv_iinc (v := l4_91 + 1) (lv' := [(4, .int (l4_91 + 1)), (3, .int l3_91), (0, .ref a0), (1, .ref a1), (2, .ref a2)]) hx hb dL_broken_91 hl (k := 0) rfl rfl (by decide) rfl (fun ls hl => ?_)
        refine lv_goto (tgt := 6) hx hb dL_broken_94 (by decide) ?_
        exact ih6 (l4_91 + 1) l3_91 H locs ls h hP hD hS (lv_sub hl [0, 1, 2, 3, 4] rfl)
      refine lv_if_ne (tgt := 25) hx hb dL_broken_19 (by decide) (fun c19 => ?_) (fun c19 => ?_)
      · replace h := if_f h c19
        refine lv_iload hx hb dL_broken_25 (lv_at hl 0 rfl) ?_
        refine lv_aload_n hx hb dL_broken_27 rfl (lv_at hl 2 rfl) ?_
        obtain ⟨v28, e28, h⟩ := bnd h
        refine cS (av := [.int l4_6, .ref a0]) (rest := []) (st1 := [.int v28]) (k1 := 0) (k2 := 0) hx hb hml hown htg hN hK (c_L_next l dC dI cy a0 N0 w0 l4_6 v28 e28) (g_S gw456 gw457 gw6 gw458) hdS_L_next rfl ⟨⟨Nat.le_of_ble_eq_true rfl, Nat.le_of_ble_eq_true rfl⟩, Nat.le_of_ble_eq_true rfl, Nat.le_of_ble_eq_true rfl⟩ hP hD hS hA [0] [1, 2] rfl rfl rfl (by decide) (by decide) hl.1 rfl (Nat.le_of_ble_eq_true rfl) rfl rfl rfl dL_broken_28 (fun H locs hP hD hS => ?_)
        obtain ⟨hP, hD⟩ := x_perm (ws' := wIA a0 cy N0 w0 ++ wIA a1 cy N1 w1 ++ wIA a2 cy N2 w2) hP hD [2, 0, 1] (by decide) rfl rfl
        refine lv_istore (lv' := [(5, .int v28), (4, .int l4_6), (3, .int l3_6), (0, .ref a0), (1, .ref a1), (2, .ref a2)]) hx hb dL_broken_31 hl (by decide) rfl (fun ls hl => ?_)
        refine lv_aload_n hx hb dL_broken_33 rfl (lv_at hl 4 rfl) ?_
        refine lv_iload hx hb dL_broken_34 (lv_at hl 1 rfl) ?_
        obtain ⟨v36, e36, h⟩ := bnd h
        refine x_iald (v := v36) hx hb hK hP 1 0 rfl rfl e36 dL_broken_36 ?_
        refine lv_if_lt (tgt := 65) hx hb dL_broken_37 (by decide) (fun c37 => ?_) (fun c37 => ?_)
        · replace h := if_t h c37
          refine lv_iconst (v := 1) hx hb dL_broken_65 (by decide) ?_
          obtain rfl := Option.some.inj h
          exact hE H locs 66 ls _ hP hD hS rfl dL_broken_66
        replace h := if_f h c37
        refine lv_aload_n hx hb dL_broken_40 rfl (lv_at hl 4 rfl) ?_
        refine lv_iload hx hb dL_broken_41 (lv_at hl 1 rfl) ?_
        obtain ⟨v43, e43, h⟩ := bnd h
        refine x_iald (v := v43) hx hb hK hP 1 0 rfl rfl e43 dL_broken_43 ?_
        refine lv_bipush (v := 15) hx hb dL_broken_44 (by decide) ?_
        refine lv_icmp_gt (tgt := 65) hx hb dL_broken_46 (by decide) (fun c46 => ?_) (fun c46 => ?_)
        · replace h := if_t h c46
          refine lv_iconst (v := 1) hx hb dL_broken_65 (by decide) ?_
          obtain rfl := Option.some.inj h
          exact hE H locs 66 ls _ hP hD hS rfl dL_broken_66
        replace h := if_f h c46
        refine lv_aload_n hx hb dL_broken_49 rfl (lv_at hl 5 rfl) ?_
        refine lv_iload hx hb dL_broken_50 (lv_at hl 1 rfl) ?_
        obtain ⟨v52, e52, h⟩ := bnd h
        refine x_iald (v := v52) hx hb hK hP 2 0 rfl rfl e52 dL_broken_52 ?_
        refine lv_if_lt (tgt := 65) hx hb dL_broken_53 (by decide) (fun c53 => ?_) (fun c53 => ?_)
        · replace h := if_t h c53
          refine lv_iconst (v := 1) hx hb dL_broken_65 (by decide) ?_
          obtain rfl := Option.some.inj h
          exact hE H locs 66 ls _ hP hD hS rfl dL_broken_66
        replace h := if_f h c53
        refine lv_aload_n hx hb dL_broken_56 rfl (lv_at hl 5 rfl) ?_
        refine lv_iload hx hb dL_broken_57 (lv_at hl 1 rfl) ?_
        obtain ⟨v59, e59, h⟩ := bnd h
        refine x_iald (v := v59) hx hb hK hP 2 0 rfl rfl e59 dL_broken_59 ?_
        refine lv_bipush (v := 15) hx hb dL_broken_60 (by decide) ?_
        refine lv_icmp_le (tgt := 67) hx hb dL_broken_62 (by decide) (fun c62 => ?_) (fun c62 => ?_)
        · replace h := if_t h c62
          refine lv_aload_n hx hb dL_broken_67 rfl (lv_at hl 4 rfl) ?_
          refine lv_iload hx hb dL_broken_68 (lv_at hl 1 rfl) ?_
          obtain ⟨v70, e70, h⟩ := bnd h
          refine x_iald (v := v70) hx hb hK hP 1 0 rfl rfl e70 dL_broken_70 ?_
          refine lv_aload_n hx hb dL_broken_71 rfl (lv_at hl 4 rfl) ?_
          refine lv_iload hx hb dL_broken_72 (lv_at hl 0 rfl) ?_
          obtain ⟨v74, e74, h⟩ := bnd h
          refine x_iald (v := v74) hx hb hK hP 1 0 rfl rfl e74 dL_broken_74 ?_
          refine lv_icmp_ne (tgt := 91) hx hb dL_broken_75 (by decide) (fun c75 => ?_) (fun c75 => ?_)
          · replace h := if_f h c75
            exact hj91 l4_6 l3_6 H locs ls h hP hD hS (lv_sub hl [1, 2, 3, 4, 5] rfl)
          replace h := if_t h c75
          refine lv_aload_n hx hb dL_broken_78 rfl (lv_at hl 5 rfl) ?_
          refine lv_iload hx hb dL_broken_79 (lv_at hl 1 rfl) ?_
          obtain ⟨v81, e81, h⟩ := bnd h
          refine x_iald (v := v81) hx hb hK hP 2 0 rfl rfl e81 dL_broken_81 ?_
          refine lv_aload_n hx hb dL_broken_82 rfl (lv_at hl 5 rfl) ?_
          refine lv_iload hx hb dL_broken_83 (lv_at hl 0 rfl) ?_
          obtain ⟨v85, e85, h⟩ := bnd h
          refine x_iald (v := v85) hx hb hK hP 2 0 rfl rfl e85 dL_broken_85 ?_
          refine lv_icmp_ne (tgt := 91) hx hb dL_broken_86 (by decide) (fun c86 => ?_) (fun c86 => ?_)
          · replace h := if_f h c86
            exact hj91 l4_6 l3_6 H locs ls h hP hD hS (lv_sub hl [1, 2, 3, 4, 5] rfl)
          replace h := if_t h c86
          refine lv_iconst (v := 2) hx hb dL_broken_89 (by decide) ?_
          refine lv_istore_n (lv' := [(3, .int 2), (5, .int v28), (4, .int l4_6), (0, .ref a0), (1, .ref a1), (2, .ref a2)]) hx hb dL_broken_90 rfl hl (by decide) rfl (fun ls hl => ?_)
          exact hj91 l4_6 2 H locs ls h hP hD hS (lv_sub hl [2, 0, 3, 4, 5] rfl)
        replace h := if_f h c62
        refine lv_iconst (v := 1) hx hb dL_broken_65 (by decide) ?_
        obtain rfl := Option.some.inj h
        exact hE H locs 66 ls _ hP hD hS rfl dL_broken_66
      replace h := if_t h c19
      refine lv_goto (tgt := 91) hx hb dL_broken_22 (by decide) ?_
      exact hj91 l4_6 l3_6 H locs ls h hP hD hS (lv_sub hl [0, 1, 2, 3, 4] rfl)
  exact hL6 FU 0 6 H locs ls h hP hD hS (lv_sub hl [0, 1, 2, 3, 4] rfl)
def G_L_cell (N0 : Nat) (w0 : Nat → Int32) (p1 : Int32) : Option (Int32) :=
  if Int32.ofNat N0 ≤ p1 then
    some ((1597334677 * (p1 + 1)) + 1009589775)
  else
    (rd N0 w0 p1).bind fun v8 =>
    some v8
abbrev rm_L_cell : Room := { frames := 0, cells := 0, slots := 0, locals := 0 }
theorem hdS_L_cell : yL_cell.cls ≠ "java/lang/invoke/MethodHandle" ∧ yL_cell.cls ≠ "java/lang/invoke/VarHandle" ∧ (parseMethodDescriptor yL_cell.desc).map (fun d => d.parameters.length) = some 2 := by decide +kernel
set_option maxHeartbeats 4000000 in
set_option maxRecDepth 100000 in
theorem c_L_cell (l : Launch) (dC : Nat → ClassId) (dI : Nat → Nat → Nat) (cy : Nat → ClassId) (a0 : Nat) (N0 : Nat) (w0 : Nat → Int32) (p1 : Int32) (res : Int32) (h : G_L_cell N0 w0 p1 = some res) : CT l (dC, dI) (TY cy) yL_cell cL_cell 2 (some .int) rm_L_cell [.ref a0, .int p1] (wIA a0 cy N0 w0) (wIA a0 cy N0 w0) (some (.int res)) := by
  refine CT.mk_i (own := RL) ⟨by decide, rfl⟩ (Nat.le_of_ble_eq_true rfl) ?_
  intro p e s mm args below meth cd A Q hx hb hml hown htg hN hK hA hP hD hS hE ls hl
  have hl : lv_has ls 2 [(0, .ref a0), (1, .int p1)] := hl
  replace h : _ = some res := h
  unfold G_L_cell at h
  obtain ⟨H, hH⟩ : ∃ H, H = s.heap := ⟨_, rfl⟩
  obtain ⟨locs, hlocs⟩ : ∃ locs : List Loc, locs = [] := ⟨_, rfl⟩
  rw [← hlocs] at hS ⊢
  have hS : va_S A s.heap H locs := by rw [hH]; exact hS
  rw [← hH] at hP ⊢
  refine lv_iload_n hx hb dL_cell_0 rfl (lv_at hl 1 rfl) ?_
  refine lv_aload_n hx hb dL_cell_1 rfl (lv_at hl 0 rfl) ?_
  refine va_alen hx hb hK hP 0 0 rfl rfl rfl dL_cell_2 ?_
  refine lv_icmp_ge (tgt := 12) hx hb dL_cell_3 (by decide) (fun c3 => ?_) (fun c3 => ?_)
  · replace h := if_t h c3
    refine lv_ldc (v := 1597334677) hx hb hown (htg _ gw318) dL_cell_12 ?_
    refine lv_iload_n hx hb dL_cell_14 rfl (lv_at hl 1 rfl) ?_
    refine lv_iconst (v := 1) hx hb dL_cell_15 (by decide) ?_
    refine lv_iadd hx hb dL_cell_16 ?_
    refine lv_imul hx hb dL_cell_17 ?_
    refine lv_ldc (v := 1009589775) hx hb hown (htg _ gw319) dL_cell_18 ?_
    refine lv_iadd hx hb dL_cell_20 ?_
    obtain rfl := Option.some.inj h
    exact hE H locs 21 ls _ hP hD hS rfl dL_cell_21
  replace h := if_f h c3
  refine lv_aload_n hx hb dL_cell_6 rfl (lv_at hl 0 rfl) ?_
  refine lv_iload_n hx hb dL_cell_7 rfl (lv_at hl 1 rfl) ?_
  obtain ⟨v8, e8, h⟩ := bnd h
  refine x_iald (v := v8) hx hb hK hP 0 0 rfl rfl e8 dL_cell_8 ?_
  refine lv_goto (tgt := 21) hx hb dL_cell_9 (by decide) ?_
  obtain rfl := Option.some.inj h
  exact hE H locs 21 ls _ hP hD hS rfl dL_cell_21
def G_L_copy_L26  (N0 : Nat) (N1 : Nat) (N2 : Nat) (N3 : Nat) (N4 : Nat) (N5 : Nat) (w0 : Nat → Int32) (w1 : Nat → Int32) (w2 : Nat → Int32) : Nat → (Nat → Int32) → (Nat → Int32) → (Nat → Int32) → Int32 → Option ((Nat → Int32) × (Nat → Int32) × (Nat → Int32))
  | 0, _, _, _, _ => none
  | n26 + 1, w3_26, w4_26, w5_26, l6_26 =>
    if 40 ≤ l6_26 then
      some (w3_26, w4_26, w5_26)
    else
      (rd N1 w1 l6_26).bind fun v40 =>
      (wr N4 w4_26 l6_26 v40).bind fun g41 =>
      (rd N2 w2 l6_26).bind fun v49 =>
      (wr N5 w5_26 l6_26 v49).bind fun g50 =>
      (G_L_copy_L26 N0 N1 N2 N3 N4 N5 w0 w1 w2 n26) w3_26 g41 g50 (l6_26 + 1)
def G_L_copy_L3  (N0 : Nat) (N1 : Nat) (N2 : Nat) (N3 : Nat) (N4 : Nat) (N5 : Nat) (w0 : Nat → Int32) (w1 : Nat → Int32) (w2 : Nat → Int32) : Nat → (Nat → Int32) → (Nat → Int32) → (Nat → Int32) → Int32 → Option ((Nat → Int32) × (Nat → Int32) × (Nat → Int32))
  | 0, _, _, _, _ => none
  | n3 + 1, w3_3, w4_3, w5_3, l6_3 =>
    if 5 ≤ l6_3 then
      G_L_copy_L26 N0 N1 N2 N3 N4 N5 w0 w1 w2 FU w3_3 w4_3 w5_3 0
    else
      (rd N0 w0 l6_3).bind fun v15 =>
      (wr N3 w3_3 l6_3 v15).bind fun g16 =>
      (G_L_copy_L3 N0 N1 N2 N3 N4 N5 w0 w1 w2 n3) g16 w4_3 w5_3 (l6_3 + 1)
def G_L_copy (N0 : Nat) (N1 : Nat) (N2 : Nat) (N3 : Nat) (N4 : Nat) (N5 : Nat) (w0 : Nat → Int32) (w1 : Nat → Int32) (w2 : Nat → Int32) (w3 : Nat → Int32) (w4 : Nat → Int32) (w5 : Nat → Int32) : Option ((Nat → Int32) × (Nat → Int32) × (Nat → Int32)) :=
  G_L_copy_L3 N0 N1 N2 N3 N4 N5 w0 w1 w2 FU w3 w4 w5 0
abbrev rm_L_copy : Room := { frames := 0, cells := 0, slots := 0, locals := 0 }
theorem hdS_L_copy : yL_copy.cls ≠ "java/lang/invoke/MethodHandle" ∧ yL_copy.cls ≠ "java/lang/invoke/VarHandle" ∧ (parseMethodDescriptor yL_copy.desc).map (fun d => d.parameters.length) = some 6 := by decide +kernel
set_option maxHeartbeats 4000000 in
set_option maxRecDepth 100000 in
theorem c_L_copy (l : Launch) (dC : Nat → ClassId) (dI : Nat → Nat → Nat) (cy : Nat → ClassId) (a0 : Nat) (a1 : Nat) (a2 : Nat) (a3 : Nat) (a4 : Nat) (a5 : Nat) (N0 : Nat) (N1 : Nat) (N2 : Nat) (N3 : Nat) (N4 : Nat) (N5 : Nat) (w0 : Nat → Int32) (w1 : Nat → Int32) (w2 : Nat → Int32) (w3 : Nat → Int32) (w4 : Nat → Int32) (w5 : Nat → Int32) (res : (Nat → Int32) × (Nat → Int32) × (Nat → Int32)) (h : G_L_copy N0 N1 N2 N3 N4 N5 w0 w1 w2 w3 w4 w5 = some res) : CT l (dC, dI) (TY cy) yL_copy cL_copy 7 none rm_L_copy [.ref a0, .ref a1, .ref a2, .ref a3, .ref a4, .ref a5] (wIA a0 cy N0 w0 ++ wIA a1 cy N1 w1 ++ wIA a2 cy N2 w2 ++ wIA a3 cy N3 w3 ++ wIA a4 cy N4 w4 ++ wIA a5 cy N5 w5) (wIA a0 cy N0 w0 ++ wIA a1 cy N1 w1 ++ wIA a2 cy N2 w2 ++ wIA a3 cy N3 res.1 ++ wIA a4 cy N4 res.2.1 ++ wIA a5 cy N5 res.2.2) none := by
  refine CT.mk_v (own := RL) ⟨by decide, rfl⟩ (Nat.le_of_ble_eq_true rfl) ?_
  intro p e s mm args below meth cd A Q hx hb hml hown htg hN hK hA hP hD hS hE ls hl
  have hl : lv_has ls 7 [(0, .ref a0), (1, .ref a1), (2, .ref a2), (3, .ref a3), (4, .ref a4), (5, .ref a5)] := hl
  replace h : _ = some res := h
  unfold G_L_copy at h
  obtain ⟨H, hH⟩ : ∃ H, H = s.heap := ⟨_, rfl⟩
  obtain ⟨locs, hlocs⟩ : ∃ locs : List Loc, locs = [] := ⟨_, rfl⟩
  rw [← hlocs] at hS ⊢
  have hS : va_S A s.heap H locs := by rw [hH]; exact hS
  rw [← hH] at hP ⊢
  refine lv_iconst (v := 0) hx hb dL_copy_0 (by decide) ?_
  refine lv_istore (lv' := [(6, .int 0), (0, .ref a0), (1, .ref a1), (2, .ref a2), (3, .ref a3), (4, .ref a4), (5, .ref a5)]) hx hb dL_copy_1 hl (by decide) rfl (fun ls hl => ?_)
  have hL3 : ∀ (n3 : Nat) (w3_3 : Nat → Int32) (w4_3 : Nat → Int32) (w5_3 : Nat → Int32) (l6_3 : Int32) (H : Heap) (locs : List Loc) (ls : Array Slot), G_L_copy_L3 N0 N1 N2 N3 N4 N5 w0 w1 w2 n3 w3_3 w4_3 w5_3 l6_3 = some res → va_P (dC, dI) vwCl (wIA a0 cy N0 w0 ++ wIA a1 cy N1 w1 ++ wIA a2 cy N2 w2 ++ wIA a3 cy N3 w3_3 ++ wIA a4 cy N4 w4_3 ++ wIA a5 cy N5 w5_3) H → va_D A (wIA a0 cy N0 w0 ++ wIA a1 cy N1 w1 ++ wIA a2 cy N2 w2 ++ wIA a3 cy N3 w3_3 ++ wIA a4 cy N4 w4_3 ++ wIA a5 cy N5 w5_3) → va_S A s.heap H locs → lv_has ls 7 [(6, .int l6_3), (0, .ref a0), (1, .ref a1), (2, .ref a2), (3, .ref a3), (4, .ref a4), (5, .ref a5)] → W p l e rm_L_copy s mm args below meth cd H locs 0 0 Q (F0 mm 3 ls []) := by
    intro n3
    induction n3 with
    | zero => intro w3_3 w4_3 w5_3 l6_3 H locs ls h; exact absurd h (by simp [G_L_copy_L3])
    | succ n3 ih3 =>
      intro w3_3 w4_3 w5_3 l6_3 H locs ls h hP hD hS hl
      rw [G_L_copy_L3] at h
      refine lv_iload hx hb dL_copy_3 (lv_at hl 0 rfl) ?_
      refine lv_iconst (v := 5) hx hb dL_copy_5 (by decide) ?_
      refine lv_icmp_ge (tgt := 23) hx hb dL_copy_6 (by decide) (fun c6 => ?_) (fun c6 => ?_)
      · replace h := if_t h c6
        refine lv_iconst (v := 0) hx hb dL_copy_23 (by decide) ?_
        refine lv_istore (lv' := [(6, .int 0), (0, .ref a0), (1, .ref a1), (2, .ref a2), (3, .ref a3), (4, .ref a4), (5, .ref a5)]) hx hb dL_copy_24 hl (by decide) rfl (fun ls hl => ?_)
        have hL26 : ∀ (n26 : Nat) (w3_26 : Nat → Int32) (w4_26 : Nat → Int32) (w5_26 : Nat → Int32) (l6_26 : Int32) (H : Heap) (locs : List Loc) (ls : Array Slot), G_L_copy_L26 N0 N1 N2 N3 N4 N5 w0 w1 w2 n26 w3_26 w4_26 w5_26 l6_26 = some res → va_P (dC, dI) vwCl (wIA a0 cy N0 w0 ++ wIA a1 cy N1 w1 ++ wIA a2 cy N2 w2 ++ wIA a3 cy N3 w3_26 ++ wIA a4 cy N4 w4_26 ++ wIA a5 cy N5 w5_26) H → va_D A (wIA a0 cy N0 w0 ++ wIA a1 cy N1 w1 ++ wIA a2 cy N2 w2 ++ wIA a3 cy N3 w3_26 ++ wIA a4 cy N4 w4_26 ++ wIA a5 cy N5 w5_26) → va_S A s.heap H locs → lv_has ls 7 [(6, .int l6_26), (1, .ref a1), (2, .ref a2), (4, .ref a4), (5, .ref a5)] → W p l e rm_L_copy s mm args below meth cd H locs 0 0 Q (F0 mm 26 ls []) := by
          intro n26
          induction n26 with
          | zero => intro w3_26 w4_26 w5_26 l6_26 H locs ls h; exact absurd h (by simp [G_L_copy_L26])
          | succ n26 ih26 =>
            intro w3_26 w4_26 w5_26 l6_26 H locs ls h hP hD hS hl
            rw [G_L_copy_L26] at h
            refine lv_iload hx hb dL_copy_26 (lv_at hl 0 rfl) ?_
            refine lv_bipush (v := 40) hx hb dL_copy_28 (by decide) ?_
            refine lv_icmp_ge (tgt := 57) hx hb dL_copy_30 (by decide) (fun c30 => ?_) (fun c30 => ?_)
            · replace h := if_t h c30
              obtain rfl := Option.some.inj h
              exact hE H locs 57 ls hP hD hS dL_copy_57
            replace h := if_f h c30
            refine lv_aload hx hb dL_copy_33 (lv_at hl 3 rfl) ?_
            refine lv_iload hx hb dL_copy_35 (lv_at hl 0 rfl) ?_
            refine lv_aload_n hx hb dL_copy_37 rfl (lv_at hl 1 rfl) ?_
            refine lv_iload hx hb dL_copy_38 (lv_at hl 0 rfl) ?_
            obtain ⟨v40, e40, h⟩ := bnd h
            refine x_iald (v := v40) hx hb hK hP 1 0 rfl rfl e40 dL_copy_40 ?_
            obtain ⟨g41, e41, h⟩ := bnd h
            refine x_iast (g := g41) hx hb hK hP hD hS 4 0 rfl rfl e41 dL_copy_41 (fun H locs hP hD hS => ?_)
            have hP : va_P (dC, dI) vwCl (wIA a0 cy N0 w0 ++ wIA a1 cy N1 w1 ++ wIA a2 cy N2 w2 ++ wIA a3 cy N3 w3_26 ++ wIA a4 cy N4 g41 ++ wIA a5 cy N5 w5_26) H := hP
            have hD : va_D A (wIA a0 cy N0 w0 ++ wIA a1 cy N1 w1 ++ wIA a2 cy N2 w2 ++ wIA a3 cy N3 w3_26 ++ wIA a4 cy N4 g41 ++ wIA a5 cy N5 w5_26) := hD
            refine lv_aload hx hb dL_copy_42 (lv_at hl 4 rfl) ?_
            refine lv_iload hx hb dL_copy_44 (lv_at hl 0 rfl) ?_
            refine lv_aload_n hx hb dL_copy_46 rfl (lv_at hl 2 rfl) ?_
            refine lv_iload hx hb dL_copy_47 (lv_at hl 0 rfl) ?_
            obtain ⟨v49, e49, h⟩ := bnd h
            refine x_iald (v := v49) hx hb hK hP 2 0 rfl rfl e49 dL_copy_49 ?_
            obtain ⟨g50, e50, h⟩ := bnd h
            refine x_iast (g := g50) hx hb hK hP hD hS 5 0 rfl rfl e50 dL_copy_50 (fun H locs hP hD hS => ?_)
            have hP : va_P (dC, dI) vwCl (wIA a0 cy N0 w0 ++ wIA a1 cy N1 w1 ++ wIA a2 cy N2 w2 ++ wIA a3 cy N3 w3_26 ++ wIA a4 cy N4 g41 ++ wIA a5 cy N5 g50) H := hP
            have hD : va_D A (wIA a0 cy N0 w0 ++ wIA a1 cy N1 w1 ++ wIA a2 cy N2 w2 ++ wIA a3 cy N3 w3_26 ++ wIA a4 cy N4 g41 ++ wIA a5 cy N5 g50) := hD
            refine lv_iinc (v := l6_26 + 1) (lv' := [(6, .int (l6_26 + 1)), (1, .ref a1), (2, .ref a2), (4, .ref a4), (5, .ref a5)]) hx hb dL_copy_51 hl (k := 0) rfl rfl (by decide) rfl (fun ls hl => ?_)
            refine lv_goto (tgt := 26) hx hb dL_copy_54 (by decide) ?_
            exact ih26 w3_26 g41 g50 (l6_26 + 1) H locs ls h hP hD hS (lv_sub hl [0, 1, 2, 3, 4] rfl)
        exact hL26 FU w3_3 w4_3 w5_3 0 H locs ls h hP hD hS (lv_sub hl [0, 2, 3, 5, 6] rfl)
      replace h := if_f h c6
      refine lv_aload_n hx hb dL_copy_9 rfl (lv_at hl 4 rfl) ?_
      refine lv_iload hx hb dL_copy_10 (lv_at hl 0 rfl) ?_
      refine lv_aload_n hx hb dL_copy_12 rfl (lv_at hl 1 rfl) ?_
      refine lv_iload hx hb dL_copy_13 (lv_at hl 0 rfl) ?_
      obtain ⟨v15, e15, h⟩ := bnd h
      refine x_iald (v := v15) hx hb hK hP 0 0 rfl rfl e15 dL_copy_15 ?_
      obtain ⟨g16, e16, h⟩ := bnd h
      refine x_iast (g := g16) hx hb hK hP hD hS 3 0 rfl rfl e16 dL_copy_16 (fun H locs hP hD hS => ?_)
      have hP : va_P (dC, dI) vwCl (wIA a0 cy N0 w0 ++ wIA a1 cy N1 w1 ++ wIA a2 cy N2 w2 ++ wIA a3 cy N3 g16 ++ wIA a4 cy N4 w4_3 ++ wIA a5 cy N5 w5_3) H := hP
      have hD : va_D A (wIA a0 cy N0 w0 ++ wIA a1 cy N1 w1 ++ wIA a2 cy N2 w2 ++ wIA a3 cy N3 g16 ++ wIA a4 cy N4 w4_3 ++ wIA a5 cy N5 w5_3) := hD
      refine lv_iinc (v := l6_3 + 1) (lv' := [(6, .int (l6_3 + 1)), (0, .ref a0), (1, .ref a1), (2, .ref a2), (3, .ref a3), (4, .ref a4), (5, .ref a5)]) hx hb dL_copy_17 hl (k := 0) rfl rfl (by decide) rfl (fun ls hl => ?_)
      refine lv_goto (tgt := 3) hx hb dL_copy_20 (by decide) ?_
      exact ih3 g16 w4_3 w5_3 (l6_3 + 1) H locs ls h hP hD hS (lv_sub hl [0, 1, 2, 3, 4, 5, 6] rfl)
  exact hL3 FU w3 w4 w5 0 H locs ls h hP hD hS (lv_sub hl [0, 1, 2, 3, 4, 5, 6] rfl)
def G_L_hull_L80 (r16 : Int32 → Int32 → Int32 → Option (Int32)) (N0 : Nat) (N1 : Nat) (N2 : Nat) (w0 : Nat → Int32) (w1 : Nat → Int32) (w2 : Nat → Int32) : Nat → Int32 → Int32 → Int32 → Int32 → Int32 → Int32 → Option (Int32)
  | 0, _, _, _, _, _, _ => none
  | n80 + 1, l8_80, l7_80, l6_80, l5_80, l4_80, l3_80 =>
    (rd N0 w0 1).bind fun v84 =>
    if v84 ≤ l8_80 then
      ((if l7_80 = 0 then
          some 0
        else
          (rd N1 w1 l4_80).bind fun v219 =>
          (rd N2 w2 l4_80).bind fun v223 =>
          (rd N1 w1 l5_80).bind fun v227 =>
          (rd N2 w2 l5_80).bind fun v231 =>
          (G_L_cross v219 v223 v227 v231).bind fun v232 =>
          some v232) : Option (Int32)).bind fun b213 =>
      r16 (l5_80 + 1) l4_80 (l3_80 + b213)
    else
      (rd N1 w1 l5_80).bind fun v91 =>
      (rd N1 w1 l4_80).bind fun v95 =>
      (rd N2 w2 l5_80).bind fun v100 =>
      (rd N2 w2 l4_80).bind fun v104 =>
      (rd N1 w1 l8_80).bind fun v109 =>
      (rd N1 w1 l4_80).bind fun v113 =>
      (rd N2 w2 l8_80).bind fun v118 =>
      (rd N2 w2 l4_80).bind fun v122 =>
      (G_L_cross (v91 - v95) (v100 - v104) (v109 - v113) (v118 - v122)).bind fun v124 =>
      (rd N1 w1 l5_80).bind fun v132 =>
      (rd N1 w1 l4_80).bind fun v136 =>
      (rd N1 w1 l8_80).bind fun v141 =>
      (rd N1 w1 l4_80).bind fun v145 =>
      (rd N2 w2 l5_80).bind fun v151 =>
      (rd N2 w2 l4_80).bind fun v155 =>
      (rd N2 w2 l8_80).bind fun v160 =>
      (rd N2 w2 l4_80).bind fun v164 =>
      ((if l7_80 = 0 then
          some 0
        else
          if 0 < v124 then
            some 1
          else
            if v124 = 0 then
              if ((v132 - v136) * (v141 - v145)) + ((v151 - v155) * (v160 - v164)) < 0 then
                some 0
              else
                if l6_80 < ((v132 - v136) * (v141 - v145)) + ((v151 - v155) * (v160 - v164)) then
                  some 0
                else
                  some 1
            else
              some 0) : Option (Int32)).bind fun b172 =>
      (G_L_hull_L80 r16 N0 N1 N2 w0 w1 w2 n80) (l8_80 + 1) b172 l6_80 l5_80 l4_80 l3_80
def G_L_hull_L16 (r5 : Int32 → Int32 → Option (Int32)) (N0 : Nat) (N1 : Nat) (N2 : Nat) (w0 : Nat → Int32) (w1 : Nat → Int32) (w2 : Nat → Int32) : Nat → Int32 → Int32 → Int32 → Option (Int32)
  | 0, _, _, _ => none
  | n16 + 1, l5_16, l4_16, l3_16 =>
    (rd N0 w0 1).bind fun v20 =>
    if v20 ≤ l5_16 then
      r5 (l4_16 + 1) l3_16
    else
      (rd N1 w1 l5_16).bind fun v27 =>
      (rd N1 w1 l4_16).bind fun v31 =>
      (rd N1 w1 l5_16).bind fun v36 =>
      (rd N1 w1 l4_16).bind fun v40 =>
      (rd N2 w2 l5_16).bind fun v46 =>
      (rd N2 w2 l4_16).bind fun v50 =>
      (rd N2 w2 l5_16).bind fun v55 =>
      (rd N2 w2 l4_16).bind fun v59 =>
      ((if ((v27 - v31) * (v36 - v40)) + ((v46 - v50) * (v55 - v59)) ≤ 0 then
          some 0
        else
          some 1) : Option (Int32)).bind fun b67 =>
      G_L_hull_L80 (G_L_hull_L16 r5 N0 N1 N2 w0 w1 w2 n16) N0 N1 N2 w0 w1 w2 FU 0 b67 (((v27 - v31) * (v36 - v40)) + ((v46 - v50) * (v55 - v59))) l5_16 l4_16 l3_16
def G_L_hull_L5  (N0 : Nat) (N1 : Nat) (N2 : Nat) (w0 : Nat → Int32) (w1 : Nat → Int32) (w2 : Nat → Int32) : Nat → Int32 → Int32 → Option (Int32)
  | 0, _, _ => none
  | n5 + 1, l4_5, l3_5 =>
    (rd N0 w0 1).bind fun v9 =>
    if v9 ≤ l4_5 then
      some l3_5
    else
      G_L_hull_L16 (G_L_hull_L5 N0 N1 N2 w0 w1 w2 n5) N0 N1 N2 w0 w1 w2 FU 0 l4_5 l3_5
def G_L_hull (N0 : Nat) (N1 : Nat) (N2 : Nat) (w0 : Nat → Int32) (w1 : Nat → Int32) (w2 : Nat → Int32) : Option (Int32) :=
  G_L_hull_L5 N0 N1 N2 w0 w1 w2 FU 0 0
abbrev rm_L_hull : Room := { frames := 1, cells := 0, slots := 0, locals := 23 }
theorem hdS_L_hull : yL_hull.cls ≠ "java/lang/invoke/MethodHandle" ∧ yL_hull.cls ≠ "java/lang/invoke/VarHandle" ∧ (parseMethodDescriptor yL_hull.desc).map (fun d => d.parameters.length) = some 3 := by decide +kernel
set_option maxHeartbeats 4000000 in
set_option maxRecDepth 100000 in
theorem c_L_hull (l : Launch) (dC : Nat → ClassId) (dI : Nat → Nat → Nat) (cy : Nat → ClassId) (a0 : Nat) (a1 : Nat) (a2 : Nat) (N0 : Nat) (N1 : Nat) (N2 : Nat) (w0 : Nat → Int32) (w1 : Nat → Int32) (w2 : Nat → Int32) (res : Int32) (h : G_L_hull N0 N1 N2 w0 w1 w2 = some res) : CT l (dC, dI) (TY cy) yL_hull cL_hull 11 (some .int) rm_L_hull [.ref a0, .ref a1, .ref a2] (wIA a0 cy N0 w0 ++ wIA a1 cy N1 w1 ++ wIA a2 cy N2 w2) (wIA a0 cy N0 w0 ++ wIA a1 cy N1 w1 ++ wIA a2 cy N2 w2) (some (.int res)) := by
  refine CT.mk_i (own := RL) ⟨by decide, rfl⟩ (Nat.le_of_ble_eq_true rfl) ?_
  intro p e s mm args below meth cd A Q hx hb hml hown htg hN hK hA hP hD hS hE ls hl
  have hl : lv_has ls 11 [(0, .ref a0), (1, .ref a1), (2, .ref a2)] := hl
  replace h : _ = some res := h
  unfold G_L_hull at h
  obtain ⟨H, hH⟩ : ∃ H, H = s.heap := ⟨_, rfl⟩
  obtain ⟨locs, hlocs⟩ : ∃ locs : List Loc, locs = [] := ⟨_, rfl⟩
  rw [← hlocs] at hS ⊢
  have hS : va_S A s.heap H locs := by rw [hH]; exact hS
  rw [← hH] at hP ⊢
  refine lv_iconst (v := 0) hx hb dL_hull_0 (by decide) ?_
  refine lv_istore_n (lv' := [(3, .int 0), (0, .ref a0), (1, .ref a1), (2, .ref a2)]) hx hb dL_hull_1 rfl hl (by decide) rfl (fun ls hl => ?_)
  refine lv_iconst (v := 0) hx hb dL_hull_2 (by decide) ?_
  refine lv_istore (lv' := [(4, .int 0), (3, .int 0), (0, .ref a0), (1, .ref a1), (2, .ref a2)]) hx hb dL_hull_3 hl (by decide) rfl (fun ls hl => ?_)
  have hL5 : ∀ (n5 : Nat) (l4_5 : Int32) (l3_5 : Int32) (H : Heap) (locs : List Loc) (ls : Array Slot), G_L_hull_L5 N0 N1 N2 w0 w1 w2 n5 l4_5 l3_5 = some res → va_P (dC, dI) vwCl (wIA a0 cy N0 w0 ++ wIA a1 cy N1 w1 ++ wIA a2 cy N2 w2) H → va_D A (wIA a0 cy N0 w0 ++ wIA a1 cy N1 w1 ++ wIA a2 cy N2 w2) → va_S A s.heap H locs → lv_has ls 11 [(4, .int l4_5), (3, .int l3_5), (0, .ref a0), (1, .ref a1), (2, .ref a2)] → W p l e rm_L_hull s mm args below meth cd H locs 0 0 Q (F0 mm 5 ls []) := by
    intro n5
    induction n5 with
    | zero => intro l4_5 l3_5 H locs ls h; exact absurd h (by simp [G_L_hull_L5])
    | succ n5 ih5 =>
      intro l4_5 l3_5 H locs ls h hP hD hS hl
      rw [G_L_hull_L5] at h
      refine lv_iload hx hb dL_hull_5 (lv_at hl 0 rfl) ?_
      refine lv_aload_n hx hb dL_hull_7 rfl (lv_at hl 2 rfl) ?_
      refine lv_iconst (v := 1) hx hb dL_hull_8 (by decide) ?_
      obtain ⟨v9, e9, h⟩ := bnd h
      refine x_iald (v := v9) hx hb hK hP 0 0 rfl rfl e9 dL_hull_9 ?_
      refine lv_icmp_ge (tgt := 253) hx hb dL_hull_10 (by decide) (fun c10 => ?_) (fun c10 => ?_)
      · replace h := if_t h c10
        refine lv_iload_n hx hb dL_hull_253 rfl (lv_at hl 1 rfl) ?_
        obtain rfl := Option.some.inj h
        exact hE H locs 254 ls _ hP hD hS rfl dL_hull_254
      replace h := if_f h c10
      refine lv_iconst (v := 0) hx hb dL_hull_13 (by decide) ?_
      refine lv_istore (lv' := [(5, .int 0), (4, .int l4_5), (3, .int l3_5), (0, .ref a0), (1, .ref a1), (2, .ref a2)]) hx hb dL_hull_14 hl (by decide) rfl (fun ls hl => ?_)
      have hL16 : ∀ (n16 : Nat) (l5_16 : Int32) (l4_16 : Int32) (l3_16 : Int32) (H : Heap) (locs : List Loc) (ls : Array Slot), G_L_hull_L16 (G_L_hull_L5 N0 N1 N2 w0 w1 w2 n5) N0 N1 N2 w0 w1 w2 n16 l5_16 l4_16 l3_16 = some res → va_P (dC, dI) vwCl (wIA a0 cy N0 w0 ++ wIA a1 cy N1 w1 ++ wIA a2 cy N2 w2) H → va_D A (wIA a0 cy N0 w0 ++ wIA a1 cy N1 w1 ++ wIA a2 cy N2 w2) → va_S A s.heap H locs → lv_has ls 11 [(5, .int l5_16), (4, .int l4_16), (3, .int l3_16), (0, .ref a0), (1, .ref a1), (2, .ref a2)] → W p l e rm_L_hull s mm args below meth cd H locs 0 0 Q (F0 mm 16 ls []) := by
        intro n16
        induction n16 with
        | zero => intro l5_16 l4_16 l3_16 H locs ls h; exact absurd h (by simp [G_L_hull_L16])
        | succ n16 ih16 =>
          intro l5_16 l4_16 l3_16 H locs ls h hP hD hS hl
          rw [G_L_hull_L16] at h
          refine lv_iload hx hb dL_hull_16 (lv_at hl 0 rfl) ?_
          refine lv_aload_n hx hb dL_hull_18 rfl (lv_at hl 3 rfl) ?_
          refine lv_iconst (v := 1) hx hb dL_hull_19 (by decide) ?_
          obtain ⟨v20, e20, h⟩ := bnd h
          refine x_iald (v := v20) hx hb hK hP 0 0 rfl rfl e20 dL_hull_20 ?_
          refine lv_icmp_ge (tgt := 247) hx hb dL_hull_21 (by decide) (fun c21 => ?_) (fun c21 => ?_)
          · replace h := if_t h c21
            refine lv_iinc (v := l4_16 + 1) (lv' := [(4, .int (l4_16 + 1)), (5, .int l5_16), (3, .int l3_16), (0, .ref a0), (1, .ref a1), (2, .ref a2)]) hx hb dL_hull_247 hl (k := 1) rfl rfl (by decide) rfl (fun ls hl => ?_)
            refine lv_goto (tgt := 5) hx hb dL_hull_250 (by decide) ?_
            exact ih5 (l4_16 + 1) l3_16 H locs ls h hP hD hS (lv_sub hl [0, 2, 3, 4, 5] rfl)
          replace h := if_f h c21
          refine lv_aload_n hx hb dL_hull_24 rfl (lv_at hl 4 rfl) ?_
          refine lv_iload hx hb dL_hull_25 (lv_at hl 0 rfl) ?_
          obtain ⟨v27, e27, h⟩ := bnd h
          refine x_iald (v := v27) hx hb hK hP 1 0 rfl rfl e27 dL_hull_27 ?_
          refine lv_aload_n hx hb dL_hull_28 rfl (lv_at hl 4 rfl) ?_
          refine lv_iload hx hb dL_hull_29 (lv_at hl 1 rfl) ?_
          obtain ⟨v31, e31, h⟩ := bnd h
          refine x_iald (v := v31) hx hb hK hP 1 0 rfl rfl e31 dL_hull_31 ?_
          refine lv_isub hx hb dL_hull_32 ?_
          refine lv_aload_n hx hb dL_hull_33 rfl (lv_at hl 4 rfl) ?_
          refine lv_iload hx hb dL_hull_34 (lv_at hl 0 rfl) ?_
          obtain ⟨v36, e36, h⟩ := bnd h
          refine x_iald (v := v36) hx hb hK hP 1 0 rfl rfl e36 dL_hull_36 ?_
          refine lv_aload_n hx hb dL_hull_37 rfl (lv_at hl 4 rfl) ?_
          refine lv_iload hx hb dL_hull_38 (lv_at hl 1 rfl) ?_
          obtain ⟨v40, e40, h⟩ := bnd h
          refine x_iald (v := v40) hx hb hK hP 1 0 rfl rfl e40 dL_hull_40 ?_
          refine lv_isub hx hb dL_hull_41 ?_
          refine lv_imul hx hb dL_hull_42 ?_
          refine lv_aload_n hx hb dL_hull_43 rfl (lv_at hl 5 rfl) ?_
          refine lv_iload hx hb dL_hull_44 (lv_at hl 0 rfl) ?_
          obtain ⟨v46, e46, h⟩ := bnd h
          refine x_iald (v := v46) hx hb hK hP 2 0 rfl rfl e46 dL_hull_46 ?_
          refine lv_aload_n hx hb dL_hull_47 rfl (lv_at hl 5 rfl) ?_
          refine lv_iload hx hb dL_hull_48 (lv_at hl 1 rfl) ?_
          obtain ⟨v50, e50, h⟩ := bnd h
          refine x_iald (v := v50) hx hb hK hP 2 0 rfl rfl e50 dL_hull_50 ?_
          refine lv_isub hx hb dL_hull_51 ?_
          refine lv_aload_n hx hb dL_hull_52 rfl (lv_at hl 5 rfl) ?_
          refine lv_iload hx hb dL_hull_53 (lv_at hl 0 rfl) ?_
          obtain ⟨v55, e55, h⟩ := bnd h
          refine x_iald (v := v55) hx hb hK hP 2 0 rfl rfl e55 dL_hull_55 ?_
          refine lv_aload_n hx hb dL_hull_56 rfl (lv_at hl 5 rfl) ?_
          refine lv_iload hx hb dL_hull_57 (lv_at hl 1 rfl) ?_
          obtain ⟨v59, e59, h⟩ := bnd h
          refine x_iald (v := v59) hx hb hK hP 2 0 rfl rfl e59 dL_hull_59 ?_
          refine lv_isub hx hb dL_hull_60 ?_
          refine lv_imul hx hb dL_hull_61 ?_
          refine lv_iadd hx hb dL_hull_62 ?_
          refine lv_istore (lv' := [(6, .int (((v27 - v31) * (v36 - v40)) + ((v46 - v50) * (v55 - v59)))), (5, .int l5_16), (4, .int l4_16), (3, .int l3_16), (0, .ref a0), (1, .ref a1), (2, .ref a2)]) hx hb dL_hull_63 hl (by decide) rfl (fun ls hl => ?_)
          refine lv_iload hx hb dL_hull_65 (lv_at hl 0 rfl) ?_
          obtain ⟨b67, e67, h⟩ := bnd h
          have hr75 : ∀ (H : Heap) (locs : List Loc) (ls : Array Slot), va_P (dC, dI) vwCl (wIA a0 cy N0 w0 ++ wIA a1 cy N1 w1 ++ wIA a2 cy N2 w2) H → va_D A (wIA a0 cy N0 w0 ++ wIA a1 cy N1 w1 ++ wIA a2 cy N2 w2) → va_S A s.heap H locs → lv_has ls 11 [(6, .int (((v27 - v31) * (v36 - v40)) + ((v46 - v50) * (v55 - v59)))), (5, .int l5_16), (4, .int l4_16), (3, .int l3_16), (0, .ref a0), (1, .ref a1), (2, .ref a2)] → W p l e rm_L_hull s mm args below meth cd H locs 0 0 Q (F0 mm 75 ls [.int b67]) := by
            intro H locs ls hP hD hS hl
            refine lv_istore (lv' := [(7, .int b67), (6, .int (((v27 - v31) * (v36 - v40)) + ((v46 - v50) * (v55 - v59)))), (5, .int l5_16), (4, .int l4_16), (3, .int l3_16), (0, .ref a0), (1, .ref a1), (2, .ref a2)]) hx hb dL_hull_75 hl (by decide) rfl (fun ls hl => ?_)
            refine lv_iconst (v := 0) hx hb dL_hull_77 (by decide) ?_
            refine lv_istore (lv' := [(8, .int 0), (7, .int b67), (6, .int (((v27 - v31) * (v36 - v40)) + ((v46 - v50) * (v55 - v59)))), (5, .int l5_16), (4, .int l4_16), (3, .int l3_16), (0, .ref a0), (1, .ref a1), (2, .ref a2)]) hx hb dL_hull_78 hl (by decide) rfl (fun ls hl => ?_)
            have hL80 : ∀ (n80 : Nat) (l8_80 : Int32) (l7_80 : Int32) (l6_80 : Int32) (l5_80 : Int32) (l4_80 : Int32) (l3_80 : Int32) (H : Heap) (locs : List Loc) (ls : Array Slot), G_L_hull_L80 (G_L_hull_L16 (G_L_hull_L5 N0 N1 N2 w0 w1 w2 n5) N0 N1 N2 w0 w1 w2 n16) N0 N1 N2 w0 w1 w2 n80 l8_80 l7_80 l6_80 l5_80 l4_80 l3_80 = some res → va_P (dC, dI) vwCl (wIA a0 cy N0 w0 ++ wIA a1 cy N1 w1 ++ wIA a2 cy N2 w2) H → va_D A (wIA a0 cy N0 w0 ++ wIA a1 cy N1 w1 ++ wIA a2 cy N2 w2) → va_S A s.heap H locs → lv_has ls 11 [(8, .int l8_80), (7, .int l7_80), (6, .int l6_80), (5, .int l5_80), (4, .int l4_80), (3, .int l3_80), (0, .ref a0), (1, .ref a1), (2, .ref a2)] → W p l e rm_L_hull s mm args below meth cd H locs 0 0 Q (F0 mm 80 ls []) := by
              intro n80
              induction n80 with
              | zero => intro l8_80 l7_80 l6_80 l5_80 l4_80 l3_80 H locs ls h; exact absurd h (by simp [G_L_hull_L80])
              | succ n80 ih80 =>
                intro l8_80 l7_80 l6_80 l5_80 l4_80 l3_80 H locs ls h hP hD hS hl
                rw [G_L_hull_L80] at h
                refine lv_iload hx hb dL_hull_80 (lv_at hl 0 rfl) ?_
                refine lv_aload_n hx hb dL_hull_82 rfl (lv_at hl 6 rfl) ?_
                refine lv_iconst (v := 1) hx hb dL_hull_83 (by decide) ?_
                obtain ⟨v84, e84, h⟩ := bnd h
                refine x_iald (v := v84) hx hb hK hP 0 0 rfl rfl e84 dL_hull_84 ?_
                refine lv_icmp_ge (tgt := 210) hx hb dL_hull_85 (by decide) (fun c85 => ?_) (fun c85 => ?_)
                · replace h := if_t h c85
                  refine lv_iload_n hx hb dL_hull_210 rfl (lv_at hl 5 rfl) ?_
                  refine lv_iload hx hb dL_hull_211 (lv_at hl 1 rfl) ?_
                  obtain ⟨b213, e213, h⟩ := bnd h
                  have hr239 : ∀ (H : Heap) (locs : List Loc) (ls : Array Slot), va_P (dC, dI) vwCl (wIA a0 cy N0 w0 ++ wIA a1 cy N1 w1 ++ wIA a2 cy N2 w2) H → va_D A (wIA a0 cy N0 w0 ++ wIA a1 cy N1 w1 ++ wIA a2 cy N2 w2) → va_S A s.heap H locs → lv_has ls 11 [(8, .int l8_80), (7, .int l7_80), (6, .int l6_80), (5, .int l5_80), (4, .int l4_80), (3, .int l3_80), (0, .ref a0), (1, .ref a1), (2, .ref a2)] → W p l e rm_L_hull s mm args below meth cd H locs 0 0 Q (F0 mm 239 ls [.int b213, .int l3_80]) := by
                    intro H locs ls hP hD hS hl
                    refine lv_iadd hx hb dL_hull_239 ?_
                    refine lv_istore_n (lv' := [(3, .int (l3_80 + b213)), (8, .int l8_80), (7, .int l7_80), (6, .int l6_80), (5, .int l5_80), (4, .int l4_80), (0, .ref a0), (1, .ref a1), (2, .ref a2)]) hx hb dL_hull_240 rfl hl (by decide) rfl (fun ls hl => ?_)
                    refine lv_iinc (v := l5_80 + 1) (lv' := [(5, .int (l5_80 + 1)), (3, .int (l3_80 + b213)), (8, .int l8_80), (7, .int l7_80), (6, .int l6_80), (4, .int l4_80), (0, .ref a0), (1, .ref a1), (2, .ref a2)]) hx hb dL_hull_241 hl (k := 4) rfl rfl (by decide) rfl (fun ls hl => ?_)
                    refine lv_goto (tgt := 16) hx hb dL_hull_244 (by decide) ?_
                    exact ih16 (l5_80 + 1) l4_80 (l3_80 + b213) H locs ls h hP hD hS (lv_sub hl [0, 5, 1, 6, 7, 8] rfl)
                  have h := e213
                  clear e213
                  refine lv_if_eq (tgt := 238) hx hb dL_hull_213 (by decide) (fun c213 => ?_) (fun c213 => ?_)
                  · replace h := if_t h c213
                    refine lv_iconst (v := 0) hx hb dL_hull_238 (by decide) ?_
                    obtain rfl := Option.some.inj h
                    exact hr239 H locs ls hP hD hS hl
                  replace h := if_f h c213
                  refine lv_aload_n hx hb dL_hull_216 rfl (lv_at hl 7 rfl) ?_
                  refine lv_iload hx hb dL_hull_217 (lv_at hl 4 rfl) ?_
                  obtain ⟨v219, e219, h⟩ := bnd h
                  refine x_iald (v := v219) hx hb hK hP 1 0 rfl rfl e219 dL_hull_219 ?_
                  refine lv_aload_n hx hb dL_hull_220 rfl (lv_at hl 8 rfl) ?_
                  refine lv_iload hx hb dL_hull_221 (lv_at hl 4 rfl) ?_
                  obtain ⟨v223, e223, h⟩ := bnd h
                  refine x_iald (v := v223) hx hb hK hP 2 0 rfl rfl e223 dL_hull_223 ?_
                  refine lv_aload_n hx hb dL_hull_224 rfl (lv_at hl 7 rfl) ?_
                  refine lv_iload hx hb dL_hull_225 (lv_at hl 3 rfl) ?_
                  obtain ⟨v227, e227, h⟩ := bnd h
                  refine x_iald (v := v227) hx hb hK hP 1 0 rfl rfl e227 dL_hull_227 ?_
                  refine lv_aload_n hx hb dL_hull_228 rfl (lv_at hl 8 rfl) ?_
                  refine lv_iload hx hb dL_hull_229 (lv_at hl 3 rfl) ?_
                  obtain ⟨v231, e231, h⟩ := bnd h
                  refine x_iald (v := v231) hx hb hK hP 2 0 rfl rfl e231 dL_hull_231 ?_
                  obtain ⟨v232, e232, h⟩ := bnd h
                  refine cS (av := [.int v219, .int v223, .int v227, .int v231]) (rest := [.int l3_80]) (st1 := [.int v232, .int l3_80]) (k1 := 0) (k2 := 0) hx hb hml hown htg hN hK (c_L_cross l dC dI cy   v219 v223 v227 v231 v232 e232) (g_S gw465 gw466 gw6 gw467) hdS_L_cross rfl ⟨⟨Nat.le_of_ble_eq_true rfl, Nat.le_of_ble_eq_true rfl⟩, Nat.le_of_ble_eq_true rfl, Nat.le_of_ble_eq_true rfl⟩ hP hD hS hA [] [0, 1, 2] rfl rfl rfl (by decide) (by decide) hl.1 rfl (Nat.le_of_ble_eq_true rfl) rfl rfl rfl dL_hull_232 (fun H locs hP hD hS => ?_)
                  obtain ⟨hP, hD⟩ := x_perm (ws' := wIA a0 cy N0 w0 ++ wIA a1 cy N1 w1 ++ wIA a2 cy N2 w2) hP hD [0, 1, 2] (by decide) rfl rfl
                  refine lv_goto (tgt := 239) hx hb dL_hull_235 (by decide) ?_
                  obtain rfl := Option.some.inj h
                  exact hr239 H locs ls hP hD hS hl
                replace h := if_f h c85
                refine lv_aload_n hx hb dL_hull_88 rfl (lv_at hl 7 rfl) ?_
                refine lv_iload hx hb dL_hull_89 (lv_at hl 3 rfl) ?_
                obtain ⟨v91, e91, h⟩ := bnd h
                refine x_iald (v := v91) hx hb hK hP 1 0 rfl rfl e91 dL_hull_91 ?_
                refine lv_aload_n hx hb dL_hull_92 rfl (lv_at hl 7 rfl) ?_
                refine lv_iload hx hb dL_hull_93 (lv_at hl 4 rfl) ?_
                obtain ⟨v95, e95, h⟩ := bnd h
                refine x_iald (v := v95) hx hb hK hP 1 0 rfl rfl e95 dL_hull_95 ?_
                refine lv_isub hx hb dL_hull_96 ?_
                refine lv_aload_n hx hb dL_hull_97 rfl (lv_at hl 8 rfl) ?_
                refine lv_iload hx hb dL_hull_98 (lv_at hl 3 rfl) ?_
                obtain ⟨v100, e100, h⟩ := bnd h
                refine x_iald (v := v100) hx hb hK hP 2 0 rfl rfl e100 dL_hull_100 ?_
                refine lv_aload_n hx hb dL_hull_101 rfl (lv_at hl 8 rfl) ?_
                refine lv_iload hx hb dL_hull_102 (lv_at hl 4 rfl) ?_
                obtain ⟨v104, e104, h⟩ := bnd h
                refine x_iald (v := v104) hx hb hK hP 2 0 rfl rfl e104 dL_hull_104 ?_
                refine lv_isub hx hb dL_hull_105 ?_
                refine lv_aload_n hx hb dL_hull_106 rfl (lv_at hl 7 rfl) ?_
                refine lv_iload hx hb dL_hull_107 (lv_at hl 0 rfl) ?_
                obtain ⟨v109, e109, h⟩ := bnd h
                refine x_iald (v := v109) hx hb hK hP 1 0 rfl rfl e109 dL_hull_109 ?_
                refine lv_aload_n hx hb dL_hull_110 rfl (lv_at hl 7 rfl) ?_
                refine lv_iload hx hb dL_hull_111 (lv_at hl 4 rfl) ?_
                obtain ⟨v113, e113, h⟩ := bnd h
                refine x_iald (v := v113) hx hb hK hP 1 0 rfl rfl e113 dL_hull_113 ?_
                refine lv_isub hx hb dL_hull_114 ?_
                refine lv_aload_n hx hb dL_hull_115 rfl (lv_at hl 8 rfl) ?_
                refine lv_iload hx hb dL_hull_116 (lv_at hl 0 rfl) ?_
                obtain ⟨v118, e118, h⟩ := bnd h
                refine x_iald (v := v118) hx hb hK hP 2 0 rfl rfl e118 dL_hull_118 ?_
                refine lv_aload_n hx hb dL_hull_119 rfl (lv_at hl 8 rfl) ?_
                refine lv_iload hx hb dL_hull_120 (lv_at hl 4 rfl) ?_
                obtain ⟨v122, e122, h⟩ := bnd h
                refine x_iald (v := v122) hx hb hK hP 2 0 rfl rfl e122 dL_hull_122 ?_
                refine lv_isub hx hb dL_hull_123 ?_
                obtain ⟨v124, e124, h⟩ := bnd h
                refine cS (av := [.int (v91 - v95), .int (v100 - v104), .int (v109 - v113), .int (v118 - v122)]) (rest := []) (st1 := [.int v124]) (k1 := 0) (k2 := 0) hx hb hml hown htg hN hK (c_L_cross l dC dI cy   (v91 - v95) (v100 - v104) (v109 - v113) (v118 - v122) v124 e124) (g_S gw465 gw466 gw6 gw467) hdS_L_cross rfl ⟨⟨Nat.le_of_ble_eq_true rfl, Nat.le_of_ble_eq_true rfl⟩, Nat.le_of_ble_eq_true rfl, Nat.le_of_ble_eq_true rfl⟩ hP hD hS hA [] [0, 1, 2] rfl rfl rfl (by decide) (by decide) hl.1 rfl (Nat.le_of_ble_eq_true rfl) rfl rfl rfl dL_hull_124 (fun H locs hP hD hS => ?_)
                obtain ⟨hP, hD⟩ := x_perm (ws' := wIA a0 cy N0 w0 ++ wIA a1 cy N1 w1 ++ wIA a2 cy N2 w2) hP hD [0, 1, 2] (by decide) rfl rfl
                refine lv_istore (lv' := [(9, .int v124), (8, .int l8_80), (7, .int l7_80), (6, .int l6_80), (5, .int l5_80), (4, .int l4_80), (3, .int l3_80), (0, .ref a0), (1, .ref a1), (2, .ref a2)]) hx hb dL_hull_127 hl (by decide) rfl (fun ls hl => ?_)
                refine lv_aload_n hx hb dL_hull_129 rfl (lv_at hl 8 rfl) ?_
                refine lv_iload hx hb dL_hull_130 (lv_at hl 4 rfl) ?_
                obtain ⟨v132, e132, h⟩ := bnd h
                refine x_iald (v := v132) hx hb hK hP 1 0 rfl rfl e132 dL_hull_132 ?_
                refine lv_aload_n hx hb dL_hull_133 rfl (lv_at hl 8 rfl) ?_
                refine lv_iload hx hb dL_hull_134 (lv_at hl 5 rfl) ?_
                obtain ⟨v136, e136, h⟩ := bnd h
                refine x_iald (v := v136) hx hb hK hP 1 0 rfl rfl e136 dL_hull_136 ?_
                refine lv_isub hx hb dL_hull_137 ?_
                refine lv_aload_n hx hb dL_hull_138 rfl (lv_at hl 8 rfl) ?_
                refine lv_iload hx hb dL_hull_139 (lv_at hl 1 rfl) ?_
                obtain ⟨v141, e141, h⟩ := bnd h
                refine x_iald (v := v141) hx hb hK hP 1 0 rfl rfl e141 dL_hull_141 ?_
                refine lv_aload_n hx hb dL_hull_142 rfl (lv_at hl 8 rfl) ?_
                refine lv_iload hx hb dL_hull_143 (lv_at hl 5 rfl) ?_
                obtain ⟨v145, e145, h⟩ := bnd h
                refine x_iald (v := v145) hx hb hK hP 1 0 rfl rfl e145 dL_hull_145 ?_
                refine lv_isub hx hb dL_hull_146 ?_
                refine lv_imul hx hb dL_hull_147 ?_
                refine lv_aload_n hx hb dL_hull_148 rfl (lv_at hl 9 rfl) ?_
                refine lv_iload hx hb dL_hull_149 (lv_at hl 4 rfl) ?_
                obtain ⟨v151, e151, h⟩ := bnd h
                refine x_iald (v := v151) hx hb hK hP 2 0 rfl rfl e151 dL_hull_151 ?_
                refine lv_aload_n hx hb dL_hull_152 rfl (lv_at hl 9 rfl) ?_
                refine lv_iload hx hb dL_hull_153 (lv_at hl 5 rfl) ?_
                obtain ⟨v155, e155, h⟩ := bnd h
                refine x_iald (v := v155) hx hb hK hP 2 0 rfl rfl e155 dL_hull_155 ?_
                refine lv_isub hx hb dL_hull_156 ?_
                refine lv_aload_n hx hb dL_hull_157 rfl (lv_at hl 9 rfl) ?_
                refine lv_iload hx hb dL_hull_158 (lv_at hl 1 rfl) ?_
                obtain ⟨v160, e160, h⟩ := bnd h
                refine x_iald (v := v160) hx hb hK hP 2 0 rfl rfl e160 dL_hull_160 ?_
                refine lv_aload_n hx hb dL_hull_161 rfl (lv_at hl 9 rfl) ?_
                refine lv_iload hx hb dL_hull_162 (lv_at hl 5 rfl) ?_
                obtain ⟨v164, e164, h⟩ := bnd h
                refine x_iald (v := v164) hx hb hK hP 2 0 rfl rfl e164 dL_hull_164 ?_
                refine lv_isub hx hb dL_hull_165 ?_
                refine lv_imul hx hb dL_hull_166 ?_
                refine lv_iadd hx hb dL_hull_167 ?_
                refine lv_istore (lv' := [(10, .int (((v132 - v136) * (v141 - v145)) + ((v151 - v155) * (v160 - v164)))), (9, .int v124), (8, .int l8_80), (7, .int l7_80), (6, .int l6_80), (5, .int l5_80), (4, .int l4_80), (3, .int l3_80), (0, .ref a0), (1, .ref a1), (2, .ref a2)]) hx hb dL_hull_168 hl (by decide) rfl (fun ls hl => ?_)
                refine lv_iload hx hb dL_hull_170 (lv_at hl 3 rfl) ?_
                obtain ⟨b172, e172, h⟩ := bnd h
                have hr202 : ∀ (H : Heap) (locs : List Loc) (ls : Array Slot), va_P (dC, dI) vwCl (wIA a0 cy N0 w0 ++ wIA a1 cy N1 w1 ++ wIA a2 cy N2 w2) H → va_D A (wIA a0 cy N0 w0 ++ wIA a1 cy N1 w1 ++ wIA a2 cy N2 w2) → va_S A s.heap H locs → lv_has ls 11 [(10, .int (((v132 - v136) * (v141 - v145)) + ((v151 - v155) * (v160 - v164)))), (9, .int v124), (8, .int l8_80), (7, .int l7_80), (6, .int l6_80), (5, .int l5_80), (4, .int l4_80), (3, .int l3_80), (0, .ref a0), (1, .ref a1), (2, .ref a2)] → W p l e rm_L_hull s mm args below meth cd H locs 0 0 Q (F0 mm 202 ls [.int b172]) := by
                  intro H locs ls hP hD hS hl
                  refine lv_istore (lv' := [(7, .int b172), (10, .int (((v132 - v136) * (v141 - v145)) + ((v151 - v155) * (v160 - v164)))), (9, .int v124), (8, .int l8_80), (6, .int l6_80), (5, .int l5_80), (4, .int l4_80), (3, .int l3_80), (0, .ref a0), (1, .ref a1), (2, .ref a2)]) hx hb dL_hull_202 hl (by decide) rfl (fun ls hl => ?_)
                  refine lv_iinc (v := l8_80 + 1) (lv' := [(8, .int (l8_80 + 1)), (7, .int b172), (10, .int (((v132 - v136) * (v141 - v145)) + ((v151 - v155) * (v160 - v164)))), (9, .int v124), (6, .int l6_80), (5, .int l5_80), (4, .int l4_80), (3, .int l3_80), (0, .ref a0), (1, .ref a1), (2, .ref a2)]) hx hb dL_hull_204 hl (k := 3) rfl rfl (by decide) rfl (fun ls hl => ?_)
                  refine lv_goto (tgt := 80) hx hb dL_hull_207 (by decide) ?_
                  exact ih80 (l8_80 + 1) b172 l6_80 l5_80 l4_80 l3_80 H locs ls h hP hD hS (lv_sub hl [0, 1, 4, 5, 6, 7, 8, 9, 10] rfl)
                have h := e172
                clear e172
                refine lv_if_eq (tgt := 201) hx hb dL_hull_172 (by decide) (fun c172 => ?_) (fun c172 => ?_)
                · replace h := if_t h c172
                  refine lv_iconst (v := 0) hx hb dL_hull_201 (by decide) ?_
                  obtain rfl := Option.some.inj h
                  exact hr202 H locs ls hP hD hS hl
                replace h := if_f h c172
                refine lv_iload hx hb dL_hull_175 (lv_at hl 1 rfl) ?_
                refine lv_if_gt (tgt := 197) hx hb dL_hull_177 (by decide) (fun c177 => ?_) (fun c177 => ?_)
                · replace h := if_t h c177
                  refine lv_iconst (v := 1) hx hb dL_hull_197 (by decide) ?_
                  refine lv_goto (tgt := 202) hx hb dL_hull_198 (by decide) ?_
                  obtain rfl := Option.some.inj h
                  exact hr202 H locs ls hP hD hS hl
                replace h := if_f h c177
                refine lv_iload hx hb dL_hull_180 (lv_at hl 1 rfl) ?_
                refine lv_if_ne (tgt := 201) hx hb dL_hull_182 (by decide) (fun c182 => ?_) (fun c182 => ?_)
                · replace h := if_f h c182
                  refine lv_iconst (v := 0) hx hb dL_hull_201 (by decide) ?_
                  obtain rfl := Option.some.inj h
                  exact hr202 H locs ls hP hD hS hl
                replace h := if_t h c182
                refine lv_iload hx hb dL_hull_185 (lv_at hl 0 rfl) ?_
                refine lv_if_lt (tgt := 201) hx hb dL_hull_187 (by decide) (fun c187 => ?_) (fun c187 => ?_)
                · replace h := if_t h c187
                  refine lv_iconst (v := 0) hx hb dL_hull_201 (by decide) ?_
                  obtain rfl := Option.some.inj h
                  exact hr202 H locs ls hP hD hS hl
                replace h := if_f h c187
                refine lv_iload hx hb dL_hull_190 (lv_at hl 0 rfl) ?_
                refine lv_iload hx hb dL_hull_192 (lv_at hl 4 rfl) ?_
                refine lv_icmp_gt (tgt := 201) hx hb dL_hull_194 (by decide) (fun c194 => ?_) (fun c194 => ?_)
                · replace h := if_t h c194
                  refine lv_iconst (v := 0) hx hb dL_hull_201 (by decide) ?_
                  obtain rfl := Option.some.inj h
                  exact hr202 H locs ls hP hD hS hl
                replace h := if_f h c194
                refine lv_iconst (v := 1) hx hb dL_hull_197 (by decide) ?_
                refine lv_goto (tgt := 202) hx hb dL_hull_198 (by decide) ?_
                obtain rfl := Option.some.inj h
                exact hr202 H locs ls hP hD hS hl
            exact hL80 FU 0 b67 (((v27 - v31) * (v36 - v40)) + ((v46 - v50) * (v55 - v59))) l5_16 l4_16 l3_16 H locs ls h hP hD hS (lv_sub hl [0, 1, 2, 3, 4, 5, 6, 7, 8] rfl)
          have h := e67
          clear e67
          refine lv_if_le (tgt := 74) hx hb dL_hull_67 (by decide) (fun c67 => ?_) (fun c67 => ?_)
          · replace h := if_t h c67
            refine lv_iconst (v := 0) hx hb dL_hull_74 (by decide) ?_
            obtain rfl := Option.some.inj h
            exact hr75 H locs ls hP hD hS hl
          replace h := if_f h c67
          refine lv_iconst (v := 1) hx hb dL_hull_70 (by decide) ?_
          refine lv_goto (tgt := 75) hx hb dL_hull_71 (by decide) ?_
          obtain rfl := Option.some.inj h
          exact hr75 H locs ls hP hD hS hl
      exact hL16 FU 0 l4_5 l3_5 H locs ls h hP hD hS (lv_sub hl [0, 1, 2, 3, 4, 5] rfl)
  exact hL5 FU 0 0 H locs ls h hP hD hS (lv_sub hl [0, 1, 2, 3, 4] rfl)
def G_L_kind (N0 : Nat) (N1 : Nat) (N2 : Nat) (w0 : Nat → Int32) (w1 : Nat → Int32) (w2 : Nat → Int32) (p0 : Int32) : Option (Int32) :=
  (G_L_bend N0 N1 N2 w0 w1 w2 p0).bind fun v4 =>
  if v4 = 0 then
    some 0
  else
    ((if v4 ≤ 0 then
        some 0
      else
        some 1) : Option (Int32)).bind fun b20 =>
    (G_L_sum N0 N1 N2 w0 w1 w2 (p0 / 10)).bind fun v35 =>
    ((if v35 ≤ 0 then
        some 0
      else
        some 1) : Option (Int32)).bind fun b38 =>
    if b20 = b38 then
      some 1
    else
      some (-1)
abbrev rm_L_kind : Room := { frames := 2, cells := 0, slots := 0, locals := 48 }
theorem hdS_L_kind : yL_kind.cls ≠ "java/lang/invoke/MethodHandle" ∧ yL_kind.cls ≠ "java/lang/invoke/VarHandle" ∧ (parseMethodDescriptor yL_kind.desc).map (fun d => d.parameters.length) = some 4 := by decide +kernel
set_option maxHeartbeats 4000000 in
set_option maxRecDepth 100000 in
theorem c_L_kind (l : Launch) (dC : Nat → ClassId) (dI : Nat → Nat → Nat) (cy : Nat → ClassId) (a0 : Nat) (a1 : Nat) (a2 : Nat) (N0 : Nat) (N1 : Nat) (N2 : Nat) (w0 : Nat → Int32) (w1 : Nat → Int32) (w2 : Nat → Int32) (p0 : Int32) (res : Int32) (h : G_L_kind N0 N1 N2 w0 w1 w2 p0 = some res) : CT l (dC, dI) (TY cy) yL_kind cL_kind 5 (some .int) rm_L_kind [.int p0, .ref a0, .ref a1, .ref a2] (wIA a0 cy N0 w0 ++ wIA a1 cy N1 w1 ++ wIA a2 cy N2 w2) (wIA a0 cy N0 w0 ++ wIA a1 cy N1 w1 ++ wIA a2 cy N2 w2) (some (.int res)) := by
  refine CT.mk_i (own := RL) ⟨by decide, rfl⟩ (Nat.le_of_ble_eq_true rfl) ?_
  intro p e s mm args below meth cd A Q hx hb hml hown htg hN hK hA hP hD hS hE ls hl
  have hl : lv_has ls 5 [(0, .int p0), (1, .ref a0), (2, .ref a1), (3, .ref a2)] := hl
  replace h : _ = some res := h
  unfold G_L_kind at h
  obtain ⟨H, hH⟩ : ∃ H, H = s.heap := ⟨_, rfl⟩
  obtain ⟨locs, hlocs⟩ : ∃ locs : List Loc, locs = [] := ⟨_, rfl⟩
  rw [← hlocs] at hS ⊢
  have hS : va_S A s.heap H locs := by rw [hH]; exact hS
  rw [← hH] at hP ⊢
  refine lv_iload_n hx hb dL_kind_0 rfl (lv_at hl 0 rfl) ?_
  refine lv_aload_n hx hb dL_kind_1 rfl (lv_at hl 1 rfl) ?_
  refine lv_aload_n hx hb dL_kind_2 rfl (lv_at hl 2 rfl) ?_
  refine lv_aload_n hx hb dL_kind_3 rfl (lv_at hl 3 rfl) ?_
  obtain ⟨v4, e4, h⟩ := bnd h
  refine cS (av := [.int p0, .ref a0, .ref a1, .ref a2]) (rest := []) (st1 := [.int v4]) (k1 := 0) (k2 := 0) hx hb hml hown htg hN hK (c_L_bend l dC dI cy a0 a1 a2 N0 N1 N2 w0 w1 w2 p0 v4 e4) (g_S gw504 gw505 gw6 gw506) hdS_L_bend rfl ⟨⟨Nat.le_of_ble_eq_true rfl, Nat.le_of_ble_eq_true rfl⟩, Nat.le_of_ble_eq_true rfl, Nat.le_of_ble_eq_true rfl⟩ hP hD hS hA [0, 1, 2] [] rfl rfl rfl (by decide) (by decide) hl.1 rfl (Nat.le_of_ble_eq_true rfl) rfl rfl rfl dL_kind_4 (fun H locs hP hD hS => ?_)
  have hP : va_P (dC, dI) vwCl (wIA a0 cy N0 w0 ++ wIA a1 cy N1 w1 ++ wIA a2 cy N2 w2) H := hP
  have hD : va_D A (wIA a0 cy N0 w0 ++ wIA a1 cy N1 w1 ++ wIA a2 cy N2 w2) := hD
  refine lv_istore (lv' := [(4, .int v4), (0, .int p0), (1, .ref a0), (2, .ref a1), (3, .ref a2)]) hx hb dL_kind_7 hl (by decide) rfl (fun ls hl => ?_)
  refine lv_iload hx hb dL_kind_9 (lv_at hl 0 rfl) ?_
  refine lv_if_ne (tgt := 18) hx hb dL_kind_11 (by decide) (fun c11 => ?_) (fun c11 => ?_)
  · replace h := if_f h c11
    refine lv_iload hx hb dL_kind_18 (lv_at hl 0 rfl) ?_
    obtain ⟨b20, e20, h⟩ := bnd h
    have hr28 : ∀ (H : Heap) (locs : List Loc) (ls : Array Slot), va_P (dC, dI) vwCl (wIA a0 cy N0 w0 ++ wIA a1 cy N1 w1 ++ wIA a2 cy N2 w2) H → va_D A (wIA a0 cy N0 w0 ++ wIA a1 cy N1 w1 ++ wIA a2 cy N2 w2) → va_S A s.heap H locs → lv_has ls 5 [(4, .int v4), (0, .int p0), (1, .ref a0), (2, .ref a1), (3, .ref a2)] → W p l e rm_L_kind s mm args below meth cd H locs 0 0 Q (F0 mm 28 ls [.int b20]) := by
      intro H locs ls hP hD hS hl
      refine lv_iload_n hx hb dL_kind_28 rfl (lv_at hl 1 rfl) ?_
      refine lv_bipush (v := 10) hx hb dL_kind_29 (by decide) ?_
      refine lv_idiv hx hb dL_kind_31 (by decide) ?_
      refine lv_aload_n hx hb dL_kind_32 rfl (lv_at hl 2 rfl) ?_
      refine lv_aload_n hx hb dL_kind_33 rfl (lv_at hl 3 rfl) ?_
      refine lv_aload_n hx hb dL_kind_34 rfl (lv_at hl 4 rfl) ?_
      obtain ⟨v35, e35, h⟩ := bnd h
      refine cS (av := [.int (p0 / 10), .ref a0, .ref a1, .ref a2]) (rest := [.int b20]) (st1 := [.int v35, .int b20]) (k1 := 0) (k2 := 0) hx hb hml hown htg hN hK (c_L_sum l dC dI cy a0 a1 a2 N0 N1 N2 w0 w1 w2 (p0 / 10) v35 e35) (g_S gw474 gw475 gw6 gw476) hdS_L_sum rfl ⟨⟨Nat.le_of_ble_eq_true rfl, Nat.le_of_ble_eq_true rfl⟩, Nat.le_of_ble_eq_true rfl, Nat.le_of_ble_eq_true rfl⟩ hP hD hS hA [0, 1, 2] [] rfl rfl rfl (by decide) (by decide) hl.1 rfl (Nat.le_of_ble_eq_true rfl) rfl rfl rfl dL_kind_35 (fun H locs hP hD hS => ?_)
      have hP : va_P (dC, dI) vwCl (wIA a0 cy N0 w0 ++ wIA a1 cy N1 w1 ++ wIA a2 cy N2 w2) H := hP
      have hD : va_D A (wIA a0 cy N0 w0 ++ wIA a1 cy N1 w1 ++ wIA a2 cy N2 w2) := hD
      obtain ⟨b38, e38, h⟩ := bnd h
      have hr46 : ∀ (H : Heap) (locs : List Loc) (ls : Array Slot), va_P (dC, dI) vwCl (wIA a0 cy N0 w0 ++ wIA a1 cy N1 w1 ++ wIA a2 cy N2 w2) H → va_D A (wIA a0 cy N0 w0 ++ wIA a1 cy N1 w1 ++ wIA a2 cy N2 w2) → va_S A s.heap H locs → lv_has ls 5 [(4, .int v4), (0, .int p0), (1, .ref a0), (2, .ref a1), (3, .ref a2)] → W p l e rm_L_kind s mm args below meth cd H locs 0 0 Q (F0 mm 46 ls [.int b38, .int b20]) := by
        intro H locs ls hP hD hS hl
        refine lv_icmp_ne (tgt := 53) hx hb dL_kind_46 (by decide) (fun c46 => ?_) (fun c46 => ?_)
        · replace h := if_f h c46
          refine lv_iconst (v := (-1)) hx hb dL_kind_53 (by decide) ?_
          obtain rfl := Option.some.inj h
          exact hE H locs 54 ls _ hP hD hS rfl dL_kind_54
        replace h := if_t h c46
        refine lv_iconst (v := 1) hx hb dL_kind_49 (by decide) ?_
        refine lv_goto (tgt := 54) hx hb dL_kind_50 (by decide) ?_
        obtain rfl := Option.some.inj h
        exact hE H locs 54 ls _ hP hD hS rfl dL_kind_54
      have h := e38
      clear e38
      refine lv_if_le (tgt := 45) hx hb dL_kind_38 (by decide) (fun c38 => ?_) (fun c38 => ?_)
      · replace h := if_t h c38
        refine lv_iconst (v := 0) hx hb dL_kind_45 (by decide) ?_
        obtain rfl := Option.some.inj h
        exact hr46 H locs ls hP hD hS hl
      replace h := if_f h c38
      refine lv_iconst (v := 1) hx hb dL_kind_41 (by decide) ?_
      refine lv_goto (tgt := 46) hx hb dL_kind_42 (by decide) ?_
      obtain rfl := Option.some.inj h
      exact hr46 H locs ls hP hD hS hl
    have h := e20
    clear e20
    refine lv_if_le (tgt := 27) hx hb dL_kind_20 (by decide) (fun c20 => ?_) (fun c20 => ?_)
    · replace h := if_t h c20
      refine lv_iconst (v := 0) hx hb dL_kind_27 (by decide) ?_
      obtain rfl := Option.some.inj h
      exact hr28 H locs ls hP hD hS hl
    replace h := if_f h c20
    refine lv_iconst (v := 1) hx hb dL_kind_23 (by decide) ?_
    refine lv_goto (tgt := 28) hx hb dL_kind_24 (by decide) ?_
    obtain rfl := Option.some.inj h
    exact hr28 H locs ls hP hD hS hl
  replace h := if_t h c11
  refine lv_iconst (v := 0) hx hb dL_kind_14 (by decide) ?_
  refine lv_goto (tgt := 54) hx hb dL_kind_15 (by decide) ?_
  obtain rfl := Option.some.inj h
  exact hE H locs 54 ls _ hP hD hS rfl dL_kind_54
def G_L_low (p0 : Int32) (p1 : Int32) : Option (Int32) :=
  (rmI (p0 &&& 2147483647) p1).bind fun v5 =>
  some v5
abbrev rm_L_low : Room := { frames := 0, cells := 0, slots := 0, locals := 0 }
theorem hdS_L_low : yL_low.cls ≠ "java/lang/invoke/MethodHandle" ∧ yL_low.cls ≠ "java/lang/invoke/VarHandle" ∧ (parseMethodDescriptor yL_low.desc).map (fun d => d.parameters.length) = some 2 := by decide +kernel
set_option maxHeartbeats 4000000 in
set_option maxRecDepth 100000 in
theorem c_L_low (l : Launch) (dC : Nat → ClassId) (dI : Nat → Nat → Nat) (cy : Nat → ClassId)  (p0 : Int32) (p1 : Int32) (res : Int32) (h : G_L_low p0 p1 = some res) : CT l (dC, dI) (TY cy) yL_low cL_low 2 (some .int) rm_L_low [.int p0, .int p1] ([]) ([]) (some (.int res)) := by
  refine CT.mk_i (own := RL) ⟨by decide, rfl⟩ (Nat.le_of_ble_eq_true rfl) ?_
  intro p e s mm args below meth cd A Q hx hb hml hown htg hN hK hA hP hD hS hE ls hl
  have hl : lv_has ls 2 [(0, .int p0), (1, .int p1)] := hl
  replace h : _ = some res := h
  unfold G_L_low at h
  obtain ⟨H, hH⟩ : ∃ H, H = s.heap := ⟨_, rfl⟩
  obtain ⟨locs, hlocs⟩ : ∃ locs : List Loc, locs = [] := ⟨_, rfl⟩
  rw [← hlocs] at hS ⊢
  have hS : va_S A s.heap H locs := by rw [hH]; exact hS
  rw [← hH] at hP ⊢
  refine lv_iload_n hx hb dL_low_0 rfl (lv_at hl 0 rfl) ?_
  refine lv_ldc (v := 2147483647) hx hb hown (htg _ gw323) dL_low_1 ?_
  refine lv_iand hx hb dL_low_3 ?_
  refine lv_iload_n hx hb dL_low_4 rfl (lv_at hl 1 rfl) ?_
  obtain ⟨v5, e5, h⟩ := bnd h
  refine x_irem hx hb e5 dL_low_5 ?_
  obtain rfl := Option.some.inj h
  exact hE H locs 6 ls _ hP hD hS rfl dL_low_6
def G_L_sees_L175  (N0 : Nat) (N1 : Nat) (N2 : Nat) (w0 : Nat → Int32) (w1 : Nat → Int32) (w2 : Nat → Int32) : Nat → Int32 → Int32 → Int32 → Int32 → Option (Int32)
  | 0, _, _, _, _ => none
  | n175 + 1, l8_175, l7_175, l6_175, l5_175 =>
    (rd N0 w0 0).bind fun v179 =>
    if v179 ≤ l8_175 then
      (bck l5_175).bind fun v237 =>
      some v237
    else
      if l5_175 = 0 then
        (bck l5_175).bind fun v237 =>
        some v237
      else
        (G_L_around N0 N1 N2 w0 w1 w2 l8_175 l6_175 l7_175).bind fun v198 =>
        ((if v198 = 0 then
            some 0
          else
            some 1) : Option (Int32)).bind fun b201 =>
        ((if l8_175 = 0 then
            some 1
          else
            some 0) : Option (Int32)).bind fun b211 =>
        ((if b201 = b211 then
            some 1
          else
            some 0) : Option (Int32)).bind fun b219 =>
        (G_L_sees_L175 N0 N1 N2 w0 w1 w2 n175) (l8_175 + 1) l7_175 l6_175 b219
def G_L_sees_j152  (N0 : Nat) (N1 : Nat) (N2 : Nat) (w0 : Nat → Int32) (w1 : Nat → Int32) (w2 : Nat → Int32) (l5_152 : Int32) (l0_152 : Int32) (l1_152 : Int32) : Option (Int32) :=
  (rd N1 w1 l0_152).bind fun v154 =>
  (rd N1 w1 l1_152).bind fun v157 =>
  (rd N2 w2 l0_152).bind fun v164 =>
  (rd N2 w2 l1_152).bind fun v168 =>
  G_L_sees_L175 N0 N1 N2 w0 w1 w2 FU 0 (v164 + v168) (v154 + v157) l5_152
def G_L_sees_j146 (r15 : Int32 → Int32 → Int32 → Int32 → Option (Int32)) (N0 : Nat) (N1 : Nat) (N2 : Nat) (w0 : Nat → Int32) (w1 : Nat → Int32) (w2 : Nat → Int32) (l6_146 : Int32) (l5_146 : Int32) (l0_146 : Int32) (l1_146 : Int32) : Option (Int32) :=
  r15 (l6_146 + 1) l5_146 l0_146 l1_146
def G_L_sees_L15  (N0 : Nat) (N1 : Nat) (N2 : Nat) (w0 : Nat → Int32) (w1 : Nat → Int32) (w2 : Nat → Int32) : Nat → Int32 → Int32 → Int32 → Int32 → Option (Int32)
  | 0, _, _, _, _ => none
  | n15 + 1, l6_15, l5_15, l0_15, l1_15 =>
    if 40 ≤ l6_15 then
      G_L_sees_j152 N0 N1 N2 w0 w1 w2 l5_15 l0_15 l1_15
    else
      if l5_15 = 0 then
        G_L_sees_j152 N0 N1 N2 w0 w1 w2 l5_15 l0_15 l1_15
      else
        (G_L_there N0 w0 l6_15).bind fun v30 =>
        if v30 = 0 then
          G_L_sees_j146 (G_L_sees_L15 N0 N1 N2 w0 w1 w2 n15) N0 N1 N2 w0 w1 w2 l6_15 l5_15 l0_15 l1_15
        else
          (G_L_next N0 w0 l6_15).bind fun v42 =>
          (rd N1 w1 l0_15).bind fun v49 =>
          (rd N2 w2 l0_15).bind fun v53 =>
          (rd N1 w1 l1_15).bind fun v56 =>
          (rd N1 w1 l0_15).bind fun v59 =>
          (rd N2 w2 l1_15).bind fun v64 =>
          (rd N2 w2 l0_15).bind fun v68 =>
          (rd N1 w1 l6_15).bind fun v73 =>
          (rd N2 w2 l6_15).bind fun v78 =>
          (rd N1 w1 v42).bind fun v82 =>
          (rd N1 w1 l6_15).bind fun v86 =>
          (rd N2 w2 v42).bind fun v92 =>
          (rd N2 w2 l6_15).bind fun v97 =>
          (G_L_common v49 v53 (v56 - v59) (v64 - v68) v73 v78 (v82 - v86) (v92 - v97)).bind fun v99 =>
          ((if v99 = 0 then
              some 1
            else
              if v99 = 2 then
                if l6_15 = l0_15 then
                  some 1
                else
                  if l6_15 = l1_15 then
                    some 1
                  else
                    if v42 = l0_15 then
                      some 1
                    else
                      if v42 = l1_15 then
                        some 1
                      else
                        some 0
              else
                some 0) : Option (Int32)).bind fun b106 =>
          G_L_sees_j146 (G_L_sees_L15 N0 N1 N2 w0 w1 w2 n15) N0 N1 N2 w0 w1 w2 l6_15 b106 l0_15 l1_15
def G_L_sees (N0 : Nat) (N1 : Nat) (N2 : Nat) (w0 : Nat → Int32) (w1 : Nat → Int32) (w2 : Nat → Int32) (p0 : Int32) (p1 : Int32) : Option (Int32) :=
  ((if p0 = p1 then
      some 0
    else
      some 1) : Option (Int32)).bind fun b2 =>
  G_L_sees_L15 N0 N1 N2 w0 w1 w2 FU 0 b2 p0 p1
abbrev rm_L_sees : Room := { frames := 2, cells := 0, slots := 0, locals := 58 }
theorem hdS_L_sees : yL_sees.cls ≠ "java/lang/invoke/MethodHandle" ∧ yL_sees.cls ≠ "java/lang/invoke/VarHandle" ∧ (parseMethodDescriptor yL_sees.desc).map (fun d => d.parameters.length) = some 5 := by decide +kernel
set_option maxHeartbeats 4000000 in
set_option maxRecDepth 100000 in
theorem c_L_sees (l : Launch) (dC : Nat → ClassId) (dI : Nat → Nat → Nat) (cy : Nat → ClassId) (a0 : Nat) (a1 : Nat) (a2 : Nat) (N0 : Nat) (N1 : Nat) (N2 : Nat) (w0 : Nat → Int32) (w1 : Nat → Int32) (w2 : Nat → Int32) (p0 : Int32) (p1 : Int32) (res : Int32) (h : G_L_sees N0 N1 N2 w0 w1 w2 p0 p1 = some res) : CT l (dC, dI) (TY cy) yL_sees cL_sees 9 (some .boolean) rm_L_sees [.int p0, .int p1, .ref a0, .ref a1, .ref a2] (wIA a0 cy N0 w0 ++ wIA a1 cy N1 w1 ++ wIA a2 cy N2 w2) (wIA a0 cy N0 w0 ++ wIA a1 cy N1 w1 ++ wIA a2 cy N2 w2) (some (.int res)) := by
  refine CT.mk_z (own := RL) ⟨by decide, rfl⟩ (Nat.le_of_ble_eq_true rfl) ?_
  intro p e s mm args below meth cd A Q hx hb hml hown htg hN hK hA hP hD hS hE ls hl
  have hl : lv_has ls 9 [(0, .int p0), (1, .int p1), (2, .ref a0), (3, .ref a1), (4, .ref a2)] := hl
  replace h : _ = some res := h
  unfold G_L_sees at h
  obtain ⟨H, hH⟩ : ∃ H, H = s.heap := ⟨_, rfl⟩
  obtain ⟨locs, hlocs⟩ : ∃ locs : List Loc, locs = [] := ⟨_, rfl⟩
  rw [← hlocs] at hS ⊢
  have hS : va_S A s.heap H locs := by rw [hH]; exact hS
  rw [← hH] at hP ⊢
  refine lv_iload_n hx hb dL_sees_0 rfl (lv_at hl 0 rfl) ?_
  refine lv_iload_n hx hb dL_sees_1 rfl (lv_at hl 1 rfl) ?_
  obtain ⟨b2, e2, h⟩ := bnd h
  have hr10 : ∀ (H : Heap) (locs : List Loc) (ls : Array Slot), va_P (dC, dI) vwCl (wIA a0 cy N0 w0 ++ wIA a1 cy N1 w1 ++ wIA a2 cy N2 w2) H → va_D A (wIA a0 cy N0 w0 ++ wIA a1 cy N1 w1 ++ wIA a2 cy N2 w2) → va_S A s.heap H locs → lv_has ls 9 [(0, .int p0), (1, .int p1), (2, .ref a0), (3, .ref a1), (4, .ref a2)] → W p l e rm_L_sees s mm args below meth cd H locs 0 0 Q (F0 mm 10 ls [.int b2]) := by
    intro H locs ls hP hD hS hl
    refine lv_istore (lv' := [(5, .int b2), (0, .int p0), (1, .int p1), (2, .ref a0), (3, .ref a1), (4, .ref a2)]) hx hb dL_sees_10 hl (by decide) rfl (fun ls hl => ?_)
    refine lv_iconst (v := 0) hx hb dL_sees_12 (by decide) ?_
    refine lv_istore (lv' := [(6, .int 0), (5, .int b2), (0, .int p0), (1, .int p1), (2, .ref a0), (3, .ref a1), (4, .ref a2)]) hx hb dL_sees_13 hl (by decide) rfl (fun ls hl => ?_)
    have hL15 : ∀ (n15 : Nat) (l6_15 : Int32) (l5_15 : Int32) (l0_15 : Int32) (l1_15 : Int32) (H : Heap) (locs : List Loc) (ls : Array Slot), G_L_sees_L15 N0 N1 N2 w0 w1 w2 n15 l6_15 l5_15 l0_15 l1_15 = some res → va_P (dC, dI) vwCl (wIA a0 cy N0 w0 ++ wIA a1 cy N1 w1 ++ wIA a2 cy N2 w2) H → va_D A (wIA a0 cy N0 w0 ++ wIA a1 cy N1 w1 ++ wIA a2 cy N2 w2) → va_S A s.heap H locs → lv_has ls 9 [(6, .int l6_15), (5, .int l5_15), (0, .int l0_15), (1, .int l1_15), (2, .ref a0), (3, .ref a1), (4, .ref a2)] → W p l e rm_L_sees s mm args below meth cd H locs 0 0 Q (F0 mm 15 ls []) := by
      intro n15
      induction n15 with
      | zero => intro l6_15 l5_15 l0_15 l1_15 H locs ls h; exact absurd h (by simp [G_L_sees_L15])
      | succ n15 ih15 =>
        intro l6_15 l5_15 l0_15 l1_15 H locs ls h hP hD hS hl
        rw [G_L_sees_L15] at h
        refine lv_iload hx hb dL_sees_15 (lv_at hl 0 rfl) ?_
        refine lv_bipush (v := 40) hx hb dL_sees_17 (by decide) ?_
        have hj152 : ∀ (l5_152 : Int32) (l0_152 : Int32) (l1_152 : Int32) (H : Heap) (locs : List Loc) (ls : Array Slot), G_L_sees_j152 N0 N1 N2 w0 w1 w2 l5_152 l0_152 l1_152 = some res → va_P (dC, dI) vwCl (wIA a0 cy N0 w0 ++ wIA a1 cy N1 w1 ++ wIA a2 cy N2 w2) H → va_D A (wIA a0 cy N0 w0 ++ wIA a1 cy N1 w1 ++ wIA a2 cy N2 w2) → va_S A s.heap H locs → lv_has ls 9 [(5, .int l5_152), (0, .int l0_152), (1, .int l1_152), (2, .ref a0), (3, .ref a1), (4, .ref a2)] → W p l e rm_L_sees s mm args below meth cd H locs 0 0 Q (F0 mm 152 ls []) := by
          intro l5_152 l0_152 l1_152 H locs ls h hP hD hS hl
          unfold G_L_sees_j152 at h
          refine lv_aload_n hx hb dL_sees_152 rfl (lv_at hl 4 rfl) ?_
          refine lv_iload_n hx hb dL_sees_153 rfl (lv_at hl 1 rfl) ?_
          obtain ⟨v154, e154, h⟩ := bnd h
          refine x_iald (v := v154) hx hb hK hP 1 0 rfl rfl e154 dL_sees_154 ?_
          refine lv_aload_n hx hb dL_sees_155 rfl (lv_at hl 4 rfl) ?_
          refine lv_iload_n hx hb dL_sees_156 rfl (lv_at hl 2 rfl) ?_
          obtain ⟨v157, e157, h⟩ := bnd h
          refine x_iald (v := v157) hx hb hK hP 1 0 rfl rfl e157 dL_sees_157 ?_
          refine lv_iadd hx hb dL_sees_158 ?_
          refine lv_istore (lv' := [(6, .int (v154 + v157)), (5, .int l5_152), (0, .int l0_152), (1, .int l1_152), (2, .ref a0), (3, .ref a1), (4, .ref a2)]) hx hb dL_sees_159 hl (by decide) rfl (fun ls hl => ?_)
          refine lv_aload hx hb dL_sees_161 (lv_at hl 6 rfl) ?_
          refine lv_iload_n hx hb dL_sees_163 rfl (lv_at hl 2 rfl) ?_
          obtain ⟨v164, e164, h⟩ := bnd h
          refine x_iald (v := v164) hx hb hK hP 2 0 rfl rfl e164 dL_sees_164 ?_
          refine lv_aload hx hb dL_sees_165 (lv_at hl 6 rfl) ?_
          refine lv_iload_n hx hb dL_sees_167 rfl (lv_at hl 3 rfl) ?_
          obtain ⟨v168, e168, h⟩ := bnd h
          refine x_iald (v := v168) hx hb hK hP 2 0 rfl rfl e168 dL_sees_168 ?_
          refine lv_iadd hx hb dL_sees_169 ?_
          refine lv_istore (lv' := [(7, .int (v164 + v168)), (6, .int (v154 + v157)), (5, .int l5_152), (0, .int l0_152), (1, .int l1_152), (2, .ref a0), (3, .ref a1), (4, .ref a2)]) hx hb dL_sees_170 hl (by decide) rfl (fun ls hl => ?_)
          refine lv_iconst (v := 0) hx hb dL_sees_172 (by decide) ?_
          refine lv_istore (lv' := [(8, .int 0), (7, .int (v164 + v168)), (6, .int (v154 + v157)), (5, .int l5_152), (0, .int l0_152), (1, .int l1_152), (2, .ref a0), (3, .ref a1), (4, .ref a2)]) hx hb dL_sees_173 hl (by decide) rfl (fun ls hl => ?_)
          have hL175 : ∀ (n175 : Nat) (l8_175 : Int32) (l7_175 : Int32) (l6_175 : Int32) (l5_175 : Int32) (H : Heap) (locs : List Loc) (ls : Array Slot), G_L_sees_L175 N0 N1 N2 w0 w1 w2 n175 l8_175 l7_175 l6_175 l5_175 = some res → va_P (dC, dI) vwCl (wIA a0 cy N0 w0 ++ wIA a1 cy N1 w1 ++ wIA a2 cy N2 w2) H → va_D A (wIA a0 cy N0 w0 ++ wIA a1 cy N1 w1 ++ wIA a2 cy N2 w2) → va_S A s.heap H locs → lv_has ls 9 [(8, .int l8_175), (7, .int l7_175), (6, .int l6_175), (5, .int l5_175), (2, .ref a0), (3, .ref a1), (4, .ref a2)] → W p l e rm_L_sees s mm args below meth cd H locs 0 0 Q (F0 mm 175 ls []) := by
            intro n175
            induction n175 with
            | zero => intro l8_175 l7_175 l6_175 l5_175 H locs ls h; exact absurd h (by simp [G_L_sees_L175])
            | succ n175 ih175 =>
              intro l8_175 l7_175 l6_175 l5_175 H locs ls h hP hD hS hl
              rw [G_L_sees_L175] at h
              refine lv_iload hx hb dL_sees_175 (lv_at hl 0 rfl) ?_
              refine lv_aload_n hx hb dL_sees_177 rfl (lv_at hl 4 rfl) ?_
              refine lv_iconst (v := 0) hx hb dL_sees_178 (by decide) ?_
              obtain ⟨v179, e179, h⟩ := bnd h
              refine x_iald (v := v179) hx hb hK hP 0 0 rfl rfl e179 dL_sees_179 ?_
              refine lv_icmp_ge (tgt := 235) hx hb dL_sees_180 (by decide) (fun c180 => ?_) (fun c180 => ?_)
              · replace h := if_t h c180
                refine lv_iload hx hb dL_sees_235 (lv_at hl 3 rfl) ?_
                obtain ⟨v237, e237, h⟩ := bnd h
                obtain ⟨rfl, hz237⟩ := bck_in e237
                obtain rfl := Option.some.inj h
                exact hE H locs 237 ls _ hP hD hS rfl hz237 dL_sees_237
              replace h := if_f h c180
              refine lv_iload hx hb dL_sees_183 (lv_at hl 3 rfl) ?_
              refine lv_if_eq (tgt := 235) hx hb dL_sees_185 (by decide) (fun c185 => ?_) (fun c185 => ?_)
              · replace h := if_t h c185
                refine lv_iload hx hb dL_sees_235 (lv_at hl 3 rfl) ?_
                obtain ⟨v237, e237, h⟩ := bnd h
                obtain ⟨rfl, hz237⟩ := bck_in e237
                obtain rfl := Option.some.inj h
                exact hE H locs 237 ls _ hP hD hS rfl hz237 dL_sees_237
              replace h := if_f h c185
              refine lv_iload hx hb dL_sees_188 (lv_at hl 0 rfl) ?_
              refine lv_iload hx hb dL_sees_190 (lv_at hl 2 rfl) ?_
              refine lv_iload hx hb dL_sees_192 (lv_at hl 1 rfl) ?_
              refine lv_aload_n hx hb dL_sees_194 rfl (lv_at hl 4 rfl) ?_
              refine lv_aload_n hx hb dL_sees_195 rfl (lv_at hl 5 rfl) ?_
              refine lv_aload hx hb dL_sees_196 (lv_at hl 6 rfl) ?_
              obtain ⟨v198, e198, h⟩ := bnd h
              refine cS (av := [.int l8_175, .int l6_175, .int l7_175, .ref a0, .ref a1, .ref a2]) (rest := []) (st1 := [.int v198]) (k1 := 0) (k2 := 0) hx hb hml hown htg hN hK (c_L_around l dC dI cy a0 a1 a2 N0 N1 N2 w0 w1 w2 l8_175 l6_175 l7_175 v198 e198) (g_S gw468 gw469 gw6 gw470) hdS_L_around rfl ⟨⟨Nat.le_of_ble_eq_true rfl, Nat.le_of_ble_eq_true rfl⟩, Nat.le_of_ble_eq_true rfl, Nat.le_of_ble_eq_true rfl⟩ hP hD hS hA [0, 1, 2] [] rfl rfl rfl (by decide) (by decide) hl.1 rfl (Nat.le_of_ble_eq_true rfl) rfl rfl rfl dL_sees_198 (fun H locs hP hD hS => ?_)
              have hP : va_P (dC, dI) vwCl (wIA a0 cy N0 w0 ++ wIA a1 cy N1 w1 ++ wIA a2 cy N2 w2) H := hP
              have hD : va_D A (wIA a0 cy N0 w0 ++ wIA a1 cy N1 w1 ++ wIA a2 cy N2 w2) := hD
              obtain ⟨b201, e201, h⟩ := bnd h
              have hr209 : ∀ (H : Heap) (locs : List Loc) (ls : Array Slot), va_P (dC, dI) vwCl (wIA a0 cy N0 w0 ++ wIA a1 cy N1 w1 ++ wIA a2 cy N2 w2) H → va_D A (wIA a0 cy N0 w0 ++ wIA a1 cy N1 w1 ++ wIA a2 cy N2 w2) → va_S A s.heap H locs → lv_has ls 9 [(8, .int l8_175), (7, .int l7_175), (6, .int l6_175), (5, .int l5_175), (2, .ref a0), (3, .ref a1), (4, .ref a2)] → W p l e rm_L_sees s mm args below meth cd H locs 0 0 Q (F0 mm 209 ls [.int b201]) := by
                intro H locs ls hP hD hS hl
                refine lv_iload hx hb dL_sees_209 (lv_at hl 0 rfl) ?_
                obtain ⟨b211, e211, h⟩ := bnd h
                have hr219 : ∀ (H : Heap) (locs : List Loc) (ls : Array Slot), va_P (dC, dI) vwCl (wIA a0 cy N0 w0 ++ wIA a1 cy N1 w1 ++ wIA a2 cy N2 w2) H → va_D A (wIA a0 cy N0 w0 ++ wIA a1 cy N1 w1 ++ wIA a2 cy N2 w2) → va_S A s.heap H locs → lv_has ls 9 [(8, .int l8_175), (7, .int l7_175), (6, .int l6_175), (5, .int l5_175), (2, .ref a0), (3, .ref a1), (4, .ref a2)] → W p l e rm_L_sees s mm args below meth cd H locs 0 0 Q (F0 mm 219 ls [.int b211, .int b201]) := by
                  intro H locs ls hP hD hS hl
                  obtain ⟨b219, e219, h⟩ := bnd h
                  have hr227 : ∀ (H : Heap) (locs : List Loc) (ls : Array Slot), va_P (dC, dI) vwCl (wIA a0 cy N0 w0 ++ wIA a1 cy N1 w1 ++ wIA a2 cy N2 w2) H → va_D A (wIA a0 cy N0 w0 ++ wIA a1 cy N1 w1 ++ wIA a2 cy N2 w2) → va_S A s.heap H locs → lv_has ls 9 [(8, .int l8_175), (7, .int l7_175), (6, .int l6_175), (5, .int l5_175), (2, .ref a0), (3, .ref a1), (4, .ref a2)] → W p l e rm_L_sees s mm args below meth cd H locs 0 0 Q (F0 mm 227 ls [.int b219]) := by
                    intro H locs ls hP hD hS hl
                    refine lv_istore (lv' := [(5, .int b219), (8, .int l8_175), (7, .int l7_175), (6, .int l6_175), (2, .ref a0), (3, .ref a1), (4, .ref a2)]) hx hb dL_sees_227 hl (by decide) rfl (fun ls hl => ?_)
                    refine lv_iinc (v := l8_175 + 1) (lv' := [(8, .int (l8_175 + 1)), (5, .int b219), (7, .int l7_175), (6, .int l6_175), (2, .ref a0), (3, .ref a1), (4, .ref a2)]) hx hb dL_sees_229 hl (k := 1) rfl rfl (by decide) rfl (fun ls hl => ?_)
                    refine lv_goto (tgt := 175) hx hb dL_sees_232 (by decide) ?_
                    exact ih175 (l8_175 + 1) l7_175 l6_175 b219 H locs ls h hP hD hS (lv_sub hl [0, 2, 3, 1, 4, 5, 6] rfl)
                  have h := e219
                  clear e219
                  refine lv_icmp_ne (tgt := 226) hx hb dL_sees_219 (by decide) (fun c219 => ?_) (fun c219 => ?_)
                  · replace h := if_f h c219
                    refine lv_iconst (v := 0) hx hb dL_sees_226 (by decide) ?_
                    obtain rfl := Option.some.inj h
                    exact hr227 H locs ls hP hD hS hl
                  replace h := if_t h c219
                  refine lv_iconst (v := 1) hx hb dL_sees_222 (by decide) ?_
                  refine lv_goto (tgt := 227) hx hb dL_sees_223 (by decide) ?_
                  obtain rfl := Option.some.inj h
                  exact hr227 H locs ls hP hD hS hl
                have h := e211
                clear e211
                refine lv_if_ne (tgt := 218) hx hb dL_sees_211 (by decide) (fun c211 => ?_) (fun c211 => ?_)
                · replace h := if_f h c211
                  refine lv_iconst (v := 0) hx hb dL_sees_218 (by decide) ?_
                  obtain rfl := Option.some.inj h
                  exact hr219 H locs ls hP hD hS hl
                replace h := if_t h c211
                refine lv_iconst (v := 1) hx hb dL_sees_214 (by decide) ?_
                refine lv_goto (tgt := 219) hx hb dL_sees_215 (by decide) ?_
                obtain rfl := Option.some.inj h
                exact hr219 H locs ls hP hD hS hl
              have h := e201
              clear e201
              refine lv_if_eq (tgt := 208) hx hb dL_sees_201 (by decide) (fun c201 => ?_) (fun c201 => ?_)
              · replace h := if_t h c201
                refine lv_iconst (v := 0) hx hb dL_sees_208 (by decide) ?_
                obtain rfl := Option.some.inj h
                exact hr209 H locs ls hP hD hS hl
              replace h := if_f h c201
              refine lv_iconst (v := 1) hx hb dL_sees_204 (by decide) ?_
              refine lv_goto (tgt := 209) hx hb dL_sees_205 (by decide) ?_
              obtain rfl := Option.some.inj h
              exact hr209 H locs ls hP hD hS hl
          exact hL175 FU 0 (v164 + v168) (v154 + v157) l5_152 H locs ls h hP hD hS (lv_sub hl [0, 1, 2, 3, 6, 7, 8] rfl)
        refine lv_icmp_ge (tgt := 152) hx hb dL_sees_19 (by decide) (fun c19 => ?_) (fun c19 => ?_)
        · replace h := if_t h c19
          exact hj152 l5_15 l0_15 l1_15 H locs ls h hP hD hS (lv_sub hl [1, 2, 3, 4, 5, 6] rfl)
        replace h := if_f h c19
        refine lv_iload hx hb dL_sees_22 (lv_at hl 1 rfl) ?_
        refine lv_if_eq (tgt := 152) hx hb dL_sees_24 (by decide) (fun c24 => ?_) (fun c24 => ?_)
        · replace h := if_t h c24
          exact hj152 l5_15 l0_15 l1_15 H locs ls h hP hD hS (lv_sub hl [1, 2, 3, 4, 5, 6] rfl)
        replace h := if_f h c24
        refine lv_iload hx hb dL_sees_27 (lv_at hl 0 rfl) ?_
        refine lv_aload_n hx hb dL_sees_29 rfl (lv_at hl 4 rfl) ?_
        obtain ⟨v30, e30, h⟩ := bnd h
        refine cS (av := [.int l6_15, .ref a0]) (rest := []) (st1 := [.int v30]) (k1 := 0) (k2 := 0) hx hb hml hown htg hN hK (c_L_there l dC dI cy a0 N0 w0 l6_15 v30 e30) (g_S gw453 gw454 gw6 gw455) hdS_L_there rfl ⟨⟨Nat.le_of_ble_eq_true rfl, Nat.le_of_ble_eq_true rfl⟩, Nat.le_of_ble_eq_true rfl, Nat.le_of_ble_eq_true rfl⟩ hP hD hS hA [0] [1, 2] rfl rfl rfl (by decide) (by decide) hl.1 rfl (Nat.le_of_ble_eq_true rfl) rfl rfl rfl dL_sees_30 (fun H locs hP hD hS => ?_)
        obtain ⟨hP, hD⟩ := x_perm (ws' := wIA a0 cy N0 w0 ++ wIA a1 cy N1 w1 ++ wIA a2 cy N2 w2) hP hD [2, 0, 1] (by decide) rfl rfl
        have hj146 : ∀ (l6_146 : Int32) (l5_146 : Int32) (l0_146 : Int32) (l1_146 : Int32) (H : Heap) (locs : List Loc) (ls : Array Slot), G_L_sees_j146 (G_L_sees_L15 N0 N1 N2 w0 w1 w2 n15) N0 N1 N2 w0 w1 w2 l6_146 l5_146 l0_146 l1_146 = some res → va_P (dC, dI) vwCl (wIA a0 cy N0 w0 ++ wIA a1 cy N1 w1 ++ wIA a2 cy N2 w2) H → va_D A (wIA a0 cy N0 w0 ++ wIA a1 cy N1 w1 ++ wIA a2 cy N2 w2) → va_S A s.heap H locs → lv_has ls 9 [(6, .int l6_146), (5, .int l5_146), (0, .int l0_146), (1, .int l1_146), (2, .ref a0), (3, .ref a1), (4, .ref a2)] → W p l e rm_L_sees s mm args below meth cd H locs 0 0 Q (F0 mm 146 ls []) := by
          intro l6_146 l5_146 l0_146 l1_146 H locs ls h hP hD hS hl
          unfold G_L_sees_j146 at h
          refine lv_iinc (v := l6_146 + 1) (lv' := [(6, .int (l6_146 + 1)), (5, .int l5_146), (0, .int l0_146), (1, .int l1_146), (2, .ref a0), (3, .ref a1), (4, .ref a2)]) hx hb dL_sees_146 hl (k := 0) rfl rfl (by decide) rfl (fun ls hl => ?_)
          refine lv_goto (tgt := 15) hx hb dL_sees_149 (by decide) ?_
          exact ih15 (l6_146 + 1) l5_146 l0_146 l1_146 H locs ls h hP hD hS (lv_sub hl [0, 1, 2, 3, 4, 5, 6] rfl)
        refine lv_if_ne (tgt := 39) hx hb dL_sees_33 (by decide) (fun c33 => ?_) (fun c33 => ?_)
        · replace h := if_f h c33
          refine lv_iload hx hb dL_sees_39 (lv_at hl 0 rfl) ?_
          refine lv_aload_n hx hb dL_sees_41 rfl (lv_at hl 4 rfl) ?_
          obtain ⟨v42, e42, h⟩ := bnd h
          refine cS (av := [.int l6_15, .ref a0]) (rest := []) (st1 := [.int v42]) (k1 := 0) (k2 := 0) hx hb hml hown htg hN hK (c_L_next l dC dI cy a0 N0 w0 l6_15 v42 e42) (g_S gw456 gw457 gw6 gw458) hdS_L_next rfl ⟨⟨Nat.le_of_ble_eq_true rfl, Nat.le_of_ble_eq_true rfl⟩, Nat.le_of_ble_eq_true rfl, Nat.le_of_ble_eq_true rfl⟩ hP hD hS hA [0] [1, 2] rfl rfl rfl (by decide) (by decide) hl.1 rfl (Nat.le_of_ble_eq_true rfl) rfl rfl rfl dL_sees_42 (fun H locs hP hD hS => ?_)
          obtain ⟨hP, hD⟩ := x_perm (ws' := wIA a0 cy N0 w0 ++ wIA a1 cy N1 w1 ++ wIA a2 cy N2 w2) hP hD [2, 0, 1] (by decide) rfl rfl
          refine lv_istore (lv' := [(7, .int v42), (6, .int l6_15), (5, .int l5_15), (0, .int l0_15), (1, .int l1_15), (2, .ref a0), (3, .ref a1), (4, .ref a2)]) hx hb dL_sees_45 hl (by decide) rfl (fun ls hl => ?_)
          refine lv_aload_n hx hb dL_sees_47 rfl (lv_at hl 6 rfl) ?_
          refine lv_iload_n hx hb dL_sees_48 rfl (lv_at hl 3 rfl) ?_
          obtain ⟨v49, e49, h⟩ := bnd h
          refine x_iald (v := v49) hx hb hK hP 1 0 rfl rfl e49 dL_sees_49 ?_
          refine lv_aload hx hb dL_sees_50 (lv_at hl 7 rfl) ?_
          refine lv_iload_n hx hb dL_sees_52 rfl (lv_at hl 3 rfl) ?_
          obtain ⟨v53, e53, h⟩ := bnd h
          refine x_iald (v := v53) hx hb hK hP 2 0 rfl rfl e53 dL_sees_53 ?_
          refine lv_aload_n hx hb dL_sees_54 rfl (lv_at hl 6 rfl) ?_
          refine lv_iload_n hx hb dL_sees_55 rfl (lv_at hl 4 rfl) ?_
          obtain ⟨v56, e56, h⟩ := bnd h
          refine x_iald (v := v56) hx hb hK hP 1 0 rfl rfl e56 dL_sees_56 ?_
          refine lv_aload_n hx hb dL_sees_57 rfl (lv_at hl 6 rfl) ?_
          refine lv_iload_n hx hb dL_sees_58 rfl (lv_at hl 3 rfl) ?_
          obtain ⟨v59, e59, h⟩ := bnd h
          refine x_iald (v := v59) hx hb hK hP 1 0 rfl rfl e59 dL_sees_59 ?_
          refine lv_isub hx hb dL_sees_60 ?_
          refine lv_aload hx hb dL_sees_61 (lv_at hl 7 rfl) ?_
          refine lv_iload_n hx hb dL_sees_63 rfl (lv_at hl 4 rfl) ?_
          obtain ⟨v64, e64, h⟩ := bnd h
          refine x_iald (v := v64) hx hb hK hP 2 0 rfl rfl e64 dL_sees_64 ?_
          refine lv_aload hx hb dL_sees_65 (lv_at hl 7 rfl) ?_
          refine lv_iload_n hx hb dL_sees_67 rfl (lv_at hl 3 rfl) ?_
          obtain ⟨v68, e68, h⟩ := bnd h
          refine x_iald (v := v68) hx hb hK hP 2 0 rfl rfl e68 dL_sees_68 ?_
          refine lv_isub hx hb dL_sees_69 ?_
          refine lv_aload_n hx hb dL_sees_70 rfl (lv_at hl 6 rfl) ?_
          refine lv_iload hx hb dL_sees_71 (lv_at hl 1 rfl) ?_
          obtain ⟨v73, e73, h⟩ := bnd h
          refine x_iald (v := v73) hx hb hK hP 1 0 rfl rfl e73 dL_sees_73 ?_
          refine lv_aload hx hb dL_sees_74 (lv_at hl 7 rfl) ?_
          refine lv_iload hx hb dL_sees_76 (lv_at hl 1 rfl) ?_
          obtain ⟨v78, e78, h⟩ := bnd h
          refine x_iald (v := v78) hx hb hK hP 2 0 rfl rfl e78 dL_sees_78 ?_
          refine lv_aload_n hx hb dL_sees_79 rfl (lv_at hl 6 rfl) ?_
          refine lv_iload hx hb dL_sees_80 (lv_at hl 0 rfl) ?_
          obtain ⟨v82, e82, h⟩ := bnd h
          refine x_iald (v := v82) hx hb hK hP 1 0 rfl rfl e82 dL_sees_82 ?_
          refine lv_aload_n hx hb dL_sees_83 rfl (lv_at hl 6 rfl) ?_
          refine lv_iload hx hb dL_sees_84 (lv_at hl 1 rfl) ?_
          obtain ⟨v86, e86, h⟩ := bnd h
          refine x_iald (v := v86) hx hb hK hP 1 0 rfl rfl e86 dL_sees_86 ?_
          refine lv_isub hx hb dL_sees_87 ?_
          refine lv_aload hx hb dL_sees_88 (lv_at hl 7 rfl) ?_
          refine lv_iload hx hb dL_sees_90 (lv_at hl 0 rfl) ?_
          obtain ⟨v92, e92, h⟩ := bnd h
          refine x_iald (v := v92) hx hb hK hP 2 0 rfl rfl e92 dL_sees_92 ?_
          refine lv_aload hx hb dL_sees_93 (lv_at hl 7 rfl) ?_
          refine lv_iload hx hb dL_sees_95 (lv_at hl 1 rfl) ?_
          obtain ⟨v97, e97, h⟩ := bnd h
          refine x_iald (v := v97) hx hb hK hP 2 0 rfl rfl e97 dL_sees_97 ?_
          refine lv_isub hx hb dL_sees_98 ?_
          obtain ⟨v99, e99, h⟩ := bnd h
          refine cS (av := [.int v49, .int v53, .int (v56 - v59), .int (v64 - v68), .int v73, .int v78, .int (v82 - v86), .int (v92 - v97)]) (rest := []) (st1 := [.int v99]) (k1 := 0) (k2 := 0) hx hb hml hown htg hN hK (c_L_common l dC dI cy   v49 v53 (v56 - v59) (v64 - v68) v73 v78 (v82 - v86) (v92 - v97) v99 e99) (g_S gw462 gw463 gw6 gw464) hdS_L_common rfl ⟨⟨Nat.le_of_ble_eq_true rfl, Nat.le_of_ble_eq_true rfl⟩, Nat.le_of_ble_eq_true rfl, Nat.le_of_ble_eq_true rfl⟩ hP hD hS hA [] [0, 1, 2] rfl rfl rfl (by decide) (by decide) hl.1 rfl (Nat.le_of_ble_eq_true rfl) rfl rfl rfl dL_sees_99 (fun H locs hP hD hS => ?_)
          obtain ⟨hP, hD⟩ := x_perm (ws' := wIA a0 cy N0 w0 ++ wIA a1 cy N1 w1 ++ wIA a2 cy N2 w2) hP hD [0, 1, 2] (by decide) rfl rfl
          refine lv_istore (lv' := [(8, .int v99), (7, .int v42), (6, .int l6_15), (5, .int l5_15), (0, .int l0_15), (1, .int l1_15), (2, .ref a0), (3, .ref a1), (4, .ref a2)]) hx hb dL_sees_102 hl (by decide) rfl (fun ls hl => ?_)
          refine lv_iload hx hb dL_sees_104 (lv_at hl 0 rfl) ?_
          obtain ⟨b106, e106, h⟩ := bnd h
          have hr144 : ∀ (H : Heap) (locs : List Loc) (ls : Array Slot), va_P (dC, dI) vwCl (wIA a0 cy N0 w0 ++ wIA a1 cy N1 w1 ++ wIA a2 cy N2 w2) H → va_D A (wIA a0 cy N0 w0 ++ wIA a1 cy N1 w1 ++ wIA a2 cy N2 w2) → va_S A s.heap H locs → lv_has ls 9 [(8, .int v99), (7, .int v42), (6, .int l6_15), (5, .int l5_15), (0, .int l0_15), (1, .int l1_15), (2, .ref a0), (3, .ref a1), (4, .ref a2)] → W p l e rm_L_sees s mm args below meth cd H locs 0 0 Q (F0 mm 144 ls [.int b106]) := by
            intro H locs ls hP hD hS hl
            refine lv_istore (lv' := [(5, .int b106), (8, .int v99), (7, .int v42), (6, .int l6_15), (0, .int l0_15), (1, .int l1_15), (2, .ref a0), (3, .ref a1), (4, .ref a2)]) hx hb dL_sees_144 hl (by decide) rfl (fun ls hl => ?_)
            exact hj146 l6_15 b106 l0_15 l1_15 H locs ls h hP hD hS (lv_sub hl [3, 0, 4, 5, 6, 7, 8] rfl)
          have h := e106
          clear e106
          refine lv_if_eq (tgt := 139) hx hb dL_sees_106 (by decide) (fun c106 => ?_) (fun c106 => ?_)
          · replace h := if_t h c106
            refine lv_iconst (v := 1) hx hb dL_sees_139 (by decide) ?_
            refine lv_goto (tgt := 144) hx hb dL_sees_140 (by decide) ?_
            obtain rfl := Option.some.inj h
            exact hr144 H locs ls hP hD hS hl
          replace h := if_f h c106
          refine lv_iload hx hb dL_sees_109 (lv_at hl 0 rfl) ?_
          refine lv_iconst (v := 2) hx hb dL_sees_111 (by decide) ?_
          refine lv_icmp_ne (tgt := 143) hx hb dL_sees_112 (by decide) (fun c112 => ?_) (fun c112 => ?_)
          · replace h := if_f h c112
            refine lv_iconst (v := 0) hx hb dL_sees_143 (by decide) ?_
            obtain rfl := Option.some.inj h
            exact hr144 H locs ls hP hD hS hl
          replace h := if_t h c112
          refine lv_iload hx hb dL_sees_115 (lv_at hl 2 rfl) ?_
          refine lv_iload_n hx hb dL_sees_117 rfl (lv_at hl 4 rfl) ?_
          refine lv_icmp_eq (tgt := 139) hx hb dL_sees_118 (by decide) (fun c118 => ?_) (fun c118 => ?_)
          · replace h := if_t h c118
            refine lv_iconst (v := 1) hx hb dL_sees_139 (by decide) ?_
            refine lv_goto (tgt := 144) hx hb dL_sees_140 (by decide) ?_
            obtain rfl := Option.some.inj h
            exact hr144 H locs ls hP hD hS hl
          replace h := if_f h c118
          refine lv_iload hx hb dL_sees_121 (lv_at hl 2 rfl) ?_
          refine lv_iload_n hx hb dL_sees_123 rfl (lv_at hl 5 rfl) ?_
          refine lv_icmp_eq (tgt := 139) hx hb dL_sees_124 (by decide) (fun c124 => ?_) (fun c124 => ?_)
          · replace h := if_t h c124
            refine lv_iconst (v := 1) hx hb dL_sees_139 (by decide) ?_
            refine lv_goto (tgt := 144) hx hb dL_sees_140 (by decide) ?_
            obtain rfl := Option.some.inj h
            exact hr144 H locs ls hP hD hS hl
          replace h := if_f h c124
          refine lv_iload hx hb dL_sees_127 (lv_at hl 1 rfl) ?_
          refine lv_iload_n hx hb dL_sees_129 rfl (lv_at hl 4 rfl) ?_
          refine lv_icmp_eq (tgt := 139) hx hb dL_sees_130 (by decide) (fun c130 => ?_) (fun c130 => ?_)
          · replace h := if_t h c130
            refine lv_iconst (v := 1) hx hb dL_sees_139 (by decide) ?_
            refine lv_goto (tgt := 144) hx hb dL_sees_140 (by decide) ?_
            obtain rfl := Option.some.inj h
            exact hr144 H locs ls hP hD hS hl
          replace h := if_f h c130
          refine lv_iload hx hb dL_sees_133 (lv_at hl 1 rfl) ?_
          refine lv_iload_n hx hb dL_sees_135 rfl (lv_at hl 5 rfl) ?_
          refine lv_icmp_ne (tgt := 143) hx hb dL_sees_136 (by decide) (fun c136 => ?_) (fun c136 => ?_)
          · replace h := if_f h c136
            refine lv_iconst (v := 0) hx hb dL_sees_143 (by decide) ?_
            obtain rfl := Option.some.inj h
            exact hr144 H locs ls hP hD hS hl
          replace h := if_t h c136
          refine lv_iconst (v := 1) hx hb dL_sees_139 (by decide) ?_
          refine lv_goto (tgt := 144) hx hb dL_sees_140 (by decide) ?_
          obtain rfl := Option.some.inj h
          exact hr144 H locs ls hP hD hS hl
        replace h := if_t h c33
        refine lv_goto (tgt := 146) hx hb dL_sees_36 (by decide) ?_
        exact hj146 l6_15 l5_15 l0_15 l1_15 H locs ls h hP hD hS (lv_sub hl [0, 1, 2, 3, 4, 5, 6] rfl)
    exact hL15 FU 0 b2 p0 p1 H locs ls h hP hD hS (lv_sub hl [0, 1, 2, 3, 4, 5, 6] rfl)
  have h := e2
  clear e2
  refine lv_icmp_eq (tgt := 9) hx hb dL_sees_2 (by decide) (fun c2 => ?_) (fun c2 => ?_)
  · replace h := if_t h c2
    refine lv_iconst (v := 0) hx hb dL_sees_9 (by decide) ?_
    obtain rfl := Option.some.inj h
    exact hr10 H locs ls hP hD hS hl
  replace h := if_f h c2
  refine lv_iconst (v := 1) hx hb dL_sees_5 (by decide) ?_
  refine lv_goto (tgt := 10) hx hb dL_sees_6 (by decide) ?_
  obtain rfl := Option.some.inj h
  exact hr10 H locs ls hP hD hS hl
def G_L_where_L96  (N0 : Nat) (N1 : Nat) (N2 : Nat) (w0 : Nat → Int32) (w1 : Nat → Int32) (w2 : Nat → Int32) : Nat → Int32 → Int32 → Int32 → Option (Int32)
  | 0, _, _, _ => none
  | n96 + 1, l5_96, l0_96, l1_96 =>
    (rd N0 w0 0).bind fun v100 =>
    if v100 ≤ l5_96 then
      some 2
    else
      (G_L_around N0 N1 N2 w0 w1 w2 l5_96 (2 * l0_96) (2 * l1_96)).bind fun v116 =>
      if v116 = 0 then
        (G_L_where_L96 N0 N1 N2 w0 w1 w2 n96) (l5_96 + 1) l0_96 l1_96
      else
        some 3
def G_L_where_j68 (r3 : Int32 → Int32 → Int32 → Option (Int32)) (N0 : Nat) (N1 : Nat) (N2 : Nat) (w0 : Nat → Int32) (w1 : Nat → Int32) (w2 : Nat → Int32) (l5_68 : Int32) (l0_68 : Int32) (l1_68 : Int32) : Option (Int32) :=
  r3 (l5_68 + 1) l0_68 l1_68
def G_L_where_L3  (N0 : Nat) (N1 : Nat) (N2 : Nat) (w0 : Nat → Int32) (w1 : Nat → Int32) (w2 : Nat → Int32) : Nat → Int32 → Int32 → Int32 → Option (Int32)
  | 0, _, _, _ => none
  | n3 + 1, l5_3, l0_3, l1_3 =>
    if 40 ≤ l5_3 then
      (G_L_around N0 N1 N2 w0 w1 w2 0 (2 * l0_3) (2 * l1_3)).bind fun v85 =>
      if v85 = 0 then
        some 0
      else
        G_L_where_L96 N0 N1 N2 w0 w1 w2 FU 1 l0_3 l1_3
    else
      (G_L_there N0 w0 l5_3).bind fun v13 =>
      if v13 = 0 then
        G_L_where_j68 (G_L_where_L3 N0 N1 N2 w0 w1 w2 n3) N0 N1 N2 w0 w1 w2 l5_3 l0_3 l1_3
      else
        (rd N1 w1 l5_3).bind fun v22 =>
        (rd N2 w2 l5_3).bind fun v27 =>
        (G_L_next N0 w0 l5_3).bind fun v32 =>
        (rd N1 w1 v32).bind fun v35 =>
        (rd N1 w1 l5_3).bind fun v39 =>
        (G_L_next N0 w0 l5_3).bind fun v46 =>
        (rd N2 w2 v46).bind fun v49 =>
        (rd N2 w2 l5_3).bind fun v54 =>
        (G_L_common v22 v27 (v35 - v39) (v49 - v54) l0_3 l1_3 0 0).bind fun v60 =>
        if v60 ≤ 0 then
          G_L_where_j68 (G_L_where_L3 N0 N1 N2 w0 w1 w2 n3) N0 N1 N2 w0 w1 w2 l5_3 l0_3 l1_3
        else
          some 1
def G_L_where (N0 : Nat) (N1 : Nat) (N2 : Nat) (w0 : Nat → Int32) (w1 : Nat → Int32) (w2 : Nat → Int32) (p0 : Int32) (p1 : Int32) : Option (Int32) :=
  G_L_where_L3 N0 N1 N2 w0 w1 w2 FU 0 p0 p1
abbrev rm_L_where : Room := { frames := 2, cells := 0, slots := 0, locals := 58 }
theorem hdS_L_where : yL_where.cls ≠ "java/lang/invoke/MethodHandle" ∧ yL_where.cls ≠ "java/lang/invoke/VarHandle" ∧ (parseMethodDescriptor yL_where.desc).map (fun d => d.parameters.length) = some 5 := by decide +kernel
set_option maxHeartbeats 4000000 in
set_option maxRecDepth 100000 in
theorem c_L_where (l : Launch) (dC : Nat → ClassId) (dI : Nat → Nat → Nat) (cy : Nat → ClassId) (a0 : Nat) (a1 : Nat) (a2 : Nat) (N0 : Nat) (N1 : Nat) (N2 : Nat) (w0 : Nat → Int32) (w1 : Nat → Int32) (w2 : Nat → Int32) (p0 : Int32) (p1 : Int32) (res : Int32) (h : G_L_where N0 N1 N2 w0 w1 w2 p0 p1 = some res) : CT l (dC, dI) (TY cy) yL_where cL_where 6 (some .int) rm_L_where [.int p0, .int p1, .ref a0, .ref a1, .ref a2] (wIA a0 cy N0 w0 ++ wIA a1 cy N1 w1 ++ wIA a2 cy N2 w2) (wIA a0 cy N0 w0 ++ wIA a1 cy N1 w1 ++ wIA a2 cy N2 w2) (some (.int res)) := by
  refine CT.mk_i (own := RL) ⟨by decide, rfl⟩ (Nat.le_of_ble_eq_true rfl) ?_
  intro p e s mm args below meth cd A Q hx hb hml hown htg hN hK hA hP hD hS hE ls hl
  have hl : lv_has ls 6 [(0, .int p0), (1, .int p1), (2, .ref a0), (3, .ref a1), (4, .ref a2)] := hl
  replace h : _ = some res := h
  unfold G_L_where at h
  obtain ⟨H, hH⟩ : ∃ H, H = s.heap := ⟨_, rfl⟩
  obtain ⟨locs, hlocs⟩ : ∃ locs : List Loc, locs = [] := ⟨_, rfl⟩
  rw [← hlocs] at hS ⊢
  have hS : va_S A s.heap H locs := by rw [hH]; exact hS
  rw [← hH] at hP ⊢
  refine lv_iconst (v := 0) hx hb dL_where_0 (by decide) ?_
  refine lv_istore (lv' := [(5, .int 0), (0, .int p0), (1, .int p1), (2, .ref a0), (3, .ref a1), (4, .ref a2)]) hx hb dL_where_1 hl (by decide) rfl (fun ls hl => ?_)
  have hL3 : ∀ (n3 : Nat) (l5_3 : Int32) (l0_3 : Int32) (l1_3 : Int32) (H : Heap) (locs : List Loc) (ls : Array Slot), G_L_where_L3 N0 N1 N2 w0 w1 w2 n3 l5_3 l0_3 l1_3 = some res → va_P (dC, dI) vwCl (wIA a0 cy N0 w0 ++ wIA a1 cy N1 w1 ++ wIA a2 cy N2 w2) H → va_D A (wIA a0 cy N0 w0 ++ wIA a1 cy N1 w1 ++ wIA a2 cy N2 w2) → va_S A s.heap H locs → lv_has ls 6 [(5, .int l5_3), (0, .int l0_3), (1, .int l1_3), (2, .ref a0), (3, .ref a1), (4, .ref a2)] → W p l e rm_L_where s mm args below meth cd H locs 0 0 Q (F0 mm 3 ls []) := by
    intro n3
    induction n3 with
    | zero => intro l5_3 l0_3 l1_3 H locs ls h; exact absurd h (by simp [G_L_where_L3])
    | succ n3 ih3 =>
      intro l5_3 l0_3 l1_3 H locs ls h hP hD hS hl
      rw [G_L_where_L3] at h
      refine lv_iload hx hb dL_where_3 (lv_at hl 0 rfl) ?_
      refine lv_bipush (v := 40) hx hb dL_where_5 (by decide) ?_
      refine lv_icmp_ge (tgt := 74) hx hb dL_where_7 (by decide) (fun c7 => ?_) (fun c7 => ?_)
      · replace h := if_t h c7
        refine lv_iconst (v := 0) hx hb dL_where_74 (by decide) ?_
        refine lv_iconst (v := 2) hx hb dL_where_75 (by decide) ?_
        refine lv_iload_n hx hb dL_where_76 rfl (lv_at hl 1 rfl) ?_
        refine lv_imul hx hb dL_where_77 ?_
        refine lv_iconst (v := 2) hx hb dL_where_78 (by decide) ?_
        refine lv_iload_n hx hb dL_where_79 rfl (lv_at hl 2 rfl) ?_
        refine lv_imul hx hb dL_where_80 ?_
        refine lv_aload_n hx hb dL_where_81 rfl (lv_at hl 3 rfl) ?_
        refine lv_aload_n hx hb dL_where_82 rfl (lv_at hl 4 rfl) ?_
        refine lv_aload hx hb dL_where_83 (lv_at hl 5 rfl) ?_
        obtain ⟨v85, e85, h⟩ := bnd h
        refine cS (av := [.int 0, .int (2 * l0_3), .int (2 * l1_3), .ref a0, .ref a1, .ref a2]) (rest := []) (st1 := [.int v85]) (k1 := 0) (k2 := 0) hx hb hml hown htg hN hK (c_L_around l dC dI cy a0 a1 a2 N0 N1 N2 w0 w1 w2 0 (2 * l0_3) (2 * l1_3) v85 e85) (g_S gw468 gw469 gw6 gw470) hdS_L_around rfl ⟨⟨Nat.le_of_ble_eq_true rfl, Nat.le_of_ble_eq_true rfl⟩, Nat.le_of_ble_eq_true rfl, Nat.le_of_ble_eq_true rfl⟩ hP hD hS hA [0, 1, 2] [] rfl rfl rfl (by decide) (by decide) hl.1 rfl (Nat.le_of_ble_eq_true rfl) rfl rfl rfl dL_where_85 (fun H locs hP hD hS => ?_)
        have hP : va_P (dC, dI) vwCl (wIA a0 cy N0 w0 ++ wIA a1 cy N1 w1 ++ wIA a2 cy N2 w2) H := hP
        have hD : va_D A (wIA a0 cy N0 w0 ++ wIA a1 cy N1 w1 ++ wIA a2 cy N2 w2) := hD
        refine lv_if_ne (tgt := 93) hx hb dL_where_88 (by decide) (fun c88 => ?_) (fun c88 => ?_)
        · replace h := if_f h c88
          refine lv_iconst (v := 1) hx hb dL_where_93 (by decide) ?_
          refine lv_istore (lv' := [(5, .int 1), (0, .int l0_3), (1, .int l1_3), (2, .ref a0), (3, .ref a1), (4, .ref a2)]) hx hb dL_where_94 hl (by decide) rfl (fun ls hl => ?_)
          have hL96 : ∀ (n96 : Nat) (l5_96 : Int32) (l0_96 : Int32) (l1_96 : Int32) (H : Heap) (locs : List Loc) (ls : Array Slot), G_L_where_L96 N0 N1 N2 w0 w1 w2 n96 l5_96 l0_96 l1_96 = some res → va_P (dC, dI) vwCl (wIA a0 cy N0 w0 ++ wIA a1 cy N1 w1 ++ wIA a2 cy N2 w2) H → va_D A (wIA a0 cy N0 w0 ++ wIA a1 cy N1 w1 ++ wIA a2 cy N2 w2) → va_S A s.heap H locs → lv_has ls 6 [(5, .int l5_96), (0, .int l0_96), (1, .int l1_96), (2, .ref a0), (3, .ref a1), (4, .ref a2)] → W p l e rm_L_where s mm args below meth cd H locs 0 0 Q (F0 mm 96 ls []) := by
            intro n96
            induction n96 with
            | zero => intro l5_96 l0_96 l1_96 H locs ls h; exact absurd h (by simp [G_L_where_L96])
            | succ n96 ih96 =>
              intro l5_96 l0_96 l1_96 H locs ls h hP hD hS hl
              rw [G_L_where_L96] at h
              refine lv_iload hx hb dL_where_96 (lv_at hl 0 rfl) ?_
              refine lv_aload_n hx hb dL_where_98 rfl (lv_at hl 3 rfl) ?_
              refine lv_iconst (v := 0) hx hb dL_where_99 (by decide) ?_
              obtain ⟨v100, e100, h⟩ := bnd h
              refine x_iald (v := v100) hx hb hK hP 0 0 rfl rfl e100 dL_where_100 ?_
              refine lv_icmp_ge (tgt := 130) hx hb dL_where_101 (by decide) (fun c101 => ?_) (fun c101 => ?_)
              · replace h := if_t h c101
                refine lv_iconst (v := 2) hx hb dL_where_130 (by decide) ?_
                obtain rfl := Option.some.inj h
                exact hE H locs 131 ls _ hP hD hS rfl dL_where_131
              replace h := if_f h c101
              refine lv_iload hx hb dL_where_104 (lv_at hl 0 rfl) ?_
              refine lv_iconst (v := 2) hx hb dL_where_106 (by decide) ?_
              refine lv_iload_n hx hb dL_where_107 rfl (lv_at hl 1 rfl) ?_
              refine lv_imul hx hb dL_where_108 ?_
              refine lv_iconst (v := 2) hx hb dL_where_109 (by decide) ?_
              refine lv_iload_n hx hb dL_where_110 rfl (lv_at hl 2 rfl) ?_
              refine lv_imul hx hb dL_where_111 ?_
              refine lv_aload_n hx hb dL_where_112 rfl (lv_at hl 3 rfl) ?_
              refine lv_aload_n hx hb dL_where_113 rfl (lv_at hl 4 rfl) ?_
              refine lv_aload hx hb dL_where_114 (lv_at hl 5 rfl) ?_
              obtain ⟨v116, e116, h⟩ := bnd h
              refine cS (av := [.int l5_96, .int (2 * l0_96), .int (2 * l1_96), .ref a0, .ref a1, .ref a2]) (rest := []) (st1 := [.int v116]) (k1 := 0) (k2 := 0) hx hb hml hown htg hN hK (c_L_around l dC dI cy a0 a1 a2 N0 N1 N2 w0 w1 w2 l5_96 (2 * l0_96) (2 * l1_96) v116 e116) (g_S gw468 gw469 gw6 gw470) hdS_L_around rfl ⟨⟨Nat.le_of_ble_eq_true rfl, Nat.le_of_ble_eq_true rfl⟩, Nat.le_of_ble_eq_true rfl, Nat.le_of_ble_eq_true rfl⟩ hP hD hS hA [0, 1, 2] [] rfl rfl rfl (by decide) (by decide) hl.1 rfl (Nat.le_of_ble_eq_true rfl) rfl rfl rfl dL_where_116 (fun H locs hP hD hS => ?_)
              have hP : va_P (dC, dI) vwCl (wIA a0 cy N0 w0 ++ wIA a1 cy N1 w1 ++ wIA a2 cy N2 w2) H := hP
              have hD : va_D A (wIA a0 cy N0 w0 ++ wIA a1 cy N1 w1 ++ wIA a2 cy N2 w2) := hD
              refine lv_if_eq (tgt := 124) hx hb dL_where_119 (by decide) (fun c119 => ?_) (fun c119 => ?_)
              · replace h := if_t h c119
                refine lv_iinc (v := l5_96 + 1) (lv' := [(5, .int (l5_96 + 1)), (0, .int l0_96), (1, .int l1_96), (2, .ref a0), (3, .ref a1), (4, .ref a2)]) hx hb dL_where_124 hl (k := 0) rfl rfl (by decide) rfl (fun ls hl => ?_)
                refine lv_goto (tgt := 96) hx hb dL_where_127 (by decide) ?_
                exact ih96 (l5_96 + 1) l0_96 l1_96 H locs ls h hP hD hS (lv_sub hl [0, 1, 2, 3, 4, 5] rfl)
              replace h := if_f h c119
              refine lv_iconst (v := 3) hx hb dL_where_122 (by decide) ?_
              obtain rfl := Option.some.inj h
              exact hE H locs 123 ls _ hP hD hS rfl dL_where_123
          exact hL96 FU 1 l0_3 l1_3 H locs ls h hP hD hS (lv_sub hl [0, 1, 2, 3, 4, 5] rfl)
        replace h := if_t h c88
        refine lv_iconst (v := 0) hx hb dL_where_91 (by decide) ?_
        obtain rfl := Option.some.inj h
        exact hE H locs 92 ls _ hP hD hS rfl dL_where_92
      replace h := if_f h c7
      refine lv_iload hx hb dL_where_10 (lv_at hl 0 rfl) ?_
      refine lv_aload_n hx hb dL_where_12 rfl (lv_at hl 3 rfl) ?_
      obtain ⟨v13, e13, h⟩ := bnd h
      refine cS (av := [.int l5_3, .ref a0]) (rest := []) (st1 := [.int v13]) (k1 := 0) (k2 := 0) hx hb hml hown htg hN hK (c_L_there l dC dI cy a0 N0 w0 l5_3 v13 e13) (g_S gw453 gw454 gw6 gw455) hdS_L_there rfl ⟨⟨Nat.le_of_ble_eq_true rfl, Nat.le_of_ble_eq_true rfl⟩, Nat.le_of_ble_eq_true rfl, Nat.le_of_ble_eq_true rfl⟩ hP hD hS hA [0] [1, 2] rfl rfl rfl (by decide) (by decide) hl.1 rfl (Nat.le_of_ble_eq_true rfl) rfl rfl rfl dL_where_13 (fun H locs hP hD hS => ?_)
      obtain ⟨hP, hD⟩ := x_perm (ws' := wIA a0 cy N0 w0 ++ wIA a1 cy N1 w1 ++ wIA a2 cy N2 w2) hP hD [2, 0, 1] (by decide) rfl rfl
      have hj68 : ∀ (l5_68 : Int32) (l0_68 : Int32) (l1_68 : Int32) (H : Heap) (locs : List Loc) (ls : Array Slot), G_L_where_j68 (G_L_where_L3 N0 N1 N2 w0 w1 w2 n3) N0 N1 N2 w0 w1 w2 l5_68 l0_68 l1_68 = some res → va_P (dC, dI) vwCl (wIA a0 cy N0 w0 ++ wIA a1 cy N1 w1 ++ wIA a2 cy N2 w2) H → va_D A (wIA a0 cy N0 w0 ++ wIA a1 cy N1 w1 ++ wIA a2 cy N2 w2) → va_S A s.heap H locs → lv_has ls 6 [(5, .int l5_68), (0, .int l0_68), (1, .int l1_68), (2, .ref a0), (3, .ref a1), (4, .ref a2)] → W p l e rm_L_where s mm args below meth cd H locs 0 0 Q (F0 mm 68 ls []) := by
        intro l5_68 l0_68 l1_68 H locs ls h hP hD hS hl
        unfold G_L_where_j68 at h
        refine lv_iinc (v := l5_68 + 1) (lv' := [(5, .int (l5_68 + 1)), (0, .int l0_68), (1, .int l1_68), (2, .ref a0), (3, .ref a1), (4, .ref a2)]) hx hb dL_where_68 hl (k := 0) rfl rfl (by decide) rfl (fun ls hl => ?_)
        refine lv_goto (tgt := 3) hx hb dL_where_71 (by decide) ?_
        exact ih3 (l5_68 + 1) l0_68 l1_68 H locs ls h hP hD hS (lv_sub hl [0, 1, 2, 3, 4, 5] rfl)
      refine lv_if_eq (tgt := 68) hx hb dL_where_16 (by decide) (fun c16 => ?_) (fun c16 => ?_)
      · replace h := if_t h c16
        exact hj68 l5_3 l0_3 l1_3 H locs ls h hP hD hS (lv_sub hl [0, 1, 2, 3, 4, 5] rfl)
      replace h := if_f h c16
      refine lv_aload_n hx hb dL_where_19 rfl (lv_at hl 4 rfl) ?_
      refine lv_iload hx hb dL_where_20 (lv_at hl 0 rfl) ?_
      obtain ⟨v22, e22, h⟩ := bnd h
      refine x_iald (v := v22) hx hb hK hP 1 0 rfl rfl e22 dL_where_22 ?_
      refine lv_aload hx hb dL_where_23 (lv_at hl 5 rfl) ?_
      refine lv_iload hx hb dL_where_25 (lv_at hl 0 rfl) ?_
      obtain ⟨v27, e27, h⟩ := bnd h
      refine x_iald (v := v27) hx hb hK hP 2 0 rfl rfl e27 dL_where_27 ?_
      refine lv_aload_n hx hb dL_where_28 rfl (lv_at hl 4 rfl) ?_
      refine lv_iload hx hb dL_where_29 (lv_at hl 0 rfl) ?_
      refine lv_aload_n hx hb dL_where_31 rfl (lv_at hl 3 rfl) ?_
      obtain ⟨v32, e32, h⟩ := bnd h
      refine cS (av := [.int l5_3, .ref a0]) (rest := [.ref a1, .int v27, .int v22]) (st1 := [.int v32, .ref a1, .int v27, .int v22]) (k1 := 0) (k2 := 0) hx hb hml hown htg hN hK (c_L_next l dC dI cy a0 N0 w0 l5_3 v32 e32) (g_S gw456 gw457 gw6 gw458) hdS_L_next rfl ⟨⟨Nat.le_of_ble_eq_true rfl, Nat.le_of_ble_eq_true rfl⟩, Nat.le_of_ble_eq_true rfl, Nat.le_of_ble_eq_true rfl⟩ hP hD hS hA [0] [1, 2] rfl rfl rfl (by decide) (by decide) hl.1 rfl (Nat.le_of_ble_eq_true rfl) rfl rfl rfl dL_where_32 (fun H locs hP hD hS => ?_)
      obtain ⟨hP, hD⟩ := x_perm (ws' := wIA a0 cy N0 w0 ++ wIA a1 cy N1 w1 ++ wIA a2 cy N2 w2) hP hD [2, 0, 1] (by decide) rfl rfl
      obtain ⟨v35, e35, h⟩ := bnd h
      refine x_iald (v := v35) hx hb hK hP 1 0 rfl rfl e35 dL_where_35 ?_
      refine lv_aload_n hx hb dL_where_36 rfl (lv_at hl 4 rfl) ?_
      refine lv_iload hx hb dL_where_37 (lv_at hl 0 rfl) ?_
      obtain ⟨v39, e39, h⟩ := bnd h
      refine x_iald (v := v39) hx hb hK hP 1 0 rfl rfl e39 dL_where_39 ?_
      refine lv_isub hx hb dL_where_40 ?_
      refine lv_aload hx hb dL_where_41 (lv_at hl 5 rfl) ?_
      refine lv_iload hx hb dL_where_43 (lv_at hl 0 rfl) ?_
      refine lv_aload_n hx hb dL_where_45 rfl (lv_at hl 3 rfl) ?_
      obtain ⟨v46, e46, h⟩ := bnd h
      refine cS (av := [.int l5_3, .ref a0]) (rest := [.ref a2, .int (v35 - v39), .int v27, .int v22]) (st1 := [.int v46, .ref a2, .int (v35 - v39), .int v27, .int v22]) (k1 := 0) (k2 := 0) hx hb hml hown htg hN hK (c_L_next l dC dI cy a0 N0 w0 l5_3 v46 e46) (g_S gw456 gw457 gw6 gw458) hdS_L_next rfl ⟨⟨Nat.le_of_ble_eq_true rfl, Nat.le_of_ble_eq_true rfl⟩, Nat.le_of_ble_eq_true rfl, Nat.le_of_ble_eq_true rfl⟩ hP hD hS hA [0] [1, 2] rfl rfl rfl (by decide) (by decide) hl.1 rfl (Nat.le_of_ble_eq_true rfl) rfl rfl rfl dL_where_46 (fun H locs hP hD hS => ?_)
      obtain ⟨hP, hD⟩ := x_perm (ws' := wIA a0 cy N0 w0 ++ wIA a1 cy N1 w1 ++ wIA a2 cy N2 w2) hP hD [2, 0, 1] (by decide) rfl rfl
      obtain ⟨v49, e49, h⟩ := bnd h
      refine x_iald (v := v49) hx hb hK hP 2 0 rfl rfl e49 dL_where_49 ?_
      refine lv_aload hx hb dL_where_50 (lv_at hl 5 rfl) ?_
      refine lv_iload hx hb dL_where_52 (lv_at hl 0 rfl) ?_
      obtain ⟨v54, e54, h⟩ := bnd h
      refine x_iald (v := v54) hx hb hK hP 2 0 rfl rfl e54 dL_where_54 ?_
      refine lv_isub hx hb dL_where_55 ?_
      refine lv_iload_n hx hb dL_where_56 rfl (lv_at hl 1 rfl) ?_
      refine lv_iload_n hx hb dL_where_57 rfl (lv_at hl 2 rfl) ?_
      refine lv_iconst (v := 0) hx hb dL_where_58 (by decide) ?_
      refine lv_iconst (v := 0) hx hb dL_where_59 (by decide) ?_
      obtain ⟨v60, e60, h⟩ := bnd h
      refine cS (av := [.int v22, .int v27, .int (v35 - v39), .int (v49 - v54), .int l0_3, .int l1_3, .int 0, .int 0]) (rest := []) (st1 := [.int v60]) (k1 := 0) (k2 := 0) hx hb hml hown htg hN hK (c_L_common l dC dI cy   v22 v27 (v35 - v39) (v49 - v54) l0_3 l1_3 0 0 v60 e60) (g_S gw462 gw463 gw6 gw464) hdS_L_common rfl ⟨⟨Nat.le_of_ble_eq_true rfl, Nat.le_of_ble_eq_true rfl⟩, Nat.le_of_ble_eq_true rfl, Nat.le_of_ble_eq_true rfl⟩ hP hD hS hA [] [0, 1, 2] rfl rfl rfl (by decide) (by decide) hl.1 rfl (Nat.le_of_ble_eq_true rfl) rfl rfl rfl dL_where_60 (fun H locs hP hD hS => ?_)
      obtain ⟨hP, hD⟩ := x_perm (ws' := wIA a0 cy N0 w0 ++ wIA a1 cy N1 w1 ++ wIA a2 cy N2 w2) hP hD [0, 1, 2] (by decide) rfl rfl
      refine lv_if_le (tgt := 68) hx hb dL_where_63 (by decide) (fun c63 => ?_) (fun c63 => ?_)
      · replace h := if_t h c63
        exact hj68 l5_3 l0_3 l1_3 H locs ls h hP hD hS (lv_sub hl [0, 1, 2, 3, 4, 5] rfl)
      replace h := if_f h c63
      refine lv_iconst (v := 1) hx hb dL_where_66 (by decide) ?_
      obtain rfl := Option.some.inj h
      exact hE H locs 67 ls _ hP hD hS rfl dL_where_67
  exact hL3 FU 0 p0 p1 H locs ls h hP hD hS (lv_sub hl [0, 1, 2, 3, 4, 5] rfl)
