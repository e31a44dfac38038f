def G_X6_waysOfPart_L40  (n1 : Nat) (f0 : Fig) (w1 : Nat → Int32) : Nat → Int32 → Int32 → Int32 → Int32 → Option (Int32)
  | 0, _, _, _, _ => none
  | n40 + 1, l6_40, l5_40, l2_40, l3_40 =>
    if l3_40 ≤ l6_40 then
      some l5_40
    else
      (rd n1 w1 ((10 * l2_40) + l6_40)).bind fun v56 =>
      (rd n1 w1 ((10 * l6_40) + l3_40)).bind fun v65 =>
      (G_X6_waysOfPart_L40 n1 f0 w1 n40) (l6_40 + 1) (l5_40 + (v56 * v65)) l2_40 l3_40
def G_X6_waysOfPart_j32  (n1 : Nat) (f0 : Fig) (w1 : Nat → Int32) (l2_32 : Int32) (l3_32 : Int32) : Option (Int32) :=
  G_X6_waysOfPart_L40 n1 f0 w1 FU (l2_32 + 1) 0 l2_32 l3_32
def G_X6_waysOfPart (n1 : Nat) (f0 : Fig) (w1 : Nat → Int32) (p2 : Int32) (p3 : Int32) : Option (Int32) :=
  (G_X1_nextOf f0 p3).bind fun v2 =>
  ((if v2 = p2 then
      some 1
    else
      some 0) : Option (Int32)).bind fun b6 =>
  if b6 = 0 then
    (G_X6_between f0 p2 p3).bind fun v24 =>
    if v24 = 0 then
      some 0
    else
      G_X6_waysOfPart_j32 n1 f0 w1 p2 p3
  else
    G_X6_waysOfPart_j32 n1 f0 w1 p2 p3
abbrev rm_X6_waysOfPart : Room := { frames := 4, cells := 0, slots := 0, locals := 101 }
theorem hdS_X6_waysOfPart : yX6_waysOfPart.cls ≠ "java/lang/invoke/MethodHandle" ∧ yX6_waysOfPart.cls ≠ "java/lang/invoke/VarHandle" ∧ (parseMethodDescriptor yX6_waysOfPart.desc).map (fun d => d.parameters.length) = some 4 := by decide +kernel
set_option maxHeartbeats 4000000 in
set_option maxRecDepth 100000 in
theorem c_X6_waysOfPart (l : Launch) (dC : Nat → ClassId) (dI : Nat → Nat → Nat) (cy : Nat → ClassId) (a0 : Nat → Nat) (a1 : Nat) (n1 : Nat) (f0 : Fig) (w1 : Nat → Int32) (p2 : Int32) (p3 : Int32) (res : Int32) (h : G_X6_waysOfPart n1 f0 w1 p2 p3 = some res) : CT l (dC, dI) (TY cy) yX6_waysOfPart cX6_waysOfPart 7 (some .int) rm_X6_waysOfPart [.ref (a0 0), .ref a1, .int p2, .int p3] (wFig a0 cy f0 ++ wIA a1 cy n1 w1) (wFig a0 cy f0 ++ wIA a1 cy n1 w1) (some (.int res)) := by
  refine CT.mk_i (own := RX6) ⟨by decide, rfl⟩ (Nat.le_of_ble_eq_true rfl) ?_
  intro p e s mm args below meth cd A Q hx hb hml hown htg hN hK hA hP hD hS hE ls hl
  have hl : lv_has ls 7 [(0, .ref (a0 0)), (1, .ref a1), (2, .int p2), (3, .int p3)] := hl
  replace h : _ = some res := h
  unfold G_X6_waysOfPart at h
  obtain ⟨H, hH⟩ : ∃ H, H = s.heap := ⟨_, rfl⟩
  obtain ⟨locs, hlocs⟩ : ∃ locs : List Loc, locs = [] := ⟨_, rfl⟩
  rw [← hlocs] at hS ⊢
  have hS : va_S A s.heap H locs := by rw [hH]; exact hS
  rw [← hH] at hP ⊢
  refine lv_aload_n hx hb dX6_waysOfPart_0 rfl (lv_at hl 0 rfl) ?_
  refine lv_iload_n hx hb dX6_waysOfPart_1 rfl (lv_at hl 3 rfl) ?_
  obtain ⟨v2, e2, h⟩ := bnd h
  refine cV (av := [.int p3]) (rest := []) (st1 := [.int v2]) (k1 := 0) (k2 := 0) (ci := 0) (q0 := 0) hx hb hml hown htg hN hK (c_X1_nextOf l dC dI cy a0 f0 p3 v2 e2) (g_V gw410 gw259 gw260 gw60 gw261) hdV_X1_nextOf rfl ⟨⟨Nat.le_of_ble_eq_true rfl, Nat.le_of_ble_eq_true rfl⟩, Nat.le_of_ble_eq_true rfl, Nat.le_of_ble_eq_true rfl⟩ hP hD hS hA ⟨rfl, rfl⟩ rfl [0, 1, 2, 3, 4] [5] rfl rfl rfl (by decide) (by decide) hl.1 rfl (Nat.le_of_ble_eq_true rfl) rfl rfl rfl dX6_waysOfPart_2 (fun H locs hP hD hS => ?_)
  obtain ⟨hP, hD⟩ := x_perm (ws' := wFig a0 cy f0 ++ wIA a1 cy n1 w1) hP hD [1, 2, 3, 4, 5, 0] (by decide) rfl rfl
  refine lv_iload_n hx hb dX6_waysOfPart_5 rfl (lv_at hl 2 rfl) ?_
  obtain ⟨b6, e6, h⟩ := bnd h
  have hr14 : ∀ (H : Heap) (locs : List Loc) (ls : Array Slot), va_P (dC, dI) vwCl (wFig a0 cy f0 ++ wIA a1 cy n1 w1) H → va_D A (wFig a0 cy f0 ++ wIA a1 cy n1 w1) → va_S A s.heap H locs → lv_has ls 7 [(0, .ref (a0 0)), (1, .ref a1), (2, .int p2), (3, .int p3)] → W p l e rm_X6_waysOfPart s mm args below meth cd H locs 0 0 Q (F0 mm 14 ls [.int b6]) := by
    intro H locs ls hP hD hS hl
    refine lv_istore (lv' := [(4, .int b6), (0, .ref (a0 0)), (1, .ref a1), (2, .int p2), (3, .int p3)]) hx hb dX6_waysOfPart_14 hl (by decide) rfl (fun ls hl => ?_)
    refine lv_iload hx hb dX6_waysOfPart_16 (lv_at hl 0 rfl) ?_
    have hj32 : ∀ (l2_32 : Int32) (l3_32 : Int32) (H : Heap) (locs : List Loc) (ls : Array Slot), G_X6_waysOfPart_j32 n1 f0 w1 l2_32 l3_32 = some res → va_P (dC, dI) vwCl (wFig a0 cy f0 ++ wIA a1 cy n1 w1) H → va_D A (wFig a0 cy f0 ++ wIA a1 cy n1 w1) → va_S A s.heap H locs → lv_has ls 7 [(1, .ref a1), (2, .int l2_32), (3, .int l3_32)] → W p l e rm_X6_waysOfPart s mm args below meth cd H locs 0 0 Q (F0 mm 32 ls []) := by
      intro l2_32 l3_32 H locs ls h hP hD hS hl
      unfold G_X6_waysOfPart_j32 at h
      refine lv_iconst (v := 0) hx hb dX6_waysOfPart_32 (by decide) ?_
      refine lv_istore (lv' := [(5, .int 0), (1, .ref a1), (2, .int l2_32), (3, .int l3_32)]) hx hb dX6_waysOfPart_33 hl (by decide) rfl (fun ls hl => ?_)
      refine lv_iload_n hx hb dX6_waysOfPart_35 rfl (lv_at hl 2 rfl) ?_
      refine lv_iconst (v := 1) hx hb dX6_waysOfPart_36 (by decide) ?_
      refine lv_iadd hx hb dX6_waysOfPart_37 ?_
      refine lv_istore (lv' := [(6, .int (l2_32 + 1)), (5, .int 0), (1, .ref a1), (2, .int l2_32), (3, .int l3_32)]) hx hb dX6_waysOfPart_38 hl (by decide) rfl (fun ls hl => ?_)
      have hL40 : ∀ (n40 : Nat) (l6_40 : Int32) (l5_40 : Int32) (l2_40 : Int32) (l3_40 : Int32) (H : Heap) (locs : List Loc) (ls : Array Slot), G_X6_waysOfPart_L40 n1 f0 w1 n40 l6_40 l5_40 l2_40 l3_40 = some res → va_P (dC, dI) vwCl (wFig a0 cy f0 ++ wIA a1 cy n1 w1) H → va_D A (wFig a0 cy f0 ++ wIA a1 cy n1 w1) → va_S A s.heap H locs → lv_has ls 7 [(6, .int l6_40), (5, .int l5_40), (1, .ref a1), (2, .int l2_40), (3, .int l3_40)] → W p l e rm_X6_waysOfPart s mm args below meth cd H locs 0 0 Q (F0 mm 40 ls []) := by
        intro n40
        induction n40 with
        | zero => intro l6_40 l5_40 l2_40 l3_40 H locs ls h; exact absurd h (by simp [G_X6_waysOfPart_L40])
        | succ n40 ih40 =>
          intro l6_40 l5_40 l2_40 l3_40 H locs ls h hP hD hS hl
          rw [G_X6_waysOfPart_L40] at h
          refine lv_iload hx hb dX6_waysOfPart_40 (lv_at hl 0 rfl) ?_
          refine lv_iload_n hx hb dX6_waysOfPart_42 rfl (lv_at hl 4 rfl) ?_
          refine lv_icmp_ge (tgt := 76) hx hb dX6_waysOfPart_43 (by decide) (fun c43 => ?_) (fun c43 => ?_)
          · replace h := if_t h c43
            refine lv_iload hx hb dX6_waysOfPart_76 (lv_at hl 1 rfl) ?_
            obtain rfl := Option.some.inj h
            exact hE H locs 78 ls _ hP hD hS rfl dX6_waysOfPart_78
          replace h := if_f h c43
          refine lv_iload hx hb dX6_waysOfPart_46 (lv_at hl 1 rfl) ?_
          refine lv_aload_n hx hb dX6_waysOfPart_48 rfl (lv_at hl 2 rfl) ?_
          refine lv_bipush (v := 10) hx hb dX6_waysOfPart_49 (by decide) ?_
          refine lv_iload_n hx hb dX6_waysOfPart_51 rfl (lv_at hl 3 rfl) ?_
          refine lv_imul hx hb dX6_waysOfPart_52 ?_
          refine lv_iload hx hb dX6_waysOfPart_53 (lv_at hl 0 rfl) ?_
          refine lv_iadd hx hb dX6_waysOfPart_55 ?_
          obtain ⟨v56, e56, h⟩ := bnd h
          refine x_iald (v := v56) hx hb hK hP 5 0 rfl rfl e56 dX6_waysOfPart_56 ?_
          refine lv_aload_n hx hb dX6_waysOfPart_57 rfl (lv_at hl 2 rfl) ?_
          refine lv_bipush (v := 10) hx hb dX6_waysOfPart_58 (by decide) ?_
          refine lv_iload hx hb dX6_waysOfPart_60 (lv_at hl 0 rfl) ?_
          refine lv_imul hx hb dX6_waysOfPart_62 ?_
          refine lv_iload_n hx hb dX6_waysOfPart_63 rfl (lv_at hl 4 rfl) ?_
          refine lv_iadd hx hb dX6_waysOfPart_64 ?_
          obtain ⟨v65, e65, h⟩ := bnd h
          refine x_iald (v := v65) hx hb hK hP 5 0 rfl rfl e65 dX6_waysOfPart_65 ?_
          refine lv_imul hx hb dX6_waysOfPart_66 ?_
          refine lv_iadd hx hb dX6_waysOfPart_67 ?_
          refine lv_istore (lv' := [(5, .int (l5_40 + (v56 * v65))), (6, .int l6_40), (1, .ref a1), (2, .int l2_40), (3, .int l3_40)]) hx hb dX6_waysOfPart_68 hl (by decide) rfl (fun ls hl => ?_)
          refine lv_iinc (v := l6_40 + 1) (lv' := [(6, .int (l6_40 + 1)), (5, .int (l5_40 + (v56 * v65))), (1, .ref a1), (2, .int l2_40), (3, .int l3_40)]) hx hb dX6_waysOfPart_70 hl (k := 1) rfl rfl (by decide) rfl (fun ls hl => ?_)
          refine lv_goto (tgt := 40) hx hb dX6_waysOfPart_73 (by decide) ?_
          exact ih40 (l6_40 + 1) (l5_40 + (v56 * v65)) l2_40 l3_40 H locs ls h hP hD hS (lv_sub hl [0, 1, 2, 3, 4] rfl)
      exact hL40 FU (l2_32 + 1) 0 l2_32 l3_32 H locs ls h hP hD hS (lv_sub hl [0, 1, 2, 3, 4] rfl)
    refine lv_if_ne (tgt := 32) hx hb dX6_waysOfPart_18 (by decide) (fun c18 => ?_) (fun c18 => ?_)
    · replace h := if_f h c18
      exact hj32 p2 p3 H locs ls h hP hD hS (lv_sub hl [2, 3, 4] rfl)
    replace h := if_t h c18
    refine lv_aload_n hx hb dX6_waysOfPart_21 rfl (lv_at hl 1 rfl) ?_
    refine lv_iload_n hx hb dX6_waysOfPart_22 rfl (lv_at hl 3 rfl) ?_
    refine lv_iload_n hx hb dX6_waysOfPart_23 rfl (lv_at hl 4 rfl) ?_
    obtain ⟨v24, e24, h⟩ := bnd h
    refine cS (av := [.ref (a0 0), .int p2, .int p3]) (rest := []) (st1 := [.int v24]) (k1 := 0) (k2 := 0) hx hb hml hown htg hN hK (c_X6_between l dC dI cy a0 f0 p2 p3 v24 e24) (g_S gw411 gw412 gw73 gw413) hdS_X6_between rfl ⟨⟨Nat.le_of_ble_eq_true rfl, Nat.le_of_ble_eq_true rfl⟩, Nat.le_of_ble_eq_true rfl, Nat.le_of_ble_eq_true rfl⟩ hP hD hS hA [0, 1, 2, 3, 4] [5] rfl rfl rfl (by decide) (by decide) hl.1 rfl (Nat.le_of_ble_eq_true rfl) rfl rfl rfl dX6_waysOfPart_24 (fun H locs hP hD hS => ?_)
    obtain ⟨hP, hD⟩ := x_perm (ws' := wFig a0 cy f0 ++ wIA a1 cy n1 w1) hP hD [1, 2, 3, 4, 5, 0] (by decide) rfl rfl
    refine lv_if_ne (tgt := 32) hx hb dX6_waysOfPart_27 (by decide) (fun c27 => ?_) (fun c27 => ?_)
    · replace h := if_f h c27
      exact hj32 p2 p3 H locs ls h hP hD hS (lv_sub hl [2, 3, 4] rfl)
    replace h := if_t h c27
    refine lv_iconst (v := 0) hx hb dX6_waysOfPart_30 (by decide) ?_
    obtain rfl := Option.some.inj h
    exact hE H locs 31 ls _ hP hD hS rfl dX6_waysOfPart_31
  have h := e6
  clear e6
  refine lv_icmp_ne (tgt := 13) hx hb dX6_waysOfPart_6 (by decide) (fun c6 => ?_) (fun c6 => ?_)
  · replace h := if_f h c6
    refine lv_iconst (v := 0) hx hb dX6_waysOfPart_13 (by decide) ?_
    obtain rfl := Option.some.inj h
    exact hr14 H locs ls hP hD hS hl
  replace h := if_t h c6
  refine lv_iconst (v := 1) hx hb dX6_waysOfPart_9 (by decide) ?_
  refine lv_goto (tgt := 14) hx hb dX6_waysOfPart_10 (by decide) ?_
  obtain rfl := Option.some.inj h
  exact hr14 H locs ls hP hD hS hl
def G_X6_triangulations_L37 (r29 : (Nat → Int32) → Int32 → Int32 → Option (Int32 × (Nat → Int32))) (n1 : Nat) (f0 : Fig) : Nat → (Nat → Int32) → Int32 → Int32 → Int32 → Option (Int32 × (Nat → Int32))
  | 0, _, _, _, _ => none
  | n37 + 1, w1_37, l4_37, l3_37, l2_37 =>
    if l2_37 ≤ l4_37 + l3_37 then
      r29 w1_37 (l3_37 + 1) l2_37
    else
      ((if l3_37 = 1 then
          some 1
        else
          (G_X6_waysOfPart n1 f0 w1_37 l4_37 (l4_37 + l3_37)).bind fun v73 =>
          some v73) : Option (Int32)).bind fun b58 =>
      (wr n1 w1_37 (((10 * l4_37) + l4_37) + l3_37) b58).bind fun g76 =>
      (G_X6_triangulations_L37 r29 n1 f0 n37) g76 (l4_37 + 1) l3_37 l2_37
def G_X6_triangulations_L29  (n1 : Nat) (f0 : Fig) : Nat → (Nat → Int32) → Int32 → Int32 → Option (Int32 × (Nat → Int32))
  | 0, _, _, _ => none
  | n29 + 1, w1_29, l3_29, l2_29 =>
    if l2_29 ≤ l3_29 then
      (rd n1 w1_29 (l2_29 - 1)).bind fun v93 =>
      some (v93, w1_29)
    else
      G_X6_triangulations_L37 (G_X6_triangulations_L29 n1 f0 n29) n1 f0 FU w1_29 0 l3_29 l2_29
def G_X6_triangulations (n1 : Nat) (f0 : Fig) (w1 : Nat → Int32) : Option (Int32 × (Nat → Int32)) :=
  (G_X1_sizeOf f0 0).bind fun v2 =>
  if v2 < 3 then
    some ((-9), w1)
  else
    if 10 < v2 then
      some ((-9), w1)
    else
      if 100 ≤ Int32.ofNat n1 then
        G_X6_triangulations_L29 n1 f0 FU w1 1 v2
      else
        some ((-9), w1)
abbrev rm_X6_triangulations : Room := { frames := 5, cells := 0, slots := 0, locals := 127 }
theorem hdS_X6_triangulations : yX6_triangulations.cls ≠ "java/lang/invoke/MethodHandle" ∧ yX6_triangulations.cls ≠ "java/lang/invoke/VarHandle" ∧ (parseMethodDescriptor yX6_triangulations.desc).map (fun d => d.parameters.length) = some 2 := by decide +kernel
set_option maxHeartbeats 4000000 in
set_option maxRecDepth 100000 in
theorem c_X6_triangulations (l : Launch) (dC : Nat → ClassId) (dI : Nat → Nat → Nat) (cy : Nat → ClassId) (a0 : Nat → Nat) (a1 : Nat) (n1 : Nat) (f0 : Fig) (w1 : Nat → Int32) (res : Int32 × (Nat → Int32)) (h : G_X6_triangulations n1 f0 w1 = some res) : CT l (dC, dI) (TY cy) yX6_triangulations cX6_triangulations 5 (some .int) rm_X6_triangulations [.ref (a0 0), .ref a1] (wFig a0 cy f0 ++ wIA a1 cy n1 w1) (wFig a0 cy f0 ++ wIA a1 cy n1 res.2) (some (.int res.1)) := by
  refine CT.mk_i (own := RX6) ⟨by decide, rfl⟩ (Nat.le_of_ble_eq_true rfl) ?_
  intro p e s mm args below meth cd A Q hx hb hml hown htg hN hK hA hP hD hS hE ls hl
  have hl : lv_has ls 5 [(0, .ref (a0 0)), (1, .ref a1)] := hl
  replace h : _ = some res := h
  unfold G_X6_triangulations at h
  obtain ⟨H, hH⟩ : ∃ H, H = s.heap := ⟨_, rfl⟩
  obtain ⟨locs, hlocs⟩ : ∃ locs : List Loc, locs = [] := ⟨_, rfl⟩
  rw [← hlocs] at hS ⊢
  have hS : va_S A s.heap H locs := by rw [hH]; exact hS
  rw [← hH] at hP ⊢
  refine lv_aload_n hx hb dX6_triangulations_0 rfl (lv_at hl 0 rfl) ?_
  refine lv_iconst (v := 0) hx hb dX6_triangulations_1 (by decide) ?_
  obtain ⟨v2, e2, h⟩ := bnd h
  refine cV (av := [.int 0]) (rest := []) (st1 := [.int v2]) (k1 := 0) (k2 := 0) (ci := 0) (q0 := 0) hx hb hml hown htg hN hK (c_X1_sizeOf l dC dI cy a0 f0 0 v2 e2) (g_V gw406 gw165 gw166 gw60 gw167) hdV_X1_sizeOf rfl ⟨⟨Nat.le_of_ble_eq_true rfl, Nat.le_of_ble_eq_true rfl⟩, Nat.le_of_ble_eq_true rfl, Nat.le_of_ble_eq_true rfl⟩ hP hD hS hA ⟨rfl, rfl⟩ rfl [0, 1, 2, 3, 4] [5] rfl rfl rfl (by decide) (by decide) hl.1 rfl (Nat.le_of_ble_eq_true rfl) rfl rfl rfl dX6_triangulations_2 (fun H locs hP hD hS => ?_)
  obtain ⟨hP, hD⟩ := x_perm (ws' := wFig a0 cy f0 ++ wIA a1 cy n1 w1) hP hD [1, 2, 3, 4, 5, 0] (by decide) rfl rfl
  refine lv_istore_n (lv' := [(2, .int v2), (0, .ref (a0 0)), (1, .ref a1)]) hx hb dX6_triangulations_5 rfl hl (by decide) rfl (fun ls hl => ?_)
  refine lv_iload_n hx hb dX6_triangulations_6 rfl (lv_at hl 0 rfl) ?_
  refine lv_iconst (v := 3) hx hb dX6_triangulations_7 (by decide) ?_
  refine lv_icmp_lt (tgt := 24) hx hb dX6_triangulations_8 (by decide) (fun c8 => ?_) (fun c8 => ?_)
  · replace h := if_t h c8
    refine lv_bipush (v := (-9)) hx hb dX6_triangulations_24 (by decide) ?_
    obtain rfl := Option.some.inj h
    exact hE H locs 26 ls _ hP hD hS rfl dX6_triangulations_26
  replace h := if_f h c8
  refine lv_iload_n hx hb dX6_triangulations_11 rfl (lv_at hl 0 rfl) ?_
  refine lv_bipush (v := 10) hx hb dX6_triangulations_12 (by decide) ?_
  refine lv_icmp_gt (tgt := 24) hx hb dX6_triangulations_14 (by decide) (fun c14 => ?_) (fun c14 => ?_)
  · replace h := if_t h c14
    refine lv_bipush (v := (-9)) hx hb dX6_triangulations_24 (by decide) ?_
    obtain rfl := Option.some.inj h
    exact hE H locs 26 ls _ hP hD hS rfl dX6_triangulations_26
  replace h := if_f h c14
  refine lv_aload_n hx hb dX6_triangulations_17 rfl (lv_at hl 2 rfl) ?_
  refine va_alen hx hb hK hP 5 0 rfl rfl rfl dX6_triangulations_18 ?_
  refine lv_bipush (v := 100) hx hb dX6_triangulations_19 (by decide) ?_
  refine lv_icmp_ge (tgt := 27) hx hb dX6_triangulations_21 (by decide) (fun c21 => ?_) (fun c21 => ?_)
  · replace h := if_t h c21
    refine lv_iconst (v := 1) hx hb dX6_triangulations_27 (by decide) ?_
    refine lv_istore_n (lv' := [(3, .int 1), (2, .int v2), (0, .ref (a0 0)), (1, .ref a1)]) hx hb dX6_triangulations_28 rfl hl (by decide) rfl (fun ls hl => ?_)
    have hL29 : ∀ (n29 : Nat) (w1_29 : Nat → Int32) (l3_29 : Int32) (l2_29 : Int32) (H : Heap) (locs : List Loc) (ls : Array Slot), G_X6_triangulations_L29 n1 f0 n29 w1_29 l3_29 l2_29 = some res → va_P (dC, dI) vwCl (wFig a0 cy f0 ++ wIA a1 cy n1 w1_29) H → va_D A (wFig a0 cy f0 ++ wIA a1 cy n1 w1_29) → va_S A s.heap H locs → lv_has ls 5 [(3, .int l3_29), (2, .int l2_29), (0, .ref (a0 0)), (1, .ref a1)] → W p l e rm_X6_triangulations s mm args below meth cd H locs 0 0 Q (F0 mm 29 ls []) := by
      intro n29
      induction n29 with
      | zero => intro w1_29 l3_29 l2_29 H locs ls h; exact absurd h (by simp [G_X6_triangulations_L29])
      | succ n29 ih29 =>
        intro w1_29 l3_29 l2_29 H locs ls h hP hD hS hl
        rw [G_X6_triangulations_L29] at h
        refine lv_iload_n hx hb dX6_triangulations_29 rfl (lv_at hl 0 rfl) ?_
        refine lv_iload_n hx hb dX6_triangulations_30 rfl (lv_at hl 1 rfl) ?_
        refine lv_icmp_ge (tgt := 89) hx hb dX6_triangulations_31 (by decide) (fun c31 => ?_) (fun c31 => ?_)
        · replace h := if_t h c31
          refine lv_aload_n hx hb dX6_triangulations_89 rfl (lv_at hl 3 rfl) ?_
          refine lv_iload_n hx hb dX6_triangulations_90 rfl (lv_at hl 1 rfl) ?_
          refine lv_iconst (v := 1) hx hb dX6_triangulations_91 (by decide) ?_
          refine lv_isub hx hb dX6_triangulations_92 ?_
          obtain ⟨v93, e93, h⟩ := bnd h
          refine x_iald (v := v93) hx hb hK hP 5 0 rfl rfl e93 dX6_triangulations_93 ?_
          obtain rfl := Option.some.inj h
          exact hE H locs 94 ls _ hP hD hS rfl dX6_triangulations_94
        replace h := if_f h c31
        refine lv_iconst (v := 0) hx hb dX6_triangulations_34 (by decide) ?_
        refine lv_istore (lv' := [(4, .int 0), (3, .int l3_29), (2, .int l2_29), (0, .ref (a0 0)), (1, .ref a1)]) hx hb dX6_triangulations_35 hl (by decide) rfl (fun ls hl => ?_)
        have hL37 : ∀ (n37 : Nat) (w1_37 : Nat → Int32) (l4_37 : Int32) (l3_37 : Int32) (l2_37 : Int32) (H : Heap) (locs : List Loc) (ls : Array Slot), G_X6_triangulations_L37 (G_X6_triangulations_L29 n1 f0 n29) n1 f0 n37 w1_37 l4_37 l3_37 l2_37 = some res → va_P (dC, dI) vwCl (wFig a0 cy f0 ++ wIA a1 cy n1 w1_37) H → va_D A (wFig a0 cy f0 ++ wIA a1 cy n1 w1_37) → va_S A s.heap H locs → lv_has ls 5 [(4, .int l4_37), (3, .int l3_37), (2, .int l2_37), (0, .ref (a0 0)), (1, .ref a1)] → W p l e rm_X6_triangulations s mm args below meth cd H locs 0 0 Q (F0 mm 37 ls []) := by
          intro n37
          induction n37 with
          | zero => intro w1_37 l4_37 l3_37 l2_37 H locs ls h; exact absurd h (by simp [G_X6_triangulations_L37])
          | succ n37 ih37 =>
            intro w1_37 l4_37 l3_37 l2_37 H locs ls h hP hD hS hl
            rw [G_X6_triangulations_L37] at h
            refine lv_iload hx hb dX6_triangulations_37 (lv_at hl 0 rfl) ?_
            refine lv_iload_n hx hb dX6_triangulations_39 rfl (lv_at hl 1 rfl) ?_
            refine lv_iadd hx hb dX6_triangulations_40 ?_
            refine lv_iload_n hx hb dX6_triangulations_41 rfl (lv_at hl 2 rfl) ?_
            refine lv_icmp_ge (tgt := 83) hx hb dX6_triangulations_42 (by decide) (fun c42 => ?_) (fun c42 => ?_)
            · replace h := if_t h c42
              refine lv_iinc (v := l3_37 + 1) (lv' := [(3, .int (l3_37 + 1)), (4, .int l4_37), (2, .int l2_37), (0, .ref (a0 0)), (1, .ref a1)]) hx hb dX6_triangulations_83 hl (k := 1) rfl rfl (by decide) rfl (fun ls hl => ?_)
              refine lv_goto (tgt := 29) hx hb dX6_triangulations_86 (by decide) ?_
              exact ih29 w1_37 (l3_37 + 1) l2_37 H locs ls h hP hD hS (lv_sub hl [0, 2, 3, 4] rfl)
            replace h := if_f h c42
            refine lv_aload_n hx hb dX6_triangulations_45 rfl (lv_at hl 4 rfl) ?_
            refine lv_bipush (v := 10) hx hb dX6_triangulations_46 (by decide) ?_
            refine lv_iload hx hb dX6_triangulations_48 (lv_at hl 0 rfl) ?_
            refine lv_imul hx hb dX6_triangulations_50 ?_
            refine lv_iload hx hb dX6_triangulations_51 (lv_at hl 0 rfl) ?_
            refine lv_iadd hx hb dX6_triangulations_53 ?_
            refine lv_iload_n hx hb dX6_triangulations_54 rfl (lv_at hl 1 rfl) ?_
            refine lv_iadd hx hb dX6_triangulations_55 ?_
            refine lv_iload_n hx hb dX6_triangulations_56 rfl (lv_at hl 1 rfl) ?_
            refine lv_iconst (v := 1) hx hb dX6_triangulations_57 (by decide) ?_
            obtain ⟨b58, e58, h⟩ := bnd h
            have hr76 : ∀ (H : Heap) (locs : List Loc) (ls : Array Slot), va_P (dC, dI) vwCl (wFig a0 cy f0 ++ wIA a1 cy n1 w1_37) H → va_D A (wFig a0 cy f0 ++ wIA a1 cy n1 w1_37) → va_S A s.heap H locs → lv_has ls 5 [(4, .int l4_37), (3, .int l3_37), (2, .int l2_37), (0, .ref (a0 0)), (1, .ref a1)] → W p l e rm_X6_triangulations s mm args below meth cd H locs 0 0 Q (F0 mm 76 ls [.int b58, .int (((10 * l4_37) + l4_37) + l3_37), .ref a1]) := by
              intro H locs ls hP hD hS hl
              obtain ⟨g76, e76, h⟩ := bnd h
              refine x_iast (g := g76) hx hb hK hP hD hS 5 0 rfl rfl e76 dX6_triangulations_76 (fun H locs hP hD hS => ?_)
              have hP : va_P (dC, dI) vwCl (wFig a0 cy f0 ++ wIA a1 cy n1 g76) H := hP
              have hD : va_D A (wFig a0 cy f0 ++ wIA a1 cy n1 g76) := hD
              refine lv_iinc (v := l4_37 + 1) (lv' := [(4, .int (l4_37 + 1)), (3, .int l3_37), (2, .int l2_37), (0, .ref (a0 0)), (1, .ref a1)]) hx hb dX6_triangulations_77 hl (k := 0) rfl rfl (by decide) rfl (fun ls hl => ?_)
              refine lv_goto (tgt := 37) hx hb dX6_triangulations_80 (by decide) ?_
              exact ih37 g76 (l4_37 + 1) l3_37 l2_37 H locs ls h hP hD hS (lv_sub hl [0, 1, 2, 3, 4] rfl)
            have h := e58
            clear e58
            refine lv_icmp_ne (tgt := 65) hx hb dX6_triangulations_58 (by decide) (fun c58 => ?_) (fun c58 => ?_)
            · replace h := if_f h c58
              refine lv_aload_n hx hb dX6_triangulations_65 rfl (lv_at hl 3 rfl) ?_
              refine lv_aload_n hx hb dX6_triangulations_66 rfl (lv_at hl 4 rfl) ?_
              refine lv_iload hx hb dX6_triangulations_67 (lv_at hl 0 rfl) ?_
              refine lv_iload hx hb dX6_triangulations_69 (lv_at hl 0 rfl) ?_
              refine lv_iload_n hx hb dX6_triangulations_71 rfl (lv_at hl 1 rfl) ?_
              refine lv_iadd hx hb dX6_triangulations_72 ?_
              obtain ⟨v73, e73, h⟩ := bnd h
              refine cS (av := [.ref (a0 0), .ref a1, .int l4_37, .int (l4_37 + l3_37)]) (rest := [.int (((10 * l4_37) + l4_37) + l3_37), .ref a1]) (st1 := [.int v73, .int (((10 * l4_37) + l4_37) + l3_37), .ref a1]) (k1 := 0) (k2 := 0) hx hb hml hown htg hN hK (c_X6_waysOfPart l dC dI cy a0 a1 n1 f0 w1_37 l4_37 (l4_37 + l3_37) v73 e73) (g_S gw407 gw408 gw73 gw409) hdS_X6_waysOfPart rfl ⟨⟨Nat.le_of_ble_eq_true rfl, Nat.le_of_ble_eq_true rfl⟩, Nat.le_of_ble_eq_true rfl, Nat.le_of_ble_eq_true rfl⟩ hP hD hS hA [0, 1, 2, 3, 4, 5] [] rfl rfl rfl (by decide) (by decide) hl.1 rfl (Nat.le_of_ble_eq_true rfl) rfl rfl rfl dX6_triangulations_73 (fun H locs hP hD hS => ?_)
              have hP : va_P (dC, dI) vwCl (wFig a0 cy f0 ++ wIA a1 cy n1 w1_37) H := hP
              have hD : va_D A (wFig a0 cy f0 ++ wIA a1 cy n1 w1_37) := hD
              obtain rfl := Option.some.inj h
              exact hr76 H locs ls hP hD hS hl
            replace h := if_t h c58
            refine lv_iconst (v := 1) hx hb dX6_triangulations_61 (by decide) ?_
            refine lv_goto (tgt := 76) hx hb dX6_triangulations_62 (by decide) ?_
            obtain rfl := Option.some.inj h
            exact hr76 H locs ls hP hD hS hl
        exact hL37 FU w1_29 0 l3_29 l2_29 H locs ls h hP hD hS (lv_sub hl [0, 1, 2, 3, 4] rfl)
    exact hL29 FU w1 1 v2 H locs ls h hP hD hS (lv_sub hl [0, 1, 2, 3] rfl)
  replace h := if_f h c21
  refine lv_bipush (v := (-9)) hx hb dX6_triangulations_24 (by decide) ?_
  obtain rfl := Option.some.inj h
  exact hE H locs 26 ls _ hP hD hS rfl dX6_triangulations_26
def G_X7_add (t0 : TextS) (p1 : Int32) : Option (TextS) :=
  if 90 ≤ t_length t0 then
    some t0
  else
    (wr 90 (t_signs t0) (t_length t0) ((p1.toUInt32 % 65536).toInt32)).bind fun g19 =>
    (some (ts_signs t0 g19)).bind fun z0_27 =>
    some (ts_length z0_27 ((t_length (ts_signs t0 g19)) + 1))
abbrev rm_X7_add : Room := { frames := 0, cells := 0, slots := 0, locals := 0 }
theorem hdS_X7_add : yX7_add.cls ≠ "java/lang/invoke/MethodHandle" ∧ yX7_add.cls ≠ "java/lang/invoke/VarHandle" ∧ (parseMethodDescriptor yX7_add.desc).map (fun d => d.parameters.length) = some 1 := by decide +kernel
theorem hdV_X7_add : yX7_add.cls = RX7 ∧ yX7_add.cls ≠ "java/lang/invoke/MethodHandle" ∧ yX7_add.cls ≠ "java/lang/invoke/VarHandle" ∧ (parseMethodDescriptor yX7_add.desc).map (fun d => d.parameters.length) = some 1 := ⟨rfl, hdS_X7_add⟩
set_option maxHeartbeats 4000000 in
set_option maxRecDepth 100000 in
theorem c_X7_add (l : Launch) (dC : Nat → ClassId) (dI : Nat → Nat → Nat) (cy : Nat → ClassId) (a0 : Nat → Nat) (t0 : TextS) (p1 : Int32) (res : TextS) (h : G_X7_add t0 p1 = some res) : CT l (dC, dI) (TY cy) yX7_add cX7_add 2 none rm_X7_add [.ref (a0 0), .int p1] (wText a0 cy t0) (wText a0 cy res) none := by
  refine CT.mk_v (own := RX7) ⟨by decide, rfl⟩ (Nat.le_of_ble_eq_true rfl) ?_
  intro p e s mm args below meth cd A Q hx hb hml hown htg hN hK hA hP hD hS hE ls hl
  have hl : lv_has ls 2 [(0, .ref (a0 0)), (1, .int p1)] := hl
  replace h : _ = some res := h
  unfold G_X7_add at h
  obtain ⟨H, hH⟩ : ∃ H, H = s.heap := ⟨_, rfl⟩
  obtain ⟨locs, hlocs⟩ : ∃ locs : List Loc, locs = [] := ⟨_, rfl⟩
  rw [← hlocs] at hS ⊢
  have hS : va_S A s.heap H locs := by rw [hH]; exact hS
  rw [← hH] at hP ⊢
  refine lv_aload_n hx hb dX7_add_0 rfl (lv_at hl 0 rfl) ?_
  refine va_get (D := (dC, dI)) (ci := 2) (v := .int (t_length t0)) (C := RX7) (T := TX7) (N := 2) hx hb htg inX7 hown hK hP 0 rfl rfl 1 (by decide) (htg _ gw147) (fun _ h9 => h9) rfl dX7_add_1 ?_
  refine lv_bipush (v := 90) hx hb dX7_add_4 (by decide) ?_
  refine lv_icmp_ge (tgt := 30) hx hb dX7_add_6 (by decide) (fun c6 => ?_) (fun c6 => ?_)
  · replace h := if_t h c6
    obtain rfl := Option.some.inj h
    exact hE H locs 30 ls hP hD hS dX7_add_30
  replace h := if_f h c6
  refine lv_aload_n hx hb dX7_add_9 rfl (lv_at hl 0 rfl) ?_
  refine va_get (D := (dC, dI)) (ci := 2) (v := .ref (a0 1)) (C := RX7) (T := TX7) (N := 2) hx hb htg inX7 hown hK hP 0 rfl rfl 0 (by decide) (htg _ gw146) (fun _ h9 => h9) rfl dX7_add_10 ?_
  refine lv_aload_n hx hb dX7_add_13 rfl (lv_at hl 0 rfl) ?_
  refine va_get (D := (dC, dI)) (ci := 2) (v := .int (t_length t0)) (C := RX7) (T := TX7) (N := 2) hx hb htg inX7 hown hK hP 0 rfl rfl 1 (by decide) (htg _ gw147) (fun _ h9 => h9) rfl dX7_add_14 ?_
  refine lv_iload_n hx hb dX7_add_17 rfl (lv_at hl 1 rfl) ?_
  refine lv_i2c hx hb dX7_add_18 rfl ?_
  obtain ⟨g19, e19, h⟩ := bnd h
  refine x_cast (g := g19) hx hb hK hP hD hS 1 2 rfl rfl e19 (vp_nar_c _) dX7_add_19 (fun H locs hP hD hS => ?_)
  have hP : va_P (dC, dI) vwCl (wText a0 cy (ts_signs t0 g19)) H := hP
  have hD : va_D A (wText a0 cy (ts_signs t0 g19)) := hD
  refine lv_aload_n hx hb dX7_add_20 rfl (lv_at hl 0 rfl) ?_
  refine lv_dup hx hb dX7_add_21 rfl ?_
  refine va_get (D := (dC, dI)) (ci := 2) (v := .int (t_length (ts_signs t0 g19))) (C := RX7) (T := TX7) (N := 2) hx hb htg inX7 hown hK hP 0 rfl rfl 1 (by decide) (htg _ gw147) (fun _ h9 => h9) rfl dX7_add_22 ?_
  refine lv_iconst (v := 1) hx hb dX7_add_25 (by decide) ?_
  refine lv_iadd hx hb dX7_add_26 ?_
  obtain ⟨z0_27, ez0_27, h⟩ := bnd h
  replace ez0_27 := Option.some.inj ez0_27
  rw [ez0_27] at hP hD
  refine va_put (D := (dC, dI)) (ci := 2) (v := .int ((t_length (ts_signs t0 g19)) + 1)) (ty := .int) (C := RX7) (T := TX7) (N := 2) hx hb htg inX7 tyX7 tyX7_ok nmX7 hown hK hP hD hS 0 rfl rfl 1 (by decide) (htg _ gw147) (fun _ h9 => h9) rfl (by decide +kernel) rfl rfl (Nat.le_of_ble_eq_true rfl) dX7_add_27 (fun H locs hP hD hS => ?_)
  have hP : va_P (dC, dI) vwCl (wText a0 cy (ts_length z0_27 ((t_length (ts_signs t0 g19)) + 1))) H := hP
  have hD : va_D A (wText a0 cy (ts_length z0_27 ((t_length (ts_signs t0 g19)) + 1))) := hD
  obtain rfl := Option.some.inj h
  exact hE H locs 30 ls hP hD hS dX7_add_30
def G_X7_isLetter (p0 : Int32) : Option (Int32) :=
  if p0 < 97 then
    some 0
  else
    if 112 < p0 then
      some 0
    else
      some 1
abbrev rm_X7_isLetter : Room := { frames := 0, cells := 0, slots := 0, locals := 0 }
theorem hdS_X7_isLetter : yX7_isLetter.cls ≠ "java/lang/invoke/MethodHandle" ∧ yX7_isLetter.cls ≠ "java/lang/invoke/VarHandle" ∧ (parseMethodDescriptor yX7_isLetter.desc).map (fun d => d.parameters.length) = some 1 := by decide +kernel
set_option maxHeartbeats 4000000 in
set_option maxRecDepth 100000 in
theorem c_X7_isLetter (l : Launch) (dC : Nat → ClassId) (dI : Nat → Nat → Nat) (cy : Nat → ClassId)  (p0 : Int32) (res : Int32) (h : G_X7_isLetter p0 = some res) : CT l (dC, dI) (TY cy) yX7_isLetter cX7_isLetter 1 (some .boolean) rm_X7_isLetter [.int p0] ([]) ([]) (some (.int res)) := by
  refine CT.mk_z (own := RX7) ⟨by decide, rfl⟩ (Nat.le_of_ble_eq_true rfl) ?_
  intro p e s mm args below meth cd A Q hx hb hml hown htg hN hK hA hP hD hS hE ls hl
  have hl : lv_has ls 1 [(0, .int p0)] := hl
  replace h : _ = some res := h
  unfold G_X7_isLetter at h
  obtain ⟨H, hH⟩ : ∃ H, H = s.heap := ⟨_, rfl⟩
  obtain ⟨locs, hlocs⟩ : ∃ locs : List Loc, locs = [] := ⟨_, rfl⟩
  rw [← hlocs] at hS ⊢
  have hS : va_S A s.heap H locs := by rw [hH]; exact hS
  rw [← hH] at hP ⊢
  refine lv_bipush (v := 97) hx hb dX7_isLetter_0 (by decide) ?_
  refine lv_iload_n hx hb dX7_isLetter_2 rfl (lv_at hl 0 rfl) ?_
  refine lv_icmp_gt (tgt := 16) hx hb dX7_isLetter_3 (by decide) (fun c3 => ?_) (fun c3 => ?_)
  · replace h := if_t h c3
    refine lv_iconst (v := 0) hx hb dX7_isLetter_16 (by decide) ?_
    obtain rfl := Option.some.inj h
    exact hE H locs 17 ls _ hP hD hS rfl (Or.inl rfl) dX7_isLetter_17
  replace h := if_f h c3
  refine lv_iload_n hx hb dX7_isLetter_6 rfl (lv_at hl 0 rfl) ?_
  refine lv_bipush (v := 112) hx hb dX7_isLetter_7 (by decide) ?_
  refine lv_icmp_gt (tgt := 16) hx hb dX7_isLetter_9 (by decide) (fun c9 => ?_) (fun c9 => ?_)
  · replace h := if_t h c9
    refine lv_iconst (v := 0) hx hb dX7_isLetter_16 (by decide) ?_
    obtain rfl := Option.some.inj h
    exact hE H locs 17 ls _ hP hD hS rfl (Or.inl rfl) dX7_isLetter_17
  replace h := if_f h c9
  refine lv_iconst (v := 1) hx hb dX7_isLetter_12 (by decide) ?_
  refine lv_goto (tgt := 17) hx hb dX7_isLetter_13 (by decide) ?_
  obtain rfl := Option.some.inj h
  exact hE H locs 17 ls _ hP hD hS rfl (Or.inr rfl) dX7_isLetter_17
def G_X7_isWhole (p0 : Int32) : Option (Int32) :=
  if p0 - p0 / 2 * 2 = 0 then
    if p0 < 6 then
      some 0
    else
      some 1
  else
    some 0
abbrev rm_X7_isWhole : Room := { frames := 0, cells := 0, slots := 0, locals := 0 }
theorem hdS_X7_isWhole : yX7_isWhole.cls ≠ "java/lang/invoke/MethodHandle" ∧ yX7_isWhole.cls ≠ "java/lang/invoke/VarHandle" ∧ (parseMethodDescriptor yX7_isWhole.desc).map (fun d => d.parameters.length) = some 1 := by decide +kernel
set_option maxHeartbeats 4000000 in
set_option maxRecDepth 100000 in
theorem c_X7_isWhole (l : Launch) (dC : Nat → ClassId) (dI : Nat → Nat → Nat) (cy : Nat → ClassId)  (p0 : Int32) (res : Int32) (h : G_X7_isWhole p0 = some res) : CT l (dC, dI) (TY cy) yX7_isWhole cX7_isWhole 1 (some .boolean) rm_X7_isWhole [.int p0] ([]) ([]) (some (.int res)) := by
  refine CT.mk_z (own := RX7) ⟨by decide, rfl⟩ (Nat.le_of_ble_eq_true rfl) ?_
  intro p e s mm args below meth cd A Q hx hb hml hown htg hN hK hA hP hD hS hE ls hl
  have hl : lv_has ls 1 [(0, .int p0)] := hl
  replace h : _ = some res := h
  unfold G_X7_isWhole at h
  obtain ⟨H, hH⟩ : ∃ H, H = s.heap := ⟨_, rfl⟩
  obtain ⟨locs, hlocs⟩ : ∃ locs : List Loc, locs = [] := ⟨_, rfl⟩
  rw [← hlocs] at hS ⊢
  have hS : va_S A s.heap H locs := by rw [hH]; exact hS
  rw [← hH] at hP ⊢
  refine lv_iload_n hx hb dX7_isWhole_0 rfl (lv_at hl 0 rfl) ?_
  refine lv_iconst (v := 2) hx hb dX7_isWhole_1 (by decide) ?_
  refine lv_irem hx hb dX7_isWhole_2 (by decide) ?_
  refine lv_if_ne (tgt := 16) hx hb dX7_isWhole_3 (by decide) (fun c3 => ?_) (fun c3 => ?_)
  · replace h := if_f h c3
    refine lv_iconst (v := 0) hx hb dX7_isWhole_16 (by decide) ?_
    obtain rfl := Option.some.inj h
    exact hE H locs 17 ls _ hP hD hS rfl (Or.inl rfl) dX7_isWhole_17
  replace h := if_t h c3
  refine lv_iload_n hx hb dX7_isWhole_6 rfl (lv_at hl 0 rfl) ?_
  refine lv_bipush (v := 6) hx hb dX7_isWhole_7 (by decide) ?_
  refine lv_icmp_lt (tgt := 16) hx hb dX7_isWhole_9 (by decide) (fun c9 => ?_) (fun c9 => ?_)
  · replace h := if_t h c9
    refine lv_iconst (v := 0) hx hb dX7_isWhole_16 (by decide) ?_
    obtain rfl := Option.some.inj h
    exact hE H locs 17 ls _ hP hD hS rfl (Or.inl rfl) dX7_isWhole_17
  replace h := if_f h c9
  refine lv_iconst (v := 1) hx hb dX7_isWhole_12 (by decide) ?_
  refine lv_goto (tgt := 17) hx hb dX7_isWhole_13 (by decide) ?_
  obtain rfl := Option.some.inj h
  exact hE H locs 17 ls _ hP hD hS rfl (Or.inr rfl) dX7_isWhole_17
def G_X7_readInto_j145 (r32 : Fig → Int32 → Int32 → Option (Int32 × Fig)) (t0 : TextS) (f1_145 : Fig) (l3_145 : Int32) (l2_145 : Int32) : Option (Int32 × Fig) :=
  r32 f1_145 (l3_145 + 1) l2_145
def G_X7_readInto_j92 (r32 : Fig → Int32 → Int32 → Option (Int32 × Fig)) (t0 : TextS) (f1_92 : Fig) (l4_92 : Int32) (l3_92 : Int32) (l2_92 : Int32) : Option (Int32 × Fig) :=
  (rd 90 (t_signs t0) l3_92).bind fun v97 =>
  (G_X7_isLetter v97).bind fun v98 =>
  if v98 = 0 then
    some (l3_92, f1_92)
  else
    if l4_92 < 20 then
      if l4_92 - l4_92 / 2 * 2 = 1 then
        (rd 90 (t_signs t0) (l3_92 - 1)).bind fun v129 =>
        (rd 90 (t_signs t0) l3_92).bind fun v138 =>
        (G_X1_addCorner f1_92 (v129 - 97) (v138 - 97)).bind fun v142 =>
        G_X7_readInto_j145 r32 t0 v142 l3_92 l2_92
      else
        G_X7_readInto_j145 r32 t0 f1_92 l3_92 l2_92
    else
      some (l3_92, f1_92)
def G_X7_readInto_L32  (t0 : TextS) : Nat → Fig → Int32 → Int32 → Option (Int32 × Fig)
  | 0, _, _, _ => none
  | n32 + 1, f1_32, l3_32, l2_32 =>
    if t_length t0 ≤ l3_32 then
      (G_X7_isWhole ((t_length t0) - l2_32)).bind fun v157 =>
      if v157 = 0 then
        some (t_length t0, f1_32)
      else
        (G_X4_firstBroken f1_32).bind fun v169 =>
        if v169 = 0 then
          some ((-9), f1_32)
        else
          some (l2_32, f1_32)
    else
      (rd 90 (t_signs t0) l3_32).bind fun v50 =>
      if v50 = 47 then
        (G_X7_isWhole (l3_32 - l2_32)).bind fun v58 =>
        if v58 = 0 then
          G_X7_readInto_j92 (G_X7_readInto_L32 t0 n32) t0 f1_32 (l3_32 - l2_32) l3_32 l2_32
        else
          if 4 ≤ f_rings f1_32 then
            G_X7_readInto_j92 (G_X7_readInto_L32 t0 n32) t0 f1_32 (l3_32 - l2_32) l3_32 l2_32
          else
            (G_X4_firstBroken f1_32).bind fun v73 =>
            if v73 = 0 then
              (G_X1_openRing f1_32).bind fun v82 =>
              G_X7_readInto_j145 (G_X7_readInto_L32 t0 n32) t0 v82 l3_32 (l3_32 + 1)
            else
              some (l2_32, f1_32)
      else
        G_X7_readInto_j92 (G_X7_readInto_L32 t0 n32) t0 f1_32 (l3_32 - l2_32) l3_32 l2_32
def G_X7_readInto (t0 : TextS) (f1 : Fig) : Option (Int32 × Fig) :=
  (G_X1_clear f1).bind fun v1 =>
  if t_length t0 = 0 then
    some (0, v1)
  else
    (rd 90 (t_signs t0) 0).bind fun v16 =>
    if v16 = 70 then
      (G_X1_openRing v1).bind fun v25 =>
      G_X7_readInto_L32 t0 FU v25 1 1
    else
      some (0, v1)
abbrev rm_X7_readInto : Room := { frames := 5, cells := 0, slots := 0, locals := 114 }
theorem hdS_X7_readInto : yX7_readInto.cls ≠ "java/lang/invoke/MethodHandle" ∧ yX7_readInto.cls ≠ "java/lang/invoke/VarHandle" ∧ (parseMethodDescriptor yX7_readInto.desc).map (fun d => d.parameters.length) = some 1 := by decide +kernel
theorem hdV_X7_readInto : yX7_readInto.cls = RX7 ∧ yX7_readInto.cls ≠ "java/lang/invoke/MethodHandle" ∧ yX7_readInto.cls ≠ "java/lang/invoke/VarHandle" ∧ (parseMethodDescriptor yX7_readInto.desc).map (fun d => d.parameters.length) = some 1 := ⟨rfl, hdS_X7_readInto⟩
set_option maxHeartbeats 4000000 in
set_option maxRecDepth 100000 in
theorem c_X7_readInto (l : Launch) (dC : Nat → ClassId) (dI : Nat → Nat → Nat) (cy : Nat → ClassId) (a0 : Nat → Nat) (a1 : Nat → Nat) (t0 : TextS) (f1 : Fig) (res : Int32 × Fig) (h : G_X7_readInto t0 f1 = some res) : CT l (dC, dI) (TY cy) yX7_readInto cX7_readInto 5 (some .int) rm_X7_readInto [.ref (a0 0), .ref (a1 0)] (wText a0 cy t0 ++ wFig a1 cy f1) (wText a0 cy t0 ++ wFig a1 cy res.2) (some (.int res.1)) := by
  refine CT.mk_i (own := RX7) ⟨by decide, rfl⟩ (Nat.le_of_ble_eq_true rfl) ?_
  intro p e s mm args below meth cd A Q hx hb hml hown htg hN hK hA hP hD hS hE ls hl
  have hl : lv_has ls 5 [(0, .ref (a0 0)), (1, .ref (a1 0))] := hl
  replace h : _ = some res := h
  unfold G_X7_readInto at h
  obtain ⟨H, hH⟩ : ∃ H, H = s.heap := ⟨_, rfl⟩
  obtain ⟨locs, hlocs⟩ : ∃ locs : List Loc, locs = [] := ⟨_, rfl⟩
  rw [← hlocs] at hS ⊢
  have hS : va_S A s.heap H locs := by rw [hH]; exact hS
  rw [← hH] at hP ⊢
  refine lv_aload_n hx hb dX7_readInto_0 rfl (lv_at hl 1 rfl) ?_
  obtain ⟨v1, e1, h⟩ := bnd h
  refine cV (av := []) (rest := []) (st1 := []) (k1 := 0) (k2 := 0) (ci := 0) (q0 := 0) hx hb hml hown htg hN hK (c_X1_clear l dC dI cy a1 f1  v1 e1) (g_V gw226 gw227 gw228 gw60 gw229) hdV_X1_clear rfl ⟨⟨Nat.le_of_ble_eq_true rfl, Nat.le_of_ble_eq_true rfl⟩, Nat.le_of_ble_eq_true rfl, Nat.le_of_ble_eq_true rfl⟩ hP hD hS hA ⟨rfl, rfl⟩ rfl [2, 3, 4, 5, 6] [0, 1] rfl rfl rfl (by decide) (by decide) hl.1 rfl (Nat.le_of_ble_eq_true rfl) rfl rfl rfl dX7_readInto_1 (fun H locs hP hD hS => ?_)
  obtain ⟨hP, hD⟩ := x_perm (ws' := wText a0 cy t0 ++ wFig a1 cy v1) hP hD [0, 1, 2, 3, 4, 5, 6] (by decide) rfl rfl
  refine lv_aload_n hx hb dX7_readInto_4 rfl (lv_at hl 0 rfl) ?_
  refine va_get (D := (dC, dI)) (ci := 2) (v := .int (t_length t0)) (C := RX7) (T := TX7) (N := 2) hx hb htg inX7 hown hK hP 0 rfl rfl 1 (by decide) (htg _ gw147) (fun _ h9 => h9) rfl dX7_readInto_5 ?_
  refine lv_if_eq (tgt := 22) hx hb dX7_readInto_8 (by decide) (fun c8 => ?_) (fun c8 => ?_)
  · replace h := if_t h c8
    refine lv_iconst (v := 0) hx hb dX7_readInto_22 (by decide) ?_
    obtain rfl := Option.some.inj h
    exact hE H locs 23 ls _ hP hD hS rfl dX7_readInto_23
  replace h := if_f h c8
  refine lv_aload_n hx hb dX7_readInto_11 rfl (lv_at hl 0 rfl) ?_
  refine va_get (D := (dC, dI)) (ci := 2) (v := .ref (a0 1)) (C := RX7) (T := TX7) (N := 2) hx hb htg inX7 hown hK hP 0 rfl rfl 0 (by decide) (htg _ gw146) (fun _ h9 => h9) rfl dX7_readInto_12 ?_
  refine lv_iconst (v := 0) hx hb dX7_readInto_15 (by decide) ?_
  obtain ⟨v16, e16, h⟩ := bnd h
  refine x_cald (v := v16) hx hb hK hP 1 2 rfl rfl e16 dX7_readInto_16 ?_
  refine lv_bipush (v := 70) hx hb dX7_readInto_17 (by decide) ?_
  refine lv_icmp_eq (tgt := 24) hx hb dX7_readInto_19 (by decide) (fun c19 => ?_) (fun c19 => ?_)
  · replace h := if_t h c19
    refine lv_aload_n hx hb dX7_readInto_24 rfl (lv_at hl 1 rfl) ?_
    obtain ⟨v25, e25, h⟩ := bnd h
    refine cV (av := []) (rest := []) (st1 := []) (k1 := 0) (k2 := 0) (ci := 0) (q0 := 0) hx hb hml hown htg hN hK (c_X1_openRing l dC dI cy a1 v1  v25 e25) (g_V gw230 gw157 gw158 gw60 gw159) hdV_X1_openRing rfl ⟨⟨Nat.le_of_ble_eq_true rfl, Nat.le_of_ble_eq_true rfl⟩, Nat.le_of_ble_eq_true rfl, Nat.le_of_ble_eq_true rfl⟩ hP hD hS hA ⟨rfl, rfl⟩ rfl [2, 3, 4, 5, 6] [0, 1] rfl rfl rfl (by decide) (by decide) hl.1 rfl (Nat.le_of_ble_eq_true rfl) rfl rfl rfl dX7_readInto_25 (fun H locs hP hD hS => ?_)
    obtain ⟨hP, hD⟩ := x_perm (ws' := wText a0 cy t0 ++ wFig a1 cy v25) hP hD [0, 1, 2, 3, 4, 5, 6] (by decide) rfl rfl
    refine lv_iconst (v := 1) hx hb dX7_readInto_28 (by decide) ?_
    refine lv_istore_n (lv' := [(2, .int 1), (0, .ref (a0 0)), (1, .ref (a1 0))]) hx hb dX7_readInto_29 rfl hl (by decide) rfl (fun ls hl => ?_)
    refine lv_iconst (v := 1) hx hb dX7_readInto_30 (by decide) ?_
    refine lv_istore_n (lv' := [(3, .int 1), (2, .int 1), (0, .ref (a0 0)), (1, .ref (a1 0))]) hx hb dX7_readInto_31 rfl hl (by decide) rfl (fun ls hl => ?_)
    have hL32 : ∀ (n32 : Nat) (f1_32 : Fig) (l3_32 : Int32) (l2_32 : Int32) (H : Heap) (locs : List Loc) (ls : Array Slot), G_X7_readInto_L32 t0 n32 f1_32 l3_32 l2_32 = some res → va_P (dC, dI) vwCl (wText a0 cy t0 ++ wFig a1 cy f1_32) H → va_D A (wText a0 cy t0 ++ wFig a1 cy f1_32) → va_S A s.heap H locs → lv_has ls 5 [(3, .int l3_32), (2, .int l2_32), (0, .ref (a0 0)), (1, .ref (a1 0))] → W p l e rm_X7_readInto s mm args below meth cd H locs 0 0 Q (F0 mm 32 ls []) := by
      intro n32
      induction n32 with
      | zero => intro f1_32 l3_32 l2_32 H locs ls h; exact absurd h (by simp [G_X7_readInto_L32])
      | succ n32 ih32 =>
        intro f1_32 l3_32 l2_32 H locs ls h hP hD hS hl
        rw [G_X7_readInto_L32] at h
        refine lv_iload_n hx hb dX7_readInto_32 rfl (lv_at hl 0 rfl) ?_
        refine lv_aload_n hx hb dX7_readInto_33 rfl (lv_at hl 2 rfl) ?_
        refine va_get (D := (dC, dI)) (ci := 2) (v := .int (t_length t0)) (C := RX7) (T := TX7) (N := 2) hx hb htg inX7 hown hK hP 0 rfl rfl 1 (by decide) (htg _ gw147) (fun _ h9 => h9) rfl dX7_readInto_34 ?_
        refine lv_icmp_ge (tgt := 151) hx hb dX7_readInto_37 (by decide) (fun c37 => ?_) (fun c37 => ?_)
        · replace h := if_t h c37
          refine lv_aload_n hx hb dX7_readInto_151 rfl (lv_at hl 2 rfl) ?_
          refine va_get (D := (dC, dI)) (ci := 2) (v := .int (t_length t0)) (C := RX7) (T := TX7) (N := 2) hx hb htg inX7 hown hK hP 0 rfl rfl 1 (by decide) (htg _ gw147) (fun _ h9 => h9) rfl dX7_readInto_152 ?_
          refine lv_iload_n hx hb dX7_readInto_155 rfl (lv_at hl 1 rfl) ?_
          refine lv_isub hx hb dX7_readInto_156 ?_
          obtain ⟨v157, e157, h⟩ := bnd h
          refine cS (av := [.int ((t_length t0) - l2_32)]) (rest := []) (st1 := [.int v157]) (k1 := 0) (k2 := 0) hx hb hml hown htg hN hK (c_X7_isWhole l dC dI cy   ((t_length t0) - l2_32) v157 e157) (g_S gw231 gw232 gw62 gw233) hdS_X7_isWhole rfl ⟨⟨Nat.le_of_ble_eq_true rfl, Nat.le_of_ble_eq_true rfl⟩, Nat.le_of_ble_eq_true rfl, Nat.le_of_ble_eq_true rfl⟩ hP hD hS hA [] [0, 1, 2, 3, 4, 5, 6] rfl rfl rfl (by decide) (by decide) hl.1 rfl (Nat.le_of_ble_eq_true rfl) rfl rfl rfl dX7_readInto_157 (fun H locs hP hD hS => ?_)
          obtain ⟨hP, hD⟩ := x_perm (ws' := wText a0 cy t0 ++ wFig a1 cy f1_32) hP hD [0, 1, 2, 3, 4, 5, 6] (by decide) rfl rfl
          refine lv_if_ne (tgt := 168) hx hb dX7_readInto_160 (by decide) (fun c160 => ?_) (fun c160 => ?_)
          · replace h := if_f h c160
            refine lv_aload_n hx hb dX7_readInto_168 rfl (lv_at hl 3 rfl) ?_
            obtain ⟨v169, e169, h⟩ := bnd h
            refine cS (av := [.ref (a1 0)]) (rest := []) (st1 := [.int v169]) (k1 := 0) (k2 := 0) hx hb hml hown htg hN hK (c_X4_firstBroken l dC dI cy a1 f1_32  v169 e169) (g_S gw234 gw235 gw69 gw236) hdS_X4_firstBroken rfl ⟨⟨Nat.le_of_ble_eq_true rfl, Nat.le_of_ble_eq_true rfl⟩, Nat.le_of_ble_eq_true rfl, Nat.le_of_ble_eq_true rfl⟩ hP hD hS hA [2, 3, 4, 5, 6] [0, 1] rfl rfl rfl (by decide) (by decide) hl.1 rfl (Nat.le_of_ble_eq_true rfl) rfl rfl rfl dX7_readInto_169 (fun H locs hP hD hS => ?_)
            obtain ⟨hP, hD⟩ := x_perm (ws' := wText a0 cy t0 ++ wFig a1 cy f1_32) hP hD [0, 1, 2, 3, 4, 5, 6] (by decide) rfl rfl
            refine lv_if_eq (tgt := 179) hx hb dX7_readInto_172 (by decide) (fun c172 => ?_) (fun c172 => ?_)
            · replace h := if_t h c172
              refine lv_bipush (v := (-9)) hx hb dX7_readInto_179 (by decide) ?_
              obtain rfl := Option.some.inj h
              exact hE H locs 181 ls _ hP hD hS rfl dX7_readInto_181
            replace h := if_f h c172
            refine lv_iload_n hx hb dX7_readInto_175 rfl (lv_at hl 1 rfl) ?_
            refine lv_goto (tgt := 181) hx hb dX7_readInto_176 (by decide) ?_
            obtain rfl := Option.some.inj h
            exact hE H locs 181 ls _ hP hD hS rfl dX7_readInto_181
          replace h := if_t h c160
          refine lv_aload_n hx hb dX7_readInto_163 rfl (lv_at hl 2 rfl) ?_
          refine va_get (D := (dC, dI)) (ci := 2) (v := .int (t_length t0)) (C := RX7) (T := TX7) (N := 2) hx hb htg inX7 hown hK hP 0 rfl rfl 1 (by decide) (htg _ gw147) (fun _ h9 => h9) rfl dX7_readInto_164 ?_
          obtain rfl := Option.some.inj h
          exact hE H locs 167 ls _ hP hD hS rfl dX7_readInto_167
        replace h := if_f h c37
        refine lv_iload_n hx hb dX7_readInto_40 rfl (lv_at hl 0 rfl) ?_
        refine lv_iload_n hx hb dX7_readInto_41 rfl (lv_at hl 1 rfl) ?_
        refine lv_isub hx hb dX7_readInto_42 ?_
        refine lv_istore (lv' := [(4, .int (l3_32 - l2_32)), (3, .int l3_32), (2, .int l2_32), (0, .ref (a0 0)), (1, .ref (a1 0))]) hx hb dX7_readInto_43 hl (by decide) rfl (fun ls hl => ?_)
        refine lv_aload_n hx hb dX7_readInto_45 rfl (lv_at hl 3 rfl) ?_
        refine va_get (D := (dC, dI)) (ci := 2) (v := .ref (a0 1)) (C := RX7) (T := TX7) (N := 2) hx hb htg inX7 hown hK hP 0 rfl rfl 0 (by decide) (htg _ gw146) (fun _ h9 => h9) rfl dX7_readInto_46 ?_
        refine lv_iload_n hx hb dX7_readInto_49 rfl (lv_at hl 1 rfl) ?_
        obtain ⟨v50, e50, h⟩ := bnd h
        refine x_cald (v := v50) hx hb hK hP 1 2 rfl rfl e50 dX7_readInto_50 ?_
        refine lv_bipush (v := 47) hx hb dX7_readInto_51 (by decide) ?_
        have hj145 : ∀ (f1_145 : Fig) (l3_145 : Int32) (l2_145 : Int32) (H : Heap) (locs : List Loc) (ls : Array Slot), G_X7_readInto_j145 (G_X7_readInto_L32 t0 n32) t0 f1_145 l3_145 l2_145 = some res → va_P (dC, dI) vwCl (wText a0 cy t0 ++ wFig a1 cy f1_145) H → va_D A (wText a0 cy t0 ++ wFig a1 cy f1_145) → va_S A s.heap H locs → lv_has ls 5 [(3, .int l3_145), (2, .int l2_145), (0, .ref (a0 0)), (1, .ref (a1 0))] → W p l e rm_X7_readInto s mm args below meth cd H locs 0 0 Q (F0 mm 145 ls []) := by
          intro f1_145 l3_145 l2_145 H locs ls h hP hD hS hl
          unfold G_X7_readInto_j145 at h
          refine lv_iinc (v := l3_145 + 1) (lv' := [(3, .int (l3_145 + 1)), (2, .int l2_145), (0, .ref (a0 0)), (1, .ref (a1 0))]) hx hb dX7_readInto_145 hl (k := 0) rfl rfl (by decide) rfl (fun ls hl => ?_)
          refine lv_goto (tgt := 32) hx hb dX7_readInto_148 (by decide) ?_
          exact ih32 f1_145 (l3_145 + 1) l2_145 H locs ls h hP hD hS (lv_sub hl [0, 1, 2, 3] rfl)
        have hj92 : ∀ (f1_92 : Fig) (l4_92 : Int32) (l3_92 : Int32) (l2_92 : Int32) (H : Heap) (locs : List Loc) (ls : Array Slot), G_X7_readInto_j92 (G_X7_readInto_L32 t0 n32) t0 f1_92 l4_92 l3_92 l2_92 = some res → va_P (dC, dI) vwCl (wText a0 cy t0 ++ wFig a1 cy f1_92) H → va_D A (wText a0 cy t0 ++ wFig a1 cy f1_92) → va_S A s.heap H locs → lv_has ls 5 [(4, .int l4_92), (3, .int l3_92), (2, .int l2_92), (0, .ref (a0 0)), (1, .ref (a1 0))] → W p l e rm_X7_readInto s mm args below meth cd H locs 0 0 Q (F0 mm 92 ls []) := by
          intro f1_92 l4_92 l3_92 l2_92 H locs ls h hP hD hS hl
          unfold G_X7_readInto_j92 at h
          refine lv_aload_n hx hb dX7_readInto_92 rfl (lv_at hl 3 rfl) ?_
          refine va_get (D := (dC, dI)) (ci := 2) (v := .ref (a0 1)) (C := RX7) (T := TX7) (N := 2) hx hb htg inX7 hown hK hP 0 rfl rfl 0 (by decide) (htg _ gw146) (fun _ h9 => h9) rfl dX7_readInto_93 ?_
          refine lv_iload_n hx hb dX7_readInto_96 rfl (lv_at hl 1 rfl) ?_
          obtain ⟨v97, e97, h⟩ := bnd h
          refine x_cald (v := v97) hx hb hK hP 1 2 rfl rfl e97 dX7_readInto_97 ?_
          obtain ⟨v98, e98, h⟩ := bnd h
          refine cS (av := [.int v97]) (rest := []) (st1 := [.int v98]) (k1 := 0) (k2 := 0) hx hb hml hown htg hN hK (c_X7_isLetter l dC dI cy   v97 v98 e98) (g_S gw305 gw306 gw62 gw307) hdS_X7_isLetter rfl ⟨⟨Nat.le_of_ble_eq_true rfl, Nat.le_of_ble_eq_true rfl⟩, Nat.le_of_ble_eq_true rfl, Nat.le_of_ble_eq_true rfl⟩ hP hD hS hA [] [0, 1, 2, 3, 4, 5, 6] rfl rfl rfl (by decide) (by decide) hl.1 rfl (Nat.le_of_ble_eq_true rfl) rfl rfl rfl dX7_readInto_98 (fun H locs hP hD hS => ?_)
          obtain ⟨hP, hD⟩ := x_perm (ws' := wText a0 cy t0 ++ wFig a1 cy f1_92) hP hD [0, 1, 2, 3, 4, 5, 6] (by decide) rfl rfl
          refine lv_if_eq (tgt := 111) hx hb dX7_readInto_101 (by decide) (fun c101 => ?_) (fun c101 => ?_)
          · replace h := if_t h c101
            refine lv_iload_n hx hb dX7_readInto_111 rfl (lv_at hl 1 rfl) ?_
            obtain rfl := Option.some.inj h
            exact hE H locs 112 ls _ hP hD hS rfl dX7_readInto_112
          replace h := if_f h c101
          refine lv_iload hx hb dX7_readInto_104 (lv_at hl 0 rfl) ?_
          refine lv_bipush (v := 20) hx hb dX7_readInto_106 (by decide) ?_
          refine lv_icmp_lt (tgt := 113) hx hb dX7_readInto_108 (by decide) (fun c108 => ?_) (fun c108 => ?_)
          · replace h := if_t h c108
            refine lv_iload hx hb dX7_readInto_113 (lv_at hl 0 rfl) ?_
            refine lv_iconst (v := 2) hx hb dX7_readInto_115 (by decide) ?_
            refine lv_irem hx hb dX7_readInto_116 (by decide) ?_
            refine lv_iconst (v := 1) hx hb dX7_readInto_117 (by decide) ?_
            refine lv_icmp_ne (tgt := 145) hx hb dX7_readInto_118 (by decide) (fun c118 => ?_) (fun c118 => ?_)
            · replace h := if_f h c118
              exact hj145 f1_92 l3_92 l2_92 H locs ls h hP hD hS (lv_sub hl [1, 2, 3, 4] rfl)
            replace h := if_t h c118
            refine lv_aload_n hx hb dX7_readInto_121 rfl (lv_at hl 4 rfl) ?_
            refine lv_aload_n hx hb dX7_readInto_122 rfl (lv_at hl 3 rfl) ?_
            refine va_get (D := (dC, dI)) (ci := 2) (v := .ref (a0 1)) (C := RX7) (T := TX7) (N := 2) hx hb htg inX7 hown hK hP 0 rfl rfl 0 (by decide) (htg _ gw146) (fun _ h9 => h9) rfl dX7_readInto_123 ?_
            refine lv_iload_n hx hb dX7_readInto_126 rfl (lv_at hl 1 rfl) ?_
            refine lv_iconst (v := 1) hx hb dX7_readInto_127 (by decide) ?_
            refine lv_isub hx hb dX7_readInto_128 ?_
            obtain ⟨v129, e129, h⟩ := bnd h
            refine x_cald (v := v129) hx hb hK hP 1 2 rfl rfl e129 dX7_readInto_129 ?_
            refine lv_bipush (v := 97) hx hb dX7_readInto_130 (by decide) ?_
            refine lv_isub hx hb dX7_readInto_132 ?_
            refine lv_aload_n hx hb dX7_readInto_133 rfl (lv_at hl 3 rfl) ?_
            refine va_get (D := (dC, dI)) (ci := 2) (v := .ref (a0 1)) (C := RX7) (T := TX7) (N := 2) hx hb htg inX7 hown hK hP 0 rfl rfl 0 (by decide) (htg _ gw146) (fun _ h9 => h9) rfl dX7_readInto_134 ?_
            refine lv_iload_n hx hb dX7_readInto_137 rfl (lv_at hl 1 rfl) ?_
            obtain ⟨v138, e138, h⟩ := bnd h
            refine x_cald (v := v138) hx hb hK hP 1 2 rfl rfl e138 dX7_readInto_138 ?_
            refine lv_bipush (v := 97) hx hb dX7_readInto_139 (by decide) ?_
            refine lv_isub hx hb dX7_readInto_141 ?_
            obtain ⟨v142, e142, h⟩ := bnd h
            refine cV (av := [.int (v129 - 97), .int (v138 - 97)]) (rest := []) (st1 := []) (k1 := 0) (k2 := 0) (ci := 0) (q0 := 0) hx hb hml hown htg hN hK (c_X1_addCorner l dC dI cy a1 f1_92 (v129 - 97) (v138 - 97) v142 e142) (g_V gw308 gw161 gw162 gw60 gw163) hdV_X1_addCorner rfl ⟨⟨Nat.le_of_ble_eq_true rfl, Nat.le_of_ble_eq_true rfl⟩, Nat.le_of_ble_eq_true rfl, Nat.le_of_ble_eq_true rfl⟩ hP hD hS hA ⟨rfl, rfl⟩ rfl [2, 3, 4, 5, 6] [0, 1] rfl rfl rfl (by decide) (by decide) hl.1 rfl (Nat.le_of_ble_eq_true rfl) rfl rfl rfl dX7_readInto_142 (fun H locs hP hD hS => ?_)
            obtain ⟨hP, hD⟩ := x_perm (ws' := wText a0 cy t0 ++ wFig a1 cy v142) hP hD [0, 1, 2, 3, 4, 5, 6] (by decide) rfl rfl
            exact hj145 v142 l3_92 l2_92 H locs ls h hP hD hS (lv_sub hl [1, 2, 3, 4] rfl)
          replace h := if_f h c108
          refine lv_iload_n hx hb dX7_readInto_111 rfl (lv_at hl 1 rfl) ?_
          obtain rfl := Option.some.inj h
          exact hE H locs 112 ls _ hP hD hS rfl dX7_readInto_112
        refine lv_icmp_ne (tgt := 92) hx hb dX7_readInto_53 (by decide) (fun c53 => ?_) (fun c53 => ?_)
        · replace h := if_f h c53
          exact hj92 f1_32 (l3_32 - l2_32) l3_32 l2_32 H locs ls h hP hD hS (lv_sub hl [0, 1, 2, 3, 4] rfl)
        replace h := if_t h c53
        refine lv_iload hx hb dX7_readInto_56 (lv_at hl 0 rfl) ?_
        obtain ⟨v58, e58, h⟩ := bnd h
        refine cS (av := [.int (l3_32 - l2_32)]) (rest := []) (st1 := [.int v58]) (k1 := 0) (k2 := 0) hx hb hml hown htg hN hK (c_X7_isWhole l dC dI cy   (l3_32 - l2_32) v58 e58) (g_S gw231 gw232 gw62 gw233) hdS_X7_isWhole rfl ⟨⟨Nat.le_of_ble_eq_true rfl, Nat.le_of_ble_eq_true rfl⟩, Nat.le_of_ble_eq_true rfl, Nat.le_of_ble_eq_true rfl⟩ hP hD hS hA [] [0, 1, 2, 3, 4, 5, 6] rfl rfl rfl (by decide) (by decide) hl.1 rfl (Nat.le_of_ble_eq_true rfl) rfl rfl rfl dX7_readInto_58 (fun H locs hP hD hS => ?_)
        obtain ⟨hP, hD⟩ := x_perm (ws' := wText a0 cy t0 ++ wFig a1 cy f1_32) hP hD [0, 1, 2, 3, 4, 5, 6] (by decide) rfl rfl
        refine lv_if_eq (tgt := 92) hx hb dX7_readInto_61 (by decide) (fun c61 => ?_) (fun c61 => ?_)
        · replace h := if_t h c61
          exact hj92 f1_32 (l3_32 - l2_32) l3_32 l2_32 H locs ls h hP hD hS (lv_sub hl [0, 1, 2, 3, 4] rfl)
        replace h := if_f h c61
        refine lv_aload_n hx hb dX7_readInto_64 rfl (lv_at hl 4 rfl) ?_
        refine va_getN (D := (dC, dI)) (ci := 0) (v := .int (f_rings f1_32)) (C := RX1) (T := TX1) (N := 6) hx hb htg inX1 hown hK hP 2 rfl rfl 0 (by decide) (va_Nw.use rfl (hN (.fieldLinkNest RX7 31 "SquaredPaper$Figure" "rings" "I" "SquaredPaper") (by decide +kernel))) (fun _ h9 => h9) rfl dX7_readInto_65 ?_
        refine lv_iconst (v := 4) hx hb dX7_readInto_68 (by decide) ?_
        refine lv_icmp_ge (tgt := 92) hx hb dX7_readInto_69 (by decide) (fun c69 => ?_) (fun c69 => ?_)
        · replace h := if_t h c69
          exact hj92 f1_32 (l3_32 - l2_32) l3_32 l2_32 H locs ls h hP hD hS (lv_sub hl [0, 1, 2, 3, 4] rfl)
        replace h := if_f h c69
        refine lv_aload_n hx hb dX7_readInto_72 rfl (lv_at hl 4 rfl) ?_
        obtain ⟨v73, e73, h⟩ := bnd h
        refine cS (av := [.ref (a1 0)]) (rest := []) (st1 := [.int v73]) (k1 := 0) (k2 := 0) hx hb hml hown htg hN hK (c_X4_firstBroken l dC dI cy a1 f1_32  v73 e73) (g_S gw234 gw235 gw69 gw236) hdS_X4_firstBroken rfl ⟨⟨Nat.le_of_ble_eq_true rfl, Nat.le_of_ble_eq_true rfl⟩, Nat.le_of_ble_eq_true rfl, Nat.le_of_ble_eq_true rfl⟩ hP hD hS hA [2, 3, 4, 5, 6] [0, 1] rfl rfl rfl (by decide) (by decide) hl.1 rfl (Nat.le_of_ble_eq_true rfl) rfl rfl rfl dX7_readInto_73 (fun H locs hP hD hS => ?_)
        obtain ⟨hP, hD⟩ := x_perm (ws' := wText a0 cy t0 ++ wFig a1 cy f1_32) hP hD [0, 1, 2, 3, 4, 5, 6] (by decide) rfl rfl
        refine lv_if_eq (tgt := 81) hx hb dX7_readInto_76 (by decide) (fun c76 => ?_) (fun c76 => ?_)
        · replace h := if_t h c76
          refine lv_aload_n hx hb dX7_readInto_81 rfl (lv_at hl 4 rfl) ?_
          obtain ⟨v82, e82, h⟩ := bnd h
          refine cV (av := []) (rest := []) (st1 := []) (k1 := 0) (k2 := 0) (ci := 0) (q0 := 0) hx hb hml hown htg hN hK (c_X1_openRing l dC dI cy a1 f1_32  v82 e82) (g_V gw230 gw157 gw158 gw60 gw159) hdV_X1_openRing rfl ⟨⟨Nat.le_of_ble_eq_true rfl, Nat.le_of_ble_eq_true rfl⟩, Nat.le_of_ble_eq_true rfl, Nat.le_of_ble_eq_true rfl⟩ hP hD hS hA ⟨rfl, rfl⟩ rfl [2, 3, 4, 5, 6] [0, 1] rfl rfl rfl (by decide) (by decide) hl.1 rfl (Nat.le_of_ble_eq_true rfl) rfl rfl rfl dX7_readInto_82 (fun H locs hP hD hS => ?_)
          obtain ⟨hP, hD⟩ := x_perm (ws' := wText a0 cy t0 ++ wFig a1 cy v82) hP hD [0, 1, 2, 3, 4, 5, 6] (by decide) rfl rfl
          refine lv_iload_n hx hb dX7_readInto_85 rfl (lv_at hl 1 rfl) ?_
          refine lv_iconst (v := 1) hx hb dX7_readInto_86 (by decide) ?_
          refine lv_iadd hx hb dX7_readInto_87 ?_
          refine lv_istore_n (lv' := [(2, .int (l3_32 + 1)), (4, .int (l3_32 - l2_32)), (3, .int l3_32), (0, .ref (a0 0)), (1, .ref (a1 0))]) hx hb dX7_readInto_88 rfl hl (by decide) rfl (fun ls hl => ?_)
          refine lv_goto (tgt := 145) hx hb dX7_readInto_89 (by decide) ?_
          exact hj145 v82 l3_32 (l3_32 + 1) H locs ls h hP hD hS (lv_sub hl [2, 0, 3, 4] rfl)
        replace h := if_f h c76
        refine lv_iload_n hx hb dX7_readInto_79 rfl (lv_at hl 2 rfl) ?_
        obtain rfl := Option.some.inj h
        exact hE H locs 80 ls _ hP hD hS rfl dX7_readInto_80
    exact hL32 FU v25 1 1 H locs ls h hP hD hS (lv_sub hl [0, 1, 2, 3] rfl)
  replace h := if_f h c19
  refine lv_iconst (v := 0) hx hb dX7_readInto_22 (by decide) ?_
  obtain rfl := Option.some.inj h
  exact hE H locs 23 ls _ hP hD hS rfl dX7_readInto_23
