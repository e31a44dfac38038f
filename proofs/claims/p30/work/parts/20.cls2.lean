def G_X1_copyFrom (f0 : Fig) (f1 : Fig) : Option (Fig) :=
  (some (fs_rings f0 (f_rings f1))).bind fun z0_13 =>
  (some (fs_corners z0_13 (f_corners f1))).bind fun z0_27 =>
  (some (fs_sizes z0_27 (va_cpy (f_sizes f1) (f_sizes z0_27) 0 0 4))).bind fun z0_42 =>
  (some (fs_xs z0_42 (va_cpy (f_xs f1) (f_xs z0_42) 0 0 40))).bind fun z0_57 =>
  (some (fs_ys z0_57 (va_cpy (f_ys f1) (f_ys z0_57) 0 0 40))).bind fun z0_72 =>
  some (fs_next z0_72 (va_cpy (f_next f1) (f_next z0_72) 0 0 40))
abbrev rm_X1_copyFrom : Room := { frames := 1, cells := 0, slots := 0, locals := 40 }
theorem hdS_X1_copyFrom : yX1_copyFrom.cls ≠ "java/lang/invoke/MethodHandle" ∧ yX1_copyFrom.cls ≠ "java/lang/invoke/VarHandle" ∧ (parseMethodDescriptor yX1_copyFrom.desc).map (fun d => d.parameters.length) = some 1 := by decide +kernel
theorem hdV_X1_copyFrom : yX1_copyFrom.cls = RX1 ∧ yX1_copyFrom.cls ≠ "java/lang/invoke/MethodHandle" ∧ yX1_copyFrom.cls ≠ "java/lang/invoke/VarHandle" ∧ (parseMethodDescriptor yX1_copyFrom.desc).map (fun d => d.parameters.length) = some 1 := ⟨rfl, hdS_X1_copyFrom⟩
set_option maxHeartbeats 4000000 in
set_option maxRecDepth 100000 in
theorem c_X1_copyFrom (l : Launch) (dC : Nat → ClassId) (dI : Nat → Nat → Nat) (cy : Nat → ClassId) (a0 : Nat → Nat) (a1 : Nat → Nat) (f0 : Fig) (f1 : Fig) (res : Fig) (h : G_X1_copyFrom f0 f1 = some res) : CT l (dC, dI) (TY cy) yX1_copyFrom cX1_copyFrom 2 none rm_X1_copyFrom [.ref (a0 0), .ref (a1 0)] (wFig a0 cy f0 ++ wFig a1 cy f1) (wFig a0 cy res ++ wFig a1 cy f1) none := by
  refine CT.mk_v (own := RX1) ⟨by decide, rfl⟩ (Nat.le_of_ble_eq_true rfl) ?_
  intro p e s mm args below meth cd A Q hx hb hml hown htg hN hK hA hP hD hS hE ls hl
  have hl : lv_has ls 2 [(0, .ref (a0 0)), (1, .ref (a1 0))] := hl
  replace h : _ = some res := h
  unfold G_X1_copyFrom at h
  obtain ⟨H, hH⟩ : ∃ H, H = s.heap := ⟨_, rfl⟩
  obtain ⟨locs, hlocs⟩ : ∃ locs : List Loc, locs = [] := ⟨_, rfl⟩
  rw [← hlocs] at hS ⊢
  have hS : va_S A s.heap H locs := by rw [hH]; exact hS
  rw [← hH] at hP ⊢
  refine lv_aload_n hx hb dX1_copyFrom_0 rfl (lv_at hl 0 rfl) ?_
  refine lv_aload_n hx hb dX1_copyFrom_1 rfl (lv_at hl 1 rfl) ?_
  refine va_get (D := (dC, dI)) (ci := 0) (v := .int (f_rings f1)) (C := RX1) (T := TX1) (N := 6) hx hb htg inX1 hown hK hP 5 rfl rfl 0 (by decide) (htg _ gw37) (fun _ h9 => h9) rfl dX1_copyFrom_2 ?_
  refine va_put (D := (dC, dI)) (ci := 0) (v := .int (f_rings f1)) (ty := .int) (C := RX1) (T := TX1) (N := 6) hx hb htg inX1 tyX1 tyX1_ok nmX1 hown hK hP hD hS 0 rfl rfl 0 (by decide) (htg _ gw37) (fun _ h9 => h9) rfl (by decide +kernel) rfl rfl (Nat.le_of_ble_eq_true rfl) dX1_copyFrom_5 (fun H locs hP hD hS => ?_)
  have hP : va_P (dC, dI) vwCl (wFig a0 cy (fs_rings f0 (f_rings f1)) ++ wFig a1 cy f1) H := hP
  have hD : va_D A (wFig a0 cy (fs_rings f0 (f_rings f1)) ++ wFig a1 cy f1) := hD
  refine lv_aload_n hx hb dX1_copyFrom_8 rfl (lv_at hl 0 rfl) ?_
  refine lv_aload_n hx hb dX1_copyFrom_9 rfl (lv_at hl 1 rfl) ?_
  refine va_get (D := (dC, dI)) (ci := 0) (v := .int (f_corners f1)) (C := RX1) (T := TX1) (N := 6) hx hb htg inX1 hown hK hP 5 rfl rfl 1 (by decide) (htg _ gw42) (fun _ h9 => h9) rfl dX1_copyFrom_10 ?_
  obtain ⟨z0_13, ez0_13, h⟩ := bnd h
  replace ez0_13 := Option.some.inj ez0_13
  rw [ez0_13] at hP hD
  refine va_put (D := (dC, dI)) (ci := 0) (v := .int (f_corners f1)) (ty := .int) (C := RX1) (T := TX1) (N := 6) hx hb htg inX1 tyX1 tyX1_ok nmX1 hown hK hP hD hS 0 rfl rfl 1 (by decide) (htg _ gw42) (fun _ h9 => h9) rfl (by decide +kernel) rfl rfl (Nat.le_of_ble_eq_true rfl) dX1_copyFrom_13 (fun H locs hP hD hS => ?_)
  have hP : va_P (dC, dI) vwCl (wFig a0 cy (fs_corners z0_13 (f_corners f1)) ++ wFig a1 cy f1) H := hP
  have hD : va_D A (wFig a0 cy (fs_corners z0_13 (f_corners f1)) ++ wFig a1 cy f1) := hD
  refine lv_aload_n hx hb dX1_copyFrom_16 rfl (lv_at hl 1 rfl) ?_
  refine va_get (D := (dC, dI)) (ci := 0) (v := .ref (a1 1)) (C := RX1) (T := TX1) (N := 6) hx hb htg inX1 hown hK hP 5 rfl rfl 2 (by decide) (htg _ gw46) (fun _ h9 => h9) rfl dX1_copyFrom_17 ?_
  refine lv_iconst (v := 0) hx hb dX1_copyFrom_20 (by decide) ?_
  refine lv_aload_n hx hb dX1_copyFrom_21 rfl (lv_at hl 0 rfl) ?_
  refine va_get (D := (dC, dI)) (ci := 0) (v := .ref (a0 1)) (C := RX1) (T := TX1) (N := 6) hx hb htg inX1 hown hK hP 0 rfl rfl 2 (by decide) (htg _ gw46) (fun _ h9 => h9) rfl dX1_copyFrom_22 ?_
  refine lv_iconst (v := 0) hx hb dX1_copyFrom_25 (by decide) ?_
  refine lv_iconst (v := 4) hx hb dX1_copyFrom_26 (by decide) ?_
  obtain ⟨z0_27, ez0_27, h⟩ := bnd h
  replace ez0_27 := Option.some.inj ez0_27
  rw [ez0_27] at hP hD
  refine va_copyi (n := 4) hx hb (hml.trans hl.1.symm) hown (htg _ gw239) (htg _ gw241) (htg _ gw240) (htg _ gw15) hK hP hD hS 6 1 0 0 rfl rfl rfl rfl rfl (by decide) (by decide) (by decide) (by decide) (by decide) (fun _ _ => rfl) (Nat.le_of_ble_eq_true rfl) (by decide) dX1_copyFrom_27 (fun H locs hP hD hS => ?_)
  have hP : va_P (dC, dI) vwCl (wFig a0 cy (fs_sizes z0_27 (va_cpy (f_sizes f1) (f_sizes z0_27) 0 0 4)) ++ wFig a1 cy f1) H := hP
  have hD : va_D A (wFig a0 cy (fs_sizes z0_27 (va_cpy (f_sizes f1) (f_sizes z0_27) 0 0 4)) ++ wFig a1 cy f1) := hD
  refine lv_aload_n hx hb dX1_copyFrom_30 rfl (lv_at hl 1 rfl) ?_
  refine va_get (D := (dC, dI)) (ci := 0) (v := .ref (a1 2)) (C := RX1) (T := TX1) (N := 6) hx hb htg inX1 hown hK hP 5 rfl rfl 3 (by decide) (htg _ gw47) (fun _ h9 => h9) rfl dX1_copyFrom_31 ?_
  refine lv_iconst (v := 0) hx hb dX1_copyFrom_34 (by decide) ?_
  refine lv_aload_n hx hb dX1_copyFrom_35 rfl (lv_at hl 0 rfl) ?_
  refine va_get (D := (dC, dI)) (ci := 0) (v := .ref (a0 2)) (C := RX1) (T := TX1) (N := 6) hx hb htg inX1 hown hK hP 0 rfl rfl 3 (by decide) (htg _ gw47) (fun _ h9 => h9) rfl dX1_copyFrom_36 ?_
  refine lv_iconst (v := 0) hx hb dX1_copyFrom_39 (by decide) ?_
  refine lv_bipush (v := 40) hx hb dX1_copyFrom_40 (by decide) ?_
  obtain ⟨z0_42, ez0_42, h⟩ := bnd h
  replace ez0_42 := Option.some.inj ez0_42
  rw [ez0_42] at hP hD
  refine va_copyi (n := 40) hx hb (hml.trans hl.1.symm) hown (htg _ gw239) (htg _ gw241) (htg _ gw240) (htg _ gw15) hK hP hD hS 7 2 0 0 rfl rfl rfl rfl rfl (by decide) (by decide) (by decide) (by decide) (by decide) (fun _ _ => rfl) (Nat.le_of_ble_eq_true rfl) (by decide) dX1_copyFrom_42 (fun H locs hP hD hS => ?_)
  have hP : va_P (dC, dI) vwCl (wFig a0 cy (fs_xs z0_42 (va_cpy (f_xs f1) (f_xs z0_42) 0 0 40)) ++ wFig a1 cy f1) H := hP
  have hD : va_D A (wFig a0 cy (fs_xs z0_42 (va_cpy (f_xs f1) (f_xs z0_42) 0 0 40)) ++ wFig a1 cy f1) := hD
  refine lv_aload_n hx hb dX1_copyFrom_45 rfl (lv_at hl 1 rfl) ?_
  refine va_get (D := (dC, dI)) (ci := 0) (v := .ref (a1 3)) (C := RX1) (T := TX1) (N := 6) hx hb htg inX1 hown hK hP 5 rfl rfl 4 (by decide) (htg _ gw48) (fun _ h9 => h9) rfl dX1_copyFrom_46 ?_
  refine lv_iconst (v := 0) hx hb dX1_copyFrom_49 (by decide) ?_
  refine lv_aload_n hx hb dX1_copyFrom_50 rfl (lv_at hl 0 rfl) ?_
  refine va_get (D := (dC, dI)) (ci := 0) (v := .ref (a0 3)) (C := RX1) (T := TX1) (N := 6) hx hb htg inX1 hown hK hP 0 rfl rfl 4 (by decide) (htg _ gw48) (fun _ h9 => h9) rfl dX1_copyFrom_51 ?_
  refine lv_iconst (v := 0) hx hb dX1_copyFrom_54 (by decide) ?_
  refine lv_bipush (v := 40) hx hb dX1_copyFrom_55 (by decide) ?_
  obtain ⟨z0_57, ez0_57, h⟩ := bnd h
  replace ez0_57 := Option.some.inj ez0_57
  rw [ez0_57] at hP hD
  refine va_copyi (n := 40) hx hb (hml.trans hl.1.symm) hown (htg _ gw239) (htg _ gw241) (htg _ gw240) (htg _ gw15) hK hP hD hS 8 3 0 0 rfl rfl rfl rfl rfl (by decide) (by decide) (by decide) (by decide) (by decide) (fun _ _ => rfl) (Nat.le_of_ble_eq_true rfl) (by decide) dX1_copyFrom_57 (fun H locs hP hD hS => ?_)
  have hP : va_P (dC, dI) vwCl (wFig a0 cy (fs_ys z0_57 (va_cpy (f_ys f1) (f_ys z0_57) 0 0 40)) ++ wFig a1 cy f1) H := hP
  have hD : va_D A (wFig a0 cy (fs_ys z0_57 (va_cpy (f_ys f1) (f_ys z0_57) 0 0 40)) ++ wFig a1 cy f1) := hD
  refine lv_aload_n hx hb dX1_copyFrom_60 rfl (lv_at hl 1 rfl) ?_
  refine va_get (D := (dC, dI)) (ci := 0) (v := .ref (a1 4)) (C := RX1) (T := TX1) (N := 6) hx hb htg inX1 hown hK hP 5 rfl rfl 5 (by decide) (htg _ gw49) (fun _ h9 => h9) rfl dX1_copyFrom_61 ?_
  refine lv_iconst (v := 0) hx hb dX1_copyFrom_64 (by decide) ?_
  refine lv_aload_n hx hb dX1_copyFrom_65 rfl (lv_at hl 0 rfl) ?_
  refine va_get (D := (dC, dI)) (ci := 0) (v := .ref (a0 4)) (C := RX1) (T := TX1) (N := 6) hx hb htg inX1 hown hK hP 0 rfl rfl 5 (by decide) (htg _ gw49) (fun _ h9 => h9) rfl dX1_copyFrom_66 ?_
  refine lv_iconst (v := 0) hx hb dX1_copyFrom_69 (by decide) ?_
  refine lv_bipush (v := 40) hx hb dX1_copyFrom_70 (by decide) ?_
  obtain ⟨z0_72, ez0_72, h⟩ := bnd h
  replace ez0_72 := Option.some.inj ez0_72
  rw [ez0_72] at hP hD
  refine va_copyi (n := 40) hx hb (hml.trans hl.1.symm) hown (htg _ gw239) (htg _ gw241) (htg _ gw240) (htg _ gw15) hK hP hD hS 9 4 0 0 rfl rfl rfl rfl rfl (by decide) (by decide) (by decide) (by decide) (by decide) (fun _ _ => rfl) (Nat.le_of_ble_eq_true rfl) (by decide) dX1_copyFrom_72 (fun H locs hP hD hS => ?_)
  have hP : va_P (dC, dI) vwCl (wFig a0 cy (fs_next z0_72 (va_cpy (f_next f1) (f_next z0_72) 0 0 40)) ++ wFig a1 cy f1) H := hP
  have hD : va_D A (wFig a0 cy (fs_next z0_72 (va_cpy (f_next f1) (f_next z0_72) 0 0 40)) ++ wFig a1 cy f1) := hD
  obtain rfl := Option.some.inj h
  exact hE H locs 75 ls hP hD hS dX1_copyFrom_75
def G_X1_inSomeHole_L2  (f0 : Fig) : Nat → Int32 → Int32 → Int32 → Option (Int32)
  | 0, _, _, _ => none
  | n2 + 1, l3_2, l1_2, l2_2 =>
    if f_rings f0 ≤ l3_2 then
      some 0
    else
      (G_X1_surrounds f0 l3_2 l1_2 l2_2).bind fun v14 =>
      if v14 = 0 then
        (G_X1_inSomeHole_L2 f0 n2) (l3_2 + 1) l1_2 l2_2
      else
        some 1
def G_X1_inSomeHole (f0 : Fig) (p1 : Int32) (p2 : Int32) : Option (Int32) :=
  G_X1_inSomeHole_L2 f0 FU 1 p1 p2
abbrev rm_X1_inSomeHole : Room := { frames := 2, cells := 0, slots := 0, locals := 54 }
theorem hdS_X1_inSomeHole : yX1_inSomeHole.cls ≠ "java/lang/invoke/MethodHandle" ∧ yX1_inSomeHole.cls ≠ "java/lang/invoke/VarHandle" ∧ (parseMethodDescriptor yX1_inSomeHole.desc).map (fun d => d.parameters.length) = some 2 := by decide +kernel
theorem hdV_X1_inSomeHole : yX1_inSomeHole.cls = RX1 ∧ yX1_inSomeHole.cls ≠ "java/lang/invoke/MethodHandle" ∧ yX1_inSomeHole.cls ≠ "java/lang/invoke/VarHandle" ∧ (parseMethodDescriptor yX1_inSomeHole.desc).map (fun d => d.parameters.length) = some 2 := ⟨rfl, hdS_X1_inSomeHole⟩
set_option maxHeartbeats 4000000 in
set_option maxRecDepth 100000 in
theorem c_X1_inSomeHole (l : Launch) (dC : Nat → ClassId) (dI : Nat → Nat → Nat) (cy : Nat → ClassId) (a0 : Nat → Nat) (f0 : Fig) (p1 : Int32) (p2 : Int32) (res : Int32) (h : G_X1_inSomeHole f0 p1 p2 = some res) : CT l (dC, dI) (TY cy) yX1_inSomeHole cX1_inSomeHole 4 (some .boolean) rm_X1_inSomeHole [.ref (a0 0), .int p1, .int p2] (wFig a0 cy f0) (wFig a0 cy f0) (some (.int res)) := by
  refine CT.mk_z (own := RX1) ⟨by decide, rfl⟩ (Nat.le_of_ble_eq_true rfl) ?_
  intro p e s mm args below meth cd A Q hx hb hml hown htg hN hK hA hP hD hS hE ls hl
  have hl : lv_has ls 4 [(0, .ref (a0 0)), (1, .int p1), (2, .int p2)] := hl
  replace h : _ = some res := h
  unfold G_X1_inSomeHole at h
  obtain ⟨H, hH⟩ : ∃ H, H = s.heap := ⟨_, rfl⟩
  obtain ⟨locs, hlocs⟩ : ∃ locs : List Loc, locs = [] := ⟨_, rfl⟩
  rw [← hlocs] at hS ⊢
  have hS : va_S A s.heap H locs := by rw [hH]; exact hS
  rw [← hH] at hP ⊢
  refine lv_iconst (v := 1) hx hb dX1_inSomeHole_0 (by decide) ?_
  refine lv_istore_n (lv' := [(3, .int 1), (0, .ref (a0 0)), (1, .int p1), (2, .int p2)]) hx hb dX1_inSomeHole_1 rfl hl (by decide) rfl (fun ls hl => ?_)
  have hL2 : ∀ (n2 : Nat) (l3_2 : Int32) (l1_2 : Int32) (l2_2 : Int32) (H : Heap) (locs : List Loc) (ls : Array Slot), G_X1_inSomeHole_L2 f0 n2 l3_2 l1_2 l2_2 = some res → va_P (dC, dI) vwCl (wFig a0 cy f0) H → va_D A (wFig a0 cy f0) → va_S A s.heap H locs → lv_has ls 4 [(3, .int l3_2), (0, .ref (a0 0)), (1, .int l1_2), (2, .int l2_2)] → W p l e rm_X1_inSomeHole s mm args below meth cd H locs 0 0 Q (F0 mm 2 ls []) := by
    intro n2
    induction n2 with
    | zero => intro l3_2 l1_2 l2_2 H locs ls h; exact absurd h (by simp [G_X1_inSomeHole_L2])
    | succ n2 ih2 =>
      intro l3_2 l1_2 l2_2 H locs ls h hP hD hS hl
      rw [G_X1_inSomeHole_L2] at h
      refine lv_iload_n hx hb dX1_inSomeHole_2 rfl (lv_at hl 0 rfl) ?_
      refine lv_aload_n hx hb dX1_inSomeHole_3 rfl (lv_at hl 1 rfl) ?_
      refine va_get (D := (dC, dI)) (ci := 0) (v := .int (f_rings f0)) (C := RX1) (T := TX1) (N := 6) hx hb htg inX1 hown hK hP 0 rfl rfl 0 (by decide) (htg _ gw37) (fun _ h9 => h9) rfl dX1_inSomeHole_4 ?_
      refine lv_icmp_ge (tgt := 28) hx hb dX1_inSomeHole_7 (by decide) (fun c7 => ?_) (fun c7 => ?_)
      · replace h := if_t h c7
        refine lv_iconst (v := 0) hx hb dX1_inSomeHole_28 (by decide) ?_
        obtain rfl := Option.some.inj h
        exact hE H locs 29 ls _ hP hD hS rfl (Or.inl rfl) dX1_inSomeHole_29
      replace h := if_f h c7
      refine lv_aload_n hx hb dX1_inSomeHole_10 rfl (lv_at hl 1 rfl) ?_
      refine lv_iload_n hx hb dX1_inSomeHole_11 rfl (lv_at hl 0 rfl) ?_
      refine lv_iload_n hx hb dX1_inSomeHole_12 rfl (lv_at hl 2 rfl) ?_
      refine lv_iload_n hx hb dX1_inSomeHole_13 rfl (lv_at hl 3 rfl) ?_
      obtain ⟨v14, e14, h⟩ := bnd h
      refine cV (av := [.int l3_2, .int l1_2, .int l2_2]) (rest := []) (st1 := [.int v14]) (k1 := 0) (k2 := 0) (ci := 0) (q0 := 0) hx hb hml hown htg hN hK (c_X1_surrounds l dC dI cy a0 f0 l3_2 l1_2 l2_2 v14 e14) (g_V gw500 gw308 gw309 gw8 gw310) hdV_X1_surrounds rfl ⟨⟨Nat.le_of_ble_eq_true rfl, Nat.le_of_ble_eq_true rfl⟩, Nat.le_of_ble_eq_true rfl, Nat.le_of_ble_eq_true rfl⟩ hP hD hS hA ⟨rfl, rfl⟩ rfl [0, 1, 2, 3, 4] [] rfl rfl rfl (by decide) (by decide) hl.1 rfl (Nat.le_of_ble_eq_true rfl) rfl rfl rfl dX1_inSomeHole_14 (fun H locs hP hD hS => ?_)
      have hP : va_P (dC, dI) vwCl (wFig a0 cy f0) H := hP
      have hD : va_D A (wFig a0 cy f0) := hD
      refine lv_if_eq (tgt := 22) hx hb dX1_inSomeHole_17 (by decide) (fun c17 => ?_) (fun c17 => ?_)
      · replace h := if_t h c17
        refine lv_iinc (v := l3_2 + 1) (lv' := [(3, .int (l3_2 + 1)), (0, .ref (a0 0)), (1, .int l1_2), (2, .int l2_2)]) hx hb dX1_inSomeHole_22 hl (k := 0) rfl rfl (by decide) rfl (fun ls hl => ?_)
        refine lv_goto (tgt := 2) hx hb dX1_inSomeHole_25 (by decide) ?_
        exact ih2 (l3_2 + 1) l1_2 l2_2 H locs ls h hP hD hS (lv_sub hl [0, 1, 2, 3] rfl)
      replace h := if_f h c17
      refine lv_iconst (v := 1) hx hb dX1_inSomeHole_20 (by decide) ?_
      obtain rfl := Option.some.inj h
      exact hE H locs 21 ls _ hP hD hS rfl (Or.inr rfl) dX1_inSomeHole_21
  exact hL2 FU 1 p1 p2 H locs ls h hP hD hS (lv_sub hl [0, 1, 2, 3] rfl)
def G_X1_placeOf_L2  (f0 : Fig) : Nat → Int32 → Int32 → Int32 → Option (Int32)
  | 0, _, _, _ => none
  | n2 + 1, l3_2, l1_2, l2_2 =>
    if f_corners f0 ≤ l3_2 then
      (G_X1_surrounds f0 0 (2 * l1_2) (2 * l2_2)).bind fun v41 =>
      if v41 = 0 then
        some 0
      else
        (G_X1_inSomeHole f0 (2 * l1_2) (2 * l2_2)).bind fun v56 =>
        if v56 = 0 then
          some 2
        else
          some 3
    else
      (G_X1_nextOf f0 l3_2).bind fun v16 =>
      (G_X1_onLine f0 l1_2 l2_2 l3_2 v16).bind fun v19 =>
      if v19 = 0 then
        (G_X1_placeOf_L2 f0 n2) (l3_2 + 1) l1_2 l2_2
      else
        some 1
def G_X1_placeOf (f0 : Fig) (p1 : Int32) (p2 : Int32) : Option (Int32) :=
  G_X1_placeOf_L2 f0 FU 0 p1 p2
abbrev rm_X1_placeOf : Room := { frames := 3, cells := 0, slots := 0, locals := 77 }
theorem hdS_X1_placeOf : yX1_placeOf.cls ≠ "java/lang/invoke/MethodHandle" ∧ yX1_placeOf.cls ≠ "java/lang/invoke/VarHandle" ∧ (parseMethodDescriptor yX1_placeOf.desc).map (fun d => d.parameters.length) = some 2 := by decide +kernel
theorem hdV_X1_placeOf : yX1_placeOf.cls = RX1 ∧ yX1_placeOf.cls ≠ "java/lang/invoke/MethodHandle" ∧ yX1_placeOf.cls ≠ "java/lang/invoke/VarHandle" ∧ (parseMethodDescriptor yX1_placeOf.desc).map (fun d => d.parameters.length) = some 2 := ⟨rfl, hdS_X1_placeOf⟩
set_option maxHeartbeats 4000000 in
set_option maxRecDepth 100000 in
theorem c_X1_placeOf (l : Launch) (dC : Nat → ClassId) (dI : Nat → Nat → Nat) (cy : Nat → ClassId) (a0 : Nat → Nat) (f0 : Fig) (p1 : Int32) (p2 : Int32) (res : Int32) (h : G_X1_placeOf f0 p1 p2 = some res) : CT l (dC, dI) (TY cy) yX1_placeOf cX1_placeOf 4 (some .int) rm_X1_placeOf [.ref (a0 0), .int p1, .int p2] (wFig a0 cy f0) (wFig a0 cy f0) (some (.int res)) := by
  refine CT.mk_i (own := RX1) ⟨by decide, rfl⟩ (Nat.le_of_ble_eq_true rfl) ?_
  intro p e s mm args below meth cd A Q hx hb hml hown htg hN hK hA hP hD hS hE ls hl
  have hl : lv_has ls 4 [(0, .ref (a0 0)), (1, .int p1), (2, .int p2)] := hl
  replace h : _ = some res := h
  unfold G_X1_placeOf at h
  obtain ⟨H, hH⟩ : ∃ H, H = s.heap := ⟨_, rfl⟩
  obtain ⟨locs, hlocs⟩ : ∃ locs : List Loc, locs = [] := ⟨_, rfl⟩
  rw [← hlocs] at hS ⊢
  have hS : va_S A s.heap H locs := by rw [hH]; exact hS
  rw [← hH] at hP ⊢
  refine lv_iconst (v := 0) hx hb dX1_placeOf_0 (by decide) ?_
  refine lv_istore_n (lv' := [(3, .int 0), (0, .ref (a0 0)), (1, .int p1), (2, .int p2)]) hx hb dX1_placeOf_1 rfl hl (by decide) rfl (fun ls hl => ?_)
  have hL2 : ∀ (n2 : Nat) (l3_2 : Int32) (l1_2 : Int32) (l2_2 : Int32) (H : Heap) (locs : List Loc) (ls : Array Slot), G_X1_placeOf_L2 f0 n2 l3_2 l1_2 l2_2 = some res → va_P (dC, dI) vwCl (wFig a0 cy f0) H → va_D A (wFig a0 cy f0) → va_S A s.heap H locs → lv_has ls 4 [(3, .int l3_2), (0, .ref (a0 0)), (1, .int l1_2), (2, .int l2_2)] → W p l e rm_X1_placeOf s mm args below meth cd H locs 0 0 Q (F0 mm 2 ls []) := by
    intro n2
    induction n2 with
    | zero => intro l3_2 l1_2 l2_2 H locs ls h; exact absurd h (by simp [G_X1_placeOf_L2])
    | succ n2 ih2 =>
      intro l3_2 l1_2 l2_2 H locs ls h hP hD hS hl
      rw [G_X1_placeOf_L2] at h
      refine lv_iload_n hx hb dX1_placeOf_2 rfl (lv_at hl 0 rfl) ?_
      refine lv_aload_n hx hb dX1_placeOf_3 rfl (lv_at hl 1 rfl) ?_
      refine va_get (D := (dC, dI)) (ci := 0) (v := .int (f_corners f0)) (C := RX1) (T := TX1) (N := 6) hx hb htg inX1 hown hK hP 0 rfl rfl 1 (by decide) (htg _ gw42) (fun _ h9 => h9) rfl dX1_placeOf_4 ?_
      refine lv_icmp_ge (tgt := 33) hx hb dX1_placeOf_7 (by decide) (fun c7 => ?_) (fun c7 => ?_)
      · replace h := if_t h c7
        refine lv_aload_n hx hb dX1_placeOf_33 rfl (lv_at hl 1 rfl) ?_
        refine lv_iconst (v := 0) hx hb dX1_placeOf_34 (by decide) ?_
        refine lv_iconst (v := 2) hx hb dX1_placeOf_35 (by decide) ?_
        refine lv_iload_n hx hb dX1_placeOf_36 rfl (lv_at hl 2 rfl) ?_
        refine lv_imul hx hb dX1_placeOf_37 ?_
        refine lv_iconst (v := 2) hx hb dX1_placeOf_38 (by decide) ?_
        refine lv_iload_n hx hb dX1_placeOf_39 rfl (lv_at hl 3 rfl) ?_
        refine lv_imul hx hb dX1_placeOf_40 ?_
        obtain ⟨v41, e41, h⟩ := bnd h
        refine cV (av := [.int 0, .int (2 * l1_2), .int (2 * l2_2)]) (rest := []) (st1 := [.int v41]) (k1 := 0) (k2 := 0) (ci := 0) (q0 := 0) hx hb hml hown htg hN hK (c_X1_surrounds l dC dI cy a0 f0 0 (2 * l1_2) (2 * l2_2) v41 e41) (g_V gw500 gw308 gw309 gw8 gw310) hdV_X1_surrounds rfl ⟨⟨Nat.le_of_ble_eq_true rfl, Nat.le_of_ble_eq_true rfl⟩, Nat.le_of_ble_eq_true rfl, Nat.le_of_ble_eq_true rfl⟩ hP hD hS hA ⟨rfl, rfl⟩ rfl [0, 1, 2, 3, 4] [] rfl rfl rfl (by decide) (by decide) hl.1 rfl (Nat.le_of_ble_eq_true rfl) rfl rfl rfl dX1_placeOf_41 (fun H locs hP hD hS => ?_)
        have hP : va_P (dC, dI) vwCl (wFig a0 cy f0) H := hP
        have hD : va_D A (wFig a0 cy f0) := hD
        refine lv_if_ne (tgt := 49) hx hb dX1_placeOf_44 (by decide) (fun c44 => ?_) (fun c44 => ?_)
        · replace h := if_f h c44
          refine lv_aload_n hx hb dX1_placeOf_49 rfl (lv_at hl 1 rfl) ?_
          refine lv_iconst (v := 2) hx hb dX1_placeOf_50 (by decide) ?_
          refine lv_iload_n hx hb dX1_placeOf_51 rfl (lv_at hl 2 rfl) ?_
          refine lv_imul hx hb dX1_placeOf_52 ?_
          refine lv_iconst (v := 2) hx hb dX1_placeOf_53 (by decide) ?_
          refine lv_iload_n hx hb dX1_placeOf_54 rfl (lv_at hl 3 rfl) ?_
          refine lv_imul hx hb dX1_placeOf_55 ?_
          obtain ⟨v56, e56, h⟩ := bnd h
          refine cV (av := [.int (2 * l1_2), .int (2 * l2_2)]) (rest := []) (st1 := [.int v56]) (k1 := 0) (k2 := 0) (ci := 0) (q0 := 0) hx hb hml hown htg hN hK (c_X1_inSomeHole l dC dI cy a0 f0 (2 * l1_2) (2 * l2_2) v56 e56) (g_V gw560 gw497 gw498 gw8 gw499) hdV_X1_inSomeHole rfl ⟨⟨Nat.le_of_ble_eq_true rfl, Nat.le_of_ble_eq_true rfl⟩, Nat.le_of_ble_eq_true rfl, Nat.le_of_ble_eq_true rfl⟩ hP hD hS hA ⟨rfl, rfl⟩ rfl [0, 1, 2, 3, 4] [] rfl rfl rfl (by decide) (by decide) hl.1 rfl (Nat.le_of_ble_eq_true rfl) rfl rfl rfl dX1_placeOf_56 (fun H locs hP hD hS => ?_)
          have hP : va_P (dC, dI) vwCl (wFig a0 cy f0) H := hP
          have hD : va_D A (wFig a0 cy f0) := hD
          refine lv_if_eq (tgt := 66) hx hb dX1_placeOf_59 (by decide) (fun c59 => ?_) (fun c59 => ?_)
          · replace h := if_t h c59
            refine lv_iconst (v := 2) hx hb dX1_placeOf_66 (by decide) ?_
            obtain rfl := Option.some.inj h
            exact hE H locs 67 ls _ hP hD hS rfl dX1_placeOf_67
          replace h := if_f h c59
          refine lv_iconst (v := 3) hx hb dX1_placeOf_62 (by decide) ?_
          refine lv_goto (tgt := 67) hx hb dX1_placeOf_63 (by decide) ?_
          obtain rfl := Option.some.inj h
          exact hE H locs 67 ls _ hP hD hS rfl dX1_placeOf_67
        replace h := if_t h c44
        refine lv_iconst (v := 0) hx hb dX1_placeOf_47 (by decide) ?_
        obtain rfl := Option.some.inj h
        exact hE H locs 48 ls _ hP hD hS rfl dX1_placeOf_48
      replace h := if_f h c7
      refine lv_aload_n hx hb dX1_placeOf_10 rfl (lv_at hl 1 rfl) ?_
      refine lv_iload_n hx hb dX1_placeOf_11 rfl (lv_at hl 2 rfl) ?_
      refine lv_iload_n hx hb dX1_placeOf_12 rfl (lv_at hl 3 rfl) ?_
      refine lv_iload_n hx hb dX1_placeOf_13 rfl (lv_at hl 0 rfl) ?_
      refine lv_aload_n hx hb dX1_placeOf_14 rfl (lv_at hl 1 rfl) ?_
      refine lv_iload_n hx hb dX1_placeOf_15 rfl (lv_at hl 0 rfl) ?_
      obtain ⟨v16, e16, h⟩ := bnd h
      refine cV (av := [.int l3_2]) (rest := [.int l3_2, .int l2_2, .int l1_2, .ref (a0 0)]) (st1 := [.int v16, .int l3_2, .int l2_2, .int l1_2, .ref (a0 0)]) (k1 := 0) (k2 := 0) (ci := 0) (q0 := 0) hx hb hml hown htg hN hK (c_X1_nextOf l dC dI cy a0 f0 l3_2 v16 e16) (g_V gw268 gw269 gw270 gw8 gw271) hdV_X1_nextOf rfl ⟨⟨Nat.le_of_ble_eq_true rfl, Nat.le_of_ble_eq_true rfl⟩, Nat.le_of_ble_eq_true rfl, Nat.le_of_ble_eq_true rfl⟩ hP hD hS hA ⟨rfl, rfl⟩ rfl [0, 1, 2, 3, 4] [] rfl rfl rfl (by decide) (by decide) hl.1 rfl (Nat.le_of_ble_eq_true rfl) rfl rfl rfl dX1_placeOf_16 (fun H locs hP hD hS => ?_)
      have hP : va_P (dC, dI) vwCl (wFig a0 cy f0) H := hP
      have hD : va_D A (wFig a0 cy f0) := hD
      obtain ⟨v19, e19, h⟩ := bnd h
      refine cV (av := [.int l1_2, .int l2_2, .int l3_2, .int v16]) (rest := []) (st1 := [.int v19]) (k1 := 0) (k2 := 0) (ci := 0) (q0 := 0) hx hb hml hown htg hN hK (c_X1_onLine l dC dI cy a0 f0 l1_2 l2_2 l3_2 v16 v19 e19) (g_V gw293 gw294 gw295 gw8 gw296) hdV_X1_onLine rfl ⟨⟨Nat.le_of_ble_eq_true rfl, Nat.le_of_ble_eq_true rfl⟩, Nat.le_of_ble_eq_true rfl, Nat.le_of_ble_eq_true rfl⟩ hP hD hS hA ⟨rfl, rfl⟩ rfl [0, 1, 2, 3, 4] [] rfl rfl rfl (by decide) (by decide) hl.1 rfl (Nat.le_of_ble_eq_true rfl) rfl rfl rfl dX1_placeOf_19 (fun H locs hP hD hS => ?_)
      have hP : va_P (dC, dI) vwCl (wFig a0 cy f0) H := hP
      have hD : va_D A (wFig a0 cy f0) := hD
      refine lv_if_eq (tgt := 27) hx hb dX1_placeOf_22 (by decide) (fun c22 => ?_) (fun c22 => ?_)
      · replace h := if_t h c22
        refine lv_iinc (v := l3_2 + 1) (lv' := [(3, .int (l3_2 + 1)), (0, .ref (a0 0)), (1, .int l1_2), (2, .int l2_2)]) hx hb dX1_placeOf_27 hl (k := 0) rfl rfl (by decide) rfl (fun ls hl => ?_)
        refine lv_goto (tgt := 2) hx hb dX1_placeOf_30 (by decide) ?_
        exact ih2 (l3_2 + 1) l1_2 l2_2 H locs ls h hP hD hS (lv_sub hl [0, 1, 2, 3] rfl)
      replace h := if_f h c22
      refine lv_iconst (v := 1) hx hb dX1_placeOf_25 (by decide) ?_
      obtain rfl := Option.some.inj h
      exact hE H locs 26 ls _ hP hD hS rfl dX1_placeOf_26
  exact hL2 FU 0 p1 p2 H locs ls h hP hD hS (lv_sub hl [0, 1, 2, 3] rfl)
def G_X1_stepsOfSide_j59 (r36 : Int32 → Int32 → Int32 → Option (Int32)) (f0 : Fig) (l4_59 : Int32) (l3_59 : Int32) (l2_59 : Int32) : Option (Int32) :=
  r36 (l4_59 + (-1)) l3_59 l2_59
def G_X1_stepsOfSide_L36  (f0 : Fig) : Nat → Int32 → Int32 → Int32 → Option (Int32)
  | 0, _, _, _ => none
  | n36 + 1, l4_36, l3_36, l2_36 =>
    if l4_36 ≤ 1 then
      some 1
    else
      (rmI l2_36 l4_36).bind fun v45 =>
      if v45 = 0 then
        (rmI l3_36 l4_36).bind fun v52 =>
        if v52 = 0 then
          some l4_36
        else
          G_X1_stepsOfSide_j59 (G_X1_stepsOfSide_L36 f0 n36) f0 l4_36 l3_36 l2_36
      else
        G_X1_stepsOfSide_j59 (G_X1_stepsOfSide_L36 f0 n36) f0 l4_36 l3_36 l2_36
def G_X1_stepsOfSide (f0 : Fig) (p1 : Int32) : Option (Int32) :=
  (G_X1_nextOf f0 p1).bind fun v3 =>
  (G_X1_xOf f0 v3).bind fun v6 =>
  (G_X1_xOf f0 p1).bind fun v11 =>
  (G_X1_nextOf f0 p1).bind fun v19 =>
  (G_X1_yOf f0 v19).bind fun v22 =>
  (G_X1_yOf f0 p1).bind fun v27 =>
  G_X1_stepsOfSide_L36 f0 FU 15 (v22 - v27) (v6 - v11)
abbrev rm_X1_stepsOfSide : Room := { frames := 1, cells := 0, slots := 0, locals := 21 }
theorem hdS_X1_stepsOfSide : yX1_stepsOfSide.cls ≠ "java/lang/invoke/MethodHandle" ∧ yX1_stepsOfSide.cls ≠ "java/lang/invoke/VarHandle" ∧ (parseMethodDescriptor yX1_stepsOfSide.desc).map (fun d => d.parameters.length) = some 1 := by decide +kernel
theorem hdV_X1_stepsOfSide : yX1_stepsOfSide.cls = RX1 ∧ yX1_stepsOfSide.cls ≠ "java/lang/invoke/MethodHandle" ∧ yX1_stepsOfSide.cls ≠ "java/lang/invoke/VarHandle" ∧ (parseMethodDescriptor yX1_stepsOfSide.desc).map (fun d => d.parameters.length) = some 1 := ⟨rfl, hdS_X1_stepsOfSide⟩
set_option maxHeartbeats 4000000 in
set_option maxRecDepth 100000 in
theorem c_X1_stepsOfSide (l : Launch) (dC : Nat → ClassId) (dI : Nat → Nat → Nat) (cy : Nat → ClassId) (a0 : Nat → Nat) (f0 : Fig) (p1 : Int32) (res : Int32) (h : G_X1_stepsOfSide f0 p1 = some res) : CT l (dC, dI) (TY cy) yX1_stepsOfSide cX1_stepsOfSide 5 (some .int) rm_X1_stepsOfSide [.ref (a0 0), .int p1] (wFig a0 cy f0) (wFig a0 cy f0) (some (.int res)) := by
  refine CT.mk_i (own := RX1) ⟨by decide, rfl⟩ (Nat.le_of_ble_eq_true rfl) ?_
  intro p e s mm args below meth cd A Q hx hb hml hown htg hN hK hA hP hD hS hE ls hl
  have hl : lv_has ls 5 [(0, .ref (a0 0)), (1, .int p1)] := hl
  replace h : _ = some res := h
  unfold G_X1_stepsOfSide at h
  obtain ⟨H, hH⟩ : ∃ H, H = s.heap := ⟨_, rfl⟩
  obtain ⟨locs, hlocs⟩ : ∃ locs : List Loc, locs = [] := ⟨_, rfl⟩
  rw [← hlocs] at hS ⊢
  have hS : va_S A s.heap H locs := by rw [hH]; exact hS
  rw [← hH] at hP ⊢
  refine lv_aload_n hx hb dX1_stepsOfSide_0 rfl (lv_at hl 0 rfl) ?_
  refine lv_aload_n hx hb dX1_stepsOfSide_1 rfl (lv_at hl 0 rfl) ?_
  refine lv_iload_n hx hb dX1_stepsOfSide_2 rfl (lv_at hl 1 rfl) ?_
  obtain ⟨v3, e3, h⟩ := bnd h
  refine cV (av := [.int p1]) (rest := [.ref (a0 0)]) (st1 := [.int v3, .ref (a0 0)]) (k1 := 0) (k2 := 0) (ci := 0) (q0 := 0) hx hb hml hown htg hN hK (c_X1_nextOf l dC dI cy a0 f0 p1 v3 e3) (g_V gw268 gw269 gw270 gw8 gw271) hdV_X1_nextOf rfl ⟨⟨Nat.le_of_ble_eq_true rfl, Nat.le_of_ble_eq_true rfl⟩, Nat.le_of_ble_eq_true rfl, Nat.le_of_ble_eq_true rfl⟩ hP hD hS hA ⟨rfl, rfl⟩ rfl [0, 1, 2, 3, 4] [] rfl rfl rfl (by decide) (by decide) hl.1 rfl (Nat.le_of_ble_eq_true rfl) rfl rfl rfl dX1_stepsOfSide_3 (fun H locs hP hD hS => ?_)
  have hP : va_P (dC, dI) vwCl (wFig a0 cy f0) H := hP
  have hD : va_D A (wFig a0 cy f0) := hD
  obtain ⟨v6, e6, h⟩ := bnd h
  refine cV (av := [.int v3]) (rest := []) (st1 := [.int v6]) (k1 := 0) (k2 := 0) (ci := 0) (q0 := 0) hx hb hml hown htg hN hK (c_X1_xOf l dC dI cy a0 f0 v3 v6 e6) (g_V gw272 gw251 gw252 gw8 gw253) hdV_X1_xOf rfl ⟨⟨Nat.le_of_ble_eq_true rfl, Nat.le_of_ble_eq_true rfl⟩, Nat.le_of_ble_eq_true rfl, Nat.le_of_ble_eq_true rfl⟩ hP hD hS hA ⟨rfl, rfl⟩ rfl [0, 1, 2, 3, 4] [] rfl rfl rfl (by decide) (by decide) hl.1 rfl (Nat.le_of_ble_eq_true rfl) rfl rfl rfl dX1_stepsOfSide_6 (fun H locs hP hD hS => ?_)
  have hP : va_P (dC, dI) vwCl (wFig a0 cy f0) H := hP
  have hD : va_D A (wFig a0 cy f0) := hD
  refine lv_aload_n hx hb dX1_stepsOfSide_9 rfl (lv_at hl 0 rfl) ?_
  refine lv_iload_n hx hb dX1_stepsOfSide_10 rfl (lv_at hl 1 rfl) ?_
  obtain ⟨v11, e11, h⟩ := bnd h
  refine cV (av := [.int p1]) (rest := [.int v6]) (st1 := [.int v11, .int v6]) (k1 := 0) (k2 := 0) (ci := 0) (q0 := 0) hx hb hml hown htg hN hK (c_X1_xOf l dC dI cy a0 f0 p1 v11 e11) (g_V gw272 gw251 gw252 gw8 gw253) hdV_X1_xOf rfl ⟨⟨Nat.le_of_ble_eq_true rfl, Nat.le_of_ble_eq_true rfl⟩, Nat.le_of_ble_eq_true rfl, Nat.le_of_ble_eq_true rfl⟩ hP hD hS hA ⟨rfl, rfl⟩ rfl [0, 1, 2, 3, 4] [] rfl rfl rfl (by decide) (by decide) hl.1 rfl (Nat.le_of_ble_eq_true rfl) rfl rfl rfl dX1_stepsOfSide_11 (fun H locs hP hD hS => ?_)
  have hP : va_P (dC, dI) vwCl (wFig a0 cy f0) H := hP
  have hD : va_D A (wFig a0 cy f0) := hD
  refine lv_isub hx hb dX1_stepsOfSide_14 ?_
  refine lv_istore_n (lv' := [(2, .int (v6 - v11)), (0, .ref (a0 0)), (1, .int p1)]) hx hb dX1_stepsOfSide_15 rfl hl (by decide) rfl (fun ls hl => ?_)
  refine lv_aload_n hx hb dX1_stepsOfSide_16 rfl (lv_at hl 1 rfl) ?_
  refine lv_aload_n hx hb dX1_stepsOfSide_17 rfl (lv_at hl 1 rfl) ?_
  refine lv_iload_n hx hb dX1_stepsOfSide_18 rfl (lv_at hl 2 rfl) ?_
  obtain ⟨v19, e19, h⟩ := bnd h
  refine cV (av := [.int p1]) (rest := [.ref (a0 0)]) (st1 := [.int v19, .ref (a0 0)]) (k1 := 0) (k2 := 0) (ci := 0) (q0 := 0) hx hb hml hown htg hN hK (c_X1_nextOf l dC dI cy a0 f0 p1 v19 e19) (g_V gw268 gw269 gw270 gw8 gw271) hdV_X1_nextOf rfl ⟨⟨Nat.le_of_ble_eq_true rfl, Nat.le_of_ble_eq_true rfl⟩, Nat.le_of_ble_eq_true rfl, Nat.le_of_ble_eq_true rfl⟩ hP hD hS hA ⟨rfl, rfl⟩ rfl [0, 1, 2, 3, 4] [] rfl rfl rfl (by decide) (by decide) hl.1 rfl (Nat.le_of_ble_eq_true rfl) rfl rfl rfl dX1_stepsOfSide_19 (fun H locs hP hD hS => ?_)
  have hP : va_P (dC, dI) vwCl (wFig a0 cy f0) H := hP
  have hD : va_D A (wFig a0 cy f0) := hD
  obtain ⟨v22, e22, h⟩ := bnd h
  refine cV (av := [.int v19]) (rest := []) (st1 := [.int v22]) (k1 := 0) (k2 := 0) (ci := 0) (q0 := 0) hx hb hml hown htg hN hK (c_X1_yOf l dC dI cy a0 f0 v19 v22 e22) (g_V gw273 gw258 gw259 gw8 gw260) hdV_X1_yOf rfl ⟨⟨Nat.le_of_ble_eq_true rfl, Nat.le_of_ble_eq_true rfl⟩, Nat.le_of_ble_eq_true rfl, Nat.le_of_ble_eq_true rfl⟩ hP hD hS hA ⟨rfl, rfl⟩ rfl [0, 1, 2, 3, 4] [] rfl rfl rfl (by decide) (by decide) hl.1 rfl (Nat.le_of_ble_eq_true rfl) rfl rfl rfl dX1_stepsOfSide_22 (fun H locs hP hD hS => ?_)
  have hP : va_P (dC, dI) vwCl (wFig a0 cy f0) H := hP
  have hD : va_D A (wFig a0 cy f0) := hD
  refine lv_aload_n hx hb dX1_stepsOfSide_25 rfl (lv_at hl 1 rfl) ?_
  refine lv_iload_n hx hb dX1_stepsOfSide_26 rfl (lv_at hl 2 rfl) ?_
  obtain ⟨v27, e27, h⟩ := bnd h
  refine cV (av := [.int p1]) (rest := [.int v22]) (st1 := [.int v27, .int v22]) (k1 := 0) (k2 := 0) (ci := 0) (q0 := 0) hx hb hml hown htg hN hK (c_X1_yOf l dC dI cy a0 f0 p1 v27 e27) (g_V gw273 gw258 gw259 gw8 gw260) hdV_X1_yOf rfl ⟨⟨Nat.le_of_ble_eq_true rfl, Nat.le_of_ble_eq_true rfl⟩, Nat.le_of_ble_eq_true rfl, Nat.le_of_ble_eq_true rfl⟩ hP hD hS hA ⟨rfl, rfl⟩ rfl [0, 1, 2, 3, 4] [] rfl rfl rfl (by decide) (by decide) hl.1 rfl (Nat.le_of_ble_eq_true rfl) rfl rfl rfl dX1_stepsOfSide_27 (fun H locs hP hD hS => ?_)
  have hP : va_P (dC, dI) vwCl (wFig a0 cy f0) H := hP
  have hD : va_D A (wFig a0 cy f0) := hD
  refine lv_isub hx hb dX1_stepsOfSide_30 ?_
  refine lv_istore_n (lv' := [(3, .int (v22 - v27)), (2, .int (v6 - v11)), (0, .ref (a0 0)), (1, .int p1)]) hx hb dX1_stepsOfSide_31 rfl hl (by decide) rfl (fun ls hl => ?_)
  refine lv_bipush (v := 15) hx hb dX1_stepsOfSide_32 (by decide) ?_
  refine lv_istore (lv' := [(4, .int 15), (3, .int (v22 - v27)), (2, .int (v6 - v11)), (0, .ref (a0 0)), (1, .int p1)]) hx hb dX1_stepsOfSide_34 hl (by decide) rfl (fun ls hl => ?_)
  have hL36 : ∀ (n36 : Nat) (l4_36 : Int32) (l3_36 : Int32) (l2_36 : Int32) (H : Heap) (locs : List Loc) (ls : Array Slot), G_X1_stepsOfSide_L36 f0 n36 l4_36 l3_36 l2_36 = some res → va_P (dC, dI) vwCl (wFig a0 cy f0) H → va_D A (wFig a0 cy f0) → va_S A s.heap H locs → lv_has ls 5 [(4, .int l4_36), (3, .int l3_36), (2, .int l2_36)] → W p l e rm_X1_stepsOfSide s mm args below meth cd H locs 0 0 Q (F0 mm 36 ls []) := by
    intro n36
    induction n36 with
    | zero => intro l4_36 l3_36 l2_36 H locs ls h; exact absurd h (by simp [G_X1_stepsOfSide_L36])
    | succ n36 ih36 =>
      intro l4_36 l3_36 l2_36 H locs ls h hP hD hS hl
      rw [G_X1_stepsOfSide_L36] at h
      refine lv_iload hx hb dX1_stepsOfSide_36 (lv_at hl 0 rfl) ?_
      refine lv_iconst (v := 1) hx hb dX1_stepsOfSide_38 (by decide) ?_
      refine lv_icmp_le (tgt := 65) hx hb dX1_stepsOfSide_39 (by decide) (fun c39 => ?_) (fun c39 => ?_)
      · replace h := if_t h c39
        refine lv_iconst (v := 1) hx hb dX1_stepsOfSide_65 (by decide) ?_
        obtain rfl := Option.some.inj h
        exact hE H locs 66 ls _ hP hD hS rfl dX1_stepsOfSide_66
      replace h := if_f h c39
      refine lv_iload_n hx hb dX1_stepsOfSide_42 rfl (lv_at hl 2 rfl) ?_
      refine lv_iload hx hb dX1_stepsOfSide_43 (lv_at hl 0 rfl) ?_
      obtain ⟨v45, e45, h⟩ := bnd h
      refine x_irem hx hb e45 dX1_stepsOfSide_45 ?_
      have hj59 : ∀ (l4_59 : Int32) (l3_59 : Int32) (l2_59 : Int32) (H : Heap) (locs : List Loc) (ls : Array Slot), G_X1_stepsOfSide_j59 (G_X1_stepsOfSide_L36 f0 n36) f0 l4_59 l3_59 l2_59 = some res → va_P (dC, dI) vwCl (wFig a0 cy f0) H → va_D A (wFig a0 cy f0) → va_S A s.heap H locs → lv_has ls 5 [(4, .int l4_59), (3, .int l3_59), (2, .int l2_59)] → W p l e rm_X1_stepsOfSide s mm args below meth cd H locs 0 0 Q (F0 mm 59 ls []) := by
        intro l4_59 l3_59 l2_59 H locs ls h hP hD hS hl
        unfold G_X1_stepsOfSide_j59 at h
        refine lv_iinc (v := l4_59 + (-1)) (lv' := [(4, .int (l4_59 + (-1))), (3, .int l3_59), (2, .int l2_59)]) hx hb dX1_stepsOfSide_59 hl (k := 0) rfl rfl (by decide) rfl (fun ls hl => ?_)
        refine lv_goto (tgt := 36) hx hb dX1_stepsOfSide_62 (by decide) ?_
        exact ih36 (l4_59 + (-1)) l3_59 l2_59 H locs ls h hP hD hS (lv_sub hl [0, 1, 2] rfl)
      refine lv_if_ne (tgt := 59) hx hb dX1_stepsOfSide_46 (by decide) (fun c46 => ?_) (fun c46 => ?_)
      · replace h := if_f h c46
        exact hj59 l4_36 l3_36 l2_36 H locs ls h hP hD hS (lv_sub hl [0, 1, 2] rfl)
      replace h := if_t h c46
      refine lv_iload_n hx hb dX1_stepsOfSide_49 rfl (lv_at hl 1 rfl) ?_
      refine lv_iload hx hb dX1_stepsOfSide_50 (lv_at hl 0 rfl) ?_
      obtain ⟨v52, e52, h⟩ := bnd h
      refine x_irem hx hb e52 dX1_stepsOfSide_52 ?_
      refine lv_if_ne (tgt := 59) hx hb dX1_stepsOfSide_53 (by decide) (fun c53 => ?_) (fun c53 => ?_)
      · replace h := if_f h c53
        exact hj59 l4_36 l3_36 l2_36 H locs ls h hP hD hS (lv_sub hl [0, 1, 2] rfl)
      replace h := if_t h c53
      refine lv_iload hx hb dX1_stepsOfSide_56 (lv_at hl 0 rfl) ?_
      obtain rfl := Option.some.inj h
      exact hE H locs 58 ls _ hP hD hS rfl dX1_stepsOfSide_58
  exact hL36 FU 15 (v22 - v27) (v6 - v11) H locs ls h hP hD hS (lv_sub hl [0, 1, 2] rfl)
def G_X2_product (f0 : Fig) (p1 : Int32) (p2 : Int32) : Option (Int32) :=
  (G_X1_xOf f0 p1).bind fun v2 =>
  (G_X1_yOf f0 p2).bind fun v7 =>
  (G_X1_xOf f0 p2).bind fun v13 =>
  (G_X1_yOf f0 p1).bind fun v18 =>
  some ((v2 * v7) - (v13 * v18))
abbrev rm_X2_product : Room := { frames := 1, cells := 0, slots := 0, locals := 21 }
theorem hdS_X2_product : yX2_product.cls ≠ "java/lang/invoke/MethodHandle" ∧ yX2_product.cls ≠ "java/lang/invoke/VarHandle" ∧ (parseMethodDescriptor yX2_product.desc).map (fun d => d.parameters.length) = some 3 := by decide +kernel
set_option maxHeartbeats 4000000 in
set_option maxRecDepth 100000 in
theorem c_X2_product (l : Launch) (dC : Nat → ClassId) (dI : Nat → Nat → Nat) (cy : Nat → ClassId) (a0 : Nat → Nat) (f0 : Fig) (p1 : Int32) (p2 : Int32) (res : Int32) (h : G_X2_product f0 p1 p2 = some res) : CT l (dC, dI) (TY cy) yX2_product cX2_product 3 (some .int) rm_X2_product [.ref (a0 0), .int p1, .int p2] (wFig a0 cy f0) (wFig a0 cy f0) (some (.int res)) := by
  refine CT.mk_i (own := RX2) ⟨by decide, rfl⟩ (Nat.le_of_ble_eq_true rfl) ?_
  intro p e s mm args below meth cd A Q hx hb hml hown htg hN hK hA hP hD hS hE ls hl
  have hl : lv_has ls 3 [(0, .ref (a0 0)), (1, .int p1), (2, .int p2)] := hl
  replace h : _ = some res := h
  unfold G_X2_product at h
  obtain ⟨H, hH⟩ : ∃ H, H = s.heap := ⟨_, rfl⟩
  obtain ⟨locs, hlocs⟩ : ∃ locs : List Loc, locs = [] := ⟨_, rfl⟩
  rw [← hlocs] at hS ⊢
  have hS : va_S A s.heap H locs := by rw [hH]; exact hS
  rw [← hH] at hP ⊢
  refine lv_aload_n hx hb dX2_product_0 rfl (lv_at hl 0 rfl) ?_
  refine lv_iload_n hx hb dX2_product_1 rfl (lv_at hl 1 rfl) ?_
  obtain ⟨v2, e2, h⟩ := bnd h
  refine cV (av := [.int p1]) (rest := []) (st1 := [.int v2]) (k1 := 0) (k2 := 0) (ci := 0) (q0 := 0) hx hb hml hown htg hN hK (c_X1_xOf l dC dI cy a0 f0 p1 v2 e2) (g_V gw380 gw251 gw252 gw8 gw253) hdV_X1_xOf rfl ⟨⟨Nat.le_of_ble_eq_true rfl, Nat.le_of_ble_eq_true rfl⟩, Nat.le_of_ble_eq_true rfl, Nat.le_of_ble_eq_true rfl⟩ hP hD hS hA ⟨rfl, rfl⟩ rfl [0, 1, 2, 3, 4] [] rfl rfl rfl (by decide) (by decide) hl.1 rfl (Nat.le_of_ble_eq_true rfl) rfl rfl rfl dX2_product_2 (fun H locs hP hD hS => ?_)
  have hP : va_P (dC, dI) vwCl (wFig a0 cy f0) H := hP
  have hD : va_D A (wFig a0 cy f0) := hD
  refine lv_aload_n hx hb dX2_product_5 rfl (lv_at hl 0 rfl) ?_
  refine lv_iload_n hx hb dX2_product_6 rfl (lv_at hl 2 rfl) ?_
  obtain ⟨v7, e7, h⟩ := bnd h
  refine cV (av := [.int p2]) (rest := [.int v2]) (st1 := [.int v7, .int v2]) (k1 := 0) (k2 := 0) (ci := 0) (q0 := 0) hx hb hml hown htg hN hK (c_X1_yOf l dC dI cy a0 f0 p2 v7 e7) (g_V gw381 gw258 gw259 gw8 gw260) hdV_X1_yOf rfl ⟨⟨Nat.le_of_ble_eq_true rfl, Nat.le_of_ble_eq_true rfl⟩, Nat.le_of_ble_eq_true rfl, Nat.le_of_ble_eq_true rfl⟩ hP hD hS hA ⟨rfl, rfl⟩ rfl [0, 1, 2, 3, 4] [] rfl rfl rfl (by decide) (by decide) hl.1 rfl (Nat.le_of_ble_eq_true rfl) rfl rfl rfl dX2_product_7 (fun H locs hP hD hS => ?_)
  have hP : va_P (dC, dI) vwCl (wFig a0 cy f0) H := hP
  have hD : va_D A (wFig a0 cy f0) := hD
  refine lv_imul hx hb dX2_product_10 ?_
  refine lv_aload_n hx hb dX2_product_11 rfl (lv_at hl 0 rfl) ?_
  refine lv_iload_n hx hb dX2_product_12 rfl (lv_at hl 2 rfl) ?_
  obtain ⟨v13, e13, h⟩ := bnd h
  refine cV (av := [.int p2]) (rest := [.int (v2 * v7)]) (st1 := [.int v13, .int (v2 * v7)]) (k1 := 0) (k2 := 0) (ci := 0) (q0 := 0) hx hb hml hown htg hN hK (c_X1_xOf l dC dI cy a0 f0 p2 v13 e13) (g_V gw380 gw251 gw252 gw8 gw253) hdV_X1_xOf rfl ⟨⟨Nat.le_of_ble_eq_true rfl, Nat.le_of_ble_eq_true rfl⟩, Nat.le_of_ble_eq_true rfl, Nat.le_of_ble_eq_true rfl⟩ hP hD hS hA ⟨rfl, rfl⟩ rfl [0, 1, 2, 3, 4] [] rfl rfl rfl (by decide) (by decide) hl.1 rfl (Nat.le_of_ble_eq_true rfl) rfl rfl rfl dX2_product_13 (fun H locs hP hD hS => ?_)
  have hP : va_P (dC, dI) vwCl (wFig a0 cy f0) H := hP
  have hD : va_D A (wFig a0 cy f0) := hD
  refine lv_aload_n hx hb dX2_product_16 rfl (lv_at hl 0 rfl) ?_
  refine lv_iload_n hx hb dX2_product_17 rfl (lv_at hl 1 rfl) ?_
  obtain ⟨v18, e18, h⟩ := bnd h
  refine cV (av := [.int p1]) (rest := [.int v13, .int (v2 * v7)]) (st1 := [.int v18, .int v13, .int (v2 * v7)]) (k1 := 0) (k2 := 0) (ci := 0) (q0 := 0) hx hb hml hown htg hN hK (c_X1_yOf l dC dI cy a0 f0 p1 v18 e18) (g_V gw381 gw258 gw259 gw8 gw260) hdV_X1_yOf rfl ⟨⟨Nat.le_of_ble_eq_true rfl, Nat.le_of_ble_eq_true rfl⟩, Nat.le_of_ble_eq_true rfl, Nat.le_of_ble_eq_true rfl⟩ hP hD hS hA ⟨rfl, rfl⟩ rfl [0, 1, 2, 3, 4] [] rfl rfl rfl (by decide) (by decide) hl.1 rfl (Nat.le_of_ble_eq_true rfl) rfl rfl rfl dX2_product_18 (fun H locs hP hD hS => ?_)
  have hP : va_P (dC, dI) vwCl (wFig a0 cy f0) H := hP
  have hD : va_D A (wFig a0 cy f0) := hD
  refine lv_imul hx hb dX2_product_21 ?_
  refine lv_isub hx hb dX2_product_22 ?_
  obtain rfl := Option.some.inj h
  exact hE H locs 23 ls _ hP hD hS rfl dX2_product_23
def G_X2_ringSum_L11  (f0 : Fig) : Nat → Int32 → Int32 → Int32 → Int32 → Option (Int32)
  | 0, _, _, _, _ => none
  | n11 + 1, l4_11, l3_11, l2_11, l1_11 =>
    (G_X1_sizeOf f0 l1_11).bind fun v16 =>
    if l3_11 + v16 ≤ l4_11 then
      some l2_11
    else
      (G_X1_nextOf f0 l4_11).bind fun v30 =>
      (G_X2_product f0 l4_11 v30).bind fun v33 =>
      (G_X2_ringSum_L11 f0 n11) (l4_11 + 1) l3_11 (l2_11 + v33) l1_11
def G_X2_ringSum (f0 : Fig) (p1 : Int32) : Option (Int32) :=
  (G_X1_firstOf f0 p1).bind fun v4 =>
  G_X2_ringSum_L11 f0 FU v4 v4 0 p1
abbrev rm_X2_ringSum : Room := { frames := 2, cells := 0, slots := 0, locals := 43 }
theorem hdS_X2_ringSum : yX2_ringSum.cls ≠ "java/lang/invoke/MethodHandle" ∧ yX2_ringSum.cls ≠ "java/lang/invoke/VarHandle" ∧ (parseMethodDescriptor yX2_ringSum.desc).map (fun d => d.parameters.length) = some 2 := by decide +kernel
set_option maxHeartbeats 4000000 in
set_option maxRecDepth 100000 in
theorem c_X2_ringSum (l : Launch) (dC : Nat → ClassId) (dI : Nat → Nat → Nat) (cy : Nat → ClassId) (a0 : Nat → Nat) (f0 : Fig) (p1 : Int32) (res : Int32) (h : G_X2_ringSum f0 p1 = some res) : CT l (dC, dI) (TY cy) yX2_ringSum cX2_ringSum 5 (some .int) rm_X2_ringSum [.ref (a0 0), .int p1] (wFig a0 cy f0) (wFig a0 cy f0) (some (.int res)) := by
  refine CT.mk_i (own := RX2) ⟨by decide, rfl⟩ (Nat.le_of_ble_eq_true rfl) ?_
  intro p e s mm args below meth cd A Q hx hb hml hown htg hN hK hA hP hD hS hE ls hl
  have hl : lv_has ls 5 [(0, .ref (a0 0)), (1, .int p1)] := hl
  replace h : _ = some res := h
  unfold G_X2_ringSum at h
  obtain ⟨H, hH⟩ : ∃ H, H = s.heap := ⟨_, rfl⟩
  obtain ⟨locs, hlocs⟩ : ∃ locs : List Loc, locs = [] := ⟨_, rfl⟩
  rw [← hlocs] at hS ⊢
  have hS : va_S A s.heap H locs := by rw [hH]; exact hS
  rw [← hH] at hP ⊢
  refine lv_iconst (v := 0) hx hb dX2_ringSum_0 (by decide) ?_
  refine lv_istore_n (lv' := [(2, .int 0), (0, .ref (a0 0)), (1, .int p1)]) hx hb dX2_ringSum_1 rfl hl (by decide) rfl (fun ls hl => ?_)
  refine lv_aload_n hx hb dX2_ringSum_2 rfl (lv_at hl 1 rfl) ?_
  refine lv_iload_n hx hb dX2_ringSum_3 rfl (lv_at hl 2 rfl) ?_
  obtain ⟨v4, e4, h⟩ := bnd h
  refine cV (av := [.int p1]) (rest := []) (st1 := [.int v4]) (k1 := 0) (k2 := 0) (ci := 0) (q0 := 0) hx hb hml hown htg hN hK (c_X1_firstOf l dC dI cy a0 f0 p1 v4 e4) (g_V gw374 gw122 gw123 gw8 gw124) hdV_X1_firstOf rfl ⟨⟨Nat.le_of_ble_eq_true rfl, Nat.le_of_ble_eq_true rfl⟩, Nat.le_of_ble_eq_true rfl, Nat.le_of_ble_eq_true rfl⟩ hP hD hS hA ⟨rfl, rfl⟩ rfl [0, 1, 2, 3, 4] [] rfl rfl rfl (by decide) (by decide) hl.1 rfl (Nat.le_of_ble_eq_true rfl) rfl rfl rfl dX2_ringSum_4 (fun H locs hP hD hS => ?_)
  have hP : va_P (dC, dI) vwCl (wFig a0 cy f0) H := hP
  have hD : va_D A (wFig a0 cy f0) := hD
  refine lv_istore_n (lv' := [(3, .int v4), (2, .int 0), (0, .ref (a0 0)), (1, .int p1)]) hx hb dX2_ringSum_7 rfl hl (by decide) rfl (fun ls hl => ?_)
  refine lv_iload_n hx hb dX2_ringSum_8 rfl (lv_at hl 0 rfl) ?_
  refine lv_istore (lv' := [(4, .int v4), (3, .int v4), (2, .int 0), (0, .ref (a0 0)), (1, .int p1)]) hx hb dX2_ringSum_9 hl (by decide) rfl (fun ls hl => ?_)
  have hL11 : ∀ (n11 : Nat) (l4_11 : Int32) (l3_11 : Int32) (l2_11 : Int32) (l1_11 : Int32) (H : Heap) (locs : List Loc) (ls : Array Slot), G_X2_ringSum_L11 f0 n11 l4_11 l3_11 l2_11 l1_11 = some res → va_P (dC, dI) vwCl (wFig a0 cy f0) H → va_D A (wFig a0 cy f0) → va_S A s.heap H locs → lv_has ls 5 [(4, .int l4_11), (3, .int l3_11), (2, .int l2_11), (0, .ref (a0 0)), (1, .int l1_11)] → W p l e rm_X2_ringSum s mm args below meth cd H locs 0 0 Q (F0 mm 11 ls []) := by
    intro n11
    induction n11 with
    | zero => intro l4_11 l3_11 l2_11 l1_11 H locs ls h; exact absurd h (by simp [G_X2_ringSum_L11])
    | succ n11 ih11 =>
      intro l4_11 l3_11 l2_11 l1_11 H locs ls h hP hD hS hl
      rw [G_X2_ringSum_L11] at h
      refine lv_iload hx hb dX2_ringSum_11 (lv_at hl 0 rfl) ?_
      refine lv_iload_n hx hb dX2_ringSum_13 rfl (lv_at hl 1 rfl) ?_
      refine lv_aload_n hx hb dX2_ringSum_14 rfl (lv_at hl 3 rfl) ?_
      refine lv_iload_n hx hb dX2_ringSum_15 rfl (lv_at hl 4 rfl) ?_
      obtain ⟨v16, e16, h⟩ := bnd h
      refine cV (av := [.int l1_11]) (rest := [.int l3_11, .int l4_11]) (st1 := [.int v16, .int l3_11, .int l4_11]) (k1 := 0) (k2 := 0) (ci := 0) (q0 := 0) hx hb hml hown htg hN hK (c_X1_sizeOf l dC dI cy a0 f0 l1_11 v16 e16) (g_V gw375 gw106 gw107 gw8 gw108) hdV_X1_sizeOf rfl ⟨⟨Nat.le_of_ble_eq_true rfl, Nat.le_of_ble_eq_true rfl⟩, Nat.le_of_ble_eq_true rfl, Nat.le_of_ble_eq_true rfl⟩ hP hD hS hA ⟨rfl, rfl⟩ rfl [0, 1, 2, 3, 4] [] rfl rfl rfl (by decide) (by decide) hl.1 rfl (Nat.le_of_ble_eq_true rfl) rfl rfl rfl dX2_ringSum_16 (fun H locs hP hD hS => ?_)
      have hP : va_P (dC, dI) vwCl (wFig a0 cy f0) H := hP
      have hD : va_D A (wFig a0 cy f0) := hD
      refine lv_iadd hx hb dX2_ringSum_19 ?_
      refine lv_icmp_ge (tgt := 44) hx hb dX2_ringSum_20 (by decide) (fun c20 => ?_) (fun c20 => ?_)
      · replace h := if_t h c20
        refine lv_iload_n hx hb dX2_ringSum_44 rfl (lv_at hl 2 rfl) ?_
        obtain rfl := Option.some.inj h
        exact hE H locs 45 ls _ hP hD hS rfl dX2_ringSum_45
      replace h := if_f h c20
      refine lv_iload_n hx hb dX2_ringSum_23 rfl (lv_at hl 2 rfl) ?_
      refine lv_aload_n hx hb dX2_ringSum_24 rfl (lv_at hl 3 rfl) ?_
      refine lv_iload hx hb dX2_ringSum_25 (lv_at hl 0 rfl) ?_
      refine lv_aload_n hx hb dX2_ringSum_27 rfl (lv_at hl 3 rfl) ?_
      refine lv_iload hx hb dX2_ringSum_28 (lv_at hl 0 rfl) ?_
      obtain ⟨v30, e30, h⟩ := bnd h
      refine cV (av := [.int l4_11]) (rest := [.int l4_11, .ref (a0 0), .int l2_11]) (st1 := [.int v30, .int l4_11, .ref (a0 0), .int l2_11]) (k1 := 0) (k2 := 0) (ci := 0) (q0 := 0) hx hb hml hown htg hN hK (c_X1_nextOf l dC dI cy a0 f0 l4_11 v30 e30) (g_V gw376 gw269 gw270 gw8 gw271) hdV_X1_nextOf rfl ⟨⟨Nat.le_of_ble_eq_true rfl, Nat.le_of_ble_eq_true rfl⟩, Nat.le_of_ble_eq_true rfl, Nat.le_of_ble_eq_true rfl⟩ hP hD hS hA ⟨rfl, rfl⟩ rfl [0, 1, 2, 3, 4] [] rfl rfl rfl (by decide) (by decide) hl.1 rfl (Nat.le_of_ble_eq_true rfl) rfl rfl rfl dX2_ringSum_30 (fun H locs hP hD hS => ?_)
      have hP : va_P (dC, dI) vwCl (wFig a0 cy f0) H := hP
      have hD : va_D A (wFig a0 cy f0) := hD
      obtain ⟨v33, e33, h⟩ := bnd h
      refine cS (av := [.ref (a0 0), .int l4_11, .int v30]) (rest := [.int l2_11]) (st1 := [.int v33, .int l2_11]) (k1 := 0) (k2 := 0) hx hb hml hown htg hN hK (c_X2_product l dC dI cy a0 f0 l4_11 v30 v33 e33) (g_S gw377 gw378 gw20 gw379) hdS_X2_product rfl ⟨⟨Nat.le_of_ble_eq_true rfl, Nat.le_of_ble_eq_true rfl⟩, Nat.le_of_ble_eq_true rfl, Nat.le_of_ble_eq_true rfl⟩ hP hD hS hA [0, 1, 2, 3, 4] [] rfl rfl rfl (by decide) (by decide) hl.1 rfl (Nat.le_of_ble_eq_true rfl) rfl rfl rfl dX2_ringSum_33 (fun H locs hP hD hS => ?_)
      have hP : va_P (dC, dI) vwCl (wFig a0 cy f0) H := hP
      have hD : va_D A (wFig a0 cy f0) := hD
      refine lv_iadd hx hb dX2_ringSum_36 ?_
      refine lv_istore_n (lv' := [(2, .int (l2_11 + v33)), (4, .int l4_11), (3, .int l3_11), (0, .ref (a0 0)), (1, .int l1_11)]) hx hb dX2_ringSum_37 rfl hl (by decide) rfl (fun ls hl => ?_)
      refine lv_iinc (v := l4_11 + 1) (lv' := [(4, .int (l4_11 + 1)), (2, .int (l2_11 + v33)), (3, .int l3_11), (0, .ref (a0 0)), (1, .int l1_11)]) hx hb dX2_ringSum_38 hl (k := 1) rfl rfl (by decide) rfl (fun ls hl => ?_)
      refine lv_goto (tgt := 11) hx hb dX2_ringSum_41 (by decide) ?_
      exact ih11 (l4_11 + 1) l3_11 (l2_11 + v33) l1_11 H locs ls h hP hD hS (lv_sub hl [0, 2, 1, 3, 4] rfl)
  exact hL11 FU v4 v4 0 p1 H locs ls h hP hD hS (lv_sub hl [0, 1, 2, 3, 4] rfl)
def G_X2_ringArea (f0 : Fig) (p1 : Int32) : Option (Int32) :=
  (G_X2_ringSum f0 p1).bind fun v2 =>
  some (if 0 ≤ v2 then v2 else 0 - v2)
abbrev rm_X2_ringArea : Room := { frames := 3, cells := 0, slots := 0, locals := 67 }
theorem hdS_X2_ringArea : yX2_ringArea.cls ≠ "java/lang/invoke/MethodHandle" ∧ yX2_ringArea.cls ≠ "java/lang/invoke/VarHandle" ∧ (parseMethodDescriptor yX2_ringArea.desc).map (fun d => d.parameters.length) = some 2 := by decide +kernel
set_option maxHeartbeats 4000000 in
set_option maxRecDepth 100000 in
theorem c_X2_ringArea (l : Launch) (dC : Nat → ClassId) (dI : Nat → Nat → Nat) (cy : Nat → ClassId) (a0 : Nat → Nat) (f0 : Fig) (p1 : Int32) (res : Int32) (h : G_X2_ringArea f0 p1 = some res) : CT l (dC, dI) (TY cy) yX2_ringArea cX2_ringArea 2 (some .int) rm_X2_ringArea [.ref (a0 0), .int p1] (wFig a0 cy f0) (wFig a0 cy f0) (some (.int res)) := by
  refine CT.mk_i (own := RX2) ⟨by decide, rfl⟩ (Nat.le_of_ble_eq_true rfl) ?_
  intro p e s mm args below meth cd A Q hx hb hml hown htg hN hK hA hP hD hS hE ls hl
  have hl : lv_has ls 2 [(0, .ref (a0 0)), (1, .int p1)] := hl
  replace h : _ = some res := h
  unfold G_X2_ringArea at h
  obtain ⟨H, hH⟩ : ∃ H, H = s.heap := ⟨_, rfl⟩
  obtain ⟨locs, hlocs⟩ : ∃ locs : List Loc, locs = [] := ⟨_, rfl⟩
  rw [← hlocs] at hS ⊢
  have hS : va_S A s.heap H locs := by rw [hH]; exact hS
  rw [← hH] at hP ⊢
  refine lv_aload_n hx hb dX2_ringArea_0 rfl (lv_at hl 0 rfl) ?_
  refine lv_iload_n hx hb dX2_ringArea_1 rfl (lv_at hl 1 rfl) ?_
  obtain ⟨v2, e2, h⟩ := bnd h
  refine cS (av := [.ref (a0 0), .int p1]) (rest := []) (st1 := [.int v2]) (k1 := 0) (k2 := 0) hx hb hml hown htg hN hK (c_X2_ringSum l dC dI cy a0 f0 p1 v2 e2) (g_S gw371 gw372 gw20 gw373) hdS_X2_ringSum rfl ⟨⟨Nat.le_of_ble_eq_true rfl, Nat.le_of_ble_eq_true rfl⟩, Nat.le_of_ble_eq_true rfl, Nat.le_of_ble_eq_true rfl⟩ hP hD hS hA [0, 1, 2, 3, 4] [] rfl rfl rfl (by decide) (by decide) hl.1 rfl (Nat.le_of_ble_eq_true rfl) rfl rfl rfl dX2_ringArea_2 (fun H locs hP hD hS => ?_)
  have hP : va_P (dC, dI) vwCl (wFig a0 cy f0) H := hP
  have hD : va_D A (wFig a0 cy f0) := hD
  refine va_mabs hx hb (hml.trans hl.1.symm) hown (htg _ gw382) (htg _ gw383) (htg _ gw17) (htg _ gw384) (Nat.le_of_ble_eq_true rfl) (Nat.le_of_ble_eq_true rfl) (Nat.le_of_ble_eq_true rfl) (Nat.le_of_ble_eq_true rfl) dX2_ringArea_5 ?_
  obtain rfl := Option.some.inj h
  exact hE H locs 8 ls _ hP hD hS rfl dX2_ringArea_8
def G_X2_area_L8  (f0 : Fig) : Nat → Int32 → Int32 → Option (Int32)
  | 0, _, _ => none
  | n8 + 1, l2_8, l1_8 =>
    if f_rings f0 ≤ l2_8 then
      some l1_8
    else
      (G_X2_ringArea f0 l2_8).bind fun v19 =>
      (G_X2_area_L8 f0 n8) (l2_8 + 1) (l1_8 - v19)
def G_X2_area (f0 : Fig) : Option (Int32) :=
  (G_X2_ringArea f0 0).bind fun v2 =>
  G_X2_area_L8 f0 FU 1 v2
abbrev rm_X2_area : Room := { frames := 4, cells := 0, slots := 0, locals := 88 }
theorem hdS_X2_area : yX2_area.cls ≠ "java/lang/invoke/MethodHandle" ∧ yX2_area.cls ≠ "java/lang/invoke/VarHandle" ∧ (parseMethodDescriptor yX2_area.desc).map (fun d => d.parameters.length) = some 1 := by decide +kernel
set_option maxHeartbeats 4000000 in
set_option maxRecDepth 100000 in
theorem c_X2_area (l : Launch) (dC : Nat → ClassId) (dI : Nat → Nat → Nat) (cy : Nat → ClassId) (a0 : Nat → Nat) (f0 : Fig) (res : Int32) (h : G_X2_area f0 = some res) : CT l (dC, dI) (TY cy) yX2_area cX2_area 3 (some .int) rm_X2_area [.ref (a0 0)] (wFig a0 cy f0) (wFig a0 cy f0) (some (.int res)) := by
  refine CT.mk_i (own := RX2) ⟨by decide, rfl⟩ (Nat.le_of_ble_eq_true rfl) ?_
  intro p e s mm args below meth cd A Q hx hb hml hown htg hN hK hA hP hD hS hE ls hl
  have hl : lv_has ls 3 [(0, .ref (a0 0))] := hl
  replace h : _ = some res := h
  unfold G_X2_area at h
  obtain ⟨H, hH⟩ : ∃ H, H = s.heap := ⟨_, rfl⟩
  obtain ⟨locs, hlocs⟩ : ∃ locs : List Loc, locs = [] := ⟨_, rfl⟩
  rw [← hlocs] at hS ⊢
  have hS : va_S A s.heap H locs := by rw [hH]; exact hS
  rw [← hH] at hP ⊢
  refine lv_aload_n hx hb dX2_area_0 rfl (lv_at hl 0 rfl) ?_
  refine lv_iconst (v := 0) hx hb dX2_area_1 (by decide) ?_
  obtain ⟨v2, e2, h⟩ := bnd h
  refine cS (av := [.ref (a0 0), .int 0]) (rest := []) (st1 := [.int v2]) (k1 := 0) (k2 := 0) hx hb hml hown htg hN hK (c_X2_ringArea l dC dI cy a0 f0 0 v2 e2) (g_S gw368 gw369 gw20 gw370) hdS_X2_ringArea rfl ⟨⟨Nat.le_of_ble_eq_true rfl, Nat.le_of_ble_eq_true rfl⟩, Nat.le_of_ble_eq_true rfl, Nat.le_of_ble_eq_true rfl⟩ hP hD hS hA [0, 1, 2, 3, 4] [] rfl rfl rfl (by decide) (by decide) hl.1 rfl (Nat.le_of_ble_eq_true rfl) rfl rfl rfl dX2_area_2 (fun H locs hP hD hS => ?_)
  have hP : va_P (dC, dI) vwCl (wFig a0 cy f0) H := hP
  have hD : va_D A (wFig a0 cy f0) := hD
  refine lv_istore_n (lv' := [(1, .int v2), (0, .ref (a0 0))]) hx hb dX2_area_5 rfl hl (by decide) rfl (fun ls hl => ?_)
  refine lv_iconst (v := 1) hx hb dX2_area_6 (by decide) ?_
  refine lv_istore_n (lv' := [(2, .int 1), (1, .int v2), (0, .ref (a0 0))]) hx hb dX2_area_7 rfl hl (by decide) rfl (fun ls hl => ?_)
  have hL8 : ∀ (n8 : Nat) (l2_8 : Int32) (l1_8 : Int32) (H : Heap) (locs : List Loc) (ls : Array Slot), G_X2_area_L8 f0 n8 l2_8 l1_8 = some res → va_P (dC, dI) vwCl (wFig a0 cy f0) H → va_D A (wFig a0 cy f0) → va_S A s.heap H locs → lv_has ls 3 [(2, .int l2_8), (1, .int l1_8), (0, .ref (a0 0))] → W p l e rm_X2_area s mm args below meth cd H locs 0 0 Q (F0 mm 8 ls []) := by
    intro n8
    induction n8 with
    | zero => intro l2_8 l1_8 H locs ls h; exact absurd h (by simp [G_X2_area_L8])
    | succ n8 ih8 =>
      intro l2_8 l1_8 H locs ls h hP hD hS hl
      rw [G_X2_area_L8] at h
      refine lv_iload_n hx hb dX2_area_8 rfl (lv_at hl 0 rfl) ?_
      refine lv_aload_n hx hb dX2_area_9 rfl (lv_at hl 2 rfl) ?_
      refine va_getN (D := (dC, dI)) (ci := 0) (v := .int (f_rings f0)) (C := RX1) (T := TX1) (N := 6) hx hb htg inX1 hown hK hP 0 rfl rfl 0 (by decide) (va_Nw.use rfl (hN (.fieldLinkNest RX2 43 "SquaredPaper$Figure" "rings" "I" "SquaredPaper") (by decide +kernel))) (fun _ h9 => h9) rfl dX2_area_10 ?_
      refine lv_icmp_ge (tgt := 30) hx hb dX2_area_13 (by decide) (fun c13 => ?_) (fun c13 => ?_)
      · replace h := if_t h c13
        refine lv_iload_n hx hb dX2_area_30 rfl (lv_at hl 1 rfl) ?_
        obtain rfl := Option.some.inj h
        exact hE H locs 31 ls _ hP hD hS rfl dX2_area_31
      replace h := if_f h c13
      refine lv_iload_n hx hb dX2_area_16 rfl (lv_at hl 1 rfl) ?_
      refine lv_aload_n hx hb dX2_area_17 rfl (lv_at hl 2 rfl) ?_
      refine lv_iload_n hx hb dX2_area_18 rfl (lv_at hl 0 rfl) ?_
      obtain ⟨v19, e19, h⟩ := bnd h
      refine cS (av := [.ref (a0 0), .int l2_8]) (rest := [.int l1_8]) (st1 := [.int v19, .int l1_8]) (k1 := 0) (k2 := 0) hx hb hml hown htg hN hK (c_X2_ringArea l dC dI cy a0 f0 l2_8 v19 e19) (g_S gw368 gw369 gw20 gw370) hdS_X2_ringArea rfl ⟨⟨Nat.le_of_ble_eq_true rfl, Nat.le_of_ble_eq_true rfl⟩, Nat.le_of_ble_eq_true rfl, Nat.le_of_ble_eq_true rfl⟩ hP hD hS hA [0, 1, 2, 3, 4] [] rfl rfl rfl (by decide) (by decide) hl.1 rfl (Nat.le_of_ble_eq_true rfl) rfl rfl rfl dX2_area_19 (fun H locs hP hD hS => ?_)
      have hP : va_P (dC, dI) vwCl (wFig a0 cy f0) H := hP
      have hD : va_D A (wFig a0 cy f0) := hD
      refine lv_isub hx hb dX2_area_22 ?_
      refine lv_istore_n (lv' := [(1, .int (l1_8 - v19)), (2, .int l2_8), (0, .ref (a0 0))]) hx hb dX2_area_23 rfl hl (by decide) rfl (fun ls hl => ?_)
      refine lv_iinc (v := l2_8 + 1) (lv' := [(2, .int (l2_8 + 1)), (1, .int (l1_8 - v19)), (0, .ref (a0 0))]) hx hb dX2_area_24 hl (k := 1) rfl rfl (by decide) rfl (fun ls hl => ?_)
      refine lv_goto (tgt := 8) hx hb dX2_area_27 (by decide) ?_
      exact ih8 (l2_8 + 1) (l1_8 - v19) H locs ls h hP hD hS (lv_sub hl [0, 1, 2] rfl)
  exact hL8 FU 1 v2 H locs ls h hP hD hS (lv_sub hl [0, 1, 2] rfl)
def G_X2_ringBorder_L11  (f0 : Fig) : Nat → Int32 → Int32 → Int32 → Int32 → Option (Int32)
  | 0, _, _, _, _ => none
  | n11 + 1, l4_11, l3_11, l2_11, l1_11 =>
    (G_X1_sizeOf f0 l1_11).bind fun v16 =>
    if l3_11 + v16 ≤ l4_11 then
      some l2_11
    else
      (G_X1_stepsOfSide f0 l4_11).bind fun v27 =>
      (G_X2_ringBorder_L11 f0 n11) (l4_11 + 1) l3_11 (l2_11 + v27) l1_11
def G_X2_ringBorder (f0 : Fig) (p1 : Int32) : Option (Int32) :=
  (G_X1_firstOf f0 p1).bind fun v4 =>
  G_X2_ringBorder_L11 f0 FU v4 v4 0 p1
abbrev rm_X2_ringBorder : Room := { frames := 2, cells := 0, slots := 0, locals := 45 }
theorem hdS_X2_ringBorder : yX2_ringBorder.cls ≠ "java/lang/invoke/MethodHandle" ∧ yX2_ringBorder.cls ≠ "java/lang/invoke/VarHandle" ∧ (parseMethodDescriptor yX2_ringBorder.desc).map (fun d => d.parameters.length) = some 2 := by decide +kernel
set_option maxHeartbeats 4000000 in
set_option maxRecDepth 100000 in
theorem c_X2_ringBorder (l : Launch) (dC : Nat → ClassId) (dI : Nat → Nat → Nat) (cy : Nat → ClassId) (a0 : Nat → Nat) (f0 : Fig) (p1 : Int32) (res : Int32) (h : G_X2_ringBorder f0 p1 = some res) : CT l (dC, dI) (TY cy) yX2_ringBorder cX2_ringBorder 5 (some .int) rm_X2_ringBorder [.ref (a0 0), .int p1] (wFig a0 cy f0) (wFig a0 cy f0) (some (.int res)) := by
  refine CT.mk_i (own := RX2) ⟨by decide, rfl⟩ (Nat.le_of_ble_eq_true rfl) ?_
  intro p e s mm args below meth cd A Q hx hb hml hown htg hN hK hA hP hD hS hE ls hl
  have hl : lv_has ls 5 [(0, .ref (a0 0)), (1, .int p1)] := hl
  replace h : _ = some res := h
  unfold G_X2_ringBorder at h
  obtain ⟨H, hH⟩ : ∃ H, H = s.heap := ⟨_, rfl⟩
  obtain ⟨locs, hlocs⟩ : ∃ locs : List Loc, locs = [] := ⟨_, rfl⟩
  rw [← hlocs] at hS ⊢
  have hS : va_S A s.heap H locs := by rw [hH]; exact hS
  rw [← hH] at hP ⊢
  refine lv_iconst (v := 0) hx hb dX2_ringBorder_0 (by decide) ?_
  refine lv_istore_n (lv' := [(2, .int 0), (0, .ref (a0 0)), (1, .int p1)]) hx hb dX2_ringBorder_1 rfl hl (by decide) rfl (fun ls hl => ?_)
  refine lv_aload_n hx hb dX2_ringBorder_2 rfl (lv_at hl 1 rfl) ?_
  refine lv_iload_n hx hb dX2_ringBorder_3 rfl (lv_at hl 2 rfl) ?_
  obtain ⟨v4, e4, h⟩ := bnd h
  refine cV (av := [.int p1]) (rest := []) (st1 := [.int v4]) (k1 := 0) (k2 := 0) (ci := 0) (q0 := 0) hx hb hml hown htg hN hK (c_X1_firstOf l dC dI cy a0 f0 p1 v4 e4) (g_V gw374 gw122 gw123 gw8 gw124) hdV_X1_firstOf rfl ⟨⟨Nat.le_of_ble_eq_true rfl, Nat.le_of_ble_eq_true rfl⟩, Nat.le_of_ble_eq_true rfl, Nat.le_of_ble_eq_true rfl⟩ hP hD hS hA ⟨rfl, rfl⟩ rfl [0, 1, 2, 3, 4] [] rfl rfl rfl (by decide) (by decide) hl.1 rfl (Nat.le_of_ble_eq_true rfl) rfl rfl rfl dX2_ringBorder_4 (fun H locs hP hD hS => ?_)
  have hP : va_P (dC, dI) vwCl (wFig a0 cy f0) H := hP
  have hD : va_D A (wFig a0 cy f0) := hD
  refine lv_istore_n (lv' := [(3, .int v4), (2, .int 0), (0, .ref (a0 0)), (1, .int p1)]) hx hb dX2_ringBorder_7 rfl hl (by decide) rfl (fun ls hl => ?_)
  refine lv_iload_n hx hb dX2_ringBorder_8 rfl (lv_at hl 0 rfl) ?_
  refine lv_istore (lv' := [(4, .int v4), (3, .int v4), (2, .int 0), (0, .ref (a0 0)), (1, .int p1)]) hx hb dX2_ringBorder_9 hl (by decide) rfl (fun ls hl => ?_)
  have hL11 : ∀ (n11 : Nat) (l4_11 : Int32) (l3_11 : Int32) (l2_11 : Int32) (l1_11 : Int32) (H : Heap) (locs : List Loc) (ls : Array Slot), G_X2_ringBorder_L11 f0 n11 l4_11 l3_11 l2_11 l1_11 = some res → va_P (dC, dI) vwCl (wFig a0 cy f0) H → va_D A (wFig a0 cy f0) → va_S A s.heap H locs → lv_has ls 5 [(4, .int l4_11), (3, .int l3_11), (2, .int l2_11), (0, .ref (a0 0)), (1, .int l1_11)] → W p l e rm_X2_ringBorder s mm args below meth cd H locs 0 0 Q (F0 mm 11 ls []) := by
    intro n11
    induction n11 with
    | zero => intro l4_11 l3_11 l2_11 l1_11 H locs ls h; exact absurd h (by simp [G_X2_ringBorder_L11])
    | succ n11 ih11 =>
      intro l4_11 l3_11 l2_11 l1_11 H locs ls h hP hD hS hl
      rw [G_X2_ringBorder_L11] at h
      refine lv_iload hx hb dX2_ringBorder_11 (lv_at hl 0 rfl) ?_
      refine lv_iload_n hx hb dX2_ringBorder_13 rfl (lv_at hl 1 rfl) ?_
      refine lv_aload_n hx hb dX2_ringBorder_14 rfl (lv_at hl 3 rfl) ?_
      refine lv_iload_n hx hb dX2_ringBorder_15 rfl (lv_at hl 4 rfl) ?_
      obtain ⟨v16, e16, h⟩ := bnd h
      refine cV (av := [.int l1_11]) (rest := [.int l3_11, .int l4_11]) (st1 := [.int v16, .int l3_11, .int l4_11]) (k1 := 0) (k2 := 0) (ci := 0) (q0 := 0) hx hb hml hown htg hN hK (c_X1_sizeOf l dC dI cy a0 f0 l1_11 v16 e16) (g_V gw375 gw106 gw107 gw8 gw108) hdV_X1_sizeOf rfl ⟨⟨Nat.le_of_ble_eq_true rfl, Nat.le_of_ble_eq_true rfl⟩, Nat.le_of_ble_eq_true rfl, Nat.le_of_ble_eq_true rfl⟩ hP hD hS hA ⟨rfl, rfl⟩ rfl [0, 1, 2, 3, 4] [] rfl rfl rfl (by decide) (by decide) hl.1 rfl (Nat.le_of_ble_eq_true rfl) rfl rfl rfl dX2_ringBorder_16 (fun H locs hP hD hS => ?_)
      have hP : va_P (dC, dI) vwCl (wFig a0 cy f0) H := hP
      have hD : va_D A (wFig a0 cy f0) := hD
      refine lv_iadd hx hb dX2_ringBorder_19 ?_
      refine lv_icmp_ge (tgt := 38) hx hb dX2_ringBorder_20 (by decide) (fun c20 => ?_) (fun c20 => ?_)
      · replace h := if_t h c20
        refine lv_iload_n hx hb dX2_ringBorder_38 rfl (lv_at hl 2 rfl) ?_
        obtain rfl := Option.some.inj h
        exact hE H locs 39 ls _ hP hD hS rfl dX2_ringBorder_39
      replace h := if_f h c20
      refine lv_iload_n hx hb dX2_ringBorder_23 rfl (lv_at hl 2 rfl) ?_
      refine lv_aload_n hx hb dX2_ringBorder_24 rfl (lv_at hl 3 rfl) ?_
      refine lv_iload hx hb dX2_ringBorder_25 (lv_at hl 0 rfl) ?_
      obtain ⟨v27, e27, h⟩ := bnd h
      refine cV (av := [.int l4_11]) (rest := [.int l2_11]) (st1 := [.int v27, .int l2_11]) (k1 := 0) (k2 := 0) (ci := 0) (q0 := 0) hx hb hml hown htg hN hK (c_X1_stepsOfSide l dC dI cy a0 f0 l4_11 v27 e27) (g_V gw576 gw534 gw535 gw8 gw536) hdV_X1_stepsOfSide rfl ⟨⟨Nat.le_of_ble_eq_true rfl, Nat.le_of_ble_eq_true rfl⟩, Nat.le_of_ble_eq_true rfl, Nat.le_of_ble_eq_true rfl⟩ hP hD hS hA ⟨rfl, rfl⟩ rfl [0, 1, 2, 3, 4] [] rfl rfl rfl (by decide) (by decide) hl.1 rfl (Nat.le_of_ble_eq_true rfl) rfl rfl rfl dX2_ringBorder_27 (fun H locs hP hD hS => ?_)
      have hP : va_P (dC, dI) vwCl (wFig a0 cy f0) H := hP
      have hD : va_D A (wFig a0 cy f0) := hD
      refine lv_iadd hx hb dX2_ringBorder_30 ?_
      refine lv_istore_n (lv' := [(2, .int (l2_11 + v27)), (4, .int l4_11), (3, .int l3_11), (0, .ref (a0 0)), (1, .int l1_11)]) hx hb dX2_ringBorder_31 rfl hl (by decide) rfl (fun ls hl => ?_)
      refine lv_iinc (v := l4_11 + 1) (lv' := [(4, .int (l4_11 + 1)), (2, .int (l2_11 + v27)), (3, .int l3_11), (0, .ref (a0 0)), (1, .int l1_11)]) hx hb dX2_ringBorder_32 hl (k := 1) rfl rfl (by decide) rfl (fun ls hl => ?_)
      refine lv_goto (tgt := 11) hx hb dX2_ringBorder_35 (by decide) ?_
      exact ih11 (l4_11 + 1) l3_11 (l2_11 + v27) l1_11 H locs ls h hP hD hS (lv_sub hl [0, 2, 1, 3, 4] rfl)
  exact hL11 FU v4 v4 0 p1 H locs ls h hP hD hS (lv_sub hl [0, 1, 2, 3, 4] rfl)
def G_X2_border_L4  (f0 : Fig) : Nat → Int32 → Int32 → Option (Int32)
  | 0, _, _ => none
  | n4 + 1, l2_4, l1_4 =>
    if f_rings f0 ≤ l2_4 then
      some l1_4
    else
      (G_X2_ringBorder f0 l2_4).bind fun v15 =>
      (G_X2_border_L4 f0 n4) (l2_4 + 1) (l1_4 + v15)
def G_X2_border (f0 : Fig) : Option (Int32) :=
  G_X2_border_L4 f0 FU 0 0
abbrev rm_X2_border : Room := { frames := 3, cells := 0, slots := 0, locals := 69 }
theorem hdS_X2_border : yX2_border.cls ≠ "java/lang/invoke/MethodHandle" ∧ yX2_border.cls ≠ "java/lang/invoke/VarHandle" ∧ (parseMethodDescriptor yX2_border.desc).map (fun d => d.parameters.length) = some 1 := by decide +kernel
set_option maxHeartbeats 4000000 in
set_option maxRecDepth 100000 in
theorem c_X2_border (l : Launch) (dC : Nat → ClassId) (dI : Nat → Nat → Nat) (cy : Nat → ClassId) (a0 : Nat → Nat) (f0 : Fig) (res : Int32) (h : G_X2_border f0 = some res) : CT l (dC, dI) (TY cy) yX2_border cX2_border 3 (some .int) rm_X2_border [.ref (a0 0)] (wFig a0 cy f0) (wFig a0 cy f0) (some (.int res)) := by
  refine CT.mk_i (own := RX2) ⟨by decide, rfl⟩ (Nat.le_of_ble_eq_true rfl) ?_
  intro p e s mm args below meth cd A Q hx hb hml hown htg hN hK hA hP hD hS hE ls hl
  have hl : lv_has ls 3 [(0, .ref (a0 0))] := hl
  replace h : _ = some res := h
  unfold G_X2_border at h
  obtain ⟨H, hH⟩ : ∃ H, H = s.heap := ⟨_, rfl⟩
  obtain ⟨locs, hlocs⟩ : ∃ locs : List Loc, locs = [] := ⟨_, rfl⟩
  rw [← hlocs] at hS ⊢
  have hS : va_S A s.heap H locs := by rw [hH]; exact hS
  rw [← hH] at hP ⊢
  refine lv_iconst (v := 0) hx hb dX2_border_0 (by decide) ?_
  refine lv_istore_n (lv' := [(1, .int 0), (0, .ref (a0 0))]) hx hb dX2_border_1 rfl hl (by decide) rfl (fun ls hl => ?_)
  refine lv_iconst (v := 0) hx hb dX2_border_2 (by decide) ?_
  refine lv_istore_n (lv' := [(2, .int 0), (1, .int 0), (0, .ref (a0 0))]) hx hb dX2_border_3 rfl hl (by decide) rfl (fun ls hl => ?_)
  have hL4 : ∀ (n4 : Nat) (l2_4 : Int32) (l1_4 : Int32) (H : Heap) (locs : List Loc) (ls : Array Slot), G_X2_border_L4 f0 n4 l2_4 l1_4 = some res → va_P (dC, dI) vwCl (wFig a0 cy f0) H → va_D A (wFig a0 cy f0) → va_S A s.heap H locs → lv_has ls 3 [(2, .int l2_4), (1, .int l1_4), (0, .ref (a0 0))] → W p l e rm_X2_border s mm args below meth cd H locs 0 0 Q (F0 mm 4 ls []) := by
    intro n4
    induction n4 with
    | zero => intro l2_4 l1_4 H locs ls h; exact absurd h (by simp [G_X2_border_L4])
    | succ n4 ih4 =>
      intro l2_4 l1_4 H locs ls h hP hD hS hl
      rw [G_X2_border_L4] at h
      refine lv_iload_n hx hb dX2_border_4 rfl (lv_at hl 0 rfl) ?_
      refine lv_aload_n hx hb dX2_border_5 rfl (lv_at hl 2 rfl) ?_
      refine va_getN (D := (dC, dI)) (ci := 0) (v := .int (f_rings f0)) (C := RX1) (T := TX1) (N := 6) hx hb htg inX1 hown hK hP 0 rfl rfl 0 (by decide) (va_Nw.use rfl (hN (.fieldLinkNest RX2 43 "SquaredPaper$Figure" "rings" "I" "SquaredPaper") (by decide +kernel))) (fun _ h9 => h9) rfl dX2_border_6 ?_
      refine lv_icmp_ge (tgt := 26) hx hb dX2_border_9 (by decide) (fun c9 => ?_) (fun c9 => ?_)
      · replace h := if_t h c9
        refine lv_iload_n hx hb dX2_border_26 rfl (lv_at hl 1 rfl) ?_
        obtain rfl := Option.some.inj h
        exact hE H locs 27 ls _ hP hD hS rfl dX2_border_27
      replace h := if_f h c9
      refine lv_iload_n hx hb dX2_border_12 rfl (lv_at hl 1 rfl) ?_
      refine lv_aload_n hx hb dX2_border_13 rfl (lv_at hl 2 rfl) ?_
      refine lv_iload_n hx hb dX2_border_14 rfl (lv_at hl 0 rfl) ?_
      obtain ⟨v15, e15, h⟩ := bnd h
      refine cS (av := [.ref (a0 0), .int l2_4]) (rest := [.int l1_4]) (st1 := [.int v15, .int l1_4]) (k1 := 0) (k2 := 0) hx hb hml hown htg hN hK (c_X2_ringBorder l dC dI cy a0 f0 l2_4 v15 e15) (g_S gw573 gw574 gw20 gw575) hdS_X2_ringBorder rfl ⟨⟨Nat.le_of_ble_eq_true rfl, Nat.le_of_ble_eq_true rfl⟩, Nat.le_of_ble_eq_true rfl, Nat.le_of_ble_eq_true rfl⟩ hP hD hS hA [0, 1, 2, 3, 4] [] rfl rfl rfl (by decide) (by decide) hl.1 rfl (Nat.le_of_ble_eq_true rfl) rfl rfl rfl dX2_border_15 (fun H locs hP hD hS => ?_)
      have hP : va_P (dC, dI) vwCl (wFig a0 cy f0) H := hP
      have hD : va_D A (wFig a0 cy f0) := hD
      refine lv_iadd hx hb dX2_border_18 ?_
      refine lv_istore_n (lv' := [(1, .int (l1_4 + v15)), (2, .int l2_4), (0, .ref (a0 0))]) hx hb dX2_border_19 rfl hl (by decide) rfl (fun ls hl => ?_)
      refine lv_iinc (v := l2_4 + 1) (lv' := [(2, .int (l2_4 + 1)), (1, .int (l1_4 + v15)), (0, .ref (a0 0))]) hx hb dX2_border_20 hl (k := 1) rfl rfl (by decide) rfl (fun ls hl => ?_)
      refine lv_goto (tgt := 4) hx hb dX2_border_23 (by decide) ?_
      exact ih4 (l2_4 + 1) (l1_4 + v15) H locs ls h hP hD hS (lv_sub hl [0, 1, 2] rfl)
  exact hL4 FU 0 0 H locs ls h hP hD hS (lv_sub hl [0, 1, 2] rfl)
def G_X2_isHullSide_j51 (r2 : Int32 → Int32 → Int32 → Option (Int32)) (f0 : Fig) (l3_51 : Int32) (l1_51 : Int32) (l2_51 : Int32) : Option (Int32) :=
  r2 (l3_51 + 1) l1_51 l2_51
def G_X2_isHullSide_L2  (f0 : Fig) : Nat → Int32 → Int32 → Int32 → Option (Int32)
  | 0, _, _, _ => none
  | n2 + 1, l3_2, l1_2, l2_2 =>
    (G_X1_sizeOf f0 0).bind fun v5 =>
    if v5 ≤ l3_2 then
      some 1
    else
      (G_X1_bend f0 l1_2 l2_2 l3_2).bind fun v15 =>
      if v15 < 0 then
        some 0
      else
        if v15 = 0 then
          (G_X1_xOf f0 l3_2).bind fun v33 =>
          (G_X1_yOf f0 l3_2).bind fun v38 =>
          (G_X1_onLine f0 v33 v38 l1_2 l2_2).bind fun v43 =>
          if v43 = 0 then
            some 0
          else
            G_X2_isHullSide_j51 (G_X2_isHullSide_L2 f0 n2) f0 l3_2 l1_2 l2_2
        else
          G_X2_isHullSide_j51 (G_X2_isHullSide_L2 f0 n2) f0 l3_2 l1_2 l2_2
def G_X2_isHullSide (f0 : Fig) (p1 : Int32) (p2 : Int32) : Option (Int32) :=
  G_X2_isHullSide_L2 f0 FU 0 p1 p2
abbrev rm_X2_isHullSide : Room := { frames := 2, cells := 0, slots := 0, locals := 48 }
theorem hdS_X2_isHullSide : yX2_isHullSide.cls ≠ "java/lang/invoke/MethodHandle" ∧ yX2_isHullSide.cls ≠ "java/lang/invoke/VarHandle" ∧ (parseMethodDescriptor yX2_isHullSide.desc).map (fun d => d.parameters.length) = some 3 := by decide +kernel
set_option maxHeartbeats 4000000 in
set_option maxRecDepth 100000 in
theorem c_X2_isHullSide (l : Launch) (dC : Nat → ClassId) (dI : Nat → Nat → Nat) (cy : Nat → ClassId) (a0 : Nat → Nat) (f0 : Fig) (p1 : Int32) (p2 : Int32) (res : Int32) (h : G_X2_isHullSide f0 p1 p2 = some res) : CT l (dC, dI) (TY cy) yX2_isHullSide cX2_isHullSide 5 (some .boolean) rm_X2_isHullSide [.ref (a0 0), .int p1, .int p2] (wFig a0 cy f0) (wFig a0 cy f0) (some (.int res)) := by
  refine CT.mk_z (own := RX2) ⟨by decide, rfl⟩ (Nat.le_of_ble_eq_true rfl) ?_
  intro p e s mm args below meth cd A Q hx hb hml hown htg hN hK hA hP hD hS hE ls hl
  have hl : lv_has ls 5 [(0, .ref (a0 0)), (1, .int p1), (2, .int p2)] := hl
  replace h : _ = some res := h
  unfold G_X2_isHullSide at h
  obtain ⟨H, hH⟩ : ∃ H, H = s.heap := ⟨_, rfl⟩
  obtain ⟨locs, hlocs⟩ : ∃ locs : List Loc, locs = [] := ⟨_, rfl⟩
  rw [← hlocs] at hS ⊢
  have hS : va_S A s.heap H locs := by rw [hH]; exact hS
  rw [← hH] at hP ⊢
  refine lv_iconst (v := 0) hx hb dX2_isHullSide_0 (by decide) ?_
  refine lv_istore_n (lv' := [(3, .int 0), (0, .ref (a0 0)), (1, .int p1), (2, .int p2)]) hx hb dX2_isHullSide_1 rfl hl (by decide) rfl (fun ls hl => ?_)
  have hL2 : ∀ (n2 : Nat) (l3_2 : Int32) (l1_2 : Int32) (l2_2 : Int32) (H : Heap) (locs : List Loc) (ls : Array Slot), G_X2_isHullSide_L2 f0 n2 l3_2 l1_2 l2_2 = some res → va_P (dC, dI) vwCl (wFig a0 cy f0) H → va_D A (wFig a0 cy f0) → va_S A s.heap H locs → lv_has ls 5 [(3, .int l3_2), (0, .ref (a0 0)), (1, .int l1_2), (2, .int l2_2)] → W p l e rm_X2_isHullSide s mm args below meth cd H locs 0 0 Q (F0 mm 2 ls []) := by
    intro n2
    induction n2 with
    | zero => intro l3_2 l1_2 l2_2 H locs ls h; exact absurd h (by simp [G_X2_isHullSide_L2])
    | succ n2 ih2 =>
      intro l3_2 l1_2 l2_2 H locs ls h hP hD hS hl
      rw [G_X2_isHullSide_L2] at h
      refine lv_iload_n hx hb dX2_isHullSide_2 rfl (lv_at hl 0 rfl) ?_
      refine lv_aload_n hx hb dX2_isHullSide_3 rfl (lv_at hl 1 rfl) ?_
      refine lv_iconst (v := 0) hx hb dX2_isHullSide_4 (by decide) ?_
      obtain ⟨v5, e5, h⟩ := bnd h
      refine cV (av := [.int 0]) (rest := [.int l3_2]) (st1 := [.int v5, .int l3_2]) (k1 := 0) (k2 := 0) (ci := 0) (q0 := 0) hx hb hml hown htg hN hK (c_X1_sizeOf l dC dI cy a0 f0 0 v5 e5) (g_V gw375 gw106 gw107 gw8 gw108) hdV_X1_sizeOf rfl ⟨⟨Nat.le_of_ble_eq_true rfl, Nat.le_of_ble_eq_true rfl⟩, Nat.le_of_ble_eq_true rfl, Nat.le_of_ble_eq_true rfl⟩ hP hD hS hA ⟨rfl, rfl⟩ rfl [0, 1, 2, 3, 4] [] rfl rfl rfl (by decide) (by decide) hl.1 rfl (Nat.le_of_ble_eq_true rfl) rfl rfl rfl dX2_isHullSide_5 (fun H locs hP hD hS => ?_)
      have hP : va_P (dC, dI) vwCl (wFig a0 cy f0) H := hP
      have hD : va_D A (wFig a0 cy f0) := hD
      refine lv_icmp_ge (tgt := 57) hx hb dX2_isHullSide_8 (by decide) (fun c8 => ?_) (fun c8 => ?_)
      · replace h := if_t h c8
        refine lv_iconst (v := 1) hx hb dX2_isHullSide_57 (by decide) ?_
        obtain rfl := Option.some.inj h
        exact hE H locs 58 ls _ hP hD hS rfl (Or.inr rfl) dX2_isHullSide_58
      replace h := if_f h c8
      refine lv_aload_n hx hb dX2_isHullSide_11 rfl (lv_at hl 1 rfl) ?_
      refine lv_iload_n hx hb dX2_isHullSide_12 rfl (lv_at hl 2 rfl) ?_
      refine lv_iload_n hx hb dX2_isHullSide_13 rfl (lv_at hl 3 rfl) ?_
      refine lv_iload_n hx hb dX2_isHullSide_14 rfl (lv_at hl 0 rfl) ?_
      obtain ⟨v15, e15, h⟩ := bnd h
      refine cV (av := [.int l1_2, .int l2_2, .int l3_2]) (rest := []) (st1 := [.int v15]) (k1 := 0) (k2 := 0) (ci := 0) (q0 := 0) hx hb hml hown htg hN hK (c_X1_bend l dC dI cy a0 f0 l1_2 l2_2 l3_2 v15 e15) (g_V gw594 gw283 gw284 gw8 gw285) hdV_X1_bend rfl ⟨⟨Nat.le_of_ble_eq_true rfl, Nat.le_of_ble_eq_true rfl⟩, Nat.le_of_ble_eq_true rfl, Nat.le_of_ble_eq_true rfl⟩ hP hD hS hA ⟨rfl, rfl⟩ rfl [0, 1, 2, 3, 4] [] rfl rfl rfl (by decide) (by decide) hl.1 rfl (Nat.le_of_ble_eq_true rfl) rfl rfl rfl dX2_isHullSide_15 (fun H locs hP hD hS => ?_)
      have hP : va_P (dC, dI) vwCl (wFig a0 cy f0) H := hP
      have hD : va_D A (wFig a0 cy f0) := hD
      refine lv_istore (lv' := [(4, .int v15), (3, .int l3_2), (0, .ref (a0 0)), (1, .int l1_2), (2, .int l2_2)]) hx hb dX2_isHullSide_18 hl (by decide) rfl (fun ls hl => ?_)
      refine lv_iload hx hb dX2_isHullSide_20 (lv_at hl 0 rfl) ?_
      refine lv_if_lt (tgt := 49) hx hb dX2_isHullSide_22 (by decide) (fun c22 => ?_) (fun c22 => ?_)
      · replace h := if_t h c22
        refine lv_iconst (v := 0) hx hb dX2_isHullSide_49 (by decide) ?_
        obtain rfl := Option.some.inj h
        exact hE H locs 50 ls _ hP hD hS rfl (Or.inl rfl) dX2_isHullSide_50
      replace h := if_f h c22
      refine lv_iload hx hb dX2_isHullSide_25 (lv_at hl 0 rfl) ?_
      have hj51 : ∀ (l3_51 : Int32) (l1_51 : Int32) (l2_51 : Int32) (H : Heap) (locs : List Loc) (ls : Array Slot), G_X2_isHullSide_j51 (G_X2_isHullSide_L2 f0 n2) f0 l3_51 l1_51 l2_51 = some res → va_P (dC, dI) vwCl (wFig a0 cy f0) H → va_D A (wFig a0 cy f0) → va_S A s.heap H locs → lv_has ls 5 [(3, .int l3_51), (0, .ref (a0 0)), (1, .int l1_51), (2, .int l2_51)] → W p l e rm_X2_isHullSide s mm args below meth cd H locs 0 0 Q (F0 mm 51 ls []) := by
        intro l3_51 l1_51 l2_51 H locs ls h hP hD hS hl
        unfold G_X2_isHullSide_j51 at h
        refine lv_iinc (v := l3_51 + 1) (lv' := [(3, .int (l3_51 + 1)), (0, .ref (a0 0)), (1, .int l1_51), (2, .int l2_51)]) hx hb dX2_isHullSide_51 hl (k := 0) rfl rfl (by decide) rfl (fun ls hl => ?_)
        refine lv_goto (tgt := 2) hx hb dX2_isHullSide_54 (by decide) ?_
        exact ih2 (l3_51 + 1) l1_51 l2_51 H locs ls h hP hD hS (lv_sub hl [0, 1, 2, 3] rfl)
      refine lv_if_ne (tgt := 51) hx hb dX2_isHullSide_27 (by decide) (fun c27 => ?_) (fun c27 => ?_)
      · replace h := if_f h c27
        exact hj51 l3_2 l1_2 l2_2 H locs ls h hP hD hS (lv_sub hl [1, 2, 3, 4] rfl)
      replace h := if_t h c27
      refine lv_aload_n hx hb dX2_isHullSide_30 rfl (lv_at hl 2 rfl) ?_
      refine lv_aload_n hx hb dX2_isHullSide_31 rfl (lv_at hl 2 rfl) ?_
      refine lv_iload_n hx hb dX2_isHullSide_32 rfl (lv_at hl 1 rfl) ?_
      obtain ⟨v33, e33, h⟩ := bnd h
      refine cV (av := [.int l3_2]) (rest := [.ref (a0 0)]) (st1 := [.int v33, .ref (a0 0)]) (k1 := 0) (k2 := 0) (ci := 0) (q0 := 0) hx hb hml hown htg hN hK (c_X1_xOf l dC dI cy a0 f0 l3_2 v33 e33) (g_V gw380 gw251 gw252 gw8 gw253) hdV_X1_xOf rfl ⟨⟨Nat.le_of_ble_eq_true rfl, Nat.le_of_ble_eq_true rfl⟩, Nat.le_of_ble_eq_true rfl, Nat.le_of_ble_eq_true rfl⟩ hP hD hS hA ⟨rfl, rfl⟩ rfl [0, 1, 2, 3, 4] [] rfl rfl rfl (by decide) (by decide) hl.1 rfl (Nat.le_of_ble_eq_true rfl) rfl rfl rfl dX2_isHullSide_33 (fun H locs hP hD hS => ?_)
      have hP : va_P (dC, dI) vwCl (wFig a0 cy f0) H := hP
      have hD : va_D A (wFig a0 cy f0) := hD
      refine lv_aload_n hx hb dX2_isHullSide_36 rfl (lv_at hl 2 rfl) ?_
      refine lv_iload_n hx hb dX2_isHullSide_37 rfl (lv_at hl 1 rfl) ?_
      obtain ⟨v38, e38, h⟩ := bnd h
      refine cV (av := [.int l3_2]) (rest := [.int v33, .ref (a0 0)]) (st1 := [.int v38, .int v33, .ref (a0 0)]) (k1 := 0) (k2 := 0) (ci := 0) (q0 := 0) hx hb hml hown htg hN hK (c_X1_yOf l dC dI cy a0 f0 l3_2 v38 e38) (g_V gw381 gw258 gw259 gw8 gw260) hdV_X1_yOf rfl ⟨⟨Nat.le_of_ble_eq_true rfl, Nat.le_of_ble_eq_true rfl⟩, Nat.le_of_ble_eq_true rfl, Nat.le_of_ble_eq_true rfl⟩ hP hD hS hA ⟨rfl, rfl⟩ rfl [0, 1, 2, 3, 4] [] rfl rfl rfl (by decide) (by decide) hl.1 rfl (Nat.le_of_ble_eq_true rfl) rfl rfl rfl dX2_isHullSide_38 (fun H locs hP hD hS => ?_)
      have hP : va_P (dC, dI) vwCl (wFig a0 cy f0) H := hP
      have hD : va_D A (wFig a0 cy f0) := hD
      refine lv_iload_n hx hb dX2_isHullSide_41 rfl (lv_at hl 3 rfl) ?_
      refine lv_iload_n hx hb dX2_isHullSide_42 rfl (lv_at hl 4 rfl) ?_
      obtain ⟨v43, e43, h⟩ := bnd h
      refine cV (av := [.int v33, .int v38, .int l1_2, .int l2_2]) (rest := []) (st1 := [.int v43]) (k1 := 0) (k2 := 0) (ci := 0) (q0 := 0) hx hb hml hown htg hN hK (c_X1_onLine l dC dI cy a0 f0 v33 v38 l1_2 l2_2 v43 e43) (g_V gw595 gw294 gw295 gw8 gw296) hdV_X1_onLine rfl ⟨⟨Nat.le_of_ble_eq_true rfl, Nat.le_of_ble_eq_true rfl⟩, Nat.le_of_ble_eq_true rfl, Nat.le_of_ble_eq_true rfl⟩ hP hD hS hA ⟨rfl, rfl⟩ rfl [0, 1, 2, 3, 4] [] rfl rfl rfl (by decide) (by decide) hl.1 rfl (Nat.le_of_ble_eq_true rfl) rfl rfl rfl dX2_isHullSide_43 (fun H locs hP hD hS => ?_)
      have hP : va_P (dC, dI) vwCl (wFig a0 cy f0) H := hP
      have hD : va_D A (wFig a0 cy f0) := hD
      refine lv_if_ne (tgt := 51) hx hb dX2_isHullSide_46 (by decide) (fun c46 => ?_) (fun c46 => ?_)
      · replace h := if_f h c46
        exact hj51 l3_2 l1_2 l2_2 H locs ls h hP hD hS (lv_sub hl [1, 2, 3, 4] rfl)
      replace h := if_t h c46
      refine lv_iconst (v := 0) hx hb dX2_isHullSide_49 (by decide) ?_
      obtain rfl := Option.some.inj h
      exact hE H locs 50 ls _ hP hD hS rfl (Or.inl rfl) dX2_isHullSide_50
  exact hL2 FU 0 p1 p2 H locs ls h hP hD hS (lv_sub hl [0, 1, 2, 3] rfl)
def G_X2_hull_j47 (r15 : Int32 → Int32 → Int32 → Option (Int32)) (f0 : Fig) (l3_47 : Int32) (l2_47 : Int32) (l1_47 : Int32) : Option (Int32) :=
  r15 (l3_47 + 1) l2_47 l1_47
def G_X2_hull_L15 (r4 : Int32 → Int32 → Option (Int32)) (f0 : Fig) : Nat → Int32 → Int32 → Int32 → Option (Int32)
  | 0, _, _, _ => none
  | n15 + 1, l3_15, l2_15, l1_15 =>
    (G_X1_sizeOf f0 0).bind fun v18 =>
    if v18 ≤ l3_15 then
      r4 (l2_15 + 1) l1_15
    else
      if l2_15 = l3_15 then
        G_X2_hull_j47 (G_X2_hull_L15 r4 f0 n15) f0 l3_15 l2_15 l1_15
      else
        (G_X2_isHullSide f0 l2_15 l3_15).bind fun v32 =>
        if v32 = 0 then
          G_X2_hull_j47 (G_X2_hull_L15 r4 f0 n15) f0 l3_15 l2_15 l1_15
        else
          (G_X2_product f0 l2_15 l3_15).bind fun v42 =>
          G_X2_hull_j47 (G_X2_hull_L15 r4 f0 n15) f0 l3_15 l2_15 (l1_15 + v42)
def G_X2_hull_L4  (f0 : Fig) : Nat → Int32 → Int32 → Option (Int32)
  | 0, _, _ => none
  | n4 + 1, l2_4, l1_4 =>
    (G_X1_sizeOf f0 0).bind fun v7 =>
    if v7 ≤ l2_4 then
      some l1_4
    else
      G_X2_hull_L15 (G_X2_hull_L4 f0 n4) f0 FU 0 l2_4 l1_4
def G_X2_hull (f0 : Fig) : Option (Int32) :=
  G_X2_hull_L4 f0 FU 0 0
abbrev rm_X2_hull : Room := { frames := 3, cells := 0, slots := 0, locals := 72 }
theorem hdS_X2_hull : yX2_hull.cls ≠ "java/lang/invoke/MethodHandle" ∧ yX2_hull.cls ≠ "java/lang/invoke/VarHandle" ∧ (parseMethodDescriptor yX2_hull.desc).map (fun d => d.parameters.length) = some 1 := by decide +kernel
set_option maxHeartbeats 4000000 in
set_option maxRecDepth 100000 in
theorem c_X2_hull (l : Launch) (dC : Nat → ClassId) (dI : Nat → Nat → Nat) (cy : Nat → ClassId) (a0 : Nat → Nat) (f0 : Fig) (res : Int32) (h : G_X2_hull f0 = some res) : CT l (dC, dI) (TY cy) yX2_hull cX2_hull 4 (some .int) rm_X2_hull [.ref (a0 0)] (wFig a0 cy f0) (wFig a0 cy f0) (some (.int res)) := by
  refine CT.mk_i (own := RX2) ⟨by decide, rfl⟩ (Nat.le_of_ble_eq_true rfl) ?_
  intro p e s mm args below meth cd A Q hx hb hml hown htg hN hK hA hP hD hS hE ls hl
  have hl : lv_has ls 4 [(0, .ref (a0 0))] := hl
  replace h : _ = some res := h
  unfold G_X2_hull at h
  obtain ⟨H, hH⟩ : ∃ H, H = s.heap := ⟨_, rfl⟩
  obtain ⟨locs, hlocs⟩ : ∃ locs : List Loc, locs = [] := ⟨_, rfl⟩
  rw [← hlocs] at hS ⊢
  have hS : va_S A s.heap H locs := by rw [hH]; exact hS
  rw [← hH] at hP ⊢
  refine lv_iconst (v := 0) hx hb dX2_hull_0 (by decide) ?_
  refine lv_istore_n (lv' := [(1, .int 0), (0, .ref (a0 0))]) hx hb dX2_hull_1 rfl hl (by decide) rfl (fun ls hl => ?_)
  refine lv_iconst (v := 0) hx hb dX2_hull_2 (by decide) ?_
  refine lv_istore_n (lv' := [(2, .int 0), (1, .int 0), (0, .ref (a0 0))]) hx hb dX2_hull_3 rfl hl (by decide) rfl (fun ls hl => ?_)
  have hL4 : ∀ (n4 : Nat) (l2_4 : Int32) (l1_4 : Int32) (H : Heap) (locs : List Loc) (ls : Array Slot), G_X2_hull_L4 f0 n4 l2_4 l1_4 = some res → va_P (dC, dI) vwCl (wFig a0 cy f0) H → va_D A (wFig a0 cy f0) → va_S A s.heap H locs → lv_has ls 4 [(2, .int l2_4), (1, .int l1_4), (0, .ref (a0 0))] → W p l e rm_X2_hull s mm args below meth cd H locs 0 0 Q (F0 mm 4 ls []) := by
    intro n4
    induction n4 with
    | zero => intro l2_4 l1_4 H locs ls h; exact absurd h (by simp [G_X2_hull_L4])
    | succ n4 ih4 =>
      intro l2_4 l1_4 H locs ls h hP hD hS hl
      rw [G_X2_hull_L4] at h
      refine lv_iload_n hx hb dX2_hull_4 rfl (lv_at hl 0 rfl) ?_
      refine lv_aload_n hx hb dX2_hull_5 rfl (lv_at hl 2 rfl) ?_
      refine lv_iconst (v := 0) hx hb dX2_hull_6 (by decide) ?_
      obtain ⟨v7, e7, h⟩ := bnd h
      refine cV (av := [.int 0]) (rest := [.int l2_4]) (st1 := [.int v7, .int l2_4]) (k1 := 0) (k2 := 0) (ci := 0) (q0 := 0) hx hb hml hown htg hN hK (c_X1_sizeOf l dC dI cy a0 f0 0 v7 e7) (g_V gw375 gw106 gw107 gw8 gw108) hdV_X1_sizeOf rfl ⟨⟨Nat.le_of_ble_eq_true rfl, Nat.le_of_ble_eq_true rfl⟩, Nat.le_of_ble_eq_true rfl, Nat.le_of_ble_eq_true rfl⟩ hP hD hS hA ⟨rfl, rfl⟩ rfl [0, 1, 2, 3, 4] [] rfl rfl rfl (by decide) (by decide) hl.1 rfl (Nat.le_of_ble_eq_true rfl) rfl rfl rfl dX2_hull_7 (fun H locs hP hD hS => ?_)
      have hP : va_P (dC, dI) vwCl (wFig a0 cy f0) H := hP
      have hD : va_D A (wFig a0 cy f0) := hD
      refine lv_icmp_ge (tgt := 59) hx hb dX2_hull_10 (by decide) (fun c10 => ?_) (fun c10 => ?_)
      · replace h := if_t h c10
        refine lv_iload_n hx hb dX2_hull_59 rfl (lv_at hl 1 rfl) ?_
        obtain rfl := Option.some.inj h
        exact hE H locs 60 ls _ hP hD hS rfl dX2_hull_60
      replace h := if_f h c10
      refine lv_iconst (v := 0) hx hb dX2_hull_13 (by decide) ?_
      refine lv_istore_n (lv' := [(3, .int 0), (2, .int l2_4), (1, .int l1_4), (0, .ref (a0 0))]) hx hb dX2_hull_14 rfl hl (by decide) rfl (fun ls hl => ?_)
      have hL15 : ∀ (n15 : Nat) (l3_15 : Int32) (l2_15 : Int32) (l1_15 : Int32) (H : Heap) (locs : List Loc) (ls : Array Slot), G_X2_hull_L15 (G_X2_hull_L4 f0 n4) f0 n15 l3_15 l2_15 l1_15 = some res → va_P (dC, dI) vwCl (wFig a0 cy f0) H → va_D A (wFig a0 cy f0) → va_S A s.heap H locs → lv_has ls 4 [(3, .int l3_15), (2, .int l2_15), (1, .int l1_15), (0, .ref (a0 0))] → W p l e rm_X2_hull s mm args below meth cd H locs 0 0 Q (F0 mm 15 ls []) := by
        intro n15
        induction n15 with
        | zero => intro l3_15 l2_15 l1_15 H locs ls h; exact absurd h (by simp [G_X2_hull_L15])
        | succ n15 ih15 =>
          intro l3_15 l2_15 l1_15 H locs ls h hP hD hS hl
          rw [G_X2_hull_L15] at h
          refine lv_iload_n hx hb dX2_hull_15 rfl (lv_at hl 0 rfl) ?_
          refine lv_aload_n hx hb dX2_hull_16 rfl (lv_at hl 3 rfl) ?_
          refine lv_iconst (v := 0) hx hb dX2_hull_17 (by decide) ?_
          obtain ⟨v18, e18, h⟩ := bnd h
          refine cV (av := [.int 0]) (rest := [.int l3_15]) (st1 := [.int v18, .int l3_15]) (k1 := 0) (k2 := 0) (ci := 0) (q0 := 0) hx hb hml hown htg hN hK (c_X1_sizeOf l dC dI cy a0 f0 0 v18 e18) (g_V gw375 gw106 gw107 gw8 gw108) hdV_X1_sizeOf rfl ⟨⟨Nat.le_of_ble_eq_true rfl, Nat.le_of_ble_eq_true rfl⟩, Nat.le_of_ble_eq_true rfl, Nat.le_of_ble_eq_true rfl⟩ hP hD hS hA ⟨rfl, rfl⟩ rfl [0, 1, 2, 3, 4] [] rfl rfl rfl (by decide) (by decide) hl.1 rfl (Nat.le_of_ble_eq_true rfl) rfl rfl rfl dX2_hull_18 (fun H locs hP hD hS => ?_)
          have hP : va_P (dC, dI) vwCl (wFig a0 cy f0) H := hP
          have hD : va_D A (wFig a0 cy f0) := hD
          refine lv_icmp_ge (tgt := 53) hx hb dX2_hull_21 (by decide) (fun c21 => ?_) (fun c21 => ?_)
          · replace h := if_t h c21
            refine lv_iinc (v := l2_15 + 1) (lv' := [(2, .int (l2_15 + 1)), (3, .int l3_15), (1, .int l1_15), (0, .ref (a0 0))]) hx hb dX2_hull_53 hl (k := 1) rfl rfl (by decide) rfl (fun ls hl => ?_)
            refine lv_goto (tgt := 4) hx hb dX2_hull_56 (by decide) ?_
            exact ih4 (l2_15 + 1) l1_15 H locs ls h hP hD hS (lv_sub hl [0, 2, 3] rfl)
          replace h := if_f h c21
          refine lv_iload_n hx hb dX2_hull_24 rfl (lv_at hl 1 rfl) ?_
          refine lv_iload_n hx hb dX2_hull_25 rfl (lv_at hl 0 rfl) ?_
          have hj47 : ∀ (l3_47 : Int32) (l2_47 : Int32) (l1_47 : Int32) (H : Heap) (locs : List Loc) (ls : Array Slot), G_X2_hull_j47 (G_X2_hull_L15 (G_X2_hull_L4 f0 n4) f0 n15) f0 l3_47 l2_47 l1_47 = some res → va_P (dC, dI) vwCl (wFig a0 cy f0) H → va_D A (wFig a0 cy f0) → va_S A s.heap H locs → lv_has ls 4 [(3, .int l3_47), (2, .int l2_47), (1, .int l1_47), (0, .ref (a0 0))] → W p l e rm_X2_hull s mm args below meth cd H locs 0 0 Q (F0 mm 47 ls []) := by
            intro l3_47 l2_47 l1_47 H locs ls h hP hD hS hl
            unfold G_X2_hull_j47 at h
            refine lv_iinc (v := l3_47 + 1) (lv' := [(3, .int (l3_47 + 1)), (2, .int l2_47), (1, .int l1_47), (0, .ref (a0 0))]) hx hb dX2_hull_47 hl (k := 0) rfl rfl (by decide) rfl (fun ls hl => ?_)
            refine lv_goto (tgt := 15) hx hb dX2_hull_50 (by decide) ?_
            exact ih15 (l3_47 + 1) l2_47 l1_47 H locs ls h hP hD hS (lv_sub hl [0, 1, 2, 3] rfl)
          refine lv_icmp_eq (tgt := 47) hx hb dX2_hull_26 (by decide) (fun c26 => ?_) (fun c26 => ?_)
          · replace h := if_t h c26
            exact hj47 l3_15 l2_15 l1_15 H locs ls h hP hD hS (lv_sub hl [0, 1, 2, 3] rfl)
          replace h := if_f h c26
          refine lv_aload_n hx hb dX2_hull_29 rfl (lv_at hl 3 rfl) ?_
          refine lv_iload_n hx hb dX2_hull_30 rfl (lv_at hl 1 rfl) ?_
          refine lv_iload_n hx hb dX2_hull_31 rfl (lv_at hl 0 rfl) ?_
          obtain ⟨v32, e32, h⟩ := bnd h
          refine cS (av := [.ref (a0 0), .int l2_15, .int l3_15]) (rest := []) (st1 := [.int v32]) (k1 := 0) (k2 := 0) hx hb hml hown htg hN hK (c_X2_isHullSide l dC dI cy a0 f0 l2_15 l3_15 v32 e32) (g_S gw591 gw592 gw20 gw593) hdS_X2_isHullSide rfl ⟨⟨Nat.le_of_ble_eq_true rfl, Nat.le_of_ble_eq_true rfl⟩, Nat.le_of_ble_eq_true rfl, Nat.le_of_ble_eq_true rfl⟩ hP hD hS hA [0, 1, 2, 3, 4] [] rfl rfl rfl (by decide) (by decide) hl.1 rfl (Nat.le_of_ble_eq_true rfl) rfl rfl rfl dX2_hull_32 (fun H locs hP hD hS => ?_)
          have hP : va_P (dC, dI) vwCl (wFig a0 cy f0) H := hP
          have hD : va_D A (wFig a0 cy f0) := hD
          refine lv_if_eq (tgt := 47) hx hb dX2_hull_35 (by decide) (fun c35 => ?_) (fun c35 => ?_)
          · replace h := if_t h c35
            exact hj47 l3_15 l2_15 l1_15 H locs ls h hP hD hS (lv_sub hl [0, 1, 2, 3] rfl)
          replace h := if_f h c35
          refine lv_iload_n hx hb dX2_hull_38 rfl (lv_at hl 2 rfl) ?_
          refine lv_aload_n hx hb dX2_hull_39 rfl (lv_at hl 3 rfl) ?_
          refine lv_iload_n hx hb dX2_hull_40 rfl (lv_at hl 1 rfl) ?_
          refine lv_iload_n hx hb dX2_hull_41 rfl (lv_at hl 0 rfl) ?_
          obtain ⟨v42, e42, h⟩ := bnd h
          refine cS (av := [.ref (a0 0), .int l2_15, .int l3_15]) (rest := [.int l1_15]) (st1 := [.int v42, .int l1_15]) (k1 := 0) (k2 := 0) hx hb hml hown htg hN hK (c_X2_product l dC dI cy a0 f0 l2_15 l3_15 v42 e42) (g_S gw377 gw378 gw20 gw379) hdS_X2_product rfl ⟨⟨Nat.le_of_ble_eq_true rfl, Nat.le_of_ble_eq_true rfl⟩, Nat.le_of_ble_eq_true rfl, Nat.le_of_ble_eq_true rfl⟩ hP hD hS hA [0, 1, 2, 3, 4] [] rfl rfl rfl (by decide) (by decide) hl.1 rfl (Nat.le_of_ble_eq_true rfl) rfl rfl rfl dX2_hull_42 (fun H locs hP hD hS => ?_)
          have hP : va_P (dC, dI) vwCl (wFig a0 cy f0) H := hP
          have hD : va_D A (wFig a0 cy f0) := hD
          refine lv_iadd hx hb dX2_hull_45 ?_
          refine lv_istore_n (lv' := [(1, .int (l1_15 + v42)), (3, .int l3_15), (2, .int l2_15), (0, .ref (a0 0))]) hx hb dX2_hull_46 rfl hl (by decide) rfl (fun ls hl => ?_)
          exact hj47 l3_15 l2_15 (l1_15 + v42) H locs ls h hP hD hS (lv_sub hl [1, 2, 0, 3] rfl)
      exact hL15 FU 0 l2_4 l1_4 H locs ls h hP hD hS (lv_sub hl [0, 1, 2, 3] rfl)
  exact hL4 FU 0 0 H locs ls h hP hD hS (lv_sub hl [0, 1, 2] rfl)
def G_X2_inside_L18  (f0 : Fig) : Nat → Int32 → Int32 → Option (Int32)
  | 0, _, _ => none
  | n18 + 1, l2_18, l1_18 =>
    if f_rings f0 ≤ l2_18 then
      some l1_18
    else
      (G_X2_ringArea f0 l2_18).bind fun v29 =>
      (G_X2_ringBorder f0 l2_18).bind fun v34 =>
      (G_X2_inside_L18 f0 n18) (l2_18 + 1) (l1_18 - (((v29 + v34) + 2) / 2))
def G_X2_inside (f0 : Fig) : Option (Int32) :=
  (G_X2_ringArea f0 0).bind fun v2 =>
  (G_X2_ringBorder f0 0).bind fun v7 =>
  G_X2_inside_L18 f0 FU 1 (((v2 - v7) + 2) / 2)
abbrev rm_X2_inside : Room := { frames := 4, cells := 0, slots := 0, locals := 88 }
theorem hdS_X2_inside : yX2_inside.cls ≠ "java/lang/invoke/MethodHandle" ∧ yX2_inside.cls ≠ "java/lang/invoke/VarHandle" ∧ (parseMethodDescriptor yX2_inside.desc).map (fun d => d.parameters.length) = some 1 := by decide +kernel
set_option maxHeartbeats 4000000 in
set_option maxRecDepth 100000 in
theorem c_X2_inside (l : Launch) (dC : Nat → ClassId) (dI : Nat → Nat → Nat) (cy : Nat → ClassId) (a0 : Nat → Nat) (f0 : Fig) (res : Int32) (h : G_X2_inside f0 = some res) : CT l (dC, dI) (TY cy) yX2_inside cX2_inside 3 (some .int) rm_X2_inside [.ref (a0 0)] (wFig a0 cy f0) (wFig a0 cy f0) (some (.int res)) := by
  refine CT.mk_i (own := RX2) ⟨by decide, rfl⟩ (Nat.le_of_ble_eq_true rfl) ?_
  intro p e s mm args below meth cd A Q hx hb hml hown htg hN hK hA hP hD hS hE ls hl
  have hl : lv_has ls 3 [(0, .ref (a0 0))] := hl
  replace h : _ = some res := h
  unfold G_X2_inside at h
  obtain ⟨H, hH⟩ : ∃ H, H = s.heap := ⟨_, rfl⟩
  obtain ⟨locs, hlocs⟩ : ∃ locs : List Loc, locs = [] := ⟨_, rfl⟩
  rw [← hlocs] at hS ⊢
  have hS : va_S A s.heap H locs := by rw [hH]; exact hS
  rw [← hH] at hP ⊢
  refine lv_aload_n hx hb dX2_inside_0 rfl (lv_at hl 0 rfl) ?_
  refine lv_iconst (v := 0) hx hb dX2_inside_1 (by decide) ?_
  obtain ⟨v2, e2, h⟩ := bnd h
  refine cS (av := [.ref (a0 0), .int 0]) (rest := []) (st1 := [.int v2]) (k1 := 0) (k2 := 0) hx hb hml hown htg hN hK (c_X2_ringArea l dC dI cy a0 f0 0 v2 e2) (g_S gw368 gw369 gw20 gw370) hdS_X2_ringArea rfl ⟨⟨Nat.le_of_ble_eq_true rfl, Nat.le_of_ble_eq_true rfl⟩, Nat.le_of_ble_eq_true rfl, Nat.le_of_ble_eq_true rfl⟩ hP hD hS hA [0, 1, 2, 3, 4] [] rfl rfl rfl (by decide) (by decide) hl.1 rfl (Nat.le_of_ble_eq_true rfl) rfl rfl rfl dX2_inside_2 (fun H locs hP hD hS => ?_)
  have hP : va_P (dC, dI) vwCl (wFig a0 cy f0) H := hP
  have hD : va_D A (wFig a0 cy f0) := hD
  refine lv_aload_n hx hb dX2_inside_5 rfl (lv_at hl 0 rfl) ?_
  refine lv_iconst (v := 0) hx hb dX2_inside_6 (by decide) ?_
  obtain ⟨v7, e7, h⟩ := bnd h
  refine cS (av := [.ref (a0 0), .int 0]) (rest := [.int v2]) (st1 := [.int v7, .int v2]) (k1 := 0) (k2 := 0) hx hb hml hown htg hN hK (c_X2_ringBorder l dC dI cy a0 f0 0 v7 e7) (g_S gw573 gw574 gw20 gw575) hdS_X2_ringBorder rfl ⟨⟨Nat.le_of_ble_eq_true rfl, Nat.le_of_ble_eq_true rfl⟩, Nat.le_of_ble_eq_true rfl, Nat.le_of_ble_eq_true rfl⟩ hP hD hS hA [0, 1, 2, 3, 4] [] rfl rfl rfl (by decide) (by decide) hl.1 rfl (Nat.le_of_ble_eq_true rfl) rfl rfl rfl dX2_inside_7 (fun H locs hP hD hS => ?_)
  have hP : va_P (dC, dI) vwCl (wFig a0 cy f0) H := hP
  have hD : va_D A (wFig a0 cy f0) := hD
  refine lv_isub hx hb dX2_inside_10 ?_
  refine lv_iconst (v := 2) hx hb dX2_inside_11 (by decide) ?_
  refine lv_iadd hx hb dX2_inside_12 ?_
  refine lv_iconst (v := 2) hx hb dX2_inside_13 (by decide) ?_
  refine lv_idiv hx hb dX2_inside_14 (by decide) ?_
  refine lv_istore_n (lv' := [(1, .int (((v2 - v7) + 2) / 2)), (0, .ref (a0 0))]) hx hb dX2_inside_15 rfl hl (by decide) rfl (fun ls hl => ?_)
  refine lv_iconst (v := 1) hx hb dX2_inside_16 (by decide) ?_
  refine lv_istore_n (lv' := [(2, .int 1), (1, .int (((v2 - v7) + 2) / 2)), (0, .ref (a0 0))]) hx hb dX2_inside_17 rfl hl (by decide) rfl (fun ls hl => ?_)
  have hL18 : ∀ (n18 : Nat) (l2_18 : Int32) (l1_18 : Int32) (H : Heap) (locs : List Loc) (ls : Array Slot), G_X2_inside_L18 f0 n18 l2_18 l1_18 = some res → va_P (dC, dI) vwCl (wFig a0 cy f0) H → va_D A (wFig a0 cy f0) → va_S A s.heap H locs → lv_has ls 3 [(2, .int l2_18), (1, .int l1_18), (0, .ref (a0 0))] → W p l e rm_X2_inside s mm args below meth cd H locs 0 0 Q (F0 mm 18 ls []) := by
    intro n18
    induction n18 with
    | zero => intro l2_18 l1_18 H locs ls h; exact absurd h (by simp [G_X2_inside_L18])
    | succ n18 ih18 =>
      intro l2_18 l1_18 H locs ls h hP hD hS hl
      rw [G_X2_inside_L18] at h
      refine lv_iload_n hx hb dX2_inside_18 rfl (lv_at hl 0 rfl) ?_
      refine lv_aload_n hx hb dX2_inside_19 rfl (lv_at hl 2 rfl) ?_
      refine va_getN (D := (dC, dI)) (ci := 0) (v := .int (f_rings f0)) (C := RX1) (T := TX1) (N := 6) hx hb htg inX1 hown hK hP 0 rfl rfl 0 (by decide) (va_Nw.use rfl (hN (.fieldLinkNest RX2 43 "SquaredPaper$Figure" "rings" "I" "SquaredPaper") (by decide +kernel))) (fun _ h9 => h9) rfl dX2_inside_20 ?_
      refine lv_icmp_ge (tgt := 50) hx hb dX2_inside_23 (by decide) (fun c23 => ?_) (fun c23 => ?_)
      · replace h := if_t h c23
        refine lv_iload_n hx hb dX2_inside_50 rfl (lv_at hl 1 rfl) ?_
        obtain rfl := Option.some.inj h
        exact hE H locs 51 ls _ hP hD hS rfl dX2_inside_51
      replace h := if_f h c23
      refine lv_iload_n hx hb dX2_inside_26 rfl (lv_at hl 1 rfl) ?_
      refine lv_aload_n hx hb dX2_inside_27 rfl (lv_at hl 2 rfl) ?_
      refine lv_iload_n hx hb dX2_inside_28 rfl (lv_at hl 0 rfl) ?_
      obtain ⟨v29, e29, h⟩ := bnd h
      refine cS (av := [.ref (a0 0), .int l2_18]) (rest := [.int l1_18]) (st1 := [.int v29, .int l1_18]) (k1 := 0) (k2 := 0) hx hb hml hown htg hN hK (c_X2_ringArea l dC dI cy a0 f0 l2_18 v29 e29) (g_S gw368 gw369 gw20 gw370) hdS_X2_ringArea rfl ⟨⟨Nat.le_of_ble_eq_true rfl, Nat.le_of_ble_eq_true rfl⟩, Nat.le_of_ble_eq_true rfl, Nat.le_of_ble_eq_true rfl⟩ hP hD hS hA [0, 1, 2, 3, 4] [] rfl rfl rfl (by decide) (by decide) hl.1 rfl (Nat.le_of_ble_eq_true rfl) rfl rfl rfl dX2_inside_29 (fun H locs hP hD hS => ?_)
      have hP : va_P (dC, dI) vwCl (wFig a0 cy f0) H := hP
      have hD : va_D A (wFig a0 cy f0) := hD
      refine lv_aload_n hx hb dX2_inside_32 rfl (lv_at hl 2 rfl) ?_
      refine lv_iload_n hx hb dX2_inside_33 rfl (lv_at hl 0 rfl) ?_
      obtain ⟨v34, e34, h⟩ := bnd h
      refine cS (av := [.ref (a0 0), .int l2_18]) (rest := [.int v29, .int l1_18]) (st1 := [.int v34, .int v29, .int l1_18]) (k1 := 0) (k2 := 0) hx hb hml hown htg hN hK (c_X2_ringBorder l dC dI cy a0 f0 l2_18 v34 e34) (g_S gw573 gw574 gw20 gw575) hdS_X2_ringBorder rfl ⟨⟨Nat.le_of_ble_eq_true rfl, Nat.le_of_ble_eq_true rfl⟩, Nat.le_of_ble_eq_true rfl, Nat.le_of_ble_eq_true rfl⟩ hP hD hS hA [0, 1, 2, 3, 4] [] rfl rfl rfl (by decide) (by decide) hl.1 rfl (Nat.le_of_ble_eq_true rfl) rfl rfl rfl dX2_inside_34 (fun H locs hP hD hS => ?_)
      have hP : va_P (dC, dI) vwCl (wFig a0 cy f0) H := hP
      have hD : va_D A (wFig a0 cy f0) := hD
      refine lv_iadd hx hb dX2_inside_37 ?_
      refine lv_iconst (v := 2) hx hb dX2_inside_38 (by decide) ?_
      refine lv_iadd hx hb dX2_inside_39 ?_
      refine lv_iconst (v := 2) hx hb dX2_inside_40 (by decide) ?_
      refine lv_idiv hx hb dX2_inside_41 (by decide) ?_
      refine lv_isub hx hb dX2_inside_42 ?_
      refine lv_istore_n (lv' := [(1, .int (l1_18 - (((v29 + v34) + 2) / 2))), (2, .int l2_18), (0, .ref (a0 0))]) hx hb dX2_inside_43 rfl hl (by decide) rfl (fun ls hl => ?_)
      refine lv_iinc (v := l2_18 + 1) (lv' := [(2, .int (l2_18 + 1)), (1, .int (l1_18 - (((v29 + v34) + 2) / 2))), (0, .ref (a0 0))]) hx hb dX2_inside_44 hl (k := 1) rfl rfl (by decide) rfl (fun ls hl => ?_)
      refine lv_goto (tgt := 18) hx hb dX2_inside_47 (by decide) ?_
      exact ih18 (l2_18 + 1) (l1_18 - (((v29 + v34) + 2) / 2)) H locs ls h hP hD hS (lv_sub hl [0, 1, 2] rfl)
  exact hL18 FU 1 (((v2 - v7) + 2) / 2) H locs ls h hP hD hS (lv_sub hl [0, 1, 2] rfl)
def G_X2_kind (f0 : Fig) (p1 : Int32) (p2 : Int32) : Option (Int32) :=
  (G_X1_bendAt f0 p1 p2).bind fun v3 =>
  if v3 = 0 then
    some 0
  else
    ((if v3 ≤ 0 then
        some 0
      else
        some 1) : Option (Int32)).bind fun b14 =>
    (G_X2_ringSum f0 p1).bind fun v24 =>
    ((if v24 ≤ 0 then
        some 0
      else
        some 1) : Option (Int32)).bind fun b27 =>
    if b14 = b27 then
      some 1
    else
      some (-1)
abbrev rm_X2_kind : Room := { frames := 3, cells := 0, slots := 0, locals := 68 }
theorem hdS_X2_kind : yX2_kind.cls ≠ "java/lang/invoke/MethodHandle" ∧ yX2_kind.cls ≠ "java/lang/invoke/VarHandle" ∧ (parseMethodDescriptor yX2_kind.desc).map (fun d => d.parameters.length) = some 3 := by decide +kernel
set_option maxHeartbeats 4000000 in
set_option maxRecDepth 100000 in
theorem c_X2_kind (l : Launch) (dC : Nat → ClassId) (dI : Nat → Nat → Nat) (cy : Nat → ClassId) (a0 : Nat → Nat) (f0 : Fig) (p1 : Int32) (p2 : Int32) (res : Int32) (h : G_X2_kind f0 p1 p2 = some res) : CT l (dC, dI) (TY cy) yX2_kind cX2_kind 4 (some .int) rm_X2_kind [.ref (a0 0), .int p1, .int p2] (wFig a0 cy f0) (wFig a0 cy f0) (some (.int res)) := by
  refine CT.mk_i (own := RX2) ⟨by decide, rfl⟩ (Nat.le_of_ble_eq_true rfl) ?_
  intro p e s mm args below meth cd A Q hx hb hml hown htg hN hK hA hP hD hS hE ls hl
  have hl : lv_has ls 4 [(0, .ref (a0 0)), (1, .int p1), (2, .int p2)] := hl
  replace h : _ = some res := h
  unfold G_X2_kind at h
  obtain ⟨H, hH⟩ : ∃ H, H = s.heap := ⟨_, rfl⟩
  obtain ⟨locs, hlocs⟩ : ∃ locs : List Loc, locs = [] := ⟨_, rfl⟩
  rw [← hlocs] at hS ⊢
  have hS : va_S A s.heap H locs := by rw [hH]; exact hS
  rw [← hH] at hP ⊢
  refine lv_aload_n hx hb dX2_kind_0 rfl (lv_at hl 0 rfl) ?_
  refine lv_iload_n hx hb dX2_kind_1 rfl (lv_at hl 1 rfl) ?_
  refine lv_iload_n hx hb dX2_kind_2 rfl (lv_at hl 2 rfl) ?_
  obtain ⟨v3, e3, h⟩ := bnd h
  refine cV (av := [.int p1, .int p2]) (rest := []) (st1 := [.int v3]) (k1 := 0) (k2 := 0) (ci := 0) (q0 := 0) hx hb hml hown htg hN hK (c_X1_bendAt l dC dI cy a0 f0 p1 p2 v3 e3) (g_V gw519 gw520 gw521 gw8 gw522) hdV_X1_bendAt rfl ⟨⟨Nat.le_of_ble_eq_true rfl, Nat.le_of_ble_eq_true rfl⟩, Nat.le_of_ble_eq_true rfl, Nat.le_of_ble_eq_true rfl⟩ hP hD hS hA ⟨rfl, rfl⟩ rfl [0, 1, 2, 3, 4] [] rfl rfl rfl (by decide) (by decide) hl.1 rfl (Nat.le_of_ble_eq_true rfl) rfl rfl rfl dX2_kind_3 (fun H locs hP hD hS => ?_)
  have hP : va_P (dC, dI) vwCl (wFig a0 cy f0) H := hP
  have hD : va_D A (wFig a0 cy f0) := hD
  refine lv_istore_n (lv' := [(3, .int v3), (0, .ref (a0 0)), (1, .int p1), (2, .int p2)]) hx hb dX2_kind_6 rfl hl (by decide) rfl (fun ls hl => ?_)
  refine lv_iload_n hx hb dX2_kind_7 rfl (lv_at hl 0 rfl) ?_
  refine lv_if_ne (tgt := 13) hx hb dX2_kind_8 (by decide) (fun c8 => ?_) (fun c8 => ?_)
  · replace h := if_f h c8
    refine lv_iload_n hx hb dX2_kind_13 rfl (lv_at hl 0 rfl) ?_
    obtain ⟨b14, e14, h⟩ := bnd h
    have hr22 : ∀ (H : Heap) (locs : List Loc) (ls : Array Slot), va_P (dC, dI) vwCl (wFig a0 cy f0) H → va_D A (wFig a0 cy f0) → va_S A s.heap H locs → lv_has ls 4 [(3, .int v3), (0, .ref (a0 0)), (1, .int p1), (2, .int p2)] → W p l e rm_X2_kind s mm args below meth cd H locs 0 0 Q (F0 mm 22 ls [.int b14]) := by
      intro H locs ls hP hD hS hl
      refine lv_aload_n hx hb dX2_kind_22 rfl (lv_at hl 1 rfl) ?_
      refine lv_iload_n hx hb dX2_kind_23 rfl (lv_at hl 2 rfl) ?_
      obtain ⟨v24, e24, h⟩ := bnd h
      refine cS (av := [.ref (a0 0), .int p1]) (rest := [.int b14]) (st1 := [.int v24, .int b14]) (k1 := 0) (k2 := 0) hx hb hml hown htg hN hK (c_X2_ringSum l dC dI cy a0 f0 p1 v24 e24) (g_S gw371 gw372 gw20 gw373) hdS_X2_ringSum rfl ⟨⟨Nat.le_of_ble_eq_true rfl, Nat.le_of_ble_eq_true rfl⟩, Nat.le_of_ble_eq_true rfl, Nat.le_of_ble_eq_true rfl⟩ hP hD hS hA [0, 1, 2, 3, 4] [] rfl rfl rfl (by decide) (by decide) hl.1 rfl (Nat.le_of_ble_eq_true rfl) rfl rfl rfl dX2_kind_24 (fun H locs hP hD hS => ?_)
      have hP : va_P (dC, dI) vwCl (wFig a0 cy f0) H := hP
      have hD : va_D A (wFig a0 cy f0) := hD
      obtain ⟨b27, e27, h⟩ := bnd h
      have hr35 : ∀ (H : Heap) (locs : List Loc) (ls : Array Slot), va_P (dC, dI) vwCl (wFig a0 cy f0) H → va_D A (wFig a0 cy f0) → va_S A s.heap H locs → lv_has ls 4 [(3, .int v3), (0, .ref (a0 0)), (1, .int p1), (2, .int p2)] → W p l e rm_X2_kind s mm args below meth cd H locs 0 0 Q (F0 mm 35 ls [.int b27, .int b14]) := by
        intro H locs ls hP hD hS hl
        refine lv_icmp_ne (tgt := 42) hx hb dX2_kind_35 (by decide) (fun c35 => ?_) (fun c35 => ?_)
        · replace h := if_f h c35
          refine lv_iconst (v := (-1)) hx hb dX2_kind_42 (by decide) ?_
          obtain rfl := Option.some.inj h
          exact hE H locs 43 ls _ hP hD hS rfl dX2_kind_43
        replace h := if_t h c35
        refine lv_iconst (v := 1) hx hb dX2_kind_38 (by decide) ?_
        refine lv_goto (tgt := 43) hx hb dX2_kind_39 (by decide) ?_
        obtain rfl := Option.some.inj h
        exact hE H locs 43 ls _ hP hD hS rfl dX2_kind_43
      have h := e27
      clear e27
      refine lv_if_le (tgt := 34) hx hb dX2_kind_27 (by decide) (fun c27 => ?_) (fun c27 => ?_)
      · replace h := if_t h c27
        refine lv_iconst (v := 0) hx hb dX2_kind_34 (by decide) ?_
        obtain rfl := Option.some.inj h
        exact hr35 H locs ls hP hD hS hl
      replace h := if_f h c27
      refine lv_iconst (v := 1) hx hb dX2_kind_30 (by decide) ?_
      refine lv_goto (tgt := 35) hx hb dX2_kind_31 (by decide) ?_
      obtain rfl := Option.some.inj h
      exact hr35 H locs ls hP hD hS hl
    have h := e14
    clear e14
    refine lv_if_le (tgt := 21) hx hb dX2_kind_14 (by decide) (fun c14 => ?_) (fun c14 => ?_)
    · replace h := if_t h c14
      refine lv_iconst (v := 0) hx hb dX2_kind_21 (by decide) ?_
      obtain rfl := Option.some.inj h
      exact hr22 H locs ls hP hD hS hl
    replace h := if_f h c14
    refine lv_iconst (v := 1) hx hb dX2_kind_17 (by decide) ?_
    refine lv_goto (tgt := 22) hx hb dX2_kind_18 (by decide) ?_
    obtain rfl := Option.some.inj h
    exact hr22 H locs ls hP hD hS hl
  replace h := if_t h c8
  refine lv_iconst (v := 0) hx hb dX2_kind_11 (by decide) ?_
  obtain rfl := Option.some.inj h
  exact hE H locs 12 ls _ hP hD hS rfl dX2_kind_12
def G_X2_outlineCorners_j26 (r4 : Int32 → Int32 → Int32 → Option (Int32)) (f0 : Fig) (l3_26 : Int32) (l2_26 : Int32) (l1_26 : Int32) : Option (Int32) :=
  r4 (l3_26 + 1) l2_26 l1_26
def G_X2_outlineCorners_L4  (f0 : Fig) : Nat → Int32 → Int32 → Int32 → Option (Int32)
  | 0, _, _, _ => none
  | n4 + 1, l3_4, l2_4, l1_4 =>
    (G_X1_sizeOf f0 0).bind fun v7 =>
    if v7 ≤ l3_4 then
      some l2_4
    else
      (G_X2_kind f0 0 l3_4).bind fun v16 =>
      if v16 = l1_4 then
        G_X2_outlineCorners_j26 (G_X2_outlineCorners_L4 f0 n4) f0 l3_4 (l2_4 + 1) l1_4
      else
        G_X2_outlineCorners_j26 (G_X2_outlineCorners_L4 f0 n4) f0 l3_4 l2_4 l1_4
def G_X2_outlineCorners (f0 : Fig) (p1 : Int32) : Option (Int32) :=
  G_X2_outlineCorners_L4 f0 FU 0 0 p1
abbrev rm_X2_outlineCorners : Room := { frames := 4, cells := 0, slots := 0, locals := 91 }
theorem hdS_X2_outlineCorners : yX2_outlineCorners.cls ≠ "java/lang/invoke/MethodHandle" ∧ yX2_outlineCorners.cls ≠ "java/lang/invoke/VarHandle" ∧ (parseMethodDescriptor yX2_outlineCorners.desc).map (fun d => d.parameters.length) = some 2 := by decide +kernel
set_option maxHeartbeats 4000000 in
set_option maxRecDepth 100000 in
theorem c_X2_outlineCorners (l : Launch) (dC : Nat → ClassId) (dI : Nat → Nat → Nat) (cy : Nat → ClassId) (a0 : Nat → Nat) (f0 : Fig) (p1 : Int32) (res : Int32) (h : G_X2_outlineCorners f0 p1 = some res) : CT l (dC, dI) (TY cy) yX2_outlineCorners cX2_outlineCorners 4 (some .int) rm_X2_outlineCorners [.ref (a0 0), .int p1] (wFig a0 cy f0) (wFig a0 cy f0) (some (.int res)) := by
  refine CT.mk_i (own := RX2) ⟨by decide, rfl⟩ (Nat.le_of_ble_eq_true rfl) ?_
  intro p e s mm args below meth cd A Q hx hb hml hown htg hN hK hA hP hD hS hE ls hl
  have hl : lv_has ls 4 [(0, .ref (a0 0)), (1, .int p1)] := hl
  replace h : _ = some res := h
  unfold G_X2_outlineCorners at h
  obtain ⟨H, hH⟩ : ∃ H, H = s.heap := ⟨_, rfl⟩
  obtain ⟨locs, hlocs⟩ : ∃ locs : List Loc, locs = [] := ⟨_, rfl⟩
  rw [← hlocs] at hS ⊢
  have hS : va_S A s.heap H locs := by rw [hH]; exact hS
  rw [← hH] at hP ⊢
  refine lv_iconst (v := 0) hx hb dX2_outlineCorners_0 (by decide) ?_
  refine lv_istore_n (lv' := [(2, .int 0), (0, .ref (a0 0)), (1, .int p1)]) hx hb dX2_outlineCorners_1 rfl hl (by decide) rfl (fun ls hl => ?_)
  refine lv_iconst (v := 0) hx hb dX2_outlineCorners_2 (by decide) ?_
  refine lv_istore_n (lv' := [(3, .int 0), (2, .int 0), (0, .ref (a0 0)), (1, .int p1)]) hx hb dX2_outlineCorners_3 rfl hl (by decide) rfl (fun ls hl => ?_)
  have hL4 : ∀ (n4 : Nat) (l3_4 : Int32) (l2_4 : Int32) (l1_4 : Int32) (H : Heap) (locs : List Loc) (ls : Array Slot), G_X2_outlineCorners_L4 f0 n4 l3_4 l2_4 l1_4 = some res → va_P (dC, dI) vwCl (wFig a0 cy f0) H → va_D A (wFig a0 cy f0) → va_S A s.heap H locs → lv_has ls 4 [(3, .int l3_4), (2, .int l2_4), (0, .ref (a0 0)), (1, .int l1_4)] → W p l e rm_X2_outlineCorners s mm args below meth cd H locs 0 0 Q (F0 mm 4 ls []) := by
    intro n4
    induction n4 with
    | zero => intro l3_4 l2_4 l1_4 H locs ls h; exact absurd h (by simp [G_X2_outlineCorners_L4])
    | succ n4 ih4 =>
      intro l3_4 l2_4 l1_4 H locs ls h hP hD hS hl
      rw [G_X2_outlineCorners_L4] at h
      refine lv_iload_n hx hb dX2_outlineCorners_4 rfl (lv_at hl 0 rfl) ?_
      refine lv_aload_n hx hb dX2_outlineCorners_5 rfl (lv_at hl 2 rfl) ?_
      refine lv_iconst (v := 0) hx hb dX2_outlineCorners_6 (by decide) ?_
      obtain ⟨v7, e7, h⟩ := bnd h
      refine cV (av := [.int 0]) (rest := [.int l3_4]) (st1 := [.int v7, .int l3_4]) (k1 := 0) (k2 := 0) (ci := 0) (q0 := 0) hx hb hml hown htg hN hK (c_X1_sizeOf l dC dI cy a0 f0 0 v7 e7) (g_V gw375 gw106 gw107 gw8 gw108) hdV_X1_sizeOf rfl ⟨⟨Nat.le_of_ble_eq_true rfl, Nat.le_of_ble_eq_true rfl⟩, Nat.le_of_ble_eq_true rfl, Nat.le_of_ble_eq_true rfl⟩ hP hD hS hA ⟨rfl, rfl⟩ rfl [0, 1, 2, 3, 4] [] rfl rfl rfl (by decide) (by decide) hl.1 rfl (Nat.le_of_ble_eq_true rfl) rfl rfl rfl dX2_outlineCorners_7 (fun H locs hP hD hS => ?_)
      have hP : va_P (dC, dI) vwCl (wFig a0 cy f0) H := hP
      have hD : va_D A (wFig a0 cy f0) := hD
      refine lv_icmp_ge (tgt := 32) hx hb dX2_outlineCorners_10 (by decide) (fun c10 => ?_) (fun c10 => ?_)
      · replace h := if_t h c10
        refine lv_iload_n hx hb dX2_outlineCorners_32 rfl (lv_at hl 1 rfl) ?_
        obtain rfl := Option.some.inj h
        exact hE H locs 33 ls _ hP hD hS rfl dX2_outlineCorners_33
      replace h := if_f h c10
      refine lv_aload_n hx hb dX2_outlineCorners_13 rfl (lv_at hl 2 rfl) ?_
      refine lv_iconst (v := 0) hx hb dX2_outlineCorners_14 (by decide) ?_
      refine lv_iload_n hx hb dX2_outlineCorners_15 rfl (lv_at hl 0 rfl) ?_
      obtain ⟨v16, e16, h⟩ := bnd h
      refine cS (av := [.ref (a0 0), .int 0, .int l3_4]) (rest := []) (st1 := [.int v16]) (k1 := 0) (k2 := 0) hx hb hml hown htg hN hK (c_X2_kind l dC dI cy a0 f0 0 l3_4 v16 e16) (g_S gw583 gw517 gw20 gw518) hdS_X2_kind rfl ⟨⟨Nat.le_of_ble_eq_true rfl, Nat.le_of_ble_eq_true rfl⟩, Nat.le_of_ble_eq_true rfl, Nat.le_of_ble_eq_true rfl⟩ hP hD hS hA [0, 1, 2, 3, 4] [] rfl rfl rfl (by decide) (by decide) hl.1 rfl (Nat.le_of_ble_eq_true rfl) rfl rfl rfl dX2_outlineCorners_16 (fun H locs hP hD hS => ?_)
      have hP : va_P (dC, dI) vwCl (wFig a0 cy f0) H := hP
      have hD : va_D A (wFig a0 cy f0) := hD
      refine lv_iload_n hx hb dX2_outlineCorners_19 rfl (lv_at hl 3 rfl) ?_
      have hj26 : ∀ (l3_26 : Int32) (l2_26 : Int32) (l1_26 : Int32) (H : Heap) (locs : List Loc) (ls : Array Slot), G_X2_outlineCorners_j26 (G_X2_outlineCorners_L4 f0 n4) f0 l3_26 l2_26 l1_26 = some res → va_P (dC, dI) vwCl (wFig a0 cy f0) H → va_D A (wFig a0 cy f0) → va_S A s.heap H locs → lv_has ls 4 [(3, .int l3_26), (2, .int l2_26), (0, .ref (a0 0)), (1, .int l1_26)] → W p l e rm_X2_outlineCorners s mm args below meth cd H locs 0 0 Q (F0 mm 26 ls []) := by
        intro l3_26 l2_26 l1_26 H locs ls h hP hD hS hl
        unfold G_X2_outlineCorners_j26 at h
        refine lv_iinc (v := l3_26 + 1) (lv' := [(3, .int (l3_26 + 1)), (2, .int l2_26), (0, .ref (a0 0)), (1, .int l1_26)]) hx hb dX2_outlineCorners_26 hl (k := 0) rfl rfl (by decide) rfl (fun ls hl => ?_)
        refine lv_goto (tgt := 4) hx hb dX2_outlineCorners_29 (by decide) ?_
        exact ih4 (l3_26 + 1) l2_26 l1_26 H locs ls h hP hD hS (lv_sub hl [0, 1, 2, 3] rfl)
      refine lv_icmp_ne (tgt := 26) hx hb dX2_outlineCorners_20 (by decide) (fun c20 => ?_) (fun c20 => ?_)
      · replace h := if_f h c20
        exact hj26 l3_4 l2_4 l1_4 H locs ls h hP hD hS (lv_sub hl [0, 1, 2, 3] rfl)
      replace h := if_t h c20
      refine lv_iinc (v := l2_4 + 1) (lv' := [(2, .int (l2_4 + 1)), (3, .int l3_4), (0, .ref (a0 0)), (1, .int l1_4)]) hx hb dX2_outlineCorners_23 hl (k := 1) rfl rfl (by decide) rfl (fun ls hl => ?_)
      exact hj26 l3_4 (l2_4 + 1) l1_4 H locs ls h hP hD hS (lv_sub hl [1, 0, 2, 3] rfl)
  exact hL4 FU 0 0 p1 H locs ls h hP hD hS (lv_sub hl [0, 1, 2, 3] rfl)
def G_X6_between_L27  (f0 : Fig) : Nat → Int32 → Int32 → Int32 → Option (Int32)
  | 0, _, _, _ => none
  | n27 + 1, l3_27, l1_27, l2_27 =>
    if f_corners f0 ≤ l3_27 then
      (G_X1_xOf f0 l1_27).bind fun v70 =>
      (G_X1_xOf f0 l2_27).bind fun v75 =>
      (G_X1_yOf f0 l1_27).bind fun v82 =>
      (G_X1_yOf f0 l2_27).bind fun v87 =>
      (G_X1_surrounds f0 0 (v70 + v75) (v82 + v87)).bind fun v98 =>
      if v98 = 0 then
        some 0
      else
        (G_X1_inSomeHole f0 (v70 + v75) (v82 + v87)).bind fun v108 =>
        if v108 = 0 then
          some 1
        else
          some 0
    else
      (G_X1_cornerOnLine f0 l3_27 l1_27 l2_27).bind fun v39 =>
      if v39 = 0 then
        (G_X1_nextOf f0 l3_27).bind fun v51 =>
        (G_X1_linesCross f0 l1_27 l2_27 l3_27 v51).bind fun v54 =>
        if v54 = 0 then
          (G_X6_between_L27 f0 n27) (l3_27 + 1) l1_27 l2_27
        else
          some 0
      else
        some 0
def G_X6_between (f0 : Fig) (p1 : Int32) (p2 : Int32) : Option (Int32) :=
  if p1 = p2 then
    some 0
  else
    (G_X1_nextOf f0 p1).bind fun v7 =>
    if v7 = p2 then
      some 0
    else
      (G_X1_nextOf f0 p2).bind fun v16 =>
      if v16 = p1 then
        some 0
      else
        G_X6_between_L27 f0 FU 0 p1 p2
abbrev rm_X6_between : Room := { frames := 3, cells := 0, slots := 0, locals := 77 }
theorem hdS_X6_between : yX6_between.cls ≠ "java/lang/invoke/MethodHandle" ∧ yX6_between.cls ≠ "java/lang/invoke/VarHandle" ∧ (parseMethodDescriptor yX6_between.desc).map (fun d => d.parameters.length) = some 3 := by decide +kernel
set_option maxHeartbeats 4000000 in
set_option maxRecDepth 100000 in
theorem c_X6_between (l : Launch) (dC : Nat → ClassId) (dI : Nat → Nat → Nat) (cy : Nat → ClassId) (a0 : Nat → Nat) (f0 : Fig) (p1 : Int32) (p2 : Int32) (res : Int32) (h : G_X6_between f0 p1 p2 = some res) : CT l (dC, dI) (TY cy) yX6_between cX6_between 5 (some .boolean) rm_X6_between [.ref (a0 0), .int p1, .int p2] (wFig a0 cy f0) (wFig a0 cy f0) (some (.int res)) := by
  refine CT.mk_z (own := RX6) ⟨by decide, rfl⟩ (Nat.le_of_ble_eq_true rfl) ?_
  intro p e s mm args below meth cd A Q hx hb hml hown htg hN hK hA hP hD hS hE ls hl
  have hl : lv_has ls 5 [(0, .ref (a0 0)), (1, .int p1), (2, .int p2)] := hl
  replace h : _ = some res := h
  unfold G_X6_between at h
  obtain ⟨H, hH⟩ : ∃ H, H = s.heap := ⟨_, rfl⟩
  obtain ⟨locs, hlocs⟩ : ∃ locs : List Loc, locs = [] := ⟨_, rfl⟩
  rw [← hlocs] at hS ⊢
  have hS : va_S A s.heap H locs := by rw [hH]; exact hS
  rw [← hH] at hP ⊢
  refine lv_iload_n hx hb dX6_between_0 rfl (lv_at hl 1 rfl) ?_
  refine lv_iload_n hx hb dX6_between_1 rfl (lv_at hl 2 rfl) ?_
  refine lv_icmp_eq (tgt := 23) hx hb dX6_between_2 (by decide) (fun c2 => ?_) (fun c2 => ?_)
  · replace h := if_t h c2
    refine lv_iconst (v := 0) hx hb dX6_between_23 (by decide) ?_
    obtain rfl := Option.some.inj h
    exact hE H locs 24 ls _ hP hD hS rfl (Or.inl rfl) dX6_between_24
  replace h := if_f h c2
  refine lv_aload_n hx hb dX6_between_5 rfl (lv_at hl 0 rfl) ?_
  refine lv_iload_n hx hb dX6_between_6 rfl (lv_at hl 1 rfl) ?_
  obtain ⟨v7, e7, h⟩ := bnd h
  refine cV (av := [.int p1]) (rest := []) (st1 := [.int v7]) (k1 := 0) (k2 := 0) (ci := 0) (q0 := 0) hx hb hml hown htg hN hK (c_X1_nextOf l dC dI cy a0 f0 p1 v7 e7) (g_V gw490 gw269 gw270 gw8 gw271) hdV_X1_nextOf rfl ⟨⟨Nat.le_of_ble_eq_true rfl, Nat.le_of_ble_eq_true rfl⟩, Nat.le_of_ble_eq_true rfl, Nat.le_of_ble_eq_true rfl⟩ hP hD hS hA ⟨rfl, rfl⟩ rfl [0, 1, 2, 3, 4] [] rfl rfl rfl (by decide) (by decide) hl.1 rfl (Nat.le_of_ble_eq_true rfl) rfl rfl rfl dX6_between_7 (fun H locs hP hD hS => ?_)
  have hP : va_P (dC, dI) vwCl (wFig a0 cy f0) H := hP
  have hD : va_D A (wFig a0 cy f0) := hD
  refine lv_iload_n hx hb dX6_between_10 rfl (lv_at hl 2 rfl) ?_
  refine lv_icmp_eq (tgt := 23) hx hb dX6_between_11 (by decide) (fun c11 => ?_) (fun c11 => ?_)
  · replace h := if_t h c11
    refine lv_iconst (v := 0) hx hb dX6_between_23 (by decide) ?_
    obtain rfl := Option.some.inj h
    exact hE H locs 24 ls _ hP hD hS rfl (Or.inl rfl) dX6_between_24
  replace h := if_f h c11
  refine lv_aload_n hx hb dX6_between_14 rfl (lv_at hl 0 rfl) ?_
  refine lv_iload_n hx hb dX6_between_15 rfl (lv_at hl 2 rfl) ?_
  obtain ⟨v16, e16, h⟩ := bnd h
  refine cV (av := [.int p2]) (rest := []) (st1 := [.int v16]) (k1 := 0) (k2 := 0) (ci := 0) (q0 := 0) hx hb hml hown htg hN hK (c_X1_nextOf l dC dI cy a0 f0 p2 v16 e16) (g_V gw490 gw269 gw270 gw8 gw271) hdV_X1_nextOf rfl ⟨⟨Nat.le_of_ble_eq_true rfl, Nat.le_of_ble_eq_true rfl⟩, Nat.le_of_ble_eq_true rfl, Nat.le_of_ble_eq_true rfl⟩ hP hD hS hA ⟨rfl, rfl⟩ rfl [0, 1, 2, 3, 4] [] rfl rfl rfl (by decide) (by decide) hl.1 rfl (Nat.le_of_ble_eq_true rfl) rfl rfl rfl dX6_between_16 (fun H locs hP hD hS => ?_)
  have hP : va_P (dC, dI) vwCl (wFig a0 cy f0) H := hP
  have hD : va_D A (wFig a0 cy f0) := hD
  refine lv_iload_n hx hb dX6_between_19 rfl (lv_at hl 1 rfl) ?_
  refine lv_icmp_ne (tgt := 25) hx hb dX6_between_20 (by decide) (fun c20 => ?_) (fun c20 => ?_)
  · replace h := if_f h c20
    refine lv_iconst (v := 0) hx hb dX6_between_25 (by decide) ?_
    refine lv_istore_n (lv' := [(3, .int 0), (0, .ref (a0 0)), (1, .int p1), (2, .int p2)]) hx hb dX6_between_26 rfl hl (by decide) rfl (fun ls hl => ?_)
    have hL27 : ∀ (n27 : Nat) (l3_27 : Int32) (l1_27 : Int32) (l2_27 : Int32) (H : Heap) (locs : List Loc) (ls : Array Slot), G_X6_between_L27 f0 n27 l3_27 l1_27 l2_27 = some res → va_P (dC, dI) vwCl (wFig a0 cy f0) H → va_D A (wFig a0 cy f0) → va_S A s.heap H locs → lv_has ls 5 [(3, .int l3_27), (0, .ref (a0 0)), (1, .int l1_27), (2, .int l2_27)] → W p l e rm_X6_between s mm args below meth cd H locs 0 0 Q (F0 mm 27 ls []) := by
      intro n27
      induction n27 with
      | zero => intro l3_27 l1_27 l2_27 H locs ls h; exact absurd h (by simp [G_X6_between_L27])
      | succ n27 ih27 =>
        intro l3_27 l1_27 l2_27 H locs ls h hP hD hS hl
        rw [G_X6_between_L27] at h
        refine lv_iload_n hx hb dX6_between_27 rfl (lv_at hl 0 rfl) ?_
        refine lv_aload_n hx hb dX6_between_28 rfl (lv_at hl 1 rfl) ?_
        refine va_getN (D := (dC, dI)) (ci := 0) (v := .int (f_corners f0)) (C := RX1) (T := TX1) (N := 6) hx hb htg inX1 hown hK hP 0 rfl rfl 1 (by decide) (va_Nw.use rfl (hN (.fieldLinkNest RX6 15 "SquaredPaper$Figure" "corners" "I" "SquaredPaper") (by decide +kernel))) (fun _ h9 => h9) rfl dX6_between_29 ?_
        refine lv_icmp_ge (tgt := 68) hx hb dX6_between_32 (by decide) (fun c32 => ?_) (fun c32 => ?_)
        · replace h := if_t h c32
          refine lv_aload_n hx hb dX6_between_68 rfl (lv_at hl 1 rfl) ?_
          refine lv_iload_n hx hb dX6_between_69 rfl (lv_at hl 2 rfl) ?_
          obtain ⟨v70, e70, h⟩ := bnd h
          refine cV (av := [.int l1_27]) (rest := []) (st1 := [.int v70]) (k1 := 0) (k2 := 0) (ci := 0) (q0 := 0) hx hb hml hown htg hN hK (c_X1_xOf l dC dI cy a0 f0 l1_27 v70 e70) (g_V gw493 gw251 gw252 gw8 gw253) hdV_X1_xOf rfl ⟨⟨Nat.le_of_ble_eq_true rfl, Nat.le_of_ble_eq_true rfl⟩, Nat.le_of_ble_eq_true rfl, Nat.le_of_ble_eq_true rfl⟩ hP hD hS hA ⟨rfl, rfl⟩ rfl [0, 1, 2, 3, 4] [] rfl rfl rfl (by decide) (by decide) hl.1 rfl (Nat.le_of_ble_eq_true rfl) rfl rfl rfl dX6_between_70 (fun H locs hP hD hS => ?_)
          have hP : va_P (dC, dI) vwCl (wFig a0 cy f0) H := hP
          have hD : va_D A (wFig a0 cy f0) := hD
          refine lv_aload_n hx hb dX6_between_73 rfl (lv_at hl 1 rfl) ?_
          refine lv_iload_n hx hb dX6_between_74 rfl (lv_at hl 3 rfl) ?_
          obtain ⟨v75, e75, h⟩ := bnd h
          refine cV (av := [.int l2_27]) (rest := [.int v70]) (st1 := [.int v75, .int v70]) (k1 := 0) (k2 := 0) (ci := 0) (q0 := 0) hx hb hml hown htg hN hK (c_X1_xOf l dC dI cy a0 f0 l2_27 v75 e75) (g_V gw493 gw251 gw252 gw8 gw253) hdV_X1_xOf rfl ⟨⟨Nat.le_of_ble_eq_true rfl, Nat.le_of_ble_eq_true rfl⟩, Nat.le_of_ble_eq_true rfl, Nat.le_of_ble_eq_true rfl⟩ hP hD hS hA ⟨rfl, rfl⟩ rfl [0, 1, 2, 3, 4] [] rfl rfl rfl (by decide) (by decide) hl.1 rfl (Nat.le_of_ble_eq_true rfl) rfl rfl rfl dX6_between_75 (fun H locs hP hD hS => ?_)
          have hP : va_P (dC, dI) vwCl (wFig a0 cy f0) H := hP
          have hD : va_D A (wFig a0 cy f0) := hD
          refine lv_iadd hx hb dX6_between_78 ?_
          refine lv_istore_n (lv' := [(3, .int (v70 + v75)), (0, .ref (a0 0)), (1, .int l1_27), (2, .int l2_27)]) hx hb dX6_between_79 rfl hl (by decide) rfl (fun ls hl => ?_)
          refine lv_aload_n hx hb dX6_between_80 rfl (lv_at hl 1 rfl) ?_
          refine lv_iload_n hx hb dX6_between_81 rfl (lv_at hl 2 rfl) ?_
          obtain ⟨v82, e82, h⟩ := bnd h
          refine cV (av := [.int l1_27]) (rest := []) (st1 := [.int v82]) (k1 := 0) (k2 := 0) (ci := 0) (q0 := 0) hx hb hml hown htg hN hK (c_X1_yOf l dC dI cy a0 f0 l1_27 v82 e82) (g_V gw494 gw258 gw259 gw8 gw260) hdV_X1_yOf rfl ⟨⟨Nat.le_of_ble_eq_true rfl, Nat.le_of_ble_eq_true rfl⟩, Nat.le_of_ble_eq_true rfl, Nat.le_of_ble_eq_true rfl⟩ hP hD hS hA ⟨rfl, rfl⟩ rfl [0, 1, 2, 3, 4] [] rfl rfl rfl (by decide) (by decide) hl.1 rfl (Nat.le_of_ble_eq_true rfl) rfl rfl rfl dX6_between_82 (fun H locs hP hD hS => ?_)
          have hP : va_P (dC, dI) vwCl (wFig a0 cy f0) H := hP
          have hD : va_D A (wFig a0 cy f0) := hD
          refine lv_aload_n hx hb dX6_between_85 rfl (lv_at hl 1 rfl) ?_
          refine lv_iload_n hx hb dX6_between_86 rfl (lv_at hl 3 rfl) ?_
          obtain ⟨v87, e87, h⟩ := bnd h
          refine cV (av := [.int l2_27]) (rest := [.int v82]) (st1 := [.int v87, .int v82]) (k1 := 0) (k2 := 0) (ci := 0) (q0 := 0) hx hb hml hown htg hN hK (c_X1_yOf l dC dI cy a0 f0 l2_27 v87 e87) (g_V gw494 gw258 gw259 gw8 gw260) hdV_X1_yOf rfl ⟨⟨Nat.le_of_ble_eq_true rfl, Nat.le_of_ble_eq_true rfl⟩, Nat.le_of_ble_eq_true rfl, Nat.le_of_ble_eq_true rfl⟩ hP hD hS hA ⟨rfl, rfl⟩ rfl [0, 1, 2, 3, 4] [] rfl rfl rfl (by decide) (by decide) hl.1 rfl (Nat.le_of_ble_eq_true rfl) rfl rfl rfl dX6_between_87 (fun H locs hP hD hS => ?_)
          have hP : va_P (dC, dI) vwCl (wFig a0 cy f0) H := hP
          have hD : va_D A (wFig a0 cy f0) := hD
          refine lv_iadd hx hb dX6_between_90 ?_
          refine lv_istore (lv' := [(4, .int (v82 + v87)), (3, .int (v70 + v75)), (0, .ref (a0 0)), (1, .int l1_27), (2, .int l2_27)]) hx hb dX6_between_91 hl (by decide) rfl (fun ls hl => ?_)
          refine lv_aload_n hx hb dX6_between_93 rfl (lv_at hl 2 rfl) ?_
          refine lv_iconst (v := 0) hx hb dX6_between_94 (by decide) ?_
          refine lv_iload_n hx hb dX6_between_95 rfl (lv_at hl 1 rfl) ?_
          refine lv_iload hx hb dX6_between_96 (lv_at hl 0 rfl) ?_
          obtain ⟨v98, e98, h⟩ := bnd h
          refine cV (av := [.int 0, .int (v70 + v75), .int (v82 + v87)]) (rest := []) (st1 := [.int v98]) (k1 := 0) (k2 := 0) (ci := 0) (q0 := 0) hx hb hml hown htg hN hK (c_X1_surrounds l dC dI cy a0 f0 0 (v70 + v75) (v82 + v87) v98 e98) (g_V gw495 gw308 gw309 gw8 gw310) hdV_X1_surrounds rfl ⟨⟨Nat.le_of_ble_eq_true rfl, Nat.le_of_ble_eq_true rfl⟩, Nat.le_of_ble_eq_true rfl, Nat.le_of_ble_eq_true rfl⟩ hP hD hS hA ⟨rfl, rfl⟩ rfl [0, 1, 2, 3, 4] [] rfl rfl rfl (by decide) (by decide) hl.1 rfl (Nat.le_of_ble_eq_true rfl) rfl rfl rfl dX6_between_98 (fun H locs hP hD hS => ?_)
          have hP : va_P (dC, dI) vwCl (wFig a0 cy f0) H := hP
          have hD : va_D A (wFig a0 cy f0) := hD
          refine lv_if_eq (tgt := 118) hx hb dX6_between_101 (by decide) (fun c101 => ?_) (fun c101 => ?_)
          · replace h := if_t h c101
            refine lv_iconst (v := 0) hx hb dX6_between_118 (by decide) ?_
            obtain rfl := Option.some.inj h
            exact hE H locs 119 ls _ hP hD hS rfl (Or.inl rfl) dX6_between_119
          replace h := if_f h c101
          refine lv_aload_n hx hb dX6_between_104 rfl (lv_at hl 2 rfl) ?_
          refine lv_iload_n hx hb dX6_between_105 rfl (lv_at hl 1 rfl) ?_
          refine lv_iload hx hb dX6_between_106 (lv_at hl 0 rfl) ?_
          obtain ⟨v108, e108, h⟩ := bnd h
          refine cV (av := [.int (v70 + v75), .int (v82 + v87)]) (rest := []) (st1 := [.int v108]) (k1 := 0) (k2 := 0) (ci := 0) (q0 := 0) hx hb hml hown htg hN hK (c_X1_inSomeHole l dC dI cy a0 f0 (v70 + v75) (v82 + v87) v108 e108) (g_V gw496 gw497 gw498 gw8 gw499) hdV_X1_inSomeHole rfl ⟨⟨Nat.le_of_ble_eq_true rfl, Nat.le_of_ble_eq_true rfl⟩, Nat.le_of_ble_eq_true rfl, Nat.le_of_ble_eq_true rfl⟩ hP hD hS hA ⟨rfl, rfl⟩ rfl [0, 1, 2, 3, 4] [] rfl rfl rfl (by decide) (by decide) hl.1 rfl (Nat.le_of_ble_eq_true rfl) rfl rfl rfl dX6_between_108 (fun H locs hP hD hS => ?_)
          have hP : va_P (dC, dI) vwCl (wFig a0 cy f0) H := hP
          have hD : va_D A (wFig a0 cy f0) := hD
          refine lv_if_ne (tgt := 118) hx hb dX6_between_111 (by decide) (fun c111 => ?_) (fun c111 => ?_)
          · replace h := if_f h c111
            refine lv_iconst (v := 0) hx hb dX6_between_118 (by decide) ?_
            obtain rfl := Option.some.inj h
            exact hE H locs 119 ls _ hP hD hS rfl (Or.inl rfl) dX6_between_119
          replace h := if_t h c111
          refine lv_iconst (v := 1) hx hb dX6_between_114 (by decide) ?_
          refine lv_goto (tgt := 119) hx hb dX6_between_115 (by decide) ?_
          obtain rfl := Option.some.inj h
          exact hE H locs 119 ls _ hP hD hS rfl (Or.inr rfl) dX6_between_119
        replace h := if_f h c32
        refine lv_aload_n hx hb dX6_between_35 rfl (lv_at hl 1 rfl) ?_
        refine lv_iload_n hx hb dX6_between_36 rfl (lv_at hl 0 rfl) ?_
        refine lv_iload_n hx hb dX6_between_37 rfl (lv_at hl 2 rfl) ?_
        refine lv_iload_n hx hb dX6_between_38 rfl (lv_at hl 3 rfl) ?_
        obtain ⟨v39, e39, h⟩ := bnd h
        refine cV (av := [.int l3_27, .int l1_27, .int l2_27]) (rest := []) (st1 := [.int v39]) (k1 := 0) (k2 := 0) (ci := 0) (q0 := 0) hx hb hml hown htg hN hK (c_X1_cornerOnLine l dC dI cy a0 f0 l3_27 l1_27 l2_27 v39 e39) (g_V gw491 gw290 gw291 gw8 gw292) hdV_X1_cornerOnLine rfl ⟨⟨Nat.le_of_ble_eq_true rfl, Nat.le_of_ble_eq_true rfl⟩, Nat.le_of_ble_eq_true rfl, Nat.le_of_ble_eq_true rfl⟩ hP hD hS hA ⟨rfl, rfl⟩ rfl [0, 1, 2, 3, 4] [] rfl rfl rfl (by decide) (by decide) hl.1 rfl (Nat.le_of_ble_eq_true rfl) rfl rfl rfl dX6_between_39 (fun H locs hP hD hS => ?_)
        have hP : va_P (dC, dI) vwCl (wFig a0 cy f0) H := hP
        have hD : va_D A (wFig a0 cy f0) := hD
        refine lv_if_ne (tgt := 60) hx hb dX6_between_42 (by decide) (fun c42 => ?_) (fun c42 => ?_)
        · replace h := if_f h c42
          refine lv_iconst (v := 0) hx hb dX6_between_60 (by decide) ?_
          obtain rfl := Option.some.inj h
          exact hE H locs 61 ls _ hP hD hS rfl (Or.inl rfl) dX6_between_61
        replace h := if_t h c42
        refine lv_aload_n hx hb dX6_between_45 rfl (lv_at hl 1 rfl) ?_
        refine lv_iload_n hx hb dX6_between_46 rfl (lv_at hl 2 rfl) ?_
        refine lv_iload_n hx hb dX6_between_47 rfl (lv_at hl 3 rfl) ?_
        refine lv_iload_n hx hb dX6_between_48 rfl (lv_at hl 0 rfl) ?_
        refine lv_aload_n hx hb dX6_between_49 rfl (lv_at hl 1 rfl) ?_
        refine lv_iload_n hx hb dX6_between_50 rfl (lv_at hl 0 rfl) ?_
        obtain ⟨v51, e51, h⟩ := bnd h
        refine cV (av := [.int l3_27]) (rest := [.int l3_27, .int l2_27, .int l1_27, .ref (a0 0)]) (st1 := [.int v51, .int l3_27, .int l2_27, .int l1_27, .ref (a0 0)]) (k1 := 0) (k2 := 0) (ci := 0) (q0 := 0) hx hb hml hown htg hN hK (c_X1_nextOf l dC dI cy a0 f0 l3_27 v51 e51) (g_V gw490 gw269 gw270 gw8 gw271) hdV_X1_nextOf rfl ⟨⟨Nat.le_of_ble_eq_true rfl, Nat.le_of_ble_eq_true rfl⟩, Nat.le_of_ble_eq_true rfl, Nat.le_of_ble_eq_true rfl⟩ hP hD hS hA ⟨rfl, rfl⟩ rfl [0, 1, 2, 3, 4] [] rfl rfl rfl (by decide) (by decide) hl.1 rfl (Nat.le_of_ble_eq_true rfl) rfl rfl rfl dX6_between_51 (fun H locs hP hD hS => ?_)
        have hP : va_P (dC, dI) vwCl (wFig a0 cy f0) H := hP
        have hD : va_D A (wFig a0 cy f0) := hD
        obtain ⟨v54, e54, h⟩ := bnd h
        refine cV (av := [.int l1_27, .int l2_27, .int l3_27, .int v51]) (rest := []) (st1 := [.int v54]) (k1 := 0) (k2 := 0) (ci := 0) (q0 := 0) hx hb hml hown htg hN hK (c_X1_linesCross l dC dI cy a0 f0 l1_27 l2_27 l3_27 v51 v54 e54) (g_V gw492 gw279 gw280 gw8 gw281) hdV_X1_linesCross rfl ⟨⟨Nat.le_of_ble_eq_true rfl, Nat.le_of_ble_eq_true rfl⟩, Nat.le_of_ble_eq_true rfl, Nat.le_of_ble_eq_true rfl⟩ hP hD hS hA ⟨rfl, rfl⟩ rfl [0, 1, 2, 3, 4] [] rfl rfl rfl (by decide) (by decide) hl.1 rfl (Nat.le_of_ble_eq_true rfl) rfl rfl rfl dX6_between_54 (fun H locs hP hD hS => ?_)
        have hP : va_P (dC, dI) vwCl (wFig a0 cy f0) H := hP
        have hD : va_D A (wFig a0 cy f0) := hD
        refine lv_if_eq (tgt := 62) hx hb dX6_between_57 (by decide) (fun c57 => ?_) (fun c57 => ?_)
        · replace h := if_t h c57
          refine lv_iinc (v := l3_27 + 1) (lv' := [(3, .int (l3_27 + 1)), (0, .ref (a0 0)), (1, .int l1_27), (2, .int l2_27)]) hx hb dX6_between_62 hl (k := 0) rfl rfl (by decide) rfl (fun ls hl => ?_)
          refine lv_goto (tgt := 27) hx hb dX6_between_65 (by decide) ?_
          exact ih27 (l3_27 + 1) l1_27 l2_27 H locs ls h hP hD hS (lv_sub hl [0, 1, 2, 3] rfl)
        replace h := if_f h c57
        refine lv_iconst (v := 0) hx hb dX6_between_60 (by decide) ?_
        obtain rfl := Option.some.inj h
        exact hE H locs 61 ls _ hP hD hS rfl (Or.inl rfl) dX6_between_61
    exact hL27 FU 0 p1 p2 H locs ls h hP hD hS (lv_sub hl [0, 1, 2, 3] rfl)
  replace h := if_t h c20
  refine lv_iconst (v := 0) hx hb dX6_between_23 (by decide) ?_
  obtain rfl := Option.some.inj h
  exact hE H locs 24 ls _ hP hD hS rfl (Or.inl rfl) dX6_between_24
def G_X6_isEar (f0 : Fig) (p1 : Int32) : Option (Int32) :=
  (G_X1_sizeOf f0 0).bind fun v2 =>
  if v2 ≤ 3 then
    some 0
  else
    (G_X2_kind f0 0 p1).bind fun v12 =>
    if v12 = 1 then
      (G_X1_priorOf f0 0 p1).bind fun v23 =>
      (G_X1_nextOf f0 p1).bind fun v28 =>
      (G_X6_between f0 v23 v28).bind fun v31 =>
      if v31 = 0 then
        some 0
      else
        some 1
    else
      some 0
abbrev rm_X6_isEar : Room := { frames := 4, cells := 0, slots := 0, locals := 101 }
theorem hdS_X6_isEar : yX6_isEar.cls ≠ "java/lang/invoke/MethodHandle" ∧ yX6_isEar.cls ≠ "java/lang/invoke/VarHandle" ∧ (parseMethodDescriptor yX6_isEar.desc).map (fun d => d.parameters.length) = some 2 := by decide +kernel
set_option maxHeartbeats 4000000 in
set_option maxRecDepth 100000 in
theorem c_X6_isEar (l : Launch) (dC : Nat → ClassId) (dI : Nat → Nat → Nat) (cy : Nat → ClassId) (a0 : Nat → Nat) (f0 : Fig) (p1 : Int32) (res : Int32) (h : G_X6_isEar f0 p1 = some res) : CT l (dC, dI) (TY cy) yX6_isEar cX6_isEar 2 (some .boolean) rm_X6_isEar [.ref (a0 0), .int p1] (wFig a0 cy f0) (wFig a0 cy f0) (some (.int res)) := by
  refine CT.mk_z (own := RX6) ⟨by decide, rfl⟩ (Nat.le_of_ble_eq_true rfl) ?_
  intro p e s mm args below meth cd A Q hx hb hml hown htg hN hK hA hP hD hS hE ls hl
  have hl : lv_has ls 2 [(0, .ref (a0 0)), (1, .int p1)] := hl
  replace h : _ = some res := h
  unfold G_X6_isEar at h
  obtain ⟨H, hH⟩ : ∃ H, H = s.heap := ⟨_, rfl⟩
  obtain ⟨locs, hlocs⟩ : ∃ locs : List Loc, locs = [] := ⟨_, rfl⟩
  rw [← hlocs] at hS ⊢
  have hS : va_S A s.heap H locs := by rw [hH]; exact hS
  rw [← hH] at hP ⊢
  refine lv_aload_n hx hb dX6_isEar_0 rfl (lv_at hl 0 rfl) ?_
  refine lv_iconst (v := 0) hx hb dX6_isEar_1 (by decide) ?_
  obtain ⟨v2, e2, h⟩ := bnd h
  refine cV (av := [.int 0]) (rest := []) (st1 := [.int v2]) (k1 := 0) (k2 := 0) (ci := 0) (q0 := 0) hx hb hml hown htg hN hK (c_X1_sizeOf l dC dI cy a0 f0 0 v2 e2) (g_V gw545 gw106 gw107 gw8 gw108) hdV_X1_sizeOf rfl ⟨⟨Nat.le_of_ble_eq_true rfl, Nat.le_of_ble_eq_true rfl⟩, Nat.le_of_ble_eq_true rfl, Nat.le_of_ble_eq_true rfl⟩ hP hD hS hA ⟨rfl, rfl⟩ rfl [0, 1, 2, 3, 4] [] rfl rfl rfl (by decide) (by decide) hl.1 rfl (Nat.le_of_ble_eq_true rfl) rfl rfl rfl dX6_isEar_2 (fun H locs hP hD hS => ?_)
  have hP : va_P (dC, dI) vwCl (wFig a0 cy f0) H := hP
  have hD : va_D A (wFig a0 cy f0) := hD
  refine lv_iconst (v := 3) hx hb dX6_isEar_5 (by decide) ?_
  refine lv_icmp_le (tgt := 41) hx hb dX6_isEar_6 (by decide) (fun c6 => ?_) (fun c6 => ?_)
  · replace h := if_t h c6
    refine lv_iconst (v := 0) hx hb dX6_isEar_41 (by decide) ?_
    obtain rfl := Option.some.inj h
    exact hE H locs 42 ls _ hP hD hS rfl (Or.inl rfl) dX6_isEar_42
  replace h := if_f h c6
  refine lv_aload_n hx hb dX6_isEar_9 rfl (lv_at hl 0 rfl) ?_
  refine lv_iconst (v := 0) hx hb dX6_isEar_10 (by decide) ?_
  refine lv_iload_n hx hb dX6_isEar_11 rfl (lv_at hl 1 rfl) ?_
  obtain ⟨v12, e12, h⟩ := bnd h
  refine cS (av := [.ref (a0 0), .int 0, .int p1]) (rest := []) (st1 := [.int v12]) (k1 := 0) (k2 := 0) hx hb hml hown htg hN hK (c_X2_kind l dC dI cy a0 f0 0 p1 v12 e12) (g_S gw546 gw517 gw20 gw518) hdS_X2_kind rfl ⟨⟨Nat.le_of_ble_eq_true rfl, Nat.le_of_ble_eq_true rfl⟩, Nat.le_of_ble_eq_true rfl, Nat.le_of_ble_eq_true rfl⟩ hP hD hS hA [0, 1, 2, 3, 4] [] rfl rfl rfl (by decide) (by decide) hl.1 rfl (Nat.le_of_ble_eq_true rfl) rfl rfl rfl dX6_isEar_12 (fun H locs hP hD hS => ?_)
  have hP : va_P (dC, dI) vwCl (wFig a0 cy f0) H := hP
  have hD : va_D A (wFig a0 cy f0) := hD
  refine lv_iconst (v := 1) hx hb dX6_isEar_15 (by decide) ?_
  refine lv_icmp_ne (tgt := 41) hx hb dX6_isEar_16 (by decide) (fun c16 => ?_) (fun c16 => ?_)
  · replace h := if_f h c16
    refine lv_iconst (v := 0) hx hb dX6_isEar_41 (by decide) ?_
    obtain rfl := Option.some.inj h
    exact hE H locs 42 ls _ hP hD hS rfl (Or.inl rfl) dX6_isEar_42
  replace h := if_t h c16
  refine lv_aload_n hx hb dX6_isEar_19 rfl (lv_at hl 0 rfl) ?_
  refine lv_aload_n hx hb dX6_isEar_20 rfl (lv_at hl 0 rfl) ?_
  refine lv_iconst (v := 0) hx hb dX6_isEar_21 (by decide) ?_
  refine lv_iload_n hx hb dX6_isEar_22 rfl (lv_at hl 1 rfl) ?_
  obtain ⟨v23, e23, h⟩ := bnd h
  refine cV (av := [.int 0, .int p1]) (rest := [.ref (a0 0)]) (st1 := [.int v23, .ref (a0 0)]) (k1 := 0) (k2 := 0) (ci := 0) (q0 := 0) hx hb hml hown htg hN hK (c_X1_priorOf l dC dI cy a0 f0 0 p1 v23 e23) (g_V gw547 gw524 gw525 gw8 gw526) hdV_X1_priorOf rfl ⟨⟨Nat.le_of_ble_eq_true rfl, Nat.le_of_ble_eq_true rfl⟩, Nat.le_of_ble_eq_true rfl, Nat.le_of_ble_eq_true rfl⟩ hP hD hS hA ⟨rfl, rfl⟩ rfl [0, 1, 2, 3, 4] [] rfl rfl rfl (by decide) (by decide) hl.1 rfl (Nat.le_of_ble_eq_true rfl) rfl rfl rfl dX6_isEar_23 (fun H locs hP hD hS => ?_)
  have hP : va_P (dC, dI) vwCl (wFig a0 cy f0) H := hP
  have hD : va_D A (wFig a0 cy f0) := hD
  refine lv_aload_n hx hb dX6_isEar_26 rfl (lv_at hl 0 rfl) ?_
  refine lv_iload_n hx hb dX6_isEar_27 rfl (lv_at hl 1 rfl) ?_
  obtain ⟨v28, e28, h⟩ := bnd h
  refine cV (av := [.int p1]) (rest := [.int v23, .ref (a0 0)]) (st1 := [.int v28, .int v23, .ref (a0 0)]) (k1 := 0) (k2 := 0) (ci := 0) (q0 := 0) hx hb hml hown htg hN hK (c_X1_nextOf l dC dI cy a0 f0 p1 v28 e28) (g_V gw490 gw269 gw270 gw8 gw271) hdV_X1_nextOf rfl ⟨⟨Nat.le_of_ble_eq_true rfl, Nat.le_of_ble_eq_true rfl⟩, Nat.le_of_ble_eq_true rfl, Nat.le_of_ble_eq_true rfl⟩ hP hD hS hA ⟨rfl, rfl⟩ rfl [0, 1, 2, 3, 4] [] rfl rfl rfl (by decide) (by decide) hl.1 rfl (Nat.le_of_ble_eq_true rfl) rfl rfl rfl dX6_isEar_28 (fun H locs hP hD hS => ?_)
  have hP : va_P (dC, dI) vwCl (wFig a0 cy f0) H := hP
  have hD : va_D A (wFig a0 cy f0) := hD
  obtain ⟨v31, e31, h⟩ := bnd h
  refine cS (av := [.ref (a0 0), .int v23, .int v28]) (rest := []) (st1 := [.int v31]) (k1 := 0) (k2 := 0) hx hb hml hown htg hN hK (c_X6_between l dC dI cy a0 f0 v23 v28 v31 e31) (g_S gw530 gw488 gw22 gw489) hdS_X6_between rfl ⟨⟨Nat.le_of_ble_eq_true rfl, Nat.le_of_ble_eq_true rfl⟩, Nat.le_of_ble_eq_true rfl, Nat.le_of_ble_eq_true rfl⟩ hP hD hS hA [0, 1, 2, 3, 4] [] rfl rfl rfl (by decide) (by decide) hl.1 rfl (Nat.le_of_ble_eq_true rfl) rfl rfl rfl dX6_isEar_31 (fun H locs hP hD hS => ?_)
  have hP : va_P (dC, dI) vwCl (wFig a0 cy f0) H := hP
  have hD : va_D A (wFig a0 cy f0) := hD
  refine lv_if_eq (tgt := 41) hx hb dX6_isEar_34 (by decide) (fun c34 => ?_) (fun c34 => ?_)
  · replace h := if_t h c34
    refine lv_iconst (v := 0) hx hb dX6_isEar_41 (by decide) ?_
    obtain rfl := Option.some.inj h
    exact hE H locs 42 ls _ hP hD hS rfl (Or.inl rfl) dX6_isEar_42
  replace h := if_f h c34
  refine lv_iconst (v := 1) hx hb dX6_isEar_37 (by decide) ?_
  refine lv_goto (tgt := 42) hx hb dX6_isEar_38 (by decide) ?_
  obtain rfl := Option.some.inj h
  exact hE H locs 42 ls _ hP hD hS rfl (Or.inr rfl) dX6_isEar_42
def G_X6_ears_j24 (r4 : Int32 → Int32 → Option (Int32)) (f0 : Fig) (l2_24 : Int32) (l1_24 : Int32) : Option (Int32) :=
  r4 (l2_24 + 1) l1_24
def G_X6_ears_L4  (f0 : Fig) : Nat → Int32 → Int32 → Option (Int32)
  | 0, _, _ => none
  | n4 + 1, l2_4, l1_4 =>
    (G_X1_sizeOf f0 0).bind fun v7 =>
    if v7 ≤ l2_4 then
      some l1_4
    else
      (G_X6_isEar f0 l2_4).bind fun v15 =>
      if v15 = 0 then
        G_X6_ears_j24 (G_X6_ears_L4 f0 n4) f0 l2_4 l1_4
      else
        G_X6_ears_j24 (G_X6_ears_L4 f0 n4) f0 l2_4 (l1_4 + 1)
def G_X6_ears (f0 : Fig) : Option (Int32) :=
  G_X6_ears_L4 f0 FU 0 0
abbrev rm_X6_ears : Room := { frames := 5, cells := 0, slots := 0, locals := 122 }
theorem hdS_X6_ears : yX6_ears.cls ≠ "java/lang/invoke/MethodHandle" ∧ yX6_ears.cls ≠ "java/lang/invoke/VarHandle" ∧ (parseMethodDescriptor yX6_ears.desc).map (fun d => d.parameters.length) = some 1 := by decide +kernel
set_option maxHeartbeats 4000000 in
set_option maxRecDepth 100000 in
theorem c_X6_ears (l : Launch) (dC : Nat → ClassId) (dI : Nat → Nat → Nat) (cy : Nat → ClassId) (a0 : Nat → Nat) (f0 : Fig) (res : Int32) (h : G_X6_ears f0 = some res) : CT l (dC, dI) (TY cy) yX6_ears cX6_ears 3 (some .int) rm_X6_ears [.ref (a0 0)] (wFig a0 cy f0) (wFig a0 cy f0) (some (.int res)) := by
  refine CT.mk_i (own := RX6) ⟨by decide, rfl⟩ (Nat.le_of_ble_eq_true rfl) ?_
  intro p e s mm args below meth cd A Q hx hb hml hown htg hN hK hA hP hD hS hE ls hl
  have hl : lv_has ls 3 [(0, .ref (a0 0))] := hl
  replace h : _ = some res := h
  unfold G_X6_ears at h
  obtain ⟨H, hH⟩ : ∃ H, H = s.heap := ⟨_, rfl⟩
  obtain ⟨locs, hlocs⟩ : ∃ locs : List Loc, locs = [] := ⟨_, rfl⟩
  rw [← hlocs] at hS ⊢
  have hS : va_S A s.heap H locs := by rw [hH]; exact hS
  rw [← hH] at hP ⊢
  refine lv_iconst (v := 0) hx hb dX6_ears_0 (by decide) ?_
  refine lv_istore_n (lv' := [(1, .int 0), (0, .ref (a0 0))]) hx hb dX6_ears_1 rfl hl (by decide) rfl (fun ls hl => ?_)
  refine lv_iconst (v := 0) hx hb dX6_ears_2 (by decide) ?_
  refine lv_istore_n (lv' := [(2, .int 0), (1, .int 0), (0, .ref (a0 0))]) hx hb dX6_ears_3 rfl hl (by decide) rfl (fun ls hl => ?_)
  have hL4 : ∀ (n4 : Nat) (l2_4 : Int32) (l1_4 : Int32) (H : Heap) (locs : List Loc) (ls : Array Slot), G_X6_ears_L4 f0 n4 l2_4 l1_4 = some res → va_P (dC, dI) vwCl (wFig a0 cy f0) H → va_D A (wFig a0 cy f0) → va_S A s.heap H locs → lv_has ls 3 [(2, .int l2_4), (1, .int l1_4), (0, .ref (a0 0))] → W p l e rm_X6_ears s mm args below meth cd H locs 0 0 Q (F0 mm 4 ls []) := by
    intro n4
    induction n4 with
    | zero => intro l2_4 l1_4 H locs ls h; exact absurd h (by simp [G_X6_ears_L4])
    | succ n4 ih4 =>
      intro l2_4 l1_4 H locs ls h hP hD hS hl
      rw [G_X6_ears_L4] at h
      refine lv_iload_n hx hb dX6_ears_4 rfl (lv_at hl 0 rfl) ?_
      refine lv_aload_n hx hb dX6_ears_5 rfl (lv_at hl 2 rfl) ?_
      refine lv_iconst (v := 0) hx hb dX6_ears_6 (by decide) ?_
      obtain ⟨v7, e7, h⟩ := bnd h
      refine cV (av := [.int 0]) (rest := [.int l2_4]) (st1 := [.int v7, .int l2_4]) (k1 := 0) (k2 := 0) (ci := 0) (q0 := 0) hx hb hml hown htg hN hK (c_X1_sizeOf l dC dI cy a0 f0 0 v7 e7) (g_V gw545 gw106 gw107 gw8 gw108) hdV_X1_sizeOf rfl ⟨⟨Nat.le_of_ble_eq_true rfl, Nat.le_of_ble_eq_true rfl⟩, Nat.le_of_ble_eq_true rfl, Nat.le_of_ble_eq_true rfl⟩ hP hD hS hA ⟨rfl, rfl⟩ rfl [0, 1, 2, 3, 4] [] rfl rfl rfl (by decide) (by decide) hl.1 rfl (Nat.le_of_ble_eq_true rfl) rfl rfl rfl dX6_ears_7 (fun H locs hP hD hS => ?_)
      have hP : va_P (dC, dI) vwCl (wFig a0 cy f0) H := hP
      have hD : va_D A (wFig a0 cy f0) := hD
      refine lv_icmp_ge (tgt := 30) hx hb dX6_ears_10 (by decide) (fun c10 => ?_) (fun c10 => ?_)
      · replace h := if_t h c10
        refine lv_iload_n hx hb dX6_ears_30 rfl (lv_at hl 1 rfl) ?_
        obtain rfl := Option.some.inj h
        exact hE H locs 31 ls _ hP hD hS rfl dX6_ears_31
      replace h := if_f h c10
      refine lv_aload_n hx hb dX6_ears_13 rfl (lv_at hl 2 rfl) ?_
      refine lv_iload_n hx hb dX6_ears_14 rfl (lv_at hl 0 rfl) ?_
      obtain ⟨v15, e15, h⟩ := bnd h
      refine cS (av := [.ref (a0 0), .int l2_4]) (rest := []) (st1 := [.int v15]) (k1 := 0) (k2 := 0) hx hb hml hown htg hN hK (c_X6_isEar l dC dI cy a0 f0 l2_4 v15 e15) (g_S gw587 gw543 gw22 gw544) hdS_X6_isEar rfl ⟨⟨Nat.le_of_ble_eq_true rfl, Nat.le_of_ble_eq_true rfl⟩, Nat.le_of_ble_eq_true rfl, Nat.le_of_ble_eq_true rfl⟩ hP hD hS hA [0, 1, 2, 3, 4] [] rfl rfl rfl (by decide) (by decide) hl.1 rfl (Nat.le_of_ble_eq_true rfl) rfl rfl rfl dX6_ears_15 (fun H locs hP hD hS => ?_)
      have hP : va_P (dC, dI) vwCl (wFig a0 cy f0) H := hP
      have hD : va_D A (wFig a0 cy f0) := hD
      have hj24 : ∀ (l2_24 : Int32) (l1_24 : Int32) (H : Heap) (locs : List Loc) (ls : Array Slot), G_X6_ears_j24 (G_X6_ears_L4 f0 n4) f0 l2_24 l1_24 = some res → va_P (dC, dI) vwCl (wFig a0 cy f0) H → va_D A (wFig a0 cy f0) → va_S A s.heap H locs → lv_has ls 3 [(2, .int l2_24), (1, .int l1_24), (0, .ref (a0 0))] → W p l e rm_X6_ears s mm args below meth cd H locs 0 0 Q (F0 mm 24 ls []) := by
        intro l2_24 l1_24 H locs ls h hP hD hS hl
        unfold G_X6_ears_j24 at h
        refine lv_iinc (v := l2_24 + 1) (lv' := [(2, .int (l2_24 + 1)), (1, .int l1_24), (0, .ref (a0 0))]) hx hb dX6_ears_24 hl (k := 0) rfl rfl (by decide) rfl (fun ls hl => ?_)
        refine lv_goto (tgt := 4) hx hb dX6_ears_27 (by decide) ?_
        exact ih4 (l2_24 + 1) l1_24 H locs ls h hP hD hS (lv_sub hl [0, 1, 2] rfl)
      refine lv_if_eq (tgt := 24) hx hb dX6_ears_18 (by decide) (fun c18 => ?_) (fun c18 => ?_)
      · replace h := if_t h c18
        exact hj24 l2_4 l1_4 H locs ls h hP hD hS (lv_sub hl [0, 1, 2] rfl)
      replace h := if_f h c18
      refine lv_iinc (v := l1_4 + 1) (lv' := [(1, .int (l1_4 + 1)), (2, .int l2_4), (0, .ref (a0 0))]) hx hb dX6_ears_21 hl (k := 1) rfl rfl (by decide) rfl (fun ls hl => ?_)
      exact hj24 l2_4 (l1_4 + 1) H locs ls h hP hD hS (lv_sub hl [1, 0, 2] rfl)
  exact hL4 FU 0 0 H locs ls h hP hD hS (lv_sub hl [0, 1, 2] rfl)
def G_X6_pairs_j31 (r14 : Int32 → Int32 → Int32 → Option (Int32)) (f0 : Fig) (l3_31 : Int32) (l2_31 : Int32) (l1_31 : Int32) : Option (Int32) :=
  r14 (l3_31 + 1) l2_31 l1_31
def G_X6_pairs_L14 (r4 : Int32 → Int32 → Option (Int32)) (f0 : Fig) : Nat → Int32 → Int32 → Int32 → Option (Int32)
  | 0, _, _, _ => none
  | n14 + 1, l3_14, l2_14, l1_14 =>
    if l2_14 ≤ l3_14 then
      r4 (l2_14 + 1) l1_14
    else
      (G_X6_between f0 l2_14 l3_14).bind fun v22 =>
      if v22 = 0 then
        G_X6_pairs_j31 (G_X6_pairs_L14 r4 f0 n14) f0 l3_14 l2_14 l1_14
      else
        G_X6_pairs_j31 (G_X6_pairs_L14 r4 f0 n14) f0 l3_14 l2_14 (l1_14 + 1)
def G_X6_pairs_L4  (f0 : Fig) : Nat → Int32 → Int32 → Option (Int32)
  | 0, _, _ => none
  | n4 + 1, l2_4, l1_4 =>
    if f_corners f0 ≤ l2_4 then
      some l1_4
    else
      G_X6_pairs_L14 (G_X6_pairs_L4 f0 n4) f0 FU 0 l2_4 l1_4
def G_X6_pairs (f0 : Fig) : Option (Int32) :=
  G_X6_pairs_L4 f0 FU 0 0
abbrev rm_X6_pairs : Room := { frames := 4, cells := 0, slots := 0, locals := 101 }
theorem hdS_X6_pairs : yX6_pairs.cls ≠ "java/lang/invoke/MethodHandle" ∧ yX6_pairs.cls ≠ "java/lang/invoke/VarHandle" ∧ (parseMethodDescriptor yX6_pairs.desc).map (fun d => d.parameters.length) = some 1 := by decide +kernel
set_option maxHeartbeats 4000000 in
set_option maxRecDepth 100000 in
theorem c_X6_pairs (l : Launch) (dC : Nat → ClassId) (dI : Nat → Nat → Nat) (cy : Nat → ClassId) (a0 : Nat → Nat) (f0 : Fig) (res : Int32) (h : G_X6_pairs f0 = some res) : CT l (dC, dI) (TY cy) yX6_pairs cX6_pairs 4 (some .int) rm_X6_pairs [.ref (a0 0)] (wFig a0 cy f0) (wFig a0 cy f0) (some (.int res)) := by
  refine CT.mk_i (own := RX6) ⟨by decide, rfl⟩ (Nat.le_of_ble_eq_true rfl) ?_
  intro p e s mm args below meth cd A Q hx hb hml hown htg hN hK hA hP hD hS hE ls hl
  have hl : lv_has ls 4 [(0, .ref (a0 0))] := hl
  replace h : _ = some res := h
  unfold G_X6_pairs at h
  obtain ⟨H, hH⟩ : ∃ H, H = s.heap := ⟨_, rfl⟩
  obtain ⟨locs, hlocs⟩ : ∃ locs : List Loc, locs = [] := ⟨_, rfl⟩
  rw [← hlocs] at hS ⊢
  have hS : va_S A s.heap H locs := by rw [hH]; exact hS
  rw [← hH] at hP ⊢
  refine lv_iconst (v := 0) hx hb dX6_pairs_0 (by decide) ?_
  refine lv_istore_n (lv' := [(1, .int 0), (0, .ref (a0 0))]) hx hb dX6_pairs_1 rfl hl (by decide) rfl (fun ls hl => ?_)
  refine lv_iconst (v := 0) hx hb dX6_pairs_2 (by decide) ?_
  refine lv_istore_n (lv' := [(2, .int 0), (1, .int 0), (0, .ref (a0 0))]) hx hb dX6_pairs_3 rfl hl (by decide) rfl (fun ls hl => ?_)
  have hL4 : ∀ (n4 : Nat) (l2_4 : Int32) (l1_4 : Int32) (H : Heap) (locs : List Loc) (ls : Array Slot), G_X6_pairs_L4 f0 n4 l2_4 l1_4 = some res → va_P (dC, dI) vwCl (wFig a0 cy f0) H → va_D A (wFig a0 cy f0) → va_S A s.heap H locs → lv_has ls 4 [(2, .int l2_4), (1, .int l1_4), (0, .ref (a0 0))] → W p l e rm_X6_pairs s mm args below meth cd H locs 0 0 Q (F0 mm 4 ls []) := by
    intro n4
    induction n4 with
    | zero => intro l2_4 l1_4 H locs ls h; exact absurd h (by simp [G_X6_pairs_L4])
    | succ n4 ih4 =>
      intro l2_4 l1_4 H locs ls h hP hD hS hl
      rw [G_X6_pairs_L4] at h
      refine lv_iload_n hx hb dX6_pairs_4 rfl (lv_at hl 0 rfl) ?_
      refine lv_aload_n hx hb dX6_pairs_5 rfl (lv_at hl 2 rfl) ?_
      refine va_getN (D := (dC, dI)) (ci := 0) (v := .int (f_corners f0)) (C := RX1) (T := TX1) (N := 6) hx hb htg inX1 hown hK hP 0 rfl rfl 1 (by decide) (va_Nw.use rfl (hN (.fieldLinkNest RX6 15 "SquaredPaper$Figure" "corners" "I" "SquaredPaper") (by decide +kernel))) (fun _ h9 => h9) rfl dX6_pairs_6 ?_
      refine lv_icmp_ge (tgt := 43) hx hb dX6_pairs_9 (by decide) (fun c9 => ?_) (fun c9 => ?_)
      · replace h := if_t h c9
        refine lv_iload_n hx hb dX6_pairs_43 rfl (lv_at hl 1 rfl) ?_
        obtain rfl := Option.some.inj h
        exact hE H locs 44 ls _ hP hD hS rfl dX6_pairs_44
      replace h := if_f h c9
      refine lv_iconst (v := 0) hx hb dX6_pairs_12 (by decide) ?_
      refine lv_istore_n (lv' := [(3, .int 0), (2, .int l2_4), (1, .int l1_4), (0, .ref (a0 0))]) hx hb dX6_pairs_13 rfl hl (by decide) rfl (fun ls hl => ?_)
      have hL14 : ∀ (n14 : Nat) (l3_14 : Int32) (l2_14 : Int32) (l1_14 : Int32) (H : Heap) (locs : List Loc) (ls : Array Slot), G_X6_pairs_L14 (G_X6_pairs_L4 f0 n4) f0 n14 l3_14 l2_14 l1_14 = some res → va_P (dC, dI) vwCl (wFig a0 cy f0) H → va_D A (wFig a0 cy f0) → va_S A s.heap H locs → lv_has ls 4 [(3, .int l3_14), (2, .int l2_14), (1, .int l1_14), (0, .ref (a0 0))] → W p l e rm_X6_pairs s mm args below meth cd H locs 0 0 Q (F0 mm 14 ls []) := by
        intro n14
        induction n14 with
        | zero => intro l3_14 l2_14 l1_14 H locs ls h; exact absurd h (by simp [G_X6_pairs_L14])
        | succ n14 ih14 =>
          intro l3_14 l2_14 l1_14 H locs ls h hP hD hS hl
          rw [G_X6_pairs_L14] at h
          refine lv_iload_n hx hb dX6_pairs_14 rfl (lv_at hl 0 rfl) ?_
          refine lv_iload_n hx hb dX6_pairs_15 rfl (lv_at hl 1 rfl) ?_
          refine lv_icmp_ge (tgt := 37) hx hb dX6_pairs_16 (by decide) (fun c16 => ?_) (fun c16 => ?_)
          · replace h := if_t h c16
            refine lv_iinc (v := l2_14 + 1) (lv' := [(2, .int (l2_14 + 1)), (3, .int l3_14), (1, .int l1_14), (0, .ref (a0 0))]) hx hb dX6_pairs_37 hl (k := 1) rfl rfl (by decide) rfl (fun ls hl => ?_)
            refine lv_goto (tgt := 4) hx hb dX6_pairs_40 (by decide) ?_
            exact ih4 (l2_14 + 1) l1_14 H locs ls h hP hD hS (lv_sub hl [0, 2, 3] rfl)
          replace h := if_f h c16
          refine lv_aload_n hx hb dX6_pairs_19 rfl (lv_at hl 3 rfl) ?_
          refine lv_iload_n hx hb dX6_pairs_20 rfl (lv_at hl 1 rfl) ?_
          refine lv_iload_n hx hb dX6_pairs_21 rfl (lv_at hl 0 rfl) ?_
          obtain ⟨v22, e22, h⟩ := bnd h
          refine cS (av := [.ref (a0 0), .int l2_14, .int l3_14]) (rest := []) (st1 := [.int v22]) (k1 := 0) (k2 := 0) hx hb hml hown htg hN hK (c_X6_between l dC dI cy a0 f0 l2_14 l3_14 v22 e22) (g_S gw530 gw488 gw22 gw489) hdS_X6_between rfl ⟨⟨Nat.le_of_ble_eq_true rfl, Nat.le_of_ble_eq_true rfl⟩, Nat.le_of_ble_eq_true rfl, Nat.le_of_ble_eq_true rfl⟩ hP hD hS hA [0, 1, 2, 3, 4] [] rfl rfl rfl (by decide) (by decide) hl.1 rfl (Nat.le_of_ble_eq_true rfl) rfl rfl rfl dX6_pairs_22 (fun H locs hP hD hS => ?_)
          have hP : va_P (dC, dI) vwCl (wFig a0 cy f0) H := hP
          have hD : va_D A (wFig a0 cy f0) := hD
          have hj31 : ∀ (l3_31 : Int32) (l2_31 : Int32) (l1_31 : Int32) (H : Heap) (locs : List Loc) (ls : Array Slot), G_X6_pairs_j31 (G_X6_pairs_L14 (G_X6_pairs_L4 f0 n4) f0 n14) f0 l3_31 l2_31 l1_31 = some res → va_P (dC, dI) vwCl (wFig a0 cy f0) H → va_D A (wFig a0 cy f0) → va_S A s.heap H locs → lv_has ls 4 [(3, .int l3_31), (2, .int l2_31), (1, .int l1_31), (0, .ref (a0 0))] → W p l e rm_X6_pairs s mm args below meth cd H locs 0 0 Q (F0 mm 31 ls []) := by
            intro l3_31 l2_31 l1_31 H locs ls h hP hD hS hl
            unfold G_X6_pairs_j31 at h
            refine lv_iinc (v := l3_31 + 1) (lv' := [(3, .int (l3_31 + 1)), (2, .int l2_31), (1, .int l1_31), (0, .ref (a0 0))]) hx hb dX6_pairs_31 hl (k := 0) rfl rfl (by decide) rfl (fun ls hl => ?_)
            refine lv_goto (tgt := 14) hx hb dX6_pairs_34 (by decide) ?_
            exact ih14 (l3_31 + 1) l2_31 l1_31 H locs ls h hP hD hS (lv_sub hl [0, 1, 2, 3] rfl)
          refine lv_if_eq (tgt := 31) hx hb dX6_pairs_25 (by decide) (fun c25 => ?_) (fun c25 => ?_)
          · replace h := if_t h c25
            exact hj31 l3_14 l2_14 l1_14 H locs ls h hP hD hS (lv_sub hl [0, 1, 2, 3] rfl)
          replace h := if_f h c25
          refine lv_iinc (v := l1_14 + 1) (lv' := [(1, .int (l1_14 + 1)), (3, .int l3_14), (2, .int l2_14), (0, .ref (a0 0))]) hx hb dX6_pairs_28 hl (k := 2) rfl rfl (by decide) rfl (fun ls hl => ?_)
          exact hj31 l3_14 l2_14 (l1_14 + 1) H locs ls h hP hD hS (lv_sub hl [1, 2, 0, 3] rfl)
      exact hL14 FU 0 l2_4 l1_4 H locs ls h hP hD hS (lv_sub hl [0, 1, 2, 3] rfl)
  exact hL4 FU 0 0 H locs ls h hP hD hS (lv_sub hl [0, 1, 2] rfl)
def G_X6_seenFrom_j24 (r4 : Int32 → Int32 → Int32 → Option (Int32)) (f0 : Fig) (l3_24 : Int32) (l2_24 : Int32) (l1_24 : Int32) : Option (Int32) :=
  r4 (l3_24 + 1) l2_24 l1_24
def G_X6_seenFrom_L4  (f0 : Fig) : Nat → Int32 → Int32 → Int32 → Option (Int32)
  | 0, _, _, _ => none
  | n4 + 1, l3_4, l2_4, l1_4 =>
    if f_corners f0 ≤ l3_4 then
      some l2_4
    else
      (G_X6_between f0 l1_4 l3_4).bind fun v15 =>
      if v15 = 0 then
        G_X6_seenFrom_j24 (G_X6_seenFrom_L4 f0 n4) f0 l3_4 l2_4 l1_4
      else
        G_X6_seenFrom_j24 (G_X6_seenFrom_L4 f0 n4) f0 l3_4 (l2_4 + 1) l1_4
def G_X6_seenFrom (f0 : Fig) (p1 : Int32) : Option (Int32) :=
  G_X6_seenFrom_L4 f0 FU 0 0 p1
abbrev rm_X6_seenFrom : Room := { frames := 4, cells := 0, slots := 0, locals := 101 }
theorem hdS_X6_seenFrom : yX6_seenFrom.cls ≠ "java/lang/invoke/MethodHandle" ∧ yX6_seenFrom.cls ≠ "java/lang/invoke/VarHandle" ∧ (parseMethodDescriptor yX6_seenFrom.desc).map (fun d => d.parameters.length) = some 2 := by decide +kernel
set_option maxHeartbeats 4000000 in
set_option maxRecDepth 100000 in
theorem c_X6_seenFrom (l : Launch) (dC : Nat → ClassId) (dI : Nat → Nat → Nat) (cy : Nat → ClassId) (a0 : Nat → Nat) (f0 : Fig) (p1 : Int32) (res : Int32) (h : G_X6_seenFrom f0 p1 = some res) : CT l (dC, dI) (TY cy) yX6_seenFrom cX6_seenFrom 4 (some .int) rm_X6_seenFrom [.ref (a0 0), .int p1] (wFig a0 cy f0) (wFig a0 cy f0) (some (.int res)) := by
  refine CT.mk_i (own := RX6) ⟨by decide, rfl⟩ (Nat.le_of_ble_eq_true rfl) ?_
  intro p e s mm args below meth cd A Q hx hb hml hown htg hN hK hA hP hD hS hE ls hl
  have hl : lv_has ls 4 [(0, .ref (a0 0)), (1, .int p1)] := hl
  replace h : _ = some res := h
  unfold G_X6_seenFrom at h
  obtain ⟨H, hH⟩ : ∃ H, H = s.heap := ⟨_, rfl⟩
  obtain ⟨locs, hlocs⟩ : ∃ locs : List Loc, locs = [] := ⟨_, rfl⟩
  rw [← hlocs] at hS ⊢
  have hS : va_S A s.heap H locs := by rw [hH]; exact hS
  rw [← hH] at hP ⊢
  refine lv_iconst (v := 0) hx hb dX6_seenFrom_0 (by decide) ?_
  refine lv_istore_n (lv' := [(2, .int 0), (0, .ref (a0 0)), (1, .int p1)]) hx hb dX6_seenFrom_1 rfl hl (by decide) rfl (fun ls hl => ?_)
  refine lv_iconst (v := 0) hx hb dX6_seenFrom_2 (by decide) ?_
  refine lv_istore_n (lv' := [(3, .int 0), (2, .int 0), (0, .ref (a0 0)), (1, .int p1)]) hx hb dX6_seenFrom_3 rfl hl (by decide) rfl (fun ls hl => ?_)
  have hL4 : ∀ (n4 : Nat) (l3_4 : Int32) (l2_4 : Int32) (l1_4 : Int32) (H : Heap) (locs : List Loc) (ls : Array Slot), G_X6_seenFrom_L4 f0 n4 l3_4 l2_4 l1_4 = some res → va_P (dC, dI) vwCl (wFig a0 cy f0) H → va_D A (wFig a0 cy f0) → va_S A s.heap H locs → lv_has ls 4 [(3, .int l3_4), (2, .int l2_4), (0, .ref (a0 0)), (1, .int l1_4)] → W p l e rm_X6_seenFrom s mm args below meth cd H locs 0 0 Q (F0 mm 4 ls []) := by
    intro n4
    induction n4 with
    | zero => intro l3_4 l2_4 l1_4 H locs ls h; exact absurd h (by simp [G_X6_seenFrom_L4])
    | succ n4 ih4 =>
      intro l3_4 l2_4 l1_4 H locs ls h hP hD hS hl
      rw [G_X6_seenFrom_L4] at h
      refine lv_iload_n hx hb dX6_seenFrom_4 rfl (lv_at hl 0 rfl) ?_
      refine lv_aload_n hx hb dX6_seenFrom_5 rfl (lv_at hl 2 rfl) ?_
      refine va_getN (D := (dC, dI)) (ci := 0) (v := .int (f_corners f0)) (C := RX1) (T := TX1) (N := 6) hx hb htg inX1 hown hK hP 0 rfl rfl 1 (by decide) (va_Nw.use rfl (hN (.fieldLinkNest RX6 15 "SquaredPaper$Figure" "corners" "I" "SquaredPaper") (by decide +kernel))) (fun _ h9 => h9) rfl dX6_seenFrom_6 ?_
      refine lv_icmp_ge (tgt := 30) hx hb dX6_seenFrom_9 (by decide) (fun c9 => ?_) (fun c9 => ?_)
      · replace h := if_t h c9
        refine lv_iload_n hx hb dX6_seenFrom_30 rfl (lv_at hl 1 rfl) ?_
        obtain rfl := Option.some.inj h
        exact hE H locs 31 ls _ hP hD hS rfl dX6_seenFrom_31
      replace h := if_f h c9
      refine lv_aload_n hx hb dX6_seenFrom_12 rfl (lv_at hl 2 rfl) ?_
      refine lv_iload_n hx hb dX6_seenFrom_13 rfl (lv_at hl 3 rfl) ?_
      refine lv_iload_n hx hb dX6_seenFrom_14 rfl (lv_at hl 0 rfl) ?_
      obtain ⟨v15, e15, h⟩ := bnd h
      refine cS (av := [.ref (a0 0), .int l1_4, .int l3_4]) (rest := []) (st1 := [.int v15]) (k1 := 0) (k2 := 0) hx hb hml hown htg hN hK (c_X6_between l dC dI cy a0 f0 l1_4 l3_4 v15 e15) (g_S gw530 gw488 gw22 gw489) hdS_X6_between rfl ⟨⟨Nat.le_of_ble_eq_true rfl, Nat.le_of_ble_eq_true rfl⟩, Nat.le_of_ble_eq_true rfl, Nat.le_of_ble_eq_true rfl⟩ hP hD hS hA [0, 1, 2, 3, 4] [] rfl rfl rfl (by decide) (by decide) hl.1 rfl (Nat.le_of_ble_eq_true rfl) rfl rfl rfl dX6_seenFrom_15 (fun H locs hP hD hS => ?_)
      have hP : va_P (dC, dI) vwCl (wFig a0 cy f0) H := hP
      have hD : va_D A (wFig a0 cy f0) := hD
      have hj24 : ∀ (l3_24 : Int32) (l2_24 : Int32) (l1_24 : Int32) (H : Heap) (locs : List Loc) (ls : Array Slot), G_X6_seenFrom_j24 (G_X6_seenFrom_L4 f0 n4) f0 l3_24 l2_24 l1_24 = some res → va_P (dC, dI) vwCl (wFig a0 cy f0) H → va_D A (wFig a0 cy f0) → va_S A s.heap H locs → lv_has ls 4 [(3, .int l3_24), (2, .int l2_24), (0, .ref (a0 0)), (1, .int l1_24)] → W p l e rm_X6_seenFrom s mm args below meth cd H locs 0 0 Q (F0 mm 24 ls []) := by
        intro l3_24 l2_24 l1_24 H locs ls h hP hD hS hl
        unfold G_X6_seenFrom_j24 at h
        refine lv_iinc (v := l3_24 + 1) (lv' := [(3, .int (l3_24 + 1)), (2, .int l2_24), (0, .ref (a0 0)), (1, .int l1_24)]) hx hb dX6_seenFrom_24 hl (k := 0) rfl rfl (by decide) rfl (fun ls hl => ?_)
        refine lv_goto (tgt := 4) hx hb dX6_seenFrom_27 (by decide) ?_
        exact ih4 (l3_24 + 1) l2_24 l1_24 H locs ls h hP hD hS (lv_sub hl [0, 1, 2, 3] rfl)
      refine lv_if_eq (tgt := 24) hx hb dX6_seenFrom_18 (by decide) (fun c18 => ?_) (fun c18 => ?_)
      · replace h := if_t h c18
        exact hj24 l3_4 l2_4 l1_4 H locs ls h hP hD hS (lv_sub hl [0, 1, 2, 3] rfl)
      replace h := if_f h c18
      refine lv_iinc (v := l2_4 + 1) (lv' := [(2, .int (l2_4 + 1)), (3, .int l3_4), (0, .ref (a0 0)), (1, .int l1_4)]) hx hb dX6_seenFrom_21 hl (k := 1) rfl rfl (by decide) rfl (fun ls hl => ?_)
      exact hj24 l3_4 (l2_4 + 1) l1_4 H locs ls h hP hD hS (lv_sub hl [1, 0, 2, 3] rfl)
  exact hL4 FU 0 0 p1 H locs ls h hP hD hS (lv_sub hl [0, 1, 2, 3] rfl)
