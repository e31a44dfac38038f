theorem ac_int : Cond.arrayClass .int ∈ GW := gw_of 63 (by decide +kernel) rfl
theorem ac_boolean : Cond.arrayClass .boolean ∈ GW := gw_of 95 (by decide +kernel) rfl
theorem ac_char : Cond.arrayClass .char ∈ GW := gw_of 96 (by decide +kernel) rfl
def fig0 : Fig := (0, 0, fun _ => 0, fun _ => 0, fun _ => 0, fun _ => 0)
def text0 : TextS := (fun _ => 0, 0)
abbrev rm_X1_init : Room := { frames := 1, cells := 4, slots := 124, locals := 12 }
theorem hdS_X1_init : yX1_init.cls ≠ "java/lang/invoke/MethodHandle" ∧ yX1_init.cls ≠ "java/lang/invoke/VarHandle" ∧ (parseMethodDescriptor yX1_init.desc).map (fun d => d.parameters.length) = some 0 := by decide +kernel
set_option maxHeartbeats 4000000 in
set_option maxRecDepth 100000 in
theorem c_X1_init (l : Launch) (dC : Nat → ClassId) (dI : Nat → Nat → Nat) (cy : Nat → ClassId) (h0 : Nat) : CN l (dC, dI) (TY cy) yX1_init cX1_init 1 rm_X1_init [.ref h0] ([(h0, .inr (0, [.int 0, .int 0, .null, .null, .null, .null]))]) (fun w => ∃ a : Nat → Nat, a 0 = h0 ∧ w = wFig a cy fig0) := by
  refine CN.mk (own := RX1) ⟨by decide, rfl, rfl⟩ (Nat.le_of_ble_eq_true rfl) ?_
  intro p e s mm args below meth cd A Q hx hb hml hown hin htg hN hO hK hA hP hD hS hE ls hl
  have hl : lv_has ls 1 [(0, .ref h0)] := hl
  obtain ⟨H, hH⟩ : ∃ H, H = s.heap := ⟨_, rfl⟩
  obtain ⟨locs, hlocs⟩ : ∃ locs : List Loc, locs = [] := ⟨_, rfl⟩
  rw [← hlocs] at hS ⊢
  have hS : va_S A s.heap H locs := by rw [hH]; exact hS
  rw [← hH] at hP ⊢
  refine lv_aload_n hx hb dX1_init_0 rfl (lv_at hl 0 rfl) ?_
  refine W.objInit hx hb hown (htg _ gw36) (htg _ gw29) (htg _ gw30) rfl (by rw [hml]; exact hl.1) rfl dX1_init_1 (Nat.le_of_ble_eq_true rfl) (Nat.le_of_ble_eq_true rfl) ?_
  refine W.eq (g2 := F0 mm 4 ls []) rfl ?_
  refine lv_aload_n hx hb dX1_init_4 rfl (lv_at hl 0 rfl) ?_
  refine lv_iconst (v := 4) hx hb dX1_init_5 (by decide) ?_
  refine x_newa (ty := .int) hx hb (htg _ ac_int) rfl hK 0 rfl (by simp) hP hD hS hA 4 (k1 := 1) (k2 := 4) (by decide) (by decide) (by decide) rfl rfl (by decide) (by decide) dX1_init_6 (fun q6 H hP hD hS => ?_)
  have hP : va_P (dC, dI) vwCl ([(h0, .inr (0, [.int 0, .int 0, .null, .null, .null, .null])), (q6, .inl (cy 0, 4, .inl (fun _ => 0)))]) H := hP
  have hD : va_D A ([(h0, .inr (0, [.int 0, .int 0, .null, .null, .null, .null])), (q6, .inl (cy 0, 4, .inl (fun _ => 0)))]) := hD
  refine va_putF (D := (dC, dI)) (ci := 0) (v := .ref q6) (ty := .array .int) (C := RX1) (T := TX1) (N := 6) hx hb htg inX1 tyX1 tyX1_ok nmX1 hown hK hP hD hS 0 rfl rfl 2 (by decide) (htg _ gw46) (fun _ h9 => h9) rfl hin rfl (by decide +kernel) rfl rfl (Nat.le_of_ble_eq_true rfl) dX1_init_8 (fun H locs hP hD hS => ?_)
  have hP : va_P (dC, dI) vwCl ([(h0, .inr (0, [.int 0, .int 0, .ref q6, .null, .null, .null])), (q6, .inl (cy 0, 4, .inl (fun _ => 0)))]) H := hP
  have hD : va_D A ([(h0, .inr (0, [.int 0, .int 0, .ref q6, .null, .null, .null])), (q6, .inl (cy 0, 4, .inl (fun _ => 0)))]) := hD
  refine lv_aload_n hx hb dX1_init_11 rfl (lv_at hl 0 rfl) ?_
  refine lv_bipush (v := 40) hx hb dX1_init_12 (by decide) ?_
  refine x_newa (ty := .int) hx hb (htg _ ac_int) rfl hK 0 rfl (by simp) hP hD hS hA 40 (k1 := 2) (k2 := 44) (by decide) (by decide) (by decide) rfl rfl (by decide) (by decide) dX1_init_14 (fun q14 H hP hD hS => ?_)
  have hP : va_P (dC, dI) vwCl ([(h0, .inr (0, [.int 0, .int 0, .ref q6, .null, .null, .null])), (q6, .inl (cy 0, 4, .inl (fun _ => 0))), (q14, .inl (cy 0, 40, .inl (fun _ => 0)))]) H := hP
  have hD : va_D A ([(h0, .inr (0, [.int 0, .int 0, .ref q6, .null, .null, .null])), (q6, .inl (cy 0, 4, .inl (fun _ => 0))), (q14, .inl (cy 0, 40, .inl (fun _ => 0)))]) := hD
  refine va_putF (D := (dC, dI)) (ci := 0) (v := .ref q14) (ty := .array .int) (C := RX1) (T := TX1) (N := 6) hx hb htg inX1 tyX1 tyX1_ok nmX1 hown hK hP hD hS 0 rfl rfl 3 (by decide) (htg _ gw47) (fun _ h9 => h9) rfl hin rfl (by decide +kernel) rfl rfl (Nat.le_of_ble_eq_true rfl) dX1_init_16 (fun H locs hP hD hS => ?_)
  have hP : va_P (dC, dI) vwCl ([(h0, .inr (0, [.int 0, .int 0, .ref q6, .ref q14, .null, .null])), (q6, .inl (cy 0, 4, .inl (fun _ => 0))), (q14, .inl (cy 0, 40, .inl (fun _ => 0)))]) H := hP
  have hD : va_D A ([(h0, .inr (0, [.int 0, .int 0, .ref q6, .ref q14, .null, .null])), (q6, .inl (cy 0, 4, .inl (fun _ => 0))), (q14, .inl (cy 0, 40, .inl (fun _ => 0)))]) := hD
  refine lv_aload_n hx hb dX1_init_19 rfl (lv_at hl 0 rfl) ?_
  refine lv_bipush (v := 40) hx hb dX1_init_20 (by decide) ?_
  refine x_newa (ty := .int) hx hb (htg _ ac_int) rfl hK 0 rfl (by simp) hP hD hS hA 40 (k1 := 3) (k2 := 84) (by decide) (by decide) (by decide) rfl rfl (by decide) (by decide) dX1_init_22 (fun q22 H hP hD hS => ?_)
  have hP : va_P (dC, dI) vwCl ([(h0, .inr (0, [.int 0, .int 0, .ref q6, .ref q14, .null, .null])), (q6, .inl (cy 0, 4, .inl (fun _ => 0))), (q14, .inl (cy 0, 40, .inl (fun _ => 0))), (q22, .inl (cy 0, 40, .inl (fun _ => 0)))]) H := hP
  have hD : va_D A ([(h0, .inr (0, [.int 0, .int 0, .ref q6, .ref q14, .null, .null])), (q6, .inl (cy 0, 4, .inl (fun _ => 0))), (q14, .inl (cy 0, 40, .inl (fun _ => 0))), (q22, .inl (cy 0, 40, .inl (fun _ => 0)))]) := hD
  refine va_putF (D := (dC, dI)) (ci := 0) (v := .ref q22) (ty := .array .int) (C := RX1) (T := TX1) (N := 6) hx hb htg inX1 tyX1 tyX1_ok nmX1 hown hK hP hD hS 0 rfl rfl 4 (by decide) (htg _ gw48) (fun _ h9 => h9) rfl hin rfl (by decide +kernel) rfl rfl (Nat.le_of_ble_eq_true rfl) dX1_init_24 (fun H locs hP hD hS => ?_)
  have hP : va_P (dC, dI) vwCl ([(h0, .inr (0, [.int 0, .int 0, .ref q6, .ref q14, .ref q22, .null])), (q6, .inl (cy 0, 4, .inl (fun _ => 0))), (q14, .inl (cy 0, 40, .inl (fun _ => 0))), (q22, .inl (cy 0, 40, .inl (fun _ => 0)))]) H := hP
  have hD : va_D A ([(h0, .inr (0, [.int 0, .int 0, .ref q6, .ref q14, .ref q22, .null])), (q6, .inl (cy 0, 4, .inl (fun _ => 0))), (q14, .inl (cy 0, 40, .inl (fun _ => 0))), (q22, .inl (cy 0, 40, .inl (fun _ => 0)))]) := hD
  refine lv_aload_n hx hb dX1_init_27 rfl (lv_at hl 0 rfl) ?_
  refine lv_bipush (v := 40) hx hb dX1_init_28 (by decide) ?_
  refine x_newa (ty := .int) hx hb (htg _ ac_int) rfl hK 0 rfl (by simp) hP hD hS hA 40 (k1 := 4) (k2 := 124) (by decide) (by decide) (by decide) rfl rfl (by decide) (by decide) dX1_init_30 (fun q30 H hP hD hS => ?_)
  have hP : va_P (dC, dI) vwCl ([(h0, .inr (0, [.int 0, .int 0, .ref q6, .ref q14, .ref q22, .null])), (q6, .inl (cy 0, 4, .inl (fun _ => 0))), (q14, .inl (cy 0, 40, .inl (fun _ => 0))), (q22, .inl (cy 0, 40, .inl (fun _ => 0))), (q30, .inl (cy 0, 40, .inl (fun _ => 0)))]) H := hP
  have hD : va_D A ([(h0, .inr (0, [.int 0, .int 0, .ref q6, .ref q14, .ref q22, .null])), (q6, .inl (cy 0, 4, .inl (fun _ => 0))), (q14, .inl (cy 0, 40, .inl (fun _ => 0))), (q22, .inl (cy 0, 40, .inl (fun _ => 0))), (q30, .inl (cy 0, 40, .inl (fun _ => 0)))]) := hD
  refine va_putF (D := (dC, dI)) (ci := 0) (v := .ref q30) (ty := .array .int) (C := RX1) (T := TX1) (N := 6) hx hb htg inX1 tyX1 tyX1_ok nmX1 hown hK hP hD hS 0 rfl rfl 5 (by decide) (htg _ gw49) (fun _ h9 => h9) rfl hin rfl (by decide +kernel) rfl rfl (Nat.le_of_ble_eq_true rfl) dX1_init_32 (fun H locs hP hD hS => ?_)
  have hP : va_P (dC, dI) vwCl ([(h0, .inr (0, [.int 0, .int 0, .ref q6, .ref q14, .ref q22, .ref q30])), (q6, .inl (cy 0, 4, .inl (fun _ => 0))), (q14, .inl (cy 0, 40, .inl (fun _ => 0))), (q22, .inl (cy 0, 40, .inl (fun _ => 0))), (q30, .inl (cy 0, 40, .inl (fun _ => 0)))]) H := hP
  have hD : va_D A ([(h0, .inr (0, [.int 0, .int 0, .ref q6, .ref q14, .ref q22, .ref q30])), (q6, .inl (cy 0, 4, .inl (fun _ => 0))), (q14, .inl (cy 0, 40, .inl (fun _ => 0))), (q22, .inl (cy 0, 40, .inl (fun _ => 0))), (q30, .inl (cy 0, 40, .inl (fun _ => 0)))]) := hD
  exact hE H locs 35 ls (wFig (fun n => [h0, q6, q14, q22, q30].getD n 0) cy fig0) ⟨(fun n => [h0, q6, q14, q22, q30].getD n 0), rfl, rfl⟩ hP hD hS dX1_init_35
abbrev rm_X7_init : Room := { frames := 1, cells := 1, slots := 90, locals := 12 }
theorem hdS_X7_init : yX7_init.cls ≠ "java/lang/invoke/MethodHandle" ∧ yX7_init.cls ≠ "java/lang/invoke/VarHandle" ∧ (parseMethodDescriptor yX7_init.desc).map (fun d => d.parameters.length) = some 0 := by decide +kernel
set_option maxHeartbeats 4000000 in
set_option maxRecDepth 100000 in
theorem c_X7_init (l : Launch) (dC : Nat → ClassId) (dI : Nat → Nat → Nat) (cy : Nat → ClassId) (h0 : Nat) : CN l (dC, dI) (TY cy) yX7_init cX7_init 1 rm_X7_init [.ref h0] ([(h0, .inr (2, [.null, .int 0]))]) (fun w => ∃ a : Nat → Nat, a 0 = h0 ∧ w = wText a cy text0) := by
  refine CN.mk (own := RX7) ⟨by decide, rfl, rfl⟩ (Nat.le_of_ble_eq_true rfl) ?_
  intro p e s mm args below meth cd A Q hx hb hml hown hin htg hN hO hK hA hP hD hS hE ls hl
  have hl : lv_has ls 1 [(0, .ref h0)] := hl
  obtain ⟨H, hH⟩ : ∃ H, H = s.heap := ⟨_, rfl⟩
  obtain ⟨locs, hlocs⟩ : ∃ locs : List Loc, locs = [] := ⟨_, rfl⟩
  rw [← hlocs] at hS ⊢
  have hS : va_S A s.heap H locs := by rw [hH]; exact hS
  rw [← hH] at hP ⊢
  refine lv_aload_n hx hb dX7_init_0 rfl (lv_at hl 0 rfl) ?_
  refine W.objInit hx hb hown (htg _ gw88) (htg _ gw29) (htg _ gw30) rfl (by rw [hml]; exact hl.1) rfl dX7_init_1 (Nat.le_of_ble_eq_true rfl) (Nat.le_of_ble_eq_true rfl) ?_
  refine W.eq (g2 := F0 mm 4 ls []) rfl ?_
  refine lv_aload_n hx hb dX7_init_4 rfl (lv_at hl 0 rfl) ?_
  refine lv_bipush (v := 90) hx hb dX7_init_5 (by decide) ?_
  refine x_newa (ty := .char) hx hb (htg _ ac_char) rfl hK 2 rfl (by simp) hP hD hS hA 90 (k1 := 1) (k2 := 90) (by decide) (by decide) (by decide) rfl rfl (by decide) (by decide) dX7_init_7 (fun q7 H hP hD hS => ?_)
  have hP : va_P (dC, dI) vwCl ([(h0, .inr (2, [.null, .int 0])), (q7, .inl (cy 2, 90, .inl (fun _ => 0)))]) H := hP
  have hD : va_D A ([(h0, .inr (2, [.null, .int 0])), (q7, .inl (cy 2, 90, .inl (fun _ => 0)))]) := hD
  refine va_putF (D := (dC, dI)) (ci := 2) (v := .ref q7) (ty := .array .char) (C := RX7) (T := TX7) (N := 2) hx hb htg inX7 tyX7 tyX7_ok nmX7 hown hK hP hD hS 0 rfl rfl 0 (by decide) (htg _ gw89) (fun _ h9 => h9) rfl hin rfl (by decide +kernel) rfl rfl (Nat.le_of_ble_eq_true rfl) dX7_init_9 (fun H locs hP hD hS => ?_)
  have hP : va_P (dC, dI) vwCl ([(h0, .inr (2, [.ref q7, .int 0])), (q7, .inl (cy 2, 90, .inl (fun _ => 0)))]) H := hP
  have hD : va_D A ([(h0, .inr (2, [.ref q7, .int 0])), (q7, .inl (cy 2, 90, .inl (fun _ => 0)))]) := hD
  exact hE H locs 12 ls (wText (fun n => [h0, q7].getD n 0) cy text0) ⟨(fun n => [h0, q7].getD n 0), rfl, rfl⟩ hP hD hS dX7_init_12
