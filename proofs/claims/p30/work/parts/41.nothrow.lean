/-! the getters where they return: nothing is made -/
abbrev rm_X8_checkCorner_0 : Room := { frames := 2, cells := 0, slots := 0, locals := 43 }
set_option maxHeartbeats 4000000 in
set_option maxRecDepth 100000 in
theorem c0_X8_checkCorner (l : Launch) (dC : Nat → ClassId) (dI : Nat → Nat → Nat) (cy : Nat → ClassId) (x : Nat → Nat) (F : Fig) (p1 : Int32) (p2 : Int32) (res : Unit) (h : G_X8_checkCorner F p1 p2 = some (.inr res)) : CT l (dC, dI) (TY cy) yX8_checkCorner cX8_checkCorner 3 none rm_X8_checkCorner_0 [.ref (x 0), .int p1, .int p2] (wSPo x ++ wFig (fun j => x (1 + j)) cy F) (wSPo x ++ wFig (fun j => x (1 + j)) cy F) none := by
  refine CT.mk_v (own := RX8) ⟨by decide, rfl⟩ (Nat.le_of_ble_eq_true rfl) ?_
  intro p e s mm args below meth cd A Q hx hb hml hown htg hN hK hA hP hD hS hE ls hl
  have hl : lv_has ls 3 [(0, .ref (x 0)), (1, .int p1), (2, .int p2)] := hl
  replace h : _ = some (Sum.inr res) := h
  unfold G_X8_checkCorner at h
  obtain ⟨H, hH⟩ : ∃ H, H = s.heap := ⟨_, rfl⟩
  obtain ⟨locs, hlocs⟩ : ∃ locs : List Loc, locs = [] := ⟨_, rfl⟩
  rw [← hlocs] at hS ⊢
  have hS : va_S A s.heap H locs := by rw [hH]; exact hS
  rw [← hH] at hP ⊢
  refine lv_aload_n hx hb dX8_checkCorner_0 rfl (lv_at hl 0 rfl) ?_
  refine va_get (D := (dC, dI)) (ci := 3) (v := .ref (x 1)) (C := RX8) (T := TX8) (N := 7) hx hb htg inX8 hown hK hP 0 rfl rfl 0 (by decide) (htg _ gw133) (fun _ h9 => h9) rfl dX8_checkCorner_1 ?_
  refine lv_iload_n hx hb dX8_checkCorner_4 rfl (lv_at hl 1 rfl) ?_
  refine lv_iload_n hx hb dX8_checkCorner_5 rfl (lv_at hl 2 rfl) ?_
  obtain ⟨v6, e6, h⟩ := bnd h
  refine cV (av := [.int p1, .int p2]) (rest := []) (st1 := [.int v6]) (k1 := 0) (k2 := 0) (ci := 0) (q0 := 0) hx hb hml hown htg hN hK (c_X1_hasCorner l dC dI cy (fun j => x (1 + j)) F p1 p2 v6 e6) (g_V gw163 gw164 gw165 gw8 gw166) hdV_X1_hasCorner rfl ⟨⟨Nat.le_of_ble_eq_true rfl, Nat.le_of_ble_eq_true rfl⟩, Nat.le_of_ble_eq_true rfl, Nat.le_of_ble_eq_true rfl⟩ hP hD hS hA ⟨rfl, rfl⟩ rfl [1, 2, 3, 4, 5] [0] rfl rfl rfl (by decide) (by decide) hl.1 rfl (Nat.le_of_ble_eq_true rfl) rfl rfl rfl dX8_checkCorner_6 (fun H locs hP hD hS => ?_)
  obtain ⟨hP, hD⟩ := x_perm (ws' := wSPo x ++ wFig (fun j => x (1 + j)) cy F) hP hD [0, 1, 2, 3, 4, 5] (by decide) rfl rfl
  refine lv_if_ne (tgt := 23) hx hb dX8_checkCorner_9 (by decide) (fun c9 => ?_) (fun c9 => ?_)
  · replace h := if_f h c9
    obtain rfl := Sum.inr.inj (Option.some.inj h)
    exact hE H locs 23 ls hP hD hS dX8_checkCorner_23
  replace h := if_t h c9
  cases h
abbrev rm_X8_sees_0 : Room := { frames := 4, cells := 0, slots := 0, locals := 101 }
set_option maxHeartbeats 4000000 in
set_option maxRecDepth 100000 in
theorem c0_X8_sees (l : Launch) (dC : Nat → ClassId) (dI : Nat → Nat → Nat) (cy : Nat → ClassId) (x : Nat → Nat) (F : Fig) (p1 : Int32) (p2 : Int32) (p3 : Int32) (p4 : Int32) (res : Int32) (h : G_X8_sees F p1 p2 p3 p4 = some (.inr res)) : CT l (dC, dI) (TY cy) yX8_sees cX8_sees 5 (some .boolean) rm_X8_sees_0 [.ref (x 0), .int p1, .int p2, .int p3, .int p4] (wSPo x ++ wFig (fun j => x (1 + j)) cy F) (wSPo x ++ wFig (fun j => x (1 + j)) cy F) (some (.int res)) := by
  refine CT.mk_z (own := RX8) ⟨by decide, rfl⟩ (Nat.le_of_ble_eq_true rfl) ?_
  intro p e s mm args below meth cd A Q hx hb hml hown htg hN hK hA hP hD hS hE ls hl
  have hl : lv_has ls 5 [(0, .ref (x 0)), (1, .int p1), (2, .int p2), (3, .int p3), (4, .int p4)] := hl
  replace h : _ = some (Sum.inr res) := h
  unfold G_X8_sees at h
  obtain ⟨H, hH⟩ : ∃ H, H = s.heap := ⟨_, rfl⟩
  obtain ⟨locs, hlocs⟩ : ∃ locs : List Loc, locs = [] := ⟨_, rfl⟩
  rw [← hlocs] at hS ⊢
  have hS : va_S A s.heap H locs := by rw [hH]; exact hS
  rw [← hH] at hP ⊢
  refine lv_aload_n hx hb dX8_sees_0 rfl (lv_at hl 0 rfl) ?_
  refine lv_iload_n hx hb dX8_sees_1 rfl (lv_at hl 1 rfl) ?_
  refine lv_iload_n hx hb dX8_sees_2 rfl (lv_at hl 2 rfl) ?_
  obtain ⟨v3, e3, h⟩ := bnd h
  rcases hv3 : v3 with k3 | u3
  · simp only [hv3] at h; cases h
  simp only [hv3] at h
  refine cV (av := [.int p1, .int p2]) (rest := []) (st1 := []) (k1 := 0) (k2 := 0) (ci := 3) (q0 := 0) hx hb hml hown htg hN hK (c0_X8_checkCorner l dC dI cy x F p1 p2 u3 (by rw [e3, hv3])) (g_V gw159 gw161 gw1 gw7 gw162) hdV_X8_checkCorner rfl ⟨⟨Nat.le_of_ble_eq_true rfl, Nat.le_of_ble_eq_true rfl⟩, Nat.le_of_ble_eq_true rfl, Nat.le_of_ble_eq_true rfl⟩ hP hD hS hA ⟨rfl, rfl⟩ rfl [0, 1, 2, 3, 4, 5] [] rfl rfl rfl (by decide) (by decide) hl.1 rfl (Nat.le_of_ble_eq_true rfl) rfl rfl rfl dX8_sees_3 (fun H locs hP hD hS => ?_)
  have hP : va_P (dC, dI) vwCl (wSPo x ++ wFig (fun j => x (1 + j)) cy F) H := hP
  have hD : va_D A (wSPo x ++ wFig (fun j => x (1 + j)) cy F) := hD
  refine lv_aload_n hx hb dX8_sees_6 rfl (lv_at hl 0 rfl) ?_
  refine lv_iload_n hx hb dX8_sees_7 rfl (lv_at hl 3 rfl) ?_
  refine lv_iload hx hb dX8_sees_8 (lv_at hl 4 rfl) ?_
  obtain ⟨v10, e10, h⟩ := bnd h
  rcases hv10 : v10 with k10 | u10
  · simp only [hv10] at h; cases h
  simp only [hv10] at h
  refine cV (av := [.int p3, .int p4]) (rest := []) (st1 := []) (k1 := 0) (k2 := 0) (ci := 3) (q0 := 0) hx hb hml hown htg hN hK (c0_X8_checkCorner l dC dI cy x F p3 p4 u10 (by rw [e10, hv10])) (g_V gw159 gw161 gw1 gw7 gw162) hdV_X8_checkCorner rfl ⟨⟨Nat.le_of_ble_eq_true rfl, Nat.le_of_ble_eq_true rfl⟩, Nat.le_of_ble_eq_true rfl, Nat.le_of_ble_eq_true rfl⟩ hP hD hS hA ⟨rfl, rfl⟩ rfl [0, 1, 2, 3, 4, 5] [] rfl rfl rfl (by decide) (by decide) hl.1 rfl (Nat.le_of_ble_eq_true rfl) rfl rfl rfl dX8_sees_10 (fun H locs hP hD hS => ?_)
  have hP : va_P (dC, dI) vwCl (wSPo x ++ wFig (fun j => x (1 + j)) cy F) H := hP
  have hD : va_D A (wSPo x ++ wFig (fun j => x (1 + j)) cy F) := hD
  refine lv_aload_n hx hb dX8_sees_13 rfl (lv_at hl 0 rfl) ?_
  refine va_get (D := (dC, dI)) (ci := 3) (v := .ref (x 1)) (C := RX8) (T := TX8) (N := 7) hx hb htg inX8 hown hK hP 0 rfl rfl 0 (by decide) (htg _ gw133) (fun _ h9 => h9) rfl dX8_sees_14 ?_
  refine lv_aload_n hx hb dX8_sees_17 rfl (lv_at hl 0 rfl) ?_
  refine va_get (D := (dC, dI)) (ci := 3) (v := .ref (x 1)) (C := RX8) (T := TX8) (N := 7) hx hb htg inX8 hown hK hP 0 rfl rfl 0 (by decide) (htg _ gw133) (fun _ h9 => h9) rfl dX8_sees_18 ?_
  refine lv_iload_n hx hb dX8_sees_21 rfl (lv_at hl 1 rfl) ?_
  refine lv_iload_n hx hb dX8_sees_22 rfl (lv_at hl 2 rfl) ?_
  obtain ⟨v23, e23, h⟩ := bnd h
  refine cV (av := [.int p1, .int p2]) (rest := [.ref (x 1)]) (st1 := [.int v23, .ref (x 1)]) (k1 := 0) (k2 := 0) (ci := 0) (q0 := 0) hx hb hml hown htg hN hK (c_X1_at l dC dI cy (fun j => x (1 + j)) F p1 p2 v23 e23) (g_V gw242 gw118 gw119 gw8 gw120) hdV_X1_at rfl ⟨⟨Nat.le_of_ble_eq_true rfl, Nat.le_of_ble_eq_true rfl⟩, Nat.le_of_ble_eq_true rfl, Nat.le_of_ble_eq_true rfl⟩ hP hD hS hA ⟨rfl, rfl⟩ rfl [1, 2, 3, 4, 5] [0] rfl rfl rfl (by decide) (by decide) hl.1 rfl (Nat.le_of_ble_eq_true rfl) rfl rfl rfl dX8_sees_23 (fun H locs hP hD hS => ?_)
  obtain ⟨hP, hD⟩ := x_perm (ws' := wSPo x ++ wFig (fun j => x (1 + j)) cy F) hP hD [0, 1, 2, 3, 4, 5] (by decide) rfl rfl
  refine lv_aload_n hx hb dX8_sees_26 rfl (lv_at hl 0 rfl) ?_
  refine va_get (D := (dC, dI)) (ci := 3) (v := .ref (x 1)) (C := RX8) (T := TX8) (N := 7) hx hb htg inX8 hown hK hP 0 rfl rfl 0 (by decide) (htg _ gw133) (fun _ h9 => h9) rfl dX8_sees_27 ?_
  refine lv_iload_n hx hb dX8_sees_30 rfl (lv_at hl 3 rfl) ?_
  refine lv_iload hx hb dX8_sees_31 (lv_at hl 4 rfl) ?_
  obtain ⟨v33, e33, h⟩ := bnd h
  refine cV (av := [.int p3, .int p4]) (rest := [.int v23, .ref (x 1)]) (st1 := [.int v33, .int v23, .ref (x 1)]) (k1 := 0) (k2 := 0) (ci := 0) (q0 := 0) hx hb hml hown htg hN hK (c_X1_at l dC dI cy (fun j => x (1 + j)) F p3 p4 v33 e33) (g_V gw242 gw118 gw119 gw8 gw120) hdV_X1_at rfl ⟨⟨Nat.le_of_ble_eq_true rfl, Nat.le_of_ble_eq_true rfl⟩, Nat.le_of_ble_eq_true rfl, Nat.le_of_ble_eq_true rfl⟩ hP hD hS hA ⟨rfl, rfl⟩ rfl [1, 2, 3, 4, 5] [0] rfl rfl rfl (by decide) (by decide) hl.1 rfl (Nat.le_of_ble_eq_true rfl) rfl rfl rfl dX8_sees_33 (fun H locs hP hD hS => ?_)
  obtain ⟨hP, hD⟩ := x_perm (ws' := wSPo x ++ wFig (fun j => x (1 + j)) cy F) hP hD [0, 1, 2, 3, 4, 5] (by decide) rfl rfl
  obtain ⟨v36, e36, h⟩ := bnd h
  refine cS (av := [.ref (x 1), .int v23, .int v33]) (rest := []) (st1 := [.int v36]) (k1 := 0) (k2 := 0) hx hb hml hown htg hN hK (c_X6_between l dC dI cy (fun j => x (1 + j)) F v23 v33 v36 e36) (g_S gw487 gw488 gw22 gw489) hdS_X6_between rfl ⟨⟨Nat.le_of_ble_eq_true rfl, Nat.le_of_ble_eq_true rfl⟩, Nat.le_of_ble_eq_true rfl, Nat.le_of_ble_eq_true rfl⟩ hP hD hS hA [1, 2, 3, 4, 5] [0] rfl rfl rfl (by decide) (by decide) hl.1 rfl (Nat.le_of_ble_eq_true rfl) rfl rfl rfl dX8_sees_36 (fun H locs hP hD hS => ?_)
  obtain ⟨hP, hD⟩ := x_perm (ws' := wSPo x ++ wFig (fun j => x (1 + j)) cy F) hP hD [0, 1, 2, 3, 4, 5] (by decide) rfl rfl
  obtain ⟨v39, e39, h⟩ := bnd h
  obtain ⟨rfl, hz39⟩ := bck_in e39
  obtain rfl := Sum.inr.inj (Option.some.inj h)
  exact hE H locs 39 ls _ hP hD hS rfl hz39 dX8_sees_39
abbrev rm_X8_corner_0 : Room := { frames := 5, cells := 0, slots := 0, locals := 124 }
set_option maxHeartbeats 4000000 in
set_option maxRecDepth 100000 in
theorem c0_X8_corner (l : Launch) (dC : Nat → ClassId) (dI : Nat → Nat → Nat) (cy : Nat → ClassId) (x : Nat → Nat) (F : Fig) (p1 : Int32) (p2 : Int32) (p3 : Int32) (res : Int32) (h : G_X8_corner F p1 p2 p3 = some (.inr res)) : CT l (dC, dI) (TY cy) yX8_corner cX8_corner 5 (some .int) rm_X8_corner_0 [.ref (x 0), .int p1, .int p2, .int p3] (wSPo x ++ wFig (fun j => x (1 + j)) cy F) (wSPo x ++ wFig (fun j => x (1 + j)) cy F) (some (.int res)) := by
  refine CT.mk_i (own := RX8) ⟨by decide, rfl⟩ (Nat.le_of_ble_eq_true rfl) ?_
  intro p e s mm args below meth cd A Q hx hb hml hown htg hN hK hA hP hD hS hE ls hl
  have hl : lv_has ls 5 [(0, .ref (x 0)), (1, .int p1), (2, .int p2), (3, .int p3)] := hl
  replace h : _ = some (Sum.inr res) := h
  unfold G_X8_corner at h
  obtain ⟨H, hH⟩ : ∃ H, H = s.heap := ⟨_, rfl⟩
  obtain ⟨locs, hlocs⟩ : ∃ locs : List Loc, locs = [] := ⟨_, rfl⟩
  rw [← hlocs] at hS ⊢
  have hS : va_S A s.heap H locs := by rw [hH]; exact hS
  rw [← hH] at hP ⊢
  refine lv_aload_n hx hb dX8_corner_0 rfl (lv_at hl 0 rfl) ?_
  refine lv_iload_n hx hb dX8_corner_1 rfl (lv_at hl 1 rfl) ?_
  refine lv_iload_n hx hb dX8_corner_2 rfl (lv_at hl 2 rfl) ?_
  obtain ⟨v3, e3, h⟩ := bnd h
  rcases hv3 : v3 with k3 | u3
  · simp only [hv3] at h; cases h
  simp only [hv3] at h
  refine cV (av := [.int p1, .int p2]) (rest := []) (st1 := []) (k1 := 0) (k2 := 0) (ci := 3) (q0 := 0) hx hb hml hown htg hN hK (c0_X8_checkCorner l dC dI cy x F p1 p2 u3 (by rw [e3, hv3])) (g_V gw159 gw161 gw1 gw7 gw162) hdV_X8_checkCorner rfl ⟨⟨Nat.le_of_ble_eq_true rfl, Nat.le_of_ble_eq_true rfl⟩, Nat.le_of_ble_eq_true rfl, Nat.le_of_ble_eq_true rfl⟩ hP hD hS hA ⟨rfl, rfl⟩ rfl [0, 1, 2, 3, 4, 5] [] rfl rfl rfl (by decide) (by decide) hl.1 rfl (Nat.le_of_ble_eq_true rfl) rfl rfl rfl dX8_corner_3 (fun H locs hP hD hS => ?_)
  have hP : va_P (dC, dI) vwCl (wSPo x ++ wFig (fun j => x (1 + j)) cy F) H := hP
  have hD : va_D A (wSPo x ++ wFig (fun j => x (1 + j)) cy F) := hD
  refine lv_aload_n hx hb dX8_corner_6 rfl (lv_at hl 0 rfl) ?_
  refine va_get (D := (dC, dI)) (ci := 3) (v := .ref (x 1)) (C := RX8) (T := TX8) (N := 7) hx hb htg inX8 hown hK hP 0 rfl rfl 0 (by decide) (htg _ gw133) (fun _ h9 => h9) rfl dX8_corner_7 ?_
  refine lv_iload_n hx hb dX8_corner_10 rfl (lv_at hl 1 rfl) ?_
  refine lv_iload_n hx hb dX8_corner_11 rfl (lv_at hl 2 rfl) ?_
  obtain ⟨v12, e12, h⟩ := bnd h
  refine cV (av := [.int p1, .int p2]) (rest := []) (st1 := [.int v12]) (k1 := 0) (k2 := 0) (ci := 0) (q0 := 0) hx hb hml hown htg hN hK (c_X1_at l dC dI cy (fun j => x (1 + j)) F p1 p2 v12 e12) (g_V gw242 gw118 gw119 gw8 gw120) hdV_X1_at rfl ⟨⟨Nat.le_of_ble_eq_true rfl, Nat.le_of_ble_eq_true rfl⟩, Nat.le_of_ble_eq_true rfl, Nat.le_of_ble_eq_true rfl⟩ hP hD hS hA ⟨rfl, rfl⟩ rfl [1, 2, 3, 4, 5] [0] rfl rfl rfl (by decide) (by decide) hl.1 rfl (Nat.le_of_ble_eq_true rfl) rfl rfl rfl dX8_corner_12 (fun H locs hP hD hS => ?_)
  obtain ⟨hP, hD⟩ := x_perm (ws' := wSPo x ++ wFig (fun j => x (1 + j)) cy F) hP hD [0, 1, 2, 3, 4, 5] (by decide) rfl rfl
  refine lv_istore (lv' := [(4, .int v12), (0, .ref (x 0)), (1, .int p1), (2, .int p2), (3, .int p3)]) hx hb dX8_corner_15 hl (by decide) rfl (fun ls hl => ?_)
  refine lv_iload_n hx hb dX8_corner_17 rfl (lv_at hl 4 rfl) ?_
  by_cases c18_0 : p3 = 0
  · replace h := if_t h c18_0
    refine lv_tableIn (tgt := 56) (off := 38) hx hb dX8_corner_18 (by rw [c18_0]; decide) (by rw [c18_0]; decide) (by rw [c18_0]; rfl) (by decide) ?_
    refine lv_aload_n hx hb dX8_corner_56 rfl (lv_at hl 1 rfl) ?_
    refine va_get (D := (dC, dI)) (ci := 3) (v := .ref (x 1)) (C := RX8) (T := TX8) (N := 7) hx hb htg inX8 hown hK hP 0 rfl rfl 0 (by decide) (htg _ gw133) (fun _ h9 => h9) rfl dX8_corner_57 ?_
    refine lv_iload hx hb dX8_corner_60 (lv_at hl 0 rfl) ?_
    obtain ⟨v62, e62, h⟩ := bnd h
    refine cV (av := [.int v12]) (rest := []) (st1 := [.int v62]) (k1 := 0) (k2 := 0) (ci := 0) (q0 := 0) hx hb hml hown htg hN hK (c_X1_xOf l dC dI cy (fun j => x (1 + j)) F v12 v62 e62) (g_V gw514 gw251 gw252 gw8 gw253) hdV_X1_xOf rfl ⟨⟨Nat.le_of_ble_eq_true rfl, Nat.le_of_ble_eq_true rfl⟩, Nat.le_of_ble_eq_true rfl, Nat.le_of_ble_eq_true rfl⟩ hP hD hS hA ⟨rfl, rfl⟩ rfl [1, 2, 3, 4, 5] [0] rfl rfl rfl (by decide) (by decide) hl.1 rfl (Nat.le_of_ble_eq_true rfl) rfl rfl rfl dX8_corner_62 (fun H locs hP hD hS => ?_)
    obtain ⟨hP, hD⟩ := x_perm (ws' := wSPo x ++ wFig (fun j => x (1 + j)) cy F) hP hD [0, 1, 2, 3, 4, 5] (by decide) rfl rfl
    obtain rfl := Sum.inr.inj (Option.some.inj h)
    exact hE H locs 65 ls _ hP hD hS rfl dX8_corner_65
  replace h := if_f h c18_0
  by_cases c18_1 : p3 = 1
  · replace h := if_t h c18_1
    refine lv_tableIn (tgt := 66) (off := 48) hx hb dX8_corner_18 (by rw [c18_1]; decide) (by rw [c18_1]; decide) (by rw [c18_1]; rfl) (by decide) ?_
    refine lv_aload_n hx hb dX8_corner_66 rfl (lv_at hl 1 rfl) ?_
    refine va_get (D := (dC, dI)) (ci := 3) (v := .ref (x 1)) (C := RX8) (T := TX8) (N := 7) hx hb htg inX8 hown hK hP 0 rfl rfl 0 (by decide) (htg _ gw133) (fun _ h9 => h9) rfl dX8_corner_67 ?_
    refine lv_iload hx hb dX8_corner_70 (lv_at hl 0 rfl) ?_
    obtain ⟨v72, e72, h⟩ := bnd h
    refine cV (av := [.int v12]) (rest := []) (st1 := [.int v72]) (k1 := 0) (k2 := 0) (ci := 0) (q0 := 0) hx hb hml hown htg hN hK (c_X1_yOf l dC dI cy (fun j => x (1 + j)) F v12 v72 e72) (g_V gw515 gw258 gw259 gw8 gw260) hdV_X1_yOf rfl ⟨⟨Nat.le_of_ble_eq_true rfl, Nat.le_of_ble_eq_true rfl⟩, Nat.le_of_ble_eq_true rfl, Nat.le_of_ble_eq_true rfl⟩ hP hD hS hA ⟨rfl, rfl⟩ rfl [1, 2, 3, 4, 5] [0] rfl rfl rfl (by decide) (by decide) hl.1 rfl (Nat.le_of_ble_eq_true rfl) rfl rfl rfl dX8_corner_72 (fun H locs hP hD hS => ?_)
    obtain ⟨hP, hD⟩ := x_perm (ws' := wSPo x ++ wFig (fun j => x (1 + j)) cy F) hP hD [0, 1, 2, 3, 4, 5] (by decide) rfl rfl
    obtain rfl := Sum.inr.inj (Option.some.inj h)
    exact hE H locs 75 ls _ hP hD hS rfl dX8_corner_75
  replace h := if_f h c18_1
  by_cases c18_2 : p3 = 2
  · replace h := if_t h c18_2
    refine lv_tableIn (tgt := 76) (off := 58) hx hb dX8_corner_18 (by rw [c18_2]; decide) (by rw [c18_2]; decide) (by rw [c18_2]; rfl) (by decide) ?_
    refine lv_aload_n hx hb dX8_corner_76 rfl (lv_at hl 1 rfl) ?_
    refine va_get (D := (dC, dI)) (ci := 3) (v := .ref (x 1)) (C := RX8) (T := TX8) (N := 7) hx hb htg inX8 hown hK hP 0 rfl rfl 0 (by decide) (htg _ gw133) (fun _ h9 => h9) rfl dX8_corner_77 ?_
    refine lv_iload_n hx hb dX8_corner_80 rfl (lv_at hl 2 rfl) ?_
    refine lv_iload_n hx hb dX8_corner_81 rfl (lv_at hl 3 rfl) ?_
    obtain ⟨v82, e82, h⟩ := bnd h
    refine cS (av := [.ref (x 1), .int p1, .int p2]) (rest := []) (st1 := [.int v82]) (k1 := 0) (k2 := 0) hx hb hml hown htg hN hK (c_X2_kind l dC dI cy (fun j => x (1 + j)) F p1 p2 v82 e82) (g_S gw516 gw517 gw20 gw518) hdS_X2_kind rfl ⟨⟨Nat.le_of_ble_eq_true rfl, Nat.le_of_ble_eq_true rfl⟩, Nat.le_of_ble_eq_true rfl, Nat.le_of_ble_eq_true rfl⟩ hP hD hS hA [1, 2, 3, 4, 5] [0] rfl rfl rfl (by decide) (by decide) hl.1 rfl (Nat.le_of_ble_eq_true rfl) rfl rfl rfl dX8_corner_82 (fun H locs hP hD hS => ?_)
    obtain ⟨hP, hD⟩ := x_perm (ws' := wSPo x ++ wFig (fun j => x (1 + j)) cy F) hP hD [0, 1, 2, 3, 4, 5] (by decide) rfl rfl
    obtain rfl := Sum.inr.inj (Option.some.inj h)
    exact hE H locs 85 ls _ hP hD hS rfl dX8_corner_85
  replace h := if_f h c18_2
  by_cases c18_3 : p3 = 3
  · replace h := if_t h c18_3
    refine lv_tableIn (tgt := 86) (off := 68) hx hb dX8_corner_18 (by rw [c18_3]; decide) (by rw [c18_3]; decide) (by rw [c18_3]; rfl) (by decide) ?_
    refine lv_aload_n hx hb dX8_corner_86 rfl (lv_at hl 1 rfl) ?_
    refine va_get (D := (dC, dI)) (ci := 3) (v := .ref (x 1)) (C := RX8) (T := TX8) (N := 7) hx hb htg inX8 hown hK hP 0 rfl rfl 0 (by decide) (htg _ gw133) (fun _ h9 => h9) rfl dX8_corner_87 ?_
    refine lv_iload hx hb dX8_corner_90 (lv_at hl 0 rfl) ?_
    obtain ⟨v92, e92, h⟩ := bnd h
    refine cS (av := [.ref (x 1), .int v12]) (rest := []) (st1 := [.int v92]) (k1 := 0) (k2 := 0) hx hb hml hown htg hN hK (c_X6_seenFrom l dC dI cy (fun j => x (1 + j)) F v12 v92 e92) (g_S gw527 gw528 gw22 gw529) hdS_X6_seenFrom rfl ⟨⟨Nat.le_of_ble_eq_true rfl, Nat.le_of_ble_eq_true rfl⟩, Nat.le_of_ble_eq_true rfl, Nat.le_of_ble_eq_true rfl⟩ hP hD hS hA [1, 2, 3, 4, 5] [0] rfl rfl rfl (by decide) (by decide) hl.1 rfl (Nat.le_of_ble_eq_true rfl) rfl rfl rfl dX8_corner_92 (fun H locs hP hD hS => ?_)
    obtain ⟨hP, hD⟩ := x_perm (ws' := wSPo x ++ wFig (fun j => x (1 + j)) cy F) hP hD [0, 1, 2, 3, 4, 5] (by decide) rfl rfl
    obtain rfl := Sum.inr.inj (Option.some.inj h)
    exact hE H locs 95 ls _ hP hD hS rfl dX8_corner_95
  replace h := if_f h c18_3
  by_cases c18_4 : p3 = 4
  · replace h := if_t h c18_4
    refine lv_tableIn (tgt := 96) (off := 78) hx hb dX8_corner_18 (by rw [c18_4]; decide) (by rw [c18_4]; decide) (by rw [c18_4]; rfl) (by decide) ?_
    refine lv_aload_n hx hb dX8_corner_96 rfl (lv_at hl 1 rfl) ?_
    refine va_get (D := (dC, dI)) (ci := 3) (v := .ref (x 1)) (C := RX8) (T := TX8) (N := 7) hx hb htg inX8 hown hK hP 0 rfl rfl 0 (by decide) (htg _ gw133) (fun _ h9 => h9) rfl dX8_corner_97 ?_
    refine lv_iload_n hx hb dX8_corner_100 rfl (lv_at hl 2 rfl) ?_
    refine lv_iload_n hx hb dX8_corner_101 rfl (lv_at hl 3 rfl) ?_
    obtain ⟨v102, e102, h⟩ := bnd h
    refine cV (av := [.int p1, .int p2]) (rest := []) (st1 := [.int v102]) (k1 := 0) (k2 := 0) (ci := 0) (q0 := 0) hx hb hml hown htg hN hK (c_X1_bendAt l dC dI cy (fun j => x (1 + j)) F p1 p2 v102 e102) (g_V gw531 gw520 gw521 gw8 gw522) hdV_X1_bendAt rfl ⟨⟨Nat.le_of_ble_eq_true rfl, Nat.le_of_ble_eq_true rfl⟩, Nat.le_of_ble_eq_true rfl, Nat.le_of_ble_eq_true rfl⟩ hP hD hS hA ⟨rfl, rfl⟩ rfl [1, 2, 3, 4, 5] [0] rfl rfl rfl (by decide) (by decide) hl.1 rfl (Nat.le_of_ble_eq_true rfl) rfl rfl rfl dX8_corner_102 (fun H locs hP hD hS => ?_)
    obtain ⟨hP, hD⟩ := x_perm (ws' := wSPo x ++ wFig (fun j => x (1 + j)) cy F) hP hD [0, 1, 2, 3, 4, 5] (by decide) rfl rfl
    refine va_mabs hx hb (hml.trans hl.1.symm) hown (htg _ gw532) (htg _ gw383) (htg _ gw17) (htg _ gw384) (Nat.le_of_ble_eq_true rfl) (Nat.le_of_ble_eq_true rfl) (Nat.le_of_ble_eq_true rfl) (Nat.le_of_ble_eq_true rfl) dX8_corner_105 ?_
    obtain rfl := Sum.inr.inj (Option.some.inj h)
    exact hE H locs 108 ls _ hP hD hS rfl dX8_corner_108
  replace h := if_f h c18_4
  by_cases c18_5 : p3 = 5
  · replace h := if_t h c18_5
    refine lv_tableIn (tgt := 109) (off := 91) hx hb dX8_corner_18 (by rw [c18_5]; decide) (by rw [c18_5]; decide) (by rw [c18_5]; rfl) (by decide) ?_
    refine lv_aload_n hx hb dX8_corner_109 rfl (lv_at hl 1 rfl) ?_
    refine va_get (D := (dC, dI)) (ci := 3) (v := .ref (x 1)) (C := RX8) (T := TX8) (N := 7) hx hb htg inX8 hown hK hP 0 rfl rfl 0 (by decide) (htg _ gw133) (fun _ h9 => h9) rfl dX8_corner_110 ?_
    refine lv_iload hx hb dX8_corner_113 (lv_at hl 0 rfl) ?_
    obtain ⟨v115, e115, h⟩ := bnd h
    refine cV (av := [.int v12]) (rest := []) (st1 := [.int v115]) (k1 := 0) (k2 := 0) (ci := 0) (q0 := 0) hx hb hml hown htg hN hK (c_X1_stepsOfSide l dC dI cy (fun j => x (1 + j)) F v12 v115 e115) (g_V gw533 gw534 gw535 gw8 gw536) hdV_X1_stepsOfSide rfl ⟨⟨Nat.le_of_ble_eq_true rfl, Nat.le_of_ble_eq_true rfl⟩, Nat.le_of_ble_eq_true rfl, Nat.le_of_ble_eq_true rfl⟩ hP hD hS hA ⟨rfl, rfl⟩ rfl [1, 2, 3, 4, 5] [0] rfl rfl rfl (by decide) (by decide) hl.1 rfl (Nat.le_of_ble_eq_true rfl) rfl rfl rfl dX8_corner_115 (fun H locs hP hD hS => ?_)
    obtain ⟨hP, hD⟩ := x_perm (ws' := wSPo x ++ wFig (fun j => x (1 + j)) cy F) hP hD [0, 1, 2, 3, 4, 5] (by decide) rfl rfl
    obtain rfl := Sum.inr.inj (Option.some.inj h)
    exact hE H locs 118 ls _ hP hD hS rfl dX8_corner_118
  replace h := if_f h c18_5
  refine lv_tableOut (tgt := 119) hx hb dX8_corner_18 (x_tout0_5 c18_0 c18_1 c18_2 c18_3 c18_4 c18_5) (by decide) ?_
  cases h
abbrev rm_X8_cut_0 : Room := { frames := 5, cells := 0, slots := 0, locals := 122 }
set_option maxHeartbeats 4000000 in
set_option maxRecDepth 100000 in
theorem c0_X8_cut (l : Launch) (dC : Nat → ClassId) (dI : Nat → Nat → Nat) (cy : Nat → ClassId) (x : Nat → Nat) (F : Fig) (p1 : Int32) (res : Int32) (h : G_X8_cut F p1 = some (.inr res)) : CT l (dC, dI) (TY cy) yX8_cut cX8_cut 2 (some .int) rm_X8_cut_0 [.ref (x 0), .int p1] (wSPo x ++ wFig (fun j => x (1 + j)) cy F) (wSPo x ++ wFig (fun j => x (1 + j)) cy F) (some (.int res)) := by
  refine CT.mk_i (own := RX8) ⟨by decide, rfl⟩ (Nat.le_of_ble_eq_true rfl) ?_
  intro p e s mm args below meth cd A Q hx hb hml hown htg hN hK hA hP hD hS hE ls hl
  have hl : lv_has ls 2 [(0, .ref (x 0)), (1, .int p1)] := hl
  replace h : _ = some (Sum.inr res) := h
  unfold G_X8_cut at h
  obtain ⟨H, hH⟩ : ∃ H, H = s.heap := ⟨_, rfl⟩
  obtain ⟨locs, hlocs⟩ : ∃ locs : List Loc, locs = [] := ⟨_, rfl⟩
  rw [← hlocs] at hS ⊢
  have hS : va_S A s.heap H locs := by rw [hH]; exact hS
  rw [← hH] at hP ⊢
  refine lv_aload_n hx hb dX8_cut_0 rfl (lv_at hl 0 rfl) ?_
  refine lv_iconst (v := 0) hx hb dX8_cut_1 (by decide) ?_
  refine lv_iload_n hx hb dX8_cut_2 rfl (lv_at hl 1 rfl) ?_
  obtain ⟨v3, e3, h⟩ := bnd h
  rcases hv3 : v3 with k3 | u3
  · simp only [hv3] at h; cases h
  simp only [hv3] at h
  refine cV (av := [.int 0, .int p1]) (rest := []) (st1 := []) (k1 := 0) (k2 := 0) (ci := 3) (q0 := 0) hx hb hml hown htg hN hK (c0_X8_checkCorner l dC dI cy x F 0 p1 u3 (by rw [e3, hv3])) (g_V gw159 gw161 gw1 gw7 gw162) hdV_X8_checkCorner rfl ⟨⟨Nat.le_of_ble_eq_true rfl, Nat.le_of_ble_eq_true rfl⟩, Nat.le_of_ble_eq_true rfl, Nat.le_of_ble_eq_true rfl⟩ hP hD hS hA ⟨rfl, rfl⟩ rfl [0, 1, 2, 3, 4, 5] [] rfl rfl rfl (by decide) (by decide) hl.1 rfl (Nat.le_of_ble_eq_true rfl) rfl rfl rfl dX8_cut_3 (fun H locs hP hD hS => ?_)
  have hP : va_P (dC, dI) vwCl (wSPo x ++ wFig (fun j => x (1 + j)) cy F) H := hP
  have hD : va_D A (wSPo x ++ wFig (fun j => x (1 + j)) cy F) := hD
  refine lv_aload_n hx hb dX8_cut_6 rfl (lv_at hl 0 rfl) ?_
  refine va_get (D := (dC, dI)) (ci := 3) (v := .ref (x 1)) (C := RX8) (T := TX8) (N := 7) hx hb htg inX8 hown hK hP 0 rfl rfl 0 (by decide) (htg _ gw133) (fun _ h9 => h9) rfl dX8_cut_7 ?_
  refine lv_iload_n hx hb dX8_cut_10 rfl (lv_at hl 1 rfl) ?_
  obtain ⟨v11, e11, h⟩ := bnd h
  refine cS (av := [.ref (x 1), .int p1]) (rest := []) (st1 := [.int v11]) (k1 := 0) (k2 := 0) hx hb hml hown htg hN hK (c_X6_isEar l dC dI cy (fun j => x (1 + j)) F p1 v11 e11) (g_S gw542 gw543 gw22 gw544) hdS_X6_isEar rfl ⟨⟨Nat.le_of_ble_eq_true rfl, Nat.le_of_ble_eq_true rfl⟩, Nat.le_of_ble_eq_true rfl, Nat.le_of_ble_eq_true rfl⟩ hP hD hS hA [1, 2, 3, 4, 5] [0] rfl rfl rfl (by decide) (by decide) hl.1 rfl (Nat.le_of_ble_eq_true rfl) rfl rfl rfl dX8_cut_11 (fun H locs hP hD hS => ?_)
  obtain ⟨hP, hD⟩ := x_perm (ws' := wSPo x ++ wFig (fun j => x (1 + j)) cy F) hP hD [0, 1, 2, 3, 4, 5] (by decide) rfl rfl
  refine lv_if_eq (tgt := 32) hx hb dX8_cut_14 (by decide) (fun c14 => ?_) (fun c14 => ?_)
  · replace h := if_t h c14
    refine lv_bipush (v := (-9)) hx hb dX8_cut_32 (by decide) ?_
    obtain rfl := Sum.inr.inj (Option.some.inj h)
    exact hE H locs 34 ls _ hP hD hS rfl dX8_cut_34
  replace h := if_f h c14
  refine lv_aload_n hx hb dX8_cut_17 rfl (lv_at hl 0 rfl) ?_
  refine va_get (D := (dC, dI)) (ci := 3) (v := .ref (x 1)) (C := RX8) (T := TX8) (N := 7) hx hb htg inX8 hown hK hP 0 rfl rfl 0 (by decide) (htg _ gw133) (fun _ h9 => h9) rfl dX8_cut_18 ?_
  refine lv_iconst (v := 0) hx hb dX8_cut_21 (by decide) ?_
  refine lv_iload_n hx hb dX8_cut_22 rfl (lv_at hl 1 rfl) ?_
  obtain ⟨v23, e23, h⟩ := bnd h
  refine cV (av := [.int 0, .int p1]) (rest := []) (st1 := [.int v23]) (k1 := 0) (k2 := 0) (ci := 0) (q0 := 0) hx hb hml hown htg hN hK (c_X1_bendAt l dC dI cy (fun j => x (1 + j)) F 0 p1 v23 e23) (g_V gw531 gw520 gw521 gw8 gw522) hdV_X1_bendAt rfl ⟨⟨Nat.le_of_ble_eq_true rfl, Nat.le_of_ble_eq_true rfl⟩, Nat.le_of_ble_eq_true rfl, Nat.le_of_ble_eq_true rfl⟩ hP hD hS hA ⟨rfl, rfl⟩ rfl [1, 2, 3, 4, 5] [0] rfl rfl rfl (by decide) (by decide) hl.1 rfl (Nat.le_of_ble_eq_true rfl) rfl rfl rfl dX8_cut_23 (fun H locs hP hD hS => ?_)
  obtain ⟨hP, hD⟩ := x_perm (ws' := wSPo x ++ wFig (fun j => x (1 + j)) cy F) hP hD [0, 1, 2, 3, 4, 5] (by decide) rfl rfl
  refine va_mabs hx hb (hml.trans hl.1.symm) hown (htg _ gw532) (htg _ gw383) (htg _ gw17) (htg _ gw384) (Nat.le_of_ble_eq_true rfl) (Nat.le_of_ble_eq_true rfl) (Nat.le_of_ble_eq_true rfl) (Nat.le_of_ble_eq_true rfl) dX8_cut_26 ?_
  refine lv_goto (tgt := 34) hx hb dX8_cut_29 (by decide) ?_
  obtain rfl := Sum.inr.inj (Option.some.inj h)
  exact hE H locs 34 ls _ hP hD hS rfl dX8_cut_34
abbrev rm_X8_point_0 : Room := { frames := 4, cells := 0, slots := 0, locals := 100 }
set_option maxHeartbeats 4000000 in
set_option maxRecDepth 100000 in
theorem c0_X8_point (l : Launch) (dC : Nat → ClassId) (dI : Nat → Nat → Nat) (cy : Nat → ClassId) (x : Nat → Nat) (F : Fig) (p1 : Int32) (p2 : Int32) (res : Int32) (h : G_X8_point F p1 p2 = some (.inr res)) : CT l (dC, dI) (TY cy) yX8_point cX8_point 3 (some .int) rm_X8_point_0 [.ref (x 0), .int p1, .int p2] (wSPo x ++ wFig (fun j => x (1 + j)) cy F) (wSPo x ++ wFig (fun j => x (1 + j)) cy F) (some (.int res)) := by
  refine CT.mk_i (own := RX8) ⟨by decide, rfl⟩ (Nat.le_of_ble_eq_true rfl) ?_
  intro p e s mm args below meth cd A Q hx hb hml hown htg hN hK hA hP hD hS hE ls hl
  have hl : lv_has ls 3 [(0, .ref (x 0)), (1, .int p1), (2, .int p2)] := hl
  replace h : _ = some (Sum.inr res) := h
  unfold G_X8_point at h
  obtain ⟨H, hH⟩ : ∃ H, H = s.heap := ⟨_, rfl⟩
  obtain ⟨locs, hlocs⟩ : ∃ locs : List Loc, locs = [] := ⟨_, rfl⟩
  rw [← hlocs] at hS ⊢
  have hS : va_S A s.heap H locs := by rw [hH]; exact hS
  rw [← hH] at hP ⊢
  refine lv_iload_n hx hb dX8_point_0 rfl (lv_at hl 1 rfl) ?_
  refine lv_iconst (v := 0) hx hb dX8_point_1 (by decide) ?_
  refine lv_bipush (v := 15) hx hb dX8_point_2 (by decide) ?_
  obtain ⟨v4, e4, h⟩ := bnd h
  refine cS (av := [.int p1, .int 0, .int 15]) (rest := []) (st1 := [.int v4]) (k1 := 0) (k2 := 0) hx hb hml hown htg hN hK (c_X8_inRange l dC dI cy   p1 0 15 v4 e4) (g_S gw426 gw255 gw7 gw256) hdS_X8_inRange rfl ⟨⟨Nat.le_of_ble_eq_true rfl, Nat.le_of_ble_eq_true rfl⟩, Nat.le_of_ble_eq_true rfl, Nat.le_of_ble_eq_true rfl⟩ hP hD hS hA [] [0, 1, 2, 3, 4, 5] rfl rfl rfl (by decide) (by decide) hl.1 rfl (Nat.le_of_ble_eq_true rfl) rfl rfl rfl dX8_point_4 (fun H locs hP hD hS => ?_)
  obtain ⟨hP, hD⟩ := x_perm (ws' := wSPo x ++ wFig (fun j => x (1 + j)) cy F) hP hD [0, 1, 2, 3, 4, 5] (by decide) rfl rfl
  refine lv_if_eq (tgt := 20) hx hb dX8_point_7 (by decide) (fun c7 => ?_) (fun c7 => ?_)
  · replace h := if_t h c7
    cases h
  replace h := if_f h c7
  refine lv_iload_n hx hb dX8_point_10 rfl (lv_at hl 2 rfl) ?_
  refine lv_iconst (v := 0) hx hb dX8_point_11 (by decide) ?_
  refine lv_bipush (v := 15) hx hb dX8_point_12 (by decide) ?_
  obtain ⟨v14, e14, h⟩ := bnd h
  refine cS (av := [.int p2, .int 0, .int 15]) (rest := []) (st1 := [.int v14]) (k1 := 0) (k2 := 0) hx hb hml hown htg hN hK (c_X8_inRange l dC dI cy   p2 0 15 v14 e14) (g_S gw426 gw255 gw7 gw256) hdS_X8_inRange rfl ⟨⟨Nat.le_of_ble_eq_true rfl, Nat.le_of_ble_eq_true rfl⟩, Nat.le_of_ble_eq_true rfl, Nat.le_of_ble_eq_true rfl⟩ hP hD hS hA [] [0, 1, 2, 3, 4, 5] rfl rfl rfl (by decide) (by decide) hl.1 rfl (Nat.le_of_ble_eq_true rfl) rfl rfl rfl dX8_point_14 (fun H locs hP hD hS => ?_)
  obtain ⟨hP, hD⟩ := x_perm (ws' := wSPo x ++ wFig (fun j => x (1 + j)) cy F) hP hD [0, 1, 2, 3, 4, 5] (by decide) rfl rfl
  refine lv_if_ne (tgt := 30) hx hb dX8_point_17 (by decide) (fun c17 => ?_) (fun c17 => ?_)
  · replace h := if_f h c17
    refine lv_aload_n hx hb dX8_point_30 rfl (lv_at hl 0 rfl) ?_
    refine va_get (D := (dC, dI)) (ci := 3) (v := .ref (x 1)) (C := RX8) (T := TX8) (N := 7) hx hb htg inX8 hown hK hP 0 rfl rfl 0 (by decide) (htg _ gw133) (fun _ h9 => h9) rfl dX8_point_31 ?_
    refine lv_iload_n hx hb dX8_point_34 rfl (lv_at hl 1 rfl) ?_
    refine lv_iload_n hx hb dX8_point_35 rfl (lv_at hl 2 rfl) ?_
    obtain ⟨v36, e36, h⟩ := bnd h
    refine cV (av := [.int p1, .int p2]) (rest := []) (st1 := [.int v36]) (k1 := 0) (k2 := 0) (ci := 0) (q0 := 0) hx hb hml hown htg hN hK (c_X1_placeOf l dC dI cy (fun j => x (1 + j)) F p1 p2 v36 e36) (g_V gw556 gw557 gw558 gw8 gw559) hdV_X1_placeOf rfl ⟨⟨Nat.le_of_ble_eq_true rfl, Nat.le_of_ble_eq_true rfl⟩, Nat.le_of_ble_eq_true rfl, Nat.le_of_ble_eq_true rfl⟩ hP hD hS hA ⟨rfl, rfl⟩ rfl [1, 2, 3, 4, 5] [0] rfl rfl rfl (by decide) (by decide) hl.1 rfl (Nat.le_of_ble_eq_true rfl) rfl rfl rfl dX8_point_36 (fun H locs hP hD hS => ?_)
    obtain ⟨hP, hD⟩ := x_perm (ws' := wSPo x ++ wFig (fun j => x (1 + j)) cy F) hP hD [0, 1, 2, 3, 4, 5] (by decide) rfl rfl
    obtain rfl := Sum.inr.inj (Option.some.inj h)
    exact hE H locs 39 ls _ hP hD hS rfl dX8_point_39
  replace h := if_t h c17
  cases h
abbrev rm_X8_inRow_0 : Room := { frames := 4, cells := 0, slots := 0, locals := 100 }
set_option maxHeartbeats 4000000 in
set_option maxRecDepth 100000 in
theorem c0_X8_inRow (l : Launch) (dC : Nat → ClassId) (dI : Nat → Nat → Nat) (cy : Nat → ClassId) (x : Nat → Nat) (F : Fig) (p1 : Int32) (p2 : Int32) (res : Int32) (h : G_X8_inRow F p1 p2 = some (.inr res)) : CT l (dC, dI) (TY cy) yX8_inRow cX8_inRow 6 (some .int) rm_X8_inRow_0 [.ref (x 0), .int p1, .int p2] (wSPo x ++ wFig (fun j => x (1 + j)) cy F) (wSPo x ++ wFig (fun j => x (1 + j)) cy F) (some (.int res)) := by
  refine CT.mk_i (own := RX8) ⟨by decide, rfl⟩ (Nat.le_of_ble_eq_true rfl) ?_
  intro p e s mm args below meth cd A Q hx hb hml hown htg hN hK hA hP hD hS hE ls hl
  have hl : lv_has ls 6 [(0, .ref (x 0)), (1, .int p1), (2, .int p2)] := hl
  replace h : _ = some (Sum.inr res) := h
  unfold G_X8_inRow at h
  obtain ⟨H, hH⟩ : ∃ H, H = s.heap := ⟨_, rfl⟩
  obtain ⟨locs, hlocs⟩ : ∃ locs : List Loc, locs = [] := ⟨_, rfl⟩
  rw [← hlocs] at hS ⊢
  have hS : va_S A s.heap H locs := by rw [hH]; exact hS
  rw [← hH] at hP ⊢
  refine lv_iload_n hx hb dX8_inRow_0 rfl (lv_at hl 1 rfl) ?_
  refine lv_iconst (v := 0) hx hb dX8_inRow_1 (by decide) ?_
  refine lv_bipush (v := 15) hx hb dX8_inRow_2 (by decide) ?_
  obtain ⟨v4, e4, h⟩ := bnd h
  refine cS (av := [.int p1, .int 0, .int 15]) (rest := []) (st1 := [.int v4]) (k1 := 0) (k2 := 0) hx hb hml hown htg hN hK (c_X8_inRange l dC dI cy   p1 0 15 v4 e4) (g_S gw426 gw255 gw7 gw256) hdS_X8_inRange rfl ⟨⟨Nat.le_of_ble_eq_true rfl, Nat.le_of_ble_eq_true rfl⟩, Nat.le_of_ble_eq_true rfl, Nat.le_of_ble_eq_true rfl⟩ hP hD hS hA [] [0, 1, 2, 3, 4, 5] rfl rfl rfl (by decide) (by decide) hl.1 rfl (Nat.le_of_ble_eq_true rfl) rfl rfl rfl dX8_inRow_4 (fun H locs hP hD hS => ?_)
  obtain ⟨hP, hD⟩ := x_perm (ws' := wSPo x ++ wFig (fun j => x (1 + j)) cy F) hP hD [0, 1, 2, 3, 4, 5] (by decide) rfl rfl
  refine lv_if_ne (tgt := 21) hx hb dX8_inRow_7 (by decide) (fun c7 => ?_) (fun c7 => ?_)
  · replace h := if_f h c7
    refine lv_iconst (v := 0) hx hb dX8_inRow_21 (by decide) ?_
    refine lv_istore_n (lv' := [(3, .int 0), (0, .ref (x 0)), (1, .int p1), (2, .int p2)]) hx hb dX8_inRow_22 rfl hl (by decide) rfl (fun ls hl => ?_)
    refine lv_iconst (v := 0) hx hb dX8_inRow_23 (by decide) ?_
    refine lv_istore (lv' := [(4, .int 0), (3, .int 0), (0, .ref (x 0)), (1, .int p1), (2, .int p2)]) hx hb dX8_inRow_24 hl (by decide) rfl (fun ls hl => ?_)
    have hL26 : ∀ (n26 : Nat) (l4_26 : Int32) (l3_26 : Int32) (l1_26 : Int32) (l2_26 : Int32) (H : Heap) (locs : List Loc) (ls : Array Slot), G_X8_inRow_L26 F n26 l4_26 l3_26 l1_26 l2_26 = some (.inr res) → va_P (dC, dI) vwCl (wSPo x ++ wFig (fun j => x (1 + j)) cy F) H → va_D A (wSPo x ++ wFig (fun j => x (1 + j)) cy F) → va_S A s.heap H locs → lv_has ls 6 [(4, .int l4_26), (3, .int l3_26), (0, .ref (x 0)), (1, .int l1_26), (2, .int l2_26)] → W p l e rm_X8_inRow_0 s mm args below meth cd H locs 0 0 Q (F0 mm 26 ls []) := by
      intro n26
      induction n26 with
      | zero => intro l4_26 l3_26 l1_26 l2_26 H locs ls h; exact absurd h (by simp [G_X8_inRow_L26])
      | succ n26 ih26 =>
        intro l4_26 l3_26 l1_26 l2_26 H locs ls h hP hD hS hl
        rw [G_X8_inRow_L26] at h
        refine lv_iload hx hb dX8_inRow_26 (lv_at hl 0 rfl) ?_
        refine lv_bipush (v := 15) hx hb dX8_inRow_28 (by decide) ?_
        refine lv_icmp_gt (tgt := 70) hx hb dX8_inRow_30 (by decide) (fun c30 => ?_) (fun c30 => ?_)
        · replace h := if_t h c30
          refine lv_iload_n hx hb dX8_inRow_70 rfl (lv_at hl 1 rfl) ?_
          obtain rfl := Sum.inr.inj (Option.some.inj h)
          exact hE H locs 71 ls _ hP hD hS rfl dX8_inRow_71
        replace h := if_f h c30
        refine lv_aload_n hx hb dX8_inRow_33 rfl (lv_at hl 2 rfl) ?_
        refine va_get (D := (dC, dI)) (ci := 3) (v := .ref (x 1)) (C := RX8) (T := TX8) (N := 7) hx hb htg inX8 hown hK hP 0 rfl rfl 0 (by decide) (htg _ gw133) (fun _ h9 => h9) rfl dX8_inRow_34 ?_
        refine lv_iload hx hb dX8_inRow_37 (lv_at hl 0 rfl) ?_
        refine lv_iload_n hx hb dX8_inRow_39 rfl (lv_at hl 3 rfl) ?_
        obtain ⟨v40, e40, h⟩ := bnd h
        refine cV (av := [.int l4_26, .int l1_26]) (rest := []) (st1 := [.int v40]) (k1 := 0) (k2 := 0) (ci := 0) (q0 := 0) hx hb hml hown htg hN hK (c_X1_placeOf l dC dI cy (fun j => x (1 + j)) F l4_26 l1_26 v40 e40) (g_V gw556 gw557 gw558 gw8 gw559) hdV_X1_placeOf rfl ⟨⟨Nat.le_of_ble_eq_true rfl, Nat.le_of_ble_eq_true rfl⟩, Nat.le_of_ble_eq_true rfl, Nat.le_of_ble_eq_true rfl⟩ hP hD hS hA ⟨rfl, rfl⟩ rfl [1, 2, 3, 4, 5] [0] rfl rfl rfl (by decide) (by decide) hl.1 rfl (Nat.le_of_ble_eq_true rfl) rfl rfl rfl dX8_inRow_40 (fun H locs hP hD hS => ?_)
        obtain ⟨hP, hD⟩ := x_perm (ws' := wSPo x ++ wFig (fun j => x (1 + j)) cy F) hP hD [0, 1, 2, 3, 4, 5] (by decide) rfl rfl
        refine lv_istore (lv' := [(5, .int v40), (4, .int l4_26), (3, .int l3_26), (0, .ref (x 0)), (1, .int l1_26), (2, .int l2_26)]) hx hb dX8_inRow_43 hl (by decide) rfl (fun ls hl => ?_)
        refine lv_iload hx hb dX8_inRow_45 (lv_at hl 0 rfl) ?_
        refine lv_iconst (v := 2) hx hb dX8_inRow_47 (by decide) ?_
        have hj64 : ∀ (l4_64 : Int32) (l3_64 : Int32) (l1_64 : Int32) (l2_64 : Int32) (H : Heap) (locs : List Loc) (ls : Array Slot), G_X8_inRow_j64 (G_X8_inRow_L26 F n26) F l4_64 l3_64 l1_64 l2_64 = some (.inr res) → va_P (dC, dI) vwCl (wSPo x ++ wFig (fun j => x (1 + j)) cy F) H → va_D A (wSPo x ++ wFig (fun j => x (1 + j)) cy F) → va_S A s.heap H locs → lv_has ls 6 [(4, .int l4_64), (3, .int l3_64), (0, .ref (x 0)), (1, .int l1_64), (2, .int l2_64)] → W p l e rm_X8_inRow_0 s mm args below meth cd H locs 0 0 Q (F0 mm 64 ls []) := by
          intro l4_64 l3_64 l1_64 l2_64 H locs ls h hP hD hS hl
          unfold G_X8_inRow_j64 at h
          refine lv_iinc (v := l4_64 + 1) (lv' := [(4, .int (l4_64 + 1)), (3, .int l3_64), (0, .ref (x 0)), (1, .int l1_64), (2, .int l2_64)]) hx hb dX8_inRow_64 hl (k := 0) rfl rfl (by decide) rfl (fun ls hl => ?_)
          refine lv_goto (tgt := 26) hx hb dX8_inRow_67 (by decide) ?_
          exact ih26 (l4_64 + 1) l3_64 l1_64 l2_64 H locs ls h hP hD hS (lv_sub hl [0, 1, 2, 3, 4] rfl)
        have hj61 : ∀ (l4_61 : Int32) (l3_61 : Int32) (l1_61 : Int32) (l2_61 : Int32) (H : Heap) (locs : List Loc) (ls : Array Slot), G_X8_inRow_j61 (G_X8_inRow_L26 F n26) F l4_61 l3_61 l1_61 l2_61 = some (.inr res) → va_P (dC, dI) vwCl (wSPo x ++ wFig (fun j => x (1 + j)) cy F) H → va_D A (wSPo x ++ wFig (fun j => x (1 + j)) cy F) → va_S A s.heap H locs → lv_has ls 6 [(4, .int l4_61), (3, .int l3_61), (0, .ref (x 0)), (1, .int l1_61), (2, .int l2_61)] → W p l e rm_X8_inRow_0 s mm args below meth cd H locs 0 0 Q (F0 mm 61 ls []) := by
          intro l4_61 l3_61 l1_61 l2_61 H locs ls h hP hD hS hl
          unfold G_X8_inRow_j61 at h
          refine lv_iinc (v := l3_61 + 1) (lv' := [(3, .int (l3_61 + 1)), (4, .int l4_61), (0, .ref (x 0)), (1, .int l1_61), (2, .int l2_61)]) hx hb dX8_inRow_61 hl (k := 1) rfl rfl (by decide) rfl (fun ls hl => ?_)
          exact hj64 l4_61 (l3_61 + 1) l1_61 l2_61 H locs ls h hP hD hS (lv_sub hl [1, 0, 2, 3, 4] rfl)
        refine lv_icmp_eq (tgt := 61) hx hb dX8_inRow_48 (by decide) (fun c48 => ?_) (fun c48 => ?_)
        · replace h := if_t h c48
          exact hj61 l4_26 l3_26 l1_26 l2_26 H locs ls h hP hD hS (lv_sub hl [1, 2, 3, 4, 5] rfl)
        replace h := if_f h c48
        refine lv_iload_n hx hb dX8_inRow_51 rfl (lv_at hl 5 rfl) ?_
        refine lv_if_eq (tgt := 64) hx hb dX8_inRow_52 (by decide) (fun c52 => ?_) (fun c52 => ?_)
        · replace h := if_t h c52
          exact hj64 l4_26 l3_26 l1_26 l2_26 H locs ls h hP hD hS (lv_sub hl [1, 2, 3, 4, 5] rfl)
        replace h := if_f h c52
        refine lv_iload hx hb dX8_inRow_55 (lv_at hl 0 rfl) ?_
        refine lv_iconst (v := 1) hx hb dX8_inRow_57 (by decide) ?_
        refine lv_icmp_ne (tgt := 64) hx hb dX8_inRow_58 (by decide) (fun c58 => ?_) (fun c58 => ?_)
        · replace h := if_f h c58
          exact hj64 l4_26 l3_26 l1_26 l2_26 H locs ls h hP hD hS (lv_sub hl [1, 2, 3, 4, 5] rfl)
        replace h := if_t h c58
        exact hj61 l4_26 l3_26 l1_26 l2_26 H locs ls h hP hD hS (lv_sub hl [1, 2, 3, 4, 5] rfl)
    exact hL26 FU 0 0 p1 p2 H locs ls h hP hD hS (lv_sub hl [0, 1, 2, 3, 4] rfl)
  replace h := if_t h c7
  cases h
abbrev rm_X8_about_0 : Room := { frames := 6, cells := 0, slots := 0, locals := 144 }
set_option maxHeartbeats 4000000 in
set_option maxRecDepth 100000 in
theorem c0_X8_about (l : Launch) (dC : Nat → ClassId) (dI : Nat → Nat → Nat) (cy : Nat → ClassId) (x : Nat → Nat) (F : Fig) (p1 : Int32) (res : Int32) (h : G_X8_about F p1 = some (.inr res)) : CT l (dC, dI) (TY cy) yX8_about cX8_about 2 (some .int) rm_X8_about_0 [.ref (x 0), .int p1] (wSPo x ++ wFig (fun j => x (1 + j)) cy F) (wSPo x ++ wFig (fun j => x (1 + j)) cy F) (some (.int res)) := by
  refine CT.mk_i (own := RX8) ⟨by decide, rfl⟩ (Nat.le_of_ble_eq_true rfl) ?_
  intro p e s mm args below meth cd A Q hx hb hml hown htg hN hK hA hP hD hS hE ls hl
  have hl : lv_has ls 2 [(0, .ref (x 0)), (1, .int p1)] := hl
  replace h : _ = some (Sum.inr res) := h
  unfold G_X8_about at h
  obtain ⟨H, hH⟩ : ∃ H, H = s.heap := ⟨_, rfl⟩
  obtain ⟨locs, hlocs⟩ : ∃ locs : List Loc, locs = [] := ⟨_, rfl⟩
  rw [← hlocs] at hS ⊢
  have hS : va_S A s.heap H locs := by rw [hH]; exact hS
  rw [← hH] at hP ⊢
  refine lv_iload_n hx hb dX8_about_0 rfl (lv_at hl 1 rfl) ?_
  by_cases c1_0 : p1 = 0
  · replace h := if_t h c1_0
    refine lv_tableIn (tgt := 56) (off := 55) hx hb dX8_about_1 (by rw [c1_0]; decide) (by rw [c1_0]; decide) (by rw [c1_0]; rfl) (by decide) ?_
    refine lv_aload_n hx hb dX8_about_56 rfl (lv_at hl 0 rfl) ?_
    refine va_get (D := (dC, dI)) (ci := 3) (v := .ref (x 1)) (C := RX8) (T := TX8) (N := 7) hx hb htg inX8 hown hK hP 0 rfl rfl 0 (by decide) (htg _ gw133) (fun _ h9 => h9) rfl dX8_about_57 ?_
    refine va_getN (D := (dC, dI)) (ci := 0) (v := .int (f_rings F)) (C := RX1) (T := TX1) (N := 6) hx hb htg inX1 hown hK hP 1 rfl rfl 0 (by decide) (va_Nw.use rfl (hN (.fieldLinkNest RX8 89 "SquaredPaper$Figure" "rings" "I" "SquaredPaper") (by decide +kernel))) (fun _ h9 => h9) rfl dX8_about_60 ?_
    obtain rfl := Sum.inr.inj (Option.some.inj h)
    exact hE H locs 63 ls _ hP hD hS rfl dX8_about_63
  replace h := if_f h c1_0
  by_cases c1_1 : p1 = 1
  · replace h := if_t h c1_1
    refine lv_tableIn (tgt := 64) (off := 63) hx hb dX8_about_1 (by rw [c1_1]; decide) (by rw [c1_1]; decide) (by rw [c1_1]; rfl) (by decide) ?_
    refine lv_aload_n hx hb dX8_about_64 rfl (lv_at hl 0 rfl) ?_
    refine va_get (D := (dC, dI)) (ci := 3) (v := .ref (x 1)) (C := RX8) (T := TX8) (N := 7) hx hb htg inX8 hown hK hP 0 rfl rfl 0 (by decide) (htg _ gw133) (fun _ h9 => h9) rfl dX8_about_65 ?_
    refine va_getN (D := (dC, dI)) (ci := 0) (v := .int (f_corners F)) (C := RX1) (T := TX1) (N := 6) hx hb htg inX1 hown hK hP 1 rfl rfl 1 (by decide) (va_Nw.use rfl (hN (.fieldLinkNest RX8 92 "SquaredPaper$Figure" "corners" "I" "SquaredPaper") (by decide +kernel))) (fun _ h9 => h9) rfl dX8_about_68 ?_
    obtain rfl := Sum.inr.inj (Option.some.inj h)
    exact hE H locs 71 ls _ hP hD hS rfl dX8_about_71
  replace h := if_f h c1_1
  by_cases c1_2 : p1 = 2
  · replace h := if_t h c1_2
    refine lv_tableIn (tgt := 72) (off := 71) hx hb dX8_about_1 (by rw [c1_2]; decide) (by rw [c1_2]; decide) (by rw [c1_2]; rfl) (by decide) ?_
    refine lv_aload_n hx hb dX8_about_72 rfl (lv_at hl 0 rfl) ?_
    refine va_get (D := (dC, dI)) (ci := 3) (v := .ref (x 1)) (C := RX8) (T := TX8) (N := 7) hx hb htg inX8 hown hK hP 0 rfl rfl 0 (by decide) (htg _ gw133) (fun _ h9 => h9) rfl dX8_about_73 ?_
    obtain ⟨v76, e76, h⟩ := bnd h
    refine cS (av := [.ref (x 1)]) (rest := []) (st1 := [.int v76]) (k1 := 0) (k2 := 0) hx hb hml hown htg hN hK (c_X2_area l dC dI cy (fun j => x (1 + j)) F  v76 e76) (g_S gw365 gw366 gw20 gw367) hdS_X2_area rfl ⟨⟨Nat.le_of_ble_eq_true rfl, Nat.le_of_ble_eq_true rfl⟩, Nat.le_of_ble_eq_true rfl, Nat.le_of_ble_eq_true rfl⟩ hP hD hS hA [1, 2, 3, 4, 5] [0] rfl rfl rfl (by decide) (by decide) hl.1 rfl (Nat.le_of_ble_eq_true rfl) rfl rfl rfl dX8_about_76 (fun H locs hP hD hS => ?_)
    obtain ⟨hP, hD⟩ := x_perm (ws' := wSPo x ++ wFig (fun j => x (1 + j)) cy F) hP hD [0, 1, 2, 3, 4, 5] (by decide) rfl rfl
    obtain rfl := Sum.inr.inj (Option.some.inj h)
    exact hE H locs 79 ls _ hP hD hS rfl dX8_about_79
  replace h := if_f h c1_2
  by_cases c1_3 : p1 = 3
  · replace h := if_t h c1_3
    refine lv_tableIn (tgt := 80) (off := 79) hx hb dX8_about_1 (by rw [c1_3]; decide) (by rw [c1_3]; decide) (by rw [c1_3]; rfl) (by decide) ?_
    refine lv_aload_n hx hb dX8_about_80 rfl (lv_at hl 0 rfl) ?_
    refine va_get (D := (dC, dI)) (ci := 3) (v := .ref (x 1)) (C := RX8) (T := TX8) (N := 7) hx hb htg inX8 hown hK hP 0 rfl rfl 0 (by decide) (htg _ gw133) (fun _ h9 => h9) rfl dX8_about_81 ?_
    obtain ⟨v84, e84, h⟩ := bnd h
    refine cS (av := [.ref (x 1)]) (rest := []) (st1 := [.int v84]) (k1 := 0) (k2 := 0) hx hb hml hown htg hN hK (c_X2_border l dC dI cy (fun j => x (1 + j)) F  v84 e84) (g_S gw570 gw571 gw20 gw572) hdS_X2_border rfl ⟨⟨Nat.le_of_ble_eq_true rfl, Nat.le_of_ble_eq_true rfl⟩, Nat.le_of_ble_eq_true rfl, Nat.le_of_ble_eq_true rfl⟩ hP hD hS hA [1, 2, 3, 4, 5] [0] rfl rfl rfl (by decide) (by decide) hl.1 rfl (Nat.le_of_ble_eq_true rfl) rfl rfl rfl dX8_about_84 (fun H locs hP hD hS => ?_)
    obtain ⟨hP, hD⟩ := x_perm (ws' := wSPo x ++ wFig (fun j => x (1 + j)) cy F) hP hD [0, 1, 2, 3, 4, 5] (by decide) rfl rfl
    obtain rfl := Sum.inr.inj (Option.some.inj h)
    exact hE H locs 87 ls _ hP hD hS rfl dX8_about_87
  replace h := if_f h c1_3
  by_cases c1_4 : p1 = 4
  · replace h := if_t h c1_4
    refine lv_tableIn (tgt := 88) (off := 87) hx hb dX8_about_1 (by rw [c1_4]; decide) (by rw [c1_4]; decide) (by rw [c1_4]; rfl) (by decide) ?_
    refine lv_aload_n hx hb dX8_about_88 rfl (lv_at hl 0 rfl) ?_
    refine va_get (D := (dC, dI)) (ci := 3) (v := .ref (x 1)) (C := RX8) (T := TX8) (N := 7) hx hb htg inX8 hown hK hP 0 rfl rfl 0 (by decide) (htg _ gw133) (fun _ h9 => h9) rfl dX8_about_89 ?_
    obtain ⟨v92, e92, h⟩ := bnd h
    refine cS (av := [.ref (x 1)]) (rest := []) (st1 := [.int v92]) (k1 := 0) (k2 := 0) hx hb hml hown htg hN hK (c_X2_inside l dC dI cy (fun j => x (1 + j)) F  v92 e92) (g_S gw577 gw578 gw20 gw579) hdS_X2_inside rfl ⟨⟨Nat.le_of_ble_eq_true rfl, Nat.le_of_ble_eq_true rfl⟩, Nat.le_of_ble_eq_true rfl, Nat.le_of_ble_eq_true rfl⟩ hP hD hS hA [1, 2, 3, 4, 5] [0] rfl rfl rfl (by decide) (by decide) hl.1 rfl (Nat.le_of_ble_eq_true rfl) rfl rfl rfl dX8_about_92 (fun H locs hP hD hS => ?_)
    obtain ⟨hP, hD⟩ := x_perm (ws' := wSPo x ++ wFig (fun j => x (1 + j)) cy F) hP hD [0, 1, 2, 3, 4, 5] (by decide) rfl rfl
    obtain rfl := Sum.inr.inj (Option.some.inj h)
    exact hE H locs 95 ls _ hP hD hS rfl dX8_about_95
  replace h := if_f h c1_4
  by_cases c1_5 : p1 = 5
  · replace h := if_t h c1_5
    refine lv_tableIn (tgt := 96) (off := 95) hx hb dX8_about_1 (by rw [c1_5]; decide) (by rw [c1_5]; decide) (by rw [c1_5]; rfl) (by decide) ?_
    refine lv_aload_n hx hb dX8_about_96 rfl (lv_at hl 0 rfl) ?_
    refine va_get (D := (dC, dI)) (ci := 3) (v := .ref (x 1)) (C := RX8) (T := TX8) (N := 7) hx hb htg inX8 hown hK hP 0 rfl rfl 0 (by decide) (htg _ gw133) (fun _ h9 => h9) rfl dX8_about_97 ?_
    refine lv_iconst (v := 1) hx hb dX8_about_100 (by decide) ?_
    obtain ⟨v101, e101, h⟩ := bnd h
    refine cS (av := [.ref (x 1), .int 1]) (rest := []) (st1 := [.int v101]) (k1 := 0) (k2 := 0) hx hb hml hown htg hN hK (c_X2_outlineCorners l dC dI cy (fun j => x (1 + j)) F 1 v101 e101) (g_S gw580 gw581 gw20 gw582) hdS_X2_outlineCorners rfl ⟨⟨Nat.le_of_ble_eq_true rfl, Nat.le_of_ble_eq_true rfl⟩, Nat.le_of_ble_eq_true rfl, Nat.le_of_ble_eq_true rfl⟩ hP hD hS hA [1, 2, 3, 4, 5] [0] rfl rfl rfl (by decide) (by decide) hl.1 rfl (Nat.le_of_ble_eq_true rfl) rfl rfl rfl dX8_about_101 (fun H locs hP hD hS => ?_)
    obtain ⟨hP, hD⟩ := x_perm (ws' := wSPo x ++ wFig (fun j => x (1 + j)) cy F) hP hD [0, 1, 2, 3, 4, 5] (by decide) rfl rfl
    obtain rfl := Sum.inr.inj (Option.some.inj h)
    exact hE H locs 104 ls _ hP hD hS rfl dX8_about_104
  replace h := if_f h c1_5
  by_cases c1_6 : p1 = 6
  · replace h := if_t h c1_6
    refine lv_tableIn (tgt := 105) (off := 104) hx hb dX8_about_1 (by rw [c1_6]; decide) (by rw [c1_6]; decide) (by rw [c1_6]; rfl) (by decide) ?_
    refine lv_aload_n hx hb dX8_about_105 rfl (lv_at hl 0 rfl) ?_
    refine va_get (D := (dC, dI)) (ci := 3) (v := .ref (x 1)) (C := RX8) (T := TX8) (N := 7) hx hb htg inX8 hown hK hP 0 rfl rfl 0 (by decide) (htg _ gw133) (fun _ h9 => h9) rfl dX8_about_106 ?_
    refine lv_iconst (v := (-1)) hx hb dX8_about_109 (by decide) ?_
    obtain ⟨v110, e110, h⟩ := bnd h
    refine cS (av := [.ref (x 1), .int (-1)]) (rest := []) (st1 := [.int v110]) (k1 := 0) (k2 := 0) hx hb hml hown htg hN hK (c_X2_outlineCorners l dC dI cy (fun j => x (1 + j)) F (-1) v110 e110) (g_S gw580 gw581 gw20 gw582) hdS_X2_outlineCorners rfl ⟨⟨Nat.le_of_ble_eq_true rfl, Nat.le_of_ble_eq_true rfl⟩, Nat.le_of_ble_eq_true rfl, Nat.le_of_ble_eq_true rfl⟩ hP hD hS hA [1, 2, 3, 4, 5] [0] rfl rfl rfl (by decide) (by decide) hl.1 rfl (Nat.le_of_ble_eq_true rfl) rfl rfl rfl dX8_about_110 (fun H locs hP hD hS => ?_)
    obtain ⟨hP, hD⟩ := x_perm (ws' := wSPo x ++ wFig (fun j => x (1 + j)) cy F) hP hD [0, 1, 2, 3, 4, 5] (by decide) rfl rfl
    obtain rfl := Sum.inr.inj (Option.some.inj h)
    exact hE H locs 113 ls _ hP hD hS rfl dX8_about_113
  replace h := if_f h c1_6
  by_cases c1_7 : p1 = 7
  · replace h := if_t h c1_7
    refine lv_tableIn (tgt := 114) (off := 113) hx hb dX8_about_1 (by rw [c1_7]; decide) (by rw [c1_7]; decide) (by rw [c1_7]; rfl) (by decide) ?_
    refine lv_aload_n hx hb dX8_about_114 rfl (lv_at hl 0 rfl) ?_
    refine va_get (D := (dC, dI)) (ci := 3) (v := .ref (x 1)) (C := RX8) (T := TX8) (N := 7) hx hb htg inX8 hown hK hP 0 rfl rfl 0 (by decide) (htg _ gw133) (fun _ h9 => h9) rfl dX8_about_115 ?_
    obtain ⟨v118, e118, h⟩ := bnd h
    refine cS (av := [.ref (x 1)]) (rest := []) (st1 := [.int v118]) (k1 := 0) (k2 := 0) hx hb hml hown htg hN hK (c_X6_ears l dC dI cy (fun j => x (1 + j)) F  v118 e118) (g_S gw584 gw585 gw22 gw586) hdS_X6_ears rfl ⟨⟨Nat.le_of_ble_eq_true rfl, Nat.le_of_ble_eq_true rfl⟩, Nat.le_of_ble_eq_true rfl, Nat.le_of_ble_eq_true rfl⟩ hP hD hS hA [1, 2, 3, 4, 5] [0] rfl rfl rfl (by decide) (by decide) hl.1 rfl (Nat.le_of_ble_eq_true rfl) rfl rfl rfl dX8_about_118 (fun H locs hP hD hS => ?_)
    obtain ⟨hP, hD⟩ := x_perm (ws' := wSPo x ++ wFig (fun j => x (1 + j)) cy F) hP hD [0, 1, 2, 3, 4, 5] (by decide) rfl rfl
    obtain rfl := Sum.inr.inj (Option.some.inj h)
    exact hE H locs 121 ls _ hP hD hS rfl dX8_about_121
  replace h := if_f h c1_7
  by_cases c1_8 : p1 = 8
  · replace h := if_t h c1_8
    refine lv_tableIn (tgt := 122) (off := 121) hx hb dX8_about_1 (by rw [c1_8]; decide) (by rw [c1_8]; decide) (by rw [c1_8]; rfl) (by decide) ?_
    refine lv_aload_n hx hb dX8_about_122 rfl (lv_at hl 0 rfl) ?_
    refine va_get (D := (dC, dI)) (ci := 3) (v := .ref (x 1)) (C := RX8) (T := TX8) (N := 7) hx hb htg inX8 hown hK hP 0 rfl rfl 0 (by decide) (htg _ gw133) (fun _ h9 => h9) rfl dX8_about_123 ?_
    obtain ⟨v126, e126, h⟩ := bnd h
    refine cS (av := [.ref (x 1)]) (rest := []) (st1 := [.int v126]) (k1 := 0) (k2 := 0) hx hb hml hown htg hN hK (c_X2_hull l dC dI cy (fun j => x (1 + j)) F  v126 e126) (g_S gw588 gw589 gw20 gw590) hdS_X2_hull rfl ⟨⟨Nat.le_of_ble_eq_true rfl, Nat.le_of_ble_eq_true rfl⟩, Nat.le_of_ble_eq_true rfl, Nat.le_of_ble_eq_true rfl⟩ hP hD hS hA [1, 2, 3, 4, 5] [0] rfl rfl rfl (by decide) (by decide) hl.1 rfl (Nat.le_of_ble_eq_true rfl) rfl rfl rfl dX8_about_126 (fun H locs hP hD hS => ?_)
    obtain ⟨hP, hD⟩ := x_perm (ws' := wSPo x ++ wFig (fun j => x (1 + j)) cy F) hP hD [0, 1, 2, 3, 4, 5] (by decide) rfl rfl
    obtain rfl := Sum.inr.inj (Option.some.inj h)
    exact hE H locs 129 ls _ hP hD hS rfl dX8_about_129
  replace h := if_f h c1_8
  by_cases c1_9 : p1 = 9
  · replace h := if_t h c1_9
    refine lv_tableIn (tgt := 130) (off := 129) hx hb dX8_about_1 (by rw [c1_9]; decide) (by rw [c1_9]; decide) (by rw [c1_9]; rfl) (by decide) ?_
    refine lv_aload_n hx hb dX8_about_130 rfl (lv_at hl 0 rfl) ?_
    refine va_get (D := (dC, dI)) (ci := 3) (v := .ref (x 1)) (C := RX8) (T := TX8) (N := 7) hx hb htg inX8 hown hK hP 0 rfl rfl 0 (by decide) (htg _ gw133) (fun _ h9 => h9) rfl dX8_about_131 ?_
    obtain ⟨v134, e134, h⟩ := bnd h
    refine cS (av := [.ref (x 1)]) (rest := []) (st1 := [.int v134]) (k1 := 0) (k2 := 0) hx hb hml hown htg hN hK (c_X6_pairs l dC dI cy (fun j => x (1 + j)) F  v134 e134) (g_S gw596 gw597 gw22 gw598) hdS_X6_pairs rfl ⟨⟨Nat.le_of_ble_eq_true rfl, Nat.le_of_ble_eq_true rfl⟩, Nat.le_of_ble_eq_true rfl, Nat.le_of_ble_eq_true rfl⟩ hP hD hS hA [1, 2, 3, 4, 5] [0] rfl rfl rfl (by decide) (by decide) hl.1 rfl (Nat.le_of_ble_eq_true rfl) rfl rfl rfl dX8_about_134 (fun H locs hP hD hS => ?_)
    obtain ⟨hP, hD⟩ := x_perm (ws' := wSPo x ++ wFig (fun j => x (1 + j)) cy F) hP hD [0, 1, 2, 3, 4, 5] (by decide) rfl rfl
    obtain rfl := Sum.inr.inj (Option.some.inj h)
    exact hE H locs 137 ls _ hP hD hS rfl dX8_about_137
  replace h := if_f h c1_9
  refine lv_tableOut (tgt := 138) hx hb dX8_about_1 (x_tout0_9 c1_0 c1_1 c1_2 c1_3 c1_4 c1_5 c1_6 c1_7 c1_8 c1_9) (by decide) ?_
  cases h
