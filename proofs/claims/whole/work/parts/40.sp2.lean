def G_X8_sees (F : Fig) (p1 : Int32) (p2 : Int32) (p3 : Int32) (p4 : Int32) : Option ((Sum Nat Int32)) :=
  (G_X8_checkCorner F p1 p2).bind fun v3 =>
  match v3 with
  | .inl k3 => some (.inl k3)
  | .inr _ =>
    (G_X8_checkCorner F p3 p4).bind fun v10 =>
    match v10 with
    | .inl k10 => some (.inl k10)
    | .inr _ =>
      (G_X1_at F p1 p2).bind fun v23 =>
      (G_X1_at F p3 p4).bind fun v33 =>
      (G_X6_between F v23 v33).bind fun v36 =>
      (bck v36).bind fun v39 =>
      some (.inr v39)
abbrev rm_X8_sees : Room := { frames := 7, cells := 2, slots := 12, locals := 104 }
theorem hdS_X8_sees : yX8_sees.cls ≠ "java/lang/invoke/MethodHandle" ∧ yX8_sees.cls ≠ "java/lang/invoke/VarHandle" ∧ (parseMethodDescriptor yX8_sees.desc).map (fun d => d.parameters.length) = some 4 := by decide +kernel
theorem hdV_X8_sees : yX8_sees.cls = RX8 ∧ yX8_sees.cls ≠ "java/lang/invoke/MethodHandle" ∧ yX8_sees.cls ≠ "java/lang/invoke/VarHandle" ∧ (parseMethodDescriptor yX8_sees.desc).map (fun d => d.parameters.length) = some 4 := ⟨rfl, hdS_X8_sees⟩
set_option maxHeartbeats 4000000 in
set_option maxRecDepth 100000 in
theorem c_X8_sees (l : Launch) (dC : Nat → ClassId) (dI : Nat → Nat → Nat) (cy : Nat → ClassId) (hlt : l.stackTraces = false) (x : Nat → Nat) (F : Fig) (p1 : Int32) (p2 : Int32) (p3 : Int32) (p4 : Int32) (res : (Sum Nat Int32)) (h : G_X8_sees F p1 p2 p3 p4 = some res) : CTX l (dC, dI) (TY cy) yX8_sees cX8_sees 5 (some .boolean) rm_X8_sees [.ref (x 0), .int p1, .int p2, .int p3, .int p4] (wSPo x ++ wFig (fun j => x (1 + j)) cy F) (wSPo x ++ wFig (fun j => x (1 + j)) cy F) (oI res) := by
  refine CTX.mk (own := RX8) hlt ⟨by decide, rfl⟩ (Nat.le_of_ble_eq_true rfl) ?_
  intro p e s mm args below meth cd A Q hx hb hml hown htg hN hK hX0 hA hP hD hS hE hV hT hO ls hl
  have hl : lv_has ls 5 [(0, .ref (x 0)), (1, .int p1), (2, .int p2), (3, .int p3), (4, .int p4)] := hl
  replace h : _ = some res := h
  unfold G_X8_sees at h
  obtain ⟨H, hH⟩ : ∃ H, H = s.heap := ⟨_, rfl⟩
  obtain ⟨locs, hlocs⟩ : ∃ locs : List Loc, locs = [] := ⟨_, rfl⟩
  rw [← hlocs] at hS ⊢
  have hS : va_S A s.heap H locs := by rw [hH]; exact hS
  rw [← hH] at hP ⊢
  refine lv_aload_n hx hb dX8_sees_0 rfl (lv_at hl 0 rfl) ?_
  refine lv_iload_n hx hb dX8_sees_1 rfl (lv_at hl 1 rfl) ?_
  refine lv_iload_n hx hb dX8_sees_2 rfl (lv_at hl 2 rfl) ?_
  obtain ⟨v3, e3, h⟩ := bnd h
  rcases hv3 : v3 with k3 | u3
  · simp only [hv3] at h
    refine cXV (av := [.int p1, .int p2]) (rest := []) (k1 := 1) (k2 := 6) (ci := 3) (q0 := 0) hx hb hml hown htg hN hK hX0 (c_X8_checkCorner l dC dI cy hlt x F p1 p2 v3 e3) (g_V gw620 gw622 gw5 gw59 gw623) hdV_X8_checkCorner rfl ⟨⟨Nat.le_of_ble_eq_true rfl, Nat.le_of_ble_eq_true rfl⟩, Nat.le_of_ble_eq_true rfl, Nat.le_of_ble_eq_true rfl⟩ hP hD hS hA ⟨rfl, rfl⟩ rfl [0, 1, 2, 3, 4, 5] [] rfl rfl rfl (by decide) (by decide) hl.1 rfl (Nat.le_of_ble_eq_true rfl) rfl rfl dX8_sees_3 (fun H locs ret ho hP hD hS => ?_) (fun H locs k q ce ho hP hD hS h1 h2 h3 => ?_)
    · rw [hv3] at ho; cases ho
    rw [hv3] at ho
    obtain rfl := Sum.inl.inj ho
    have hP : va_P (dC, dI) vwCl (wSPo x ++ wFig (fun j => x (1 + j)) cy F) H := hP
    have hD : va_D A (wSPo x ++ wFig (fun j => x (1 + j)) cy F) := hD
    obtain rfl := Option.some.inj h
    exact hO H locs 1 6 3 ls _ _ q ce hP hD hS (by decide) (by decide) rfl h1 h2 h3
  simp only [hv3] at h
  refine cXV (av := [.int p1, .int p2]) (rest := []) (k1 := 1) (k2 := 6) (ci := 3) (q0 := 0) hx hb hml hown htg hN hK hX0 (c_X8_checkCorner l dC dI cy hlt x F p1 p2 v3 e3) (g_V gw620 gw622 gw5 gw59 gw623) hdV_X8_checkCorner rfl ⟨⟨Nat.le_of_ble_eq_true rfl, Nat.le_of_ble_eq_true rfl⟩, Nat.le_of_ble_eq_true rfl, Nat.le_of_ble_eq_true rfl⟩ hP hD hS hA ⟨rfl, rfl⟩ rfl [0, 1, 2, 3, 4, 5] [] rfl rfl rfl (by decide) (by decide) hl.1 rfl (Nat.le_of_ble_eq_true rfl) rfl rfl dX8_sees_3 (fun H locs ret ho hP hD hS => ?_) (fun H locs k q ce ho hP hD hS h1 h2 h3 => ?_)
  rotate_left
  · rw [hv3] at ho; cases ho
  rw [hv3] at ho
  obtain rfl := Sum.inr.inj ho
  have hP : va_P (dC, dI) vwCl (wSPo x ++ wFig (fun j => x (1 + j)) cy F) H := hP
  have hD : va_D A (wSPo x ++ wFig (fun j => x (1 + j)) cy F) := hD
  refine W.eq (g2 := F0 mm 6 ls []) rfl ?_
  refine lv_aload_n hx hb dX8_sees_6 rfl (lv_at hl 0 rfl) ?_
  refine lv_iload_n hx hb dX8_sees_7 rfl (lv_at hl 3 rfl) ?_
  refine lv_iload hx hb dX8_sees_8 (lv_at hl 4 rfl) ?_
  obtain ⟨v10, e10, h⟩ := bnd h
  rcases hv10 : v10 with k10 | u10
  · simp only [hv10] at h
    refine cXV (av := [.int p3, .int p4]) (rest := []) (k1 := 2) (k2 := 12) (ci := 3) (q0 := 0) hx hb hml hown htg hN hK hX0 (c_X8_checkCorner l dC dI cy hlt x F p3 p4 v10 e10) (g_V gw620 gw622 gw5 gw59 gw623) hdV_X8_checkCorner rfl ⟨⟨Nat.le_of_ble_eq_true rfl, Nat.le_of_ble_eq_true rfl⟩, Nat.le_of_ble_eq_true rfl, Nat.le_of_ble_eq_true rfl⟩ hP hD hS hA ⟨rfl, rfl⟩ rfl [0, 1, 2, 3, 4, 5] [] rfl rfl rfl (by decide) (by decide) hl.1 rfl (Nat.le_of_ble_eq_true rfl) rfl rfl dX8_sees_10 (fun H locs ret ho hP hD hS => ?_) (fun H locs k q ce ho hP hD hS h1 h2 h3 => ?_)
    · rw [hv10] at ho; cases ho
    rw [hv10] at ho
    obtain rfl := Sum.inl.inj ho
    have hP : va_P (dC, dI) vwCl (wSPo x ++ wFig (fun j => x (1 + j)) cy F) H := hP
    have hD : va_D A (wSPo x ++ wFig (fun j => x (1 + j)) cy F) := hD
    obtain rfl := Option.some.inj h
    exact hO H locs 2 12 10 ls _ _ q ce hP hD hS (by decide) (by decide) rfl h1 h2 h3
  simp only [hv10] at h
  refine cXV (av := [.int p3, .int p4]) (rest := []) (k1 := 2) (k2 := 12) (ci := 3) (q0 := 0) hx hb hml hown htg hN hK hX0 (c_X8_checkCorner l dC dI cy hlt x F p3 p4 v10 e10) (g_V gw620 gw622 gw5 gw59 gw623) hdV_X8_checkCorner rfl ⟨⟨Nat.le_of_ble_eq_true rfl, Nat.le_of_ble_eq_true rfl⟩, Nat.le_of_ble_eq_true rfl, Nat.le_of_ble_eq_true rfl⟩ hP hD hS hA ⟨rfl, rfl⟩ rfl [0, 1, 2, 3, 4, 5] [] rfl rfl rfl (by decide) (by decide) hl.1 rfl (Nat.le_of_ble_eq_true rfl) rfl rfl dX8_sees_10 (fun H locs ret ho hP hD hS => ?_) (fun H locs k q ce ho hP hD hS h1 h2 h3 => ?_)
  rotate_left
  · rw [hv10] at ho; cases ho
  rw [hv10] at ho
  obtain rfl := Sum.inr.inj ho
  have hP : va_P (dC, dI) vwCl (wSPo x ++ wFig (fun j => x (1 + j)) cy F) H := hP
  have hD : va_D A (wSPo x ++ wFig (fun j => x (1 + j)) cy F) := hD
  refine W.eq (g2 := F0 mm 13 ls []) rfl ?_
  refine lv_aload_n hx hb dX8_sees_13 rfl (lv_at hl 0 rfl) ?_
  refine va_get (D := (dC, dI)) (ci := 3) (v := .ref (x 1)) (C := RX8) (T := TX8) (N := 7) hx hb htg inX8 hown hK hP 0 rfl rfl 0 (by decide) (htg _ gw192) (fun _ h9 => h9) rfl dX8_sees_14 ?_
  refine lv_aload_n hx hb dX8_sees_17 rfl (lv_at hl 0 rfl) ?_
  refine va_get (D := (dC, dI)) (ci := 3) (v := .ref (x 1)) (C := RX8) (T := TX8) (N := 7) hx hb htg inX8 hown hK hP 0 rfl rfl 0 (by decide) (htg _ gw192) (fun _ h9 => h9) rfl dX8_sees_18 ?_
  refine lv_iload_n hx hb dX8_sees_21 rfl (lv_at hl 1 rfl) ?_
  refine lv_iload_n hx hb dX8_sees_22 rfl (lv_at hl 2 rfl) ?_
  obtain ⟨v23, e23, h⟩ := bnd h
  refine cV (av := [.int p1, .int p2]) (rest := [.ref (x 1)]) (st1 := [.int v23, .ref (x 1)]) (k1 := 2) (k2 := 12) (ci := 0) (q0 := 0) hx hb hml hown htg hN hK (c_X1_at l dC dI cy (fun j => x (1 + j)) F p1 p2 v23 e23) (g_V gw626 gw177 gw178 gw60 gw179) hdV_X1_at rfl ⟨⟨Nat.le_of_ble_eq_true rfl, Nat.le_of_ble_eq_true rfl⟩, Nat.le_of_ble_eq_true rfl, Nat.le_of_ble_eq_true rfl⟩ hP hD hS hA ⟨rfl, rfl⟩ rfl [1, 2, 3, 4, 5] [0] rfl rfl rfl (by decide) (by decide) hl.1 rfl (Nat.le_of_ble_eq_true rfl) rfl rfl rfl dX8_sees_23 (fun H locs hP hD hS => ?_)
  obtain ⟨hP, hD⟩ := x_perm (ws' := wSPo x ++ wFig (fun j => x (1 + j)) cy F) hP hD [0, 1, 2, 3, 4, 5] (by decide) rfl rfl
  refine lv_aload_n hx hb dX8_sees_26 rfl (lv_at hl 0 rfl) ?_
  refine va_get (D := (dC, dI)) (ci := 3) (v := .ref (x 1)) (C := RX8) (T := TX8) (N := 7) hx hb htg inX8 hown hK hP 0 rfl rfl 0 (by decide) (htg _ gw192) (fun _ h9 => h9) rfl dX8_sees_27 ?_
  refine lv_iload_n hx hb dX8_sees_30 rfl (lv_at hl 3 rfl) ?_
  refine lv_iload hx hb dX8_sees_31 (lv_at hl 4 rfl) ?_
  obtain ⟨v33, e33, h⟩ := bnd h
  refine cV (av := [.int p3, .int p4]) (rest := [.int v23, .ref (x 1)]) (st1 := [.int v33, .int v23, .ref (x 1)]) (k1 := 2) (k2 := 12) (ci := 0) (q0 := 0) hx hb hml hown htg hN hK (c_X1_at l dC dI cy (fun j => x (1 + j)) F p3 p4 v33 e33) (g_V gw626 gw177 gw178 gw60 gw179) hdV_X1_at rfl ⟨⟨Nat.le_of_ble_eq_true rfl, Nat.le_of_ble_eq_true rfl⟩, Nat.le_of_ble_eq_true rfl, Nat.le_of_ble_eq_true rfl⟩ hP hD hS hA ⟨rfl, rfl⟩ rfl [1, 2, 3, 4, 5] [0] rfl rfl rfl (by decide) (by decide) hl.1 rfl (Nat.le_of_ble_eq_true rfl) rfl rfl rfl dX8_sees_33 (fun H locs hP hD hS => ?_)
  obtain ⟨hP, hD⟩ := x_perm (ws' := wSPo x ++ wFig (fun j => x (1 + j)) cy F) hP hD [0, 1, 2, 3, 4, 5] (by decide) rfl rfl
  obtain ⟨v36, e36, h⟩ := bnd h
  refine cS (av := [.ref (x 1), .int v23, .int v33]) (rest := []) (st1 := [.int v36]) (k1 := 2) (k2 := 12) hx hb hml hown htg hN hK (c_X6_between l dC dI cy (fun j => x (1 + j)) F v23 v33 v36 e36) (g_S gw656 gw412 gw73 gw413) hdS_X6_between rfl ⟨⟨Nat.le_of_ble_eq_true rfl, Nat.le_of_ble_eq_true rfl⟩, Nat.le_of_ble_eq_true rfl, Nat.le_of_ble_eq_true rfl⟩ hP hD hS hA [1, 2, 3, 4, 5] [0] rfl rfl rfl (by decide) (by decide) hl.1 rfl (Nat.le_of_ble_eq_true rfl) rfl rfl rfl dX8_sees_36 (fun H locs hP hD hS => ?_)
  obtain ⟨hP, hD⟩ := x_perm (ws' := wSPo x ++ wFig (fun j => x (1 + j)) cy F) hP hD [0, 1, 2, 3, 4, 5] (by decide) rfl rfl
  obtain ⟨v39, e39, h⟩ := bnd h
  obtain ⟨rfl, hz39⟩ := bck_in e39
  obtain rfl := Option.some.inj h
  exact hE H locs 2 12 39 ls _ hP hD hS (by decide) (by decide) rfl ⟨_, rfl, by rcases hz39 with hz | hz <;> rw [hz] <;> rfl⟩ dX8_sees_39
def G_X8_shift (F : Fig) (D : Fig) (P : PastS) (p1 : Int32) (p2 : Int32) : Option ((Sum Nat Int32) × Fig × Fig × PastS) :=
  (G_X8_inRange p1 (-15) 15).bind fun v5 =>
  if v5 = 0 then
    some (.inl 2, F, D, P)
  else
    (G_X8_inRange p2 (-15) 15).bind fun v16 =>
    if v16 = 0 then
      some (.inl 2, F, D, P)
    else
      (G_X1_copyFrom D F).bind fun v40 =>
      (G_X0_shifted v40 p1 p2).bind fun v49 =>
      if v49.1 = 0 then
        some (.inl 3, F, v49.2, P)
      else
        (G_X8_keepDraft F v49.2 P).bind fun v66 =>
        (G_X2_greatestX v66.1).bind fun v73 =>
        some (.inr v73, v66.1, v49.2, v66.2)
abbrev rm_X8_shift : Room := { frames := 6, cells := 1, slots := 6, locals := 102 }
theorem hdS_X8_shift : yX8_shift.cls ≠ "java/lang/invoke/MethodHandle" ∧ yX8_shift.cls ≠ "java/lang/invoke/VarHandle" ∧ (parseMethodDescriptor yX8_shift.desc).map (fun d => d.parameters.length) = some 2 := by decide +kernel
theorem hdV_X8_shift : yX8_shift.cls = RX8 ∧ yX8_shift.cls ≠ "java/lang/invoke/MethodHandle" ∧ yX8_shift.cls ≠ "java/lang/invoke/VarHandle" ∧ (parseMethodDescriptor yX8_shift.desc).map (fun d => d.parameters.length) = some 2 := ⟨rfl, hdS_X8_shift⟩
set_option maxHeartbeats 4000000 in
set_option maxRecDepth 100000 in
theorem c_X8_shift (l : Launch) (dC : Nat → ClassId) (dI : Nat → Nat → Nat) (cy : Nat → ClassId) (hlt : l.stackTraces = false) (x : Nat → Nat) (F : Fig) (D : Fig) (P : PastS) (p1 : Int32) (p2 : Int32) (res : (Sum Nat Int32) × Fig × Fig × PastS) (h : G_X8_shift F D P p1 p2 = some res) : CTX l (dC, dI) (TY cy) yX8_shift cX8_shift 3 (some .int) rm_X8_shift [.ref (x 0), .int p1, .int p2] (wSPo x ++ wFig (fun j => x (1 + j)) cy F ++ wFig (fun j => x (6 + j)) cy D ++ wP2 (fun j => x (11 + j)) cy P ++ wPF (fun j => x (11 + j)) cy (p_figs P)) (wSPo x ++ wFig (fun j => x (1 + j)) cy res.2.1 ++ wFig (fun j => x (6 + j)) cy res.2.2.1 ++ wP2 (fun j => x (11 + j)) cy res.2.2.2 ++ wPF (fun j => x (11 + j)) cy (p_figs res.2.2.2)) (oI res.1) := by
  refine CTX.mk (own := RX8) hlt ⟨by decide, rfl⟩ (Nat.le_of_ble_eq_true rfl) ?_
  intro p e s mm args below meth cd A Q hx hb hml hown htg hN hK hX0 hA hP hD hS hE hV hT hO ls hl
  have hl : lv_has ls 3 [(0, .ref (x 0)), (1, .int p1), (2, .int p2)] := hl
  replace h : _ = some res := h
  unfold G_X8_shift at h
  obtain ⟨H, hH⟩ : ∃ H, H = s.heap := ⟨_, rfl⟩
  obtain ⟨locs, hlocs⟩ : ∃ locs : List Loc, locs = [] := ⟨_, rfl⟩
  rw [← hlocs] at hS ⊢
  have hS : va_S A s.heap H locs := by rw [hH]; exact hS
  rw [← hH] at hP ⊢
  refine lv_iload_n hx hb dX8_shift_0 rfl (lv_at hl 1 rfl) ?_
  refine lv_bipush (v := (-15)) hx hb dX8_shift_1 (by decide) ?_
  refine lv_bipush (v := 15) hx hb dX8_shift_3 (by decide) ?_
  obtain ⟨v5, e5, h⟩ := bnd h
  refine cSp (av := [.int p1, .int (-15), .int 15]) (rest := []) (st1 := [.int v5]) (k1 := 0) (k2 := 0) (wn := wSPo x ++ wFig (fun j => x (1 + j)) cy F ++ wFig (fun j => x (6 + j)) cy D ++ wP2 (fun j => x (11 + j)) cy P ++ wPF (fun j => x (11 + j)) cy (p_figs P)) hx hb hml hown htg hN hK (c_X8_inRange l dC dI cy   p1 (-15) 15 v5 e5) (g_S gw433 gw245 gw59 gw246) hdS_X8_inRange rfl ⟨⟨Nat.le_of_ble_eq_true rfl, Nat.le_of_ble_eq_true rfl⟩, Nat.le_of_ble_eq_true rfl, Nat.le_of_ble_eq_true rfl⟩ hP hD hS hA (perm_N (perm_ix 13 [] [0, 1, 2, 3, 4, 5, 6, 7, 8, 9, 10, 11, 12] rfl rfl rfl (by decide))) (perm_Nb (perm_ix 13 [0, 1, 2, 3, 4, 5, 6, 7, 8, 9, 10, 11, 12] [] rfl rfl rfl (by decide))) hl.1 rfl (Nat.le_of_ble_eq_true rfl) rfl rfl rfl dX8_shift_5 (fun H locs hP hD hS => ?_)
  refine lv_if_eq (tgt := 22) hx hb dX8_shift_8 (by decide) (fun c8 => ?_) (fun c8 => ?_)
  · replace h := if_t h c8
    obtain rfl := Option.some.inj h
    exact hT H locs 0 0 22 ls 56 223 60 2 "dx or dy is not -15 to 15" hP hD hS (by decide) (by decide) (by decide) (by decide) rfl rfl hl.1 (by decide +kernel) gw434 gw67 exat_2 exgo_2 (by decide +kernel) dX8_shift_22 dX8_shift_25 (Or.inl ⟨dX8_shift_26, dX8_shift_28, dX8_shift_31⟩)
  replace h := if_f h c8
  refine lv_iload_n hx hb dX8_shift_11 rfl (lv_at hl 2 rfl) ?_
  refine lv_bipush (v := (-15)) hx hb dX8_shift_12 (by decide) ?_
  refine lv_bipush (v := 15) hx hb dX8_shift_14 (by decide) ?_
  obtain ⟨v16, e16, h⟩ := bnd h
  refine cSp (av := [.int p2, .int (-15), .int 15]) (rest := []) (st1 := [.int v16]) (k1 := 0) (k2 := 0) (wn := wSPo x ++ wFig (fun j => x (1 + j)) cy F ++ wFig (fun j => x (6 + j)) cy D ++ wP2 (fun j => x (11 + j)) cy P ++ wPF (fun j => x (11 + j)) cy (p_figs P)) hx hb hml hown htg hN hK (c_X8_inRange l dC dI cy   p2 (-15) 15 v16 e16) (g_S gw433 gw245 gw59 gw246) hdS_X8_inRange rfl ⟨⟨Nat.le_of_ble_eq_true rfl, Nat.le_of_ble_eq_true rfl⟩, Nat.le_of_ble_eq_true rfl, Nat.le_of_ble_eq_true rfl⟩ hP hD hS hA (perm_N (perm_ix 13 [] [0, 1, 2, 3, 4, 5, 6, 7, 8, 9, 10, 11, 12] rfl rfl rfl (by decide))) (perm_Nb (perm_ix 13 [0, 1, 2, 3, 4, 5, 6, 7, 8, 9, 10, 11, 12] [] rfl rfl rfl (by decide))) hl.1 rfl (Nat.le_of_ble_eq_true rfl) rfl rfl rfl dX8_shift_16 (fun H locs hP hD hS => ?_)
  refine lv_if_ne (tgt := 32) hx hb dX8_shift_19 (by decide) (fun c19 => ?_) (fun c19 => ?_)
  · replace h := if_f h c19
    refine lv_aload_n hx hb dX8_shift_32 rfl (lv_at hl 0 rfl) ?_
    refine va_get (D := (dC, dI)) (ci := 3) (v := .ref (x 6)) (C := RX8) (T := TX8) (N := 7) hx hb htg inX8 hown hK hP 0 rfl rfl 1 (by decide) (htg _ gw193) (fun _ h9 => h9) rfl dX8_shift_33 ?_
    refine lv_aload_n hx hb dX8_shift_36 rfl (lv_at hl 0 rfl) ?_
    refine va_get (D := (dC, dI)) (ci := 3) (v := .ref (x 1)) (C := RX8) (T := TX8) (N := 7) hx hb htg inX8 hown hK hP 0 rfl rfl 0 (by decide) (htg _ gw192) (fun _ h9 => h9) rfl dX8_shift_37 ?_
    obtain ⟨v40, e40, h⟩ := bnd h
    refine cVp (av := [.ref (x 1)]) (rest := []) (st1 := []) (k1 := 0) (k2 := 0) (wn := wSPo x ++ wFig (fun j => x (1 + j)) cy F ++ wFig (fun j => x (6 + j)) cy v40 ++ wP2 (fun j => x (11 + j)) cy P ++ wPF (fun j => x (11 + j)) cy (p_figs P)) (ci := 0) (q0 := 0) hx hb hml hown htg hN hK (c_X1_copyFrom l dC dI cy (fun j => x (6 + j)) (fun j => x (1 + j)) D F  v40 e40) (g_V gw313 gw314 gw315 gw60 gw316) hdV_X1_copyFrom rfl ⟨⟨Nat.le_of_ble_eq_true rfl, Nat.le_of_ble_eq_true rfl⟩, Nat.le_of_ble_eq_true rfl, Nat.le_of_ble_eq_true rfl⟩ hP hD hS hA ⟨rfl, rfl⟩ rfl (perm_N (perm_ix 13 [6, 7, 8, 9, 10, 1, 2, 3, 4, 5] [0, 11, 12] rfl rfl rfl (by decide))) (perm_Nb (perm_ix 13 [0, 11, 12] [6, 7, 8, 9, 10, 1, 2, 3, 4, 5] rfl rfl rfl (by decide))) hl.1 rfl (Nat.le_of_ble_eq_true rfl) rfl rfl rfl dX8_shift_40 (fun H locs hP hD hS => ?_)
    refine lv_aload_n hx hb dX8_shift_43 rfl (lv_at hl 0 rfl) ?_
    refine va_get (D := (dC, dI)) (ci := 3) (v := .ref (x 6)) (C := RX8) (T := TX8) (N := 7) hx hb htg inX8 hown hK hP 0 rfl rfl 1 (by decide) (htg _ gw193) (fun _ h9 => h9) rfl dX8_shift_44 ?_
    refine lv_iload_n hx hb dX8_shift_47 rfl (lv_at hl 1 rfl) ?_
    refine lv_iload_n hx hb dX8_shift_48 rfl (lv_at hl 2 rfl) ?_
    obtain ⟨v49, e49, h⟩ := bnd h
    refine cSp (av := [.ref (x 6), .int p1, .int p2]) (rest := []) (st1 := [.int v49.1]) (k1 := 0) (k2 := 0) (wn := wSPo x ++ wFig (fun j => x (1 + j)) cy F ++ wFig (fun j => x (6 + j)) cy v49.2 ++ wP2 (fun j => x (11 + j)) cy P ++ wPF (fun j => x (11 + j)) cy (p_figs P)) hx hb hml hown htg hN hK (c_X0_shifted l dC dI cy (fun j => x (6 + j)) v40 p1 p2 v49 e49) (g_S gw734 gw735 gw75 gw736) hdS_X0_shifted rfl ⟨⟨Nat.le_of_ble_eq_true rfl, Nat.le_of_ble_eq_true rfl⟩, Nat.le_of_ble_eq_true rfl, Nat.le_of_ble_eq_true rfl⟩ hP hD hS hA (perm_N (perm_ix 13 [6, 7, 8, 9, 10] [0, 1, 2, 3, 4, 5, 11, 12] rfl rfl rfl (by decide))) (perm_Nb (perm_ix 13 [0, 1, 2, 3, 4, 5, 11, 12] [6, 7, 8, 9, 10] rfl rfl rfl (by decide))) hl.1 rfl (Nat.le_of_ble_eq_true rfl) rfl rfl rfl dX8_shift_49 (fun H locs hP hD hS => ?_)
    refine lv_if_ne (tgt := 65) hx hb dX8_shift_52 (by decide) (fun c52 => ?_) (fun c52 => ?_)
    · replace h := if_f h c52
      refine lv_aload_n hx hb dX8_shift_65 rfl (lv_at hl 0 rfl) ?_
      obtain ⟨v66, e66, h⟩ := bnd h
      refine cVp (av := []) (rest := []) (st1 := []) (k1 := 0) (k2 := 0) (wn := wSPo x ++ wFig (fun j => x (1 + j)) cy v66.1 ++ wFig (fun j => x (6 + j)) cy v49.2 ++ wP2 (fun j => x (11 + j)) cy v66.2 ++ wPF (fun j => x (11 + j)) cy (p_figs v66.2)) (ci := 3) (q0 := 0) hx hb hml hown htg hN hK (c_X8_keepDraft l dC dI cy x F v49.2 P  v66 e66) (g_V gw324 gw326 gw2 gw59 gw327) hdV_X8_keepDraft rfl ⟨⟨Nat.le_of_ble_eq_true rfl, Nat.le_of_ble_eq_true rfl⟩, Nat.le_of_ble_eq_true rfl, Nat.le_of_ble_eq_true rfl⟩ hP hD hS hA ⟨rfl, rfl⟩ rfl (perm_T (perm_ix 13 [0, 1, 2, 3, 4, 5, 6, 7, 8, 9, 10, 11, 12] [] rfl rfl rfl (by decide))) (perm_Tb (perm_ix 13 [] [0, 1, 2, 3, 4, 5, 6, 7, 8, 9, 10, 11, 12] rfl rfl rfl (by decide))) hl.1 rfl (Nat.le_of_ble_eq_true rfl) rfl rfl rfl dX8_shift_66 (fun H locs hP hD hS => ?_)
      refine lv_aload_n hx hb dX8_shift_69 rfl (lv_at hl 0 rfl) ?_
      refine va_get (D := (dC, dI)) (ci := 3) (v := .ref (x 1)) (C := RX8) (T := TX8) (N := 7) hx hb htg inX8 hown hK hP 0 rfl rfl 0 (by decide) (htg _ gw192) (fun _ h9 => h9) rfl dX8_shift_70 ?_
      obtain ⟨v73, e73, h⟩ := bnd h
      refine cSp (av := [.ref (x 1)]) (rest := []) (st1 := [.int v73]) (k1 := 0) (k2 := 0) (wn := wSPo x ++ wFig (fun j => x (1 + j)) cy v66.1 ++ wFig (fun j => x (6 + j)) cy v49.2 ++ wP2 (fun j => x (11 + j)) cy v66.2 ++ wPF (fun j => x (11 + j)) cy (p_figs v66.2)) hx hb hml hown htg hN hK (c_X2_greatestX l dC dI cy (fun j => x (1 + j)) v66.1  v73 e73) (g_S gw333 gw334 gw72 gw335) hdS_X2_greatestX rfl ⟨⟨Nat.le_of_ble_eq_true rfl, Nat.le_of_ble_eq_true rfl⟩, Nat.le_of_ble_eq_true rfl, Nat.le_of_ble_eq_true rfl⟩ hP hD hS hA (perm_N (perm_ix 13 [1, 2, 3, 4, 5] [0, 6, 7, 8, 9, 10, 11, 12] rfl rfl rfl (by decide))) (perm_Nb (perm_ix 13 [0, 6, 7, 8, 9, 10, 11, 12] [1, 2, 3, 4, 5] rfl rfl rfl (by decide))) hl.1 rfl (Nat.le_of_ble_eq_true rfl) rfl rfl rfl dX8_shift_73 (fun H locs hP hD hS => ?_)
      obtain rfl := Option.some.inj h
      exact hE H locs 0 0 76 ls _ hP hD hS (by decide) (by decide) rfl ⟨_, rfl, rfl⟩ dX8_shift_76
    replace h := if_t h c52
    obtain rfl := Option.some.inj h
    exact hT H locs 0 0 55 ls 67 228 71 3 "a corner would leave the paper" hP hD hS (by decide) (by decide) (by decide) (by decide) rfl rfl hl.1 (by decide +kernel) gw502 gw68 exat_3 exgo_3 (by decide +kernel) dX8_shift_55 dX8_shift_58 (Or.inl ⟨dX8_shift_59, dX8_shift_61, dX8_shift_64⟩)
  replace h := if_t h c19
  obtain rfl := Option.some.inj h
  exact hT H locs 0 0 22 ls 56 223 60 2 "dx or dy is not -15 to 15" hP hD hS (by decide) (by decide) (by decide) (by decide) rfl rfl hl.1 (by decide +kernel) gw434 gw67 exat_2 exgo_2 (by decide +kernel) dX8_shift_22 dX8_shift_25 (Or.inl ⟨dX8_shift_26, dX8_shift_28, dX8_shift_31⟩)
def G_X8_simulate_j112  (F : Fig) (D_112 : Fig) (l5_112 : Int32) : Option ((Sum Nat Int32) × Fig) :=
  (G_X2_area D_112).bind fun v122 =>
  some (.inr ((1000 * l5_112) + v122), D_112)
def G_X8_simulate_j106 (r51 : Fig → Int32 → Int64 → Int32 → Int32 → Int32 → Option ((Sum Nat Int32) × Fig)) (F : Fig) (D_106 : Fig) (l6_106 : Int64) (l8_106 : Int32) (l5_106 : Int32) (l4_106 : Int32) (l3_106 : Int32) : Option ((Sum Nat Int32) × Fig) :=
  r51 D_106 (l8_106 + 1) l6_106 l5_106 l4_106 l3_106
def G_X8_simulate_L51  (F : Fig) : Nat → Fig → Int32 → Int64 → Int32 → Int32 → Int32 → Option ((Sum Nat Int32) × Fig)
  | 0, _, _, _, _, _, _ => none
  | n51 + 1, D_51, l8_51, l6_51, l5_51, l4_51, l3_51 =>
    if l3_51 ≤ l8_51 then
      G_X8_simulate_j112 F D_51 l5_51
    else
      if l4_51 ≤ 0 then
        G_X8_simulate_j112 F D_51 l5_51
      else
        (rmI ((((((l6_51 * 6364136223846793005) + 1442695040888963407).toUInt64 >>> ((33 : Int32).toInt64.toUInt64 &&& Int64.toUInt64 63)).toInt64).toInt32) / 4) l4_51).bind fun v92 =>
        (G_X0_nudged D_51 v92 ((((((l6_51 * 6364136223846793005) + 1442695040888963407).toUInt64 >>> ((33 : Int32).toInt64.toUInt64 &&& Int64.toUInt64 63)).toInt64).toInt32) - (((((l6_51 * 6364136223846793005) + 1442695040888963407).toUInt64 >>> ((33 : Int32).toInt64.toUInt64 &&& Int64.toUInt64 63)).toInt64).toInt32) / 4 * 4)).bind fun v97 =>
        if v97.1 = 0 then
          G_X8_simulate_j106 (G_X8_simulate_L51 F n51) F v97.2 ((l6_51 * 6364136223846793005) + 1442695040888963407) l8_51 l5_51 l4_51 l3_51
        else
          G_X8_simulate_j106 (G_X8_simulate_L51 F n51) F v97.2 ((l6_51 * 6364136223846793005) + 1442695040888963407) l8_51 (l5_51 + 1) l4_51 l3_51
def G_X8_simulate (F : Fig) (D : Fig) (p1 : Int64) (p3 : Int32) : Option ((Sum Nat Int32) × Fig) :=
  (G_X8_inRange p3 1 60).bind fun v4 =>
  if v4 = 0 then
    some (.inl 2, D)
  else
    (G_X1_copyFrom D F).bind fun v29 =>
    (G_X1_sizeOf v29 0).bind fun v37 =>
    G_X8_simulate_L51 F FU v29 0 p1 0 v37 p3
abbrev rm_X8_simulate : Room := { frames := 7, cells := 1, slots := 6, locals := 164 }
theorem hdS_X8_simulate : yX8_simulate.cls ≠ "java/lang/invoke/MethodHandle" ∧ yX8_simulate.cls ≠ "java/lang/invoke/VarHandle" ∧ (parseMethodDescriptor yX8_simulate.desc).map (fun d => d.parameters.length) = some 2 := by decide +kernel
theorem hdV_X8_simulate : yX8_simulate.cls = RX8 ∧ yX8_simulate.cls ≠ "java/lang/invoke/MethodHandle" ∧ yX8_simulate.cls ≠ "java/lang/invoke/VarHandle" ∧ (parseMethodDescriptor yX8_simulate.desc).map (fun d => d.parameters.length) = some 2 := ⟨rfl, hdS_X8_simulate⟩
set_option maxHeartbeats 4000000 in
set_option maxRecDepth 100000 in
theorem c_X8_simulate (l : Launch) (dC : Nat → ClassId) (dI : Nat → Nat → Nat) (cy : Nat → ClassId) (hlt : l.stackTraces = false) (x : Nat → Nat) (F : Fig) (D : Fig) (p1 : Int64) (p3 : Int32) (res : (Sum Nat Int32) × Fig) (h : G_X8_simulate F D p1 p3 = some res) : CTX l (dC, dI) (TY cy) yX8_simulate cX8_simulate 10 (some .int) rm_X8_simulate [.ref (x 0), .long p1, .int p3] (wSPo x ++ wFig (fun j => x (1 + j)) cy F ++ wFig (fun j => x (6 + j)) cy D) (wSPo x ++ wFig (fun j => x (1 + j)) cy F ++ wFig (fun j => x (6 + j)) cy res.2) (oI res.1) := by
  refine CTX.mk (own := RX8) hlt ⟨by decide, rfl⟩ (Nat.le_of_ble_eq_true rfl) ?_
  intro p e s mm args below meth cd A Q hx hb hml hown htg hN hK hX0 hA hP hD hS hE hV hT hO ls hl
  have hl : lv_has ls 10 [(0, .ref (x 0)), (1, .long p1), (3, .int p3)] := hl
  replace h : _ = some res := h
  unfold G_X8_simulate at h
  obtain ⟨H, hH⟩ : ∃ H, H = s.heap := ⟨_, rfl⟩
  obtain ⟨locs, hlocs⟩ : ∃ locs : List Loc, locs = [] := ⟨_, rfl⟩
  rw [← hlocs] at hS ⊢
  have hS : va_S A s.heap H locs := by rw [hH]; exact hS
  rw [← hH] at hP ⊢
  refine lv_iload_n hx hb dX8_simulate_0 rfl (lv_at hl 2 rfl) ?_
  refine lv_iconst (v := 1) hx hb dX8_simulate_1 (by decide) ?_
  refine lv_bipush (v := 60) hx hb dX8_simulate_2 (by decide) ?_
  obtain ⟨v4, e4, h⟩ := bnd h
  refine cS (av := [.int p3, .int 1, .int 60]) (rest := []) (st1 := [.int v4]) (k1 := 0) (k2 := 0) hx hb hml hown htg hN hK (c_X8_inRange l dC dI cy   p3 1 60 v4 e4) (g_S gw433 gw245 gw59 gw246) hdS_X8_inRange rfl ⟨⟨Nat.le_of_ble_eq_true rfl, Nat.le_of_ble_eq_true rfl⟩, Nat.le_of_ble_eq_true rfl, Nat.le_of_ble_eq_true rfl⟩ hP hD hS hA [] [0, 1, 2, 3, 4, 5, 6, 7, 8, 9, 10] rfl rfl rfl (by decide) (by decide) hl.1 rfl (Nat.le_of_ble_eq_true rfl) rfl rfl rfl dX8_simulate_4 (fun H locs hP hD hS => ?_)
  obtain ⟨hP, hD⟩ := x_perm (ws' := wSPo x ++ wFig (fun j => x (1 + j)) cy F ++ wFig (fun j => x (6 + j)) cy D) hP hD [0, 1, 2, 3, 4, 5, 6, 7, 8, 9, 10] (by decide) rfl rfl
  refine lv_if_ne (tgt := 21) hx hb dX8_simulate_7 (by decide) (fun c7 => ?_) (fun c7 => ?_)
  · replace h := if_f h c7
    refine lv_aload_n hx hb dX8_simulate_21 rfl (lv_at hl 0 rfl) ?_
    refine va_get (D := (dC, dI)) (ci := 3) (v := .ref (x 6)) (C := RX8) (T := TX8) (N := 7) hx hb htg inX8 hown hK hP 0 rfl rfl 1 (by decide) (htg _ gw193) (fun _ h9 => h9) rfl dX8_simulate_22 ?_
    refine lv_aload_n hx hb dX8_simulate_25 rfl (lv_at hl 0 rfl) ?_
    refine va_get (D := (dC, dI)) (ci := 3) (v := .ref (x 1)) (C := RX8) (T := TX8) (N := 7) hx hb htg inX8 hown hK hP 0 rfl rfl 0 (by decide) (htg _ gw192) (fun _ h9 => h9) rfl dX8_simulate_26 ?_
    obtain ⟨v29, e29, h⟩ := bnd h
    refine cV (av := [.ref (x 1)]) (rest := []) (st1 := []) (k1 := 0) (k2 := 0) (ci := 0) (q0 := 0) hx hb hml hown htg hN hK (c_X1_copyFrom l dC dI cy (fun j => x (6 + j)) (fun j => x (1 + j)) D F  v29 e29) (g_V gw313 gw314 gw315 gw60 gw316) hdV_X1_copyFrom rfl ⟨⟨Nat.le_of_ble_eq_true rfl, Nat.le_of_ble_eq_true rfl⟩, Nat.le_of_ble_eq_true rfl, Nat.le_of_ble_eq_true rfl⟩ hP hD hS hA ⟨rfl, rfl⟩ rfl [6, 7, 8, 9, 10, 1, 2, 3, 4, 5] [0] rfl rfl rfl (by decide) (by decide) hl.1 rfl (Nat.le_of_ble_eq_true rfl) rfl rfl rfl dX8_simulate_29 (fun H locs hP hD hS => ?_)
    obtain ⟨hP, hD⟩ := x_perm (ws' := wSPo x ++ wFig (fun j => x (1 + j)) cy F ++ wFig (fun j => x (6 + j)) cy v29) hP hD [0, 6, 7, 8, 9, 10, 1, 2, 3, 4, 5] (by decide) rfl rfl
    refine lv_aload_n hx hb dX8_simulate_32 rfl (lv_at hl 0 rfl) ?_
    refine va_get (D := (dC, dI)) (ci := 3) (v := .ref (x 6)) (C := RX8) (T := TX8) (N := 7) hx hb htg inX8 hown hK hP 0 rfl rfl 1 (by decide) (htg _ gw193) (fun _ h9 => h9) rfl dX8_simulate_33 ?_
    refine lv_iconst (v := 0) hx hb dX8_simulate_36 (by decide) ?_
    obtain ⟨v37, e37, h⟩ := bnd h
    refine cV (av := [.int 0]) (rest := []) (st1 := [.int v37]) (k1 := 0) (k2 := 0) (ci := 0) (q0 := 0) hx hb hml hown htg hN hK (c_X1_sizeOf l dC dI cy (fun j => x (6 + j)) v29 0 v37 e37) (g_V gw350 gw165 gw166 gw60 gw167) hdV_X1_sizeOf rfl ⟨⟨Nat.le_of_ble_eq_true rfl, Nat.le_of_ble_eq_true rfl⟩, Nat.le_of_ble_eq_true rfl, Nat.le_of_ble_eq_true rfl⟩ hP hD hS hA ⟨rfl, rfl⟩ rfl [6, 7, 8, 9, 10] [0, 1, 2, 3, 4, 5] rfl rfl rfl (by decide) (by decide) hl.1 rfl (Nat.le_of_ble_eq_true rfl) rfl rfl rfl dX8_simulate_37 (fun H locs hP hD hS => ?_)
    obtain ⟨hP, hD⟩ := x_perm (ws' := wSPo x ++ wFig (fun j => x (1 + j)) cy F ++ wFig (fun j => x (6 + j)) cy v29) hP hD [0, 1, 2, 3, 4, 5, 6, 7, 8, 9, 10] (by decide) rfl rfl
    refine lv_istore (lv' := [(4, .int v37), (0, .ref (x 0)), (1, .long p1), (3, .int p3)]) hx hb dX8_simulate_40 hl (by decide) rfl (fun ls hl => ?_)
    refine lv_iconst (v := 0) hx hb dX8_simulate_42 (by decide) ?_
    refine lv_istore (lv' := [(5, .int 0), (4, .int v37), (0, .ref (x 0)), (1, .long p1), (3, .int p3)]) hx hb dX8_simulate_43 hl (by decide) rfl (fun ls hl => ?_)
    refine lv_lload_n hx hb dX8_simulate_45 rfl (lv_at hl 3 rfl) ?_
    refine lv_lstore (lv' := [(6, .long p1), (5, .int 0), (4, .int v37), (0, .ref (x 0)), (1, .long p1), (3, .int p3)]) hx hb dX8_simulate_46 hl (by decide) rfl (fun ls hl => ?_)
    refine lv_iconst (v := 0) hx hb dX8_simulate_48 (by decide) ?_
    refine lv_istore (lv' := [(8, .int 0), (6, .long p1), (5, .int 0), (4, .int v37), (0, .ref (x 0)), (1, .long p1), (3, .int p3)]) hx hb dX8_simulate_49 hl (by decide) rfl (fun ls hl => ?_)
    have hL51 : ∀ (n51 : Nat) (D_51 : Fig) (l8_51 : Int32) (l6_51 : Int64) (l5_51 : Int32) (l4_51 : Int32) (l3_51 : Int32) (H : Heap) (locs : List Loc) (ls : Array Slot), G_X8_simulate_L51 F n51 D_51 l8_51 l6_51 l5_51 l4_51 l3_51 = some res → va_P (dC, dI) vwCl (wSPo x ++ wFig (fun j => x (1 + j)) cy F ++ wFig (fun j => x (6 + j)) cy D_51) H → va_D A (wSPo x ++ wFig (fun j => x (1 + j)) cy F ++ wFig (fun j => x (6 + j)) cy D_51) → va_S A s.heap H locs → lv_has ls 10 [(8, .int l8_51), (6, .long l6_51), (5, .int l5_51), (4, .int l4_51), (0, .ref (x 0)), (3, .int l3_51)] → W p l e rm_X8_simulate s mm args below meth cd H locs 0 0 Q (F0 mm 51 ls []) := by
      intro n51
      induction n51 with
      | zero => intro D_51 l8_51 l6_51 l5_51 l4_51 l3_51 H locs ls h; exact absurd h (by simp [G_X8_simulate_L51])
      | succ n51 ih51 =>
        intro D_51 l8_51 l6_51 l5_51 l4_51 l3_51 H locs ls h hP hD hS hl
        rw [G_X8_simulate_L51] at h
        refine lv_iload hx hb dX8_simulate_51 (lv_at hl 0 rfl) ?_
        refine lv_iload_n hx hb dX8_simulate_53 rfl (lv_at hl 5 rfl) ?_
        have hj112 : ∀ (D_112 : Fig) (l5_112 : Int32) (H : Heap) (locs : List Loc) (ls : Array Slot), G_X8_simulate_j112 F D_112 l5_112 = some res → va_P (dC, dI) vwCl (wSPo x ++ wFig (fun j => x (1 + j)) cy F ++ wFig (fun j => x (6 + j)) cy D_112) H → va_D A (wSPo x ++ wFig (fun j => x (1 + j)) cy F ++ wFig (fun j => x (6 + j)) cy D_112) → va_S A s.heap H locs → lv_has ls 10 [(5, .int l5_112), (0, .ref (x 0))] → W p l e rm_X8_simulate s mm args below meth cd H locs 0 0 Q (F0 mm 112 ls []) := by
          intro D_112 l5_112 H locs ls h hP hD hS hl
          unfold G_X8_simulate_j112 at h
          refine lv_sipush (v := 1000) hx hb dX8_simulate_112 (by decide) ?_
          refine lv_iload hx hb dX8_simulate_115 (lv_at hl 0 rfl) ?_
          refine lv_imul hx hb dX8_simulate_117 ?_
          refine lv_aload_n hx hb dX8_simulate_118 rfl (lv_at hl 1 rfl) ?_
          refine va_get (D := (dC, dI)) (ci := 3) (v := .ref (x 6)) (C := RX8) (T := TX8) (N := 7) hx hb htg inX8 hown hK hP 0 rfl rfl 1 (by decide) (htg _ gw193) (fun _ h9 => h9) rfl dX8_simulate_119 ?_
          obtain ⟨v122, e122, h⟩ := bnd h
          refine cS (av := [.ref (x 6)]) (rest := [.int (1000 * l5_112)]) (st1 := [.int v122, .int (1000 * l5_112)]) (k1 := 0) (k2 := 0) hx hb hml hown htg hN hK (c_X2_area l dC dI cy (fun j => x (6 + j)) D_112  v122 e122) (g_S gw366 gw367 gw72 gw368) hdS_X2_area rfl ⟨⟨Nat.le_of_ble_eq_true rfl, Nat.le_of_ble_eq_true rfl⟩, Nat.le_of_ble_eq_true rfl, Nat.le_of_ble_eq_true rfl⟩ hP hD hS hA [6, 7, 8, 9, 10] [0, 1, 2, 3, 4, 5] rfl rfl rfl (by decide) (by decide) hl.1 rfl (Nat.le_of_ble_eq_true rfl) rfl rfl rfl dX8_simulate_122 (fun H locs hP hD hS => ?_)
          obtain ⟨hP, hD⟩ := x_perm (ws' := wSPo x ++ wFig (fun j => x (1 + j)) cy F ++ wFig (fun j => x (6 + j)) cy D_112) hP hD [0, 1, 2, 3, 4, 5, 6, 7, 8, 9, 10] (by decide) rfl rfl
          refine lv_iadd hx hb dX8_simulate_125 ?_
          obtain rfl := Option.some.inj h
          exact hE H locs 0 0 126 ls _ hP hD hS (by decide) (by decide) rfl ⟨_, rfl, rfl⟩ dX8_simulate_126
        refine lv_icmp_ge (tgt := 112) hx hb dX8_simulate_54 (by decide) (fun c54 => ?_) (fun c54 => ?_)
        · replace h := if_t h c54
          exact hj112 D_51 l5_51 H locs ls h hP hD hS (lv_sub hl [2, 4] rfl)
        replace h := if_f h c54
        refine lv_iload hx hb dX8_simulate_57 (lv_at hl 3 rfl) ?_
        refine lv_if_le (tgt := 112) hx hb dX8_simulate_59 (by decide) (fun c59 => ?_) (fun c59 => ?_)
        · replace h := if_t h c59
          exact hj112 D_51 l5_51 H locs ls h hP hD hS (lv_sub hl [2, 4] rfl)
        replace h := if_f h c59
        refine lv_lload hx hb dX8_simulate_62 (lv_at hl 1 rfl) ?_
        refine lv_ldc2 (v := 6364136223846793005) hx hb hown (htg _ gw819) dX8_simulate_64 ?_
        refine lv_lmul hx hb dX8_simulate_67 ?_
        refine lv_ldc2 (v := 1442695040888963407) hx hb hown (htg _ gw820) dX8_simulate_68 ?_
        refine lv_ladd hx hb dX8_simulate_71 ?_
        refine lv_lstore (lv' := [(6, .long ((l6_51 * 6364136223846793005) + 1442695040888963407)), (8, .int l8_51), (5, .int l5_51), (4, .int l4_51), (0, .ref (x 0)), (3, .int l3_51)]) hx hb dX8_simulate_72 hl (by decide) rfl (fun ls hl => ?_)
        refine lv_lload hx hb dX8_simulate_74 (lv_at hl 0 rfl) ?_
        refine lv_bipush (v := 33) hx hb dX8_simulate_76 (by decide) ?_
        refine lv_lushr hx hb dX8_simulate_78 rfl ?_
        refine lv_l2i hx hb dX8_simulate_79 rfl ?_
        refine lv_istore (lv' := [(9, .int (((((l6_51 * 6364136223846793005) + 1442695040888963407).toUInt64 >>> ((33 : Int32).toInt64.toUInt64 &&& Int64.toUInt64 63)).toInt64).toInt32)), (6, .long ((l6_51 * 6364136223846793005) + 1442695040888963407)), (8, .int l8_51), (5, .int l5_51), (4, .int l4_51), (0, .ref (x 0)), (3, .int l3_51)]) hx hb dX8_simulate_80 hl (by decide) rfl (fun ls hl => ?_)
        refine lv_aload_n hx hb dX8_simulate_82 rfl (lv_at hl 5 rfl) ?_
        refine va_get (D := (dC, dI)) (ci := 3) (v := .ref (x 6)) (C := RX8) (T := TX8) (N := 7) hx hb htg inX8 hown hK hP 0 rfl rfl 1 (by decide) (htg _ gw193) (fun _ h9 => h9) rfl dX8_simulate_83 ?_
        refine lv_iload hx hb dX8_simulate_86 (lv_at hl 0 rfl) ?_
        refine lv_iconst (v := 4) hx hb dX8_simulate_88 (by decide) ?_
        refine lv_idiv hx hb dX8_simulate_89 (by decide) ?_
        refine lv_iload hx hb dX8_simulate_90 (lv_at hl 4 rfl) ?_
        obtain ⟨v92, e92, h⟩ := bnd h
        refine x_irem hx hb e92 dX8_simulate_92 ?_
        refine lv_iload hx hb dX8_simulate_93 (lv_at hl 0 rfl) ?_
        refine lv_iconst (v := 4) hx hb dX8_simulate_95 (by decide) ?_
        refine lv_irem hx hb dX8_simulate_96 (by decide) ?_
        obtain ⟨v97, e97, h⟩ := bnd h
        refine cS (av := [.ref (x 6), .int v92, .int ((((((l6_51 * 6364136223846793005) + 1442695040888963407).toUInt64 >>> ((33 : Int32).toInt64.toUInt64 &&& Int64.toUInt64 63)).toInt64).toInt32) - (((((l6_51 * 6364136223846793005) + 1442695040888963407).toUInt64 >>> ((33 : Int32).toInt64.toUInt64 &&& Int64.toUInt64 63)).toInt64).toInt32) / 4 * 4)]) (rest := []) (st1 := [.int v97.1]) (k1 := 0) (k2 := 0) hx hb hml hown htg hN hK (c_X0_nudged l dC dI cy (fun j => x (6 + j)) D_51 v92 ((((((l6_51 * 6364136223846793005) + 1442695040888963407).toUInt64 >>> ((33 : Int32).toInt64.toUInt64 &&& Int64.toUInt64 63)).toInt64).toInt32) - (((((l6_51 * 6364136223846793005) + 1442695040888963407).toUInt64 >>> ((33 : Int32).toInt64.toUInt64 &&& Int64.toUInt64 63)).toInt64).toInt32) / 4 * 4) v97 e97) (g_S gw351 gw352 gw75 gw353) hdS_X0_nudged rfl ⟨⟨Nat.le_of_ble_eq_true rfl, Nat.le_of_ble_eq_true rfl⟩, Nat.le_of_ble_eq_true rfl, Nat.le_of_ble_eq_true rfl⟩ hP hD hS hA [6, 7, 8, 9, 10] [0, 1, 2, 3, 4, 5] rfl rfl rfl (by decide) (by decide) hl.1 rfl (Nat.le_of_ble_eq_true rfl) rfl rfl rfl dX8_simulate_97 (fun H locs hP hD hS => ?_)
        obtain ⟨hP, hD⟩ := x_perm (ws' := wSPo x ++ wFig (fun j => x (1 + j)) cy F ++ wFig (fun j => x (6 + j)) cy v97.2) hP hD [0, 1, 2, 3, 4, 5, 6, 7, 8, 9, 10] (by decide) rfl rfl
        have hj106 : ∀ (D_106 : Fig) (l6_106 : Int64) (l8_106 : Int32) (l5_106 : Int32) (l4_106 : Int32) (l3_106 : Int32) (H : Heap) (locs : List Loc) (ls : Array Slot), G_X8_simulate_j106 (G_X8_simulate_L51 F n51) F D_106 l6_106 l8_106 l5_106 l4_106 l3_106 = some res → va_P (dC, dI) vwCl (wSPo x ++ wFig (fun j => x (1 + j)) cy F ++ wFig (fun j => x (6 + j)) cy D_106) H → va_D A (wSPo x ++ wFig (fun j => x (1 + j)) cy F ++ wFig (fun j => x (6 + j)) cy D_106) → va_S A s.heap H locs → lv_has ls 10 [(6, .long l6_106), (8, .int l8_106), (5, .int l5_106), (4, .int l4_106), (0, .ref (x 0)), (3, .int l3_106)] → W p l e rm_X8_simulate s mm args below meth cd H locs 0 0 Q (F0 mm 106 ls []) := by
          intro D_106 l6_106 l8_106 l5_106 l4_106 l3_106 H locs ls h hP hD hS hl
          unfold G_X8_simulate_j106 at h
          refine lv_iinc (v := l8_106 + 1) (lv' := [(8, .int (l8_106 + 1)), (6, .long l6_106), (5, .int l5_106), (4, .int l4_106), (0, .ref (x 0)), (3, .int l3_106)]) hx hb dX8_simulate_106 hl (k := 1) rfl rfl (by decide) rfl (fun ls hl => ?_)
          refine lv_goto (tgt := 51) hx hb dX8_simulate_109 (by decide) ?_
          exact ih51 D_106 (l8_106 + 1) l6_106 l5_106 l4_106 l3_106 H locs ls h hP hD hS (lv_sub hl [0, 1, 2, 3, 4, 5] rfl)
        refine lv_if_eq (tgt := 106) hx hb dX8_simulate_100 (by decide) (fun c100 => ?_) (fun c100 => ?_)
        · replace h := if_t h c100
          exact hj106 v97.2 ((l6_51 * 6364136223846793005) + 1442695040888963407) l8_51 l5_51 l4_51 l3_51 H locs ls h hP hD hS (lv_sub hl [1, 2, 3, 4, 5, 6] rfl)
        replace h := if_f h c100
        refine lv_iinc (v := l5_51 + 1) (lv' := [(5, .int (l5_51 + 1)), (9, .int (((((l6_51 * 6364136223846793005) + 1442695040888963407).toUInt64 >>> ((33 : Int32).toInt64.toUInt64 &&& Int64.toUInt64 63)).toInt64).toInt32)), (6, .long ((l6_51 * 6364136223846793005) + 1442695040888963407)), (8, .int l8_51), (4, .int l4_51), (0, .ref (x 0)), (3, .int l3_51)]) hx hb dX8_simulate_103 hl (k := 3) rfl rfl (by decide) rfl (fun ls hl => ?_)
        exact hj106 v97.2 ((l6_51 * 6364136223846793005) + 1442695040888963407) l8_51 (l5_51 + 1) l4_51 l3_51 H locs ls h hP hD hS (lv_sub hl [2, 3, 0, 4, 5, 6] rfl)
    exact hL51 FU v29 0 p1 0 v37 p3 H locs ls h hP hD hS (lv_sub hl [0, 1, 2, 3, 4, 6] rfl)
  replace h := if_t h c7
  obtain rfl := Option.some.inj h
  exact hT H locs 0 0 10 ls 56 280 60 2 "m is not 1 to 60" hP hD hS (by decide) (by decide) (by decide) (by decide) rfl rfl hl.1 (by decide +kernel) gw434 gw67 exat_2 exgo_2 (by decide +kernel) dX8_simulate_10 dX8_simulate_13 (Or.inr ⟨dX8_simulate_14, dX8_simulate_17, dX8_simulate_20⟩)
def G_X8_turn (F : Fig) (D : Fig) (P : PastS) : Option (Int32 × Fig × Fig × PastS) :=
  (G_X1_copyFrom D F).bind fun v8 =>
  (G_X1_turnQuarter v8).bind fun v15 =>
  (G_X8_keepDraft F v15 P).bind fun v19 =>
  (G_X2_greatestX v19.1).bind fun v26 =>
  some (v26, v19.1, v15, v19.2)
abbrev rm_X8_turn : Room := { frames := 4, cells := 0, slots := 0, locals := 102 }
theorem hdS_X8_turn : yX8_turn.cls ≠ "java/lang/invoke/MethodHandle" ∧ yX8_turn.cls ≠ "java/lang/invoke/VarHandle" ∧ (parseMethodDescriptor yX8_turn.desc).map (fun d => d.parameters.length) = some 0 := by decide +kernel
theorem hdV_X8_turn : yX8_turn.cls = RX8 ∧ yX8_turn.cls ≠ "java/lang/invoke/MethodHandle" ∧ yX8_turn.cls ≠ "java/lang/invoke/VarHandle" ∧ (parseMethodDescriptor yX8_turn.desc).map (fun d => d.parameters.length) = some 0 := ⟨rfl, hdS_X8_turn⟩
set_option maxHeartbeats 4000000 in
set_option maxRecDepth 100000 in
theorem c_X8_turn (l : Launch) (dC : Nat → ClassId) (dI : Nat → Nat → Nat) (cy : Nat → ClassId) (x : Nat → Nat) (F : Fig) (D : Fig) (P : PastS) (res : Int32 × Fig × Fig × PastS) (h : G_X8_turn F D P = some res) : CT l (dC, dI) (TY cy) yX8_turn cX8_turn 1 (some .int) rm_X8_turn [.ref (x 0)] (wSPo x ++ wFig (fun j => x (1 + j)) cy F ++ wFig (fun j => x (6 + j)) cy D ++ wP2 (fun j => x (11 + j)) cy P ++ wPF (fun j => x (11 + j)) cy (p_figs P)) (wSPo x ++ wFig (fun j => x (1 + j)) cy res.2.1 ++ wFig (fun j => x (6 + j)) cy res.2.2.1 ++ wP2 (fun j => x (11 + j)) cy res.2.2.2 ++ wPF (fun j => x (11 + j)) cy (p_figs res.2.2.2)) (some (.int res.1)) := by
  refine CT.mk_i (own := RX8) ⟨by decide, rfl⟩ (Nat.le_of_ble_eq_true rfl) ?_
  intro p e s mm args below meth cd A Q hx hb hml hown htg hN hK hA hP hD hS hE ls hl
  have hl : lv_has ls 1 [(0, .ref (x 0))] := hl
  replace h : _ = some res := h
  unfold G_X8_turn at h
  obtain ⟨H, hH⟩ : ∃ H, H = s.heap := ⟨_, rfl⟩
  obtain ⟨locs, hlocs⟩ : ∃ locs : List Loc, locs = [] := ⟨_, rfl⟩
  rw [← hlocs] at hS ⊢
  have hS : va_S A s.heap H locs := by rw [hH]; exact hS
  rw [← hH] at hP ⊢
  refine lv_aload_n hx hb dX8_turn_0 rfl (lv_at hl 0 rfl) ?_
  refine va_get (D := (dC, dI)) (ci := 3) (v := .ref (x 6)) (C := RX8) (T := TX8) (N := 7) hx hb htg inX8 hown hK hP 0 rfl rfl 1 (by decide) (htg _ gw193) (fun _ h9 => h9) rfl dX8_turn_1 ?_
  refine lv_aload_n hx hb dX8_turn_4 rfl (lv_at hl 0 rfl) ?_
  refine va_get (D := (dC, dI)) (ci := 3) (v := .ref (x 1)) (C := RX8) (T := TX8) (N := 7) hx hb htg inX8 hown hK hP 0 rfl rfl 0 (by decide) (htg _ gw192) (fun _ h9 => h9) rfl dX8_turn_5 ?_
  obtain ⟨v8, e8, h⟩ := bnd h
  refine cVp (av := [.ref (x 1)]) (rest := []) (st1 := []) (k1 := 0) (k2 := 0) (wn := wSPo x ++ wFig (fun j => x (1 + j)) cy F ++ wFig (fun j => x (6 + j)) cy v8 ++ wP2 (fun j => x (11 + j)) cy P ++ wPF (fun j => x (11 + j)) cy (p_figs P)) (ci := 0) (q0 := 0) hx hb hml hown htg hN hK (c_X1_copyFrom l dC dI cy (fun j => x (6 + j)) (fun j => x (1 + j)) D F  v8 e8) (g_V gw313 gw314 gw315 gw60 gw316) hdV_X1_copyFrom rfl ⟨⟨Nat.le_of_ble_eq_true rfl, Nat.le_of_ble_eq_true rfl⟩, Nat.le_of_ble_eq_true rfl, Nat.le_of_ble_eq_true rfl⟩ hP hD hS hA ⟨rfl, rfl⟩ rfl (perm_N (perm_ix 13 [6, 7, 8, 9, 10, 1, 2, 3, 4, 5] [0, 11, 12] rfl rfl rfl (by decide))) (perm_Nb (perm_ix 13 [0, 11, 12] [6, 7, 8, 9, 10, 1, 2, 3, 4, 5] rfl rfl rfl (by decide))) hl.1 rfl (Nat.le_of_ble_eq_true rfl) rfl rfl rfl dX8_turn_8 (fun H locs hP hD hS => ?_)
  refine lv_aload_n hx hb dX8_turn_11 rfl (lv_at hl 0 rfl) ?_
  refine va_get (D := (dC, dI)) (ci := 3) (v := .ref (x 6)) (C := RX8) (T := TX8) (N := 7) hx hb htg inX8 hown hK hP 0 rfl rfl 1 (by decide) (htg _ gw193) (fun _ h9 => h9) rfl dX8_turn_12 ?_
  obtain ⟨v15, e15, h⟩ := bnd h
  refine cVp (av := []) (rest := []) (st1 := []) (k1 := 0) (k2 := 0) (wn := wSPo x ++ wFig (fun j => x (1 + j)) cy F ++ wFig (fun j => x (6 + j)) cy v15 ++ wP2 (fun j => x (11 + j)) cy P ++ wPF (fun j => x (11 + j)) cy (p_figs P)) (ci := 0) (q0 := 0) hx hb hml hown htg hN hK (c_X1_turnQuarter l dC dI cy (fun j => x (6 + j)) v8  v15 e15) (g_V gw320 gw321 gw322 gw60 gw323) hdV_X1_turnQuarter rfl ⟨⟨Nat.le_of_ble_eq_true rfl, Nat.le_of_ble_eq_true rfl⟩, Nat.le_of_ble_eq_true rfl, Nat.le_of_ble_eq_true rfl⟩ hP hD hS hA ⟨rfl, rfl⟩ rfl (perm_N (perm_ix 13 [6, 7, 8, 9, 10] [0, 1, 2, 3, 4, 5, 11, 12] rfl rfl rfl (by decide))) (perm_Nb (perm_ix 13 [0, 1, 2, 3, 4, 5, 11, 12] [6, 7, 8, 9, 10] rfl rfl rfl (by decide))) hl.1 rfl (Nat.le_of_ble_eq_true rfl) rfl rfl rfl dX8_turn_15 (fun H locs hP hD hS => ?_)
  refine lv_aload_n hx hb dX8_turn_18 rfl (lv_at hl 0 rfl) ?_
  obtain ⟨v19, e19, h⟩ := bnd h
  refine cVp (av := []) (rest := []) (st1 := []) (k1 := 0) (k2 := 0) (wn := wSPo x ++ wFig (fun j => x (1 + j)) cy v19.1 ++ wFig (fun j => x (6 + j)) cy v15 ++ wP2 (fun j => x (11 + j)) cy v19.2 ++ wPF (fun j => x (11 + j)) cy (p_figs v19.2)) (ci := 3) (q0 := 0) hx hb hml hown htg hN hK (c_X8_keepDraft l dC dI cy x F v15 P  v19 e19) (g_V gw324 gw326 gw2 gw59 gw327) hdV_X8_keepDraft rfl ⟨⟨Nat.le_of_ble_eq_true rfl, Nat.le_of_ble_eq_true rfl⟩, Nat.le_of_ble_eq_true rfl, Nat.le_of_ble_eq_true rfl⟩ hP hD hS hA ⟨rfl, rfl⟩ rfl (perm_T (perm_ix 13 [0, 1, 2, 3, 4, 5, 6, 7, 8, 9, 10, 11, 12] [] rfl rfl rfl (by decide))) (perm_Tb (perm_ix 13 [] [0, 1, 2, 3, 4, 5, 6, 7, 8, 9, 10, 11, 12] rfl rfl rfl (by decide))) hl.1 rfl (Nat.le_of_ble_eq_true rfl) rfl rfl rfl dX8_turn_19 (fun H locs hP hD hS => ?_)
  refine lv_aload_n hx hb dX8_turn_22 rfl (lv_at hl 0 rfl) ?_
  refine va_get (D := (dC, dI)) (ci := 3) (v := .ref (x 1)) (C := RX8) (T := TX8) (N := 7) hx hb htg inX8 hown hK hP 0 rfl rfl 0 (by decide) (htg _ gw192) (fun _ h9 => h9) rfl dX8_turn_23 ?_
  obtain ⟨v26, e26, h⟩ := bnd h
  refine cSp (av := [.ref (x 1)]) (rest := []) (st1 := [.int v26]) (k1 := 0) (k2 := 0) (wn := wSPo x ++ wFig (fun j => x (1 + j)) cy v19.1 ++ wFig (fun j => x (6 + j)) cy v15 ++ wP2 (fun j => x (11 + j)) cy v19.2 ++ wPF (fun j => x (11 + j)) cy (p_figs v19.2)) hx hb hml hown htg hN hK (c_X2_greatestX l dC dI cy (fun j => x (1 + j)) v19.1  v26 e26) (g_S gw333 gw334 gw72 gw335) hdS_X2_greatestX rfl ⟨⟨Nat.le_of_ble_eq_true rfl, Nat.le_of_ble_eq_true rfl⟩, Nat.le_of_ble_eq_true rfl, Nat.le_of_ble_eq_true rfl⟩ hP hD hS hA (perm_N (perm_ix 13 [1, 2, 3, 4, 5] [0, 6, 7, 8, 9, 10, 11, 12] rfl rfl rfl (by decide))) (perm_Nb (perm_ix 13 [0, 6, 7, 8, 9, 10, 11, 12] [1, 2, 3, 4, 5] rfl rfl rfl (by decide))) hl.1 rfl (Nat.le_of_ble_eq_true rfl) rfl rfl rfl dX8_turn_26 (fun H locs hP hD hS => ?_)
  obtain rfl := Option.some.inj h
  exact hE H locs 29 ls _ hP hD hS rfl dX8_turn_29
def G_X8_undo (F : Fig) (P : PastS) : Option ((Sum Nat Int32) × Fig × PastS) :=
  if p_count P = 0 then
    some (.inl 3, F, P)
  else
    (G_X3_takeBackInto P F).bind fun v28 =>
    some (.inr (p_count v28.1), v28.2, v28.1)
abbrev rm_X8_undo : Room := { frames := 6, cells := 1, slots := 6, locals := 82 }
theorem hdS_X8_undo : yX8_undo.cls ≠ "java/lang/invoke/MethodHandle" ∧ yX8_undo.cls ≠ "java/lang/invoke/VarHandle" ∧ (parseMethodDescriptor yX8_undo.desc).map (fun d => d.parameters.length) = some 0 := by decide +kernel
theorem hdV_X8_undo : yX8_undo.cls = RX8 ∧ yX8_undo.cls ≠ "java/lang/invoke/MethodHandle" ∧ yX8_undo.cls ≠ "java/lang/invoke/VarHandle" ∧ (parseMethodDescriptor yX8_undo.desc).map (fun d => d.parameters.length) = some 0 := ⟨rfl, hdS_X8_undo⟩
set_option maxHeartbeats 4000000 in
set_option maxRecDepth 100000 in
theorem c_X8_undo (l : Launch) (dC : Nat → ClassId) (dI : Nat → Nat → Nat) (cy : Nat → ClassId) (hlt : l.stackTraces = false) (x : Nat → Nat) (F : Fig) (P : PastS) (res : (Sum Nat Int32) × Fig × PastS) (h : G_X8_undo F P = some res) : CTX l (dC, dI) (TY cy) yX8_undo cX8_undo 1 (some .int) rm_X8_undo [.ref (x 0)] (wSPo x ++ wFig (fun j => x (1 + j)) cy F ++ wP2 (fun j => x (11 + j)) cy P ++ wPF (fun j => x (11 + j)) cy (p_figs P)) (wSPo x ++ wFig (fun j => x (1 + j)) cy res.2.1 ++ wP2 (fun j => x (11 + j)) cy res.2.2 ++ wPF (fun j => x (11 + j)) cy (p_figs res.2.2)) (oI res.1) := by
  refine CTX.mk (own := RX8) hlt ⟨by decide, rfl⟩ (Nat.le_of_ble_eq_true rfl) ?_
  intro p e s mm args below meth cd A Q hx hb hml hown htg hN hK hX0 hA hP hD hS hE hV hT hO ls hl
  have hl : lv_has ls 1 [(0, .ref (x 0))] := hl
  replace h : _ = some res := h
  unfold G_X8_undo at h
  obtain ⟨H, hH⟩ : ∃ H, H = s.heap := ⟨_, rfl⟩
  obtain ⟨locs, hlocs⟩ : ∃ locs : List Loc, locs = [] := ⟨_, rfl⟩
  rw [← hlocs] at hS ⊢
  have hS : va_S A s.heap H locs := by rw [hH]; exact hS
  rw [← hH] at hP ⊢
  refine lv_aload_n hx hb dX8_undo_0 rfl (lv_at hl 0 rfl) ?_
  refine va_get (D := (dC, dI)) (ci := 3) (v := .ref (x 11)) (C := RX8) (T := TX8) (N := 7) hx hb htg inX8 hown hK hP 0 rfl rfl 2 (by decide) (htg _ gw194) (fun _ h9 => h9) rfl dX8_undo_1 ?_
  refine va_getN (D := (dC, dI)) (ci := 1) (v := .int (p_count P)) (C := RX3) (T := TX3) (N := 3) hx hb htg inX3 hown hK hP 6 rfl rfl 2 (by decide) (va_Nw.use rfl (hN (.fieldLinkNest RX8 239 "SquaredPaper$Past" "count" "I" "SquaredPaper") (by decide +kernel))) (fun _ h9 => h9) rfl dX8_undo_4 ?_
  refine lv_if_ne (tgt := 20) hx hb dX8_undo_7 (by decide) (fun c7 => ?_) (fun c7 => ?_)
  · replace h := if_f h c7
    refine lv_aload_n hx hb dX8_undo_20 rfl (lv_at hl 0 rfl) ?_
    refine va_get (D := (dC, dI)) (ci := 3) (v := .ref (x 11)) (C := RX8) (T := TX8) (N := 7) hx hb htg inX8 hown hK hP 0 rfl rfl 2 (by decide) (htg _ gw194) (fun _ h9 => h9) rfl dX8_undo_21 ?_
    refine lv_aload_n hx hb dX8_undo_24 rfl (lv_at hl 0 rfl) ?_
    refine va_get (D := (dC, dI)) (ci := 3) (v := .ref (x 1)) (C := RX8) (T := TX8) (N := 7) hx hb htg inX8 hown hK hP 0 rfl rfl 0 (by decide) (htg _ gw192) (fun _ h9 => h9) rfl dX8_undo_25 ?_
    obtain ⟨v28, e28, h⟩ := bnd h
    refine cVp (av := [.ref (x 1)]) (rest := []) (st1 := []) (k1 := 0) (k2 := 0) (wn := wSPo x ++ wFig (fun j => x (1 + j)) cy v28.2 ++ wP2 (fun j => x (11 + j)) cy v28.1 ++ wPF (fun j => x (11 + j)) cy (p_figs v28.1)) (ci := 1) (q0 := 0) hx hb hml hown htg hN hK (c_X3_takeBackInto l dC dI cy (fun j => x (11 + j)) (fun j => x (1 + j)) P F  v28 e28) (g_V gw751 gw752 gw753 gw61 gw754) hdV_X3_takeBackInto rfl ⟨⟨Nat.le_of_ble_eq_true rfl, Nat.le_of_ble_eq_true rfl⟩, Nat.le_of_ble_eq_true rfl, Nat.le_of_ble_eq_true rfl⟩ hP hD hS hA ⟨rfl, rfl⟩ rfl (perm_T (perm_ix 8 [6, 7, 1, 2, 3, 4, 5] [0] rfl rfl rfl (by decide))) (perm_Tb (perm_ix 8 [0] [6, 7, 1, 2, 3, 4, 5] rfl rfl rfl (by decide))) hl.1 rfl (Nat.le_of_ble_eq_true rfl) rfl rfl rfl dX8_undo_28 (fun H locs hP hD hS => ?_)
    refine lv_aload_n hx hb dX8_undo_31 rfl (lv_at hl 0 rfl) ?_
    refine va_get (D := (dC, dI)) (ci := 3) (v := .ref (x 11)) (C := RX8) (T := TX8) (N := 7) hx hb htg inX8 hown hK hP 0 rfl rfl 2 (by decide) (htg _ gw194) (fun _ h9 => h9) rfl dX8_undo_32 ?_
    refine va_getN (D := (dC, dI)) (ci := 1) (v := .int (p_count v28.1)) (C := RX3) (T := TX3) (N := 3) hx hb htg inX3 hown hK hP 6 rfl rfl 2 (by decide) (va_Nw.use rfl (hN (.fieldLinkNest RX8 239 "SquaredPaper$Past" "count" "I" "SquaredPaper") (by decide +kernel))) (fun _ h9 => h9) rfl dX8_undo_35 ?_
    obtain rfl := Option.some.inj h
    exact hE H locs 0 0 38 ls _ hP hD hS (by decide) (by decide) rfl ⟨_, rfl, rfl⟩ dX8_undo_38
  replace h := if_t h c7
  obtain rfl := Option.some.inj h
  exact hT H locs 0 0 10 ls 67 242 71 3 "no state is remembered" hP hD hS (by decide) (by decide) (by decide) (by decide) rfl rfl hl.1 (by decide +kernel) gw502 gw68 exat_3 exgo_3 (by decide +kernel) dX8_undo_10 dX8_undo_13 (Or.inl ⟨dX8_undo_14, dX8_undo_16, dX8_undo_19⟩)
def G_X8_whyNot (F : Fig) (D : Fig) (p1 : Int32) (p2 : Int32) (p3 : Int32) (p4 : Int32) : Option ((Sum Nat Int32) × Fig) :=
  (G_X8_checkCorner F p1 p2).bind fun v3 =>
  match v3 with
  | .inl k3 => some (.inl k3, D)
  | .inr _ =>
    (G_X1_copyFrom D F).bind fun v14 =>
    (G_X1_at v14 p1 p2).bind fun v27 =>
    (G_X1_place v14 v27 p3 p4).bind fun v33 =>
    (G_X4_firstBroken v33).bind fun v40 =>
    some (.inr v40, v33)
abbrev rm_X8_whyNot : Room := { frames := 7, cells := 1, slots := 6, locals := 114 }
theorem hdS_X8_whyNot : yX8_whyNot.cls ≠ "java/lang/invoke/MethodHandle" ∧ yX8_whyNot.cls ≠ "java/lang/invoke/VarHandle" ∧ (parseMethodDescriptor yX8_whyNot.desc).map (fun d => d.parameters.length) = some 4 := by decide +kernel
theorem hdV_X8_whyNot : yX8_whyNot.cls = RX8 ∧ yX8_whyNot.cls ≠ "java/lang/invoke/MethodHandle" ∧ yX8_whyNot.cls ≠ "java/lang/invoke/VarHandle" ∧ (parseMethodDescriptor yX8_whyNot.desc).map (fun d => d.parameters.length) = some 4 := ⟨rfl, hdS_X8_whyNot⟩
set_option maxHeartbeats 4000000 in
set_option maxRecDepth 100000 in
theorem c_X8_whyNot (l : Launch) (dC : Nat → ClassId) (dI : Nat → Nat → Nat) (cy : Nat → ClassId) (hlt : l.stackTraces = false) (x : Nat → Nat) (F : Fig) (D : Fig) (p1 : Int32) (p2 : Int32) (p3 : Int32) (p4 : Int32) (res : (Sum Nat Int32) × Fig) (h : G_X8_whyNot F D p1 p2 p3 p4 = some res) : CTX l (dC, dI) (TY cy) yX8_whyNot cX8_whyNot 5 (some .int) rm_X8_whyNot [.ref (x 0), .int p1, .int p2, .int p3, .int p4] (wSPo x ++ wFig (fun j => x (1 + j)) cy F ++ wFig (fun j => x (6 + j)) cy D) (wSPo x ++ wFig (fun j => x (1 + j)) cy F ++ wFig (fun j => x (6 + j)) cy res.2) (oI res.1) := by
  refine CTX.mk (own := RX8) hlt ⟨by decide, rfl⟩ (Nat.le_of_ble_eq_true rfl) ?_
  intro p e s mm args below meth cd A Q hx hb hml hown htg hN hK hX0 hA hP hD hS hE hV hT hO ls hl
  have hl : lv_has ls 5 [(0, .ref (x 0)), (1, .int p1), (2, .int p2), (3, .int p3), (4, .int p4)] := hl
  replace h : _ = some res := h
  unfold G_X8_whyNot at h
  obtain ⟨H, hH⟩ : ∃ H, H = s.heap := ⟨_, rfl⟩
  obtain ⟨locs, hlocs⟩ : ∃ locs : List Loc, locs = [] := ⟨_, rfl⟩
  rw [← hlocs] at hS ⊢
  have hS : va_S A s.heap H locs := by rw [hH]; exact hS
  rw [← hH] at hP ⊢
  refine lv_aload_n hx hb dX8_whyNot_0 rfl (lv_at hl 0 rfl) ?_
  refine lv_iload_n hx hb dX8_whyNot_1 rfl (lv_at hl 1 rfl) ?_
  refine lv_iload_n hx hb dX8_whyNot_2 rfl (lv_at hl 2 rfl) ?_
  obtain ⟨v3, e3, h⟩ := bnd h
  rcases hv3 : v3 with k3 | u3
  · simp only [hv3] at h
    refine cXV (av := [.int p1, .int p2]) (rest := []) (k1 := 1) (k2 := 6) (ci := 3) (q0 := 0) hx hb hml hown htg hN hK hX0 (c_X8_checkCorner l dC dI cy hlt x F p1 p2 v3 e3) (g_V gw620 gw622 gw5 gw59 gw623) hdV_X8_checkCorner rfl ⟨⟨Nat.le_of_ble_eq_true rfl, Nat.le_of_ble_eq_true rfl⟩, Nat.le_of_ble_eq_true rfl, Nat.le_of_ble_eq_true rfl⟩ hP hD hS hA ⟨rfl, rfl⟩ rfl [0, 1, 2, 3, 4, 5] [6, 7, 8, 9, 10] rfl rfl rfl (by decide) (by decide) hl.1 rfl (Nat.le_of_ble_eq_true rfl) rfl rfl dX8_whyNot_3 (fun H locs ret ho hP hD hS => ?_) (fun H locs k q ce ho hP hD hS h1 h2 h3 => ?_)
    · rw [hv3] at ho; cases ho
    rw [hv3] at ho
    obtain rfl := Sum.inl.inj ho
    obtain ⟨hP, hD⟩ := x_perm (ws' := wSPo x ++ wFig (fun j => x (1 + j)) cy F ++ wFig (fun j => x (6 + j)) cy D) hP hD [5, 6, 7, 8, 9, 10, 0, 1, 2, 3, 4] (by decide) rfl rfl
    obtain rfl := Option.some.inj h
    exact hO H locs 1 6 3 ls _ _ q ce hP hD hS (by decide) (by decide) rfl h1 h2 h3
  simp only [hv3] at h
  refine cXV (av := [.int p1, .int p2]) (rest := []) (k1 := 1) (k2 := 6) (ci := 3) (q0 := 0) hx hb hml hown htg hN hK hX0 (c_X8_checkCorner l dC dI cy hlt x F p1 p2 v3 e3) (g_V gw620 gw622 gw5 gw59 gw623) hdV_X8_checkCorner rfl ⟨⟨Nat.le_of_ble_eq_true rfl, Nat.le_of_ble_eq_true rfl⟩, Nat.le_of_ble_eq_true rfl, Nat.le_of_ble_eq_true rfl⟩ hP hD hS hA ⟨rfl, rfl⟩ rfl [0, 1, 2, 3, 4, 5] [6, 7, 8, 9, 10] rfl rfl rfl (by decide) (by decide) hl.1 rfl (Nat.le_of_ble_eq_true rfl) rfl rfl dX8_whyNot_3 (fun H locs ret ho hP hD hS => ?_) (fun H locs k q ce ho hP hD hS h1 h2 h3 => ?_)
  rotate_left
  · rw [hv3] at ho; cases ho
  rw [hv3] at ho
  obtain rfl := Sum.inr.inj ho
  obtain ⟨hP, hD⟩ := x_perm (ws' := wSPo x ++ wFig (fun j => x (1 + j)) cy F ++ wFig (fun j => x (6 + j)) cy D) hP hD [5, 6, 7, 8, 9, 10, 0, 1, 2, 3, 4] (by decide) rfl rfl
  refine W.eq (g2 := F0 mm 6 ls []) rfl ?_
  refine lv_aload_n hx hb dX8_whyNot_6 rfl (lv_at hl 0 rfl) ?_
  refine va_get (D := (dC, dI)) (ci := 3) (v := .ref (x 6)) (C := RX8) (T := TX8) (N := 7) hx hb htg inX8 hown hK hP 0 rfl rfl 1 (by decide) (htg _ gw193) (fun _ h9 => h9) rfl dX8_whyNot_7 ?_
  refine lv_aload_n hx hb dX8_whyNot_10 rfl (lv_at hl 0 rfl) ?_
  refine va_get (D := (dC, dI)) (ci := 3) (v := .ref (x 1)) (C := RX8) (T := TX8) (N := 7) hx hb htg inX8 hown hK hP 0 rfl rfl 0 (by decide) (htg _ gw192) (fun _ h9 => h9) rfl dX8_whyNot_11 ?_
  obtain ⟨v14, e14, h⟩ := bnd h
  refine cV (av := [.ref (x 1)]) (rest := []) (st1 := []) (k1 := 1) (k2 := 6) (ci := 0) (q0 := 0) hx hb hml hown htg hN hK (c_X1_copyFrom l dC dI cy (fun j => x (6 + j)) (fun j => x (1 + j)) D F  v14 e14) (g_V gw313 gw314 gw315 gw60 gw316) hdV_X1_copyFrom rfl ⟨⟨Nat.le_of_ble_eq_true rfl, Nat.le_of_ble_eq_true rfl⟩, Nat.le_of_ble_eq_true rfl, Nat.le_of_ble_eq_true rfl⟩ hP hD hS hA ⟨rfl, rfl⟩ rfl [6, 7, 8, 9, 10, 1, 2, 3, 4, 5] [0] rfl rfl rfl (by decide) (by decide) hl.1 rfl (Nat.le_of_ble_eq_true rfl) rfl rfl rfl dX8_whyNot_14 (fun H locs hP hD hS => ?_)
  obtain ⟨hP, hD⟩ := x_perm (ws' := wSPo x ++ wFig (fun j => x (1 + j)) cy F ++ wFig (fun j => x (6 + j)) cy v14) hP hD [0, 6, 7, 8, 9, 10, 1, 2, 3, 4, 5] (by decide) rfl rfl
  refine lv_aload_n hx hb dX8_whyNot_17 rfl (lv_at hl 0 rfl) ?_
  refine va_get (D := (dC, dI)) (ci := 3) (v := .ref (x 6)) (C := RX8) (T := TX8) (N := 7) hx hb htg inX8 hown hK hP 0 rfl rfl 1 (by decide) (htg _ gw193) (fun _ h9 => h9) rfl dX8_whyNot_18 ?_
  refine lv_aload_n hx hb dX8_whyNot_21 rfl (lv_at hl 0 rfl) ?_
  refine va_get (D := (dC, dI)) (ci := 3) (v := .ref (x 6)) (C := RX8) (T := TX8) (N := 7) hx hb htg inX8 hown hK hP 0 rfl rfl 1 (by decide) (htg _ gw193) (fun _ h9 => h9) rfl dX8_whyNot_22 ?_
  refine lv_iload_n hx hb dX8_whyNot_25 rfl (lv_at hl 1 rfl) ?_
  refine lv_iload_n hx hb dX8_whyNot_26 rfl (lv_at hl 2 rfl) ?_
  obtain ⟨v27, e27, h⟩ := bnd h
  refine cV (av := [.int p1, .int p2]) (rest := [.ref (x 6)]) (st1 := [.int v27, .ref (x 6)]) (k1 := 1) (k2 := 6) (ci := 0) (q0 := 0) hx hb hml hown htg hN hK (c_X1_at l dC dI cy (fun j => x (6 + j)) v14 p1 p2 v27 e27) (g_V gw626 gw177 gw178 gw60 gw179) hdV_X1_at rfl ⟨⟨Nat.le_of_ble_eq_true rfl, Nat.le_of_ble_eq_true rfl⟩, Nat.le_of_ble_eq_true rfl, Nat.le_of_ble_eq_true rfl⟩ hP hD hS hA ⟨rfl, rfl⟩ rfl [6, 7, 8, 9, 10] [0, 1, 2, 3, 4, 5] rfl rfl rfl (by decide) (by decide) hl.1 rfl (Nat.le_of_ble_eq_true rfl) rfl rfl rfl dX8_whyNot_27 (fun H locs hP hD hS => ?_)
  obtain ⟨hP, hD⟩ := x_perm (ws' := wSPo x ++ wFig (fun j => x (1 + j)) cy F ++ wFig (fun j => x (6 + j)) cy v14) hP hD [0, 1, 2, 3, 4, 5, 6, 7, 8, 9, 10] (by decide) rfl rfl
  refine lv_iload_n hx hb dX8_whyNot_30 rfl (lv_at hl 3 rfl) ?_
  refine lv_iload hx hb dX8_whyNot_31 (lv_at hl 4 rfl) ?_
  obtain ⟨v33, e33, h⟩ := bnd h
  refine cV (av := [.int v27, .int p3, .int p4]) (rest := []) (st1 := []) (k1 := 1) (k2 := 6) (ci := 0) (q0 := 0) hx hb hml hown htg hN hK (c_X1_place l dC dI cy (fun j => x (6 + j)) v14 v27 p3 p4 v33 e33) (g_V gw762 gw185 gw186 gw60 gw187) hdV_X1_place rfl ⟨⟨Nat.le_of_ble_eq_true rfl, Nat.le_of_ble_eq_true rfl⟩, Nat.le_of_ble_eq_true rfl, Nat.le_of_ble_eq_true rfl⟩ hP hD hS hA ⟨rfl, rfl⟩ rfl [6, 7, 8, 9, 10] [0, 1, 2, 3, 4, 5] rfl rfl rfl (by decide) (by decide) hl.1 rfl (Nat.le_of_ble_eq_true rfl) rfl rfl rfl dX8_whyNot_33 (fun H locs hP hD hS => ?_)
  obtain ⟨hP, hD⟩ := x_perm (ws' := wSPo x ++ wFig (fun j => x (1 + j)) cy F ++ wFig (fun j => x (6 + j)) cy v33) hP hD [0, 1, 2, 3, 4, 5, 6, 7, 8, 9, 10] (by decide) rfl rfl
  refine lv_aload_n hx hb dX8_whyNot_36 rfl (lv_at hl 0 rfl) ?_
  refine va_get (D := (dC, dI)) (ci := 3) (v := .ref (x 6)) (C := RX8) (T := TX8) (N := 7) hx hb htg inX8 hown hK hP 0 rfl rfl 1 (by decide) (htg _ gw193) (fun _ h9 => h9) rfl dX8_whyNot_37 ?_
  obtain ⟨v40, e40, h⟩ := bnd h
  refine cS (av := [.ref (x 6)]) (rest := []) (st1 := [.int v40]) (k1 := 1) (k2 := 6) hx hb hml hown htg hN hK (c_X4_firstBroken l dC dI cy (fun j => x (6 + j)) v33  v40 e40) (g_S gw763 gw235 gw69 gw236) hdS_X4_firstBroken rfl ⟨⟨Nat.le_of_ble_eq_true rfl, Nat.le_of_ble_eq_true rfl⟩, Nat.le_of_ble_eq_true rfl, Nat.le_of_ble_eq_true rfl⟩ hP hD hS hA [6, 7, 8, 9, 10] [0, 1, 2, 3, 4, 5] rfl rfl rfl (by decide) (by decide) hl.1 rfl (Nat.le_of_ble_eq_true rfl) rfl rfl rfl dX8_whyNot_40 (fun H locs hP hD hS => ?_)
  obtain ⟨hP, hD⟩ := x_perm (ws' := wSPo x ++ wFig (fun j => x (1 + j)) cy F ++ wFig (fun j => x (6 + j)) cy v33) hP hD [0, 1, 2, 3, 4, 5, 6, 7, 8, 9, 10] (by decide) rfl rfl
  obtain rfl := Option.some.inj h
  exact hE H locs 1 6 43 ls _ hP hD hS (by decide) (by decide) rfl ⟨_, rfl, rfl⟩ dX8_whyNot_43
