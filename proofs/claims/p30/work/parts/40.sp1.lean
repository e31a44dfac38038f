def G_X3_remember (p_0 : PastS) (f1 : Fig) : Option (PastS) :=
  (rdx 14 (((p_oldest p_0) + (p_count p_0)) - ((p_oldest p_0) + (p_count p_0)) / 14 * 14)).bind fun k16 =>
  (G_X1_copyFrom (p_figs p_0 k16) f1).bind fun v18 =>
  if 14 ≤ p_count (ps_figs p_0 (updF (p_figs p_0) k16 v18)) then
    (some (ps_figs p_0 (updF (p_figs p_0) k16 v18))).bind fun z0_53 =>
    some (ps_oldest z0_53 (((p_oldest (ps_figs p_0 (updF (p_figs p_0) k16 v18))) + 1) - ((p_oldest (ps_figs p_0 (updF (p_figs p_0) k16 v18))) + 1) / 14 * 14))
  else
    (some (ps_figs p_0 (updF (p_figs p_0) k16 v18))).bind fun z0_37 =>
    some (ps_count z0_37 ((p_count (ps_figs p_0 (updF (p_figs p_0) k16 v18))) + 1))
abbrev rm_X3_remember : Room := { frames := 2, cells := 0, slots := 0, locals := 61 }
theorem hdS_X3_remember : yX3_remember.cls ≠ "java/lang/invoke/MethodHandle" ∧ yX3_remember.cls ≠ "java/lang/invoke/VarHandle" ∧ (parseMethodDescriptor yX3_remember.desc).map (fun d => d.parameters.length) = some 1 := by decide +kernel
theorem hdV_X3_remember : yX3_remember.cls = RX3 ∧ yX3_remember.cls ≠ "java/lang/invoke/MethodHandle" ∧ yX3_remember.cls ≠ "java/lang/invoke/VarHandle" ∧ (parseMethodDescriptor yX3_remember.desc).map (fun d => d.parameters.length) = some 1 := ⟨rfl, hdS_X3_remember⟩
set_option maxHeartbeats 4000000 in
set_option maxRecDepth 100000 in
theorem c_X3_remember (l : Launch) (dC : Nat → ClassId) (dI : Nat → Nat → Nat) (cy : Nat → ClassId) (a0 : Nat → Nat) (a1 : Nat → Nat) (p_0 : PastS) (f1 : Fig) (res : PastS) (h : G_X3_remember p_0 f1 = some res) : CT l (dC, dI) (TY cy) yX3_remember cX3_remember 2 none rm_X3_remember [.ref (a0 0), .ref (a1 0)] (wP2 a0 cy p_0 ++ wFig a1 cy f1 ++ wPF a0 cy (p_figs p_0)) (wP2 a0 cy res ++ wFig a1 cy f1 ++ wPF a0 cy (p_figs res)) none := by
  refine CT.mk_v (own := RX3) ⟨by decide, rfl⟩ (Nat.le_of_ble_eq_true rfl) ?_
  intro p e s mm args below meth cd A Q hx hb hml hown htg hN hK hA hP hD hS hE ls hl
  have hl : lv_has ls 2 [(0, .ref (a0 0)), (1, .ref (a1 0))] := hl
  replace h : _ = some res := h
  unfold G_X3_remember at h
  obtain ⟨H, hH⟩ : ∃ H, H = s.heap := ⟨_, rfl⟩
  obtain ⟨locs, hlocs⟩ : ∃ locs : List Loc, locs = [] := ⟨_, rfl⟩
  rw [← hlocs] at hS ⊢
  have hS : va_S A s.heap H locs := by rw [hH]; exact hS
  rw [← hH] at hP ⊢
  refine lv_aload_n hx hb dX3_remember_0 rfl (lv_at hl 0 rfl) ?_
  refine va_get (D := (dC, dI)) (ci := 1) (v := .ref (a0 1)) (C := RX3) (T := TX3) (N := 3) hx hb htg inX3 hown hK hP 0 rfl rfl 0 (by decide) (htg _ gw73) (fun _ h9 => h9) rfl dX3_remember_1 ?_
  refine lv_aload_n hx hb dX3_remember_4 rfl (lv_at hl 0 rfl) ?_
  refine va_get (D := (dC, dI)) (ci := 1) (v := .int (p_oldest p_0)) (C := RX3) (T := TX3) (N := 3) hx hb htg inX3 hown hK hP 0 rfl rfl 1 (by decide) (htg _ gw74) (fun _ h9 => h9) rfl dX3_remember_5 ?_
  refine lv_aload_n hx hb dX3_remember_8 rfl (lv_at hl 0 rfl) ?_
  refine va_get (D := (dC, dI)) (ci := 1) (v := .int (p_count p_0)) (C := RX3) (T := TX3) (N := 3) hx hb htg inX3 hown hK hP 0 rfl rfl 2 (by decide) (htg _ gw75) (fun _ h9 => h9) rfl dX3_remember_9 ?_
  refine lv_iadd hx hb dX3_remember_12 ?_
  refine lv_bipush (v := 14) hx hb dX3_remember_13 (by decide) ?_
  refine lv_irem hx hb dX3_remember_15 (by decide) ?_
  obtain ⟨k16, e16, h⟩ := bnd h
  have hk16 := (rdx_in e16).2.2
  refine x_aldq (C := "SquaredPaper$Figure") (v := .ref (a0 (2 + 5 * k16))) hx hb hK hP 1 3 rfl rfl e16 rfl dX3_remember_16 ?_
  refine lv_aload_n hx hb dX3_remember_17 rfl (lv_at hl 1 rfl) ?_
  obtain ⟨v18, e18, h⟩ := bnd h
  refine cVp (av := [.ref (a1 0)]) (rest := []) (st1 := []) (k1 := 0) (k2 := 0) (wn := wP2 a0 cy (ps_figs p_0 (updF (p_figs p_0) k16 v18)) ++ wFig a1 cy f1 ++ wPF a0 cy (p_figs (ps_figs p_0 (updF (p_figs p_0) k16 v18)))) (ci := 0) (q0 := 0) hx hb hml hown htg hN hK (c_X1_copyFrom l dC dI cy (fun j => a0 (2 + 5 * k16 + j)) a1 (p_figs p_0 k16) f1  v18 e18) (g_V gw364 gw236 gw237 gw8 gw238) hdV_X1_copyFrom rfl ⟨⟨Nat.le_of_ble_eq_true rfl, Nat.le_of_ble_eq_true rfl⟩, Nat.le_of_ble_eq_true rfl, Nat.le_of_ble_eq_true rfl⟩ hP hD hS hA ⟨rfl, rfl⟩ rfl (perm_K1 hk16 (perm_ix 7 [2, 3, 4, 5, 6] [0, 1] rfl rfl rfl (by decide))) (perm_K1b (wf := _) hk16 (perm_ix 7 [2, 3, 4, 5, 6] [0, 1] rfl rfl rfl (by decide))) hl.1 rfl (Nat.le_of_ble_eq_true rfl) rfl rfl rfl dX3_remember_18 (fun H locs hP hD hS => ?_)
  refine lv_aload_n hx hb dX3_remember_21 rfl (lv_at hl 0 rfl) ?_
  refine va_get (D := (dC, dI)) (ci := 1) (v := .int (p_count (ps_figs p_0 (updF (p_figs p_0) k16 v18)))) (C := RX3) (T := TX3) (N := 3) hx hb htg inX3 hown hK hP 0 rfl rfl 2 (by decide) (htg _ gw75) (fun _ h9 => h9) rfl dX3_remember_22 ?_
  refine lv_bipush (v := 14) hx hb dX3_remember_25 (by decide) ?_
  refine lv_icmp_ge (tgt := 43) hx hb dX3_remember_27 (by decide) (fun c27 => ?_) (fun c27 => ?_)
  · replace h := if_t h c27
    refine lv_aload_n hx hb dX3_remember_43 rfl (lv_at hl 0 rfl) ?_
    refine lv_aload_n hx hb dX3_remember_44 rfl (lv_at hl 0 rfl) ?_
    refine va_get (D := (dC, dI)) (ci := 1) (v := .int (p_oldest (ps_figs p_0 (updF (p_figs p_0) k16 v18)))) (C := RX3) (T := TX3) (N := 3) hx hb htg inX3 hown hK hP 0 rfl rfl 1 (by decide) (htg _ gw74) (fun _ h9 => h9) rfl dX3_remember_45 ?_
    refine lv_iconst (v := 1) hx hb dX3_remember_48 (by decide) ?_
    refine lv_iadd hx hb dX3_remember_49 ?_
    refine lv_bipush (v := 14) hx hb dX3_remember_50 (by decide) ?_
    refine lv_irem hx hb dX3_remember_52 (by decide) ?_
    obtain ⟨z0_53, ez0_53, h⟩ := bnd h
    replace ez0_53 := Option.some.inj ez0_53
    rw [ez0_53] at hP hD
    refine va_put (D := (dC, dI)) (ci := 1) (v := .int (((p_oldest (ps_figs p_0 (updF (p_figs p_0) k16 v18))) + 1) - ((p_oldest (ps_figs p_0 (updF (p_figs p_0) k16 v18))) + 1) / 14 * 14)) (ty := .int) (C := RX3) (T := TX3) (N := 3) hx hb htg inX3 tyX3 tyX3_ok nmX3 hown hK hP hD hS 0 rfl rfl 1 (by decide) (htg _ gw74) (fun _ h9 => h9) rfl (by decide +kernel) rfl rfl (Nat.le_of_ble_eq_true rfl) dX3_remember_53 (fun H locs hP hD hS => ?_)
    have hP : va_P (dC, dI) vwCl (wP2 a0 cy (ps_oldest z0_53 (((p_oldest (ps_figs p_0 (updF (p_figs p_0) k16 v18))) + 1) - ((p_oldest (ps_figs p_0 (updF (p_figs p_0) k16 v18))) + 1) / 14 * 14)) ++ wFig a1 cy f1 ++ wPF a0 cy (p_figs (ps_oldest z0_53 (((p_oldest (ps_figs p_0 (updF (p_figs p_0) k16 v18))) + 1) - ((p_oldest (ps_figs p_0 (updF (p_figs p_0) k16 v18))) + 1) / 14 * 14)))) H := hP
    have hD : va_D A (wP2 a0 cy (ps_oldest z0_53 (((p_oldest (ps_figs p_0 (updF (p_figs p_0) k16 v18))) + 1) - ((p_oldest (ps_figs p_0 (updF (p_figs p_0) k16 v18))) + 1) / 14 * 14)) ++ wFig a1 cy f1 ++ wPF a0 cy (p_figs (ps_oldest z0_53 (((p_oldest (ps_figs p_0 (updF (p_figs p_0) k16 v18))) + 1) - ((p_oldest (ps_figs p_0 (updF (p_figs p_0) k16 v18))) + 1) / 14 * 14)))) := hD
    obtain rfl := Option.some.inj h
    exact hE H locs 56 ls hP hD hS dX3_remember_56
  replace h := if_f h c27
  refine lv_aload_n hx hb dX3_remember_30 rfl (lv_at hl 0 rfl) ?_
  refine lv_dup hx hb dX3_remember_31 rfl ?_
  refine va_get (D := (dC, dI)) (ci := 1) (v := .int (p_count (ps_figs p_0 (updF (p_figs p_0) k16 v18)))) (C := RX3) (T := TX3) (N := 3) hx hb htg inX3 hown hK hP 0 rfl rfl 2 (by decide) (htg _ gw75) (fun _ h9 => h9) rfl dX3_remember_32 ?_
  refine lv_iconst (v := 1) hx hb dX3_remember_35 (by decide) ?_
  refine lv_iadd hx hb dX3_remember_36 ?_
  obtain ⟨z0_37, ez0_37, h⟩ := bnd h
  replace ez0_37 := Option.some.inj ez0_37
  rw [ez0_37] at hP hD
  refine va_put (D := (dC, dI)) (ci := 1) (v := .int ((p_count (ps_figs p_0 (updF (p_figs p_0) k16 v18))) + 1)) (ty := .int) (C := RX3) (T := TX3) (N := 3) hx hb htg inX3 tyX3 tyX3_ok nmX3 hown hK hP hD hS 0 rfl rfl 2 (by decide) (htg _ gw75) (fun _ h9 => h9) rfl (by decide +kernel) rfl rfl (Nat.le_of_ble_eq_true rfl) dX3_remember_37 (fun H locs hP hD hS => ?_)
  have hP : va_P (dC, dI) vwCl (wP2 a0 cy (ps_count z0_37 ((p_count (ps_figs p_0 (updF (p_figs p_0) k16 v18))) + 1)) ++ wFig a1 cy f1 ++ wPF a0 cy (p_figs (ps_count z0_37 ((p_count (ps_figs p_0 (updF (p_figs p_0) k16 v18))) + 1)))) H := hP
  have hD : va_D A (wP2 a0 cy (ps_count z0_37 ((p_count (ps_figs p_0 (updF (p_figs p_0) k16 v18))) + 1)) ++ wFig a1 cy f1 ++ wPF a0 cy (p_figs (ps_count z0_37 ((p_count (ps_figs p_0 (updF (p_figs p_0) k16 v18))) + 1)))) := hD
  refine lv_goto (tgt := 56) hx hb dX3_remember_40 (by decide) ?_
  obtain rfl := Option.some.inj h
  exact hE H locs 56 ls hP hD hS dX3_remember_56
def G_X8_about (F : Fig) (p1 : Int32) : Option ((Sum Nat Int32)) :=
  if p1 = 0 then
    some (.inr (f_rings F))
  else
  if p1 = 1 then
    some (.inr (f_corners F))
  else
  if p1 = 2 then
    (G_X2_area F).bind fun v76 =>
    some (.inr v76)
  else
  if p1 = 3 then
    (G_X2_border F).bind fun v84 =>
    some (.inr v84)
  else
  if p1 = 4 then
    (G_X2_inside F).bind fun v92 =>
    some (.inr v92)
  else
  if p1 = 5 then
    (G_X2_outlineCorners F 1).bind fun v101 =>
    some (.inr v101)
  else
  if p1 = 6 then
    (G_X2_outlineCorners F (-1)).bind fun v110 =>
    some (.inr v110)
  else
  if p1 = 7 then
    (G_X6_ears F).bind fun v118 =>
    some (.inr v118)
  else
  if p1 = 8 then
    (G_X2_hull F).bind fun v126 =>
    some (.inr v126)
  else
  if p1 = 9 then
    (G_X6_pairs F).bind fun v134 =>
    some (.inr v134)
  else
  some (.inl 2)
abbrev rm_X8_about : Room := { frames := 6, cells := 1, slots := 6, locals := 144 }
theorem hdS_X8_about : yX8_about.cls ≠ "java/lang/invoke/MethodHandle" ∧ yX8_about.cls ≠ "java/lang/invoke/VarHandle" ∧ (parseMethodDescriptor yX8_about.desc).map (fun d => d.parameters.length) = some 1 := by decide +kernel
theorem hdV_X8_about : yX8_about.cls = RX8 ∧ yX8_about.cls ≠ "java/lang/invoke/MethodHandle" ∧ yX8_about.cls ≠ "java/lang/invoke/VarHandle" ∧ (parseMethodDescriptor yX8_about.desc).map (fun d => d.parameters.length) = some 1 := ⟨rfl, hdS_X8_about⟩
set_option maxHeartbeats 4000000 in
set_option maxRecDepth 100000 in
theorem c_X8_about (l : Launch) (dC : Nat → ClassId) (dI : Nat → Nat → Nat) (cy : Nat → ClassId) (hlt : l.stackTraces = false) (x : Nat → Nat) (F : Fig) (p1 : Int32) (res : (Sum Nat Int32)) (h : G_X8_about F p1 = some res) : CTX l (dC, dI) (TY cy) yX8_about cX8_about 2 (some .int) rm_X8_about [.ref (x 0), .int p1] (wSPo x ++ wFig (fun j => x (1 + j)) cy F) (wSPo x ++ wFig (fun j => x (1 + j)) cy F) (oI res) := by
  refine CTX.mk (own := RX8) hlt ⟨by decide, rfl⟩ (Nat.le_of_ble_eq_true rfl) ?_
  intro p e s mm args below meth cd A Q hx hb hml hown htg hN hK hX0 hA hP hD hS hE hV hT hO ls hl
  have hl : lv_has ls 2 [(0, .ref (x 0)), (1, .int p1)] := hl
  replace h : _ = some res := h
  unfold G_X8_about at h
  obtain ⟨H, hH⟩ : ∃ H, H = s.heap := ⟨_, rfl⟩
  obtain ⟨locs, hlocs⟩ : ∃ locs : List Loc, locs = [] := ⟨_, rfl⟩
  rw [← hlocs] at hS ⊢
  have hS : va_S A s.heap H locs := by rw [hH]; exact hS
  rw [← hH] at hP ⊢
  refine lv_iload_n hx hb dX8_about_0 rfl (lv_at hl 1 rfl) ?_
  by_cases c1_0 : p1 = 0
  · replace h := if_t h c1_0
    refine lv_tableIn (tgt := 56) (off := 55) hx hb dX8_about_1 (by rw [c1_0]; decide) (by rw [c1_0]; decide) (by rw [c1_0]; rfl) (by decide) ?_
    refine lv_aload_n hx hb dX8_about_56 rfl (lv_at hl 0 rfl) ?_
    refine va_get (D := (dC, dI)) (ci := 3) (v := .ref (x 1)) (C := RX8) (T := TX8) (N := 7) hx hb htg inX8 hown hK hP 0 rfl rfl 0 (by decide) (htg _ gw133) (fun _ h9 => h9) rfl dX8_about_57 ?_
    refine va_getN (D := (dC, dI)) (ci := 0) (v := .int (f_rings F)) (C := RX1) (T := TX1) (N := 6) hx hb htg inX1 hown hK hP 1 rfl rfl 0 (by decide) (va_Nw.use rfl (hN (.fieldLinkNest RX8 89 "SquaredPaper$Figure" "rings" "I" "SquaredPaper") (by decide +kernel))) (fun _ h9 => h9) rfl dX8_about_60 ?_
    obtain rfl := Option.some.inj h
    exact hE H locs 0 0 63 ls _ hP hD hS (by decide) (by decide) rfl ⟨_, rfl, rfl⟩ dX8_about_63
  replace h := if_f h c1_0
  by_cases c1_1 : p1 = 1
  · replace h := if_t h c1_1
    refine lv_tableIn (tgt := 64) (off := 63) hx hb dX8_about_1 (by rw [c1_1]; decide) (by rw [c1_1]; decide) (by rw [c1_1]; rfl) (by decide) ?_
    refine lv_aload_n hx hb dX8_about_64 rfl (lv_at hl 0 rfl) ?_
    refine va_get (D := (dC, dI)) (ci := 3) (v := .ref (x 1)) (C := RX8) (T := TX8) (N := 7) hx hb htg inX8 hown hK hP 0 rfl rfl 0 (by decide) (htg _ gw133) (fun _ h9 => h9) rfl dX8_about_65 ?_
    refine va_getN (D := (dC, dI)) (ci := 0) (v := .int (f_corners F)) (C := RX1) (T := TX1) (N := 6) hx hb htg inX1 hown hK hP 1 rfl rfl 1 (by decide) (va_Nw.use rfl (hN (.fieldLinkNest RX8 92 "SquaredPaper$Figure" "corners" "I" "SquaredPaper") (by decide +kernel))) (fun _ h9 => h9) rfl dX8_about_68 ?_
    obtain rfl := Option.some.inj h
    exact hE H locs 0 0 71 ls _ hP hD hS (by decide) (by decide) rfl ⟨_, rfl, rfl⟩ dX8_about_71
  replace h := if_f h c1_1
  by_cases c1_2 : p1 = 2
  · replace h := if_t h c1_2
    refine lv_tableIn (tgt := 72) (off := 71) hx hb dX8_about_1 (by rw [c1_2]; decide) (by rw [c1_2]; decide) (by rw [c1_2]; rfl) (by decide) ?_
    refine lv_aload_n hx hb dX8_about_72 rfl (lv_at hl 0 rfl) ?_
    refine va_get (D := (dC, dI)) (ci := 3) (v := .ref (x 1)) (C := RX8) (T := TX8) (N := 7) hx hb htg inX8 hown hK hP 0 rfl rfl 0 (by decide) (htg _ gw133) (fun _ h9 => h9) rfl dX8_about_73 ?_
    obtain ⟨v76, e76, h⟩ := bnd h
    refine cS (av := [.ref (x 1)]) (rest := []) (st1 := [.int v76]) (k1 := 0) (k2 := 0) hx hb hml hown htg hN hK (c_X2_area l dC dI cy (fun j => x (1 + j)) F  v76 e76) (g_S gw365 gw366 gw20 gw367) hdS_X2_area rfl ⟨⟨Nat.le_of_ble_eq_true rfl, Nat.le_of_ble_eq_true rfl⟩, Nat.le_of_ble_eq_true rfl, Nat.le_of_ble_eq_true rfl⟩ hP hD hS hA [1, 2, 3, 4, 5] [0] rfl rfl rfl (by decide) (by decide) hl.1 rfl (Nat.le_of_ble_eq_true rfl) rfl rfl rfl dX8_about_76 (fun H locs hP hD hS => ?_)
    obtain ⟨hP, hD⟩ := x_perm (ws' := wSPo x ++ wFig (fun j => x (1 + j)) cy F) hP hD [0, 1, 2, 3, 4, 5] (by decide) rfl rfl
    obtain rfl := Option.some.inj h
    exact hE H locs 0 0 79 ls _ hP hD hS (by decide) (by decide) rfl ⟨_, rfl, rfl⟩ dX8_about_79
  replace h := if_f h c1_2
  by_cases c1_3 : p1 = 3
  · replace h := if_t h c1_3
    refine lv_tableIn (tgt := 80) (off := 79) hx hb dX8_about_1 (by rw [c1_3]; decide) (by rw [c1_3]; decide) (by rw [c1_3]; rfl) (by decide) ?_
    refine lv_aload_n hx hb dX8_about_80 rfl (lv_at hl 0 rfl) ?_
    refine va_get (D := (dC, dI)) (ci := 3) (v := .ref (x 1)) (C := RX8) (T := TX8) (N := 7) hx hb htg inX8 hown hK hP 0 rfl rfl 0 (by decide) (htg _ gw133) (fun _ h9 => h9) rfl dX8_about_81 ?_
    obtain ⟨v84, e84, h⟩ := bnd h
    refine cS (av := [.ref (x 1)]) (rest := []) (st1 := [.int v84]) (k1 := 0) (k2 := 0) hx hb hml hown htg hN hK (c_X2_border l dC dI cy (fun j => x (1 + j)) F  v84 e84) (g_S gw570 gw571 gw20 gw572) hdS_X2_border rfl ⟨⟨Nat.le_of_ble_eq_true rfl, Nat.le_of_ble_eq_true rfl⟩, Nat.le_of_ble_eq_true rfl, Nat.le_of_ble_eq_true rfl⟩ hP hD hS hA [1, 2, 3, 4, 5] [0] rfl rfl rfl (by decide) (by decide) hl.1 rfl (Nat.le_of_ble_eq_true rfl) rfl rfl rfl dX8_about_84 (fun H locs hP hD hS => ?_)
    obtain ⟨hP, hD⟩ := x_perm (ws' := wSPo x ++ wFig (fun j => x (1 + j)) cy F) hP hD [0, 1, 2, 3, 4, 5] (by decide) rfl rfl
    obtain rfl := Option.some.inj h
    exact hE H locs 0 0 87 ls _ hP hD hS (by decide) (by decide) rfl ⟨_, rfl, rfl⟩ dX8_about_87
  replace h := if_f h c1_3
  by_cases c1_4 : p1 = 4
  · replace h := if_t h c1_4
    refine lv_tableIn (tgt := 88) (off := 87) hx hb dX8_about_1 (by rw [c1_4]; decide) (by rw [c1_4]; decide) (by rw [c1_4]; rfl) (by decide) ?_
    refine lv_aload_n hx hb dX8_about_88 rfl (lv_at hl 0 rfl) ?_
    refine va_get (D := (dC, dI)) (ci := 3) (v := .ref (x 1)) (C := RX8) (T := TX8) (N := 7) hx hb htg inX8 hown hK hP 0 rfl rfl 0 (by decide) (htg _ gw133) (fun _ h9 => h9) rfl dX8_about_89 ?_
    obtain ⟨v92, e92, h⟩ := bnd h
    refine cS (av := [.ref (x 1)]) (rest := []) (st1 := [.int v92]) (k1 := 0) (k2 := 0) hx hb hml hown htg hN hK (c_X2_inside l dC dI cy (fun j => x (1 + j)) F  v92 e92) (g_S gw577 gw578 gw20 gw579) hdS_X2_inside rfl ⟨⟨Nat.le_of_ble_eq_true rfl, Nat.le_of_ble_eq_true rfl⟩, Nat.le_of_ble_eq_true rfl, Nat.le_of_ble_eq_true rfl⟩ hP hD hS hA [1, 2, 3, 4, 5] [0] rfl rfl rfl (by decide) (by decide) hl.1 rfl (Nat.le_of_ble_eq_true rfl) rfl rfl rfl dX8_about_92 (fun H locs hP hD hS => ?_)
    obtain ⟨hP, hD⟩ := x_perm (ws' := wSPo x ++ wFig (fun j => x (1 + j)) cy F) hP hD [0, 1, 2, 3, 4, 5] (by decide) rfl rfl
    obtain rfl := Option.some.inj h
    exact hE H locs 0 0 95 ls _ hP hD hS (by decide) (by decide) rfl ⟨_, rfl, rfl⟩ dX8_about_95
  replace h := if_f h c1_4
  by_cases c1_5 : p1 = 5
  · replace h := if_t h c1_5
    refine lv_tableIn (tgt := 96) (off := 95) hx hb dX8_about_1 (by rw [c1_5]; decide) (by rw [c1_5]; decide) (by rw [c1_5]; rfl) (by decide) ?_
    refine lv_aload_n hx hb dX8_about_96 rfl (lv_at hl 0 rfl) ?_
    refine va_get (D := (dC, dI)) (ci := 3) (v := .ref (x 1)) (C := RX8) (T := TX8) (N := 7) hx hb htg inX8 hown hK hP 0 rfl rfl 0 (by decide) (htg _ gw133) (fun _ h9 => h9) rfl dX8_about_97 ?_
    refine lv_iconst (v := 1) hx hb dX8_about_100 (by decide) ?_
    obtain ⟨v101, e101, h⟩ := bnd h
    refine cS (av := [.ref (x 1), .int 1]) (rest := []) (st1 := [.int v101]) (k1 := 0) (k2 := 0) hx hb hml hown htg hN hK (c_X2_outlineCorners l dC dI cy (fun j => x (1 + j)) F 1 v101 e101) (g_S gw580 gw581 gw20 gw582) hdS_X2_outlineCorners rfl ⟨⟨Nat.le_of_ble_eq_true rfl, Nat.le_of_ble_eq_true rfl⟩, Nat.le_of_ble_eq_true rfl, Nat.le_of_ble_eq_true rfl⟩ hP hD hS hA [1, 2, 3, 4, 5] [0] rfl rfl rfl (by decide) (by decide) hl.1 rfl (Nat.le_of_ble_eq_true rfl) rfl rfl rfl dX8_about_101 (fun H locs hP hD hS => ?_)
    obtain ⟨hP, hD⟩ := x_perm (ws' := wSPo x ++ wFig (fun j => x (1 + j)) cy F) hP hD [0, 1, 2, 3, 4, 5] (by decide) rfl rfl
    obtain rfl := Option.some.inj h
    exact hE H locs 0 0 104 ls _ hP hD hS (by decide) (by decide) rfl ⟨_, rfl, rfl⟩ dX8_about_104
  replace h := if_f h c1_5
  by_cases c1_6 : p1 = 6
  · replace h := if_t h c1_6
    refine lv_tableIn (tgt := 105) (off := 104) hx hb dX8_about_1 (by rw [c1_6]; decide) (by rw [c1_6]; decide) (by rw [c1_6]; rfl) (by decide) ?_
    refine lv_aload_n hx hb dX8_about_105 rfl (lv_at hl 0 rfl) ?_
    refine va_get (D := (dC, dI)) (ci := 3) (v := .ref (x 1)) (C := RX8) (T := TX8) (N := 7) hx hb htg inX8 hown hK hP 0 rfl rfl 0 (by decide) (htg _ gw133) (fun _ h9 => h9) rfl dX8_about_106 ?_
    refine lv_iconst (v := (-1)) hx hb dX8_about_109 (by decide) ?_
    obtain ⟨v110, e110, h⟩ := bnd h
    refine cS (av := [.ref (x 1), .int (-1)]) (rest := []) (st1 := [.int v110]) (k1 := 0) (k2 := 0) hx hb hml hown htg hN hK (c_X2_outlineCorners l dC dI cy (fun j => x (1 + j)) F (-1) v110 e110) (g_S gw580 gw581 gw20 gw582) hdS_X2_outlineCorners rfl ⟨⟨Nat.le_of_ble_eq_true rfl, Nat.le_of_ble_eq_true rfl⟩, Nat.le_of_ble_eq_true rfl, Nat.le_of_ble_eq_true rfl⟩ hP hD hS hA [1, 2, 3, 4, 5] [0] rfl rfl rfl (by decide) (by decide) hl.1 rfl (Nat.le_of_ble_eq_true rfl) rfl rfl rfl dX8_about_110 (fun H locs hP hD hS => ?_)
    obtain ⟨hP, hD⟩ := x_perm (ws' := wSPo x ++ wFig (fun j => x (1 + j)) cy F) hP hD [0, 1, 2, 3, 4, 5] (by decide) rfl rfl
    obtain rfl := Option.some.inj h
    exact hE H locs 0 0 113 ls _ hP hD hS (by decide) (by decide) rfl ⟨_, rfl, rfl⟩ dX8_about_113
  replace h := if_f h c1_6
  by_cases c1_7 : p1 = 7
  · replace h := if_t h c1_7
    refine lv_tableIn (tgt := 114) (off := 113) hx hb dX8_about_1 (by rw [c1_7]; decide) (by rw [c1_7]; decide) (by rw [c1_7]; rfl) (by decide) ?_
    refine lv_aload_n hx hb dX8_about_114 rfl (lv_at hl 0 rfl) ?_
    refine va_get (D := (dC, dI)) (ci := 3) (v := .ref (x 1)) (C := RX8) (T := TX8) (N := 7) hx hb htg inX8 hown hK hP 0 rfl rfl 0 (by decide) (htg _ gw133) (fun _ h9 => h9) rfl dX8_about_115 ?_
    obtain ⟨v118, e118, h⟩ := bnd h
    refine cS (av := [.ref (x 1)]) (rest := []) (st1 := [.int v118]) (k1 := 0) (k2 := 0) hx hb hml hown htg hN hK (c_X6_ears l dC dI cy (fun j => x (1 + j)) F  v118 e118) (g_S gw584 gw585 gw22 gw586) hdS_X6_ears rfl ⟨⟨Nat.le_of_ble_eq_true rfl, Nat.le_of_ble_eq_true rfl⟩, Nat.le_of_ble_eq_true rfl, Nat.le_of_ble_eq_true rfl⟩ hP hD hS hA [1, 2, 3, 4, 5] [0] rfl rfl rfl (by decide) (by decide) hl.1 rfl (Nat.le_of_ble_eq_true rfl) rfl rfl rfl dX8_about_118 (fun H locs hP hD hS => ?_)
    obtain ⟨hP, hD⟩ := x_perm (ws' := wSPo x ++ wFig (fun j => x (1 + j)) cy F) hP hD [0, 1, 2, 3, 4, 5] (by decide) rfl rfl
    obtain rfl := Option.some.inj h
    exact hE H locs 0 0 121 ls _ hP hD hS (by decide) (by decide) rfl ⟨_, rfl, rfl⟩ dX8_about_121
  replace h := if_f h c1_7
  by_cases c1_8 : p1 = 8
  · replace h := if_t h c1_8
    refine lv_tableIn (tgt := 122) (off := 121) hx hb dX8_about_1 (by rw [c1_8]; decide) (by rw [c1_8]; decide) (by rw [c1_8]; rfl) (by decide) ?_
    refine lv_aload_n hx hb dX8_about_122 rfl (lv_at hl 0 rfl) ?_
    refine va_get (D := (dC, dI)) (ci := 3) (v := .ref (x 1)) (C := RX8) (T := TX8) (N := 7) hx hb htg inX8 hown hK hP 0 rfl rfl 0 (by decide) (htg _ gw133) (fun _ h9 => h9) rfl dX8_about_123 ?_
    obtain ⟨v126, e126, h⟩ := bnd h
    refine cS (av := [.ref (x 1)]) (rest := []) (st1 := [.int v126]) (k1 := 0) (k2 := 0) hx hb hml hown htg hN hK (c_X2_hull l dC dI cy (fun j => x (1 + j)) F  v126 e126) (g_S gw588 gw589 gw20 gw590) hdS_X2_hull rfl ⟨⟨Nat.le_of_ble_eq_true rfl, Nat.le_of_ble_eq_true rfl⟩, Nat.le_of_ble_eq_true rfl, Nat.le_of_ble_eq_true rfl⟩ hP hD hS hA [1, 2, 3, 4, 5] [0] rfl rfl rfl (by decide) (by decide) hl.1 rfl (Nat.le_of_ble_eq_true rfl) rfl rfl rfl dX8_about_126 (fun H locs hP hD hS => ?_)
    obtain ⟨hP, hD⟩ := x_perm (ws' := wSPo x ++ wFig (fun j => x (1 + j)) cy F) hP hD [0, 1, 2, 3, 4, 5] (by decide) rfl rfl
    obtain rfl := Option.some.inj h
    exact hE H locs 0 0 129 ls _ hP hD hS (by decide) (by decide) rfl ⟨_, rfl, rfl⟩ dX8_about_129
  replace h := if_f h c1_8
  by_cases c1_9 : p1 = 9
  · replace h := if_t h c1_9
    refine lv_tableIn (tgt := 130) (off := 129) hx hb dX8_about_1 (by rw [c1_9]; decide) (by rw [c1_9]; decide) (by rw [c1_9]; rfl) (by decide) ?_
    refine lv_aload_n hx hb dX8_about_130 rfl (lv_at hl 0 rfl) ?_
    refine va_get (D := (dC, dI)) (ci := 3) (v := .ref (x 1)) (C := RX8) (T := TX8) (N := 7) hx hb htg inX8 hown hK hP 0 rfl rfl 0 (by decide) (htg _ gw133) (fun _ h9 => h9) rfl dX8_about_131 ?_
    obtain ⟨v134, e134, h⟩ := bnd h
    refine cS (av := [.ref (x 1)]) (rest := []) (st1 := [.int v134]) (k1 := 0) (k2 := 0) hx hb hml hown htg hN hK (c_X6_pairs l dC dI cy (fun j => x (1 + j)) F  v134 e134) (g_S gw596 gw597 gw22 gw598) hdS_X6_pairs rfl ⟨⟨Nat.le_of_ble_eq_true rfl, Nat.le_of_ble_eq_true rfl⟩, Nat.le_of_ble_eq_true rfl, Nat.le_of_ble_eq_true rfl⟩ hP hD hS hA [1, 2, 3, 4, 5] [0] rfl rfl rfl (by decide) (by decide) hl.1 rfl (Nat.le_of_ble_eq_true rfl) rfl rfl rfl dX8_about_134 (fun H locs hP hD hS => ?_)
    obtain ⟨hP, hD⟩ := x_perm (ws' := wSPo x ++ wFig (fun j => x (1 + j)) cy F) hP hD [0, 1, 2, 3, 4, 5] (by decide) rfl rfl
    obtain rfl := Option.some.inj h
    exact hE H locs 0 0 137 ls _ hP hD hS (by decide) (by decide) rfl ⟨_, rfl, rfl⟩ dX8_about_137
  replace h := if_f h c1_9
  refine lv_tableOut (tgt := 138) hx hb dX8_about_1 (x_tout0_9 c1_0 c1_1 c1_2 c1_3 c1_4 c1_5 c1_6 c1_7 c1_8 c1_9) (by decide) ?_
  obtain rfl := Option.some.inj h
  exact hT H locs 0 0 138 ls 56 121 60 2 "what is not 0 to 9" hP hD hS (by decide) (by decide) (by decide) (by decide) rfl rfl hl.1 (by decide +kernel) gw427 gw21 exat_2 exgo_2 (by decide +kernel) dX8_about_138 dX8_about_141 (Or.inl ⟨dX8_about_142, dX8_about_144, dX8_about_147⟩)
def G_X8_keepDraft (F : Fig) (D : Fig) (P : PastS) : Option (Fig × PastS) :=
  (G_X3_remember P F).bind fun v8 =>
  (G_X1_copyFrom F D).bind fun v19 =>
  some (v19, v8)
abbrev rm_X8_keepDraft : Room := { frames := 3, cells := 0, slots := 0, locals := 82 }
theorem hdS_X8_keepDraft : yX8_keepDraft.cls ≠ "java/lang/invoke/MethodHandle" ∧ yX8_keepDraft.cls ≠ "java/lang/invoke/VarHandle" ∧ (parseMethodDescriptor yX8_keepDraft.desc).map (fun d => d.parameters.length) = some 0 := by decide +kernel
theorem hdV_X8_keepDraft : yX8_keepDraft.cls = RX8 ∧ yX8_keepDraft.cls ≠ "java/lang/invoke/MethodHandle" ∧ yX8_keepDraft.cls ≠ "java/lang/invoke/VarHandle" ∧ (parseMethodDescriptor yX8_keepDraft.desc).map (fun d => d.parameters.length) = some 0 := ⟨rfl, hdS_X8_keepDraft⟩
set_option maxHeartbeats 4000000 in
set_option maxRecDepth 100000 in
theorem c_X8_keepDraft (l : Launch) (dC : Nat → ClassId) (dI : Nat → Nat → Nat) (cy : Nat → ClassId) (x : Nat → Nat) (F : Fig) (D : Fig) (P : PastS) (res : Fig × PastS) (h : G_X8_keepDraft F D P = some res) : CT l (dC, dI) (TY cy) yX8_keepDraft cX8_keepDraft 1 none rm_X8_keepDraft [.ref (x 0)] (wSPo x ++ wFig (fun j => x (1 + j)) cy F ++ wFig (fun j => x (6 + j)) cy D ++ wP2 (fun j => x (11 + j)) cy P ++ wPF (fun j => x (11 + j)) cy (p_figs P)) (wSPo x ++ wFig (fun j => x (1 + j)) cy res.1 ++ wFig (fun j => x (6 + j)) cy D ++ wP2 (fun j => x (11 + j)) cy res.2 ++ wPF (fun j => x (11 + j)) cy (p_figs res.2)) none := by
  refine CT.mk_v (own := RX8) ⟨by decide, rfl⟩ (Nat.le_of_ble_eq_true rfl) ?_
  intro p e s mm args below meth cd A Q hx hb hml hown htg hN hK hA hP hD hS hE ls hl
  have hl : lv_has ls 1 [(0, .ref (x 0))] := hl
  replace h : _ = some res := h
  unfold G_X8_keepDraft at h
  obtain ⟨H, hH⟩ : ∃ H, H = s.heap := ⟨_, rfl⟩
  obtain ⟨locs, hlocs⟩ : ∃ locs : List Loc, locs = [] := ⟨_, rfl⟩
  rw [← hlocs] at hS ⊢
  have hS : va_S A s.heap H locs := by rw [hH]; exact hS
  rw [← hH] at hP ⊢
  refine lv_aload_n hx hb dX8_keepDraft_0 rfl (lv_at hl 0 rfl) ?_
  refine va_get (D := (dC, dI)) (ci := 3) (v := .ref (x 11)) (C := RX8) (T := TX8) (N := 7) hx hb htg inX8 hown hK hP 0 rfl rfl 2 (by decide) (htg _ gw135) (fun _ h9 => h9) rfl dX8_keepDraft_1 ?_
  refine lv_aload_n hx hb dX8_keepDraft_4 rfl (lv_at hl 0 rfl) ?_
  refine va_get (D := (dC, dI)) (ci := 3) (v := .ref (x 1)) (C := RX8) (T := TX8) (N := 7) hx hb htg inX8 hown hK hP 0 rfl rfl 0 (by decide) (htg _ gw133) (fun _ h9 => h9) rfl dX8_keepDraft_5 ?_
  obtain ⟨v8, e8, h⟩ := bnd h
  refine cVp (av := [.ref (x 1)]) (rest := []) (st1 := []) (k1 := 0) (k2 := 0) (wn := wSPo x ++ wFig (fun j => x (1 + j)) cy F ++ wFig (fun j => x (6 + j)) cy D ++ wP2 (fun j => x (11 + j)) cy v8 ++ wPF (fun j => x (11 + j)) cy (p_figs v8)) (ci := 1) (q0 := 0) hx hb hml hown htg hN hK (c_X3_remember l dC dI cy (fun j => x (11 + j)) (fun j => x (1 + j)) P F  v8 e8) (g_V gw360 gw361 gw362 gw9 gw363) hdV_X3_remember rfl ⟨⟨Nat.le_of_ble_eq_true rfl, Nat.le_of_ble_eq_true rfl⟩, Nat.le_of_ble_eq_true rfl, Nat.le_of_ble_eq_true rfl⟩ hP hD hS hA ⟨rfl, rfl⟩ rfl (perm_T (perm_ix 13 [11, 12, 1, 2, 3, 4, 5] [0, 6, 7, 8, 9, 10] rfl rfl rfl (by decide))) (perm_Tb (perm_ix 13 [0, 6, 7, 8, 9, 10] [11, 12, 1, 2, 3, 4, 5] rfl rfl rfl (by decide))) hl.1 rfl (Nat.le_of_ble_eq_true rfl) rfl rfl rfl dX8_keepDraft_8 (fun H locs hP hD hS => ?_)
  refine lv_aload_n hx hb dX8_keepDraft_11 rfl (lv_at hl 0 rfl) ?_
  refine va_get (D := (dC, dI)) (ci := 3) (v := .ref (x 1)) (C := RX8) (T := TX8) (N := 7) hx hb htg inX8 hown hK hP 0 rfl rfl 0 (by decide) (htg _ gw133) (fun _ h9 => h9) rfl dX8_keepDraft_12 ?_
  refine lv_aload_n hx hb dX8_keepDraft_15 rfl (lv_at hl 0 rfl) ?_
  refine va_get (D := (dC, dI)) (ci := 3) (v := .ref (x 6)) (C := RX8) (T := TX8) (N := 7) hx hb htg inX8 hown hK hP 0 rfl rfl 1 (by decide) (htg _ gw134) (fun _ h9 => h9) rfl dX8_keepDraft_16 ?_
  obtain ⟨v19, e19, h⟩ := bnd h
  refine cVp (av := [.ref (x 6)]) (rest := []) (st1 := []) (k1 := 0) (k2 := 0) (wn := wSPo x ++ wFig (fun j => x (1 + j)) cy v19 ++ wFig (fun j => x (6 + j)) cy D ++ wP2 (fun j => x (11 + j)) cy v8 ++ wPF (fun j => x (11 + j)) cy (p_figs v8)) (ci := 0) (q0 := 0) hx hb hml hown htg hN hK (c_X1_copyFrom l dC dI cy (fun j => x (1 + j)) (fun j => x (6 + j)) F D  v19 e19) (g_V gw235 gw236 gw237 gw8 gw238) hdV_X1_copyFrom rfl ⟨⟨Nat.le_of_ble_eq_true rfl, Nat.le_of_ble_eq_true rfl⟩, Nat.le_of_ble_eq_true rfl, Nat.le_of_ble_eq_true rfl⟩ hP hD hS hA ⟨rfl, rfl⟩ rfl (perm_N (perm_ix 13 [1, 2, 3, 4, 5, 6, 7, 8, 9, 10] [0, 11, 12] rfl rfl rfl (by decide))) (perm_Nb (perm_ix 13 [0, 11, 12] [1, 2, 3, 4, 5, 6, 7, 8, 9, 10] rfl rfl rfl (by decide))) hl.1 rfl (Nat.le_of_ble_eq_true rfl) rfl rfl rfl dX8_keepDraft_19 (fun H locs hP hD hS => ?_)
  obtain rfl := Option.some.inj h
  exact hE H locs 22 ls hP hD hS dX8_keepDraft_22
def G_X8_addHole (F : Fig) (D : Fig) (P : PastS) (p1 : Int32) (p2 : Int32) : Option ((Sum Nat Int32) × Fig × Fig × PastS) :=
  (G_X8_inRange p1 0 14).bind fun v4 =>
  if v4 = 0 then
    some (.inl 2, F, D, P)
  else
    (G_X8_inRange p2 0 14).bind fun v14 =>
    if v14 = 0 then
      some (.inl 2, F, D, P)
    else
      (G_X1_copyFrom D F).bind fun v38 =>
      (G_X0_addedHole v38 p1 p2).bind fun v47 =>
      if v47.1 = 0 then
        some (.inl 3, F, v47.2, P)
      else
        (G_X8_keepDraft F v47.2 P).bind fun v64 =>
        some (.inr ((f_rings v64.1) - 1), v64.1, v47.2, v64.2)
abbrev rm_X8_addHole : Room := { frames := 6, cells := 1, slots := 6, locals := 136 }
theorem hdS_X8_addHole : yX8_addHole.cls ≠ "java/lang/invoke/MethodHandle" ∧ yX8_addHole.cls ≠ "java/lang/invoke/VarHandle" ∧ (parseMethodDescriptor yX8_addHole.desc).map (fun d => d.parameters.length) = some 2 := by decide +kernel
theorem hdV_X8_addHole : yX8_addHole.cls = RX8 ∧ yX8_addHole.cls ≠ "java/lang/invoke/MethodHandle" ∧ yX8_addHole.cls ≠ "java/lang/invoke/VarHandle" ∧ (parseMethodDescriptor yX8_addHole.desc).map (fun d => d.parameters.length) = some 2 := ⟨rfl, hdS_X8_addHole⟩
set_option maxHeartbeats 4000000 in
set_option maxRecDepth 100000 in
theorem c_X8_addHole (l : Launch) (dC : Nat → ClassId) (dI : Nat → Nat → Nat) (cy : Nat → ClassId) (hlt : l.stackTraces = false) (x : Nat → Nat) (F : Fig) (D : Fig) (P : PastS) (p1 : Int32) (p2 : Int32) (res : (Sum Nat Int32) × Fig × Fig × PastS) (h : G_X8_addHole F D P p1 p2 = some res) : CTX l (dC, dI) (TY cy) yX8_addHole cX8_addHole 3 (some .int) rm_X8_addHole [.ref (x 0), .int p1, .int p2] (wSPo x ++ wFig (fun j => x (1 + j)) cy F ++ wFig (fun j => x (6 + j)) cy D ++ wP2 (fun j => x (11 + j)) cy P ++ wPF (fun j => x (11 + j)) cy (p_figs P)) (wSPo x ++ wFig (fun j => x (1 + j)) cy res.2.1 ++ wFig (fun j => x (6 + j)) cy res.2.2.1 ++ wP2 (fun j => x (11 + j)) cy res.2.2.2 ++ wPF (fun j => x (11 + j)) cy (p_figs res.2.2.2)) (oI res.1) := by
  refine CTX.mk (own := RX8) hlt ⟨by decide, rfl⟩ (Nat.le_of_ble_eq_true rfl) ?_
  intro p e s mm args below meth cd A Q hx hb hml hown htg hN hK hX0 hA hP hD hS hE hV hT hO ls hl
  have hl : lv_has ls 3 [(0, .ref (x 0)), (1, .int p1), (2, .int p2)] := hl
  replace h : _ = some res := h
  unfold G_X8_addHole at h
  obtain ⟨H, hH⟩ : ∃ H, H = s.heap := ⟨_, rfl⟩
  obtain ⟨locs, hlocs⟩ : ∃ locs : List Loc, locs = [] := ⟨_, rfl⟩
  rw [← hlocs] at hS ⊢
  have hS : va_S A s.heap H locs := by rw [hH]; exact hS
  rw [← hH] at hP ⊢
  refine lv_iload_n hx hb dX8_addHole_0 rfl (lv_at hl 1 rfl) ?_
  refine lv_iconst (v := 0) hx hb dX8_addHole_1 (by decide) ?_
  refine lv_bipush (v := 14) hx hb dX8_addHole_2 (by decide) ?_
  obtain ⟨v4, e4, h⟩ := bnd h
  refine cSp (av := [.int p1, .int 0, .int 14]) (rest := []) (st1 := [.int v4]) (k1 := 0) (k2 := 0) (wn := wSPo x ++ wFig (fun j => x (1 + j)) cy F ++ wFig (fun j => x (6 + j)) cy D ++ wP2 (fun j => x (11 + j)) cy P ++ wPF (fun j => x (11 + j)) cy (p_figs P)) hx hb hml hown htg hN hK (c_X8_inRange l dC dI cy   p1 0 14 v4 e4) (g_S gw426 gw255 gw7 gw256) hdS_X8_inRange rfl ⟨⟨Nat.le_of_ble_eq_true rfl, Nat.le_of_ble_eq_true rfl⟩, Nat.le_of_ble_eq_true rfl, Nat.le_of_ble_eq_true rfl⟩ hP hD hS hA (perm_N (perm_ix 13 [] [0, 1, 2, 3, 4, 5, 6, 7, 8, 9, 10, 11, 12] rfl rfl rfl (by decide))) (perm_Nb (perm_ix 13 [0, 1, 2, 3, 4, 5, 6, 7, 8, 9, 10, 11, 12] [] rfl rfl rfl (by decide))) hl.1 rfl (Nat.le_of_ble_eq_true rfl) rfl rfl rfl dX8_addHole_4 (fun H locs hP hD hS => ?_)
  refine lv_if_eq (tgt := 20) hx hb dX8_addHole_7 (by decide) (fun c7 => ?_) (fun c7 => ?_)
  · replace h := if_t h c7
    obtain rfl := Option.some.inj h
    exact hT H locs 0 0 20 ls 56 211 60 2 "x or y is not 0 to 14" hP hD hS (by decide) (by decide) (by decide) (by decide) rfl rfl hl.1 (by decide +kernel) gw427 gw21 exat_2 exgo_2 (by decide +kernel) dX8_addHole_20 dX8_addHole_23 (Or.inl ⟨dX8_addHole_24, dX8_addHole_26, dX8_addHole_29⟩)
  replace h := if_f h c7
  refine lv_iload_n hx hb dX8_addHole_10 rfl (lv_at hl 2 rfl) ?_
  refine lv_iconst (v := 0) hx hb dX8_addHole_11 (by decide) ?_
  refine lv_bipush (v := 14) hx hb dX8_addHole_12 (by decide) ?_
  obtain ⟨v14, e14, h⟩ := bnd h
  refine cSp (av := [.int p2, .int 0, .int 14]) (rest := []) (st1 := [.int v14]) (k1 := 0) (k2 := 0) (wn := wSPo x ++ wFig (fun j => x (1 + j)) cy F ++ wFig (fun j => x (6 + j)) cy D ++ wP2 (fun j => x (11 + j)) cy P ++ wPF (fun j => x (11 + j)) cy (p_figs P)) hx hb hml hown htg hN hK (c_X8_inRange l dC dI cy   p2 0 14 v14 e14) (g_S gw426 gw255 gw7 gw256) hdS_X8_inRange rfl ⟨⟨Nat.le_of_ble_eq_true rfl, Nat.le_of_ble_eq_true rfl⟩, Nat.le_of_ble_eq_true rfl, Nat.le_of_ble_eq_true rfl⟩ hP hD hS hA (perm_N (perm_ix 13 [] [0, 1, 2, 3, 4, 5, 6, 7, 8, 9, 10, 11, 12] rfl rfl rfl (by decide))) (perm_Nb (perm_ix 13 [0, 1, 2, 3, 4, 5, 6, 7, 8, 9, 10, 11, 12] [] rfl rfl rfl (by decide))) hl.1 rfl (Nat.le_of_ble_eq_true rfl) rfl rfl rfl dX8_addHole_14 (fun H locs hP hD hS => ?_)
  refine lv_if_ne (tgt := 30) hx hb dX8_addHole_17 (by decide) (fun c17 => ?_) (fun c17 => ?_)
  · replace h := if_f h c17
    refine lv_aload_n hx hb dX8_addHole_30 rfl (lv_at hl 0 rfl) ?_
    refine va_get (D := (dC, dI)) (ci := 3) (v := .ref (x 6)) (C := RX8) (T := TX8) (N := 7) hx hb htg inX8 hown hK hP 0 rfl rfl 1 (by decide) (htg _ gw134) (fun _ h9 => h9) rfl dX8_addHole_31 ?_
    refine lv_aload_n hx hb dX8_addHole_34 rfl (lv_at hl 0 rfl) ?_
    refine va_get (D := (dC, dI)) (ci := 3) (v := .ref (x 1)) (C := RX8) (T := TX8) (N := 7) hx hb htg inX8 hown hK hP 0 rfl rfl 0 (by decide) (htg _ gw133) (fun _ h9 => h9) rfl dX8_addHole_35 ?_
    obtain ⟨v38, e38, h⟩ := bnd h
    refine cVp (av := [.ref (x 1)]) (rest := []) (st1 := []) (k1 := 0) (k2 := 0) (wn := wSPo x ++ wFig (fun j => x (1 + j)) cy F ++ wFig (fun j => x (6 + j)) cy v38 ++ wP2 (fun j => x (11 + j)) cy P ++ wPF (fun j => x (11 + j)) cy (p_figs P)) (ci := 0) (q0 := 0) hx hb hml hown htg hN hK (c_X1_copyFrom l dC dI cy (fun j => x (6 + j)) (fun j => x (1 + j)) D F  v38 e38) (g_V gw235 gw236 gw237 gw8 gw238) hdV_X1_copyFrom rfl ⟨⟨Nat.le_of_ble_eq_true rfl, Nat.le_of_ble_eq_true rfl⟩, Nat.le_of_ble_eq_true rfl, Nat.le_of_ble_eq_true rfl⟩ hP hD hS hA ⟨rfl, rfl⟩ rfl (perm_N (perm_ix 13 [6, 7, 8, 9, 10, 1, 2, 3, 4, 5] [0, 11, 12] rfl rfl rfl (by decide))) (perm_Nb (perm_ix 13 [0, 11, 12] [6, 7, 8, 9, 10, 1, 2, 3, 4, 5] rfl rfl rfl (by decide))) hl.1 rfl (Nat.le_of_ble_eq_true rfl) rfl rfl rfl dX8_addHole_38 (fun H locs hP hD hS => ?_)
    refine lv_aload_n hx hb dX8_addHole_41 rfl (lv_at hl 0 rfl) ?_
    refine va_get (D := (dC, dI)) (ci := 3) (v := .ref (x 6)) (C := RX8) (T := TX8) (N := 7) hx hb htg inX8 hown hK hP 0 rfl rfl 1 (by decide) (htg _ gw134) (fun _ h9 => h9) rfl dX8_addHole_42 ?_
    refine lv_iload_n hx hb dX8_addHole_45 rfl (lv_at hl 1 rfl) ?_
    refine lv_iload_n hx hb dX8_addHole_46 rfl (lv_at hl 2 rfl) ?_
    obtain ⟨v47, e47, h⟩ := bnd h
    refine cSp (av := [.ref (x 6), .int p1, .int p2]) (rest := []) (st1 := [.int v47.1]) (k1 := 0) (k2 := 0) (wn := wSPo x ++ wFig (fun j => x (1 + j)) cy F ++ wFig (fun j => x (6 + j)) cy v47.2 ++ wP2 (fun j => x (11 + j)) cy P ++ wPF (fun j => x (11 + j)) cy (p_figs P)) hx hb hml hown htg hN hK (c_X0_addedHole l dC dI cy (fun j => x (6 + j)) v38 p1 p2 v47 e47) (g_S gw443 gw444 gw18 gw445) hdS_X0_addedHole rfl ⟨⟨Nat.le_of_ble_eq_true rfl, Nat.le_of_ble_eq_true rfl⟩, Nat.le_of_ble_eq_true rfl, Nat.le_of_ble_eq_true rfl⟩ hP hD hS hA (perm_N (perm_ix 13 [6, 7, 8, 9, 10] [0, 1, 2, 3, 4, 5, 11, 12] rfl rfl rfl (by decide))) (perm_Nb (perm_ix 13 [0, 1, 2, 3, 4, 5, 11, 12] [6, 7, 8, 9, 10] rfl rfl rfl (by decide))) hl.1 rfl (Nat.le_of_ble_eq_true rfl) rfl rfl rfl dX8_addHole_47 (fun H locs hP hD hS => ?_)
    refine lv_if_ne (tgt := 63) hx hb dX8_addHole_50 (by decide) (fun c50 => ?_) (fun c50 => ?_)
    · replace h := if_f h c50
      refine lv_aload_n hx hb dX8_addHole_63 rfl (lv_at hl 0 rfl) ?_
      obtain ⟨v64, e64, h⟩ := bnd h
      refine cVp (av := []) (rest := []) (st1 := []) (k1 := 0) (k2 := 0) (wn := wSPo x ++ wFig (fun j => x (1 + j)) cy v64.1 ++ wFig (fun j => x (6 + j)) cy v47.2 ++ wP2 (fun j => x (11 + j)) cy v64.2 ++ wPF (fun j => x (11 + j)) cy (p_figs v64.2)) (ci := 3) (q0 := 0) hx hb hml hown htg hN hK (c_X8_keepDraft l dC dI cy x F v47.2 P  v64 e64) (g_V gw356 gw358 gw4 gw7 gw359) hdV_X8_keepDraft rfl ⟨⟨Nat.le_of_ble_eq_true rfl, Nat.le_of_ble_eq_true rfl⟩, Nat.le_of_ble_eq_true rfl, Nat.le_of_ble_eq_true rfl⟩ hP hD hS hA ⟨rfl, rfl⟩ rfl (perm_T (perm_ix 13 [0, 1, 2, 3, 4, 5, 6, 7, 8, 9, 10, 11, 12] [] rfl rfl rfl (by decide))) (perm_Tb (perm_ix 13 [] [0, 1, 2, 3, 4, 5, 6, 7, 8, 9, 10, 11, 12] rfl rfl rfl (by decide))) hl.1 rfl (Nat.le_of_ble_eq_true rfl) rfl rfl rfl dX8_addHole_64 (fun H locs hP hD hS => ?_)
      refine lv_aload_n hx hb dX8_addHole_67 rfl (lv_at hl 0 rfl) ?_
      refine va_get (D := (dC, dI)) (ci := 3) (v := .ref (x 1)) (C := RX8) (T := TX8) (N := 7) hx hb htg inX8 hown hK hP 0 rfl rfl 0 (by decide) (htg _ gw133) (fun _ h9 => h9) rfl dX8_addHole_68 ?_
      refine va_getN (D := (dC, dI)) (ci := 0) (v := .int (f_rings v64.1)) (C := RX1) (T := TX1) (N := 6) hx hb htg inX1 hown hK hP 1 rfl rfl 0 (by decide) (va_Nw.use rfl (hN (.fieldLinkNest RX8 89 "SquaredPaper$Figure" "rings" "I" "SquaredPaper") (by decide +kernel))) (fun _ h9 => h9) rfl dX8_addHole_71 ?_
      refine lv_iconst (v := 1) hx hb dX8_addHole_74 (by decide) ?_
      refine lv_isub hx hb dX8_addHole_75 ?_
      obtain rfl := Option.some.inj h
      exact hE H locs 0 0 76 ls _ hP hD hS (by decide) (by decide) rfl ⟨_, rfl, rfl⟩ dX8_addHole_76
    replace h := if_t h c50
    obtain rfl := Option.some.inj h
    exact hT H locs 0 0 53 ls 67 216 71 3 "there are 4 rings, or a rule would not hold" hP hD hS (by decide) (by decide) (by decide) (by decide) rfl rfl hl.1 (by decide +kernel) gw340 gw19 exat_3 exgo_3 (by decide +kernel) dX8_addHole_53 dX8_addHole_56 (Or.inl ⟨dX8_addHole_57, dX8_addHole_59, dX8_addHole_62⟩)
  replace h := if_t h c17
  obtain rfl := Option.some.inj h
  exact hT H locs 0 0 20 ls 56 211 60 2 "x or y is not 0 to 14" hP hD hS (by decide) (by decide) (by decide) (by decide) rfl rfl hl.1 (by decide +kernel) gw427 gw21 exat_2 exgo_2 (by decide +kernel) dX8_addHole_20 dX8_addHole_23 (Or.inl ⟨dX8_addHole_24, dX8_addHole_26, dX8_addHole_29⟩)
def G_X8_checkCorner (F : Fig) (p1 : Int32) (p2 : Int32) : Option (Sum Nat Unit) :=
  (G_X1_hasCorner F p1 p2).bind fun v6 =>
  if v6 = 0 then
    some (.inl 1)
  else
    some (.inr ())
abbrev rm_X8_checkCorner : Room := { frames := 6, cells := 1, slots := 6, locals := 82 }
theorem hdS_X8_checkCorner : yX8_checkCorner.cls ≠ "java/lang/invoke/MethodHandle" ∧ yX8_checkCorner.cls ≠ "java/lang/invoke/VarHandle" ∧ (parseMethodDescriptor yX8_checkCorner.desc).map (fun d => d.parameters.length) = some 2 := by decide +kernel
theorem hdV_X8_checkCorner : yX8_checkCorner.cls = RX8 ∧ yX8_checkCorner.cls ≠ "java/lang/invoke/MethodHandle" ∧ yX8_checkCorner.cls ≠ "java/lang/invoke/VarHandle" ∧ (parseMethodDescriptor yX8_checkCorner.desc).map (fun d => d.parameters.length) = some 2 := ⟨rfl, hdS_X8_checkCorner⟩
set_option maxHeartbeats 4000000 in
set_option maxRecDepth 100000 in
theorem c_X8_checkCorner (l : Launch) (dC : Nat → ClassId) (dI : Nat → Nat → Nat) (cy : Nat → ClassId) (hlt : l.stackTraces = false) (x : Nat → Nat) (F : Fig) (p1 : Int32) (p2 : Int32) (res : Sum Nat Unit) (h : G_X8_checkCorner F p1 p2 = some res) : CTX l (dC, dI) (TY cy) yX8_checkCorner cX8_checkCorner 3 none rm_X8_checkCorner [.ref (x 0), .int p1, .int p2] (wSPo x ++ wFig (fun j => x (1 + j)) cy F) (wSPo x ++ wFig (fun j => x (1 + j)) cy F) (oU res) := by
  refine CTX.mk (own := RX8) hlt ⟨by decide, rfl⟩ (Nat.le_of_ble_eq_true rfl) ?_
  intro p e s mm args below meth cd A Q hx hb hml hown htg hN hK hX0 hA hP hD hS hE hV hT hO ls hl
  have hl : lv_has ls 3 [(0, .ref (x 0)), (1, .int p1), (2, .int p2)] := hl
  replace h : _ = some res := h
  unfold G_X8_checkCorner at h
  obtain ⟨H, hH⟩ : ∃ H, H = s.heap := ⟨_, rfl⟩
  obtain ⟨locs, hlocs⟩ : ∃ locs : List Loc, locs = [] := ⟨_, rfl⟩
  rw [← hlocs] at hS ⊢
  have hS : va_S A s.heap H locs := by rw [hH]; exact hS
  rw [← hH] at hP ⊢
  refine lv_aload_n hx hb dX8_checkCorner_0 rfl (lv_at hl 0 rfl) ?_
  refine va_get (D := (dC, dI)) (ci := 3) (v := .ref (x 1)) (C := RX8) (T := TX8) (N := 7) hx hb htg inX8 hown hK hP 0 rfl rfl 0 (by decide) (htg _ gw133) (fun _ h9 => h9) rfl dX8_checkCorner_1 ?_
  refine lv_iload_n hx hb dX8_checkCorner_4 rfl (lv_at hl 1 rfl) ?_
  refine lv_iload_n hx hb dX8_checkCorner_5 rfl (lv_at hl 2 rfl) ?_
  obtain ⟨v6, e6, h⟩ := bnd h
  refine cV (av := [.int p1, .int p2]) (rest := []) (st1 := [.int v6]) (k1 := 0) (k2 := 0) (ci := 0) (q0 := 0) hx hb hml hown htg hN hK (c_X1_hasCorner l dC dI cy (fun j => x (1 + j)) F p1 p2 v6 e6) (g_V gw163 gw164 gw165 gw8 gw166) hdV_X1_hasCorner rfl ⟨⟨Nat.le_of_ble_eq_true rfl, Nat.le_of_ble_eq_true rfl⟩, Nat.le_of_ble_eq_true rfl, Nat.le_of_ble_eq_true rfl⟩ hP hD hS hA ⟨rfl, rfl⟩ rfl [1, 2, 3, 4, 5] [0] rfl rfl rfl (by decide) (by decide) hl.1 rfl (Nat.le_of_ble_eq_true rfl) rfl rfl rfl dX8_checkCorner_6 (fun H locs hP hD hS => ?_)
  obtain ⟨hP, hD⟩ := x_perm (ws' := wSPo x ++ wFig (fun j => x (1 + j)) cy F) hP hD [0, 1, 2, 3, 4, 5] (by decide) rfl rfl
  refine lv_if_ne (tgt := 23) hx hb dX8_checkCorner_9 (by decide) (fun c9 => ?_) (fun c9 => ?_)
  · replace h := if_f h c9
    obtain rfl := Option.some.inj h
    exact hV H locs 0 0 23 ls hP hD hS (by decide) (by decide) rfl rfl dX8_checkCorner_23
  replace h := if_t h c9
  obtain rfl := Option.some.inj h
  exact hT H locs 0 0 12 ls 298 307 302 1 "there is no such ring or corner" hP hD hS (by decide) (by decide) (by decide) (by decide) rfl rfl hl.1 (by decide +kernel) gw167 gw14 exat_1 exgo_1 (by decide +kernel) dX8_checkCorner_12 dX8_checkCorner_15 (Or.inr ⟨dX8_checkCorner_16, dX8_checkCorner_19, dX8_checkCorner_22⟩)
def G_X8_corner (F : Fig) (p1 : Int32) (p2 : Int32) (p3 : Int32) : Option ((Sum Nat Int32)) :=
  (G_X8_checkCorner F p1 p2).bind fun v3 =>
  match v3 with
  | .inl k3 => some (.inl k3)
  | .inr _ =>
    (G_X1_at F p1 p2).bind fun v12 =>
    if p3 = 0 then
      (G_X1_xOf F v12).bind fun v62 =>
      some (.inr v62)
    else
    if p3 = 1 then
      (G_X1_yOf F v12).bind fun v72 =>
      some (.inr v72)
    else
    if p3 = 2 then
      (G_X2_kind F p1 p2).bind fun v82 =>
      some (.inr v82)
    else
    if p3 = 3 then
      (G_X6_seenFrom F v12).bind fun v92 =>
      some (.inr v92)
    else
    if p3 = 4 then
      (G_X1_bendAt F p1 p2).bind fun v102 =>
      some (.inr (if 0 ≤ v102 then v102 else 0 - v102))
    else
    if p3 = 5 then
      (G_X1_stepsOfSide F v12).bind fun v115 =>
      some (.inr v115)
    else
    some (.inl 2)
abbrev rm_X8_corner : Room := { frames := 7, cells := 2, slots := 12, locals := 124 }
theorem hdS_X8_corner : yX8_corner.cls ≠ "java/lang/invoke/MethodHandle" ∧ yX8_corner.cls ≠ "java/lang/invoke/VarHandle" ∧ (parseMethodDescriptor yX8_corner.desc).map (fun d => d.parameters.length) = some 3 := by decide +kernel
theorem hdV_X8_corner : yX8_corner.cls = RX8 ∧ yX8_corner.cls ≠ "java/lang/invoke/MethodHandle" ∧ yX8_corner.cls ≠ "java/lang/invoke/VarHandle" ∧ (parseMethodDescriptor yX8_corner.desc).map (fun d => d.parameters.length) = some 3 := ⟨rfl, hdS_X8_corner⟩
set_option maxHeartbeats 4000000 in
set_option maxRecDepth 100000 in
theorem c_X8_corner (l : Launch) (dC : Nat → ClassId) (dI : Nat → Nat → Nat) (cy : Nat → ClassId) (hlt : l.stackTraces = false) (x : Nat → Nat) (F : Fig) (p1 : Int32) (p2 : Int32) (p3 : Int32) (res : (Sum Nat Int32)) (h : G_X8_corner F p1 p2 p3 = some res) : CTX l (dC, dI) (TY cy) yX8_corner cX8_corner 5 (some .int) rm_X8_corner [.ref (x 0), .int p1, .int p2, .int p3] (wSPo x ++ wFig (fun j => x (1 + j)) cy F) (wSPo x ++ wFig (fun j => x (1 + j)) cy F) (oI res) := by
  refine CTX.mk (own := RX8) hlt ⟨by decide, rfl⟩ (Nat.le_of_ble_eq_true rfl) ?_
  intro p e s mm args below meth cd A Q hx hb hml hown htg hN hK hX0 hA hP hD hS hE hV hT hO ls hl
  have hl : lv_has ls 5 [(0, .ref (x 0)), (1, .int p1), (2, .int p2), (3, .int p3)] := hl
  replace h : _ = some res := h
  unfold G_X8_corner at h
  obtain ⟨H, hH⟩ : ∃ H, H = s.heap := ⟨_, rfl⟩
  obtain ⟨locs, hlocs⟩ : ∃ locs : List Loc, locs = [] := ⟨_, rfl⟩
  rw [← hlocs] at hS ⊢
  have hS : va_S A s.heap H locs := by rw [hH]; exact hS
  rw [← hH] at hP ⊢
  refine lv_aload_n hx hb dX8_corner_0 rfl (lv_at hl 0 rfl) ?_
  refine lv_iload_n hx hb dX8_corner_1 rfl (lv_at hl 1 rfl) ?_
  refine lv_iload_n hx hb dX8_corner_2 rfl (lv_at hl 2 rfl) ?_
  obtain ⟨v3, e3, h⟩ := bnd h
  rcases hv3 : v3 with k3 | u3
  · simp only [hv3] at h
    refine cXV (av := [.int p1, .int p2]) (rest := []) (k1 := 1) (k2 := 6) (ci := 3) (q0 := 0) hx hb hml hown htg hN hK hX0 (c_X8_checkCorner l dC dI cy hlt x F p1 p2 v3 e3) (g_V gw159 gw161 gw1 gw7 gw162) hdV_X8_checkCorner rfl ⟨⟨Nat.le_of_ble_eq_true rfl, Nat.le_of_ble_eq_true rfl⟩, Nat.le_of_ble_eq_true rfl, Nat.le_of_ble_eq_true rfl⟩ hP hD hS hA ⟨rfl, rfl⟩ rfl [0, 1, 2, 3, 4, 5] [] rfl rfl rfl (by decide) (by decide) hl.1 rfl (Nat.le_of_ble_eq_true rfl) rfl rfl dX8_corner_3 (fun H locs ret ho hP hD hS => ?_) (fun H locs k q ce ho hP hD hS h1 h2 h3 => ?_)
    · rw [hv3] at ho; cases ho
    rw [hv3] at ho
    obtain rfl := Sum.inl.inj ho
    have hP : va_P (dC, dI) vwCl (wSPo x ++ wFig (fun j => x (1 + j)) cy F) H := hP
    have hD : va_D A (wSPo x ++ wFig (fun j => x (1 + j)) cy F) := hD
    obtain rfl := Option.some.inj h
    exact hO H locs 1 6 3 ls _ _ q ce hP hD hS (by decide) (by decide) rfl h1 h2 h3
  simp only [hv3] at h
  refine cXV (av := [.int p1, .int p2]) (rest := []) (k1 := 1) (k2 := 6) (ci := 3) (q0 := 0) hx hb hml hown htg hN hK hX0 (c_X8_checkCorner l dC dI cy hlt x F p1 p2 v3 e3) (g_V gw159 gw161 gw1 gw7 gw162) hdV_X8_checkCorner rfl ⟨⟨Nat.le_of_ble_eq_true rfl, Nat.le_of_ble_eq_true rfl⟩, Nat.le_of_ble_eq_true rfl, Nat.le_of_ble_eq_true rfl⟩ hP hD hS hA ⟨rfl, rfl⟩ rfl [0, 1, 2, 3, 4, 5] [] rfl rfl rfl (by decide) (by decide) hl.1 rfl (Nat.le_of_ble_eq_true rfl) rfl rfl dX8_corner_3 (fun H locs ret ho hP hD hS => ?_) (fun H locs k q ce ho hP hD hS h1 h2 h3 => ?_)
  rotate_left
  · rw [hv3] at ho; cases ho
  rw [hv3] at ho
  obtain rfl := Sum.inr.inj ho
  have hP : va_P (dC, dI) vwCl (wSPo x ++ wFig (fun j => x (1 + j)) cy F) H := hP
  have hD : va_D A (wSPo x ++ wFig (fun j => x (1 + j)) cy F) := hD
  refine W.eq (g2 := F0 mm 6 ls []) rfl ?_
  refine lv_aload_n hx hb dX8_corner_6 rfl (lv_at hl 0 rfl) ?_
  refine va_get (D := (dC, dI)) (ci := 3) (v := .ref (x 1)) (C := RX8) (T := TX8) (N := 7) hx hb htg inX8 hown hK hP 0 rfl rfl 0 (by decide) (htg _ gw133) (fun _ h9 => h9) rfl dX8_corner_7 ?_
  refine lv_iload_n hx hb dX8_corner_10 rfl (lv_at hl 1 rfl) ?_
  refine lv_iload_n hx hb dX8_corner_11 rfl (lv_at hl 2 rfl) ?_
  obtain ⟨v12, e12, h⟩ := bnd h
  refine cV (av := [.int p1, .int p2]) (rest := []) (st1 := [.int v12]) (k1 := 1) (k2 := 6) (ci := 0) (q0 := 0) hx hb hml hown htg hN hK (c_X1_at l dC dI cy (fun j => x (1 + j)) F p1 p2 v12 e12) (g_V gw242 gw118 gw119 gw8 gw120) hdV_X1_at rfl ⟨⟨Nat.le_of_ble_eq_true rfl, Nat.le_of_ble_eq_true rfl⟩, Nat.le_of_ble_eq_true rfl, Nat.le_of_ble_eq_true rfl⟩ hP hD hS hA ⟨rfl, rfl⟩ rfl [1, 2, 3, 4, 5] [0] rfl rfl rfl (by decide) (by decide) hl.1 rfl (Nat.le_of_ble_eq_true rfl) rfl rfl rfl dX8_corner_12 (fun H locs hP hD hS => ?_)
  obtain ⟨hP, hD⟩ := x_perm (ws' := wSPo x ++ wFig (fun j => x (1 + j)) cy F) hP hD [0, 1, 2, 3, 4, 5] (by decide) rfl rfl
  refine lv_istore (lv' := [(4, .int v12), (0, .ref (x 0)), (1, .int p1), (2, .int p2), (3, .int p3)]) hx hb dX8_corner_15 hl (by decide) rfl (fun ls hl => ?_)
  refine lv_iload_n hx hb dX8_corner_17 rfl (lv_at hl 4 rfl) ?_
  by_cases c18_0 : p3 = 0
  · replace h := if_t h c18_0
    refine lv_tableIn (tgt := 56) (off := 38) hx hb dX8_corner_18 (by rw [c18_0]; decide) (by rw [c18_0]; decide) (by rw [c18_0]; rfl) (by decide) ?_
    refine lv_aload_n hx hb dX8_corner_56 rfl (lv_at hl 1 rfl) ?_
    refine va_get (D := (dC, dI)) (ci := 3) (v := .ref (x 1)) (C := RX8) (T := TX8) (N := 7) hx hb htg inX8 hown hK hP 0 rfl rfl 0 (by decide) (htg _ gw133) (fun _ h9 => h9) rfl dX8_corner_57 ?_
    refine lv_iload hx hb dX8_corner_60 (lv_at hl 0 rfl) ?_
    obtain ⟨v62, e62, h⟩ := bnd h
    refine cV (av := [.int v12]) (rest := []) (st1 := [.int v62]) (k1 := 1) (k2 := 6) (ci := 0) (q0 := 0) hx hb hml hown htg hN hK (c_X1_xOf l dC dI cy (fun j => x (1 + j)) F v12 v62 e62) (g_V gw514 gw251 gw252 gw8 gw253) hdV_X1_xOf rfl ⟨⟨Nat.le_of_ble_eq_true rfl, Nat.le_of_ble_eq_true rfl⟩, Nat.le_of_ble_eq_true rfl, Nat.le_of_ble_eq_true rfl⟩ hP hD hS hA ⟨rfl, rfl⟩ rfl [1, 2, 3, 4, 5] [0] rfl rfl rfl (by decide) (by decide) hl.1 rfl (Nat.le_of_ble_eq_true rfl) rfl rfl rfl dX8_corner_62 (fun H locs hP hD hS => ?_)
    obtain ⟨hP, hD⟩ := x_perm (ws' := wSPo x ++ wFig (fun j => x (1 + j)) cy F) hP hD [0, 1, 2, 3, 4, 5] (by decide) rfl rfl
    obtain rfl := Option.some.inj h
    exact hE H locs 1 6 65 ls _ hP hD hS (by decide) (by decide) rfl ⟨_, rfl, rfl⟩ dX8_corner_65
  replace h := if_f h c18_0
  by_cases c18_1 : p3 = 1
  · replace h := if_t h c18_1
    refine lv_tableIn (tgt := 66) (off := 48) hx hb dX8_corner_18 (by rw [c18_1]; decide) (by rw [c18_1]; decide) (by rw [c18_1]; rfl) (by decide) ?_
    refine lv_aload_n hx hb dX8_corner_66 rfl (lv_at hl 1 rfl) ?_
    refine va_get (D := (dC, dI)) (ci := 3) (v := .ref (x 1)) (C := RX8) (T := TX8) (N := 7) hx hb htg inX8 hown hK hP 0 rfl rfl 0 (by decide) (htg _ gw133) (fun _ h9 => h9) rfl dX8_corner_67 ?_
    refine lv_iload hx hb dX8_corner_70 (lv_at hl 0 rfl) ?_
    obtain ⟨v72, e72, h⟩ := bnd h
    refine cV (av := [.int v12]) (rest := []) (st1 := [.int v72]) (k1 := 1) (k2 := 6) (ci := 0) (q0 := 0) hx hb hml hown htg hN hK (c_X1_yOf l dC dI cy (fun j => x (1 + j)) F v12 v72 e72) (g_V gw515 gw258 gw259 gw8 gw260) hdV_X1_yOf rfl ⟨⟨Nat.le_of_ble_eq_true rfl, Nat.le_of_ble_eq_true rfl⟩, Nat.le_of_ble_eq_true rfl, Nat.le_of_ble_eq_true rfl⟩ hP hD hS hA ⟨rfl, rfl⟩ rfl [1, 2, 3, 4, 5] [0] rfl rfl rfl (by decide) (by decide) hl.1 rfl (Nat.le_of_ble_eq_true rfl) rfl rfl rfl dX8_corner_72 (fun H locs hP hD hS => ?_)
    obtain ⟨hP, hD⟩ := x_perm (ws' := wSPo x ++ wFig (fun j => x (1 + j)) cy F) hP hD [0, 1, 2, 3, 4, 5] (by decide) rfl rfl
    obtain rfl := Option.some.inj h
    exact hE H locs 1 6 75 ls _ hP hD hS (by decide) (by decide) rfl ⟨_, rfl, rfl⟩ dX8_corner_75
  replace h := if_f h c18_1
  by_cases c18_2 : p3 = 2
  · replace h := if_t h c18_2
    refine lv_tableIn (tgt := 76) (off := 58) hx hb dX8_corner_18 (by rw [c18_2]; decide) (by rw [c18_2]; decide) (by rw [c18_2]; rfl) (by decide) ?_
    refine lv_aload_n hx hb dX8_corner_76 rfl (lv_at hl 1 rfl) ?_
    refine va_get (D := (dC, dI)) (ci := 3) (v := .ref (x 1)) (C := RX8) (T := TX8) (N := 7) hx hb htg inX8 hown hK hP 0 rfl rfl 0 (by decide) (htg _ gw133) (fun _ h9 => h9) rfl dX8_corner_77 ?_
    refine lv_iload_n hx hb dX8_corner_80 rfl (lv_at hl 2 rfl) ?_
    refine lv_iload_n hx hb dX8_corner_81 rfl (lv_at hl 3 rfl) ?_
    obtain ⟨v82, e82, h⟩ := bnd h
    refine cS (av := [.ref (x 1), .int p1, .int p2]) (rest := []) (st1 := [.int v82]) (k1 := 1) (k2 := 6) hx hb hml hown htg hN hK (c_X2_kind l dC dI cy (fun j => x (1 + j)) F p1 p2 v82 e82) (g_S gw516 gw517 gw20 gw518) hdS_X2_kind rfl ⟨⟨Nat.le_of_ble_eq_true rfl, Nat.le_of_ble_eq_true rfl⟩, Nat.le_of_ble_eq_true rfl, Nat.le_of_ble_eq_true rfl⟩ hP hD hS hA [1, 2, 3, 4, 5] [0] rfl rfl rfl (by decide) (by decide) hl.1 rfl (Nat.le_of_ble_eq_true rfl) rfl rfl rfl dX8_corner_82 (fun H locs hP hD hS => ?_)
    obtain ⟨hP, hD⟩ := x_perm (ws' := wSPo x ++ wFig (fun j => x (1 + j)) cy F) hP hD [0, 1, 2, 3, 4, 5] (by decide) rfl rfl
    obtain rfl := Option.some.inj h
    exact hE H locs 1 6 85 ls _ hP hD hS (by decide) (by decide) rfl ⟨_, rfl, rfl⟩ dX8_corner_85
  replace h := if_f h c18_2
  by_cases c18_3 : p3 = 3
  · replace h := if_t h c18_3
    refine lv_tableIn (tgt := 86) (off := 68) hx hb dX8_corner_18 (by rw [c18_3]; decide) (by rw [c18_3]; decide) (by rw [c18_3]; rfl) (by decide) ?_
    refine lv_aload_n hx hb dX8_corner_86 rfl (lv_at hl 1 rfl) ?_
    refine va_get (D := (dC, dI)) (ci := 3) (v := .ref (x 1)) (C := RX8) (T := TX8) (N := 7) hx hb htg inX8 hown hK hP 0 rfl rfl 0 (by decide) (htg _ gw133) (fun _ h9 => h9) rfl dX8_corner_87 ?_
    refine lv_iload hx hb dX8_corner_90 (lv_at hl 0 rfl) ?_
    obtain ⟨v92, e92, h⟩ := bnd h
    refine cS (av := [.ref (x 1), .int v12]) (rest := []) (st1 := [.int v92]) (k1 := 1) (k2 := 6) hx hb hml hown htg hN hK (c_X6_seenFrom l dC dI cy (fun j => x (1 + j)) F v12 v92 e92) (g_S gw527 gw528 gw22 gw529) hdS_X6_seenFrom rfl ⟨⟨Nat.le_of_ble_eq_true rfl, Nat.le_of_ble_eq_true rfl⟩, Nat.le_of_ble_eq_true rfl, Nat.le_of_ble_eq_true rfl⟩ hP hD hS hA [1, 2, 3, 4, 5] [0] rfl rfl rfl (by decide) (by decide) hl.1 rfl (Nat.le_of_ble_eq_true rfl) rfl rfl rfl dX8_corner_92 (fun H locs hP hD hS => ?_)
    obtain ⟨hP, hD⟩ := x_perm (ws' := wSPo x ++ wFig (fun j => x (1 + j)) cy F) hP hD [0, 1, 2, 3, 4, 5] (by decide) rfl rfl
    obtain rfl := Option.some.inj h
    exact hE H locs 1 6 95 ls _ hP hD hS (by decide) (by decide) rfl ⟨_, rfl, rfl⟩ dX8_corner_95
  replace h := if_f h c18_3
  by_cases c18_4 : p3 = 4
  · replace h := if_t h c18_4
    refine lv_tableIn (tgt := 96) (off := 78) hx hb dX8_corner_18 (by rw [c18_4]; decide) (by rw [c18_4]; decide) (by rw [c18_4]; rfl) (by decide) ?_
    refine lv_aload_n hx hb dX8_corner_96 rfl (lv_at hl 1 rfl) ?_
    refine va_get (D := (dC, dI)) (ci := 3) (v := .ref (x 1)) (C := RX8) (T := TX8) (N := 7) hx hb htg inX8 hown hK hP 0 rfl rfl 0 (by decide) (htg _ gw133) (fun _ h9 => h9) rfl dX8_corner_97 ?_
    refine lv_iload_n hx hb dX8_corner_100 rfl (lv_at hl 2 rfl) ?_
    refine lv_iload_n hx hb dX8_corner_101 rfl (lv_at hl 3 rfl) ?_
    obtain ⟨v102, e102, h⟩ := bnd h
    refine cV (av := [.int p1, .int p2]) (rest := []) (st1 := [.int v102]) (k1 := 1) (k2 := 6) (ci := 0) (q0 := 0) hx hb hml hown htg hN hK (c_X1_bendAt l dC dI cy (fun j => x (1 + j)) F p1 p2 v102 e102) (g_V gw531 gw520 gw521 gw8 gw522) hdV_X1_bendAt rfl ⟨⟨Nat.le_of_ble_eq_true rfl, Nat.le_of_ble_eq_true rfl⟩, Nat.le_of_ble_eq_true rfl, Nat.le_of_ble_eq_true rfl⟩ hP hD hS hA ⟨rfl, rfl⟩ rfl [1, 2, 3, 4, 5] [0] rfl rfl rfl (by decide) (by decide) hl.1 rfl (Nat.le_of_ble_eq_true rfl) rfl rfl rfl dX8_corner_102 (fun H locs hP hD hS => ?_)
    obtain ⟨hP, hD⟩ := x_perm (ws' := wSPo x ++ wFig (fun j => x (1 + j)) cy F) hP hD [0, 1, 2, 3, 4, 5] (by decide) rfl rfl
    refine va_mabs hx hb (hml.trans hl.1.symm) hown (htg _ gw532) (htg _ gw383) (htg _ gw17) (htg _ gw384) (Nat.le_of_ble_eq_true rfl) (Nat.le_of_ble_eq_true rfl) (Nat.le_of_ble_eq_true rfl) (Nat.le_of_ble_eq_true rfl) dX8_corner_105 ?_
    obtain rfl := Option.some.inj h
    exact hE H locs 1 6 108 ls _ hP hD hS (by decide) (by decide) rfl ⟨_, rfl, rfl⟩ dX8_corner_108
  replace h := if_f h c18_4
  by_cases c18_5 : p3 = 5
  · replace h := if_t h c18_5
    refine lv_tableIn (tgt := 109) (off := 91) hx hb dX8_corner_18 (by rw [c18_5]; decide) (by rw [c18_5]; decide) (by rw [c18_5]; rfl) (by decide) ?_
    refine lv_aload_n hx hb dX8_corner_109 rfl (lv_at hl 1 rfl) ?_
    refine va_get (D := (dC, dI)) (ci := 3) (v := .ref (x 1)) (C := RX8) (T := TX8) (N := 7) hx hb htg inX8 hown hK hP 0 rfl rfl 0 (by decide) (htg _ gw133) (fun _ h9 => h9) rfl dX8_corner_110 ?_
    refine lv_iload hx hb dX8_corner_113 (lv_at hl 0 rfl) ?_
    obtain ⟨v115, e115, h⟩ := bnd h
    refine cV (av := [.int v12]) (rest := []) (st1 := [.int v115]) (k1 := 1) (k2 := 6) (ci := 0) (q0 := 0) hx hb hml hown htg hN hK (c_X1_stepsOfSide l dC dI cy (fun j => x (1 + j)) F v12 v115 e115) (g_V gw533 gw534 gw535 gw8 gw536) hdV_X1_stepsOfSide rfl ⟨⟨Nat.le_of_ble_eq_true rfl, Nat.le_of_ble_eq_true rfl⟩, Nat.le_of_ble_eq_true rfl, Nat.le_of_ble_eq_true rfl⟩ hP hD hS hA ⟨rfl, rfl⟩ rfl [1, 2, 3, 4, 5] [0] rfl rfl rfl (by decide) (by decide) hl.1 rfl (Nat.le_of_ble_eq_true rfl) rfl rfl rfl dX8_corner_115 (fun H locs hP hD hS => ?_)
    obtain ⟨hP, hD⟩ := x_perm (ws' := wSPo x ++ wFig (fun j => x (1 + j)) cy F) hP hD [0, 1, 2, 3, 4, 5] (by decide) rfl rfl
    obtain rfl := Option.some.inj h
    exact hE H locs 1 6 118 ls _ hP hD hS (by decide) (by decide) rfl ⟨_, rfl, rfl⟩ dX8_corner_118
  replace h := if_f h c18_5
  refine lv_tableOut (tgt := 119) hx hb dX8_corner_18 (x_tout0_5 c18_0 c18_1 c18_2 c18_3 c18_4 c18_5) (by decide) ?_
  obtain rfl := Option.some.inj h
  exact hT H locs 1 6 119 ls 56 148 60 2 "what is not 0 to 5" hP hD hS (by decide) (by decide) (by decide) (by decide) rfl rfl hl.1 (by decide +kernel) gw427 gw21 exat_2 exgo_2 (by decide +kernel) dX8_corner_119 dX8_corner_122 (Or.inl ⟨dX8_corner_123, dX8_corner_125, dX8_corner_128⟩)
def G_X8_cut (F : Fig) (p1 : Int32) : Option ((Sum Nat Int32)) :=
  (G_X8_checkCorner F 0 p1).bind fun v3 =>
  match v3 with
  | .inl k3 => some (.inl k3)
  | .inr _ =>
    (G_X6_isEar F p1).bind fun v11 =>
    if v11 = 0 then
      some (.inr (-9))
    else
      (G_X1_bendAt F 0 p1).bind fun v23 =>
      some (.inr (if 0 ≤ v23 then v23 else 0 - v23))
abbrev rm_X8_cut : Room := { frames := 7, cells := 1, slots := 6, locals := 122 }
theorem hdS_X8_cut : yX8_cut.cls ≠ "java/lang/invoke/MethodHandle" ∧ yX8_cut.cls ≠ "java/lang/invoke/VarHandle" ∧ (parseMethodDescriptor yX8_cut.desc).map (fun d => d.parameters.length) = some 1 := by decide +kernel
theorem hdV_X8_cut : yX8_cut.cls = RX8 ∧ yX8_cut.cls ≠ "java/lang/invoke/MethodHandle" ∧ yX8_cut.cls ≠ "java/lang/invoke/VarHandle" ∧ (parseMethodDescriptor yX8_cut.desc).map (fun d => d.parameters.length) = some 1 := ⟨rfl, hdS_X8_cut⟩
set_option maxHeartbeats 4000000 in
set_option maxRecDepth 100000 in
theorem c_X8_cut (l : Launch) (dC : Nat → ClassId) (dI : Nat → Nat → Nat) (cy : Nat → ClassId) (hlt : l.stackTraces = false) (x : Nat → Nat) (F : Fig) (p1 : Int32) (res : (Sum Nat Int32)) (h : G_X8_cut F p1 = some res) : CTX l (dC, dI) (TY cy) yX8_cut cX8_cut 2 (some .int) rm_X8_cut [.ref (x 0), .int p1] (wSPo x ++ wFig (fun j => x (1 + j)) cy F) (wSPo x ++ wFig (fun j => x (1 + j)) cy F) (oI res) := by
  refine CTX.mk (own := RX8) hlt ⟨by decide, rfl⟩ (Nat.le_of_ble_eq_true rfl) ?_
  intro p e s mm args below meth cd A Q hx hb hml hown htg hN hK hX0 hA hP hD hS hE hV hT hO ls hl
  have hl : lv_has ls 2 [(0, .ref (x 0)), (1, .int p1)] := hl
  replace h : _ = some res := h
  unfold G_X8_cut at h
  obtain ⟨H, hH⟩ : ∃ H, H = s.heap := ⟨_, rfl⟩
  obtain ⟨locs, hlocs⟩ : ∃ locs : List Loc, locs = [] := ⟨_, rfl⟩
  rw [← hlocs] at hS ⊢
  have hS : va_S A s.heap H locs := by rw [hH]; exact hS
  rw [← hH] at hP ⊢
  refine lv_aload_n hx hb dX8_cut_0 rfl (lv_at hl 0 rfl) ?_
  refine lv_iconst (v := 0) hx hb dX8_cut_1 (by decide) ?_
  refine lv_iload_n hx hb dX8_cut_2 rfl (lv_at hl 1 rfl) ?_
  obtain ⟨v3, e3, h⟩ := bnd h
  rcases hv3 : v3 with k3 | u3
  · simp only [hv3] at h
    refine cXV (av := [.int 0, .int p1]) (rest := []) (k1 := 1) (k2 := 6) (ci := 3) (q0 := 0) hx hb hml hown htg hN hK hX0 (c_X8_checkCorner l dC dI cy hlt x F 0 p1 v3 e3) (g_V gw159 gw161 gw1 gw7 gw162) hdV_X8_checkCorner rfl ⟨⟨Nat.le_of_ble_eq_true rfl, Nat.le_of_ble_eq_true rfl⟩, Nat.le_of_ble_eq_true rfl, Nat.le_of_ble_eq_true rfl⟩ hP hD hS hA ⟨rfl, rfl⟩ rfl [0, 1, 2, 3, 4, 5] [] rfl rfl rfl (by decide) (by decide) hl.1 rfl (Nat.le_of_ble_eq_true rfl) rfl rfl dX8_cut_3 (fun H locs ret ho hP hD hS => ?_) (fun H locs k q ce ho hP hD hS h1 h2 h3 => ?_)
    · rw [hv3] at ho; cases ho
    rw [hv3] at ho
    obtain rfl := Sum.inl.inj ho
    have hP : va_P (dC, dI) vwCl (wSPo x ++ wFig (fun j => x (1 + j)) cy F) H := hP
    have hD : va_D A (wSPo x ++ wFig (fun j => x (1 + j)) cy F) := hD
    obtain rfl := Option.some.inj h
    exact hO H locs 1 6 3 ls _ _ q ce hP hD hS (by decide) (by decide) rfl h1 h2 h3
  simp only [hv3] at h
  refine cXV (av := [.int 0, .int p1]) (rest := []) (k1 := 1) (k2 := 6) (ci := 3) (q0 := 0) hx hb hml hown htg hN hK hX0 (c_X8_checkCorner l dC dI cy hlt x F 0 p1 v3 e3) (g_V gw159 gw161 gw1 gw7 gw162) hdV_X8_checkCorner rfl ⟨⟨Nat.le_of_ble_eq_true rfl, Nat.le_of_ble_eq_true rfl⟩, Nat.le_of_ble_eq_true rfl, Nat.le_of_ble_eq_true rfl⟩ hP hD hS hA ⟨rfl, rfl⟩ rfl [0, 1, 2, 3, 4, 5] [] rfl rfl rfl (by decide) (by decide) hl.1 rfl (Nat.le_of_ble_eq_true rfl) rfl rfl dX8_cut_3 (fun H locs ret ho hP hD hS => ?_) (fun H locs k q ce ho hP hD hS h1 h2 h3 => ?_)
  rotate_left
  · rw [hv3] at ho; cases ho
  rw [hv3] at ho
  obtain rfl := Sum.inr.inj ho
  have hP : va_P (dC, dI) vwCl (wSPo x ++ wFig (fun j => x (1 + j)) cy F) H := hP
  have hD : va_D A (wSPo x ++ wFig (fun j => x (1 + j)) cy F) := hD
  refine W.eq (g2 := F0 mm 6 ls []) rfl ?_
  refine lv_aload_n hx hb dX8_cut_6 rfl (lv_at hl 0 rfl) ?_
  refine va_get (D := (dC, dI)) (ci := 3) (v := .ref (x 1)) (C := RX8) (T := TX8) (N := 7) hx hb htg inX8 hown hK hP 0 rfl rfl 0 (by decide) (htg _ gw133) (fun _ h9 => h9) rfl dX8_cut_7 ?_
  refine lv_iload_n hx hb dX8_cut_10 rfl (lv_at hl 1 rfl) ?_
  obtain ⟨v11, e11, h⟩ := bnd h
  refine cS (av := [.ref (x 1), .int p1]) (rest := []) (st1 := [.int v11]) (k1 := 1) (k2 := 6) hx hb hml hown htg hN hK (c_X6_isEar l dC dI cy (fun j => x (1 + j)) F p1 v11 e11) (g_S gw542 gw543 gw22 gw544) hdS_X6_isEar rfl ⟨⟨Nat.le_of_ble_eq_true rfl, Nat.le_of_ble_eq_true rfl⟩, Nat.le_of_ble_eq_true rfl, Nat.le_of_ble_eq_true rfl⟩ hP hD hS hA [1, 2, 3, 4, 5] [0] rfl rfl rfl (by decide) (by decide) hl.1 rfl (Nat.le_of_ble_eq_true rfl) rfl rfl rfl dX8_cut_11 (fun H locs hP hD hS => ?_)
  obtain ⟨hP, hD⟩ := x_perm (ws' := wSPo x ++ wFig (fun j => x (1 + j)) cy F) hP hD [0, 1, 2, 3, 4, 5] (by decide) rfl rfl
  refine lv_if_eq (tgt := 32) hx hb dX8_cut_14 (by decide) (fun c14 => ?_) (fun c14 => ?_)
  · replace h := if_t h c14
    refine lv_bipush (v := (-9)) hx hb dX8_cut_32 (by decide) ?_
    obtain rfl := Option.some.inj h
    exact hE H locs 1 6 34 ls _ hP hD hS (by decide) (by decide) rfl ⟨_, rfl, rfl⟩ dX8_cut_34
  replace h := if_f h c14
  refine lv_aload_n hx hb dX8_cut_17 rfl (lv_at hl 0 rfl) ?_
  refine va_get (D := (dC, dI)) (ci := 3) (v := .ref (x 1)) (C := RX8) (T := TX8) (N := 7) hx hb htg inX8 hown hK hP 0 rfl rfl 0 (by decide) (htg _ gw133) (fun _ h9 => h9) rfl dX8_cut_18 ?_
  refine lv_iconst (v := 0) hx hb dX8_cut_21 (by decide) ?_
  refine lv_iload_n hx hb dX8_cut_22 rfl (lv_at hl 1 rfl) ?_
  obtain ⟨v23, e23, h⟩ := bnd h
  refine cV (av := [.int 0, .int p1]) (rest := []) (st1 := [.int v23]) (k1 := 1) (k2 := 6) (ci := 0) (q0 := 0) hx hb hml hown htg hN hK (c_X1_bendAt l dC dI cy (fun j => x (1 + j)) F 0 p1 v23 e23) (g_V gw531 gw520 gw521 gw8 gw522) hdV_X1_bendAt rfl ⟨⟨Nat.le_of_ble_eq_true rfl, Nat.le_of_ble_eq_true rfl⟩, Nat.le_of_ble_eq_true rfl, Nat.le_of_ble_eq_true rfl⟩ hP hD hS hA ⟨rfl, rfl⟩ rfl [1, 2, 3, 4, 5] [0] rfl rfl rfl (by decide) (by decide) hl.1 rfl (Nat.le_of_ble_eq_true rfl) rfl rfl rfl dX8_cut_23 (fun H locs hP hD hS => ?_)
  obtain ⟨hP, hD⟩ := x_perm (ws' := wSPo x ++ wFig (fun j => x (1 + j)) cy F) hP hD [0, 1, 2, 3, 4, 5] (by decide) rfl rfl
  refine va_mabs hx hb (hml.trans hl.1.symm) hown (htg _ gw532) (htg _ gw383) (htg _ gw17) (htg _ gw384) (Nat.le_of_ble_eq_true rfl) (Nat.le_of_ble_eq_true rfl) (Nat.le_of_ble_eq_true rfl) (Nat.le_of_ble_eq_true rfl) dX8_cut_26 ?_
  refine lv_goto (tgt := 34) hx hb dX8_cut_29 (by decide) ?_
  obtain rfl := Option.some.inj h
  exact hE H locs 1 6 34 ls _ hP hD hS (by decide) (by decide) rfl ⟨_, rfl, rfl⟩ dX8_cut_34
def G_X8_inRow_j64 (r26 : Int32 → Int32 → Int32 → Int32 → Option ((Sum Nat Int32))) (F : Fig) (l4_64 : Int32) (l3_64 : Int32) (l1_64 : Int32) (l2_64 : Int32) : Option ((Sum Nat Int32)) :=
  r26 (l4_64 + 1) l3_64 l1_64 l2_64
def G_X8_inRow_j61 (r26 : Int32 → Int32 → Int32 → Int32 → Option ((Sum Nat Int32))) (F : Fig) (l4_61 : Int32) (l3_61 : Int32) (l1_61 : Int32) (l2_61 : Int32) : Option ((Sum Nat Int32)) :=
  G_X8_inRow_j64 r26 F l4_61 (l3_61 + 1) l1_61 l2_61
def G_X8_inRow_L26  (F : Fig) : Nat → Int32 → Int32 → Int32 → Int32 → Option ((Sum Nat Int32))
  | 0, _, _, _, _ => none
  | n26 + 1, l4_26, l3_26, l1_26, l2_26 =>
    if 15 < l4_26 then
      some (.inr l3_26)
    else
      (G_X1_placeOf F l4_26 l1_26).bind fun v40 =>
      if v40 = 2 then
        G_X8_inRow_j61 (G_X8_inRow_L26 F n26) F l4_26 l3_26 l1_26 l2_26
      else
        if l2_26 = 0 then
          G_X8_inRow_j64 (G_X8_inRow_L26 F n26) F l4_26 l3_26 l1_26 l2_26
        else
          if v40 = 1 then
            G_X8_inRow_j61 (G_X8_inRow_L26 F n26) F l4_26 l3_26 l1_26 l2_26
          else
            G_X8_inRow_j64 (G_X8_inRow_L26 F n26) F l4_26 l3_26 l1_26 l2_26
def G_X8_inRow (F : Fig) (p1 : Int32) (p2 : Int32) : Option ((Sum Nat Int32)) :=
  (G_X8_inRange p1 0 15).bind fun v4 =>
  if v4 = 0 then
    some (.inl 2)
  else
    G_X8_inRow_L26 F FU 0 0 p1 p2
abbrev rm_X8_inRow : Room := { frames := 6, cells := 1, slots := 6, locals := 100 }
theorem hdS_X8_inRow : yX8_inRow.cls ≠ "java/lang/invoke/MethodHandle" ∧ yX8_inRow.cls ≠ "java/lang/invoke/VarHandle" ∧ (parseMethodDescriptor yX8_inRow.desc).map (fun d => d.parameters.length) = some 2 := by decide +kernel
theorem hdV_X8_inRow : yX8_inRow.cls = RX8 ∧ yX8_inRow.cls ≠ "java/lang/invoke/MethodHandle" ∧ yX8_inRow.cls ≠ "java/lang/invoke/VarHandle" ∧ (parseMethodDescriptor yX8_inRow.desc).map (fun d => d.parameters.length) = some 2 := ⟨rfl, hdS_X8_inRow⟩
set_option maxHeartbeats 4000000 in
set_option maxRecDepth 100000 in
theorem c_X8_inRow (l : Launch) (dC : Nat → ClassId) (dI : Nat → Nat → Nat) (cy : Nat → ClassId) (hlt : l.stackTraces = false) (x : Nat → Nat) (F : Fig) (p1 : Int32) (p2 : Int32) (res : (Sum Nat Int32)) (h : G_X8_inRow F p1 p2 = some res) : CTX l (dC, dI) (TY cy) yX8_inRow cX8_inRow 6 (some .int) rm_X8_inRow [.ref (x 0), .int p1, .int p2] (wSPo x ++ wFig (fun j => x (1 + j)) cy F) (wSPo x ++ wFig (fun j => x (1 + j)) cy F) (oI res) := by
  refine CTX.mk (own := RX8) hlt ⟨by decide, rfl⟩ (Nat.le_of_ble_eq_true rfl) ?_
  intro p e s mm args below meth cd A Q hx hb hml hown htg hN hK hX0 hA hP hD hS hE hV hT hO ls hl
  have hl : lv_has ls 6 [(0, .ref (x 0)), (1, .int p1), (2, .int p2)] := hl
  replace h : _ = some res := h
  unfold G_X8_inRow at h
  obtain ⟨H, hH⟩ : ∃ H, H = s.heap := ⟨_, rfl⟩
  obtain ⟨locs, hlocs⟩ : ∃ locs : List Loc, locs = [] := ⟨_, rfl⟩
  rw [← hlocs] at hS ⊢
  have hS : va_S A s.heap H locs := by rw [hH]; exact hS
  rw [← hH] at hP ⊢
  refine lv_iload_n hx hb dX8_inRow_0 rfl (lv_at hl 1 rfl) ?_
  refine lv_iconst (v := 0) hx hb dX8_inRow_1 (by decide) ?_
  refine lv_bipush (v := 15) hx hb dX8_inRow_2 (by decide) ?_
  obtain ⟨v4, e4, h⟩ := bnd h
  refine cS (av := [.int p1, .int 0, .int 15]) (rest := []) (st1 := [.int v4]) (k1 := 0) (k2 := 0) hx hb hml hown htg hN hK (c_X8_inRange l dC dI cy   p1 0 15 v4 e4) (g_S gw426 gw255 gw7 gw256) hdS_X8_inRange rfl ⟨⟨Nat.le_of_ble_eq_true rfl, Nat.le_of_ble_eq_true rfl⟩, Nat.le_of_ble_eq_true rfl, Nat.le_of_ble_eq_true rfl⟩ hP hD hS hA [] [0, 1, 2, 3, 4, 5] rfl rfl rfl (by decide) (by decide) hl.1 rfl (Nat.le_of_ble_eq_true rfl) rfl rfl rfl dX8_inRow_4 (fun H locs hP hD hS => ?_)
  obtain ⟨hP, hD⟩ := x_perm (ws' := wSPo x ++ wFig (fun j => x (1 + j)) cy F) hP hD [0, 1, 2, 3, 4, 5] (by decide) rfl rfl
  refine lv_if_ne (tgt := 21) hx hb dX8_inRow_7 (by decide) (fun c7 => ?_) (fun c7 => ?_)
  · replace h := if_f h c7
    refine lv_iconst (v := 0) hx hb dX8_inRow_21 (by decide) ?_
    refine lv_istore_n (lv' := [(3, .int 0), (0, .ref (x 0)), (1, .int p1), (2, .int p2)]) hx hb dX8_inRow_22 rfl hl (by decide) rfl (fun ls hl => ?_)
    refine lv_iconst (v := 0) hx hb dX8_inRow_23 (by decide) ?_
    refine lv_istore (lv' := [(4, .int 0), (3, .int 0), (0, .ref (x 0)), (1, .int p1), (2, .int p2)]) hx hb dX8_inRow_24 hl (by decide) rfl (fun ls hl => ?_)
    have hL26 : ∀ (n26 : Nat) (l4_26 : Int32) (l3_26 : Int32) (l1_26 : Int32) (l2_26 : Int32) (H : Heap) (locs : List Loc) (ls : Array Slot), G_X8_inRow_L26 F n26 l4_26 l3_26 l1_26 l2_26 = some res → va_P (dC, dI) vwCl (wSPo x ++ wFig (fun j => x (1 + j)) cy F) H → va_D A (wSPo x ++ wFig (fun j => x (1 + j)) cy F) → va_S A s.heap H locs → lv_has ls 6 [(4, .int l4_26), (3, .int l3_26), (0, .ref (x 0)), (1, .int l1_26), (2, .int l2_26)] → W p l e rm_X8_inRow s mm args below meth cd H locs 0 0 Q (F0 mm 26 ls []) := by
      intro n26
      induction n26 with
      | zero => intro l4_26 l3_26 l1_26 l2_26 H locs ls h; exact absurd h (by simp [G_X8_inRow_L26])
      | succ n26 ih26 =>
        intro l4_26 l3_26 l1_26 l2_26 H locs ls h hP hD hS hl
        rw [G_X8_inRow_L26] at h
        refine lv_iload hx hb dX8_inRow_26 (lv_at hl 0 rfl) ?_
        refine lv_bipush (v := 15) hx hb dX8_inRow_28 (by decide) ?_
        refine lv_icmp_gt (tgt := 70) hx hb dX8_inRow_30 (by decide) (fun c30 => ?_) (fun c30 => ?_)
        · replace h := if_t h c30
          refine lv_iload_n hx hb dX8_inRow_70 rfl (lv_at hl 1 rfl) ?_
          obtain rfl := Option.some.inj h
          exact hE H locs 0 0 71 ls _ hP hD hS (by decide) (by decide) rfl ⟨_, rfl, rfl⟩ dX8_inRow_71
        replace h := if_f h c30
        refine lv_aload_n hx hb dX8_inRow_33 rfl (lv_at hl 2 rfl) ?_
        refine va_get (D := (dC, dI)) (ci := 3) (v := .ref (x 1)) (C := RX8) (T := TX8) (N := 7) hx hb htg inX8 hown hK hP 0 rfl rfl 0 (by decide) (htg _ gw133) (fun _ h9 => h9) rfl dX8_inRow_34 ?_
        refine lv_iload hx hb dX8_inRow_37 (lv_at hl 0 rfl) ?_
        refine lv_iload_n hx hb dX8_inRow_39 rfl (lv_at hl 3 rfl) ?_
        obtain ⟨v40, e40, h⟩ := bnd h
        refine cV (av := [.int l4_26, .int l1_26]) (rest := []) (st1 := [.int v40]) (k1 := 0) (k2 := 0) (ci := 0) (q0 := 0) hx hb hml hown htg hN hK (c_X1_placeOf l dC dI cy (fun j => x (1 + j)) F l4_26 l1_26 v40 e40) (g_V gw556 gw557 gw558 gw8 gw559) hdV_X1_placeOf rfl ⟨⟨Nat.le_of_ble_eq_true rfl, Nat.le_of_ble_eq_true rfl⟩, Nat.le_of_ble_eq_true rfl, Nat.le_of_ble_eq_true rfl⟩ hP hD hS hA ⟨rfl, rfl⟩ rfl [1, 2, 3, 4, 5] [0] rfl rfl rfl (by decide) (by decide) hl.1 rfl (Nat.le_of_ble_eq_true rfl) rfl rfl rfl dX8_inRow_40 (fun H locs hP hD hS => ?_)
        obtain ⟨hP, hD⟩ := x_perm (ws' := wSPo x ++ wFig (fun j => x (1 + j)) cy F) hP hD [0, 1, 2, 3, 4, 5] (by decide) rfl rfl
        refine lv_istore (lv' := [(5, .int v40), (4, .int l4_26), (3, .int l3_26), (0, .ref (x 0)), (1, .int l1_26), (2, .int l2_26)]) hx hb dX8_inRow_43 hl (by decide) rfl (fun ls hl => ?_)
        refine lv_iload hx hb dX8_inRow_45 (lv_at hl 0 rfl) ?_
        refine lv_iconst (v := 2) hx hb dX8_inRow_47 (by decide) ?_
        have hj64 : ∀ (l4_64 : Int32) (l3_64 : Int32) (l1_64 : Int32) (l2_64 : Int32) (H : Heap) (locs : List Loc) (ls : Array Slot), G_X8_inRow_j64 (G_X8_inRow_L26 F n26) F l4_64 l3_64 l1_64 l2_64 = some res → va_P (dC, dI) vwCl (wSPo x ++ wFig (fun j => x (1 + j)) cy F) H → va_D A (wSPo x ++ wFig (fun j => x (1 + j)) cy F) → va_S A s.heap H locs → lv_has ls 6 [(4, .int l4_64), (3, .int l3_64), (0, .ref (x 0)), (1, .int l1_64), (2, .int l2_64)] → W p l e rm_X8_inRow s mm args below meth cd H locs 0 0 Q (F0 mm 64 ls []) := by
          intro l4_64 l3_64 l1_64 l2_64 H locs ls h hP hD hS hl
          unfold G_X8_inRow_j64 at h
          refine lv_iinc (v := l4_64 + 1) (lv' := [(4, .int (l4_64 + 1)), (3, .int l3_64), (0, .ref (x 0)), (1, .int l1_64), (2, .int l2_64)]) hx hb dX8_inRow_64 hl (k := 0) rfl rfl (by decide) rfl (fun ls hl => ?_)
          refine lv_goto (tgt := 26) hx hb dX8_inRow_67 (by decide) ?_
          exact ih26 (l4_64 + 1) l3_64 l1_64 l2_64 H locs ls h hP hD hS (lv_sub hl [0, 1, 2, 3, 4] rfl)
        have hj61 : ∀ (l4_61 : Int32) (l3_61 : Int32) (l1_61 : Int32) (l2_61 : Int32) (H : Heap) (locs : List Loc) (ls : Array Slot), G_X8_inRow_j61 (G_X8_inRow_L26 F n26) F l4_61 l3_61 l1_61 l2_61 = some res → va_P (dC, dI) vwCl (wSPo x ++ wFig (fun j => x (1 + j)) cy F) H → va_D A (wSPo x ++ wFig (fun j => x (1 + j)) cy F) → va_S A s.heap H locs → lv_has ls 6 [(4, .int l4_61), (3, .int l3_61), (0, .ref (x 0)), (1, .int l1_61), (2, .int l2_61)] → W p l e rm_X8_inRow s mm args below meth cd H locs 0 0 Q (F0 mm 61 ls []) := by
          intro l4_61 l3_61 l1_61 l2_61 H locs ls h hP hD hS hl
          unfold G_X8_inRow_j61 at h
          refine lv_iinc (v := l3_61 + 1) (lv' := [(3, .int (l3_61 + 1)), (4, .int l4_61), (0, .ref (x 0)), (1, .int l1_61), (2, .int l2_61)]) hx hb dX8_inRow_61 hl (k := 1) rfl rfl (by decide) rfl (fun ls hl => ?_)
          exact hj64 l4_61 (l3_61 + 1) l1_61 l2_61 H locs ls h hP hD hS (lv_sub hl [1, 0, 2, 3, 4] rfl)
        refine lv_icmp_eq (tgt := 61) hx hb dX8_inRow_48 (by decide) (fun c48 => ?_) (fun c48 => ?_)
        · replace h := if_t h c48
          exact hj61 l4_26 l3_26 l1_26 l2_26 H locs ls h hP hD hS (lv_sub hl [1, 2, 3, 4, 5] rfl)
        replace h := if_f h c48
        refine lv_iload_n hx hb dX8_inRow_51 rfl (lv_at hl 5 rfl) ?_
        refine lv_if_eq (tgt := 64) hx hb dX8_inRow_52 (by decide) (fun c52 => ?_) (fun c52 => ?_)
        · replace h := if_t h c52
          exact hj64 l4_26 l3_26 l1_26 l2_26 H locs ls h hP hD hS (lv_sub hl [1, 2, 3, 4, 5] rfl)
        replace h := if_f h c52
        refine lv_iload hx hb dX8_inRow_55 (lv_at hl 0 rfl) ?_
        refine lv_iconst (v := 1) hx hb dX8_inRow_57 (by decide) ?_
        refine lv_icmp_ne (tgt := 64) hx hb dX8_inRow_58 (by decide) (fun c58 => ?_) (fun c58 => ?_)
        · replace h := if_f h c58
          exact hj64 l4_26 l3_26 l1_26 l2_26 H locs ls h hP hD hS (lv_sub hl [1, 2, 3, 4, 5] rfl)
        replace h := if_t h c58
        exact hj61 l4_26 l3_26 l1_26 l2_26 H locs ls h hP hD hS (lv_sub hl [1, 2, 3, 4, 5] rfl)
    exact hL26 FU 0 0 p1 p2 H locs ls h hP hD hS (lv_sub hl [0, 1, 2, 3, 4] rfl)
  replace h := if_t h c7
  obtain rfl := Option.some.inj h
  exact hT H locs 0 0 10 ls 56 263 60 2 "the row is not on the paper" hP hD hS (by decide) (by decide) (by decide) (by decide) rfl rfl hl.1 (by decide +kernel) gw427 gw21 exat_2 exgo_2 (by decide +kernel) dX8_inRow_10 dX8_inRow_13 (Or.inr ⟨dX8_inRow_14, dX8_inRow_17, dX8_inRow_20⟩)
def G_X8_insert (F : Fig) (D : Fig) (P : PastS) (p1 : Int32) (p2 : Int32) (p3 : Int32) (p4 : Int32) : Option ((Sum Nat Int32) × Fig × Fig × PastS) :=
  (G_X8_checkCorner F p1 p2).bind fun v3 =>
  match v3 with
  | .inl k3 => some (.inl k3, F, D, P)
  | .inr _ =>
    (G_X1_copyFrom D F).bind fun v14 =>
    (G_X0_addedCorner v14 p1 p2 p3 p4).bind fun v26 =>
    if v26.1 = 0 then
      some (.inl 3, F, v26.2, P)
    else
      (G_X8_keepDraft F v26.2 P).bind fun v43 =>
      (G_X2_area v43.1).bind fun v50 =>
      some (.inr v50, v43.1, v26.2, v43.2)
abbrev rm_X8_insert : Room := { frames := 7, cells := 2, slots := 12, locals := 138 }
theorem hdS_X8_insert : yX8_insert.cls ≠ "java/lang/invoke/MethodHandle" ∧ yX8_insert.cls ≠ "java/lang/invoke/VarHandle" ∧ (parseMethodDescriptor yX8_insert.desc).map (fun d => d.parameters.length) = some 4 := by decide +kernel
theorem hdV_X8_insert : yX8_insert.cls = RX8 ∧ yX8_insert.cls ≠ "java/lang/invoke/MethodHandle" ∧ yX8_insert.cls ≠ "java/lang/invoke/VarHandle" ∧ (parseMethodDescriptor yX8_insert.desc).map (fun d => d.parameters.length) = some 4 := ⟨rfl, hdS_X8_insert⟩
set_option maxHeartbeats 4000000 in
set_option maxRecDepth 100000 in
theorem c_X8_insert (l : Launch) (dC : Nat → ClassId) (dI : Nat → Nat → Nat) (cy : Nat → ClassId) (hlt : l.stackTraces = false) (x : Nat → Nat) (F : Fig) (D : Fig) (P : PastS) (p1 : Int32) (p2 : Int32) (p3 : Int32) (p4 : Int32) (res : (Sum Nat Int32) × Fig × Fig × PastS) (h : G_X8_insert F D P p1 p2 p3 p4 = some res) : CTX l (dC, dI) (TY cy) yX8_insert cX8_insert 5 (some .int) rm_X8_insert [.ref (x 0), .int p1, .int p2, .int p3, .int p4] (wSPo x ++ wFig (fun j => x (1 + j)) cy F ++ wFig (fun j => x (6 + j)) cy D ++ wP2 (fun j => x (11 + j)) cy P ++ wPF (fun j => x (11 + j)) cy (p_figs P)) (wSPo x ++ wFig (fun j => x (1 + j)) cy res.2.1 ++ wFig (fun j => x (6 + j)) cy res.2.2.1 ++ wP2 (fun j => x (11 + j)) cy res.2.2.2 ++ wPF (fun j => x (11 + j)) cy (p_figs res.2.2.2)) (oI res.1) := by
  refine CTX.mk (own := RX8) hlt ⟨by decide, rfl⟩ (Nat.le_of_ble_eq_true rfl) ?_
  intro p e s mm args below meth cd A Q hx hb hml hown htg hN hK hX0 hA hP hD hS hE hV hT hO ls hl
  have hl : lv_has ls 5 [(0, .ref (x 0)), (1, .int p1), (2, .int p2), (3, .int p3), (4, .int p4)] := hl
  replace h : _ = some res := h
  unfold G_X8_insert at h
  obtain ⟨H, hH⟩ : ∃ H, H = s.heap := ⟨_, rfl⟩
  obtain ⟨locs, hlocs⟩ : ∃ locs : List Loc, locs = [] := ⟨_, rfl⟩
  rw [← hlocs] at hS ⊢
  have hS : va_S A s.heap H locs := by rw [hH]; exact hS
  rw [← hH] at hP ⊢
  refine lv_aload_n hx hb dX8_insert_0 rfl (lv_at hl 0 rfl) ?_
  refine lv_iload_n hx hb dX8_insert_1 rfl (lv_at hl 1 rfl) ?_
  refine lv_iload_n hx hb dX8_insert_2 rfl (lv_at hl 2 rfl) ?_
  obtain ⟨v3, e3, h⟩ := bnd h
  rcases hv3 : v3 with k3 | u3
  · simp only [hv3] at h
    refine cXVp (av := [.int p1, .int p2]) (rest := []) (k1 := 1) (k2 := 6) (wn := wSPo x ++ wFig (fun j => x (1 + j)) cy F ++ wFig (fun j => x (6 + j)) cy D ++ wP2 (fun j => x (11 + j)) cy P ++ wPF (fun j => x (11 + j)) cy (p_figs P)) (ci := 3) (q0 := 0) hx hb hml hown htg hN hK hX0 (c_X8_checkCorner l dC dI cy hlt x F p1 p2 v3 e3) (g_V gw159 gw161 gw1 gw7 gw162) hdV_X8_checkCorner rfl ⟨⟨Nat.le_of_ble_eq_true rfl, Nat.le_of_ble_eq_true rfl⟩, Nat.le_of_ble_eq_true rfl, Nat.le_of_ble_eq_true rfl⟩ hP hD hS hA ⟨rfl, rfl⟩ rfl (perm_N (perm_ix 13 [0, 1, 2, 3, 4, 5] [6, 7, 8, 9, 10, 11, 12] rfl rfl rfl (by decide))) (perm_Nb (perm_ix 13 [6, 7, 8, 9, 10, 11, 12] [0, 1, 2, 3, 4, 5] rfl rfl rfl (by decide))) hl.1 rfl (Nat.le_of_ble_eq_true rfl) rfl rfl dX8_insert_3 (fun H locs ret ho hP hD hS => ?_) (fun H locs k q ce ho hP hD hS h1 h2 h3 => ?_)
    · rw [hv3] at ho; cases ho
    rw [hv3] at ho
    obtain rfl := Sum.inl.inj ho
    obtain rfl := Option.some.inj h
    exact hO H locs 1 6 3 ls _ _ q ce hP hD hS (by decide) (by decide) rfl h1 h2 h3
  simp only [hv3] at h
  refine cXVp (av := [.int p1, .int p2]) (rest := []) (k1 := 1) (k2 := 6) (wn := wSPo x ++ wFig (fun j => x (1 + j)) cy F ++ wFig (fun j => x (6 + j)) cy D ++ wP2 (fun j => x (11 + j)) cy P ++ wPF (fun j => x (11 + j)) cy (p_figs P)) (ci := 3) (q0 := 0) hx hb hml hown htg hN hK hX0 (c_X8_checkCorner l dC dI cy hlt x F p1 p2 v3 e3) (g_V gw159 gw161 gw1 gw7 gw162) hdV_X8_checkCorner rfl ⟨⟨Nat.le_of_ble_eq_true rfl, Nat.le_of_ble_eq_true rfl⟩, Nat.le_of_ble_eq_true rfl, Nat.le_of_ble_eq_true rfl⟩ hP hD hS hA ⟨rfl, rfl⟩ rfl (perm_N (perm_ix 13 [0, 1, 2, 3, 4, 5] [6, 7, 8, 9, 10, 11, 12] rfl rfl rfl (by decide))) (perm_Nb (perm_ix 13 [6, 7, 8, 9, 10, 11, 12] [0, 1, 2, 3, 4, 5] rfl rfl rfl (by decide))) hl.1 rfl (Nat.le_of_ble_eq_true rfl) rfl rfl dX8_insert_3 (fun H locs ret ho hP hD hS => ?_) (fun H locs k q ce ho hP hD hS h1 h2 h3 => ?_)
  rotate_left
  · rw [hv3] at ho; cases ho
  rw [hv3] at ho
  obtain rfl := Sum.inr.inj ho
  refine W.eq (g2 := F0 mm 6 ls []) rfl ?_
  refine lv_aload_n hx hb dX8_insert_6 rfl (lv_at hl 0 rfl) ?_
  refine va_get (D := (dC, dI)) (ci := 3) (v := .ref (x 6)) (C := RX8) (T := TX8) (N := 7) hx hb htg inX8 hown hK hP 0 rfl rfl 1 (by decide) (htg _ gw134) (fun _ h9 => h9) rfl dX8_insert_7 ?_
  refine lv_aload_n hx hb dX8_insert_10 rfl (lv_at hl 0 rfl) ?_
  refine va_get (D := (dC, dI)) (ci := 3) (v := .ref (x 1)) (C := RX8) (T := TX8) (N := 7) hx hb htg inX8 hown hK hP 0 rfl rfl 0 (by decide) (htg _ gw133) (fun _ h9 => h9) rfl dX8_insert_11 ?_
  obtain ⟨v14, e14, h⟩ := bnd h
  refine cVp (av := [.ref (x 1)]) (rest := []) (st1 := []) (k1 := 1) (k2 := 6) (wn := wSPo x ++ wFig (fun j => x (1 + j)) cy F ++ wFig (fun j => x (6 + j)) cy v14 ++ wP2 (fun j => x (11 + j)) cy P ++ wPF (fun j => x (11 + j)) cy (p_figs P)) (ci := 0) (q0 := 0) hx hb hml hown htg hN hK (c_X1_copyFrom l dC dI cy (fun j => x (6 + j)) (fun j => x (1 + j)) D F  v14 e14) (g_V gw235 gw236 gw237 gw8 gw238) hdV_X1_copyFrom rfl ⟨⟨Nat.le_of_ble_eq_true rfl, Nat.le_of_ble_eq_true rfl⟩, Nat.le_of_ble_eq_true rfl, Nat.le_of_ble_eq_true rfl⟩ hP hD hS hA ⟨rfl, rfl⟩ rfl (perm_N (perm_ix 13 [6, 7, 8, 9, 10, 1, 2, 3, 4, 5] [0, 11, 12] rfl rfl rfl (by decide))) (perm_Nb (perm_ix 13 [0, 11, 12] [6, 7, 8, 9, 10, 1, 2, 3, 4, 5] rfl rfl rfl (by decide))) hl.1 rfl (Nat.le_of_ble_eq_true rfl) rfl rfl rfl dX8_insert_14 (fun H locs hP hD hS => ?_)
  refine lv_aload_n hx hb dX8_insert_17 rfl (lv_at hl 0 rfl) ?_
  refine va_get (D := (dC, dI)) (ci := 3) (v := .ref (x 6)) (C := RX8) (T := TX8) (N := 7) hx hb htg inX8 hown hK hP 0 rfl rfl 1 (by decide) (htg _ gw134) (fun _ h9 => h9) rfl dX8_insert_18 ?_
  refine lv_iload_n hx hb dX8_insert_21 rfl (lv_at hl 1 rfl) ?_
  refine lv_iload_n hx hb dX8_insert_22 rfl (lv_at hl 2 rfl) ?_
  refine lv_iload_n hx hb dX8_insert_23 rfl (lv_at hl 3 rfl) ?_
  refine lv_iload hx hb dX8_insert_24 (lv_at hl 4 rfl) ?_
  obtain ⟨v26, e26, h⟩ := bnd h
  refine cSp (av := [.ref (x 6), .int p1, .int p2, .int p3, .int p4]) (rest := []) (st1 := [.int v26.1]) (k1 := 1) (k2 := 6) (wn := wSPo x ++ wFig (fun j => x (1 + j)) cy F ++ wFig (fun j => x (6 + j)) cy v26.2 ++ wP2 (fun j => x (11 + j)) cy P ++ wPF (fun j => x (11 + j)) cy (p_figs P)) hx hb hml hown htg hN hK (c_X0_addedCorner l dC dI cy (fun j => x (6 + j)) v14 p1 p2 p3 p4 v26 e26) (g_S gw392 gw393 gw18 gw394) hdS_X0_addedCorner rfl ⟨⟨Nat.le_of_ble_eq_true rfl, Nat.le_of_ble_eq_true rfl⟩, Nat.le_of_ble_eq_true rfl, Nat.le_of_ble_eq_true rfl⟩ hP hD hS hA (perm_N (perm_ix 13 [6, 7, 8, 9, 10] [0, 1, 2, 3, 4, 5, 11, 12] rfl rfl rfl (by decide))) (perm_Nb (perm_ix 13 [0, 1, 2, 3, 4, 5, 11, 12] [6, 7, 8, 9, 10] rfl rfl rfl (by decide))) hl.1 rfl (Nat.le_of_ble_eq_true rfl) rfl rfl rfl dX8_insert_26 (fun H locs hP hD hS => ?_)
  refine lv_if_ne (tgt := 42) hx hb dX8_insert_29 (by decide) (fun c29 => ?_) (fun c29 => ?_)
  · replace h := if_f h c29
    refine lv_aload_n hx hb dX8_insert_42 rfl (lv_at hl 0 rfl) ?_
    obtain ⟨v43, e43, h⟩ := bnd h
    refine cVp (av := []) (rest := []) (st1 := []) (k1 := 1) (k2 := 6) (wn := wSPo x ++ wFig (fun j => x (1 + j)) cy v43.1 ++ wFig (fun j => x (6 + j)) cy v26.2 ++ wP2 (fun j => x (11 + j)) cy v43.2 ++ wPF (fun j => x (11 + j)) cy (p_figs v43.2)) (ci := 3) (q0 := 0) hx hb hml hown htg hN hK (c_X8_keepDraft l dC dI cy x F v26.2 P  v43 e43) (g_V gw356 gw358 gw4 gw7 gw359) hdV_X8_keepDraft rfl ⟨⟨Nat.le_of_ble_eq_true rfl, Nat.le_of_ble_eq_true rfl⟩, Nat.le_of_ble_eq_true rfl, Nat.le_of_ble_eq_true rfl⟩ hP hD hS hA ⟨rfl, rfl⟩ rfl (perm_T (perm_ix 13 [0, 1, 2, 3, 4, 5, 6, 7, 8, 9, 10, 11, 12] [] rfl rfl rfl (by decide))) (perm_Tb (perm_ix 13 [] [0, 1, 2, 3, 4, 5, 6, 7, 8, 9, 10, 11, 12] rfl rfl rfl (by decide))) hl.1 rfl (Nat.le_of_ble_eq_true rfl) rfl rfl rfl dX8_insert_43 (fun H locs hP hD hS => ?_)
    refine lv_aload_n hx hb dX8_insert_46 rfl (lv_at hl 0 rfl) ?_
    refine va_get (D := (dC, dI)) (ci := 3) (v := .ref (x 1)) (C := RX8) (T := TX8) (N := 7) hx hb htg inX8 hown hK hP 0 rfl rfl 0 (by decide) (htg _ gw133) (fun _ h9 => h9) rfl dX8_insert_47 ?_
    obtain ⟨v50, e50, h⟩ := bnd h
    refine cSp (av := [.ref (x 1)]) (rest := []) (st1 := [.int v50]) (k1 := 1) (k2 := 6) (wn := wSPo x ++ wFig (fun j => x (1 + j)) cy v43.1 ++ wFig (fun j => x (6 + j)) cy v26.2 ++ wP2 (fun j => x (11 + j)) cy v43.2 ++ wPF (fun j => x (11 + j)) cy (p_figs v43.2)) hx hb hml hown htg hN hK (c_X2_area l dC dI cy (fun j => x (1 + j)) v43.1  v50 e50) (g_S gw365 gw366 gw20 gw367) hdS_X2_area rfl ⟨⟨Nat.le_of_ble_eq_true rfl, Nat.le_of_ble_eq_true rfl⟩, Nat.le_of_ble_eq_true rfl, Nat.le_of_ble_eq_true rfl⟩ hP hD hS hA (perm_N (perm_ix 13 [1, 2, 3, 4, 5] [0, 6, 7, 8, 9, 10, 11, 12] rfl rfl rfl (by decide))) (perm_Nb (perm_ix 13 [0, 6, 7, 8, 9, 10, 11, 12] [1, 2, 3, 4, 5] rfl rfl rfl (by decide))) hl.1 rfl (Nat.le_of_ble_eq_true rfl) rfl rfl rfl dX8_insert_50 (fun H locs hP hD hS => ?_)
    obtain rfl := Option.some.inj h
    exact hE H locs 1 6 53 ls _ hP hD hS (by decide) (by decide) rfl ⟨_, rfl, rfl⟩ dX8_insert_53
  replace h := if_t h c29
  obtain rfl := Option.some.inj h
  exact hT H locs 1 6 32 ls 67 204 71 3 "the ring is full, or a rule would not hold" hP hD hS (by decide) (by decide) (by decide) (by decide) rfl rfl hl.1 (by decide +kernel) gw340 gw19 exat_3 exgo_3 (by decide +kernel) dX8_insert_32 dX8_insert_35 (Or.inl ⟨dX8_insert_36, dX8_insert_38, dX8_insert_41⟩)
def G_X8_move (F : Fig) (D : Fig) (P : PastS) (p1 : Int32) (p2 : Int32) (p3 : Int32) (p4 : Int32) : Option ((Sum Nat Int32) × Fig × Fig × PastS) :=
  (G_X8_checkCorner F p1 p2).bind fun v3 =>
  match v3 with
  | .inl k3 => some (.inl k3, F, D, P)
  | .inr _ =>
    (G_X1_copyFrom D F).bind fun v14 =>
    (G_X0_movedCorner v14 p1 p2 p3 p4).bind fun v26 =>
    if v26.1 = 0 then
      some (.inl 3, F, v26.2, P)
    else
      (G_X8_keepDraft F v26.2 P).bind fun v43 =>
      (G_X2_area v43.1).bind fun v50 =>
      some (.inr v50, v43.1, v26.2, v43.2)
abbrev rm_X8_move : Room := { frames := 7, cells := 2, slots := 12, locals := 138 }
theorem hdS_X8_move : yX8_move.cls ≠ "java/lang/invoke/MethodHandle" ∧ yX8_move.cls ≠ "java/lang/invoke/VarHandle" ∧ (parseMethodDescriptor yX8_move.desc).map (fun d => d.parameters.length) = some 4 := by decide +kernel
theorem hdV_X8_move : yX8_move.cls = RX8 ∧ yX8_move.cls ≠ "java/lang/invoke/MethodHandle" ∧ yX8_move.cls ≠ "java/lang/invoke/VarHandle" ∧ (parseMethodDescriptor yX8_move.desc).map (fun d => d.parameters.length) = some 4 := ⟨rfl, hdS_X8_move⟩
set_option maxHeartbeats 4000000 in
set_option maxRecDepth 100000 in
theorem c_X8_move (l : Launch) (dC : Nat → ClassId) (dI : Nat → Nat → Nat) (cy : Nat → ClassId) (hlt : l.stackTraces = false) (x : Nat → Nat) (F : Fig) (D : Fig) (P : PastS) (p1 : Int32) (p2 : Int32) (p3 : Int32) (p4 : Int32) (res : (Sum Nat Int32) × Fig × Fig × PastS) (h : G_X8_move F D P p1 p2 p3 p4 = some res) : CTX l (dC, dI) (TY cy) yX8_move cX8_move 5 (some .int) rm_X8_move [.ref (x 0), .int p1, .int p2, .int p3, .int p4] (wSPo x ++ wFig (fun j => x (1 + j)) cy F ++ wFig (fun j => x (6 + j)) cy D ++ wP2 (fun j => x (11 + j)) cy P ++ wPF (fun j => x (11 + j)) cy (p_figs P)) (wSPo x ++ wFig (fun j => x (1 + j)) cy res.2.1 ++ wFig (fun j => x (6 + j)) cy res.2.2.1 ++ wP2 (fun j => x (11 + j)) cy res.2.2.2 ++ wPF (fun j => x (11 + j)) cy (p_figs res.2.2.2)) (oI res.1) := by
  refine CTX.mk (own := RX8) hlt ⟨by decide, rfl⟩ (Nat.le_of_ble_eq_true rfl) ?_
  intro p e s mm args below meth cd A Q hx hb hml hown htg hN hK hX0 hA hP hD hS hE hV hT hO ls hl
  have hl : lv_has ls 5 [(0, .ref (x 0)), (1, .int p1), (2, .int p2), (3, .int p3), (4, .int p4)] := hl
  replace h : _ = some res := h
  unfold G_X8_move at h
  obtain ⟨H, hH⟩ : ∃ H, H = s.heap := ⟨_, rfl⟩
  obtain ⟨locs, hlocs⟩ : ∃ locs : List Loc, locs = [] := ⟨_, rfl⟩
  rw [← hlocs] at hS ⊢
  have hS : va_S A s.heap H locs := by rw [hH]; exact hS
  rw [← hH] at hP ⊢
  refine lv_aload_n hx hb dX8_move_0 rfl (lv_at hl 0 rfl) ?_
  refine lv_iload_n hx hb dX8_move_1 rfl (lv_at hl 1 rfl) ?_
  refine lv_iload_n hx hb dX8_move_2 rfl (lv_at hl 2 rfl) ?_
  obtain ⟨v3, e3, h⟩ := bnd h
  rcases hv3 : v3 with k3 | u3
  · simp only [hv3] at h
    refine cXVp (av := [.int p1, .int p2]) (rest := []) (k1 := 1) (k2 := 6) (wn := wSPo x ++ wFig (fun j => x (1 + j)) cy F ++ wFig (fun j => x (6 + j)) cy D ++ wP2 (fun j => x (11 + j)) cy P ++ wPF (fun j => x (11 + j)) cy (p_figs P)) (ci := 3) (q0 := 0) hx hb hml hown htg hN hK hX0 (c_X8_checkCorner l dC dI cy hlt x F p1 p2 v3 e3) (g_V gw159 gw161 gw1 gw7 gw162) hdV_X8_checkCorner rfl ⟨⟨Nat.le_of_ble_eq_true rfl, Nat.le_of_ble_eq_true rfl⟩, Nat.le_of_ble_eq_true rfl, Nat.le_of_ble_eq_true rfl⟩ hP hD hS hA ⟨rfl, rfl⟩ rfl (perm_N (perm_ix 13 [0, 1, 2, 3, 4, 5] [6, 7, 8, 9, 10, 11, 12] rfl rfl rfl (by decide))) (perm_Nb (perm_ix 13 [6, 7, 8, 9, 10, 11, 12] [0, 1, 2, 3, 4, 5] rfl rfl rfl (by decide))) hl.1 rfl (Nat.le_of_ble_eq_true rfl) rfl rfl dX8_move_3 (fun H locs ret ho hP hD hS => ?_) (fun H locs k q ce ho hP hD hS h1 h2 h3 => ?_)
    · rw [hv3] at ho; cases ho
    rw [hv3] at ho
    obtain rfl := Sum.inl.inj ho
    obtain rfl := Option.some.inj h
    exact hO H locs 1 6 3 ls _ _ q ce hP hD hS (by decide) (by decide) rfl h1 h2 h3
  simp only [hv3] at h
  refine cXVp (av := [.int p1, .int p2]) (rest := []) (k1 := 1) (k2 := 6) (wn := wSPo x ++ wFig (fun j => x (1 + j)) cy F ++ wFig (fun j => x (6 + j)) cy D ++ wP2 (fun j => x (11 + j)) cy P ++ wPF (fun j => x (11 + j)) cy (p_figs P)) (ci := 3) (q0 := 0) hx hb hml hown htg hN hK hX0 (c_X8_checkCorner l dC dI cy hlt x F p1 p2 v3 e3) (g_V gw159 gw161 gw1 gw7 gw162) hdV_X8_checkCorner rfl ⟨⟨Nat.le_of_ble_eq_true rfl, Nat.le_of_ble_eq_true rfl⟩, Nat.le_of_ble_eq_true rfl, Nat.le_of_ble_eq_true rfl⟩ hP hD hS hA ⟨rfl, rfl⟩ rfl (perm_N (perm_ix 13 [0, 1, 2, 3, 4, 5] [6, 7, 8, 9, 10, 11, 12] rfl rfl rfl (by decide))) (perm_Nb (perm_ix 13 [6, 7, 8, 9, 10, 11, 12] [0, 1, 2, 3, 4, 5] rfl rfl rfl (by decide))) hl.1 rfl (Nat.le_of_ble_eq_true rfl) rfl rfl dX8_move_3 (fun H locs ret ho hP hD hS => ?_) (fun H locs k q ce ho hP hD hS h1 h2 h3 => ?_)
  rotate_left
  · rw [hv3] at ho; cases ho
  rw [hv3] at ho
  obtain rfl := Sum.inr.inj ho
  refine W.eq (g2 := F0 mm 6 ls []) rfl ?_
  refine lv_aload_n hx hb dX8_move_6 rfl (lv_at hl 0 rfl) ?_
  refine va_get (D := (dC, dI)) (ci := 3) (v := .ref (x 6)) (C := RX8) (T := TX8) (N := 7) hx hb htg inX8 hown hK hP 0 rfl rfl 1 (by decide) (htg _ gw134) (fun _ h9 => h9) rfl dX8_move_7 ?_
  refine lv_aload_n hx hb dX8_move_10 rfl (lv_at hl 0 rfl) ?_
  refine va_get (D := (dC, dI)) (ci := 3) (v := .ref (x 1)) (C := RX8) (T := TX8) (N := 7) hx hb htg inX8 hown hK hP 0 rfl rfl 0 (by decide) (htg _ gw133) (fun _ h9 => h9) rfl dX8_move_11 ?_
  obtain ⟨v14, e14, h⟩ := bnd h
  refine cVp (av := [.ref (x 1)]) (rest := []) (st1 := []) (k1 := 1) (k2 := 6) (wn := wSPo x ++ wFig (fun j => x (1 + j)) cy F ++ wFig (fun j => x (6 + j)) cy v14 ++ wP2 (fun j => x (11 + j)) cy P ++ wPF (fun j => x (11 + j)) cy (p_figs P)) (ci := 0) (q0 := 0) hx hb hml hown htg hN hK (c_X1_copyFrom l dC dI cy (fun j => x (6 + j)) (fun j => x (1 + j)) D F  v14 e14) (g_V gw235 gw236 gw237 gw8 gw238) hdV_X1_copyFrom rfl ⟨⟨Nat.le_of_ble_eq_true rfl, Nat.le_of_ble_eq_true rfl⟩, Nat.le_of_ble_eq_true rfl, Nat.le_of_ble_eq_true rfl⟩ hP hD hS hA ⟨rfl, rfl⟩ rfl (perm_N (perm_ix 13 [6, 7, 8, 9, 10, 1, 2, 3, 4, 5] [0, 11, 12] rfl rfl rfl (by decide))) (perm_Nb (perm_ix 13 [0, 11, 12] [6, 7, 8, 9, 10, 1, 2, 3, 4, 5] rfl rfl rfl (by decide))) hl.1 rfl (Nat.le_of_ble_eq_true rfl) rfl rfl rfl dX8_move_14 (fun H locs hP hD hS => ?_)
  refine lv_aload_n hx hb dX8_move_17 rfl (lv_at hl 0 rfl) ?_
  refine va_get (D := (dC, dI)) (ci := 3) (v := .ref (x 6)) (C := RX8) (T := TX8) (N := 7) hx hb htg inX8 hown hK hP 0 rfl rfl 1 (by decide) (htg _ gw134) (fun _ h9 => h9) rfl dX8_move_18 ?_
  refine lv_iload_n hx hb dX8_move_21 rfl (lv_at hl 1 rfl) ?_
  refine lv_iload_n hx hb dX8_move_22 rfl (lv_at hl 2 rfl) ?_
  refine lv_iload_n hx hb dX8_move_23 rfl (lv_at hl 3 rfl) ?_
  refine lv_iload hx hb dX8_move_24 (lv_at hl 4 rfl) ?_
  obtain ⟨v26, e26, h⟩ := bnd h
  refine cSp (av := [.ref (x 6), .int p1, .int p2, .int p3, .int p4]) (rest := []) (st1 := [.int v26.1]) (k1 := 1) (k2 := 6) (wn := wSPo x ++ wFig (fun j => x (1 + j)) cy F ++ wFig (fun j => x (6 + j)) cy v26.2 ++ wP2 (fun j => x (11 + j)) cy P ++ wPF (fun j => x (11 + j)) cy (p_figs P)) hx hb hml hown htg hN hK (c_X0_movedCorner l dC dI cy (fun j => x (6 + j)) v14 p1 p2 p3 p4 v26 e26) (g_S gw333 gw334 gw18 gw335) hdS_X0_movedCorner rfl ⟨⟨Nat.le_of_ble_eq_true rfl, Nat.le_of_ble_eq_true rfl⟩, Nat.le_of_ble_eq_true rfl, Nat.le_of_ble_eq_true rfl⟩ hP hD hS hA (perm_N (perm_ix 13 [6, 7, 8, 9, 10] [0, 1, 2, 3, 4, 5, 11, 12] rfl rfl rfl (by decide))) (perm_Nb (perm_ix 13 [0, 1, 2, 3, 4, 5, 11, 12] [6, 7, 8, 9, 10] rfl rfl rfl (by decide))) hl.1 rfl (Nat.le_of_ble_eq_true rfl) rfl rfl rfl dX8_move_26 (fun H locs hP hD hS => ?_)
  refine lv_if_ne (tgt := 42) hx hb dX8_move_29 (by decide) (fun c29 => ?_) (fun c29 => ?_)
  · replace h := if_f h c29
    refine lv_aload_n hx hb dX8_move_42 rfl (lv_at hl 0 rfl) ?_
    obtain ⟨v43, e43, h⟩ := bnd h
    refine cVp (av := []) (rest := []) (st1 := []) (k1 := 1) (k2 := 6) (wn := wSPo x ++ wFig (fun j => x (1 + j)) cy v43.1 ++ wFig (fun j => x (6 + j)) cy v26.2 ++ wP2 (fun j => x (11 + j)) cy v43.2 ++ wPF (fun j => x (11 + j)) cy (p_figs v43.2)) (ci := 3) (q0 := 0) hx hb hml hown htg hN hK (c_X8_keepDraft l dC dI cy x F v26.2 P  v43 e43) (g_V gw356 gw358 gw4 gw7 gw359) hdV_X8_keepDraft rfl ⟨⟨Nat.le_of_ble_eq_true rfl, Nat.le_of_ble_eq_true rfl⟩, Nat.le_of_ble_eq_true rfl, Nat.le_of_ble_eq_true rfl⟩ hP hD hS hA ⟨rfl, rfl⟩ rfl (perm_T (perm_ix 13 [0, 1, 2, 3, 4, 5, 6, 7, 8, 9, 10, 11, 12] [] rfl rfl rfl (by decide))) (perm_Tb (perm_ix 13 [] [0, 1, 2, 3, 4, 5, 6, 7, 8, 9, 10, 11, 12] rfl rfl rfl (by decide))) hl.1 rfl (Nat.le_of_ble_eq_true rfl) rfl rfl rfl dX8_move_43 (fun H locs hP hD hS => ?_)
    refine lv_aload_n hx hb dX8_move_46 rfl (lv_at hl 0 rfl) ?_
    refine va_get (D := (dC, dI)) (ci := 3) (v := .ref (x 1)) (C := RX8) (T := TX8) (N := 7) hx hb htg inX8 hown hK hP 0 rfl rfl 0 (by decide) (htg _ gw133) (fun _ h9 => h9) rfl dX8_move_47 ?_
    obtain ⟨v50, e50, h⟩ := bnd h
    refine cSp (av := [.ref (x 1)]) (rest := []) (st1 := [.int v50]) (k1 := 1) (k2 := 6) (wn := wSPo x ++ wFig (fun j => x (1 + j)) cy v43.1 ++ wFig (fun j => x (6 + j)) cy v26.2 ++ wP2 (fun j => x (11 + j)) cy v43.2 ++ wPF (fun j => x (11 + j)) cy (p_figs v43.2)) hx hb hml hown htg hN hK (c_X2_area l dC dI cy (fun j => x (1 + j)) v43.1  v50 e50) (g_S gw365 gw366 gw20 gw367) hdS_X2_area rfl ⟨⟨Nat.le_of_ble_eq_true rfl, Nat.le_of_ble_eq_true rfl⟩, Nat.le_of_ble_eq_true rfl, Nat.le_of_ble_eq_true rfl⟩ hP hD hS hA (perm_N (perm_ix 13 [1, 2, 3, 4, 5] [0, 6, 7, 8, 9, 10, 11, 12] rfl rfl rfl (by decide))) (perm_Nb (perm_ix 13 [0, 6, 7, 8, 9, 10, 11, 12] [1, 2, 3, 4, 5] rfl rfl rfl (by decide))) hl.1 rfl (Nat.le_of_ble_eq_true rfl) rfl rfl rfl dX8_move_50 (fun H locs hP hD hS => ?_)
    obtain rfl := Option.some.inj h
    exact hE H locs 1 6 53 ls _ hP hD hS (by decide) (by decide) rfl ⟨_, rfl, rfl⟩ dX8_move_53
  replace h := if_t h c29
  obtain rfl := Option.some.inj h
  exact hT H locs 1 6 32 ls 67 196 71 3 "a rule would not hold" hP hD hS (by decide) (by decide) (by decide) (by decide) rfl rfl hl.1 (by decide +kernel) gw340 gw19 exat_3 exgo_3 (by decide +kernel) dX8_move_32 dX8_move_35 (Or.inl ⟨dX8_move_36, dX8_move_38, dX8_move_41⟩)
def G_X8_point (F : Fig) (p1 : Int32) (p2 : Int32) : Option ((Sum Nat Int32)) :=
  (G_X8_inRange p1 0 15).bind fun v4 =>
  if v4 = 0 then
    some (.inl 2)
  else
    (G_X8_inRange p2 0 15).bind fun v14 =>
    if v14 = 0 then
      some (.inl 2)
    else
      (G_X1_placeOf F p1 p2).bind fun v36 =>
      some (.inr v36)
abbrev rm_X8_point : Room := { frames := 6, cells := 1, slots := 6, locals := 100 }
theorem hdS_X8_point : yX8_point.cls ≠ "java/lang/invoke/MethodHandle" ∧ yX8_point.cls ≠ "java/lang/invoke/VarHandle" ∧ (parseMethodDescriptor yX8_point.desc).map (fun d => d.parameters.length) = some 2 := by decide +kernel
theorem hdV_X8_point : yX8_point.cls = RX8 ∧ yX8_point.cls ≠ "java/lang/invoke/MethodHandle" ∧ yX8_point.cls ≠ "java/lang/invoke/VarHandle" ∧ (parseMethodDescriptor yX8_point.desc).map (fun d => d.parameters.length) = some 2 := ⟨rfl, hdS_X8_point⟩
set_option maxHeartbeats 4000000 in
set_option maxRecDepth 100000 in
theorem c_X8_point (l : Launch) (dC : Nat → ClassId) (dI : Nat → Nat → Nat) (cy : Nat → ClassId) (hlt : l.stackTraces = false) (x : Nat → Nat) (F : Fig) (p1 : Int32) (p2 : Int32) (res : (Sum Nat Int32)) (h : G_X8_point F p1 p2 = some res) : CTX l (dC, dI) (TY cy) yX8_point cX8_point 3 (some .int) rm_X8_point [.ref (x 0), .int p1, .int p2] (wSPo x ++ wFig (fun j => x (1 + j)) cy F) (wSPo x ++ wFig (fun j => x (1 + j)) cy F) (oI res) := by
  refine CTX.mk (own := RX8) hlt ⟨by decide, rfl⟩ (Nat.le_of_ble_eq_true rfl) ?_
  intro p e s mm args below meth cd A Q hx hb hml hown htg hN hK hX0 hA hP hD hS hE hV hT hO ls hl
  have hl : lv_has ls 3 [(0, .ref (x 0)), (1, .int p1), (2, .int p2)] := hl
  replace h : _ = some res := h
  unfold G_X8_point at h
  obtain ⟨H, hH⟩ : ∃ H, H = s.heap := ⟨_, rfl⟩
  obtain ⟨locs, hlocs⟩ : ∃ locs : List Loc, locs = [] := ⟨_, rfl⟩
  rw [← hlocs] at hS ⊢
  have hS : va_S A s.heap H locs := by rw [hH]; exact hS
  rw [← hH] at hP ⊢
  refine lv_iload_n hx hb dX8_point_0 rfl (lv_at hl 1 rfl) ?_
  refine lv_iconst (v := 0) hx hb dX8_point_1 (by decide) ?_
  refine lv_bipush (v := 15) hx hb dX8_point_2 (by decide) ?_
  obtain ⟨v4, e4, h⟩ := bnd h
  refine cS (av := [.int p1, .int 0, .int 15]) (rest := []) (st1 := [.int v4]) (k1 := 0) (k2 := 0) hx hb hml hown htg hN hK (c_X8_inRange l dC dI cy   p1 0 15 v4 e4) (g_S gw426 gw255 gw7 gw256) hdS_X8_inRange rfl ⟨⟨Nat.le_of_ble_eq_true rfl, Nat.le_of_ble_eq_true rfl⟩, Nat.le_of_ble_eq_true rfl, Nat.le_of_ble_eq_true rfl⟩ hP hD hS hA [] [0, 1, 2, 3, 4, 5] rfl rfl rfl (by decide) (by decide) hl.1 rfl (Nat.le_of_ble_eq_true rfl) rfl rfl rfl dX8_point_4 (fun H locs hP hD hS => ?_)
  obtain ⟨hP, hD⟩ := x_perm (ws' := wSPo x ++ wFig (fun j => x (1 + j)) cy F) hP hD [0, 1, 2, 3, 4, 5] (by decide) rfl rfl
  refine lv_if_eq (tgt := 20) hx hb dX8_point_7 (by decide) (fun c7 => ?_) (fun c7 => ?_)
  · replace h := if_t h c7
    obtain rfl := Option.some.inj h
    exact hT H locs 0 0 20 ls 56 181 60 2 "the point is not on the paper" hP hD hS (by decide) (by decide) (by decide) (by decide) rfl rfl hl.1 (by decide +kernel) gw427 gw21 exat_2 exgo_2 (by decide +kernel) dX8_point_20 dX8_point_23 (Or.inl ⟨dX8_point_24, dX8_point_26, dX8_point_29⟩)
  replace h := if_f h c7
  refine lv_iload_n hx hb dX8_point_10 rfl (lv_at hl 2 rfl) ?_
  refine lv_iconst (v := 0) hx hb dX8_point_11 (by decide) ?_
  refine lv_bipush (v := 15) hx hb dX8_point_12 (by decide) ?_
  obtain ⟨v14, e14, h⟩ := bnd h
  refine cS (av := [.int p2, .int 0, .int 15]) (rest := []) (st1 := [.int v14]) (k1 := 0) (k2 := 0) hx hb hml hown htg hN hK (c_X8_inRange l dC dI cy   p2 0 15 v14 e14) (g_S gw426 gw255 gw7 gw256) hdS_X8_inRange rfl ⟨⟨Nat.le_of_ble_eq_true rfl, Nat.le_of_ble_eq_true rfl⟩, Nat.le_of_ble_eq_true rfl, Nat.le_of_ble_eq_true rfl⟩ hP hD hS hA [] [0, 1, 2, 3, 4, 5] rfl rfl rfl (by decide) (by decide) hl.1 rfl (Nat.le_of_ble_eq_true rfl) rfl rfl rfl dX8_point_14 (fun H locs hP hD hS => ?_)
  obtain ⟨hP, hD⟩ := x_perm (ws' := wSPo x ++ wFig (fun j => x (1 + j)) cy F) hP hD [0, 1, 2, 3, 4, 5] (by decide) rfl rfl
  refine lv_if_ne (tgt := 30) hx hb dX8_point_17 (by decide) (fun c17 => ?_) (fun c17 => ?_)
  · replace h := if_f h c17
    refine lv_aload_n hx hb dX8_point_30 rfl (lv_at hl 0 rfl) ?_
    refine va_get (D := (dC, dI)) (ci := 3) (v := .ref (x 1)) (C := RX8) (T := TX8) (N := 7) hx hb htg inX8 hown hK hP 0 rfl rfl 0 (by decide) (htg _ gw133) (fun _ h9 => h9) rfl dX8_point_31 ?_
    refine lv_iload_n hx hb dX8_point_34 rfl (lv_at hl 1 rfl) ?_
    refine lv_iload_n hx hb dX8_point_35 rfl (lv_at hl 2 rfl) ?_
    obtain ⟨v36, e36, h⟩ := bnd h
    refine cV (av := [.int p1, .int p2]) (rest := []) (st1 := [.int v36]) (k1 := 0) (k2 := 0) (ci := 0) (q0 := 0) hx hb hml hown htg hN hK (c_X1_placeOf l dC dI cy (fun j => x (1 + j)) F p1 p2 v36 e36) (g_V gw556 gw557 gw558 gw8 gw559) hdV_X1_placeOf rfl ⟨⟨Nat.le_of_ble_eq_true rfl, Nat.le_of_ble_eq_true rfl⟩, Nat.le_of_ble_eq_true rfl, Nat.le_of_ble_eq_true rfl⟩ hP hD hS hA ⟨rfl, rfl⟩ rfl [1, 2, 3, 4, 5] [0] rfl rfl rfl (by decide) (by decide) hl.1 rfl (Nat.le_of_ble_eq_true rfl) rfl rfl rfl dX8_point_36 (fun H locs hP hD hS => ?_)
    obtain ⟨hP, hD⟩ := x_perm (ws' := wSPo x ++ wFig (fun j => x (1 + j)) cy F) hP hD [0, 1, 2, 3, 4, 5] (by decide) rfl rfl
    obtain rfl := Option.some.inj h
    exact hE H locs 0 0 39 ls _ hP hD hS (by decide) (by decide) rfl ⟨_, rfl, rfl⟩ dX8_point_39
  replace h := if_t h c17
  obtain rfl := Option.some.inj h
  exact hT H locs 0 0 20 ls 56 181 60 2 "the point is not on the paper" hP hD hS (by decide) (by decide) (by decide) (by decide) rfl rfl hl.1 (by decide +kernel) gw427 gw21 exat_2 exgo_2 (by decide +kernel) dX8_point_20 dX8_point_23 (Or.inl ⟨dX8_point_24, dX8_point_26, dX8_point_29⟩)
def G_X8_remove (F : Fig) (D : Fig) (P : PastS) (p1 : Int32) (p2 : Int32) : Option ((Sum Nat Int32) × Fig × Fig × PastS) :=
  (G_X8_checkCorner F p1 p2).bind fun v3 =>
  match v3 with
  | .inl k3 => some (.inl k3, F, D, P)
  | .inr _ =>
    (G_X1_copyFrom D F).bind fun v14 =>
    (G_X0_lostCorner v14 p1 p2).bind fun v23 =>
    if v23.1 = 0 then
      some (.inl 3, F, v23.2, P)
    else
      (G_X8_keepDraft F v23.2 P).bind fun v40 =>
      (G_X2_area v40.1).bind fun v47 =>
      some (.inr v47, v40.1, v23.2, v40.2)
abbrev rm_X8_remove : Room := { frames := 7, cells := 2, slots := 12, locals := 136 }
theorem hdS_X8_remove : yX8_remove.cls ≠ "java/lang/invoke/MethodHandle" ∧ yX8_remove.cls ≠ "java/lang/invoke/VarHandle" ∧ (parseMethodDescriptor yX8_remove.desc).map (fun d => d.parameters.length) = some 2 := by decide +kernel
theorem hdV_X8_remove : yX8_remove.cls = RX8 ∧ yX8_remove.cls ≠ "java/lang/invoke/MethodHandle" ∧ yX8_remove.cls ≠ "java/lang/invoke/VarHandle" ∧ (parseMethodDescriptor yX8_remove.desc).map (fun d => d.parameters.length) = some 2 := ⟨rfl, hdS_X8_remove⟩
set_option maxHeartbeats 4000000 in
set_option maxRecDepth 100000 in
theorem c_X8_remove (l : Launch) (dC : Nat → ClassId) (dI : Nat → Nat → Nat) (cy : Nat → ClassId) (hlt : l.stackTraces = false) (x : Nat → Nat) (F : Fig) (D : Fig) (P : PastS) (p1 : Int32) (p2 : Int32) (res : (Sum Nat Int32) × Fig × Fig × PastS) (h : G_X8_remove F D P p1 p2 = some res) : CTX l (dC, dI) (TY cy) yX8_remove cX8_remove 3 (some .int) rm_X8_remove [.ref (x 0), .int p1, .int p2] (wSPo x ++ wFig (fun j => x (1 + j)) cy F ++ wFig (fun j => x (6 + j)) cy D ++ wP2 (fun j => x (11 + j)) cy P ++ wPF (fun j => x (11 + j)) cy (p_figs P)) (wSPo x ++ wFig (fun j => x (1 + j)) cy res.2.1 ++ wFig (fun j => x (6 + j)) cy res.2.2.1 ++ wP2 (fun j => x (11 + j)) cy res.2.2.2 ++ wPF (fun j => x (11 + j)) cy (p_figs res.2.2.2)) (oI res.1) := by
  refine CTX.mk (own := RX8) hlt ⟨by decide, rfl⟩ (Nat.le_of_ble_eq_true rfl) ?_
  intro p e s mm args below meth cd A Q hx hb hml hown htg hN hK hX0 hA hP hD hS hE hV hT hO ls hl
  have hl : lv_has ls 3 [(0, .ref (x 0)), (1, .int p1), (2, .int p2)] := hl
  replace h : _ = some res := h
  unfold G_X8_remove at h
  obtain ⟨H, hH⟩ : ∃ H, H = s.heap := ⟨_, rfl⟩
  obtain ⟨locs, hlocs⟩ : ∃ locs : List Loc, locs = [] := ⟨_, rfl⟩
  rw [← hlocs] at hS ⊢
  have hS : va_S A s.heap H locs := by rw [hH]; exact hS
  rw [← hH] at hP ⊢
  refine lv_aload_n hx hb dX8_remove_0 rfl (lv_at hl 0 rfl) ?_
  refine lv_iload_n hx hb dX8_remove_1 rfl (lv_at hl 1 rfl) ?_
  refine lv_iload_n hx hb dX8_remove_2 rfl (lv_at hl 2 rfl) ?_
  obtain ⟨v3, e3, h⟩ := bnd h
  rcases hv3 : v3 with k3 | u3
  · simp only [hv3] at h
    refine cXVp (av := [.int p1, .int p2]) (rest := []) (k1 := 1) (k2 := 6) (wn := wSPo x ++ wFig (fun j => x (1 + j)) cy F ++ wFig (fun j => x (6 + j)) cy D ++ wP2 (fun j => x (11 + j)) cy P ++ wPF (fun j => x (11 + j)) cy (p_figs P)) (ci := 3) (q0 := 0) hx hb hml hown htg hN hK hX0 (c_X8_checkCorner l dC dI cy hlt x F p1 p2 v3 e3) (g_V gw159 gw161 gw1 gw7 gw162) hdV_X8_checkCorner rfl ⟨⟨Nat.le_of_ble_eq_true rfl, Nat.le_of_ble_eq_true rfl⟩, Nat.le_of_ble_eq_true rfl, Nat.le_of_ble_eq_true rfl⟩ hP hD hS hA ⟨rfl, rfl⟩ rfl (perm_N (perm_ix 13 [0, 1, 2, 3, 4, 5] [6, 7, 8, 9, 10, 11, 12] rfl rfl rfl (by decide))) (perm_Nb (perm_ix 13 [6, 7, 8, 9, 10, 11, 12] [0, 1, 2, 3, 4, 5] rfl rfl rfl (by decide))) hl.1 rfl (Nat.le_of_ble_eq_true rfl) rfl rfl dX8_remove_3 (fun H locs ret ho hP hD hS => ?_) (fun H locs k q ce ho hP hD hS h1 h2 h3 => ?_)
    · rw [hv3] at ho; cases ho
    rw [hv3] at ho
    obtain rfl := Sum.inl.inj ho
    obtain rfl := Option.some.inj h
    exact hO H locs 1 6 3 ls _ _ q ce hP hD hS (by decide) (by decide) rfl h1 h2 h3
  simp only [hv3] at h
  refine cXVp (av := [.int p1, .int p2]) (rest := []) (k1 := 1) (k2 := 6) (wn := wSPo x ++ wFig (fun j => x (1 + j)) cy F ++ wFig (fun j => x (6 + j)) cy D ++ wP2 (fun j => x (11 + j)) cy P ++ wPF (fun j => x (11 + j)) cy (p_figs P)) (ci := 3) (q0 := 0) hx hb hml hown htg hN hK hX0 (c_X8_checkCorner l dC dI cy hlt x F p1 p2 v3 e3) (g_V gw159 gw161 gw1 gw7 gw162) hdV_X8_checkCorner rfl ⟨⟨Nat.le_of_ble_eq_true rfl, Nat.le_of_ble_eq_true rfl⟩, Nat.le_of_ble_eq_true rfl, Nat.le_of_ble_eq_true rfl⟩ hP hD hS hA ⟨rfl, rfl⟩ rfl (perm_N (perm_ix 13 [0, 1, 2, 3, 4, 5] [6, 7, 8, 9, 10, 11, 12] rfl rfl rfl (by decide))) (perm_Nb (perm_ix 13 [6, 7, 8, 9, 10, 11, 12] [0, 1, 2, 3, 4, 5] rfl rfl rfl (by decide))) hl.1 rfl (Nat.le_of_ble_eq_true rfl) rfl rfl dX8_remove_3 (fun H locs ret ho hP hD hS => ?_) (fun H locs k q ce ho hP hD hS h1 h2 h3 => ?_)
  rotate_left
  · rw [hv3] at ho; cases ho
  rw [hv3] at ho
  obtain rfl := Sum.inr.inj ho
  refine W.eq (g2 := F0 mm 6 ls []) rfl ?_
  refine lv_aload_n hx hb dX8_remove_6 rfl (lv_at hl 0 rfl) ?_
  refine va_get (D := (dC, dI)) (ci := 3) (v := .ref (x 6)) (C := RX8) (T := TX8) (N := 7) hx hb htg inX8 hown hK hP 0 rfl rfl 1 (by decide) (htg _ gw134) (fun _ h9 => h9) rfl dX8_remove_7 ?_
  refine lv_aload_n hx hb dX8_remove_10 rfl (lv_at hl 0 rfl) ?_
  refine va_get (D := (dC, dI)) (ci := 3) (v := .ref (x 1)) (C := RX8) (T := TX8) (N := 7) hx hb htg inX8 hown hK hP 0 rfl rfl 0 (by decide) (htg _ gw133) (fun _ h9 => h9) rfl dX8_remove_11 ?_
  obtain ⟨v14, e14, h⟩ := bnd h
  refine cVp (av := [.ref (x 1)]) (rest := []) (st1 := []) (k1 := 1) (k2 := 6) (wn := wSPo x ++ wFig (fun j => x (1 + j)) cy F ++ wFig (fun j => x (6 + j)) cy v14 ++ wP2 (fun j => x (11 + j)) cy P ++ wPF (fun j => x (11 + j)) cy (p_figs P)) (ci := 0) (q0 := 0) hx hb hml hown htg hN hK (c_X1_copyFrom l dC dI cy (fun j => x (6 + j)) (fun j => x (1 + j)) D F  v14 e14) (g_V gw235 gw236 gw237 gw8 gw238) hdV_X1_copyFrom rfl ⟨⟨Nat.le_of_ble_eq_true rfl, Nat.le_of_ble_eq_true rfl⟩, Nat.le_of_ble_eq_true rfl, Nat.le_of_ble_eq_true rfl⟩ hP hD hS hA ⟨rfl, rfl⟩ rfl (perm_N (perm_ix 13 [6, 7, 8, 9, 10, 1, 2, 3, 4, 5] [0, 11, 12] rfl rfl rfl (by decide))) (perm_Nb (perm_ix 13 [0, 11, 12] [6, 7, 8, 9, 10, 1, 2, 3, 4, 5] rfl rfl rfl (by decide))) hl.1 rfl (Nat.le_of_ble_eq_true rfl) rfl rfl rfl dX8_remove_14 (fun H locs hP hD hS => ?_)
  refine lv_aload_n hx hb dX8_remove_17 rfl (lv_at hl 0 rfl) ?_
  refine va_get (D := (dC, dI)) (ci := 3) (v := .ref (x 6)) (C := RX8) (T := TX8) (N := 7) hx hb htg inX8 hown hK hP 0 rfl rfl 1 (by decide) (htg _ gw134) (fun _ h9 => h9) rfl dX8_remove_18 ?_
  refine lv_iload_n hx hb dX8_remove_21 rfl (lv_at hl 1 rfl) ?_
  refine lv_iload_n hx hb dX8_remove_22 rfl (lv_at hl 2 rfl) ?_
  obtain ⟨v23, e23, h⟩ := bnd h
  refine cSp (av := [.ref (x 6), .int p1, .int p2]) (rest := []) (st1 := [.int v23.1]) (k1 := 1) (k2 := 6) (wn := wSPo x ++ wFig (fun j => x (1 + j)) cy F ++ wFig (fun j => x (6 + j)) cy v23.2 ++ wP2 (fun j => x (11 + j)) cy P ++ wPF (fun j => x (11 + j)) cy (p_figs P)) hx hb hml hown htg hN hK (c_X0_lostCorner l dC dI cy (fun j => x (6 + j)) v14 p1 p2 v23 e23) (g_S gw405 gw406 gw18 gw407) hdS_X0_lostCorner rfl ⟨⟨Nat.le_of_ble_eq_true rfl, Nat.le_of_ble_eq_true rfl⟩, Nat.le_of_ble_eq_true rfl, Nat.le_of_ble_eq_true rfl⟩ hP hD hS hA (perm_N (perm_ix 13 [6, 7, 8, 9, 10] [0, 1, 2, 3, 4, 5, 11, 12] rfl rfl rfl (by decide))) (perm_Nb (perm_ix 13 [0, 1, 2, 3, 4, 5, 11, 12] [6, 7, 8, 9, 10] rfl rfl rfl (by decide))) hl.1 rfl (Nat.le_of_ble_eq_true rfl) rfl rfl rfl dX8_remove_23 (fun H locs hP hD hS => ?_)
  refine lv_if_ne (tgt := 39) hx hb dX8_remove_26 (by decide) (fun c26 => ?_) (fun c26 => ?_)
  · replace h := if_f h c26
    refine lv_aload_n hx hb dX8_remove_39 rfl (lv_at hl 0 rfl) ?_
    obtain ⟨v40, e40, h⟩ := bnd h
    refine cVp (av := []) (rest := []) (st1 := []) (k1 := 1) (k2 := 6) (wn := wSPo x ++ wFig (fun j => x (1 + j)) cy v40.1 ++ wFig (fun j => x (6 + j)) cy v23.2 ++ wP2 (fun j => x (11 + j)) cy v40.2 ++ wPF (fun j => x (11 + j)) cy (p_figs v40.2)) (ci := 3) (q0 := 0) hx hb hml hown htg hN hK (c_X8_keepDraft l dC dI cy x F v23.2 P  v40 e40) (g_V gw356 gw358 gw4 gw7 gw359) hdV_X8_keepDraft rfl ⟨⟨Nat.le_of_ble_eq_true rfl, Nat.le_of_ble_eq_true rfl⟩, Nat.le_of_ble_eq_true rfl, Nat.le_of_ble_eq_true rfl⟩ hP hD hS hA ⟨rfl, rfl⟩ rfl (perm_T (perm_ix 13 [0, 1, 2, 3, 4, 5, 6, 7, 8, 9, 10, 11, 12] [] rfl rfl rfl (by decide))) (perm_Tb (perm_ix 13 [] [0, 1, 2, 3, 4, 5, 6, 7, 8, 9, 10, 11, 12] rfl rfl rfl (by decide))) hl.1 rfl (Nat.le_of_ble_eq_true rfl) rfl rfl rfl dX8_remove_40 (fun H locs hP hD hS => ?_)
    refine lv_aload_n hx hb dX8_remove_43 rfl (lv_at hl 0 rfl) ?_
    refine va_get (D := (dC, dI)) (ci := 3) (v := .ref (x 1)) (C := RX8) (T := TX8) (N := 7) hx hb htg inX8 hown hK hP 0 rfl rfl 0 (by decide) (htg _ gw133) (fun _ h9 => h9) rfl dX8_remove_44 ?_
    obtain ⟨v47, e47, h⟩ := bnd h
    refine cSp (av := [.ref (x 1)]) (rest := []) (st1 := [.int v47]) (k1 := 1) (k2 := 6) (wn := wSPo x ++ wFig (fun j => x (1 + j)) cy v40.1 ++ wFig (fun j => x (6 + j)) cy v23.2 ++ wP2 (fun j => x (11 + j)) cy v40.2 ++ wPF (fun j => x (11 + j)) cy (p_figs v40.2)) hx hb hml hown htg hN hK (c_X2_area l dC dI cy (fun j => x (1 + j)) v40.1  v47 e47) (g_S gw365 gw366 gw20 gw367) hdS_X2_area rfl ⟨⟨Nat.le_of_ble_eq_true rfl, Nat.le_of_ble_eq_true rfl⟩, Nat.le_of_ble_eq_true rfl, Nat.le_of_ble_eq_true rfl⟩ hP hD hS hA (perm_N (perm_ix 13 [1, 2, 3, 4, 5] [0, 6, 7, 8, 9, 10, 11, 12] rfl rfl rfl (by decide))) (perm_Nb (perm_ix 13 [0, 6, 7, 8, 9, 10, 11, 12] [1, 2, 3, 4, 5] rfl rfl rfl (by decide))) hl.1 rfl (Nat.le_of_ble_eq_true rfl) rfl rfl rfl dX8_remove_47 (fun H locs hP hD hS => ?_)
    obtain rfl := Option.some.inj h
    exact hE H locs 1 6 50 ls _ hP hD hS (by decide) (by decide) rfl ⟨_, rfl, rfl⟩ dX8_remove_50
  replace h := if_t h c26
  obtain rfl := Option.some.inj h
  exact hT H locs 1 6 29 ls 67 209 71 3 "the ring has 3 corners, or a rule would not hold" hP hD hS (by decide) (by decide) (by decide) (by decide) rfl rfl hl.1 (by decide +kernel) gw340 gw19 exat_3 exgo_3 (by decide +kernel) dX8_remove_29 dX8_remove_32 (Or.inl ⟨dX8_remove_33, dX8_remove_35, dX8_remove_38⟩)
def G_X8_sees (F : Fig) (p1 : Int32) (p2 : Int32) (p3 : Int32) (p4 : Int32) : Option ((Sum Nat Int32)) :=
  (G_X8_checkCorner F p1 p2).bind fun v3 =>
  match v3 with
  | .inl k3 => some (.inl k3)
  | .inr _ =>
    (G_X8_checkCorner F p3 p4).bind fun v10 =>
    match v10 with
    | .inl k10 => some (.inl k10)
    | .inr _ =>
      (G_X1_at F p1 p2).bind fun v23 =>
      (G_X1_at F p3 p4).bind fun v33 =>
      (G_X6_between F v23 v33).bind fun v36 =>
      (bck v36).bind fun v39 =>
      some (.inr v39)
abbrev rm_X8_sees : Room := { frames := 7, cells := 2, slots := 12, locals := 104 }
theorem hdS_X8_sees : yX8_sees.cls ≠ "java/lang/invoke/MethodHandle" ∧ yX8_sees.cls ≠ "java/lang/invoke/VarHandle" ∧ (parseMethodDescriptor yX8_sees.desc).map (fun d => d.parameters.length) = some 4 := by decide +kernel
theorem hdV_X8_sees : yX8_sees.cls = RX8 ∧ yX8_sees.cls ≠ "java/lang/invoke/MethodHandle" ∧ yX8_sees.cls ≠ "java/lang/invoke/VarHandle" ∧ (parseMethodDescriptor yX8_sees.desc).map (fun d => d.parameters.length) = some 4 := ⟨rfl, hdS_X8_sees⟩
set_option maxHeartbeats 4000000 in
set_option maxRecDepth 100000 in
theorem c_X8_sees (l : Launch) (dC : Nat → ClassId) (dI : Nat → Nat → Nat) (cy : Nat → ClassId) (hlt : l.stackTraces = false) (x : Nat → Nat) (F : Fig) (p1 : Int32) (p2 : Int32) (p3 : Int32) (p4 : Int32) (res : (Sum Nat Int32)) (h : G_X8_sees F p1 p2 p3 p4 = some res) : CTX l (dC, dI) (TY cy) yX8_sees cX8_sees 5 (some .boolean) rm_X8_sees [.ref (x 0), .int p1, .int p2, .int p3, .int p4] (wSPo x ++ wFig (fun j => x (1 + j)) cy F) (wSPo x ++ wFig (fun j => x (1 + j)) cy F) (oI res) := by
  refine CTX.mk (own := RX8) hlt ⟨by decide, rfl⟩ (Nat.le_of_ble_eq_true rfl) ?_
  intro p e s mm args below meth cd A Q hx hb hml hown htg hN hK hX0 hA hP hD hS hE hV hT hO ls hl
  have hl : lv_has ls 5 [(0, .ref (x 0)), (1, .int p1), (2, .int p2), (3, .int p3), (4, .int p4)] := hl
  replace h : _ = some res := h
  unfold G_X8_sees at h
  obtain ⟨H, hH⟩ : ∃ H, H = s.heap := ⟨_, rfl⟩
  obtain ⟨locs, hlocs⟩ : ∃ locs : List Loc, locs = [] := ⟨_, rfl⟩
  rw [← hlocs] at hS ⊢
  have hS : va_S A s.heap H locs := by rw [hH]; exact hS
  rw [← hH] at hP ⊢
  refine lv_aload_n hx hb dX8_sees_0 rfl (lv_at hl 0 rfl) ?_
  refine lv_iload_n hx hb dX8_sees_1 rfl (lv_at hl 1 rfl) ?_
  refine lv_iload_n hx hb dX8_sees_2 rfl (lv_at hl 2 rfl) ?_
  obtain ⟨v3, e3, h⟩ := bnd h
  rcases hv3 : v3 with k3 | u3
  · simp only [hv3] at h
    refine cXV (av := [.int p1, .int p2]) (rest := []) (k1 := 1) (k2 := 6) (ci := 3) (q0 := 0) hx hb hml hown htg hN hK hX0 (c_X8_checkCorner l dC dI cy hlt x F p1 p2 v3 e3) (g_V gw159 gw161 gw1 gw7 gw162) hdV_X8_checkCorner rfl ⟨⟨Nat.le_of_ble_eq_true rfl, Nat.le_of_ble_eq_true rfl⟩, Nat.le_of_ble_eq_true rfl, Nat.le_of_ble_eq_true rfl⟩ hP hD hS hA ⟨rfl, rfl⟩ rfl [0, 1, 2, 3, 4, 5] [] rfl rfl rfl (by decide) (by decide) hl.1 rfl (Nat.le_of_ble_eq_true rfl) rfl rfl dX8_sees_3 (fun H locs ret ho hP hD hS => ?_) (fun H locs k q ce ho hP hD hS h1 h2 h3 => ?_)
    · rw [hv3] at ho; cases ho
    rw [hv3] at ho
    obtain rfl := Sum.inl.inj ho
    have hP : va_P (dC, dI) vwCl (wSPo x ++ wFig (fun j => x (1 + j)) cy F) H := hP
    have hD : va_D A (wSPo x ++ wFig (fun j => x (1 + j)) cy F) := hD
    obtain rfl := Option.some.inj h
    exact hO H locs 1 6 3 ls _ _ q ce hP hD hS (by decide) (by decide) rfl h1 h2 h3
  simp only [hv3] at h
  refine cXV (av := [.int p1, .int p2]) (rest := []) (k1 := 1) (k2 := 6) (ci := 3) (q0 := 0) hx hb hml hown htg hN hK hX0 (c_X8_checkCorner l dC dI cy hlt x F p1 p2 v3 e3) (g_V gw159 gw161 gw1 gw7 gw162) hdV_X8_checkCorner rfl ⟨⟨Nat.le_of_ble_eq_true rfl, Nat.le_of_ble_eq_true rfl⟩, Nat.le_of_ble_eq_true rfl, Nat.le_of_ble_eq_true rfl⟩ hP hD hS hA ⟨rfl, rfl⟩ rfl [0, 1, 2, 3, 4, 5] [] rfl rfl rfl (by decide) (by decide) hl.1 rfl (Nat.le_of_ble_eq_true rfl) rfl rfl dX8_sees_3 (fun H locs ret ho hP hD hS => ?_) (fun H locs k q ce ho hP hD hS h1 h2 h3 => ?_)
  rotate_left
  · rw [hv3] at ho; cases ho
  rw [hv3] at ho
  obtain rfl := Sum.inr.inj ho
  have hP : va_P (dC, dI) vwCl (wSPo x ++ wFig (fun j => x (1 + j)) cy F) H := hP
  have hD : va_D A (wSPo x ++ wFig (fun j => x (1 + j)) cy F) := hD
  refine W.eq (g2 := F0 mm 6 ls []) rfl ?_
  refine lv_aload_n hx hb dX8_sees_6 rfl (lv_at hl 0 rfl) ?_
  refine lv_iload_n hx hb dX8_sees_7 rfl (lv_at hl 3 rfl) ?_
  refine lv_iload hx hb dX8_sees_8 (lv_at hl 4 rfl) ?_
  obtain ⟨v10, e10, h⟩ := bnd h
  rcases hv10 : v10 with k10 | u10
  · simp only [hv10] at h
    refine cXV (av := [.int p3, .int p4]) (rest := []) (k1 := 2) (k2 := 12) (ci := 3) (q0 := 0) hx hb hml hown htg hN hK hX0 (c_X8_checkCorner l dC dI cy hlt x F p3 p4 v10 e10) (g_V gw159 gw161 gw1 gw7 gw162) hdV_X8_checkCorner rfl ⟨⟨Nat.le_of_ble_eq_true rfl, Nat.le_of_ble_eq_true rfl⟩, Nat.le_of_ble_eq_true rfl, Nat.le_of_ble_eq_true rfl⟩ hP hD hS hA ⟨rfl, rfl⟩ rfl [0, 1, 2, 3, 4, 5] [] rfl rfl rfl (by decide) (by decide) hl.1 rfl (Nat.le_of_ble_eq_true rfl) rfl rfl dX8_sees_10 (fun H locs ret ho hP hD hS => ?_) (fun H locs k q ce ho hP hD hS h1 h2 h3 => ?_)
    · rw [hv10] at ho; cases ho
    rw [hv10] at ho
    obtain rfl := Sum.inl.inj ho
    have hP : va_P (dC, dI) vwCl (wSPo x ++ wFig (fun j => x (1 + j)) cy F) H := hP
    have hD : va_D A (wSPo x ++ wFig (fun j => x (1 + j)) cy F) := hD
    obtain rfl := Option.some.inj h
    exact hO H locs 2 12 10 ls _ _ q ce hP hD hS (by decide) (by decide) rfl h1 h2 h3
  simp only [hv10] at h
  refine cXV (av := [.int p3, .int p4]) (rest := []) (k1 := 2) (k2 := 12) (ci := 3) (q0 := 0) hx hb hml hown htg hN hK hX0 (c_X8_checkCorner l dC dI cy hlt x F p3 p4 v10 e10) (g_V gw159 gw161 gw1 gw7 gw162) hdV_X8_checkCorner rfl ⟨⟨Nat.le_of_ble_eq_true rfl, Nat.le_of_ble_eq_true rfl⟩, Nat.le_of_ble_eq_true rfl, Nat.le_of_ble_eq_true rfl⟩ hP hD hS hA ⟨rfl, rfl⟩ rfl [0, 1, 2, 3, 4, 5] [] rfl rfl rfl (by decide) (by decide) hl.1 rfl (Nat.le_of_ble_eq_true rfl) rfl rfl dX8_sees_10 (fun H locs ret ho hP hD hS => ?_) (fun H locs k q ce ho hP hD hS h1 h2 h3 => ?_)
  rotate_left
  · rw [hv10] at ho; cases ho
  rw [hv10] at ho
  obtain rfl := Sum.inr.inj ho
  have hP : va_P (dC, dI) vwCl (wSPo x ++ wFig (fun j => x (1 + j)) cy F) H := hP
  have hD : va_D A (wSPo x ++ wFig (fun j => x (1 + j)) cy F) := hD
  refine W.eq (g2 := F0 mm 13 ls []) rfl ?_
  refine lv_aload_n hx hb dX8_sees_13 rfl (lv_at hl 0 rfl) ?_
  refine va_get (D := (dC, dI)) (ci := 3) (v := .ref (x 1)) (C := RX8) (T := TX8) (N := 7) hx hb htg inX8 hown hK hP 0 rfl rfl 0 (by decide) (htg _ gw133) (fun _ h9 => h9) rfl dX8_sees_14 ?_
  refine lv_aload_n hx hb dX8_sees_17 rfl (lv_at hl 0 rfl) ?_
  refine va_get (D := (dC, dI)) (ci := 3) (v := .ref (x 1)) (C := RX8) (T := TX8) (N := 7) hx hb htg inX8 hown hK hP 0 rfl rfl 0 (by decide) (htg _ gw133) (fun _ h9 => h9) rfl dX8_sees_18 ?_
  refine lv_iload_n hx hb dX8_sees_21 rfl (lv_at hl 1 rfl) ?_
  refine lv_iload_n hx hb dX8_sees_22 rfl (lv_at hl 2 rfl) ?_
  obtain ⟨v23, e23, h⟩ := bnd h
  refine cV (av := [.int p1, .int p2]) (rest := [.ref (x 1)]) (st1 := [.int v23, .ref (x 1)]) (k1 := 2) (k2 := 12) (ci := 0) (q0 := 0) hx hb hml hown htg hN hK (c_X1_at l dC dI cy (fun j => x (1 + j)) F p1 p2 v23 e23) (g_V gw242 gw118 gw119 gw8 gw120) hdV_X1_at rfl ⟨⟨Nat.le_of_ble_eq_true rfl, Nat.le_of_ble_eq_true rfl⟩, Nat.le_of_ble_eq_true rfl, Nat.le_of_ble_eq_true rfl⟩ hP hD hS hA ⟨rfl, rfl⟩ rfl [1, 2, 3, 4, 5] [0] rfl rfl rfl (by decide) (by decide) hl.1 rfl (Nat.le_of_ble_eq_true rfl) rfl rfl rfl dX8_sees_23 (fun H locs hP hD hS => ?_)
  obtain ⟨hP, hD⟩ := x_perm (ws' := wSPo x ++ wFig (fun j => x (1 + j)) cy F) hP hD [0, 1, 2, 3, 4, 5] (by decide) rfl rfl
  refine lv_aload_n hx hb dX8_sees_26 rfl (lv_at hl 0 rfl) ?_
  refine va_get (D := (dC, dI)) (ci := 3) (v := .ref (x 1)) (C := RX8) (T := TX8) (N := 7) hx hb htg inX8 hown hK hP 0 rfl rfl 0 (by decide) (htg _ gw133) (fun _ h9 => h9) rfl dX8_sees_27 ?_
  refine lv_iload_n hx hb dX8_sees_30 rfl (lv_at hl 3 rfl) ?_
  refine lv_iload hx hb dX8_sees_31 (lv_at hl 4 rfl) ?_
  obtain ⟨v33, e33, h⟩ := bnd h
  refine cV (av := [.int p3, .int p4]) (rest := [.int v23, .ref (x 1)]) (st1 := [.int v33, .int v23, .ref (x 1)]) (k1 := 2) (k2 := 12) (ci := 0) (q0 := 0) hx hb hml hown htg hN hK (c_X1_at l dC dI cy (fun j => x (1 + j)) F p3 p4 v33 e33) (g_V gw242 gw118 gw119 gw8 gw120) hdV_X1_at rfl ⟨⟨Nat.le_of_ble_eq_true rfl, Nat.le_of_ble_eq_true rfl⟩, Nat.le_of_ble_eq_true rfl, Nat.le_of_ble_eq_true rfl⟩ hP hD hS hA ⟨rfl, rfl⟩ rfl [1, 2, 3, 4, 5] [0] rfl rfl rfl (by decide) (by decide) hl.1 rfl (Nat.le_of_ble_eq_true rfl) rfl rfl rfl dX8_sees_33 (fun H locs hP hD hS => ?_)
  obtain ⟨hP, hD⟩ := x_perm (ws' := wSPo x ++ wFig (fun j => x (1 + j)) cy F) hP hD [0, 1, 2, 3, 4, 5] (by decide) rfl rfl
  obtain ⟨v36, e36, h⟩ := bnd h
  refine cS (av := [.ref (x 1), .int v23, .int v33]) (rest := []) (st1 := [.int v36]) (k1 := 2) (k2 := 12) hx hb hml hown htg hN hK (c_X6_between l dC dI cy (fun j => x (1 + j)) F v23 v33 v36 e36) (g_S gw487 gw488 gw22 gw489) hdS_X6_between rfl ⟨⟨Nat.le_of_ble_eq_true rfl, Nat.le_of_ble_eq_true rfl⟩, Nat.le_of_ble_eq_true rfl, Nat.le_of_ble_eq_true rfl⟩ hP hD hS hA [1, 2, 3, 4, 5] [0] rfl rfl rfl (by decide) (by decide) hl.1 rfl (Nat.le_of_ble_eq_true rfl) rfl rfl rfl dX8_sees_36 (fun H locs hP hD hS => ?_)
  obtain ⟨hP, hD⟩ := x_perm (ws' := wSPo x ++ wFig (fun j => x (1 + j)) cy F) hP hD [0, 1, 2, 3, 4, 5] (by decide) rfl rfl
  obtain ⟨v39, e39, h⟩ := bnd h
  obtain ⟨rfl, hz39⟩ := bck_in e39
  obtain rfl := Option.some.inj h
  exact hE H locs 2 12 39 ls _ hP hD hS (by decide) (by decide) rfl ⟨_, rfl, by rcases hz39 with hz | hz <;> rw [hz] <;> rfl⟩ dX8_sees_39
def G_X8_whyNot (F : Fig) (D : Fig) (p1 : Int32) (p2 : Int32) (p3 : Int32) (p4 : Int32) : Option ((Sum Nat Int32) × Fig) :=
  (G_X8_checkCorner F p1 p2).bind fun v3 =>
  match v3 with
  | .inl k3 => some (.inl k3, D)
  | .inr _ =>
    (G_X1_copyFrom D F).bind fun v14 =>
    (G_X1_at v14 p1 p2).bind fun v27 =>
    (G_X1_place v14 v27 p3 p4).bind fun v33 =>
    (G_X4_firstBroken v33).bind fun v40 =>
    some (.inr v40, v33)
abbrev rm_X8_whyNot : Room := { frames := 7, cells := 1, slots := 6, locals := 114 }
theorem hdS_X8_whyNot : yX8_whyNot.cls ≠ "java/lang/invoke/MethodHandle" ∧ yX8_whyNot.cls ≠ "java/lang/invoke/VarHandle" ∧ (parseMethodDescriptor yX8_whyNot.desc).map (fun d => d.parameters.length) = some 4 := by decide +kernel
theorem hdV_X8_whyNot : yX8_whyNot.cls = RX8 ∧ yX8_whyNot.cls ≠ "java/lang/invoke/MethodHandle" ∧ yX8_whyNot.cls ≠ "java/lang/invoke/VarHandle" ∧ (parseMethodDescriptor yX8_whyNot.desc).map (fun d => d.parameters.length) = some 4 := ⟨rfl, hdS_X8_whyNot⟩
set_option maxHeartbeats 4000000 in
set_option maxRecDepth 100000 in
theorem c_X8_whyNot (l : Launch) (dC : Nat → ClassId) (dI : Nat → Nat → Nat) (cy : Nat → ClassId) (hlt : l.stackTraces = false) (x : Nat → Nat) (F : Fig) (D : Fig) (p1 : Int32) (p2 : Int32) (p3 : Int32) (p4 : Int32) (res : (Sum Nat Int32) × Fig) (h : G_X8_whyNot F D p1 p2 p3 p4 = some res) : CTX l (dC, dI) (TY cy) yX8_whyNot cX8_whyNot 5 (some .int) rm_X8_whyNot [.ref (x 0), .int p1, .int p2, .int p3, .int p4] (wSPo x ++ wFig (fun j => x (1 + j)) cy F ++ wFig (fun j => x (6 + j)) cy D) (wSPo x ++ wFig (fun j => x (1 + j)) cy F ++ wFig (fun j => x (6 + j)) cy res.2) (oI res.1) := by
  refine CTX.mk (own := RX8) hlt ⟨by decide, rfl⟩ (Nat.le_of_ble_eq_true rfl) ?_
  intro p e s mm args below meth cd A Q hx hb hml hown htg hN hK hX0 hA hP hD hS hE hV hT hO ls hl
  have hl : lv_has ls 5 [(0, .ref (x 0)), (1, .int p1), (2, .int p2), (3, .int p3), (4, .int p4)] := hl
  replace h : _ = some res := h
  unfold G_X8_whyNot at h
  obtain ⟨H, hH⟩ : ∃ H, H = s.heap := ⟨_, rfl⟩
  obtain ⟨locs, hlocs⟩ : ∃ locs : List Loc, locs = [] := ⟨_, rfl⟩
  rw [← hlocs] at hS ⊢
  have hS : va_S A s.heap H locs := by rw [hH]; exact hS
  rw [← hH] at hP ⊢
  refine lv_aload_n hx hb dX8_whyNot_0 rfl (lv_at hl 0 rfl) ?_
  refine lv_iload_n hx hb dX8_whyNot_1 rfl (lv_at hl 1 rfl) ?_
  refine lv_iload_n hx hb dX8_whyNot_2 rfl (lv_at hl 2 rfl) ?_
  obtain ⟨v3, e3, h⟩ := bnd h
  rcases hv3 : v3 with k3 | u3
  · simp only [hv3] at h
    refine cXV (av := [.int p1, .int p2]) (rest := []) (k1 := 1) (k2 := 6) (ci := 3) (q0 := 0) hx hb hml hown htg hN hK hX0 (c_X8_checkCorner l dC dI cy hlt x F p1 p2 v3 e3) (g_V gw159 gw161 gw1 gw7 gw162) hdV_X8_checkCorner rfl ⟨⟨Nat.le_of_ble_eq_true rfl, Nat.le_of_ble_eq_true rfl⟩, Nat.le_of_ble_eq_true rfl, Nat.le_of_ble_eq_true rfl⟩ hP hD hS hA ⟨rfl, rfl⟩ rfl [0, 1, 2, 3, 4, 5] [6, 7, 8, 9, 10] rfl rfl rfl (by decide) (by decide) hl.1 rfl (Nat.le_of_ble_eq_true rfl) rfl rfl dX8_whyNot_3 (fun H locs ret ho hP hD hS => ?_) (fun H locs k q ce ho hP hD hS h1 h2 h3 => ?_)
    · rw [hv3] at ho; cases ho
    rw [hv3] at ho
    obtain rfl := Sum.inl.inj ho
    obtain ⟨hP, hD⟩ := x_perm (ws' := wSPo x ++ wFig (fun j => x (1 + j)) cy F ++ wFig (fun j => x (6 + j)) cy D) hP hD [5, 6, 7, 8, 9, 10, 0, 1, 2, 3, 4] (by decide) rfl rfl
    obtain rfl := Option.some.inj h
    exact hO H locs 1 6 3 ls _ _ q ce hP hD hS (by decide) (by decide) rfl h1 h2 h3
  simp only [hv3] at h
  refine cXV (av := [.int p1, .int p2]) (rest := []) (k1 := 1) (k2 := 6) (ci := 3) (q0 := 0) hx hb hml hown htg hN hK hX0 (c_X8_checkCorner l dC dI cy hlt x F p1 p2 v3 e3) (g_V gw159 gw161 gw1 gw7 gw162) hdV_X8_checkCorner rfl ⟨⟨Nat.le_of_ble_eq_true rfl, Nat.le_of_ble_eq_true rfl⟩, Nat.le_of_ble_eq_true rfl, Nat.le_of_ble_eq_true rfl⟩ hP hD hS hA ⟨rfl, rfl⟩ rfl [0, 1, 2, 3, 4, 5] [6, 7, 8, 9, 10] rfl rfl rfl (by decide) (by decide) hl.1 rfl (Nat.le_of_ble_eq_true rfl) rfl rfl dX8_whyNot_3 (fun H locs ret ho hP hD hS => ?_) (fun H locs k q ce ho hP hD hS h1 h2 h3 => ?_)
  rotate_left
  · rw [hv3] at ho; cases ho
  rw [hv3] at ho
  obtain rfl := Sum.inr.inj ho
  obtain ⟨hP, hD⟩ := x_perm (ws' := wSPo x ++ wFig (fun j => x (1 + j)) cy F ++ wFig (fun j => x (6 + j)) cy D) hP hD [5, 6, 7, 8, 9, 10, 0, 1, 2, 3, 4] (by decide) rfl rfl
  refine W.eq (g2 := F0 mm 6 ls []) rfl ?_
  refine lv_aload_n hx hb dX8_whyNot_6 rfl (lv_at hl 0 rfl) ?_
  refine va_get (D := (dC, dI)) (ci := 3) (v := .ref (x 6)) (C := RX8) (T := TX8) (N := 7) hx hb htg inX8 hown hK hP 0 rfl rfl 1 (by decide) (htg _ gw134) (fun _ h9 => h9) rfl dX8_whyNot_7 ?_
  refine lv_aload_n hx hb dX8_whyNot_10 rfl (lv_at hl 0 rfl) ?_
  refine va_get (D := (dC, dI)) (ci := 3) (v := .ref (x 1)) (C := RX8) (T := TX8) (N := 7) hx hb htg inX8 hown hK hP 0 rfl rfl 0 (by decide) (htg _ gw133) (fun _ h9 => h9) rfl dX8_whyNot_11 ?_
  obtain ⟨v14, e14, h⟩ := bnd h
  refine cV (av := [.ref (x 1)]) (rest := []) (st1 := []) (k1 := 1) (k2 := 6) (ci := 0) (q0 := 0) hx hb hml hown htg hN hK (c_X1_copyFrom l dC dI cy (fun j => x (6 + j)) (fun j => x (1 + j)) D F  v14 e14) (g_V gw235 gw236 gw237 gw8 gw238) hdV_X1_copyFrom rfl ⟨⟨Nat.le_of_ble_eq_true rfl, Nat.le_of_ble_eq_true rfl⟩, Nat.le_of_ble_eq_true rfl, Nat.le_of_ble_eq_true rfl⟩ hP hD hS hA ⟨rfl, rfl⟩ rfl [6, 7, 8, 9, 10, 1, 2, 3, 4, 5] [0] rfl rfl rfl (by decide) (by decide) hl.1 rfl (Nat.le_of_ble_eq_true rfl) rfl rfl rfl dX8_whyNot_14 (fun H locs hP hD hS => ?_)
  obtain ⟨hP, hD⟩ := x_perm (ws' := wSPo x ++ wFig (fun j => x (1 + j)) cy F ++ wFig (fun j => x (6 + j)) cy v14) hP hD [0, 6, 7, 8, 9, 10, 1, 2, 3, 4, 5] (by decide) rfl rfl
  refine lv_aload_n hx hb dX8_whyNot_17 rfl (lv_at hl 0 rfl) ?_
  refine va_get (D := (dC, dI)) (ci := 3) (v := .ref (x 6)) (C := RX8) (T := TX8) (N := 7) hx hb htg inX8 hown hK hP 0 rfl rfl 1 (by decide) (htg _ gw134) (fun _ h9 => h9) rfl dX8_whyNot_18 ?_
  refine lv_aload_n hx hb dX8_whyNot_21 rfl (lv_at hl 0 rfl) ?_
  refine va_get (D := (dC, dI)) (ci := 3) (v := .ref (x 6)) (C := RX8) (T := TX8) (N := 7) hx hb htg inX8 hown hK hP 0 rfl rfl 1 (by decide) (htg _ gw134) (fun _ h9 => h9) rfl dX8_whyNot_22 ?_
  refine lv_iload_n hx hb dX8_whyNot_25 rfl (lv_at hl 1 rfl) ?_
  refine lv_iload_n hx hb dX8_whyNot_26 rfl (lv_at hl 2 rfl) ?_
  obtain ⟨v27, e27, h⟩ := bnd h
  refine cV (av := [.int p1, .int p2]) (rest := [.ref (x 6)]) (st1 := [.int v27, .ref (x 6)]) (k1 := 1) (k2 := 6) (ci := 0) (q0 := 0) hx hb hml hown htg hN hK (c_X1_at l dC dI cy (fun j => x (6 + j)) v14 p1 p2 v27 e27) (g_V gw242 gw118 gw119 gw8 gw120) hdV_X1_at rfl ⟨⟨Nat.le_of_ble_eq_true rfl, Nat.le_of_ble_eq_true rfl⟩, Nat.le_of_ble_eq_true rfl, Nat.le_of_ble_eq_true rfl⟩ hP hD hS hA ⟨rfl, rfl⟩ rfl [6, 7, 8, 9, 10] [0, 1, 2, 3, 4, 5] rfl rfl rfl (by decide) (by decide) hl.1 rfl (Nat.le_of_ble_eq_true rfl) rfl rfl rfl dX8_whyNot_27 (fun H locs hP hD hS => ?_)
  obtain ⟨hP, hD⟩ := x_perm (ws' := wSPo x ++ wFig (fun j => x (1 + j)) cy F ++ wFig (fun j => x (6 + j)) cy v14) hP hD [0, 1, 2, 3, 4, 5, 6, 7, 8, 9, 10] (by decide) rfl rfl
  refine lv_iload_n hx hb dX8_whyNot_30 rfl (lv_at hl 3 rfl) ?_
  refine lv_iload hx hb dX8_whyNot_31 (lv_at hl 4 rfl) ?_
  obtain ⟨v33, e33, h⟩ := bnd h
  refine cV (av := [.int v27, .int p3, .int p4]) (rest := []) (st1 := []) (k1 := 1) (k2 := 6) (ci := 0) (q0 := 0) hx hb hml hown htg hN hK (c_X1_place l dC dI cy (fun j => x (6 + j)) v14 v27 p3 p4 v33 e33) (g_V gw243 gw126 gw127 gw8 gw128) hdV_X1_place rfl ⟨⟨Nat.le_of_ble_eq_true rfl, Nat.le_of_ble_eq_true rfl⟩, Nat.le_of_ble_eq_true rfl, Nat.le_of_ble_eq_true rfl⟩ hP hD hS hA ⟨rfl, rfl⟩ rfl [6, 7, 8, 9, 10] [0, 1, 2, 3, 4, 5] rfl rfl rfl (by decide) (by decide) hl.1 rfl (Nat.le_of_ble_eq_true rfl) rfl rfl rfl dX8_whyNot_33 (fun H locs hP hD hS => ?_)
  obtain ⟨hP, hD⟩ := x_perm (ws' := wSPo x ++ wFig (fun j => x (1 + j)) cy F ++ wFig (fun j => x (6 + j)) cy v33) hP hD [0, 1, 2, 3, 4, 5, 6, 7, 8, 9, 10] (by decide) rfl rfl
  refine lv_aload_n hx hb dX8_whyNot_36 rfl (lv_at hl 0 rfl) ?_
  refine va_get (D := (dC, dI)) (ci := 3) (v := .ref (x 6)) (C := RX8) (T := TX8) (N := 7) hx hb htg inX8 hown hK hP 0 rfl rfl 1 (by decide) (htg _ gw134) (fun _ h9 => h9) rfl dX8_whyNot_37 ?_
  obtain ⟨v40, e40, h⟩ := bnd h
  refine cS (av := [.ref (x 6)]) (rest := []) (st1 := [.int v40]) (k1 := 1) (k2 := 6) hx hb hml hown htg hN hK (c_X4_firstBroken l dC dI cy (fun j => x (6 + j)) v33  v40 e40) (g_S gw244 gw245 gw16 gw246) hdS_X4_firstBroken rfl ⟨⟨Nat.le_of_ble_eq_true rfl, Nat.le_of_ble_eq_true rfl⟩, Nat.le_of_ble_eq_true rfl, Nat.le_of_ble_eq_true rfl⟩ hP hD hS hA [6, 7, 8, 9, 10] [0, 1, 2, 3, 4, 5] rfl rfl rfl (by decide) (by decide) hl.1 rfl (Nat.le_of_ble_eq_true rfl) rfl rfl rfl dX8_whyNot_40 (fun H locs hP hD hS => ?_)
  obtain ⟨hP, hD⟩ := x_perm (ws' := wSPo x ++ wFig (fun j => x (1 + j)) cy F ++ wFig (fun j => x (6 + j)) cy v33) hP hD [0, 1, 2, 3, 4, 5, 6, 7, 8, 9, 10] (by decide) rfl rfl
  obtain rfl := Option.some.inj h
  exact hE H locs 1 6 43 ls _ hP hD hS (by decide) (by decide) rfl ⟨_, rfl, rfl⟩ dX8_whyNot_43
