def G_X3_forgetAll (p_0 : PastS) : Option (PastS) :=
  (some (ps_oldest p_0 0)).bind fun z0_7 =>
  some (ps_count z0_7 0)
abbrev rm_X3_forgetAll : Room := { frames := 0, cells := 0, slots := 0, locals := 0 }
theorem hdS_X3_forgetAll : yX3_forgetAll.cls ≠ "java/lang/invoke/MethodHandle" ∧ yX3_forgetAll.cls ≠ "java/lang/invoke/VarHandle" ∧ (parseMethodDescriptor yX3_forgetAll.desc).map (fun d => d.parameters.length) = some 0 := by decide +kernel
theorem hdV_X3_forgetAll : yX3_forgetAll.cls = RX3 ∧ yX3_forgetAll.cls ≠ "java/lang/invoke/MethodHandle" ∧ yX3_forgetAll.cls ≠ "java/lang/invoke/VarHandle" ∧ (parseMethodDescriptor yX3_forgetAll.desc).map (fun d => d.parameters.length) = some 0 := ⟨rfl, hdS_X3_forgetAll⟩
set_option maxHeartbeats 4000000 in
set_option maxRecDepth 100000 in
theorem c_X3_forgetAll (l : Launch) (dC : Nat → ClassId) (dI : Nat → Nat → Nat) (cy : Nat → ClassId) (a0 : Nat → Nat) (p_0 : PastS) (res : PastS) (h : G_X3_forgetAll p_0 = some res) : CT l (dC, dI) (TY cy) yX3_forgetAll cX3_forgetAll 1 none rm_X3_forgetAll [.ref (a0 0)] (wP2 a0 cy p_0 ++ wPF a0 cy (p_figs p_0)) (wP2 a0 cy res ++ wPF a0 cy (p_figs res)) none := by
  refine CT.mk_v (own := RX3) ⟨by decide, rfl⟩ (Nat.le_of_ble_eq_true rfl) ?_
  intro p e s mm args below meth cd A Q hx hb hml hown htg hN hK hA hP hD hS hE ls hl
  have hl : lv_has ls 1 [(0, .ref (a0 0))] := hl
  replace h : _ = some res := h
  unfold G_X3_forgetAll at h
  obtain ⟨H, hH⟩ : ∃ H, H = s.heap := ⟨_, rfl⟩
  obtain ⟨locs, hlocs⟩ : ∃ locs : List Loc, locs = [] := ⟨_, rfl⟩
  rw [← hlocs] at hS ⊢
  have hS : va_S A s.heap H locs := by rw [hH]; exact hS
  rw [← hH] at hP ⊢
  refine lv_aload_n hx hb dX3_forgetAll_0 rfl (lv_at hl 0 rfl) ?_
  refine lv_iconst (v := 0) hx hb dX3_forgetAll_1 (by decide) ?_
  refine va_put (D := (dC, dI)) (ci := 1) (v := .int 0) (ty := .int) (C := RX3) (T := TX3) (N := 3) hx hb htg inX3 tyX3 tyX3_ok nmX3 hown hK hP hD hS 0 rfl rfl 1 (by decide) (htg _ gw130) (fun _ h9 => h9) rfl (by decide +kernel) rfl rfl (Nat.le_of_ble_eq_true rfl) dX3_forgetAll_2 (fun H locs hP hD hS => ?_)
  have hP : va_P (dC, dI) vwCl (wP2 a0 cy (ps_oldest p_0 0) ++ wPF a0 cy (p_figs (ps_oldest p_0 0))) H := hP
  have hD : va_D A (wP2 a0 cy (ps_oldest p_0 0) ++ wPF a0 cy (p_figs (ps_oldest p_0 0))) := hD
  refine lv_aload_n hx hb dX3_forgetAll_5 rfl (lv_at hl 0 rfl) ?_
  refine lv_iconst (v := 0) hx hb dX3_forgetAll_6 (by decide) ?_
  obtain ⟨z0_7, ez0_7, h⟩ := bnd h
  replace ez0_7 := Option.some.inj ez0_7
  rw [ez0_7] at hP hD
  refine va_put (D := (dC, dI)) (ci := 1) (v := .int 0) (ty := .int) (C := RX3) (T := TX3) (N := 3) hx hb htg inX3 tyX3 tyX3_ok nmX3 hown hK hP hD hS 0 rfl rfl 2 (by decide) (htg _ gw131) (fun _ h9 => h9) rfl (by decide +kernel) rfl rfl (Nat.le_of_ble_eq_true rfl) dX3_forgetAll_7 (fun H locs hP hD hS => ?_)
  have hP : va_P (dC, dI) vwCl (wP2 a0 cy (ps_count z0_7 0) ++ wPF a0 cy (p_figs (ps_count z0_7 0))) H := hP
  have hD : va_D A (wP2 a0 cy (ps_count z0_7 0) ++ wPF a0 cy (p_figs (ps_count z0_7 0))) := hD
  obtain rfl := Option.some.inj h
  exact hE H locs 10 ls hP hD hS dX3_forgetAll_10
def G_X3_remember (p_0 : PastS) (f1 : Fig) : Option (PastS) :=
  (rdx 14 (((p_oldest p_0) + (p_count p_0)) - ((p_oldest p_0) + (p_count p_0)) / 14 * 14)).bind fun k16 =>
  (G_X1_copyFrom (p_figs p_0 k16) f1).bind fun v18 =>
  if 14 ≤ p_count (ps_figs p_0 (updF (p_figs p_0) k16 v18)) then
    (some (ps_figs p_0 (updF (p_figs p_0) k16 v18))).bind fun z0_53 =>
    some (ps_oldest z0_53 (((p_oldest (ps_figs p_0 (updF (p_figs p_0) k16 v18))) + 1) - ((p_oldest (ps_figs p_0 (updF (p_figs p_0) k16 v18))) + 1) / 14 * 14))
  else
    (some (ps_figs p_0 (updF (p_figs p_0) k16 v18))).bind fun z0_37 =>
    some (ps_count z0_37 ((p_count (ps_figs p_0 (updF (p_figs p_0) k16 v18))) + 1))
abbrev rm_X3_remember : Room := { frames := 2, cells := 0, slots := 0, locals := 61 }
theorem hdS_X3_remember : yX3_remember.cls ≠ "java/lang/invoke/MethodHandle" ∧ yX3_remember.cls ≠ "java/lang/invoke/VarHandle" ∧ (parseMethodDescriptor yX3_remember.desc).map (fun d => d.parameters.length) = some 1 := by decide +kernel
theorem hdV_X3_remember : yX3_remember.cls = RX3 ∧ yX3_remember.cls ≠ "java/lang/invoke/MethodHandle" ∧ yX3_remember.cls ≠ "java/lang/invoke/VarHandle" ∧ (parseMethodDescriptor yX3_remember.desc).map (fun d => d.parameters.length) = some 1 := ⟨rfl, hdS_X3_remember⟩
set_option maxHeartbeats 4000000 in
set_option maxRecDepth 100000 in
theorem c_X3_remember (l : Launch) (dC : Nat → ClassId) (dI : Nat → Nat → Nat) (cy : Nat → ClassId) (a0 : Nat → Nat) (a1 : Nat → Nat) (p_0 : PastS) (f1 : Fig) (res : PastS) (h : G_X3_remember p_0 f1 = some res) : CT l (dC, dI) (TY cy) yX3_remember cX3_remember 2 none rm_X3_remember [.ref (a0 0), .ref (a1 0)] (wP2 a0 cy p_0 ++ wFig a1 cy f1 ++ wPF a0 cy (p_figs p_0)) (wP2 a0 cy res ++ wFig a1 cy f1 ++ wPF a0 cy (p_figs res)) none := by
  refine CT.mk_v (own := RX3) ⟨by decide, rfl⟩ (Nat.le_of_ble_eq_true rfl) ?_
  intro p e s mm args below meth cd A Q hx hb hml hown htg hN hK hA hP hD hS hE ls hl
  have hl : lv_has ls 2 [(0, .ref (a0 0)), (1, .ref (a1 0))] := hl
  replace h : _ = some res := h
  unfold G_X3_remember at h
  obtain ⟨H, hH⟩ : ∃ H, H = s.heap := ⟨_, rfl⟩
  obtain ⟨locs, hlocs⟩ : ∃ locs : List Loc, locs = [] := ⟨_, rfl⟩
  rw [← hlocs] at hS ⊢
  have hS : va_S A s.heap H locs := by rw [hH]; exact hS
  rw [← hH] at hP ⊢
  refine lv_aload_n hx hb dX3_remember_0 rfl (lv_at hl 0 rfl) ?_
  refine va_get (D := (dC, dI)) (ci := 1) (v := .ref (a0 1)) (C := RX3) (T := TX3) (N := 3) hx hb htg inX3 hown hK hP 0 rfl rfl 0 (by decide) (htg _ gw129) (fun _ h9 => h9) rfl dX3_remember_1 ?_
  refine lv_aload_n hx hb dX3_remember_4 rfl (lv_at hl 0 rfl) ?_
  refine va_get (D := (dC, dI)) (ci := 1) (v := .int (p_oldest p_0)) (C := RX3) (T := TX3) (N := 3) hx hb htg inX3 hown hK hP 0 rfl rfl 1 (by decide) (htg _ gw130) (fun _ h9 => h9) rfl dX3_remember_5 ?_
  refine lv_aload_n hx hb dX3_remember_8 rfl (lv_at hl 0 rfl) ?_
  refine va_get (D := (dC, dI)) (ci := 1) (v := .int (p_count p_0)) (C := RX3) (T := TX3) (N := 3) hx hb htg inX3 hown hK hP 0 rfl rfl 2 (by decide) (htg _ gw131) (fun _ h9 => h9) rfl dX3_remember_9 ?_
  refine lv_iadd hx hb dX3_remember_12 ?_
  refine lv_bipush (v := 14) hx hb dX3_remember_13 (by decide) ?_
  refine lv_irem hx hb dX3_remember_15 (by decide) ?_
  obtain ⟨k16, e16, h⟩ := bnd h
  have hk16 := (rdx_in e16).2.2
  refine x_aldq (C := "SquaredPaper$Figure") (v := .ref (a0 (2 + 5 * k16))) hx hb hK hP 1 3 rfl rfl e16 rfl dX3_remember_16 ?_
  refine lv_aload_n hx hb dX3_remember_17 rfl (lv_at hl 1 rfl) ?_
  obtain ⟨v18, e18, h⟩ := bnd h
  refine cVp (av := [.ref (a1 0)]) (rest := []) (st1 := []) (k1 := 0) (k2 := 0) (wn := wP2 a0 cy (ps_figs p_0 (updF (p_figs p_0) k16 v18)) ++ wFig a1 cy f1 ++ wPF a0 cy (p_figs (ps_figs p_0 (updF (p_figs p_0) k16 v18)))) (ci := 0) (q0 := 0) hx hb hml hown htg hN hK (c_X1_copyFrom l dC dI cy (fun j => a0 (2 + 5 * k16 + j)) a1 (p_figs p_0 k16) f1  v18 e18) (g_V gw332 gw314 gw315 gw60 gw316) hdV_X1_copyFrom rfl ⟨⟨Nat.le_of_ble_eq_true rfl, Nat.le_of_ble_eq_true rfl⟩, Nat.le_of_ble_eq_true rfl, Nat.le_of_ble_eq_true rfl⟩ hP hD hS hA ⟨rfl, rfl⟩ rfl (perm_K1 hk16 (perm_ix 7 [2, 3, 4, 5, 6] [0, 1] rfl rfl rfl (by decide))) (perm_K1b (wf := _) hk16 (perm_ix 7 [2, 3, 4, 5, 6] [0, 1] rfl rfl rfl (by decide))) hl.1 rfl (Nat.le_of_ble_eq_true rfl) rfl rfl rfl dX3_remember_18 (fun H locs hP hD hS => ?_)
  refine lv_aload_n hx hb dX3_remember_21 rfl (lv_at hl 0 rfl) ?_
  refine va_get (D := (dC, dI)) (ci := 1) (v := .int (p_count (ps_figs p_0 (updF (p_figs p_0) k16 v18)))) (C := RX3) (T := TX3) (N := 3) hx hb htg inX3 hown hK hP 0 rfl rfl 2 (by decide) (htg _ gw131) (fun _ h9 => h9) rfl dX3_remember_22 ?_
  refine lv_bipush (v := 14) hx hb dX3_remember_25 (by decide) ?_
  refine lv_icmp_ge (tgt := 43) hx hb dX3_remember_27 (by decide) (fun c27 => ?_) (fun c27 => ?_)
  · replace h := if_t h c27
    refine lv_aload_n hx hb dX3_remember_43 rfl (lv_at hl 0 rfl) ?_
    refine lv_aload_n hx hb dX3_remember_44 rfl (lv_at hl 0 rfl) ?_
    refine va_get (D := (dC, dI)) (ci := 1) (v := .int (p_oldest (ps_figs p_0 (updF (p_figs p_0) k16 v18)))) (C := RX3) (T := TX3) (N := 3) hx hb htg inX3 hown hK hP 0 rfl rfl 1 (by decide) (htg _ gw130) (fun _ h9 => h9) rfl dX3_remember_45 ?_
    refine lv_iconst (v := 1) hx hb dX3_remember_48 (by decide) ?_
    refine lv_iadd hx hb dX3_remember_49 ?_
    refine lv_bipush (v := 14) hx hb dX3_remember_50 (by decide) ?_
    refine lv_irem hx hb dX3_remember_52 (by decide) ?_
    obtain ⟨z0_53, ez0_53, h⟩ := bnd h
    replace ez0_53 := Option.some.inj ez0_53
    rw [ez0_53] at hP hD
    refine va_put (D := (dC, dI)) (ci := 1) (v := .int (((p_oldest (ps_figs p_0 (updF (p_figs p_0) k16 v18))) + 1) - ((p_oldest (ps_figs p_0 (updF (p_figs p_0) k16 v18))) + 1) / 14 * 14)) (ty := .int) (C := RX3) (T := TX3) (N := 3) hx hb htg inX3 tyX3 tyX3_ok nmX3 hown hK hP hD hS 0 rfl rfl 1 (by decide) (htg _ gw130) (fun _ h9 => h9) rfl (by decide +kernel) rfl rfl (Nat.le_of_ble_eq_true rfl) dX3_remember_53 (fun H locs hP hD hS => ?_)
    have hP : va_P (dC, dI) vwCl (wP2 a0 cy (ps_oldest z0_53 (((p_oldest (ps_figs p_0 (updF (p_figs p_0) k16 v18))) + 1) - ((p_oldest (ps_figs p_0 (updF (p_figs p_0) k16 v18))) + 1) / 14 * 14)) ++ wFig a1 cy f1 ++ wPF a0 cy (p_figs (ps_oldest z0_53 (((p_oldest (ps_figs p_0 (updF (p_figs p_0) k16 v18))) + 1) - ((p_oldest (ps_figs p_0 (updF (p_figs p_0) k16 v18))) + 1) / 14 * 14)))) H := hP
    have hD : va_D A (wP2 a0 cy (ps_oldest z0_53 (((p_oldest (ps_figs p_0 (updF (p_figs p_0) k16 v18))) + 1) - ((p_oldest (ps_figs p_0 (updF (p_figs p_0) k16 v18))) + 1) / 14 * 14)) ++ wFig a1 cy f1 ++ wPF a0 cy (p_figs (ps_oldest z0_53 (((p_oldest (ps_figs p_0 (updF (p_figs p_0) k16 v18))) + 1) - ((p_oldest (ps_figs p_0 (updF (p_figs p_0) k16 v18))) + 1) / 14 * 14)))) := hD
    obtain rfl := Option.some.inj h
    exact hE H locs 56 ls hP hD hS dX3_remember_56
  replace h := if_f h c27
  refine lv_aload_n hx hb dX3_remember_30 rfl (lv_at hl 0 rfl) ?_
  refine lv_dup hx hb dX3_remember_31 rfl ?_
  refine va_get (D := (dC, dI)) (ci := 1) (v := .int (p_count (ps_figs p_0 (updF (p_figs p_0) k16 v18)))) (C := RX3) (T := TX3) (N := 3) hx hb htg inX3 hown hK hP 0 rfl rfl 2 (by decide) (htg _ gw131) (fun _ h9 => h9) rfl dX3_remember_32 ?_
  refine lv_iconst (v := 1) hx hb dX3_remember_35 (by decide) ?_
  refine lv_iadd hx hb dX3_remember_36 ?_
  obtain ⟨z0_37, ez0_37, h⟩ := bnd h
  replace ez0_37 := Option.some.inj ez0_37
  rw [ez0_37] at hP hD
  refine va_put (D := (dC, dI)) (ci := 1) (v := .int ((p_count (ps_figs p_0 (updF (p_figs p_0) k16 v18))) + 1)) (ty := .int) (C := RX3) (T := TX3) (N := 3) hx hb htg inX3 tyX3 tyX3_ok nmX3 hown hK hP hD hS 0 rfl rfl 2 (by decide) (htg _ gw131) (fun _ h9 => h9) rfl (by decide +kernel) rfl rfl (Nat.le_of_ble_eq_true rfl) dX3_remember_37 (fun H locs hP hD hS => ?_)
  have hP : va_P (dC, dI) vwCl (wP2 a0 cy (ps_count z0_37 ((p_count (ps_figs p_0 (updF (p_figs p_0) k16 v18))) + 1)) ++ wFig a1 cy f1 ++ wPF a0 cy (p_figs (ps_count z0_37 ((p_count (ps_figs p_0 (updF (p_figs p_0) k16 v18))) + 1)))) H := hP
  have hD : va_D A (wP2 a0 cy (ps_count z0_37 ((p_count (ps_figs p_0 (updF (p_figs p_0) k16 v18))) + 1)) ++ wFig a1 cy f1 ++ wPF a0 cy (p_figs (ps_count z0_37 ((p_count (ps_figs p_0 (updF (p_figs p_0) k16 v18))) + 1)))) := hD
  refine lv_goto (tgt := 56) hx hb dX3_remember_40 (by decide) ?_
  obtain rfl := Option.some.inj h
  exact hE H locs 56 ls hP hD hS dX3_remember_56
def G_X3_takeBackInto (p_0 : PastS) (f1 : Fig) : Option (PastS × Fig) :=
  if p_count p_0 ≤ 0 then
    some (p_0, f1)
  else
    (rdx 14 (((p_oldest (ps_count p_0 ((p_count p_0) - 1))) + (p_count (ps_count p_0 ((p_count p_0) - 1)))) - ((p_oldest (ps_count p_0 ((p_count p_0) - 1))) + (p_count (ps_count p_0 ((p_count p_0) - 1)))) / 14 * 14)).bind fun k34 =>
    (G_X1_copyFrom f1 (p_figs (ps_count p_0 ((p_count p_0) - 1)) k34)).bind fun v35 =>
    some (ps_count p_0 ((p_count p_0) - 1), v35)
abbrev rm_X3_takeBackInto : Room := { frames := 2, cells := 0, slots := 0, locals := 61 }
theorem hdS_X3_takeBackInto : yX3_takeBackInto.cls ≠ "java/lang/invoke/MethodHandle" ∧ yX3_takeBackInto.cls ≠ "java/lang/invoke/VarHandle" ∧ (parseMethodDescriptor yX3_takeBackInto.desc).map (fun d => d.parameters.length) = some 1 := by decide +kernel
theorem hdV_X3_takeBackInto : yX3_takeBackInto.cls = RX3 ∧ yX3_takeBackInto.cls ≠ "java/lang/invoke/MethodHandle" ∧ yX3_takeBackInto.cls ≠ "java/lang/invoke/VarHandle" ∧ (parseMethodDescriptor yX3_takeBackInto.desc).map (fun d => d.parameters.length) = some 1 := ⟨rfl, hdS_X3_takeBackInto⟩
set_option maxHeartbeats 4000000 in
set_option maxRecDepth 100000 in
theorem c_X3_takeBackInto (l : Launch) (dC : Nat → ClassId) (dI : Nat → Nat → Nat) (cy : Nat → ClassId) (a0 : Nat → Nat) (a1 : Nat → Nat) (p_0 : PastS) (f1 : Fig) (res : PastS × Fig) (h : G_X3_takeBackInto p_0 f1 = some res) : CT l (dC, dI) (TY cy) yX3_takeBackInto cX3_takeBackInto 2 none rm_X3_takeBackInto [.ref (a0 0), .ref (a1 0)] (wP2 a0 cy p_0 ++ wFig a1 cy f1 ++ wPF a0 cy (p_figs p_0)) (wP2 a0 cy res.1 ++ wFig a1 cy res.2 ++ wPF a0 cy (p_figs res.1)) none := by
  refine CT.mk_v (own := RX3) ⟨by decide, rfl⟩ (Nat.le_of_ble_eq_true rfl) ?_
  intro p e s mm args below meth cd A Q hx hb hml hown htg hN hK hA hP hD hS hE ls hl
  have hl : lv_has ls 2 [(0, .ref (a0 0)), (1, .ref (a1 0))] := hl
  replace h : _ = some res := h
  unfold G_X3_takeBackInto at h
  obtain ⟨H, hH⟩ : ∃ H, H = s.heap := ⟨_, rfl⟩
  obtain ⟨locs, hlocs⟩ : ∃ locs : List Loc, locs = [] := ⟨_, rfl⟩
  rw [← hlocs] at hS ⊢
  have hS : va_S A s.heap H locs := by rw [hH]; exact hS
  rw [← hH] at hP ⊢
  refine lv_aload_n hx hb dX3_takeBackInto_0 rfl (lv_at hl 0 rfl) ?_
  refine va_get (D := (dC, dI)) (ci := 1) (v := .int (p_count p_0)) (C := RX3) (T := TX3) (N := 3) hx hb htg inX3 hown hK hP 0 rfl rfl 2 (by decide) (htg _ gw131) (fun _ h9 => h9) rfl dX3_takeBackInto_1 ?_
  refine lv_if_le (tgt := 38) hx hb dX3_takeBackInto_4 (by decide) (fun c4 => ?_) (fun c4 => ?_)
  · replace h := if_t h c4
    obtain rfl := Option.some.inj h
    exact hE H locs 38 ls hP hD hS dX3_takeBackInto_38
  replace h := if_f h c4
  refine lv_aload_n hx hb dX3_takeBackInto_7 rfl (lv_at hl 0 rfl) ?_
  refine lv_dup hx hb dX3_takeBackInto_8 rfl ?_
  refine va_get (D := (dC, dI)) (ci := 1) (v := .int (p_count p_0)) (C := RX3) (T := TX3) (N := 3) hx hb htg inX3 hown hK hP 0 rfl rfl 2 (by decide) (htg _ gw131) (fun _ h9 => h9) rfl dX3_takeBackInto_9 ?_
  refine lv_iconst (v := 1) hx hb dX3_takeBackInto_12 (by decide) ?_
  refine lv_isub hx hb dX3_takeBackInto_13 ?_
  refine va_put (D := (dC, dI)) (ci := 1) (v := .int ((p_count p_0) - 1)) (ty := .int) (C := RX3) (T := TX3) (N := 3) hx hb htg inX3 tyX3 tyX3_ok nmX3 hown hK hP hD hS 0 rfl rfl 2 (by decide) (htg _ gw131) (fun _ h9 => h9) rfl (by decide +kernel) rfl rfl (Nat.le_of_ble_eq_true rfl) dX3_takeBackInto_14 (fun H locs hP hD hS => ?_)
  have hP : va_P (dC, dI) vwCl (wP2 a0 cy (ps_count p_0 ((p_count p_0) - 1)) ++ wFig a1 cy f1 ++ wPF a0 cy (p_figs (ps_count p_0 ((p_count p_0) - 1)))) H := hP
  have hD : va_D A (wP2 a0 cy (ps_count p_0 ((p_count p_0) - 1)) ++ wFig a1 cy f1 ++ wPF a0 cy (p_figs (ps_count p_0 ((p_count p_0) - 1)))) := hD
  refine lv_aload_n hx hb dX3_takeBackInto_17 rfl (lv_at hl 1 rfl) ?_
  refine lv_aload_n hx hb dX3_takeBackInto_18 rfl (lv_at hl 0 rfl) ?_
  refine va_get (D := (dC, dI)) (ci := 1) (v := .ref (a0 1)) (C := RX3) (T := TX3) (N := 3) hx hb htg inX3 hown hK hP 0 rfl rfl 0 (by decide) (htg _ gw129) (fun _ h9 => h9) rfl dX3_takeBackInto_19 ?_
  refine lv_aload_n hx hb dX3_takeBackInto_22 rfl (lv_at hl 0 rfl) ?_
  refine va_get (D := (dC, dI)) (ci := 1) (v := .int (p_oldest (ps_count p_0 ((p_count p_0) - 1)))) (C := RX3) (T := TX3) (N := 3) hx hb htg inX3 hown hK hP 0 rfl rfl 1 (by decide) (htg _ gw130) (fun _ h9 => h9) rfl dX3_takeBackInto_23 ?_
  refine lv_aload_n hx hb dX3_takeBackInto_26 rfl (lv_at hl 0 rfl) ?_
  refine va_get (D := (dC, dI)) (ci := 1) (v := .int (p_count (ps_count p_0 ((p_count p_0) - 1)))) (C := RX3) (T := TX3) (N := 3) hx hb htg inX3 hown hK hP 0 rfl rfl 2 (by decide) (htg _ gw131) (fun _ h9 => h9) rfl dX3_takeBackInto_27 ?_
  refine lv_iadd hx hb dX3_takeBackInto_30 ?_
  refine lv_bipush (v := 14) hx hb dX3_takeBackInto_31 (by decide) ?_
  refine lv_irem hx hb dX3_takeBackInto_33 (by decide) ?_
  obtain ⟨k34, e34, h⟩ := bnd h
  have hk34 := (rdx_in e34).2.2
  refine x_aldq (C := "SquaredPaper$Figure") (v := .ref (a0 (2 + 5 * k34))) hx hb hK hP 1 3 rfl rfl e34 rfl dX3_takeBackInto_34 ?_
  obtain ⟨v35, e35, h⟩ := bnd h
  refine cVp (av := [.ref (a0 (2 + 5 * k34))]) (rest := []) (st1 := []) (k1 := 0) (k2 := 0) (wn := wP2 a0 cy (ps_count p_0 ((p_count p_0) - 1)) ++ wFig a1 cy v35 ++ wPF a0 cy (p_figs (ps_count p_0 ((p_count p_0) - 1)))) (ci := 0) (q0 := 0) hx hb hml hown htg hN hK (c_X1_copyFrom l dC dI cy a1 (fun j => a0 (2 + 5 * k34 + j)) f1 (p_figs (ps_count p_0 ((p_count p_0) - 1)) k34)  v35 e35) (g_V gw332 gw314 gw315 gw60 gw316) hdV_X1_copyFrom rfl ⟨⟨Nat.le_of_ble_eq_true rfl, Nat.le_of_ble_eq_true rfl⟩, Nat.le_of_ble_eq_true rfl, Nat.le_of_ble_eq_true rfl⟩ hP hD hS hA ⟨rfl, rfl⟩ rfl (perm_K2 hk34 (perm_ix 7 [2, 3, 4, 5, 6] [0, 1] rfl rfl rfl (by decide))) (perm_K2b (wf := _) hk34 (perm_ix 7 [2, 3, 4, 5, 6] [0, 1] rfl rfl rfl (by decide))) hl.1 rfl (Nat.le_of_ble_eq_true rfl) rfl rfl rfl dX3_takeBackInto_35 (fun H locs hP hD hS => ?_)
  obtain rfl := Option.some.inj h
  exact hE H locs 38 ls hP hD hS dX3_takeBackInto_38
def G_X8_about (F : Fig) (p1 : Int32) : Option ((Sum Nat Int32)) :=
  if p1 = 0 then
    some (.inr (f_rings F))
  else
  if p1 = 1 then
    some (.inr (f_corners F))
  else
  if p1 = 2 then
    (G_X2_area F).bind fun v76 =>
    some (.inr v76)
  else
  if p1 = 3 then
    (G_X2_border F).bind fun v84 =>
    some (.inr v84)
  else
  if p1 = 4 then
    (G_X2_inside F).bind fun v92 =>
    some (.inr v92)
  else
  if p1 = 5 then
    (G_X2_outlineCorners F 1).bind fun v101 =>
    some (.inr v101)
  else
  if p1 = 6 then
    (G_X2_outlineCorners F (-1)).bind fun v110 =>
    some (.inr v110)
  else
  if p1 = 7 then
    (G_X6_ears F).bind fun v118 =>
    some (.inr v118)
  else
  if p1 = 8 then
    (G_X2_hull F).bind fun v126 =>
    some (.inr v126)
  else
  if p1 = 9 then
    (G_X6_pairs F).bind fun v134 =>
    some (.inr v134)
  else
  some (.inl 2)
abbrev rm_X8_about : Room := { frames := 6, cells := 1, slots := 6, locals := 144 }
theorem hdS_X8_about : yX8_about.cls ≠ "java/lang/invoke/MethodHandle" ∧ yX8_about.cls ≠ "java/lang/invoke/VarHandle" ∧ (parseMethodDescriptor yX8_about.desc).map (fun d => d.parameters.length) = some 1 := by decide +kernel
theorem hdV_X8_about : yX8_about.cls = RX8 ∧ yX8_about.cls ≠ "java/lang/invoke/MethodHandle" ∧ yX8_about.cls ≠ "java/lang/invoke/VarHandle" ∧ (parseMethodDescriptor yX8_about.desc).map (fun d => d.parameters.length) = some 1 := ⟨rfl, hdS_X8_about⟩
set_option maxHeartbeats 4000000 in
set_option maxRecDepth 100000 in
theorem c_X8_about (l : Launch) (dC : Nat → ClassId) (dI : Nat → Nat → Nat) (cy : Nat → ClassId) (hlt : l.stackTraces = false) (x : Nat → Nat) (F : Fig) (p1 : Int32) (res : (Sum Nat Int32)) (h : G_X8_about F p1 = some res) : CTX l (dC, dI) (TY cy) yX8_about cX8_about 2 (some .int) rm_X8_about [.ref (x 0), .int p1] (wSPo x ++ wFig (fun j => x (1 + j)) cy F) (wSPo x ++ wFig (fun j => x (1 + j)) cy F) (oI res) := by
  refine CTX.mk (own := RX8) hlt ⟨by decide, rfl⟩ (Nat.le_of_ble_eq_true rfl) ?_
  intro p e s mm args below meth cd A Q hx hb hml hown htg hN hK hX0 hA hP hD hS hE hV hT hO ls hl
  have hl : lv_has ls 2 [(0, .ref (x 0)), (1, .int p1)] := hl
  replace h : _ = some res := h
  unfold G_X8_about at h
  obtain ⟨H, hH⟩ : ∃ H, H = s.heap := ⟨_, rfl⟩
  obtain ⟨locs, hlocs⟩ : ∃ locs : List Loc, locs = [] := ⟨_, rfl⟩
  rw [← hlocs] at hS ⊢
  have hS : va_S A s.heap H locs := by rw [hH]; exact hS
  rw [← hH] at hP ⊢
  refine lv_iload_n hx hb dX8_about_0 rfl (lv_at hl 1 rfl) ?_
  by_cases c1_0 : p1 = 0
  · replace h := if_t h c1_0
    refine lv_tableIn (tgt := 56) (off := 55) hx hb dX8_about_1 (by rw [c1_0]; decide) (by rw [c1_0]; decide) (by rw [c1_0]; rfl) (by decide) ?_
    refine lv_aload_n hx hb dX8_about_56 rfl (lv_at hl 0 rfl) ?_
    refine va_get (D := (dC, dI)) (ci := 3) (v := .ref (x 1)) (C := RX8) (T := TX8) (N := 7) hx hb htg inX8 hown hK hP 0 rfl rfl 0 (by decide) (htg _ gw192) (fun _ h9 => h9) rfl dX8_about_57 ?_
    refine va_getN (D := (dC, dI)) (ci := 0) (v := .int (f_rings F)) (C := RX1) (T := TX1) (N := 6) hx hb htg inX1 hown hK hP 1 rfl rfl 0 (by decide) (va_Nw.use rfl (hN (.fieldLinkNest RX8 89 "SquaredPaper$Figure" "rings" "I" "SquaredPaper") (by decide +kernel))) (fun _ h9 => h9) rfl dX8_about_60 ?_
    obtain rfl := Option.some.inj h
    exact hE H locs 0 0 63 ls _ hP hD hS (by decide) (by decide) rfl ⟨_, rfl, rfl⟩ dX8_about_63
  replace h := if_f h c1_0
  by_cases c1_1 : p1 = 1
  · replace h := if_t h c1_1
    refine lv_tableIn (tgt := 64) (off := 63) hx hb dX8_about_1 (by rw [c1_1]; decide) (by rw [c1_1]; decide) (by rw [c1_1]; rfl) (by decide) ?_
    refine lv_aload_n hx hb dX8_about_64 rfl (lv_at hl 0 rfl) ?_
    refine va_get (D := (dC, dI)) (ci := 3) (v := .ref (x 1)) (C := RX8) (T := TX8) (N := 7) hx hb htg inX8 hown hK hP 0 rfl rfl 0 (by decide) (htg _ gw192) (fun _ h9 => h9) rfl dX8_about_65 ?_
    refine va_getN (D := (dC, dI)) (ci := 0) (v := .int (f_corners F)) (C := RX1) (T := TX1) (N := 6) hx hb htg inX1 hown hK hP 1 rfl rfl 1 (by decide) (va_Nw.use rfl (hN (.fieldLinkNest RX8 92 "SquaredPaper$Figure" "corners" "I" "SquaredPaper") (by decide +kernel))) (fun _ h9 => h9) rfl dX8_about_68 ?_
    obtain rfl := Option.some.inj h
    exact hE H locs 0 0 71 ls _ hP hD hS (by decide) (by decide) rfl ⟨_, rfl, rfl⟩ dX8_about_71
  replace h := if_f h c1_1
  by_cases c1_2 : p1 = 2
  · replace h := if_t h c1_2
    refine lv_tableIn (tgt := 72) (off := 71) hx hb dX8_about_1 (by rw [c1_2]; decide) (by rw [c1_2]; decide) (by rw [c1_2]; rfl) (by decide) ?_
    refine lv_aload_n hx hb dX8_about_72 rfl (lv_at hl 0 rfl) ?_
    refine va_get (D := (dC, dI)) (ci := 3) (v := .ref (x 1)) (C := RX8) (T := TX8) (N := 7) hx hb htg inX8 hown hK hP 0 rfl rfl 0 (by decide) (htg _ gw192) (fun _ h9 => h9) rfl dX8_about_73 ?_
    obtain ⟨v76, e76, h⟩ := bnd h
    refine cS (av := [.ref (x 1)]) (rest := []) (st1 := [.int v76]) (k1 := 0) (k2 := 0) hx hb hml hown htg hN hK (c_X2_area l dC dI cy (fun j => x (1 + j)) F  v76 e76) (g_S gw366 gw367 gw72 gw368) hdS_X2_area rfl ⟨⟨Nat.le_of_ble_eq_true rfl, Nat.le_of_ble_eq_true rfl⟩, Nat.le_of_ble_eq_true rfl, Nat.le_of_ble_eq_true rfl⟩ hP hD hS hA [1, 2, 3, 4, 5] [0] rfl rfl rfl (by decide) (by decide) hl.1 rfl (Nat.le_of_ble_eq_true rfl) rfl rfl rfl dX8_about_76 (fun H locs hP hD hS => ?_)
    obtain ⟨hP, hD⟩ := x_perm (ws' := wSPo x ++ wFig (fun j => x (1 + j)) cy F) hP hD [0, 1, 2, 3, 4, 5] (by decide) rfl rfl
    obtain rfl := Option.some.inj h
    exact hE H locs 0 0 79 ls _ hP hD hS (by decide) (by decide) rfl ⟨_, rfl, rfl⟩ dX8_about_79
  replace h := if_f h c1_2
  by_cases c1_3 : p1 = 3
  · replace h := if_t h c1_3
    refine lv_tableIn (tgt := 80) (off := 79) hx hb dX8_about_1 (by rw [c1_3]; decide) (by rw [c1_3]; decide) (by rw [c1_3]; rfl) (by decide) ?_
    refine lv_aload_n hx hb dX8_about_80 rfl (lv_at hl 0 rfl) ?_
    refine va_get (D := (dC, dI)) (ci := 3) (v := .ref (x 1)) (C := RX8) (T := TX8) (N := 7) hx hb htg inX8 hown hK hP 0 rfl rfl 0 (by decide) (htg _ gw192) (fun _ h9 => h9) rfl dX8_about_81 ?_
    obtain ⟨v84, e84, h⟩ := bnd h
    refine cS (av := [.ref (x 1)]) (rest := []) (st1 := [.int v84]) (k1 := 0) (k2 := 0) hx hb hml hown htg hN hK (c_X2_border l dC dI cy (fun j => x (1 + j)) F  v84 e84) (g_S gw541 gw542 gw72 gw543) hdS_X2_border rfl ⟨⟨Nat.le_of_ble_eq_true rfl, Nat.le_of_ble_eq_true rfl⟩, Nat.le_of_ble_eq_true rfl, Nat.le_of_ble_eq_true rfl⟩ hP hD hS hA [1, 2, 3, 4, 5] [0] rfl rfl rfl (by decide) (by decide) hl.1 rfl (Nat.le_of_ble_eq_true rfl) rfl rfl rfl dX8_about_84 (fun H locs hP hD hS => ?_)
    obtain ⟨hP, hD⟩ := x_perm (ws' := wSPo x ++ wFig (fun j => x (1 + j)) cy F) hP hD [0, 1, 2, 3, 4, 5] (by decide) rfl rfl
    obtain rfl := Option.some.inj h
    exact hE H locs 0 0 87 ls _ hP hD hS (by decide) (by decide) rfl ⟨_, rfl, rfl⟩ dX8_about_87
  replace h := if_f h c1_3
  by_cases c1_4 : p1 = 4
  · replace h := if_t h c1_4
    refine lv_tableIn (tgt := 88) (off := 87) hx hb dX8_about_1 (by rw [c1_4]; decide) (by rw [c1_4]; decide) (by rw [c1_4]; rfl) (by decide) ?_
    refine lv_aload_n hx hb dX8_about_88 rfl (lv_at hl 0 rfl) ?_
    refine va_get (D := (dC, dI)) (ci := 3) (v := .ref (x 1)) (C := RX8) (T := TX8) (N := 7) hx hb htg inX8 hown hK hP 0 rfl rfl 0 (by decide) (htg _ gw192) (fun _ h9 => h9) rfl dX8_about_89 ?_
    obtain ⟨v92, e92, h⟩ := bnd h
    refine cS (av := [.ref (x 1)]) (rest := []) (st1 := [.int v92]) (k1 := 0) (k2 := 0) hx hb hml hown htg hN hK (c_X2_inside l dC dI cy (fun j => x (1 + j)) F  v92 e92) (g_S gw551 gw552 gw72 gw553) hdS_X2_inside rfl ⟨⟨Nat.le_of_ble_eq_true rfl, Nat.le_of_ble_eq_true rfl⟩, Nat.le_of_ble_eq_true rfl, Nat.le_of_ble_eq_true rfl⟩ hP hD hS hA [1, 2, 3, 4, 5] [0] rfl rfl rfl (by decide) (by decide) hl.1 rfl (Nat.le_of_ble_eq_true rfl) rfl rfl rfl dX8_about_92 (fun H locs hP hD hS => ?_)
    obtain ⟨hP, hD⟩ := x_perm (ws' := wSPo x ++ wFig (fun j => x (1 + j)) cy F) hP hD [0, 1, 2, 3, 4, 5] (by decide) rfl rfl
    obtain rfl := Option.some.inj h
    exact hE H locs 0 0 95 ls _ hP hD hS (by decide) (by decide) rfl ⟨_, rfl, rfl⟩ dX8_about_95
  replace h := if_f h c1_4
  by_cases c1_5 : p1 = 5
  · replace h := if_t h c1_5
    refine lv_tableIn (tgt := 96) (off := 95) hx hb dX8_about_1 (by rw [c1_5]; decide) (by rw [c1_5]; decide) (by rw [c1_5]; rfl) (by decide) ?_
    refine lv_aload_n hx hb dX8_about_96 rfl (lv_at hl 0 rfl) ?_
    refine va_get (D := (dC, dI)) (ci := 3) (v := .ref (x 1)) (C := RX8) (T := TX8) (N := 7) hx hb htg inX8 hown hK hP 0 rfl rfl 0 (by decide) (htg _ gw192) (fun _ h9 => h9) rfl dX8_about_97 ?_
    refine lv_iconst (v := 1) hx hb dX8_about_100 (by decide) ?_
    obtain ⟨v101, e101, h⟩ := bnd h
    refine cS (av := [.ref (x 1), .int 1]) (rest := []) (st1 := [.int v101]) (k1 := 0) (k2 := 0) hx hb hml hown htg hN hK (c_X2_outlineCorners l dC dI cy (fun j => x (1 + j)) F 1 v101 e101) (g_S gw389 gw390 gw72 gw391) hdS_X2_outlineCorners rfl ⟨⟨Nat.le_of_ble_eq_true rfl, Nat.le_of_ble_eq_true rfl⟩, Nat.le_of_ble_eq_true rfl, Nat.le_of_ble_eq_true rfl⟩ hP hD hS hA [1, 2, 3, 4, 5] [0] rfl rfl rfl (by decide) (by decide) hl.1 rfl (Nat.le_of_ble_eq_true rfl) rfl rfl rfl dX8_about_101 (fun H locs hP hD hS => ?_)
    obtain ⟨hP, hD⟩ := x_perm (ws' := wSPo x ++ wFig (fun j => x (1 + j)) cy F) hP hD [0, 1, 2, 3, 4, 5] (by decide) rfl rfl
    obtain rfl := Option.some.inj h
    exact hE H locs 0 0 104 ls _ hP hD hS (by decide) (by decide) rfl ⟨_, rfl, rfl⟩ dX8_about_104
  replace h := if_f h c1_5
  by_cases c1_6 : p1 = 6
  · replace h := if_t h c1_6
    refine lv_tableIn (tgt := 105) (off := 104) hx hb dX8_about_1 (by rw [c1_6]; decide) (by rw [c1_6]; decide) (by rw [c1_6]; rfl) (by decide) ?_
    refine lv_aload_n hx hb dX8_about_105 rfl (lv_at hl 0 rfl) ?_
    refine va_get (D := (dC, dI)) (ci := 3) (v := .ref (x 1)) (C := RX8) (T := TX8) (N := 7) hx hb htg inX8 hown hK hP 0 rfl rfl 0 (by decide) (htg _ gw192) (fun _ h9 => h9) rfl dX8_about_106 ?_
    refine lv_iconst (v := (-1)) hx hb dX8_about_109 (by decide) ?_
    obtain ⟨v110, e110, h⟩ := bnd h
    refine cS (av := [.ref (x 1), .int (-1)]) (rest := []) (st1 := [.int v110]) (k1 := 0) (k2 := 0) hx hb hml hown htg hN hK (c_X2_outlineCorners l dC dI cy (fun j => x (1 + j)) F (-1) v110 e110) (g_S gw389 gw390 gw72 gw391) hdS_X2_outlineCorners rfl ⟨⟨Nat.le_of_ble_eq_true rfl, Nat.le_of_ble_eq_true rfl⟩, Nat.le_of_ble_eq_true rfl, Nat.le_of_ble_eq_true rfl⟩ hP hD hS hA [1, 2, 3, 4, 5] [0] rfl rfl rfl (by decide) (by decide) hl.1 rfl (Nat.le_of_ble_eq_true rfl) rfl rfl rfl dX8_about_110 (fun H locs hP hD hS => ?_)
    obtain ⟨hP, hD⟩ := x_perm (ws' := wSPo x ++ wFig (fun j => x (1 + j)) cy F) hP hD [0, 1, 2, 3, 4, 5] (by decide) rfl rfl
    obtain rfl := Option.some.inj h
    exact hE H locs 0 0 113 ls _ hP hD hS (by decide) (by decide) rfl ⟨_, rfl, rfl⟩ dX8_about_113
  replace h := if_f h c1_6
  by_cases c1_7 : p1 = 7
  · replace h := if_t h c1_7
    refine lv_tableIn (tgt := 114) (off := 113) hx hb dX8_about_1 (by rw [c1_7]; decide) (by rw [c1_7]; decide) (by rw [c1_7]; rfl) (by decide) ?_
    refine lv_aload_n hx hb dX8_about_114 rfl (lv_at hl 0 rfl) ?_
    refine va_get (D := (dC, dI)) (ci := 3) (v := .ref (x 1)) (C := RX8) (T := TX8) (N := 7) hx hb htg inX8 hown hK hP 0 rfl rfl 0 (by decide) (htg _ gw192) (fun _ h9 => h9) rfl dX8_about_115 ?_
    obtain ⟨v118, e118, h⟩ := bnd h
    refine cS (av := [.ref (x 1)]) (rest := []) (st1 := [.int v118]) (k1 := 0) (k2 := 0) hx hb hml hown htg hN hK (c_X6_ears l dC dI cy (fun j => x (1 + j)) F  v118 e118) (g_S gw554 gw555 gw73 gw556) hdS_X6_ears rfl ⟨⟨Nat.le_of_ble_eq_true rfl, Nat.le_of_ble_eq_true rfl⟩, Nat.le_of_ble_eq_true rfl, Nat.le_of_ble_eq_true rfl⟩ hP hD hS hA [1, 2, 3, 4, 5] [0] rfl rfl rfl (by decide) (by decide) hl.1 rfl (Nat.le_of_ble_eq_true rfl) rfl rfl rfl dX8_about_118 (fun H locs hP hD hS => ?_)
    obtain ⟨hP, hD⟩ := x_perm (ws' := wSPo x ++ wFig (fun j => x (1 + j)) cy F) hP hD [0, 1, 2, 3, 4, 5] (by decide) rfl rfl
    obtain rfl := Option.some.inj h
    exact hE H locs 0 0 121 ls _ hP hD hS (by decide) (by decide) rfl ⟨_, rfl, rfl⟩ dX8_about_121
  replace h := if_f h c1_7
  by_cases c1_8 : p1 = 8
  · replace h := if_t h c1_8
    refine lv_tableIn (tgt := 122) (off := 121) hx hb dX8_about_1 (by rw [c1_8]; decide) (by rw [c1_8]; decide) (by rw [c1_8]; rfl) (by decide) ?_
    refine lv_aload_n hx hb dX8_about_122 rfl (lv_at hl 0 rfl) ?_
    refine va_get (D := (dC, dI)) (ci := 3) (v := .ref (x 1)) (C := RX8) (T := TX8) (N := 7) hx hb htg inX8 hown hK hP 0 rfl rfl 0 (by decide) (htg _ gw192) (fun _ h9 => h9) rfl dX8_about_123 ?_
    obtain ⟨v126, e126, h⟩ := bnd h
    refine cS (av := [.ref (x 1)]) (rest := []) (st1 := [.int v126]) (k1 := 0) (k2 := 0) hx hb hml hown htg hN hK (c_X2_hull l dC dI cy (fun j => x (1 + j)) F  v126 e126) (g_S gw562 gw563 gw72 gw564) hdS_X2_hull rfl ⟨⟨Nat.le_of_ble_eq_true rfl, Nat.le_of_ble_eq_true rfl⟩, Nat.le_of_ble_eq_true rfl, Nat.le_of_ble_eq_true rfl⟩ hP hD hS hA [1, 2, 3, 4, 5] [0] rfl rfl rfl (by decide) (by decide) hl.1 rfl (Nat.le_of_ble_eq_true rfl) rfl rfl rfl dX8_about_126 (fun H locs hP hD hS => ?_)
    obtain ⟨hP, hD⟩ := x_perm (ws' := wSPo x ++ wFig (fun j => x (1 + j)) cy F) hP hD [0, 1, 2, 3, 4, 5] (by decide) rfl rfl
    obtain rfl := Option.some.inj h
    exact hE H locs 0 0 129 ls _ hP hD hS (by decide) (by decide) rfl ⟨_, rfl, rfl⟩ dX8_about_129
  replace h := if_f h c1_8
  by_cases c1_9 : p1 = 9
  · replace h := if_t h c1_9
    refine lv_tableIn (tgt := 130) (off := 129) hx hb dX8_about_1 (by rw [c1_9]; decide) (by rw [c1_9]; decide) (by rw [c1_9]; rfl) (by decide) ?_
    refine lv_aload_n hx hb dX8_about_130 rfl (lv_at hl 0 rfl) ?_
    refine va_get (D := (dC, dI)) (ci := 3) (v := .ref (x 1)) (C := RX8) (T := TX8) (N := 7) hx hb htg inX8 hown hK hP 0 rfl rfl 0 (by decide) (htg _ gw192) (fun _ h9 => h9) rfl dX8_about_131 ?_
    obtain ⟨v134, e134, h⟩ := bnd h
    refine cS (av := [.ref (x 1)]) (rest := []) (st1 := [.int v134]) (k1 := 0) (k2 := 0) hx hb hml hown htg hN hK (c_X6_pairs l dC dI cy (fun j => x (1 + j)) F  v134 e134) (g_S gw570 gw571 gw73 gw572) hdS_X6_pairs rfl ⟨⟨Nat.le_of_ble_eq_true rfl, Nat.le_of_ble_eq_true rfl⟩, Nat.le_of_ble_eq_true rfl, Nat.le_of_ble_eq_true rfl⟩ hP hD hS hA [1, 2, 3, 4, 5] [0] rfl rfl rfl (by decide) (by decide) hl.1 rfl (Nat.le_of_ble_eq_true rfl) rfl rfl rfl dX8_about_134 (fun H locs hP hD hS => ?_)
    obtain ⟨hP, hD⟩ := x_perm (ws' := wSPo x ++ wFig (fun j => x (1 + j)) cy F) hP hD [0, 1, 2, 3, 4, 5] (by decide) rfl rfl
    obtain rfl := Option.some.inj h
    exact hE H locs 0 0 137 ls _ hP hD hS (by decide) (by decide) rfl ⟨_, rfl, rfl⟩ dX8_about_137
  replace h := if_f h c1_9
  refine lv_tableOut (tgt := 138) hx hb dX8_about_1 (x_tout0_9 c1_0 c1_1 c1_2 c1_3 c1_4 c1_5 c1_6 c1_7 c1_8 c1_9) (by decide) ?_
  obtain rfl := Option.some.inj h
  exact hT H locs 0 0 138 ls 56 121 60 2 "what is not 0 to 9" hP hD hS (by decide) (by decide) (by decide) (by decide) rfl rfl hl.1 (by decide +kernel) gw434 gw67 exat_2 exgo_2 (by decide +kernel) dX8_about_138 dX8_about_141 (Or.inl ⟨dX8_about_142, dX8_about_144, dX8_about_147⟩)
def G_X8_keepDraft (F : Fig) (D : Fig) (P : PastS) : Option (Fig × PastS) :=
  (G_X3_remember P F).bind fun v8 =>
  (G_X1_copyFrom F D).bind fun v19 =>
  some (v19, v8)
abbrev rm_X8_keepDraft : Room := { frames := 3, cells := 0, slots := 0, locals := 82 }
theorem hdS_X8_keepDraft : yX8_keepDraft.cls ≠ "java/lang/invoke/MethodHandle" ∧ yX8_keepDraft.cls ≠ "java/lang/invoke/VarHandle" ∧ (parseMethodDescriptor yX8_keepDraft.desc).map (fun d => d.parameters.length) = some 0 := by decide +kernel
theorem hdV_X8_keepDraft : yX8_keepDraft.cls = RX8 ∧ yX8_keepDraft.cls ≠ "java/lang/invoke/MethodHandle" ∧ yX8_keepDraft.cls ≠ "java/lang/invoke/VarHandle" ∧ (parseMethodDescriptor yX8_keepDraft.desc).map (fun d => d.parameters.length) = some 0 := ⟨rfl, hdS_X8_keepDraft⟩
set_option maxHeartbeats 4000000 in
set_option maxRecDepth 100000 in
theorem c_X8_keepDraft (l : Launch) (dC : Nat → ClassId) (dI : Nat → Nat → Nat) (cy : Nat → ClassId) (x : Nat → Nat) (F : Fig) (D : Fig) (P : PastS) (res : Fig × PastS) (h : G_X8_keepDraft F D P = some res) : CT l (dC, dI) (TY cy) yX8_keepDraft cX8_keepDraft 1 none rm_X8_keepDraft [.ref (x 0)] (wSPo x ++ wFig (fun j => x (1 + j)) cy F ++ wFig (fun j => x (6 + j)) cy D ++ wP2 (fun j => x (11 + j)) cy P ++ wPF (fun j => x (11 + j)) cy (p_figs P)) (wSPo x ++ wFig (fun j => x (1 + j)) cy res.1 ++ wFig (fun j => x (6 + j)) cy D ++ wP2 (fun j => x (11 + j)) cy res.2 ++ wPF (fun j => x (11 + j)) cy (p_figs res.2)) none := by
  refine CT.mk_v (own := RX8) ⟨by decide, rfl⟩ (Nat.le_of_ble_eq_true rfl) ?_
  intro p e s mm args below meth cd A Q hx hb hml hown htg hN hK hA hP hD hS hE ls hl
  have hl : lv_has ls 1 [(0, .ref (x 0))] := hl
  replace h : _ = some res := h
  unfold G_X8_keepDraft at h
  obtain ⟨H, hH⟩ : ∃ H, H = s.heap := ⟨_, rfl⟩
  obtain ⟨locs, hlocs⟩ : ∃ locs : List Loc, locs = [] := ⟨_, rfl⟩
  rw [← hlocs] at hS ⊢
  have hS : va_S A s.heap H locs := by rw [hH]; exact hS
  rw [← hH] at hP ⊢
  refine lv_aload_n hx hb dX8_keepDraft_0 rfl (lv_at hl 0 rfl) ?_
  refine va_get (D := (dC, dI)) (ci := 3) (v := .ref (x 11)) (C := RX8) (T := TX8) (N := 7) hx hb htg inX8 hown hK hP 0 rfl rfl 2 (by decide) (htg _ gw194) (fun _ h9 => h9) rfl dX8_keepDraft_1 ?_
  refine lv_aload_n hx hb dX8_keepDraft_4 rfl (lv_at hl 0 rfl) ?_
  refine va_get (D := (dC, dI)) (ci := 3) (v := .ref (x 1)) (C := RX8) (T := TX8) (N := 7) hx hb htg inX8 hown hK hP 0 rfl rfl 0 (by decide) (htg _ gw192) (fun _ h9 => h9) rfl dX8_keepDraft_5 ?_
  obtain ⟨v8, e8, h⟩ := bnd h
  refine cVp (av := [.ref (x 1)]) (rest := []) (st1 := []) (k1 := 0) (k2 := 0) (wn := wSPo x ++ wFig (fun j => x (1 + j)) cy F ++ wFig (fun j => x (6 + j)) cy D ++ wP2 (fun j => x (11 + j)) cy v8 ++ wPF (fun j => x (11 + j)) cy (p_figs v8)) (ci := 1) (q0 := 0) hx hb hml hown htg hN hK (c_X3_remember l dC dI cy (fun j => x (11 + j)) (fun j => x (1 + j)) P F  v8 e8) (g_V gw328 gw329 gw330 gw61 gw331) hdV_X3_remember rfl ⟨⟨Nat.le_of_ble_eq_true rfl, Nat.le_of_ble_eq_true rfl⟩, Nat.le_of_ble_eq_true rfl, Nat.le_of_ble_eq_true rfl⟩ hP hD hS hA ⟨rfl, rfl⟩ rfl (perm_T (perm_ix 13 [11, 12, 1, 2, 3, 4, 5] [0, 6, 7, 8, 9, 10] rfl rfl rfl (by decide))) (perm_Tb (perm_ix 13 [0, 6, 7, 8, 9, 10] [11, 12, 1, 2, 3, 4, 5] rfl rfl rfl (by decide))) hl.1 rfl (Nat.le_of_ble_eq_true rfl) rfl rfl rfl dX8_keepDraft_8 (fun H locs hP hD hS => ?_)
  refine lv_aload_n hx hb dX8_keepDraft_11 rfl (lv_at hl 0 rfl) ?_
  refine va_get (D := (dC, dI)) (ci := 3) (v := .ref (x 1)) (C := RX8) (T := TX8) (N := 7) hx hb htg inX8 hown hK hP 0 rfl rfl 0 (by decide) (htg _ gw192) (fun _ h9 => h9) rfl dX8_keepDraft_12 ?_
  refine lv_aload_n hx hb dX8_keepDraft_15 rfl (lv_at hl 0 rfl) ?_
  refine va_get (D := (dC, dI)) (ci := 3) (v := .ref (x 6)) (C := RX8) (T := TX8) (N := 7) hx hb htg inX8 hown hK hP 0 rfl rfl 1 (by decide) (htg _ gw193) (fun _ h9 => h9) rfl dX8_keepDraft_16 ?_
  obtain ⟨v19, e19, h⟩ := bnd h
  refine cVp (av := [.ref (x 6)]) (rest := []) (st1 := []) (k1 := 0) (k2 := 0) (wn := wSPo x ++ wFig (fun j => x (1 + j)) cy v19 ++ wFig (fun j => x (6 + j)) cy D ++ wP2 (fun j => x (11 + j)) cy v8 ++ wPF (fun j => x (11 + j)) cy (p_figs v8)) (ci := 0) (q0 := 0) hx hb hml hown htg hN hK (c_X1_copyFrom l dC dI cy (fun j => x (1 + j)) (fun j => x (6 + j)) F D  v19 e19) (g_V gw313 gw314 gw315 gw60 gw316) hdV_X1_copyFrom rfl ⟨⟨Nat.le_of_ble_eq_true rfl, Nat.le_of_ble_eq_true rfl⟩, Nat.le_of_ble_eq_true rfl, Nat.le_of_ble_eq_true rfl⟩ hP hD hS hA ⟨rfl, rfl⟩ rfl (perm_N (perm_ix 13 [1, 2, 3, 4, 5, 6, 7, 8, 9, 10] [0, 11, 12] rfl rfl rfl (by decide))) (perm_Nb (perm_ix 13 [0, 11, 12] [1, 2, 3, 4, 5, 6, 7, 8, 9, 10] rfl rfl rfl (by decide))) hl.1 rfl (Nat.le_of_ble_eq_true rfl) rfl rfl rfl dX8_keepDraft_19 (fun H locs hP hD hS => ?_)
  obtain rfl := Option.some.inj h
  exact hE H locs 22 ls hP hD hS dX8_keepDraft_22
def G_X8_addHole (F : Fig) (D : Fig) (P : PastS) (p1 : Int32) (p2 : Int32) : Option ((Sum Nat Int32) × Fig × Fig × PastS) :=
  (G_X8_inRange p1 0 14).bind fun v4 =>
  if v4 = 0 then
    some (.inl 2, F, D, P)
  else
    (G_X8_inRange p2 0 14).bind fun v14 =>
    if v14 = 0 then
      some (.inl 2, F, D, P)
    else
      (G_X1_copyFrom D F).bind fun v38 =>
      (G_X0_addedHole v38 p1 p2).bind fun v47 =>
      if v47.1 = 0 then
        some (.inl 3, F, v47.2, P)
      else
        (G_X8_keepDraft F v47.2 P).bind fun v64 =>
        some (.inr ((f_rings v64.1) - 1), v64.1, v47.2, v64.2)
abbrev rm_X8_addHole : Room := { frames := 6, cells := 1, slots := 6, locals := 136 }
theorem hdS_X8_addHole : yX8_addHole.cls ≠ "java/lang/invoke/MethodHandle" ∧ yX8_addHole.cls ≠ "java/lang/invoke/VarHandle" ∧ (parseMethodDescriptor yX8_addHole.desc).map (fun d => d.parameters.length) = some 2 := by decide +kernel
theorem hdV_X8_addHole : yX8_addHole.cls = RX8 ∧ yX8_addHole.cls ≠ "java/lang/invoke/MethodHandle" ∧ yX8_addHole.cls ≠ "java/lang/invoke/VarHandle" ∧ (parseMethodDescriptor yX8_addHole.desc).map (fun d => d.parameters.length) = some 2 := ⟨rfl, hdS_X8_addHole⟩
set_option maxHeartbeats 4000000 in
set_option maxRecDepth 100000 in
theorem c_X8_addHole (l : Launch) (dC : Nat → ClassId) (dI : Nat → Nat → Nat) (cy : Nat → ClassId) (hlt : l.stackTraces = false) (x : Nat → Nat) (F : Fig) (D : Fig) (P : PastS) (p1 : Int32) (p2 : Int32) (res : (Sum Nat Int32) × Fig × Fig × PastS) (h : G_X8_addHole F D P p1 p2 = some res) : CTX l (dC, dI) (TY cy) yX8_addHole cX8_addHole 3 (some .int) rm_X8_addHole [.ref (x 0), .int p1, .int p2] (wSPo x ++ wFig (fun j => x (1 + j)) cy F ++ wFig (fun j => x (6 + j)) cy D ++ wP2 (fun j => x (11 + j)) cy P ++ wPF (fun j => x (11 + j)) cy (p_figs P)) (wSPo x ++ wFig (fun j => x (1 + j)) cy res.2.1 ++ wFig (fun j => x (6 + j)) cy res.2.2.1 ++ wP2 (fun j => x (11 + j)) cy res.2.2.2 ++ wPF (fun j => x (11 + j)) cy (p_figs res.2.2.2)) (oI res.1) := by
  refine CTX.mk (own := RX8) hlt ⟨by decide, rfl⟩ (Nat.le_of_ble_eq_true rfl) ?_
  intro p e s mm args below meth cd A Q hx hb hml hown htg hN hK hX0 hA hP hD hS hE hV hT hO ls hl
  have hl : lv_has ls 3 [(0, .ref (x 0)), (1, .int p1), (2, .int p2)] := hl
  replace h : _ = some res := h
  unfold G_X8_addHole at h
  obtain ⟨H, hH⟩ : ∃ H, H = s.heap := ⟨_, rfl⟩
  obtain ⟨locs, hlocs⟩ : ∃ locs : List Loc, locs = [] := ⟨_, rfl⟩
  rw [← hlocs] at hS ⊢
  have hS : va_S A s.heap H locs := by rw [hH]; exact hS
  rw [← hH] at hP ⊢
  refine lv_iload_n hx hb dX8_addHole_0 rfl (lv_at hl 1 rfl) ?_
  refine lv_iconst (v := 0) hx hb dX8_addHole_1 (by decide) ?_
  refine lv_bipush (v := 14) hx hb dX8_addHole_2 (by decide) ?_
  obtain ⟨v4, e4, h⟩ := bnd h
  refine cSp (av := [.int p1, .int 0, .int 14]) (rest := []) (st1 := [.int v4]) (k1 := 0) (k2 := 0) (wn := wSPo x ++ wFig (fun j => x (1 + j)) cy F ++ wFig (fun j => x (6 + j)) cy D ++ wP2 (fun j => x (11 + j)) cy P ++ wPF (fun j => x (11 + j)) cy (p_figs P)) hx hb hml hown htg hN hK (c_X8_inRange l dC dI cy   p1 0 14 v4 e4) (g_S gw433 gw245 gw59 gw246) hdS_X8_inRange rfl ⟨⟨Nat.le_of_ble_eq_true rfl, Nat.le_of_ble_eq_true rfl⟩, Nat.le_of_ble_eq_true rfl, Nat.le_of_ble_eq_true rfl⟩ hP hD hS hA (perm_N (perm_ix 13 [] [0, 1, 2, 3, 4, 5, 6, 7, 8, 9, 10, 11, 12] rfl rfl rfl (by decide))) (perm_Nb (perm_ix 13 [0, 1, 2, 3, 4, 5, 6, 7, 8, 9, 10, 11, 12] [] rfl rfl rfl (by decide))) hl.1 rfl (Nat.le_of_ble_eq_true rfl) rfl rfl rfl dX8_addHole_4 (fun H locs hP hD hS => ?_)
  refine lv_if_eq (tgt := 20) hx hb dX8_addHole_7 (by decide) (fun c7 => ?_) (fun c7 => ?_)
  · replace h := if_t h c7
    obtain rfl := Option.some.inj h
    exact hT H locs 0 0 20 ls 56 211 60 2 "x or y is not 0 to 14" hP hD hS (by decide) (by decide) (by decide) (by decide) rfl rfl hl.1 (by decide +kernel) gw434 gw67 exat_2 exgo_2 (by decide +kernel) dX8_addHole_20 dX8_addHole_23 (Or.inl ⟨dX8_addHole_24, dX8_addHole_26, dX8_addHole_29⟩)
  replace h := if_f h c7
  refine lv_iload_n hx hb dX8_addHole_10 rfl (lv_at hl 2 rfl) ?_
  refine lv_iconst (v := 0) hx hb dX8_addHole_11 (by decide) ?_
  refine lv_bipush (v := 14) hx hb dX8_addHole_12 (by decide) ?_
  obtain ⟨v14, e14, h⟩ := bnd h
  refine cSp (av := [.int p2, .int 0, .int 14]) (rest := []) (st1 := [.int v14]) (k1 := 0) (k2 := 0) (wn := wSPo x ++ wFig (fun j => x (1 + j)) cy F ++ wFig (fun j => x (6 + j)) cy D ++ wP2 (fun j => x (11 + j)) cy P ++ wPF (fun j => x (11 + j)) cy (p_figs P)) hx hb hml hown htg hN hK (c_X8_inRange l dC dI cy   p2 0 14 v14 e14) (g_S gw433 gw245 gw59 gw246) hdS_X8_inRange rfl ⟨⟨Nat.le_of_ble_eq_true rfl, Nat.le_of_ble_eq_true rfl⟩, Nat.le_of_ble_eq_true rfl, Nat.le_of_ble_eq_true rfl⟩ hP hD hS hA (perm_N (perm_ix 13 [] [0, 1, 2, 3, 4, 5, 6, 7, 8, 9, 10, 11, 12] rfl rfl rfl (by decide))) (perm_Nb (perm_ix 13 [0, 1, 2, 3, 4, 5, 6, 7, 8, 9, 10, 11, 12] [] rfl rfl rfl (by decide))) hl.1 rfl (Nat.le_of_ble_eq_true rfl) rfl rfl rfl dX8_addHole_14 (fun H locs hP hD hS => ?_)
  refine lv_if_ne (tgt := 30) hx hb dX8_addHole_17 (by decide) (fun c17 => ?_) (fun c17 => ?_)
  · replace h := if_f h c17
    refine lv_aload_n hx hb dX8_addHole_30 rfl (lv_at hl 0 rfl) ?_
    refine va_get (D := (dC, dI)) (ci := 3) (v := .ref (x 6)) (C := RX8) (T := TX8) (N := 7) hx hb htg inX8 hown hK hP 0 rfl rfl 1 (by decide) (htg _ gw193) (fun _ h9 => h9) rfl dX8_addHole_31 ?_
    refine lv_aload_n hx hb dX8_addHole_34 rfl (lv_at hl 0 rfl) ?_
    refine va_get (D := (dC, dI)) (ci := 3) (v := .ref (x 1)) (C := RX8) (T := TX8) (N := 7) hx hb htg inX8 hown hK hP 0 rfl rfl 0 (by decide) (htg _ gw192) (fun _ h9 => h9) rfl dX8_addHole_35 ?_
    obtain ⟨v38, e38, h⟩ := bnd h
    refine cVp (av := [.ref (x 1)]) (rest := []) (st1 := []) (k1 := 0) (k2 := 0) (wn := wSPo x ++ wFig (fun j => x (1 + j)) cy F ++ wFig (fun j => x (6 + j)) cy v38 ++ wP2 (fun j => x (11 + j)) cy P ++ wPF (fun j => x (11 + j)) cy (p_figs P)) (ci := 0) (q0 := 0) hx hb hml hown htg hN hK (c_X1_copyFrom l dC dI cy (fun j => x (6 + j)) (fun j => x (1 + j)) D F  v38 e38) (g_V gw313 gw314 gw315 gw60 gw316) hdV_X1_copyFrom rfl ⟨⟨Nat.le_of_ble_eq_true rfl, Nat.le_of_ble_eq_true rfl⟩, Nat.le_of_ble_eq_true rfl, Nat.le_of_ble_eq_true rfl⟩ hP hD hS hA ⟨rfl, rfl⟩ rfl (perm_N (perm_ix 13 [6, 7, 8, 9, 10, 1, 2, 3, 4, 5] [0, 11, 12] rfl rfl rfl (by decide))) (perm_Nb (perm_ix 13 [0, 11, 12] [6, 7, 8, 9, 10, 1, 2, 3, 4, 5] rfl rfl rfl (by decide))) hl.1 rfl (Nat.le_of_ble_eq_true rfl) rfl rfl rfl dX8_addHole_38 (fun H locs hP hD hS => ?_)
    refine lv_aload_n hx hb dX8_addHole_41 rfl (lv_at hl 0 rfl) ?_
    refine va_get (D := (dC, dI)) (ci := 3) (v := .ref (x 6)) (C := RX8) (T := TX8) (N := 7) hx hb htg inX8 hown hK hP 0 rfl rfl 1 (by decide) (htg _ gw193) (fun _ h9 => h9) rfl dX8_addHole_42 ?_
    refine lv_iload_n hx hb dX8_addHole_45 rfl (lv_at hl 1 rfl) ?_
    refine lv_iload_n hx hb dX8_addHole_46 rfl (lv_at hl 2 rfl) ?_
    obtain ⟨v47, e47, h⟩ := bnd h
    refine cSp (av := [.ref (x 6), .int p1, .int p2]) (rest := []) (st1 := [.int v47.1]) (k1 := 0) (k2 := 0) (wn := wSPo x ++ wFig (fun j => x (1 + j)) cy F ++ wFig (fun j => x (6 + j)) cy v47.2 ++ wP2 (fun j => x (11 + j)) cy P ++ wPF (fun j => x (11 + j)) cy (p_figs P)) hx hb hml hown htg hN hK (c_X0_addedHole l dC dI cy (fun j => x (6 + j)) v38 p1 p2 v47 e47) (g_S gw707 gw708 gw75 gw709) hdS_X0_addedHole rfl ⟨⟨Nat.le_of_ble_eq_true rfl, Nat.le_of_ble_eq_true rfl⟩, Nat.le_of_ble_eq_true rfl, Nat.le_of_ble_eq_true rfl⟩ hP hD hS hA (perm_N (perm_ix 13 [6, 7, 8, 9, 10] [0, 1, 2, 3, 4, 5, 11, 12] rfl rfl rfl (by decide))) (perm_Nb (perm_ix 13 [0, 1, 2, 3, 4, 5, 11, 12] [6, 7, 8, 9, 10] rfl rfl rfl (by decide))) hl.1 rfl (Nat.le_of_ble_eq_true rfl) rfl rfl rfl dX8_addHole_47 (fun H locs hP hD hS => ?_)
    refine lv_if_ne (tgt := 63) hx hb dX8_addHole_50 (by decide) (fun c50 => ?_) (fun c50 => ?_)
    · replace h := if_f h c50
      refine lv_aload_n hx hb dX8_addHole_63 rfl (lv_at hl 0 rfl) ?_
      obtain ⟨v64, e64, h⟩ := bnd h
      refine cVp (av := []) (rest := []) (st1 := []) (k1 := 0) (k2 := 0) (wn := wSPo x ++ wFig (fun j => x (1 + j)) cy v64.1 ++ wFig (fun j => x (6 + j)) cy v47.2 ++ wP2 (fun j => x (11 + j)) cy v64.2 ++ wPF (fun j => x (11 + j)) cy (p_figs v64.2)) (ci := 3) (q0 := 0) hx hb hml hown htg hN hK (c_X8_keepDraft l dC dI cy x F v47.2 P  v64 e64) (g_V gw324 gw326 gw2 gw59 gw327) hdV_X8_keepDraft rfl ⟨⟨Nat.le_of_ble_eq_true rfl, Nat.le_of_ble_eq_true rfl⟩, Nat.le_of_ble_eq_true rfl, Nat.le_of_ble_eq_true rfl⟩ hP hD hS hA ⟨rfl, rfl⟩ rfl (perm_T (perm_ix 13 [0, 1, 2, 3, 4, 5, 6, 7, 8, 9, 10, 11, 12] [] rfl rfl rfl (by decide))) (perm_Tb (perm_ix 13 [] [0, 1, 2, 3, 4, 5, 6, 7, 8, 9, 10, 11, 12] rfl rfl rfl (by decide))) hl.1 rfl (Nat.le_of_ble_eq_true rfl) rfl rfl rfl dX8_addHole_64 (fun H locs hP hD hS => ?_)
      refine lv_aload_n hx hb dX8_addHole_67 rfl (lv_at hl 0 rfl) ?_
      refine va_get (D := (dC, dI)) (ci := 3) (v := .ref (x 1)) (C := RX8) (T := TX8) (N := 7) hx hb htg inX8 hown hK hP 0 rfl rfl 0 (by decide) (htg _ gw192) (fun _ h9 => h9) rfl dX8_addHole_68 ?_
      refine va_getN (D := (dC, dI)) (ci := 0) (v := .int (f_rings v64.1)) (C := RX1) (T := TX1) (N := 6) hx hb htg inX1 hown hK hP 1 rfl rfl 0 (by decide) (va_Nw.use rfl (hN (.fieldLinkNest RX8 89 "SquaredPaper$Figure" "rings" "I" "SquaredPaper") (by decide +kernel))) (fun _ h9 => h9) rfl dX8_addHole_71 ?_
      refine lv_iconst (v := 1) hx hb dX8_addHole_74 (by decide) ?_
      refine lv_isub hx hb dX8_addHole_75 ?_
      obtain rfl := Option.some.inj h
      exact hE H locs 0 0 76 ls _ hP hD hS (by decide) (by decide) rfl ⟨_, rfl, rfl⟩ dX8_addHole_76
    replace h := if_t h c50
    obtain rfl := Option.some.inj h
    exact hT H locs 0 0 53 ls 67 216 71 3 "there are 4 rings, or a rule would not hold" hP hD hS (by decide) (by decide) (by decide) (by decide) rfl rfl hl.1 (by decide +kernel) gw502 gw68 exat_3 exgo_3 (by decide +kernel) dX8_addHole_53 dX8_addHole_56 (Or.inl ⟨dX8_addHole_57, dX8_addHole_59, dX8_addHole_62⟩)
  replace h := if_t h c17
  obtain rfl := Option.some.inj h
  exact hT H locs 0 0 20 ls 56 211 60 2 "x or y is not 0 to 14" hP hD hS (by decide) (by decide) (by decide) (by decide) rfl rfl hl.1 (by decide +kernel) gw434 gw67 exat_2 exgo_2 (by decide +kernel) dX8_addHole_20 dX8_addHole_23 (Or.inl ⟨dX8_addHole_24, dX8_addHole_26, dX8_addHole_29⟩)
def G_X8_append (T : TextS) (p1 : Int32) : Option ((Sum Nat Int32) × TextS) :=
  (G_X8_inRange p1 0 255).bind fun v5 =>
  if v5 = 0 then
    some (.inl 2, T)
  else
    if t_length T < 90 then
      (G_X7_add T p1).bind fun v48 =>
      some (.inr (t_length v48), v48)
    else
      some (.inl 3, T)
abbrev rm_X8_append : Room := { frames := 6, cells := 1, slots := 6, locals := 82 }
theorem hdS_X8_append : yX8_append.cls ≠ "java/lang/invoke/MethodHandle" ∧ yX8_append.cls ≠ "java/lang/invoke/VarHandle" ∧ (parseMethodDescriptor yX8_append.desc).map (fun d => d.parameters.length) = some 1 := by decide +kernel
theorem hdV_X8_append : yX8_append.cls = RX8 ∧ yX8_append.cls ≠ "java/lang/invoke/MethodHandle" ∧ yX8_append.cls ≠ "java/lang/invoke/VarHandle" ∧ (parseMethodDescriptor yX8_append.desc).map (fun d => d.parameters.length) = some 1 := ⟨rfl, hdS_X8_append⟩
set_option maxHeartbeats 4000000 in
set_option maxRecDepth 100000 in
theorem c_X8_append (l : Launch) (dC : Nat → ClassId) (dI : Nat → Nat → Nat) (cy : Nat → ClassId) (hlt : l.stackTraces = false) (x : Nat → Nat) (T : TextS) (p1 : Int32) (res : (Sum Nat Int32) × TextS) (h : G_X8_append T p1 = some res) : CTX l (dC, dI) (TY cy) yX8_append cX8_append 2 (some .int) rm_X8_append [.ref (x 0), .int p1] (wSPo x ++ wText (fun j => x (95 + j)) cy T) (wSPo x ++ wText (fun j => x (95 + j)) cy res.2) (oI res.1) := by
  refine CTX.mk (own := RX8) hlt ⟨by decide, rfl⟩ (Nat.le_of_ble_eq_true rfl) ?_
  intro p e s mm args below meth cd A Q hx hb hml hown htg hN hK hX0 hA hP hD hS hE hV hT hO ls hl
  have hl : lv_has ls 2 [(0, .ref (x 0)), (1, .int p1)] := hl
  replace h : _ = some res := h
  unfold G_X8_append at h
  obtain ⟨H, hH⟩ : ∃ H, H = s.heap := ⟨_, rfl⟩
  obtain ⟨locs, hlocs⟩ : ∃ locs : List Loc, locs = [] := ⟨_, rfl⟩
  rw [← hlocs] at hS ⊢
  have hS : va_S A s.heap H locs := by rw [hH]; exact hS
  rw [← hH] at hP ⊢
  refine lv_iload_n hx hb dX8_append_0 rfl (lv_at hl 1 rfl) ?_
  refine lv_iconst (v := 0) hx hb dX8_append_1 (by decide) ?_
  refine lv_sipush (v := 255) hx hb dX8_append_2 (by decide) ?_
  obtain ⟨v5, e5, h⟩ := bnd h
  refine cS (av := [.int p1, .int 0, .int 255]) (rest := []) (st1 := [.int v5]) (k1 := 0) (k2 := 0) hx hb hml hown htg hN hK (c_X8_inRange l dC dI cy   p1 0 255 v5 e5) (g_S gw433 gw245 gw59 gw246) hdS_X8_inRange rfl ⟨⟨Nat.le_of_ble_eq_true rfl, Nat.le_of_ble_eq_true rfl⟩, Nat.le_of_ble_eq_true rfl, Nat.le_of_ble_eq_true rfl⟩ hP hD hS hA [] [0, 1, 2] rfl rfl rfl (by decide) (by decide) hl.1 rfl (Nat.le_of_ble_eq_true rfl) rfl rfl rfl dX8_append_5 (fun H locs hP hD hS => ?_)
  obtain ⟨hP, hD⟩ := x_perm (ws' := wSPo x ++ wText (fun j => x (95 + j)) cy T) hP hD [0, 1, 2] (by decide) rfl rfl
  refine lv_if_ne (tgt := 21) hx hb dX8_append_8 (by decide) (fun c8 => ?_) (fun c8 => ?_)
  · replace h := if_f h c8
    refine lv_aload_n hx hb dX8_append_21 rfl (lv_at hl 0 rfl) ?_
    refine va_get (D := (dC, dI)) (ci := 3) (v := .ref (x 95)) (C := RX8) (T := TX8) (N := 7) hx hb htg inX8 hown hK hP 0 rfl rfl 5 (by decide) (htg _ gw197) (fun _ h9 => h9) rfl dX8_append_22 ?_
    refine va_getN (D := (dC, dI)) (ci := 2) (v := .int (t_length T)) (C := RX7) (T := TX7) (N := 2) hx hb htg inX7 hown hK hP 1 rfl rfl 1 (by decide) (va_Nw.use rfl (hN (.fieldLinkNest RX8 63 "SquaredPaper$Text" "length" "I" "SquaredPaper") (by decide +kernel))) (fun _ h9 => h9) rfl dX8_append_25 ?_
    refine lv_bipush (v := 90) hx hb dX8_append_28 (by decide) ?_
    refine lv_icmp_lt (tgt := 43) hx hb dX8_append_30 (by decide) (fun c30 => ?_) (fun c30 => ?_)
    · replace h := if_t h c30
      refine lv_aload_n hx hb dX8_append_43 rfl (lv_at hl 0 rfl) ?_
      refine va_get (D := (dC, dI)) (ci := 3) (v := .ref (x 95)) (C := RX8) (T := TX8) (N := 7) hx hb htg inX8 hown hK hP 0 rfl rfl 5 (by decide) (htg _ gw197) (fun _ h9 => h9) rfl dX8_append_44 ?_
      refine lv_iload_n hx hb dX8_append_47 rfl (lv_at hl 1 rfl) ?_
      obtain ⟨v48, e48, h⟩ := bnd h
      refine cV (av := [.int p1]) (rest := []) (st1 := []) (k1 := 0) (k2 := 0) (ci := 2) (q0 := 0) hx hb hml hown htg hN hK (c_X7_add l dC dI cy (fun j => x (95 + j)) T p1 v48 e48) (g_V gw518 gw519 gw520 gw62 gw521) hdV_X7_add rfl ⟨⟨Nat.le_of_ble_eq_true rfl, Nat.le_of_ble_eq_true rfl⟩, Nat.le_of_ble_eq_true rfl, Nat.le_of_ble_eq_true rfl⟩ hP hD hS hA ⟨rfl, rfl⟩ rfl [1, 2] [0] rfl rfl rfl (by decide) (by decide) hl.1 rfl (Nat.le_of_ble_eq_true rfl) rfl rfl rfl dX8_append_48 (fun H locs hP hD hS => ?_)
      obtain ⟨hP, hD⟩ := x_perm (ws' := wSPo x ++ wText (fun j => x (95 + j)) cy v48) hP hD [0, 1, 2] (by decide) rfl rfl
      refine lv_aload_n hx hb dX8_append_51 rfl (lv_at hl 0 rfl) ?_
      refine va_get (D := (dC, dI)) (ci := 3) (v := .ref (x 95)) (C := RX8) (T := TX8) (N := 7) hx hb htg inX8 hown hK hP 0 rfl rfl 5 (by decide) (htg _ gw197) (fun _ h9 => h9) rfl dX8_append_52 ?_
      refine va_getN (D := (dC, dI)) (ci := 2) (v := .int (t_length v48)) (C := RX7) (T := TX7) (N := 2) hx hb htg inX7 hown hK hP 1 rfl rfl 1 (by decide) (va_Nw.use rfl (hN (.fieldLinkNest RX8 63 "SquaredPaper$Text" "length" "I" "SquaredPaper") (by decide +kernel))) (fun _ h9 => h9) rfl dX8_append_55 ?_
      obtain rfl := Option.some.inj h
      exact hE H locs 0 0 58 ls _ hP hD hS (by decide) (by decide) rfl ⟨_, rfl, rfl⟩ dX8_append_58
    replace h := if_f h c30
    obtain rfl := Option.some.inj h
    exact hT H locs 0 0 33 ls 67 69 71 3 "the text is full" hP hD hS (by decide) (by decide) (by decide) (by decide) rfl rfl hl.1 (by decide +kernel) gw502 gw68 exat_3 exgo_3 (by decide +kernel) dX8_append_33 dX8_append_36 (Or.inl ⟨dX8_append_37, dX8_append_39, dX8_append_42⟩)
  replace h := if_t h c8
  obtain rfl := Option.some.inj h
  exact hT H locs 0 0 11 ls 56 58 60 2 "the character is not 0 to 255" hP hD hS (by decide) (by decide) (by decide) (by decide) rfl rfl hl.1 (by decide +kernel) gw434 gw67 exat_2 exgo_2 (by decide +kernel) dX8_append_11 dX8_append_14 (Or.inl ⟨dX8_append_15, dX8_append_17, dX8_append_20⟩)
def G_X8_bestMove_j84 (r23 : Fig → Int32 → Int32 → Int32 → Int32 → Option (Int32 × Fig)) (F : Fig) (D_84 : Fig) (l4_84 : Int32) (l3_84 : Int32) (l2_84 : Int32) (l1_84 : Int32) : Option (Int32 × Fig) :=
  r23 D_84 (l4_84 + 1) l3_84 l2_84 l1_84
def G_X8_bestMove_L23 (r8 : Fig → Int32 → Int32 → Int32 → Option (Int32 × Fig)) (F : Fig) : Nat → Fig → Int32 → Int32 → Int32 → Int32 → Option (Int32 × Fig)
  | 0, _, _, _, _, _ => none
  | n23 + 1, D_23, l4_23, l3_23, l2_23, l1_23 =>
    if 4 ≤ l4_23 then
      r8 D_23 (l3_23 + 1) l2_23 l1_23
    else
      (G_X1_copyFrom D_23 F).bind fun v37 =>
      (G_X0_nudged v37 l3_23 l4_23).bind fun v47 =>
      ((if v47.1 = 0 then
          some (-9)
        else
          (G_X2_area v47.2).bind fun v57 =>
          some v57) : Option (Int32)).bind fun b50 =>
      if b50 ≤ l2_23 then
        G_X8_bestMove_j84 (G_X8_bestMove_L23 r8 F n23) F v47.2 l4_23 l3_23 l2_23 l1_23
      else
        G_X8_bestMove_j84 (G_X8_bestMove_L23 r8 F n23) F v47.2 l4_23 l3_23 b50 ((10 * l3_23) + l4_23)
def G_X8_bestMove_L8  (F : Fig) : Nat → Fig → Int32 → Int32 → Int32 → Option (Int32 × Fig)
  | 0, _, _, _, _ => none
  | n8 + 1, D_8, l3_8, l2_8, l1_8 =>
    (G_X1_sizeOf F 0).bind fun v14 =>
    if v14 ≤ l3_8 then
      some (l1_8, D_8)
    else
      G_X8_bestMove_L23 (G_X8_bestMove_L8 F n8) F FU D_8 0 l3_8 l2_8 l1_8
def G_X8_bestMove (F : Fig) (D : Fig) : Option (Int32 × Fig) :=
  G_X8_bestMove_L8 F FU D 0 (-9) (-9)
abbrev rm_X8_bestMove : Room := { frames := 7, cells := 0, slots := 0, locals := 164 }
theorem hdS_X8_bestMove : yX8_bestMove.cls ≠ "java/lang/invoke/MethodHandle" ∧ yX8_bestMove.cls ≠ "java/lang/invoke/VarHandle" ∧ (parseMethodDescriptor yX8_bestMove.desc).map (fun d => d.parameters.length) = some 0 := by decide +kernel
theorem hdV_X8_bestMove : yX8_bestMove.cls = RX8 ∧ yX8_bestMove.cls ≠ "java/lang/invoke/MethodHandle" ∧ yX8_bestMove.cls ≠ "java/lang/invoke/VarHandle" ∧ (parseMethodDescriptor yX8_bestMove.desc).map (fun d => d.parameters.length) = some 0 := ⟨rfl, hdS_X8_bestMove⟩
set_option maxHeartbeats 4000000 in
set_option maxRecDepth 100000 in
theorem c_X8_bestMove (l : Launch) (dC : Nat → ClassId) (dI : Nat → Nat → Nat) (cy : Nat → ClassId) (x : Nat → Nat) (F : Fig) (D : Fig) (res : Int32 × Fig) (h : G_X8_bestMove F D = some res) : CT l (dC, dI) (TY cy) yX8_bestMove cX8_bestMove 6 (some .int) rm_X8_bestMove [.ref (x 0)] (wSPo x ++ wFig (fun j => x (1 + j)) cy F ++ wFig (fun j => x (6 + j)) cy D) (wSPo x ++ wFig (fun j => x (1 + j)) cy F ++ wFig (fun j => x (6 + j)) cy res.2) (some (.int res.1)) := by
  refine CT.mk_i (own := RX8) ⟨by decide, rfl⟩ (Nat.le_of_ble_eq_true rfl) ?_
  intro p e s mm args below meth cd A Q hx hb hml hown htg hN hK hA hP hD hS hE ls hl
  have hl : lv_has ls 6 [(0, .ref (x 0))] := hl
  replace h : _ = some res := h
  unfold G_X8_bestMove at h
  obtain ⟨H, hH⟩ : ∃ H, H = s.heap := ⟨_, rfl⟩
  obtain ⟨locs, hlocs⟩ : ∃ locs : List Loc, locs = [] := ⟨_, rfl⟩
  rw [← hlocs] at hS ⊢
  have hS : va_S A s.heap H locs := by rw [hH]; exact hS
  rw [← hH] at hP ⊢
  refine lv_bipush (v := (-9)) hx hb dX8_bestMove_0 (by decide) ?_
  refine lv_istore_n (lv' := [(1, .int (-9)), (0, .ref (x 0))]) hx hb dX8_bestMove_2 rfl hl (by decide) rfl (fun ls hl => ?_)
  refine lv_bipush (v := (-9)) hx hb dX8_bestMove_3 (by decide) ?_
  refine lv_istore_n (lv' := [(2, .int (-9)), (1, .int (-9)), (0, .ref (x 0))]) hx hb dX8_bestMove_5 rfl hl (by decide) rfl (fun ls hl => ?_)
  refine lv_iconst (v := 0) hx hb dX8_bestMove_6 (by decide) ?_
  refine lv_istore_n (lv' := [(3, .int 0), (2, .int (-9)), (1, .int (-9)), (0, .ref (x 0))]) hx hb dX8_bestMove_7 rfl hl (by decide) rfl (fun ls hl => ?_)
  have hL8 : ∀ (n8 : Nat) (D_8 : Fig) (l3_8 : Int32) (l2_8 : Int32) (l1_8 : Int32) (H : Heap) (locs : List Loc) (ls : Array Slot), G_X8_bestMove_L8 F n8 D_8 l3_8 l2_8 l1_8 = some res → va_P (dC, dI) vwCl (wSPo x ++ wFig (fun j => x (1 + j)) cy F ++ wFig (fun j => x (6 + j)) cy D_8) H → va_D A (wSPo x ++ wFig (fun j => x (1 + j)) cy F ++ wFig (fun j => x (6 + j)) cy D_8) → va_S A s.heap H locs → lv_has ls 6 [(3, .int l3_8), (2, .int l2_8), (1, .int l1_8), (0, .ref (x 0))] → W p l e rm_X8_bestMove s mm args below meth cd H locs 0 0 Q (F0 mm 8 ls []) := by
    intro n8
    induction n8 with
    | zero => intro D_8 l3_8 l2_8 l1_8 H locs ls h; exact absurd h (by simp [G_X8_bestMove_L8])
    | succ n8 ih8 =>
      intro D_8 l3_8 l2_8 l1_8 H locs ls h hP hD hS hl
      rw [G_X8_bestMove_L8] at h
      refine lv_iload_n hx hb dX8_bestMove_8 rfl (lv_at hl 0 rfl) ?_
      refine lv_aload_n hx hb dX8_bestMove_9 rfl (lv_at hl 3 rfl) ?_
      refine va_get (D := (dC, dI)) (ci := 3) (v := .ref (x 1)) (C := RX8) (T := TX8) (N := 7) hx hb htg inX8 hown hK hP 0 rfl rfl 0 (by decide) (htg _ gw192) (fun _ h9 => h9) rfl dX8_bestMove_10 ?_
      refine lv_iconst (v := 0) hx hb dX8_bestMove_13 (by decide) ?_
      obtain ⟨v14, e14, h⟩ := bnd h
      refine cV (av := [.int 0]) (rest := [.int l3_8]) (st1 := [.int v14, .int l3_8]) (k1 := 0) (k2 := 0) (ci := 0) (q0 := 0) hx hb hml hown htg hN hK (c_X1_sizeOf l dC dI cy (fun j => x (1 + j)) F 0 v14 e14) (g_V gw350 gw165 gw166 gw60 gw167) hdV_X1_sizeOf rfl ⟨⟨Nat.le_of_ble_eq_true rfl, Nat.le_of_ble_eq_true rfl⟩, Nat.le_of_ble_eq_true rfl, Nat.le_of_ble_eq_true rfl⟩ hP hD hS hA ⟨rfl, rfl⟩ rfl [1, 2, 3, 4, 5] [0, 6, 7, 8, 9, 10] rfl rfl rfl (by decide) (by decide) hl.1 rfl (Nat.le_of_ble_eq_true rfl) rfl rfl rfl dX8_bestMove_14 (fun H locs hP hD hS => ?_)
      obtain ⟨hP, hD⟩ := x_perm (ws' := wSPo x ++ wFig (fun j => x (1 + j)) cy F ++ wFig (fun j => x (6 + j)) cy D_8) hP hD [0, 6, 7, 8, 9, 10, 1, 2, 3, 4, 5] (by decide) rfl rfl
      refine lv_icmp_ge (tgt := 96) hx hb dX8_bestMove_17 (by decide) (fun c17 => ?_) (fun c17 => ?_)
      · replace h := if_t h c17
        refine lv_iload_n hx hb dX8_bestMove_96 rfl (lv_at hl 2 rfl) ?_
        obtain rfl := Option.some.inj h
        exact hE H locs 97 ls _ hP hD hS rfl dX8_bestMove_97
      replace h := if_f h c17
      refine lv_iconst (v := 0) hx hb dX8_bestMove_20 (by decide) ?_
      refine lv_istore (lv' := [(4, .int 0), (3, .int l3_8), (2, .int l2_8), (1, .int l1_8), (0, .ref (x 0))]) hx hb dX8_bestMove_21 hl (by decide) rfl (fun ls hl => ?_)
      have hL23 : ∀ (n23 : Nat) (D_23 : Fig) (l4_23 : Int32) (l3_23 : Int32) (l2_23 : Int32) (l1_23 : Int32) (H : Heap) (locs : List Loc) (ls : Array Slot), G_X8_bestMove_L23 (G_X8_bestMove_L8 F n8) F n23 D_23 l4_23 l3_23 l2_23 l1_23 = some res → va_P (dC, dI) vwCl (wSPo x ++ wFig (fun j => x (1 + j)) cy F ++ wFig (fun j => x (6 + j)) cy D_23) H → va_D A (wSPo x ++ wFig (fun j => x (1 + j)) cy F ++ wFig (fun j => x (6 + j)) cy D_23) → va_S A s.heap H locs → lv_has ls 6 [(4, .int l4_23), (3, .int l3_23), (2, .int l2_23), (1, .int l1_23), (0, .ref (x 0))] → W p l e rm_X8_bestMove s mm args below meth cd H locs 0 0 Q (F0 mm 23 ls []) := by
        intro n23
        induction n23 with
        | zero => intro D_23 l4_23 l3_23 l2_23 l1_23 H locs ls h; exact absurd h (by simp [G_X8_bestMove_L23])
        | succ n23 ih23 =>
          intro D_23 l4_23 l3_23 l2_23 l1_23 H locs ls h hP hD hS hl
          rw [G_X8_bestMove_L23] at h
          refine lv_iload hx hb dX8_bestMove_23 (lv_at hl 0 rfl) ?_
          refine lv_iconst (v := 4) hx hb dX8_bestMove_25 (by decide) ?_
          refine lv_icmp_ge (tgt := 90) hx hb dX8_bestMove_26 (by decide) (fun c26 => ?_) (fun c26 => ?_)
          · replace h := if_t h c26
            refine lv_iinc (v := l3_23 + 1) (lv' := [(3, .int (l3_23 + 1)), (4, .int l4_23), (2, .int l2_23), (1, .int l1_23), (0, .ref (x 0))]) hx hb dX8_bestMove_90 hl (k := 1) rfl rfl (by decide) rfl (fun ls hl => ?_)
            refine lv_goto (tgt := 8) hx hb dX8_bestMove_93 (by decide) ?_
            exact ih8 D_23 (l3_23 + 1) l2_23 l1_23 H locs ls h hP hD hS (lv_sub hl [0, 2, 3, 4] rfl)
          replace h := if_f h c26
          refine lv_aload_n hx hb dX8_bestMove_29 rfl (lv_at hl 4 rfl) ?_
          refine va_get (D := (dC, dI)) (ci := 3) (v := .ref (x 6)) (C := RX8) (T := TX8) (N := 7) hx hb htg inX8 hown hK hP 0 rfl rfl 1 (by decide) (htg _ gw193) (fun _ h9 => h9) rfl dX8_bestMove_30 ?_
          refine lv_aload_n hx hb dX8_bestMove_33 rfl (lv_at hl 4 rfl) ?_
          refine va_get (D := (dC, dI)) (ci := 3) (v := .ref (x 1)) (C := RX8) (T := TX8) (N := 7) hx hb htg inX8 hown hK hP 0 rfl rfl 0 (by decide) (htg _ gw192) (fun _ h9 => h9) rfl dX8_bestMove_34 ?_
          obtain ⟨v37, e37, h⟩ := bnd h
          refine cV (av := [.ref (x 1)]) (rest := []) (st1 := []) (k1 := 0) (k2 := 0) (ci := 0) (q0 := 0) hx hb hml hown htg hN hK (c_X1_copyFrom l dC dI cy (fun j => x (6 + j)) (fun j => x (1 + j)) D_23 F  v37 e37) (g_V gw313 gw314 gw315 gw60 gw316) hdV_X1_copyFrom rfl ⟨⟨Nat.le_of_ble_eq_true rfl, Nat.le_of_ble_eq_true rfl⟩, Nat.le_of_ble_eq_true rfl, Nat.le_of_ble_eq_true rfl⟩ hP hD hS hA ⟨rfl, rfl⟩ rfl [6, 7, 8, 9, 10, 1, 2, 3, 4, 5] [0] rfl rfl rfl (by decide) (by decide) hl.1 rfl (Nat.le_of_ble_eq_true rfl) rfl rfl rfl dX8_bestMove_37 (fun H locs hP hD hS => ?_)
          obtain ⟨hP, hD⟩ := x_perm (ws' := wSPo x ++ wFig (fun j => x (1 + j)) cy F ++ wFig (fun j => x (6 + j)) cy v37) hP hD [0, 6, 7, 8, 9, 10, 1, 2, 3, 4, 5] (by decide) rfl rfl
          refine lv_aload_n hx hb dX8_bestMove_40 rfl (lv_at hl 4 rfl) ?_
          refine va_get (D := (dC, dI)) (ci := 3) (v := .ref (x 6)) (C := RX8) (T := TX8) (N := 7) hx hb htg inX8 hown hK hP 0 rfl rfl 1 (by decide) (htg _ gw193) (fun _ h9 => h9) rfl dX8_bestMove_41 ?_
          refine lv_iload_n hx hb dX8_bestMove_44 rfl (lv_at hl 1 rfl) ?_
          refine lv_iload hx hb dX8_bestMove_45 (lv_at hl 0 rfl) ?_
          obtain ⟨v47, e47, h⟩ := bnd h
          refine cS (av := [.ref (x 6), .int l3_23, .int l4_23]) (rest := []) (st1 := [.int v47.1]) (k1 := 0) (k2 := 0) hx hb hml hown htg hN hK (c_X0_nudged l dC dI cy (fun j => x (6 + j)) v37 l3_23 l4_23 v47 e47) (g_S gw351 gw352 gw75 gw353) hdS_X0_nudged rfl ⟨⟨Nat.le_of_ble_eq_true rfl, Nat.le_of_ble_eq_true rfl⟩, Nat.le_of_ble_eq_true rfl, Nat.le_of_ble_eq_true rfl⟩ hP hD hS hA [6, 7, 8, 9, 10] [0, 1, 2, 3, 4, 5] rfl rfl rfl (by decide) (by decide) hl.1 rfl (Nat.le_of_ble_eq_true rfl) rfl rfl rfl dX8_bestMove_47 (fun H locs hP hD hS => ?_)
          obtain ⟨hP, hD⟩ := x_perm (ws' := wSPo x ++ wFig (fun j => x (1 + j)) cy F ++ wFig (fun j => x (6 + j)) cy v47.2) hP hD [0, 1, 2, 3, 4, 5, 6, 7, 8, 9, 10] (by decide) rfl rfl
          obtain ⟨b50, e50, h⟩ := bnd h
          have hr65 : ∀ (H : Heap) (locs : List Loc) (ls : Array Slot), va_P (dC, dI) vwCl (wSPo x ++ wFig (fun j => x (1 + j)) cy F ++ wFig (fun j => x (6 + j)) cy v47.2) H → va_D A (wSPo x ++ wFig (fun j => x (1 + j)) cy F ++ wFig (fun j => x (6 + j)) cy v47.2) → va_S A s.heap H locs → lv_has ls 6 [(4, .int l4_23), (3, .int l3_23), (2, .int l2_23), (1, .int l1_23), (0, .ref (x 0))] → W p l e rm_X8_bestMove s mm args below meth cd H locs 0 0 Q (F0 mm 65 ls [.int b50]) := by
            intro H locs ls hP hD hS hl
            refine lv_istore (lv' := [(5, .int b50), (4, .int l4_23), (3, .int l3_23), (2, .int l2_23), (1, .int l1_23), (0, .ref (x 0))]) hx hb dX8_bestMove_65 hl (by decide) rfl (fun ls hl => ?_)
            refine lv_iload hx hb dX8_bestMove_67 (lv_at hl 0 rfl) ?_
            refine lv_iload_n hx hb dX8_bestMove_69 rfl (lv_at hl 3 rfl) ?_
            have hj84 : ∀ (D_84 : Fig) (l4_84 : Int32) (l3_84 : Int32) (l2_84 : Int32) (l1_84 : Int32) (H : Heap) (locs : List Loc) (ls : Array Slot), G_X8_bestMove_j84 (G_X8_bestMove_L23 (G_X8_bestMove_L8 F n8) F n23) F D_84 l4_84 l3_84 l2_84 l1_84 = some res → va_P (dC, dI) vwCl (wSPo x ++ wFig (fun j => x (1 + j)) cy F ++ wFig (fun j => x (6 + j)) cy D_84) H → va_D A (wSPo x ++ wFig (fun j => x (1 + j)) cy F ++ wFig (fun j => x (6 + j)) cy D_84) → va_S A s.heap H locs → lv_has ls 6 [(4, .int l4_84), (3, .int l3_84), (2, .int l2_84), (1, .int l1_84), (0, .ref (x 0))] → W p l e rm_X8_bestMove s mm args below meth cd H locs 0 0 Q (F0 mm 84 ls []) := by
              intro D_84 l4_84 l3_84 l2_84 l1_84 H locs ls h hP hD hS hl
              unfold G_X8_bestMove_j84 at h
              refine lv_iinc (v := l4_84 + 1) (lv' := [(4, .int (l4_84 + 1)), (3, .int l3_84), (2, .int l2_84), (1, .int l1_84), (0, .ref (x 0))]) hx hb dX8_bestMove_84 hl (k := 0) rfl rfl (by decide) rfl (fun ls hl => ?_)
              refine lv_goto (tgt := 23) hx hb dX8_bestMove_87 (by decide) ?_
              exact ih23 D_84 (l4_84 + 1) l3_84 l2_84 l1_84 H locs ls h hP hD hS (lv_sub hl [0, 1, 2, 3, 4] rfl)
            refine lv_icmp_le (tgt := 84) hx hb dX8_bestMove_70 (by decide) (fun c70 => ?_) (fun c70 => ?_)
            · replace h := if_t h c70
              exact hj84 v47.2 l4_23 l3_23 l2_23 l1_23 H locs ls h hP hD hS (lv_sub hl [1, 2, 3, 4, 5] rfl)
            replace h := if_f h c70
            refine lv_iload hx hb dX8_bestMove_73 (lv_at hl 0 rfl) ?_
            refine lv_istore_n (lv' := [(2, .int b50), (5, .int b50), (4, .int l4_23), (3, .int l3_23), (1, .int l1_23), (0, .ref (x 0))]) hx hb dX8_bestMove_75 rfl hl (by decide) rfl (fun ls hl => ?_)
            refine lv_bipush (v := 10) hx hb dX8_bestMove_76 (by decide) ?_
            refine lv_iload_n hx hb dX8_bestMove_78 rfl (lv_at hl 3 rfl) ?_
            refine lv_imul hx hb dX8_bestMove_79 ?_
            refine lv_iload hx hb dX8_bestMove_80 (lv_at hl 2 rfl) ?_
            refine lv_iadd hx hb dX8_bestMove_82 ?_
            refine lv_istore_n (lv' := [(1, .int ((10 * l3_23) + l4_23)), (2, .int b50), (5, .int b50), (4, .int l4_23), (3, .int l3_23), (0, .ref (x 0))]) hx hb dX8_bestMove_83 rfl hl (by decide) rfl (fun ls hl => ?_)
            exact hj84 v47.2 l4_23 l3_23 b50 ((10 * l3_23) + l4_23) H locs ls h hP hD hS (lv_sub hl [3, 4, 1, 0, 5] rfl)
          have h := e50
          clear e50
          refine lv_if_eq (tgt := 63) hx hb dX8_bestMove_50 (by decide) (fun c50 => ?_) (fun c50 => ?_)
          · replace h := if_t h c50
            refine lv_bipush (v := (-9)) hx hb dX8_bestMove_63 (by decide) ?_
            obtain rfl := Option.some.inj h
            exact hr65 H locs ls hP hD hS hl
          replace h := if_f h c50
          refine lv_aload_n hx hb dX8_bestMove_53 rfl (lv_at hl 4 rfl) ?_
          refine va_get (D := (dC, dI)) (ci := 3) (v := .ref (x 6)) (C := RX8) (T := TX8) (N := 7) hx hb htg inX8 hown hK hP 0 rfl rfl 1 (by decide) (htg _ gw193) (fun _ h9 => h9) rfl dX8_bestMove_54 ?_
          obtain ⟨v57, e57, h⟩ := bnd h
          refine cS (av := [.ref (x 6)]) (rest := []) (st1 := [.int v57]) (k1 := 0) (k2 := 0) hx hb hml hown htg hN hK (c_X2_area l dC dI cy (fun j => x (6 + j)) v47.2  v57 e57) (g_S gw366 gw367 gw72 gw368) hdS_X2_area rfl ⟨⟨Nat.le_of_ble_eq_true rfl, Nat.le_of_ble_eq_true rfl⟩, Nat.le_of_ble_eq_true rfl, Nat.le_of_ble_eq_true rfl⟩ hP hD hS hA [6, 7, 8, 9, 10] [0, 1, 2, 3, 4, 5] rfl rfl rfl (by decide) (by decide) hl.1 rfl (Nat.le_of_ble_eq_true rfl) rfl rfl rfl dX8_bestMove_57 (fun H locs hP hD hS => ?_)
          obtain ⟨hP, hD⟩ := x_perm (ws' := wSPo x ++ wFig (fun j => x (1 + j)) cy F ++ wFig (fun j => x (6 + j)) cy v47.2) hP hD [0, 1, 2, 3, 4, 5, 6, 7, 8, 9, 10] (by decide) rfl rfl
          refine lv_goto (tgt := 65) hx hb dX8_bestMove_60 (by decide) ?_
          obtain rfl := Option.some.inj h
          exact hr65 H locs ls hP hD hS hl
      exact hL23 FU D_8 0 l3_8 l2_8 l1_8 H locs ls h hP hD hS (lv_sub hl [0, 1, 2, 3, 4] rfl)
  exact hL8 FU D 0 (-9) (-9) H locs ls h hP hD hS (lv_sub hl [0, 1, 2, 3] rfl)
def G_X8_checkCorner (F : Fig) (p1 : Int32) (p2 : Int32) : Option (Sum Nat Unit) :=
  (G_X1_hasCorner F p1 p2).bind fun v6 =>
  if v6 = 0 then
    some (.inl 1)
  else
    some (.inr ())
abbrev rm_X8_checkCorner : Room := { frames := 6, cells := 1, slots := 6, locals := 82 }
theorem hdS_X8_checkCorner : yX8_checkCorner.cls ≠ "java/lang/invoke/MethodHandle" ∧ yX8_checkCorner.cls ≠ "java/lang/invoke/VarHandle" ∧ (parseMethodDescriptor yX8_checkCorner.desc).map (fun d => d.parameters.length) = some 2 := by decide +kernel
theorem hdV_X8_checkCorner : yX8_checkCorner.cls = RX8 ∧ yX8_checkCorner.cls ≠ "java/lang/invoke/MethodHandle" ∧ yX8_checkCorner.cls ≠ "java/lang/invoke/VarHandle" ∧ (parseMethodDescriptor yX8_checkCorner.desc).map (fun d => d.parameters.length) = some 2 := ⟨rfl, hdS_X8_checkCorner⟩
set_option maxHeartbeats 4000000 in
set_option maxRecDepth 100000 in
theorem c_X8_checkCorner (l : Launch) (dC : Nat → ClassId) (dI : Nat → Nat → Nat) (cy : Nat → ClassId) (hlt : l.stackTraces = false) (x : Nat → Nat) (F : Fig) (p1 : Int32) (p2 : Int32) (res : Sum Nat Unit) (h : G_X8_checkCorner F p1 p2 = some res) : CTX l (dC, dI) (TY cy) yX8_checkCorner cX8_checkCorner 3 none rm_X8_checkCorner [.ref (x 0), .int p1, .int p2] (wSPo x ++ wFig (fun j => x (1 + j)) cy F) (wSPo x ++ wFig (fun j => x (1 + j)) cy F) (oU res) := by
  refine CTX.mk (own := RX8) hlt ⟨by decide, rfl⟩ (Nat.le_of_ble_eq_true rfl) ?_
  intro p e s mm args below meth cd A Q hx hb hml hown htg hN hK hX0 hA hP hD hS hE hV hT hO ls hl
  have hl : lv_has ls 3 [(0, .ref (x 0)), (1, .int p1), (2, .int p2)] := hl
  replace h : _ = some res := h
  unfold G_X8_checkCorner at h
  obtain ⟨H, hH⟩ : ∃ H, H = s.heap := ⟨_, rfl⟩
  obtain ⟨locs, hlocs⟩ : ∃ locs : List Loc, locs = [] := ⟨_, rfl⟩
  rw [← hlocs] at hS ⊢
  have hS : va_S A s.heap H locs := by rw [hH]; exact hS
  rw [← hH] at hP ⊢
  refine lv_aload_n hx hb dX8_checkCorner_0 rfl (lv_at hl 0 rfl) ?_
  refine va_get (D := (dC, dI)) (ci := 3) (v := .ref (x 1)) (C := RX8) (T := TX8) (N := 7) hx hb htg inX8 hown hK hP 0 rfl rfl 0 (by decide) (htg _ gw192) (fun _ h9 => h9) rfl dX8_checkCorner_1 ?_
  refine lv_iload_n hx hb dX8_checkCorner_4 rfl (lv_at hl 1 rfl) ?_
  refine lv_iload_n hx hb dX8_checkCorner_5 rfl (lv_at hl 2 rfl) ?_
  obtain ⟨v6, e6, h⟩ := bnd h
  refine cV (av := [.int p1, .int p2]) (rest := []) (st1 := [.int v6]) (k1 := 0) (k2 := 0) (ci := 0) (q0 := 0) hx hb hml hown htg hN hK (c_X1_hasCorner l dC dI cy (fun j => x (1 + j)) F p1 p2 v6 e6) (g_V gw624 gw360 gw361 gw60 gw362) hdV_X1_hasCorner rfl ⟨⟨Nat.le_of_ble_eq_true rfl, Nat.le_of_ble_eq_true rfl⟩, Nat.le_of_ble_eq_true rfl, Nat.le_of_ble_eq_true rfl⟩ hP hD hS hA ⟨rfl, rfl⟩ rfl [1, 2, 3, 4, 5] [0] rfl rfl rfl (by decide) (by decide) hl.1 rfl (Nat.le_of_ble_eq_true rfl) rfl rfl rfl dX8_checkCorner_6 (fun H locs hP hD hS => ?_)
  obtain ⟨hP, hD⟩ := x_perm (ws' := wSPo x ++ wFig (fun j => x (1 + j)) cy F) hP hD [0, 1, 2, 3, 4, 5] (by decide) rfl rfl
  refine lv_if_ne (tgt := 23) hx hb dX8_checkCorner_9 (by decide) (fun c9 => ?_) (fun c9 => ?_)
  · replace h := if_f h c9
    obtain rfl := Option.some.inj h
    exact hV H locs 0 0 23 ls hP hD hS (by decide) (by decide) rfl rfl dX8_checkCorner_23
  replace h := if_t h c9
  obtain rfl := Option.some.inj h
  exact hT H locs 0 0 12 ls 298 307 302 1 "there is no such ring or corner" hP hD hS (by decide) (by decide) (by decide) (by decide) rfl rfl hl.1 (by decide +kernel) gw587 gw74 exat_1 exgo_1 (by decide +kernel) dX8_checkCorner_12 dX8_checkCorner_15 (Or.inr ⟨dX8_checkCorner_16, dX8_checkCorner_19, dX8_checkCorner_22⟩)
def G_X8_checkRing (F : Fig) (p1 : Int32) : Option (Sum Nat Unit) :=
  (G_X1_hasRing F p1).bind fun v5 =>
  if v5 = 0 then
    some (.inl 1)
  else
    some (.inr ())
abbrev rm_X8_checkRing : Room := { frames := 6, cells := 1, slots := 6, locals := 82 }
theorem hdS_X8_checkRing : yX8_checkRing.cls ≠ "java/lang/invoke/MethodHandle" ∧ yX8_checkRing.cls ≠ "java/lang/invoke/VarHandle" ∧ (parseMethodDescriptor yX8_checkRing.desc).map (fun d => d.parameters.length) = some 1 := by decide +kernel
theorem hdV_X8_checkRing : yX8_checkRing.cls = RX8 ∧ yX8_checkRing.cls ≠ "java/lang/invoke/MethodHandle" ∧ yX8_checkRing.cls ≠ "java/lang/invoke/VarHandle" ∧ (parseMethodDescriptor yX8_checkRing.desc).map (fun d => d.parameters.length) = some 1 := ⟨rfl, hdS_X8_checkRing⟩
set_option maxHeartbeats 4000000 in
set_option maxRecDepth 100000 in
theorem c_X8_checkRing (l : Launch) (dC : Nat → ClassId) (dI : Nat → Nat → Nat) (cy : Nat → ClassId) (hlt : l.stackTraces = false) (x : Nat → Nat) (F : Fig) (p1 : Int32) (res : Sum Nat Unit) (h : G_X8_checkRing F p1 = some res) : CTX l (dC, dI) (TY cy) yX8_checkRing cX8_checkRing 2 none rm_X8_checkRing [.ref (x 0), .int p1] (wSPo x ++ wFig (fun j => x (1 + j)) cy F) (wSPo x ++ wFig (fun j => x (1 + j)) cy F) (oU res) := by
  refine CTX.mk (own := RX8) hlt ⟨by decide, rfl⟩ (Nat.le_of_ble_eq_true rfl) ?_
  intro p e s mm args below meth cd A Q hx hb hml hown htg hN hK hX0 hA hP hD hS hE hV hT hO ls hl
  have hl : lv_has ls 2 [(0, .ref (x 0)), (1, .int p1)] := hl
  replace h : _ = some res := h
  unfold G_X8_checkRing at h
  obtain ⟨H, hH⟩ : ∃ H, H = s.heap := ⟨_, rfl⟩
  obtain ⟨locs, hlocs⟩ : ∃ locs : List Loc, locs = [] := ⟨_, rfl⟩
  rw [← hlocs] at hS ⊢
  have hS : va_S A s.heap H locs := by rw [hH]; exact hS
  rw [← hH] at hP ⊢
  refine lv_aload_n hx hb dX8_checkRing_0 rfl (lv_at hl 0 rfl) ?_
  refine va_get (D := (dC, dI)) (ci := 3) (v := .ref (x 1)) (C := RX8) (T := TX8) (N := 7) hx hb htg inX8 hown hK hP 0 rfl rfl 0 (by decide) (htg _ gw192) (fun _ h9 => h9) rfl dX8_checkRing_1 ?_
  refine lv_iload_n hx hb dX8_checkRing_4 rfl (lv_at hl 1 rfl) ?_
  obtain ⟨v5, e5, h⟩ := bnd h
  refine cV (av := [.int p1]) (rest := []) (st1 := [.int v5]) (k1 := 0) (k2 := 0) (ci := 0) (q0 := 0) hx hb hml hown htg hN hK (c_X1_hasRing l dC dI cy (fun j => x (1 + j)) F p1 v5 e5) (g_V gw586 gw173 gw174 gw60 gw175) hdV_X1_hasRing rfl ⟨⟨Nat.le_of_ble_eq_true rfl, Nat.le_of_ble_eq_true rfl⟩, Nat.le_of_ble_eq_true rfl, Nat.le_of_ble_eq_true rfl⟩ hP hD hS hA ⟨rfl, rfl⟩ rfl [1, 2, 3, 4, 5] [0] rfl rfl rfl (by decide) (by decide) hl.1 rfl (Nat.le_of_ble_eq_true rfl) rfl rfl rfl dX8_checkRing_5 (fun H locs hP hD hS => ?_)
  obtain ⟨hP, hD⟩ := x_perm (ws' := wSPo x ++ wFig (fun j => x (1 + j)) cy F) hP hD [0, 1, 2, 3, 4, 5] (by decide) rfl rfl
  refine lv_if_ne (tgt := 22) hx hb dX8_checkRing_8 (by decide) (fun c8 => ?_) (fun c8 => ?_)
  · replace h := if_f h c8
    obtain rfl := Option.some.inj h
    exact hV H locs 0 0 22 ls hP hD hS (by decide) (by decide) rfl rfl dX8_checkRing_22
  replace h := if_t h c8
  obtain rfl := Option.some.inj h
  exact hT H locs 0 0 11 ls 298 300 302 1 "there is no such ring" hP hD hS (by decide) (by decide) (by decide) (by decide) rfl rfl hl.1 (by decide +kernel) gw587 gw74 exat_1 exgo_1 (by decide +kernel) dX8_checkRing_11 dX8_checkRing_14 (Or.inr ⟨dX8_checkRing_15, dX8_checkRing_18, dX8_checkRing_21⟩)
def G_X8_checkSlot (p0 : Int32) : Option (Sum Nat Unit) :=
  (G_X8_inRange p0 0 1).bind fun v3 =>
  if v3 = 0 then
    some (.inl 1)
  else
    some (.inr ())
abbrev rm_X8_checkSlot : Room := { frames := 6, cells := 1, slots := 6, locals := 82 }
theorem hdS_X8_checkSlot : yX8_checkSlot.cls ≠ "java/lang/invoke/MethodHandle" ∧ yX8_checkSlot.cls ≠ "java/lang/invoke/VarHandle" ∧ (parseMethodDescriptor yX8_checkSlot.desc).map (fun d => d.parameters.length) = some 1 := by decide +kernel
set_option maxHeartbeats 4000000 in
set_option maxRecDepth 100000 in
theorem c_X8_checkSlot (l : Launch) (dC : Nat → ClassId) (dI : Nat → Nat → Nat) (cy : Nat → ClassId) (hlt : l.stackTraces = false)  (p0 : Int32) (res : Sum Nat Unit) (h : G_X8_checkSlot p0 = some res) : CTX l (dC, dI) (TY cy) yX8_checkSlot cX8_checkSlot 1 none rm_X8_checkSlot [.int p0] ([]) ([]) (oU res) := by
  refine CTX.mk (own := RX8) hlt ⟨by decide, rfl⟩ (Nat.le_of_ble_eq_true rfl) ?_
  intro p e s mm args below meth cd A Q hx hb hml hown htg hN hK hX0 hA hP hD hS hE hV hT hO ls hl
  have hl : lv_has ls 1 [(0, .int p0)] := hl
  replace h : _ = some res := h
  unfold G_X8_checkSlot at h
  obtain ⟨H, hH⟩ : ∃ H, H = s.heap := ⟨_, rfl⟩
  obtain ⟨locs, hlocs⟩ : ∃ locs : List Loc, locs = [] := ⟨_, rfl⟩
  rw [← hlocs] at hS ⊢
  have hS : va_S A s.heap H locs := by rw [hH]; exact hS
  rw [← hH] at hP ⊢
  refine lv_iload_n hx hb dX8_checkSlot_0 rfl (lv_at hl 0 rfl) ?_
  refine lv_iconst (v := 0) hx hb dX8_checkSlot_1 (by decide) ?_
  refine lv_iconst (v := 1) hx hb dX8_checkSlot_2 (by decide) ?_
  obtain ⟨v3, e3, h⟩ := bnd h
  refine cS (av := [.int p0, .int 0, .int 1]) (rest := []) (st1 := [.int v3]) (k1 := 0) (k2 := 0) hx hb hml hown htg hN hK (c_X8_inRange l dC dI cy   p0 0 1 v3 e3) (g_S gw433 gw245 gw59 gw246) hdS_X8_inRange rfl ⟨⟨Nat.le_of_ble_eq_true rfl, Nat.le_of_ble_eq_true rfl⟩, Nat.le_of_ble_eq_true rfl, Nat.le_of_ble_eq_true rfl⟩ hP hD hS hA [] [] rfl rfl rfl (by decide) (by decide) hl.1 rfl (Nat.le_of_ble_eq_true rfl) rfl rfl rfl dX8_checkSlot_3 (fun H locs hP hD hS => ?_)
  have hP : va_P (dC, dI) vwCl ([]) H := hP
  have hD : va_D A ([]) := hD
  refine lv_if_ne (tgt := 20) hx hb dX8_checkSlot_6 (by decide) (fun c6 => ?_) (fun c6 => ?_)
  · replace h := if_f h c6
    obtain rfl := Option.some.inj h
    exact hV H locs 0 0 20 ls hP hD hS (by decide) (by decide) rfl rfl dX8_checkSlot_20
  replace h := if_t h c6
  obtain rfl := Option.some.inj h
  exact hT H locs 0 0 9 ls 298 309 302 1 "there is no such save slot" hP hD hS (by decide) (by decide) (by decide) (by decide) rfl rfl hl.1 (by decide +kernel) gw587 gw74 exat_1 exgo_1 (by decide +kernel) dX8_checkSlot_9 dX8_checkSlot_12 (Or.inr ⟨dX8_checkSlot_13, dX8_checkSlot_16, dX8_checkSlot_19⟩)
def G_X8_clearText (T : TextS) : Option (Int32 × TextS) :=
  some (t_length T, ts_length T 0)
abbrev rm_X8_clearText : Room := { frames := 0, cells := 0, slots := 0, locals := 0 }
theorem hdS_X8_clearText : yX8_clearText.cls ≠ "java/lang/invoke/MethodHandle" ∧ yX8_clearText.cls ≠ "java/lang/invoke/VarHandle" ∧ (parseMethodDescriptor yX8_clearText.desc).map (fun d => d.parameters.length) = some 0 := by decide +kernel
theorem hdV_X8_clearText : yX8_clearText.cls = RX8 ∧ yX8_clearText.cls ≠ "java/lang/invoke/MethodHandle" ∧ yX8_clearText.cls ≠ "java/lang/invoke/VarHandle" ∧ (parseMethodDescriptor yX8_clearText.desc).map (fun d => d.parameters.length) = some 0 := ⟨rfl, hdS_X8_clearText⟩
set_option maxHeartbeats 4000000 in
set_option maxRecDepth 100000 in
theorem c_X8_clearText (l : Launch) (dC : Nat → ClassId) (dI : Nat → Nat → Nat) (cy : Nat → ClassId) (x : Nat → Nat) (T : TextS) (res : Int32 × TextS) (h : G_X8_clearText T = some res) : CT l (dC, dI) (TY cy) yX8_clearText cX8_clearText 2 (some .int) rm_X8_clearText [.ref (x 0)] (wSPo x ++ wText (fun j => x (95 + j)) cy T) (wSPo x ++ wText (fun j => x (95 + j)) cy res.2) (some (.int res.1)) := by
  refine CT.mk_i (own := RX8) ⟨by decide, rfl⟩ (Nat.le_of_ble_eq_true rfl) ?_
  intro p e s mm args below meth cd A Q hx hb hml hown htg hN hK hA hP hD hS hE ls hl
  have hl : lv_has ls 2 [(0, .ref (x 0))] := hl
  replace h : _ = some res := h
  unfold G_X8_clearText at h
  obtain ⟨H, hH⟩ : ∃ H, H = s.heap := ⟨_, rfl⟩
  obtain ⟨locs, hlocs⟩ : ∃ locs : List Loc, locs = [] := ⟨_, rfl⟩
  rw [← hlocs] at hS ⊢
  have hS : va_S A s.heap H locs := by rw [hH]; exact hS
  rw [← hH] at hP ⊢
  refine lv_aload_n hx hb dX8_clearText_0 rfl (lv_at hl 0 rfl) ?_
  refine va_get (D := (dC, dI)) (ci := 3) (v := .ref (x 95)) (C := RX8) (T := TX8) (N := 7) hx hb htg inX8 hown hK hP 0 rfl rfl 5 (by decide) (htg _ gw197) (fun _ h9 => h9) rfl dX8_clearText_1 ?_
  refine va_getN (D := (dC, dI)) (ci := 2) (v := .int (t_length T)) (C := RX7) (T := TX7) (N := 2) hx hb htg inX7 hown hK hP 1 rfl rfl 1 (by decide) (va_Nw.use rfl (hN (.fieldLinkNest RX8 63 "SquaredPaper$Text" "length" "I" "SquaredPaper") (by decide +kernel))) (fun _ h9 => h9) rfl dX8_clearText_4 ?_
  refine lv_istore_n (lv' := [(1, .int (t_length T)), (0, .ref (x 0))]) hx hb dX8_clearText_7 rfl hl (by decide) rfl (fun ls hl => ?_)
  refine lv_aload_n hx hb dX8_clearText_8 rfl (lv_at hl 1 rfl) ?_
  refine va_get (D := (dC, dI)) (ci := 3) (v := .ref (x 95)) (C := RX8) (T := TX8) (N := 7) hx hb htg inX8 hown hK hP 0 rfl rfl 5 (by decide) (htg _ gw197) (fun _ h9 => h9) rfl dX8_clearText_9 ?_
  refine lv_iconst (v := 0) hx hb dX8_clearText_12 (by decide) ?_
  refine va_putN (D := (dC, dI)) (ci := 2) (v := .int 0) (ty := .int) (C := RX7) (T := TX7) (N := 2) hx hb htg inX7 tyX7 tyX7_ok nmX7 hown hK hP hD hS 1 rfl rfl 1 (by decide) (va_Nw.use rfl (hN (.fieldLinkNest RX8 63 "SquaredPaper$Text" "length" "I" "SquaredPaper") (by decide +kernel))) (fun _ h9 => h9) rfl (by decide +kernel) rfl rfl (Nat.le_of_ble_eq_true rfl) dX8_clearText_13 (fun H locs hP hD hS => ?_)
  have hP : va_P (dC, dI) vwCl (wSPo x ++ wText (fun j => x (95 + j)) cy (ts_length T 0)) H := hP
  have hD : va_D A (wSPo x ++ wText (fun j => x (95 + j)) cy (ts_length T 0)) := hD
  refine lv_iload_n hx hb dX8_clearText_16 rfl (lv_at hl 0 rfl) ?_
  obtain rfl := Option.some.inj h
  exact hE H locs 17 ls _ hP hD hS rfl dX8_clearText_17
def G_X8_corner (F : Fig) (p1 : Int32) (p2 : Int32) (p3 : Int32) : Option ((Sum Nat Int32)) :=
  (G_X8_checkCorner F p1 p2).bind fun v3 =>
  match v3 with
  | .inl k3 => some (.inl k3)
  | .inr _ =>
    (G_X1_at F p1 p2).bind fun v12 =>
    if p3 = 0 then
      (G_X1_xOf F v12).bind fun v62 =>
      some (.inr v62)
    else
    if p3 = 1 then
      (G_X1_yOf F v12).bind fun v72 =>
      some (.inr v72)
    else
    if p3 = 2 then
      (G_X2_kind F p1 p2).bind fun v82 =>
      some (.inr v82)
    else
    if p3 = 3 then
      (G_X6_seenFrom F v12).bind fun v92 =>
      some (.inr v92)
    else
    if p3 = 4 then
      (G_X1_bendAt F p1 p2).bind fun v102 =>
      some (.inr (if 0 ≤ v102 then v102 else 0 - v102))
    else
    if p3 = 5 then
      (G_X1_stepsOfSide F v12).bind fun v115 =>
      some (.inr v115)
    else
    some (.inl 2)
abbrev rm_X8_corner : Room := { frames := 7, cells := 2, slots := 12, locals := 124 }
theorem hdS_X8_corner : yX8_corner.cls ≠ "java/lang/invoke/MethodHandle" ∧ yX8_corner.cls ≠ "java/lang/invoke/VarHandle" ∧ (parseMethodDescriptor yX8_corner.desc).map (fun d => d.parameters.length) = some 3 := by decide +kernel
theorem hdV_X8_corner : yX8_corner.cls = RX8 ∧ yX8_corner.cls ≠ "java/lang/invoke/MethodHandle" ∧ yX8_corner.cls ≠ "java/lang/invoke/VarHandle" ∧ (parseMethodDescriptor yX8_corner.desc).map (fun d => d.parameters.length) = some 3 := ⟨rfl, hdS_X8_corner⟩
set_option maxHeartbeats 4000000 in
set_option maxRecDepth 100000 in
theorem c_X8_corner (l : Launch) (dC : Nat → ClassId) (dI : Nat → Nat → Nat) (cy : Nat → ClassId) (hlt : l.stackTraces = false) (x : Nat → Nat) (F : Fig) (p1 : Int32) (p2 : Int32) (p3 : Int32) (res : (Sum Nat Int32)) (h : G_X8_corner F p1 p2 p3 = some res) : CTX l (dC, dI) (TY cy) yX8_corner cX8_corner 5 (some .int) rm_X8_corner [.ref (x 0), .int p1, .int p2, .int p3] (wSPo x ++ wFig (fun j => x (1 + j)) cy F) (wSPo x ++ wFig (fun j => x (1 + j)) cy F) (oI res) := by
  refine CTX.mk (own := RX8) hlt ⟨by decide, rfl⟩ (Nat.le_of_ble_eq_true rfl) ?_
  intro p e s mm args below meth cd A Q hx hb hml hown htg hN hK hX0 hA hP hD hS hE hV hT hO ls hl
  have hl : lv_has ls 5 [(0, .ref (x 0)), (1, .int p1), (2, .int p2), (3, .int p3)] := hl
  replace h : _ = some res := h
  unfold G_X8_corner at h
  obtain ⟨H, hH⟩ : ∃ H, H = s.heap := ⟨_, rfl⟩
  obtain ⟨locs, hlocs⟩ : ∃ locs : List Loc, locs = [] := ⟨_, rfl⟩
  rw [← hlocs] at hS ⊢
  have hS : va_S A s.heap H locs := by rw [hH]; exact hS
  rw [← hH] at hP ⊢
  refine lv_aload_n hx hb dX8_corner_0 rfl (lv_at hl 0 rfl) ?_
  refine lv_iload_n hx hb dX8_corner_1 rfl (lv_at hl 1 rfl) ?_
  refine lv_iload_n hx hb dX8_corner_2 rfl (lv_at hl 2 rfl) ?_
  obtain ⟨v3, e3, h⟩ := bnd h
  rcases hv3 : v3 with k3 | u3
  · simp only [hv3] at h
    refine cXV (av := [.int p1, .int p2]) (rest := []) (k1 := 1) (k2 := 6) (ci := 3) (q0 := 0) hx hb hml hown htg hN hK hX0 (c_X8_checkCorner l dC dI cy hlt x F p1 p2 v3 e3) (g_V gw620 gw622 gw5 gw59 gw623) hdV_X8_checkCorner rfl ⟨⟨Nat.le_of_ble_eq_true rfl, Nat.le_of_ble_eq_true rfl⟩, Nat.le_of_ble_eq_true rfl, Nat.le_of_ble_eq_true rfl⟩ hP hD hS hA ⟨rfl, rfl⟩ rfl [0, 1, 2, 3, 4, 5] [] rfl rfl rfl (by decide) (by decide) hl.1 rfl (Nat.le_of_ble_eq_true rfl) rfl rfl dX8_corner_3 (fun H locs ret ho hP hD hS => ?_) (fun H locs k q ce ho hP hD hS h1 h2 h3 => ?_)
    · rw [hv3] at ho; cases ho
    rw [hv3] at ho
    obtain rfl := Sum.inl.inj ho
    have hP : va_P (dC, dI) vwCl (wSPo x ++ wFig (fun j => x (1 + j)) cy F) H := hP
    have hD : va_D A (wSPo x ++ wFig (fun j => x (1 + j)) cy F) := hD
    obtain rfl := Option.some.inj h
    exact hO H locs 1 6 3 ls _ _ q ce hP hD hS (by decide) (by decide) rfl h1 h2 h3
  simp only [hv3] at h
  refine cXV (av := [.int p1, .int p2]) (rest := []) (k1 := 1) (k2 := 6) (ci := 3) (q0 := 0) hx hb hml hown htg hN hK hX0 (c_X8_checkCorner l dC dI cy hlt x F p1 p2 v3 e3) (g_V gw620 gw622 gw5 gw59 gw623) hdV_X8_checkCorner rfl ⟨⟨Nat.le_of_ble_eq_true rfl, Nat.le_of_ble_eq_true rfl⟩, Nat.le_of_ble_eq_true rfl, Nat.le_of_ble_eq_true rfl⟩ hP hD hS hA ⟨rfl, rfl⟩ rfl [0, 1, 2, 3, 4, 5] [] rfl rfl rfl (by decide) (by decide) hl.1 rfl (Nat.le_of_ble_eq_true rfl) rfl rfl dX8_corner_3 (fun H locs ret ho hP hD hS => ?_) (fun H locs k q ce ho hP hD hS h1 h2 h3 => ?_)
  rotate_left
  · rw [hv3] at ho; cases ho
  rw [hv3] at ho
  obtain rfl := Sum.inr.inj ho
  have hP : va_P (dC, dI) vwCl (wSPo x ++ wFig (fun j => x (1 + j)) cy F) H := hP
  have hD : va_D A (wSPo x ++ wFig (fun j => x (1 + j)) cy F) := hD
  refine W.eq (g2 := F0 mm 6 ls []) rfl ?_
  refine lv_aload_n hx hb dX8_corner_6 rfl (lv_at hl 0 rfl) ?_
  refine va_get (D := (dC, dI)) (ci := 3) (v := .ref (x 1)) (C := RX8) (T := TX8) (N := 7) hx hb htg inX8 hown hK hP 0 rfl rfl 0 (by decide) (htg _ gw192) (fun _ h9 => h9) rfl dX8_corner_7 ?_
  refine lv_iload_n hx hb dX8_corner_10 rfl (lv_at hl 1 rfl) ?_
  refine lv_iload_n hx hb dX8_corner_11 rfl (lv_at hl 2 rfl) ?_
  obtain ⟨v12, e12, h⟩ := bnd h
  refine cV (av := [.int p1, .int p2]) (rest := []) (st1 := [.int v12]) (k1 := 1) (k2 := 6) (ci := 0) (q0 := 0) hx hb hml hown htg hN hK (c_X1_at l dC dI cy (fun j => x (1 + j)) F p1 p2 v12 e12) (g_V gw626 gw177 gw178 gw60 gw179) hdV_X1_at rfl ⟨⟨Nat.le_of_ble_eq_true rfl, Nat.le_of_ble_eq_true rfl⟩, Nat.le_of_ble_eq_true rfl, Nat.le_of_ble_eq_true rfl⟩ hP hD hS hA ⟨rfl, rfl⟩ rfl [1, 2, 3, 4, 5] [0] rfl rfl rfl (by decide) (by decide) hl.1 rfl (Nat.le_of_ble_eq_true rfl) rfl rfl rfl dX8_corner_12 (fun H locs hP hD hS => ?_)
  obtain ⟨hP, hD⟩ := x_perm (ws' := wSPo x ++ wFig (fun j => x (1 + j)) cy F) hP hD [0, 1, 2, 3, 4, 5] (by decide) rfl rfl
  refine lv_istore (lv' := [(4, .int v12), (0, .ref (x 0)), (1, .int p1), (2, .int p2), (3, .int p3)]) hx hb dX8_corner_15 hl (by decide) rfl (fun ls hl => ?_)
  refine lv_iload_n hx hb dX8_corner_17 rfl (lv_at hl 4 rfl) ?_
  by_cases c18_0 : p3 = 0
  · replace h := if_t h c18_0
    refine lv_tableIn (tgt := 56) (off := 38) hx hb dX8_corner_18 (by rw [c18_0]; decide) (by rw [c18_0]; decide) (by rw [c18_0]; rfl) (by decide) ?_
    refine lv_aload_n hx hb dX8_corner_56 rfl (lv_at hl 1 rfl) ?_
    refine va_get (D := (dC, dI)) (ci := 3) (v := .ref (x 1)) (C := RX8) (T := TX8) (N := 7) hx hb htg inX8 hown hK hP 0 rfl rfl 0 (by decide) (htg _ gw192) (fun _ h9 => h9) rfl dX8_corner_57 ?_
    refine lv_iload hx hb dX8_corner_60 (lv_at hl 0 rfl) ?_
    obtain ⟨v62, e62, h⟩ := bnd h
    refine cV (av := [.int v12]) (rest := []) (st1 := [.int v62]) (k1 := 1) (k2 := 6) (ci := 0) (q0 := 0) hx hb hml hown htg hN hK (c_X1_xOf l dC dI cy (fun j => x (1 + j)) F v12 v62 e62) (g_V gw627 gw241 gw242 gw60 gw243) hdV_X1_xOf rfl ⟨⟨Nat.le_of_ble_eq_true rfl, Nat.le_of_ble_eq_true rfl⟩, Nat.le_of_ble_eq_true rfl, Nat.le_of_ble_eq_true rfl⟩ hP hD hS hA ⟨rfl, rfl⟩ rfl [1, 2, 3, 4, 5] [0] rfl rfl rfl (by decide) (by decide) hl.1 rfl (Nat.le_of_ble_eq_true rfl) rfl rfl rfl dX8_corner_62 (fun H locs hP hD hS => ?_)
    obtain ⟨hP, hD⟩ := x_perm (ws' := wSPo x ++ wFig (fun j => x (1 + j)) cy F) hP hD [0, 1, 2, 3, 4, 5] (by decide) rfl rfl
    obtain rfl := Option.some.inj h
    exact hE H locs 1 6 65 ls _ hP hD hS (by decide) (by decide) rfl ⟨_, rfl, rfl⟩ dX8_corner_65
  replace h := if_f h c18_0
  by_cases c18_1 : p3 = 1
  · replace h := if_t h c18_1
    refine lv_tableIn (tgt := 66) (off := 48) hx hb dX8_corner_18 (by rw [c18_1]; decide) (by rw [c18_1]; decide) (by rw [c18_1]; rfl) (by decide) ?_
    refine lv_aload_n hx hb dX8_corner_66 rfl (lv_at hl 1 rfl) ?_
    refine va_get (D := (dC, dI)) (ci := 3) (v := .ref (x 1)) (C := RX8) (T := TX8) (N := 7) hx hb htg inX8 hown hK hP 0 rfl rfl 0 (by decide) (htg _ gw192) (fun _ h9 => h9) rfl dX8_corner_67 ?_
    refine lv_iload hx hb dX8_corner_70 (lv_at hl 0 rfl) ?_
    obtain ⟨v72, e72, h⟩ := bnd h
    refine cV (av := [.int v12]) (rest := []) (st1 := [.int v72]) (k1 := 1) (k2 := 6) (ci := 0) (q0 := 0) hx hb hml hown htg hN hK (c_X1_yOf l dC dI cy (fun j => x (1 + j)) F v12 v72 e72) (g_V gw628 gw248 gw249 gw60 gw250) hdV_X1_yOf rfl ⟨⟨Nat.le_of_ble_eq_true rfl, Nat.le_of_ble_eq_true rfl⟩, Nat.le_of_ble_eq_true rfl, Nat.le_of_ble_eq_true rfl⟩ hP hD hS hA ⟨rfl, rfl⟩ rfl [1, 2, 3, 4, 5] [0] rfl rfl rfl (by decide) (by decide) hl.1 rfl (Nat.le_of_ble_eq_true rfl) rfl rfl rfl dX8_corner_72 (fun H locs hP hD hS => ?_)
    obtain ⟨hP, hD⟩ := x_perm (ws' := wSPo x ++ wFig (fun j => x (1 + j)) cy F) hP hD [0, 1, 2, 3, 4, 5] (by decide) rfl rfl
    obtain rfl := Option.some.inj h
    exact hE H locs 1 6 75 ls _ hP hD hS (by decide) (by decide) rfl ⟨_, rfl, rfl⟩ dX8_corner_75
  replace h := if_f h c18_1
  by_cases c18_2 : p3 = 2
  · replace h := if_t h c18_2
    refine lv_tableIn (tgt := 76) (off := 58) hx hb dX8_corner_18 (by rw [c18_2]; decide) (by rw [c18_2]; decide) (by rw [c18_2]; rfl) (by decide) ?_
    refine lv_aload_n hx hb dX8_corner_76 rfl (lv_at hl 1 rfl) ?_
    refine va_get (D := (dC, dI)) (ci := 3) (v := .ref (x 1)) (C := RX8) (T := TX8) (N := 7) hx hb htg inX8 hown hK hP 0 rfl rfl 0 (by decide) (htg _ gw192) (fun _ h9 => h9) rfl dX8_corner_77 ?_
    refine lv_iload_n hx hb dX8_corner_80 rfl (lv_at hl 2 rfl) ?_
    refine lv_iload_n hx hb dX8_corner_81 rfl (lv_at hl 3 rfl) ?_
    obtain ⟨v82, e82, h⟩ := bnd h
    refine cS (av := [.ref (x 1), .int p1, .int p2]) (rest := []) (st1 := [.int v82]) (k1 := 1) (k2 := 6) hx hb hml hown htg hN hK (c_X2_kind l dC dI cy (fun j => x (1 + j)) F p1 p2 v82 e82) (g_S gw629 gw393 gw72 gw394) hdS_X2_kind rfl ⟨⟨Nat.le_of_ble_eq_true rfl, Nat.le_of_ble_eq_true rfl⟩, Nat.le_of_ble_eq_true rfl, Nat.le_of_ble_eq_true rfl⟩ hP hD hS hA [1, 2, 3, 4, 5] [0] rfl rfl rfl (by decide) (by decide) hl.1 rfl (Nat.le_of_ble_eq_true rfl) rfl rfl rfl dX8_corner_82 (fun H locs hP hD hS => ?_)
    obtain ⟨hP, hD⟩ := x_perm (ws' := wSPo x ++ wFig (fun j => x (1 + j)) cy F) hP hD [0, 1, 2, 3, 4, 5] (by decide) rfl rfl
    obtain rfl := Option.some.inj h
    exact hE H locs 1 6 85 ls _ hP hD hS (by decide) (by decide) rfl ⟨_, rfl, rfl⟩ dX8_corner_85
  replace h := if_f h c18_2
  by_cases c18_3 : p3 = 3
  · replace h := if_t h c18_3
    refine lv_tableIn (tgt := 86) (off := 68) hx hb dX8_corner_18 (by rw [c18_3]; decide) (by rw [c18_3]; decide) (by rw [c18_3]; rfl) (by decide) ?_
    refine lv_aload_n hx hb dX8_corner_86 rfl (lv_at hl 1 rfl) ?_
    refine va_get (D := (dC, dI)) (ci := 3) (v := .ref (x 1)) (C := RX8) (T := TX8) (N := 7) hx hb htg inX8 hown hK hP 0 rfl rfl 0 (by decide) (htg _ gw192) (fun _ h9 => h9) rfl dX8_corner_87 ?_
    refine lv_iload hx hb dX8_corner_90 (lv_at hl 0 rfl) ?_
    obtain ⟨v92, e92, h⟩ := bnd h
    refine cS (av := [.ref (x 1), .int v12]) (rest := []) (st1 := [.int v92]) (k1 := 1) (k2 := 6) hx hb hml hown htg hN hK (c_X6_seenFrom l dC dI cy (fun j => x (1 + j)) F v12 v92 e92) (g_S gw630 gw631 gw73 gw632) hdS_X6_seenFrom rfl ⟨⟨Nat.le_of_ble_eq_true rfl, Nat.le_of_ble_eq_true rfl⟩, Nat.le_of_ble_eq_true rfl, Nat.le_of_ble_eq_true rfl⟩ hP hD hS hA [1, 2, 3, 4, 5] [0] rfl rfl rfl (by decide) (by decide) hl.1 rfl (Nat.le_of_ble_eq_true rfl) rfl rfl rfl dX8_corner_92 (fun H locs hP hD hS => ?_)
    obtain ⟨hP, hD⟩ := x_perm (ws' := wSPo x ++ wFig (fun j => x (1 + j)) cy F) hP hD [0, 1, 2, 3, 4, 5] (by decide) rfl rfl
    obtain rfl := Option.some.inj h
    exact hE H locs 1 6 95 ls _ hP hD hS (by decide) (by decide) rfl ⟨_, rfl, rfl⟩ dX8_corner_95
  replace h := if_f h c18_3
  by_cases c18_4 : p3 = 4
  · replace h := if_t h c18_4
    refine lv_tableIn (tgt := 96) (off := 78) hx hb dX8_corner_18 (by rw [c18_4]; decide) (by rw [c18_4]; decide) (by rw [c18_4]; rfl) (by decide) ?_
    refine lv_aload_n hx hb dX8_corner_96 rfl (lv_at hl 1 rfl) ?_
    refine va_get (D := (dC, dI)) (ci := 3) (v := .ref (x 1)) (C := RX8) (T := TX8) (N := 7) hx hb htg inX8 hown hK hP 0 rfl rfl 0 (by decide) (htg _ gw192) (fun _ h9 => h9) rfl dX8_corner_97 ?_
    refine lv_iload_n hx hb dX8_corner_100 rfl (lv_at hl 2 rfl) ?_
    refine lv_iload_n hx hb dX8_corner_101 rfl (lv_at hl 3 rfl) ?_
    obtain ⟨v102, e102, h⟩ := bnd h
    refine cV (av := [.int p1, .int p2]) (rest := []) (st1 := [.int v102]) (k1 := 1) (k2 := 6) (ci := 0) (q0 := 0) hx hb hml hown htg hN hK (c_X1_bendAt l dC dI cy (fun j => x (1 + j)) F p1 p2 v102 e102) (g_V gw633 gw396 gw397 gw60 gw398) hdV_X1_bendAt rfl ⟨⟨Nat.le_of_ble_eq_true rfl, Nat.le_of_ble_eq_true rfl⟩, Nat.le_of_ble_eq_true rfl, Nat.le_of_ble_eq_true rfl⟩ hP hD hS hA ⟨rfl, rfl⟩ rfl [1, 2, 3, 4, 5] [0] rfl rfl rfl (by decide) (by decide) hl.1 rfl (Nat.le_of_ble_eq_true rfl) rfl rfl rfl dX8_corner_102 (fun H locs hP hD hS => ?_)
    obtain ⟨hP, hD⟩ := x_perm (ws' := wSPo x ++ wFig (fun j => x (1 + j)) cy F) hP hD [0, 1, 2, 3, 4, 5] (by decide) rfl rfl
    refine va_mabs hx hb (hml.trans hl.1.symm) hown (htg _ gw634) (htg _ gw383) (htg _ gw70) (htg _ gw384) (Nat.le_of_ble_eq_true rfl) (Nat.le_of_ble_eq_true rfl) (Nat.le_of_ble_eq_true rfl) (Nat.le_of_ble_eq_true rfl) dX8_corner_105 ?_
    obtain rfl := Option.some.inj h
    exact hE H locs 1 6 108 ls _ hP hD hS (by decide) (by decide) rfl ⟨_, rfl, rfl⟩ dX8_corner_108
  replace h := if_f h c18_4
  by_cases c18_5 : p3 = 5
  · replace h := if_t h c18_5
    refine lv_tableIn (tgt := 109) (off := 91) hx hb dX8_corner_18 (by rw [c18_5]; decide) (by rw [c18_5]; decide) (by rw [c18_5]; rfl) (by decide) ?_
    refine lv_aload_n hx hb dX8_corner_109 rfl (lv_at hl 1 rfl) ?_
    refine va_get (D := (dC, dI)) (ci := 3) (v := .ref (x 1)) (C := RX8) (T := TX8) (N := 7) hx hb htg inX8 hown hK hP 0 rfl rfl 0 (by decide) (htg _ gw192) (fun _ h9 => h9) rfl dX8_corner_110 ?_
    refine lv_iload hx hb dX8_corner_113 (lv_at hl 0 rfl) ?_
    obtain ⟨v115, e115, h⟩ := bnd h
    refine cV (av := [.int v12]) (rest := []) (st1 := [.int v115]) (k1 := 1) (k2 := 6) (ci := 0) (q0 := 0) hx hb hml hown htg hN hK (c_X1_stepsOfSide l dC dI cy (fun j => x (1 + j)) F v12 v115 e115) (g_V gw635 gw548 gw549 gw60 gw550) hdV_X1_stepsOfSide rfl ⟨⟨Nat.le_of_ble_eq_true rfl, Nat.le_of_ble_eq_true rfl⟩, Nat.le_of_ble_eq_true rfl, Nat.le_of_ble_eq_true rfl⟩ hP hD hS hA ⟨rfl, rfl⟩ rfl [1, 2, 3, 4, 5] [0] rfl rfl rfl (by decide) (by decide) hl.1 rfl (Nat.le_of_ble_eq_true rfl) rfl rfl rfl dX8_corner_115 (fun H locs hP hD hS => ?_)
    obtain ⟨hP, hD⟩ := x_perm (ws' := wSPo x ++ wFig (fun j => x (1 + j)) cy F) hP hD [0, 1, 2, 3, 4, 5] (by decide) rfl rfl
    obtain rfl := Option.some.inj h
    exact hE H locs 1 6 118 ls _ hP hD hS (by decide) (by decide) rfl ⟨_, rfl, rfl⟩ dX8_corner_118
  replace h := if_f h c18_5
  refine lv_tableOut (tgt := 119) hx hb dX8_corner_18 (x_tout0_5 c18_0 c18_1 c18_2 c18_3 c18_4 c18_5) (by decide) ?_
  obtain rfl := Option.some.inj h
  exact hT H locs 1 6 119 ls 56 148 60 2 "what is not 0 to 5" hP hD hS (by decide) (by decide) (by decide) (by decide) rfl rfl hl.1 (by decide +kernel) gw434 gw67 exat_2 exgo_2 (by decide +kernel) dX8_corner_119 dX8_corner_122 (Or.inl ⟨dX8_corner_123, dX8_corner_125, dX8_corner_128⟩)
def G_X8_cut (F : Fig) (p1 : Int32) : Option ((Sum Nat Int32)) :=
  (G_X8_checkCorner F 0 p1).bind fun v3 =>
  match v3 with
  | .inl k3 => some (.inl k3)
  | .inr _ =>
    (G_X6_isEar F p1).bind fun v11 =>
    if v11 = 0 then
      some (.inr (-9))
    else
      (G_X1_bendAt F 0 p1).bind fun v23 =>
      some (.inr (if 0 ≤ v23 then v23 else 0 - v23))
abbrev rm_X8_cut : Room := { frames := 7, cells := 1, slots := 6, locals := 122 }
theorem hdS_X8_cut : yX8_cut.cls ≠ "java/lang/invoke/MethodHandle" ∧ yX8_cut.cls ≠ "java/lang/invoke/VarHandle" ∧ (parseMethodDescriptor yX8_cut.desc).map (fun d => d.parameters.length) = some 1 := by decide +kernel
theorem hdV_X8_cut : yX8_cut.cls = RX8 ∧ yX8_cut.cls ≠ "java/lang/invoke/MethodHandle" ∧ yX8_cut.cls ≠ "java/lang/invoke/VarHandle" ∧ (parseMethodDescriptor yX8_cut.desc).map (fun d => d.parameters.length) = some 1 := ⟨rfl, hdS_X8_cut⟩
set_option maxHeartbeats 4000000 in
set_option maxRecDepth 100000 in
theorem c_X8_cut (l : Launch) (dC : Nat → ClassId) (dI : Nat → Nat → Nat) (cy : Nat → ClassId) (hlt : l.stackTraces = false) (x : Nat → Nat) (F : Fig) (p1 : Int32) (res : (Sum Nat Int32)) (h : G_X8_cut F p1 = some res) : CTX l (dC, dI) (TY cy) yX8_cut cX8_cut 2 (some .int) rm_X8_cut [.ref (x 0), .int p1] (wSPo x ++ wFig (fun j => x (1 + j)) cy F) (wSPo x ++ wFig (fun j => x (1 + j)) cy F) (oI res) := by
  refine CTX.mk (own := RX8) hlt ⟨by decide, rfl⟩ (Nat.le_of_ble_eq_true rfl) ?_
  intro p e s mm args below meth cd A Q hx hb hml hown htg hN hK hX0 hA hP hD hS hE hV hT hO ls hl
  have hl : lv_has ls 2 [(0, .ref (x 0)), (1, .int p1)] := hl
  replace h : _ = some res := h
  unfold G_X8_cut at h
  obtain ⟨H, hH⟩ : ∃ H, H = s.heap := ⟨_, rfl⟩
  obtain ⟨locs, hlocs⟩ : ∃ locs : List Loc, locs = [] := ⟨_, rfl⟩
  rw [← hlocs] at hS ⊢
  have hS : va_S A s.heap H locs := by rw [hH]; exact hS
  rw [← hH] at hP ⊢
  refine lv_aload_n hx hb dX8_cut_0 rfl (lv_at hl 0 rfl) ?_
  refine lv_iconst (v := 0) hx hb dX8_cut_1 (by decide) ?_
  refine lv_iload_n hx hb dX8_cut_2 rfl (lv_at hl 1 rfl) ?_
  obtain ⟨v3, e3, h⟩ := bnd h
  rcases hv3 : v3 with k3 | u3
  · simp only [hv3] at h
    refine cXV (av := [.int 0, .int p1]) (rest := []) (k1 := 1) (k2 := 6) (ci := 3) (q0 := 0) hx hb hml hown htg hN hK hX0 (c_X8_checkCorner l dC dI cy hlt x F 0 p1 v3 e3) (g_V gw620 gw622 gw5 gw59 gw623) hdV_X8_checkCorner rfl ⟨⟨Nat.le_of_ble_eq_true rfl, Nat.le_of_ble_eq_true rfl⟩, Nat.le_of_ble_eq_true rfl, Nat.le_of_ble_eq_true rfl⟩ hP hD hS hA ⟨rfl, rfl⟩ rfl [0, 1, 2, 3, 4, 5] [] rfl rfl rfl (by decide) (by decide) hl.1 rfl (Nat.le_of_ble_eq_true rfl) rfl rfl dX8_cut_3 (fun H locs ret ho hP hD hS => ?_) (fun H locs k q ce ho hP hD hS h1 h2 h3 => ?_)
    · rw [hv3] at ho; cases ho
    rw [hv3] at ho
    obtain rfl := Sum.inl.inj ho
    have hP : va_P (dC, dI) vwCl (wSPo x ++ wFig (fun j => x (1 + j)) cy F) H := hP
    have hD : va_D A (wSPo x ++ wFig (fun j => x (1 + j)) cy F) := hD
    obtain rfl := Option.some.inj h
    exact hO H locs 1 6 3 ls _ _ q ce hP hD hS (by decide) (by decide) rfl h1 h2 h3
  simp only [hv3] at h
  refine cXV (av := [.int 0, .int p1]) (rest := []) (k1 := 1) (k2 := 6) (ci := 3) (q0 := 0) hx hb hml hown htg hN hK hX0 (c_X8_checkCorner l dC dI cy hlt x F 0 p1 v3 e3) (g_V gw620 gw622 gw5 gw59 gw623) hdV_X8_checkCorner rfl ⟨⟨Nat.le_of_ble_eq_true rfl, Nat.le_of_ble_eq_true rfl⟩, Nat.le_of_ble_eq_true rfl, Nat.le_of_ble_eq_true rfl⟩ hP hD hS hA ⟨rfl, rfl⟩ rfl [0, 1, 2, 3, 4, 5] [] rfl rfl rfl (by decide) (by decide) hl.1 rfl (Nat.le_of_ble_eq_true rfl) rfl rfl dX8_cut_3 (fun H locs ret ho hP hD hS => ?_) (fun H locs k q ce ho hP hD hS h1 h2 h3 => ?_)
  rotate_left
  · rw [hv3] at ho; cases ho
  rw [hv3] at ho
  obtain rfl := Sum.inr.inj ho
  have hP : va_P (dC, dI) vwCl (wSPo x ++ wFig (fun j => x (1 + j)) cy F) H := hP
  have hD : va_D A (wSPo x ++ wFig (fun j => x (1 + j)) cy F) := hD
  refine W.eq (g2 := F0 mm 6 ls []) rfl ?_
  refine lv_aload_n hx hb dX8_cut_6 rfl (lv_at hl 0 rfl) ?_
  refine va_get (D := (dC, dI)) (ci := 3) (v := .ref (x 1)) (C := RX8) (T := TX8) (N := 7) hx hb htg inX8 hown hK hP 0 rfl rfl 0 (by decide) (htg _ gw192) (fun _ h9 => h9) rfl dX8_cut_7 ?_
  refine lv_iload_n hx hb dX8_cut_10 rfl (lv_at hl 1 rfl) ?_
  obtain ⟨v11, e11, h⟩ := bnd h
  refine cS (av := [.ref (x 1), .int p1]) (rest := []) (st1 := [.int v11]) (k1 := 1) (k2 := 6) hx hb hml hown htg hN hK (c_X6_isEar l dC dI cy (fun j => x (1 + j)) F p1 v11 e11) (g_S gw771 gw558 gw73 gw559) hdS_X6_isEar rfl ⟨⟨Nat.le_of_ble_eq_true rfl, Nat.le_of_ble_eq_true rfl⟩, Nat.le_of_ble_eq_true rfl, Nat.le_of_ble_eq_true rfl⟩ hP hD hS hA [1, 2, 3, 4, 5] [0] rfl rfl rfl (by decide) (by decide) hl.1 rfl (Nat.le_of_ble_eq_true rfl) rfl rfl rfl dX8_cut_11 (fun H locs hP hD hS => ?_)
  obtain ⟨hP, hD⟩ := x_perm (ws' := wSPo x ++ wFig (fun j => x (1 + j)) cy F) hP hD [0, 1, 2, 3, 4, 5] (by decide) rfl rfl
  refine lv_if_eq (tgt := 32) hx hb dX8_cut_14 (by decide) (fun c14 => ?_) (fun c14 => ?_)
  · replace h := if_t h c14
    refine lv_bipush (v := (-9)) hx hb dX8_cut_32 (by decide) ?_
    obtain rfl := Option.some.inj h
    exact hE H locs 1 6 34 ls _ hP hD hS (by decide) (by decide) rfl ⟨_, rfl, rfl⟩ dX8_cut_34
  replace h := if_f h c14
  refine lv_aload_n hx hb dX8_cut_17 rfl (lv_at hl 0 rfl) ?_
  refine va_get (D := (dC, dI)) (ci := 3) (v := .ref (x 1)) (C := RX8) (T := TX8) (N := 7) hx hb htg inX8 hown hK hP 0 rfl rfl 0 (by decide) (htg _ gw192) (fun _ h9 => h9) rfl dX8_cut_18 ?_
  refine lv_iconst (v := 0) hx hb dX8_cut_21 (by decide) ?_
  refine lv_iload_n hx hb dX8_cut_22 rfl (lv_at hl 1 rfl) ?_
  obtain ⟨v23, e23, h⟩ := bnd h
  refine cV (av := [.int 0, .int p1]) (rest := []) (st1 := [.int v23]) (k1 := 1) (k2 := 6) (ci := 0) (q0 := 0) hx hb hml hown htg hN hK (c_X1_bendAt l dC dI cy (fun j => x (1 + j)) F 0 p1 v23 e23) (g_V gw633 gw396 gw397 gw60 gw398) hdV_X1_bendAt rfl ⟨⟨Nat.le_of_ble_eq_true rfl, Nat.le_of_ble_eq_true rfl⟩, Nat.le_of_ble_eq_true rfl, Nat.le_of_ble_eq_true rfl⟩ hP hD hS hA ⟨rfl, rfl⟩ rfl [1, 2, 3, 4, 5] [0] rfl rfl rfl (by decide) (by decide) hl.1 rfl (Nat.le_of_ble_eq_true rfl) rfl rfl rfl dX8_cut_23 (fun H locs hP hD hS => ?_)
  obtain ⟨hP, hD⟩ := x_perm (ws' := wSPo x ++ wFig (fun j => x (1 + j)) cy F) hP hD [0, 1, 2, 3, 4, 5] (by decide) rfl rfl
  refine va_mabs hx hb (hml.trans hl.1.symm) hown (htg _ gw634) (htg _ gw383) (htg _ gw70) (htg _ gw384) (Nat.le_of_ble_eq_true rfl) (Nat.le_of_ble_eq_true rfl) (Nat.le_of_ble_eq_true rfl) (Nat.le_of_ble_eq_true rfl) dX8_cut_26 ?_
  refine lv_goto (tgt := 34) hx hb dX8_cut_29 (by decide) ?_
  obtain rfl := Option.some.inj h
  exact hE H locs 1 6 34 ls _ hP hD hS (by decide) (by decide) rfl ⟨_, rfl, rfl⟩ dX8_cut_34
def G_X8_cuttings (F : Fig) (WY : Nat → Int32) : Option (Int32 × (Nat → Int32)) :=
  if 1 < f_rings F then
    some ((-9), WY)
  else
    (G_X2_outlineCorners F 0).bind fun v16 =>
    if v16 ≤ 0 then
      (G_X6_triangulations 100 F WY).bind fun v33 =>
      some (v33.1, v33.2)
    else
      some ((-9), WY)
abbrev rm_X8_cuttings : Room := { frames := 6, cells := 0, slots := 0, locals := 151 }
theorem hdS_X8_cuttings : yX8_cuttings.cls ≠ "java/lang/invoke/MethodHandle" ∧ yX8_cuttings.cls ≠ "java/lang/invoke/VarHandle" ∧ (parseMethodDescriptor yX8_cuttings.desc).map (fun d => d.parameters.length) = some 0 := by decide +kernel
theorem hdV_X8_cuttings : yX8_cuttings.cls = RX8 ∧ yX8_cuttings.cls ≠ "java/lang/invoke/MethodHandle" ∧ yX8_cuttings.cls ≠ "java/lang/invoke/VarHandle" ∧ (parseMethodDescriptor yX8_cuttings.desc).map (fun d => d.parameters.length) = some 0 := ⟨rfl, hdS_X8_cuttings⟩
set_option maxHeartbeats 4000000 in
set_option maxRecDepth 100000 in
theorem c_X8_cuttings (l : Launch) (dC : Nat → ClassId) (dI : Nat → Nat → Nat) (cy : Nat → ClassId) (x : Nat → Nat) (F : Fig) (WY : Nat → Int32) (res : Int32 × (Nat → Int32)) (h : G_X8_cuttings F WY = some res) : CT l (dC, dI) (TY cy) yX8_cuttings cX8_cuttings 1 (some .int) rm_X8_cuttings [.ref (x 0)] (wSPo x ++ wFig (fun j => x (1 + j)) cy F ++ wIA (x 97) cy 100 WY) (wSPo x ++ wFig (fun j => x (1 + j)) cy F ++ wIA (x 97) cy 100 res.2) (some (.int res.1)) := by
  refine CT.mk_i (own := RX8) ⟨by decide, rfl⟩ (Nat.le_of_ble_eq_true rfl) ?_
  intro p e s mm args below meth cd A Q hx hb hml hown htg hN hK hA hP hD hS hE ls hl
  have hl : lv_has ls 1 [(0, .ref (x 0))] := hl
  replace h : _ = some res := h
  unfold G_X8_cuttings at h
  obtain ⟨H, hH⟩ : ∃ H, H = s.heap := ⟨_, rfl⟩
  obtain ⟨locs, hlocs⟩ : ∃ locs : List Loc, locs = [] := ⟨_, rfl⟩
  rw [← hlocs] at hS ⊢
  have hS : va_S A s.heap H locs := by rw [hH]; exact hS
  rw [← hH] at hP ⊢
  refine lv_aload_n hx hb dX8_cuttings_0 rfl (lv_at hl 0 rfl) ?_
  refine va_get (D := (dC, dI)) (ci := 3) (v := .ref (x 1)) (C := RX8) (T := TX8) (N := 7) hx hb htg inX8 hown hK hP 0 rfl rfl 0 (by decide) (htg _ gw192) (fun _ h9 => h9) rfl dX8_cuttings_1 ?_
  refine va_getN (D := (dC, dI)) (ci := 0) (v := .int (f_rings F)) (C := RX1) (T := TX1) (N := 6) hx hb htg inX1 hown hK hP 1 rfl rfl 0 (by decide) (va_Nw.use rfl (hN (.fieldLinkNest RX8 89 "SquaredPaper$Figure" "rings" "I" "SquaredPaper") (by decide +kernel))) (fun _ h9 => h9) rfl dX8_cuttings_4 ?_
  refine lv_iconst (v := 1) hx hb dX8_cuttings_7 (by decide) ?_
  refine lv_icmp_gt (tgt := 22) hx hb dX8_cuttings_8 (by decide) (fun c8 => ?_) (fun c8 => ?_)
  · replace h := if_t h c8
    refine lv_bipush (v := (-9)) hx hb dX8_cuttings_22 (by decide) ?_
    obtain rfl := Option.some.inj h
    exact hE H locs 24 ls _ hP hD hS rfl dX8_cuttings_24
  replace h := if_f h c8
  refine lv_aload_n hx hb dX8_cuttings_11 rfl (lv_at hl 0 rfl) ?_
  refine va_get (D := (dC, dI)) (ci := 3) (v := .ref (x 1)) (C := RX8) (T := TX8) (N := 7) hx hb htg inX8 hown hK hP 0 rfl rfl 0 (by decide) (htg _ gw192) (fun _ h9 => h9) rfl dX8_cuttings_12 ?_
  refine lv_iconst (v := 0) hx hb dX8_cuttings_15 (by decide) ?_
  obtain ⟨v16, e16, h⟩ := bnd h
  refine cS (av := [.ref (x 1), .int 0]) (rest := []) (st1 := [.int v16]) (k1 := 0) (k2 := 0) hx hb hml hown htg hN hK (c_X2_outlineCorners l dC dI cy (fun j => x (1 + j)) F 0 v16 e16) (g_S gw389 gw390 gw72 gw391) hdS_X2_outlineCorners rfl ⟨⟨Nat.le_of_ble_eq_true rfl, Nat.le_of_ble_eq_true rfl⟩, Nat.le_of_ble_eq_true rfl, Nat.le_of_ble_eq_true rfl⟩ hP hD hS hA [1, 2, 3, 4, 5] [0, 6] rfl rfl rfl (by decide) (by decide) hl.1 rfl (Nat.le_of_ble_eq_true rfl) rfl rfl rfl dX8_cuttings_16 (fun H locs hP hD hS => ?_)
  obtain ⟨hP, hD⟩ := x_perm (ws' := wSPo x ++ wFig (fun j => x (1 + j)) cy F ++ wIA (x 97) cy 100 WY) hP hD [0, 2, 3, 4, 5, 6, 1] (by decide) rfl rfl
  refine lv_if_le (tgt := 25) hx hb dX8_cuttings_19 (by decide) (fun c19 => ?_) (fun c19 => ?_)
  · replace h := if_t h c19
    refine lv_aload_n hx hb dX8_cuttings_25 rfl (lv_at hl 0 rfl) ?_
    refine va_get (D := (dC, dI)) (ci := 3) (v := .ref (x 1)) (C := RX8) (T := TX8) (N := 7) hx hb htg inX8 hown hK hP 0 rfl rfl 0 (by decide) (htg _ gw192) (fun _ h9 => h9) rfl dX8_cuttings_26 ?_
    refine lv_aload_n hx hb dX8_cuttings_29 rfl (lv_at hl 0 rfl) ?_
    refine va_get (D := (dC, dI)) (ci := 3) (v := .ref (x 97)) (C := RX8) (T := TX8) (N := 7) hx hb htg inX8 hown hK hP 0 rfl rfl 6 (by decide) (htg _ gw198) (fun _ h9 => h9) rfl dX8_cuttings_30 ?_
    obtain ⟨v33, e33, h⟩ := bnd h
    refine cS (av := [.ref (x 1), .ref (x 97)]) (rest := []) (st1 := [.int v33.1]) (k1 := 0) (k2 := 0) hx hb hml hown htg hN hK (c_X6_triangulations l dC dI cy (fun j => x (1 + j)) (x 97) 100 F WY  v33 e33) (g_S gw403 gw404 gw73 gw405) hdS_X6_triangulations rfl ⟨⟨Nat.le_of_ble_eq_true rfl, Nat.le_of_ble_eq_true rfl⟩, Nat.le_of_ble_eq_true rfl, Nat.le_of_ble_eq_true rfl⟩ hP hD hS hA [1, 2, 3, 4, 5, 6] [0] rfl rfl rfl (by decide) (by decide) hl.1 rfl (Nat.le_of_ble_eq_true rfl) rfl rfl rfl dX8_cuttings_33 (fun H locs hP hD hS => ?_)
    obtain ⟨hP, hD⟩ := x_perm (ws' := wSPo x ++ wFig (fun j => x (1 + j)) cy F ++ wIA (x 97) cy 100 v33.2) hP hD [0, 1, 2, 3, 4, 5, 6] (by decide) rfl rfl
    obtain rfl := Option.some.inj h
    exact hE H locs 36 ls _ hP hD hS rfl dX8_cuttings_36
  replace h := if_f h c19
  refine lv_bipush (v := (-9)) hx hb dX8_cuttings_22 (by decide) ?_
  obtain rfl := Option.some.inj h
  exact hE H locs 24 ls _ hP hD hS rfl dX8_cuttings_24
def G_X8_dropHole (F : Fig) (D : Fig) (P : PastS) (p1 : Int32) : Option ((Sum Nat Int32) × Fig × Fig × PastS) :=
  (G_X8_checkRing F p1).bind fun v2 =>
  match v2 with
  | .inl k2 => some (.inl k2, F, D, P)
  | .inr _ =>
    if p1 = 0 then
      some (.inl 3, F, D, P)
    else
      (G_X1_copyFrom D F).bind fun v27 =>
      (G_X1_dropRing v27 p1).bind fun v35 =>
      (G_X8_keepDraft F v35 P).bind fun v39 =>
      (G_X2_area v39.1).bind fun v46 =>
      some (.inr v46, v39.1, v35, v39.2)
abbrev rm_X8_dropHole : Room := { frames := 7, cells := 2, slots := 12, locals := 110 }
theorem hdS_X8_dropHole : yX8_dropHole.cls ≠ "java/lang/invoke/MethodHandle" ∧ yX8_dropHole.cls ≠ "java/lang/invoke/VarHandle" ∧ (parseMethodDescriptor yX8_dropHole.desc).map (fun d => d.parameters.length) = some 1 := by decide +kernel
theorem hdV_X8_dropHole : yX8_dropHole.cls = RX8 ∧ yX8_dropHole.cls ≠ "java/lang/invoke/MethodHandle" ∧ yX8_dropHole.cls ≠ "java/lang/invoke/VarHandle" ∧ (parseMethodDescriptor yX8_dropHole.desc).map (fun d => d.parameters.length) = some 1 := ⟨rfl, hdS_X8_dropHole⟩
set_option maxHeartbeats 4000000 in
set_option maxRecDepth 100000 in
theorem c_X8_dropHole (l : Launch) (dC : Nat → ClassId) (dI : Nat → Nat → Nat) (cy : Nat → ClassId) (hlt : l.stackTraces = false) (x : Nat → Nat) (F : Fig) (D : Fig) (P : PastS) (p1 : Int32) (res : (Sum Nat Int32) × Fig × Fig × PastS) (h : G_X8_dropHole F D P p1 = some res) : CTX l (dC, dI) (TY cy) yX8_dropHole cX8_dropHole 2 (some .int) rm_X8_dropHole [.ref (x 0), .int p1] (wSPo x ++ wFig (fun j => x (1 + j)) cy F ++ wFig (fun j => x (6 + j)) cy D ++ wP2 (fun j => x (11 + j)) cy P ++ wPF (fun j => x (11 + j)) cy (p_figs P)) (wSPo x ++ wFig (fun j => x (1 + j)) cy res.2.1 ++ wFig (fun j => x (6 + j)) cy res.2.2.1 ++ wP2 (fun j => x (11 + j)) cy res.2.2.2 ++ wPF (fun j => x (11 + j)) cy (p_figs res.2.2.2)) (oI res.1) := by
  refine CTX.mk (own := RX8) hlt ⟨by decide, rfl⟩ (Nat.le_of_ble_eq_true rfl) ?_
  intro p e s mm args below meth cd A Q hx hb hml hown htg hN hK hX0 hA hP hD hS hE hV hT hO ls hl
  have hl : lv_has ls 2 [(0, .ref (x 0)), (1, .int p1)] := hl
  replace h : _ = some res := h
  unfold G_X8_dropHole at h
  obtain ⟨H, hH⟩ : ∃ H, H = s.heap := ⟨_, rfl⟩
  obtain ⟨locs, hlocs⟩ : ∃ locs : List Loc, locs = [] := ⟨_, rfl⟩
  rw [← hlocs] at hS ⊢
  have hS : va_S A s.heap H locs := by rw [hH]; exact hS
  rw [← hH] at hP ⊢
  refine lv_aload_n hx hb dX8_dropHole_0 rfl (lv_at hl 0 rfl) ?_
  refine lv_iload_n hx hb dX8_dropHole_1 rfl (lv_at hl 1 rfl) ?_
  obtain ⟨v2, e2, h⟩ := bnd h
  rcases hv2 : v2 with k2 | u2
  · simp only [hv2] at h
    refine cXVp (av := [.int p1]) (rest := []) (k1 := 1) (k2 := 6) (wn := wSPo x ++ wFig (fun j => x (1 + j)) cy F ++ wFig (fun j => x (6 + j)) cy D ++ wP2 (fun j => x (11 + j)) cy P ++ wPF (fun j => x (11 + j)) cy (p_figs P)) (ci := 3) (q0 := 0) hx hb hml hown htg hN hK hX0 (c_X8_checkRing l dC dI cy hlt x F p1 v2 e2) (g_V gw582 gw584 gw4 gw59 gw585) hdV_X8_checkRing rfl ⟨⟨Nat.le_of_ble_eq_true rfl, Nat.le_of_ble_eq_true rfl⟩, Nat.le_of_ble_eq_true rfl, Nat.le_of_ble_eq_true rfl⟩ hP hD hS hA ⟨rfl, rfl⟩ rfl (perm_N (perm_ix 13 [0, 1, 2, 3, 4, 5] [6, 7, 8, 9, 10, 11, 12] rfl rfl rfl (by decide))) (perm_Nb (perm_ix 13 [6, 7, 8, 9, 10, 11, 12] [0, 1, 2, 3, 4, 5] rfl rfl rfl (by decide))) hl.1 rfl (Nat.le_of_ble_eq_true rfl) rfl rfl dX8_dropHole_2 (fun H locs ret ho hP hD hS => ?_) (fun H locs k q ce ho hP hD hS h1 h2 h3 => ?_)
    · rw [hv2] at ho; cases ho
    rw [hv2] at ho
    obtain rfl := Sum.inl.inj ho
    obtain rfl := Option.some.inj h
    exact hO H locs 1 6 2 ls _ _ q ce hP hD hS (by decide) (by decide) rfl h1 h2 h3
  simp only [hv2] at h
  refine cXVp (av := [.int p1]) (rest := []) (k1 := 1) (k2 := 6) (wn := wSPo x ++ wFig (fun j => x (1 + j)) cy F ++ wFig (fun j => x (6 + j)) cy D ++ wP2 (fun j => x (11 + j)) cy P ++ wPF (fun j => x (11 + j)) cy (p_figs P)) (ci := 3) (q0 := 0) hx hb hml hown htg hN hK hX0 (c_X8_checkRing l dC dI cy hlt x F p1 v2 e2) (g_V gw582 gw584 gw4 gw59 gw585) hdV_X8_checkRing rfl ⟨⟨Nat.le_of_ble_eq_true rfl, Nat.le_of_ble_eq_true rfl⟩, Nat.le_of_ble_eq_true rfl, Nat.le_of_ble_eq_true rfl⟩ hP hD hS hA ⟨rfl, rfl⟩ rfl (perm_N (perm_ix 13 [0, 1, 2, 3, 4, 5] [6, 7, 8, 9, 10, 11, 12] rfl rfl rfl (by decide))) (perm_Nb (perm_ix 13 [6, 7, 8, 9, 10, 11, 12] [0, 1, 2, 3, 4, 5] rfl rfl rfl (by decide))) hl.1 rfl (Nat.le_of_ble_eq_true rfl) rfl rfl dX8_dropHole_2 (fun H locs ret ho hP hD hS => ?_) (fun H locs k q ce ho hP hD hS h1 h2 h3 => ?_)
  rotate_left
  · rw [hv2] at ho; cases ho
  rw [hv2] at ho
  obtain rfl := Sum.inr.inj ho
  refine W.eq (g2 := F0 mm 5 ls []) rfl ?_
  refine lv_iload_n hx hb dX8_dropHole_5 rfl (lv_at hl 1 rfl) ?_
  refine lv_if_ne (tgt := 19) hx hb dX8_dropHole_6 (by decide) (fun c6 => ?_) (fun c6 => ?_)
  · replace h := if_f h c6
    refine lv_aload_n hx hb dX8_dropHole_19 rfl (lv_at hl 0 rfl) ?_
    refine va_get (D := (dC, dI)) (ci := 3) (v := .ref (x 6)) (C := RX8) (T := TX8) (N := 7) hx hb htg inX8 hown hK hP 0 rfl rfl 1 (by decide) (htg _ gw193) (fun _ h9 => h9) rfl dX8_dropHole_20 ?_
    refine lv_aload_n hx hb dX8_dropHole_23 rfl (lv_at hl 0 rfl) ?_
    refine va_get (D := (dC, dI)) (ci := 3) (v := .ref (x 1)) (C := RX8) (T := TX8) (N := 7) hx hb htg inX8 hown hK hP 0 rfl rfl 0 (by decide) (htg _ gw192) (fun _ h9 => h9) rfl dX8_dropHole_24 ?_
    obtain ⟨v27, e27, h⟩ := bnd h
    refine cVp (av := [.ref (x 1)]) (rest := []) (st1 := []) (k1 := 1) (k2 := 6) (wn := wSPo x ++ wFig (fun j => x (1 + j)) cy F ++ wFig (fun j => x (6 + j)) cy v27 ++ wP2 (fun j => x (11 + j)) cy P ++ wPF (fun j => x (11 + j)) cy (p_figs P)) (ci := 0) (q0 := 0) hx hb hml hown htg hN hK (c_X1_copyFrom l dC dI cy (fun j => x (6 + j)) (fun j => x (1 + j)) D F  v27 e27) (g_V gw313 gw314 gw315 gw60 gw316) hdV_X1_copyFrom rfl ⟨⟨Nat.le_of_ble_eq_true rfl, Nat.le_of_ble_eq_true rfl⟩, Nat.le_of_ble_eq_true rfl, Nat.le_of_ble_eq_true rfl⟩ hP hD hS hA ⟨rfl, rfl⟩ rfl (perm_N (perm_ix 13 [6, 7, 8, 9, 10, 1, 2, 3, 4, 5] [0, 11, 12] rfl rfl rfl (by decide))) (perm_Nb (perm_ix 13 [0, 11, 12] [6, 7, 8, 9, 10, 1, 2, 3, 4, 5] rfl rfl rfl (by decide))) hl.1 rfl (Nat.le_of_ble_eq_true rfl) rfl rfl rfl dX8_dropHole_27 (fun H locs hP hD hS => ?_)
    refine lv_aload_n hx hb dX8_dropHole_30 rfl (lv_at hl 0 rfl) ?_
    refine va_get (D := (dC, dI)) (ci := 3) (v := .ref (x 6)) (C := RX8) (T := TX8) (N := 7) hx hb htg inX8 hown hK hP 0 rfl rfl 1 (by decide) (htg _ gw193) (fun _ h9 => h9) rfl dX8_dropHole_31 ?_
    refine lv_iload_n hx hb dX8_dropHole_34 rfl (lv_at hl 1 rfl) ?_
    obtain ⟨v35, e35, h⟩ := bnd h
    refine cVp (av := [.int p1]) (rest := []) (st1 := []) (k1 := 1) (k2 := 6) (wn := wSPo x ++ wFig (fun j => x (1 + j)) cy F ++ wFig (fun j => x (6 + j)) cy v35 ++ wP2 (fun j => x (11 + j)) cy P ++ wPF (fun j => x (11 + j)) cy (p_figs P)) (ci := 0) (q0 := 0) hx hb hml hown htg hN hK (c_X1_dropRing l dC dI cy (fun j => x (6 + j)) v27 p1 v35 e35) (g_V gw722 gw723 gw724 gw60 gw725) hdV_X1_dropRing rfl ⟨⟨Nat.le_of_ble_eq_true rfl, Nat.le_of_ble_eq_true rfl⟩, Nat.le_of_ble_eq_true rfl, Nat.le_of_ble_eq_true rfl⟩ hP hD hS hA ⟨rfl, rfl⟩ rfl (perm_N (perm_ix 13 [6, 7, 8, 9, 10] [0, 1, 2, 3, 4, 5, 11, 12] rfl rfl rfl (by decide))) (perm_Nb (perm_ix 13 [0, 1, 2, 3, 4, 5, 11, 12] [6, 7, 8, 9, 10] rfl rfl rfl (by decide))) hl.1 rfl (Nat.le_of_ble_eq_true rfl) rfl rfl rfl dX8_dropHole_35 (fun H locs hP hD hS => ?_)
    refine lv_aload_n hx hb dX8_dropHole_38 rfl (lv_at hl 0 rfl) ?_
    obtain ⟨v39, e39, h⟩ := bnd h
    refine cVp (av := []) (rest := []) (st1 := []) (k1 := 1) (k2 := 6) (wn := wSPo x ++ wFig (fun j => x (1 + j)) cy v39.1 ++ wFig (fun j => x (6 + j)) cy v35 ++ wP2 (fun j => x (11 + j)) cy v39.2 ++ wPF (fun j => x (11 + j)) cy (p_figs v39.2)) (ci := 3) (q0 := 0) hx hb hml hown htg hN hK (c_X8_keepDraft l dC dI cy x F v35 P  v39 e39) (g_V gw324 gw326 gw2 gw59 gw327) hdV_X8_keepDraft rfl ⟨⟨Nat.le_of_ble_eq_true rfl, Nat.le_of_ble_eq_true rfl⟩, Nat.le_of_ble_eq_true rfl, Nat.le_of_ble_eq_true rfl⟩ hP hD hS hA ⟨rfl, rfl⟩ rfl (perm_T (perm_ix 13 [0, 1, 2, 3, 4, 5, 6, 7, 8, 9, 10, 11, 12] [] rfl rfl rfl (by decide))) (perm_Tb (perm_ix 13 [] [0, 1, 2, 3, 4, 5, 6, 7, 8, 9, 10, 11, 12] rfl rfl rfl (by decide))) hl.1 rfl (Nat.le_of_ble_eq_true rfl) rfl rfl rfl dX8_dropHole_39 (fun H locs hP hD hS => ?_)
    refine lv_aload_n hx hb dX8_dropHole_42 rfl (lv_at hl 0 rfl) ?_
    refine va_get (D := (dC, dI)) (ci := 3) (v := .ref (x 1)) (C := RX8) (T := TX8) (N := 7) hx hb htg inX8 hown hK hP 0 rfl rfl 0 (by decide) (htg _ gw192) (fun _ h9 => h9) rfl dX8_dropHole_43 ?_
    obtain ⟨v46, e46, h⟩ := bnd h
    refine cSp (av := [.ref (x 1)]) (rest := []) (st1 := [.int v46]) (k1 := 1) (k2 := 6) (wn := wSPo x ++ wFig (fun j => x (1 + j)) cy v39.1 ++ wFig (fun j => x (6 + j)) cy v35 ++ wP2 (fun j => x (11 + j)) cy v39.2 ++ wPF (fun j => x (11 + j)) cy (p_figs v39.2)) hx hb hml hown htg hN hK (c_X2_area l dC dI cy (fun j => x (1 + j)) v39.1  v46 e46) (g_S gw366 gw367 gw72 gw368) hdS_X2_area rfl ⟨⟨Nat.le_of_ble_eq_true rfl, Nat.le_of_ble_eq_true rfl⟩, Nat.le_of_ble_eq_true rfl, Nat.le_of_ble_eq_true rfl⟩ hP hD hS hA (perm_N (perm_ix 13 [1, 2, 3, 4, 5] [0, 6, 7, 8, 9, 10, 11, 12] rfl rfl rfl (by decide))) (perm_Nb (perm_ix 13 [0, 6, 7, 8, 9, 10, 11, 12] [1, 2, 3, 4, 5] rfl rfl rfl (by decide))) hl.1 rfl (Nat.le_of_ble_eq_true rfl) rfl rfl rfl dX8_dropHole_46 (fun H locs hP hD hS => ?_)
    obtain rfl := Option.some.inj h
    exact hE H locs 1 6 49 ls _ hP hD hS (by decide) (by decide) rfl ⟨_, rfl, rfl⟩ dX8_dropHole_49
  replace h := if_t h c6
  obtain rfl := Option.some.inj h
  exact hT H locs 1 6 9 ls 67 218 71 3 "the outline is no hole" hP hD hS (by decide) (by decide) (by decide) (by decide) rfl rfl hl.1 (by decide +kernel) gw502 gw68 exat_3 exgo_3 (by decide +kernel) dX8_dropHole_9 dX8_dropHole_12 (Or.inl ⟨dX8_dropHole_13, dX8_dropHole_15, dX8_dropHole_18⟩)
def G_X8_errorPosition (D : Fig) (T : TextS) : Option (Int32 × Fig) :=
  (G_X7_readInto T D).bind fun v8 =>
  some (v8.1, v8.2)
abbrev rm_X8_errorPosition : Room := { frames := 6, cells := 0, slots := 0, locals := 138 }
theorem hdS_X8_errorPosition : yX8_errorPosition.cls ≠ "java/lang/invoke/MethodHandle" ∧ yX8_errorPosition.cls ≠ "java/lang/invoke/VarHandle" ∧ (parseMethodDescriptor yX8_errorPosition.desc).map (fun d => d.parameters.length) = some 0 := by decide +kernel
theorem hdV_X8_errorPosition : yX8_errorPosition.cls = RX8 ∧ yX8_errorPosition.cls ≠ "java/lang/invoke/MethodHandle" ∧ yX8_errorPosition.cls ≠ "java/lang/invoke/VarHandle" ∧ (parseMethodDescriptor yX8_errorPosition.desc).map (fun d => d.parameters.length) = some 0 := ⟨rfl, hdS_X8_errorPosition⟩
set_option maxHeartbeats 4000000 in
set_option maxRecDepth 100000 in
theorem c_X8_errorPosition (l : Launch) (dC : Nat → ClassId) (dI : Nat → Nat → Nat) (cy : Nat → ClassId) (x : Nat → Nat) (D : Fig) (T : TextS) (res : Int32 × Fig) (h : G_X8_errorPosition D T = some res) : CT l (dC, dI) (TY cy) yX8_errorPosition cX8_errorPosition 1 (some .int) rm_X8_errorPosition [.ref (x 0)] (wSPo x ++ wFig (fun j => x (6 + j)) cy D ++ wText (fun j => x (95 + j)) cy T) (wSPo x ++ wFig (fun j => x (6 + j)) cy res.2 ++ wText (fun j => x (95 + j)) cy T) (some (.int res.1)) := by
  refine CT.mk_i (own := RX8) ⟨by decide, rfl⟩ (Nat.le_of_ble_eq_true rfl) ?_
  intro p e s mm args below meth cd A Q hx hb hml hown htg hN hK hA hP hD hS hE ls hl
  have hl : lv_has ls 1 [(0, .ref (x 0))] := hl
  replace h : _ = some res := h
  unfold G_X8_errorPosition at h
  obtain ⟨H, hH⟩ : ∃ H, H = s.heap := ⟨_, rfl⟩
  obtain ⟨locs, hlocs⟩ : ∃ locs : List Loc, locs = [] := ⟨_, rfl⟩
  rw [← hlocs] at hS ⊢
  have hS : va_S A s.heap H locs := by rw [hH]; exact hS
  rw [← hH] at hP ⊢
  refine lv_aload_n hx hb dX8_errorPosition_0 rfl (lv_at hl 0 rfl) ?_
  refine va_get (D := (dC, dI)) (ci := 3) (v := .ref (x 95)) (C := RX8) (T := TX8) (N := 7) hx hb htg inX8 hown hK hP 0 rfl rfl 5 (by decide) (htg _ gw197) (fun _ h9 => h9) rfl dX8_errorPosition_1 ?_
  refine lv_aload_n hx hb dX8_errorPosition_4 rfl (lv_at hl 0 rfl) ?_
  refine va_get (D := (dC, dI)) (ci := 3) (v := .ref (x 6)) (C := RX8) (T := TX8) (N := 7) hx hb htg inX8 hown hK hP 0 rfl rfl 1 (by decide) (htg _ gw193) (fun _ h9 => h9) rfl dX8_errorPosition_5 ?_
  obtain ⟨v8, e8, h⟩ := bnd h
  refine cV (av := [.ref (x 6)]) (rest := []) (st1 := [.int v8.1]) (k1 := 0) (k2 := 0) (ci := 2) (q0 := 0) hx hb hml hown htg hN hK (c_X7_readInto l dC dI cy (fun j => x (95 + j)) (fun j => x (6 + j)) T D  v8 e8) (g_V gw222 gw223 gw224 gw62 gw225) hdV_X7_readInto rfl ⟨⟨Nat.le_of_ble_eq_true rfl, Nat.le_of_ble_eq_true rfl⟩, Nat.le_of_ble_eq_true rfl, Nat.le_of_ble_eq_true rfl⟩ hP hD hS hA ⟨rfl, rfl⟩ rfl [6, 7, 1, 2, 3, 4, 5] [0] rfl rfl rfl (by decide) (by decide) hl.1 rfl (Nat.le_of_ble_eq_true rfl) rfl rfl rfl dX8_errorPosition_8 (fun H locs hP hD hS => ?_)
  obtain ⟨hP, hD⟩ := x_perm (ws' := wSPo x ++ wFig (fun j => x (6 + j)) cy v8.2 ++ wText (fun j => x (95 + j)) cy T) hP hD [0, 3, 4, 5, 6, 7, 1, 2] (by decide) rfl rfl
  obtain rfl := Option.some.inj h
  exact hE H locs 11 ls _ hP hD hS rfl dX8_errorPosition_11
def G_X8_inRow_j64 (r26 : Int32 → Int32 → Int32 → Int32 → Option ((Sum Nat Int32))) (F : Fig) (l4_64 : Int32) (l3_64 : Int32) (l1_64 : Int32) (l2_64 : Int32) : Option ((Sum Nat Int32)) :=
  r26 (l4_64 + 1) l3_64 l1_64 l2_64
def G_X8_inRow_j61 (r26 : Int32 → Int32 → Int32 → Int32 → Option ((Sum Nat Int32))) (F : Fig) (l4_61 : Int32) (l3_61 : Int32) (l1_61 : Int32) (l2_61 : Int32) : Option ((Sum Nat Int32)) :=
  G_X8_inRow_j64 r26 F l4_61 (l3_61 + 1) l1_61 l2_61
def G_X8_inRow_L26  (F : Fig) : Nat → Int32 → Int32 → Int32 → Int32 → Option ((Sum Nat Int32))
  | 0, _, _, _, _ => none
  | n26 + 1, l4_26, l3_26, l1_26, l2_26 =>
    if 15 < l4_26 then
      some (.inr l3_26)
    else
      (G_X1_placeOf F l4_26 l1_26).bind fun v40 =>
      if v40 = 2 then
        G_X8_inRow_j61 (G_X8_inRow_L26 F n26) F l4_26 l3_26 l1_26 l2_26
      else
        if l2_26 = 0 then
          G_X8_inRow_j64 (G_X8_inRow_L26 F n26) F l4_26 l3_26 l1_26 l2_26
        else
          if v40 = 1 then
            G_X8_inRow_j61 (G_X8_inRow_L26 F n26) F l4_26 l3_26 l1_26 l2_26
          else
            G_X8_inRow_j64 (G_X8_inRow_L26 F n26) F l4_26 l3_26 l1_26 l2_26
def G_X8_inRow (F : Fig) (p1 : Int32) (p2 : Int32) : Option ((Sum Nat Int32)) :=
  (G_X8_inRange p1 0 15).bind fun v4 =>
  if v4 = 0 then
    some (.inl 2)
  else
    G_X8_inRow_L26 F FU 0 0 p1 p2
abbrev rm_X8_inRow : Room := { frames := 6, cells := 1, slots := 6, locals := 100 }
theorem hdS_X8_inRow : yX8_inRow.cls ≠ "java/lang/invoke/MethodHandle" ∧ yX8_inRow.cls ≠ "java/lang/invoke/VarHandle" ∧ (parseMethodDescriptor yX8_inRow.desc).map (fun d => d.parameters.length) = some 2 := by decide +kernel
theorem hdV_X8_inRow : yX8_inRow.cls = RX8 ∧ yX8_inRow.cls ≠ "java/lang/invoke/MethodHandle" ∧ yX8_inRow.cls ≠ "java/lang/invoke/VarHandle" ∧ (parseMethodDescriptor yX8_inRow.desc).map (fun d => d.parameters.length) = some 2 := ⟨rfl, hdS_X8_inRow⟩
set_option maxHeartbeats 4000000 in
set_option maxRecDepth 100000 in
theorem c_X8_inRow (l : Launch) (dC : Nat → ClassId) (dI : Nat → Nat → Nat) (cy : Nat → ClassId) (hlt : l.stackTraces = false) (x : Nat → Nat) (F : Fig) (p1 : Int32) (p2 : Int32) (res : (Sum Nat Int32)) (h : G_X8_inRow F p1 p2 = some res) : CTX l (dC, dI) (TY cy) yX8_inRow cX8_inRow 6 (some .int) rm_X8_inRow [.ref (x 0), .int p1, .int p2] (wSPo x ++ wFig (fun j => x (1 + j)) cy F) (wSPo x ++ wFig (fun j => x (1 + j)) cy F) (oI res) := by
  refine CTX.mk (own := RX8) hlt ⟨by decide, rfl⟩ (Nat.le_of_ble_eq_true rfl) ?_
  intro p e s mm args below meth cd A Q hx hb hml hown htg hN hK hX0 hA hP hD hS hE hV hT hO ls hl
  have hl : lv_has ls 6 [(0, .ref (x 0)), (1, .int p1), (2, .int p2)] := hl
  replace h : _ = some res := h
  unfold G_X8_inRow at h
  obtain ⟨H, hH⟩ : ∃ H, H = s.heap := ⟨_, rfl⟩
  obtain ⟨locs, hlocs⟩ : ∃ locs : List Loc, locs = [] := ⟨_, rfl⟩
  rw [← hlocs] at hS ⊢
  have hS : va_S A s.heap H locs := by rw [hH]; exact hS
  rw [← hH] at hP ⊢
  refine lv_iload_n hx hb dX8_inRow_0 rfl (lv_at hl 1 rfl) ?_
  refine lv_iconst (v := 0) hx hb dX8_inRow_1 (by decide) ?_
  refine lv_bipush (v := 15) hx hb dX8_inRow_2 (by decide) ?_
  obtain ⟨v4, e4, h⟩ := bnd h
  refine cS (av := [.int p1, .int 0, .int 15]) (rest := []) (st1 := [.int v4]) (k1 := 0) (k2 := 0) hx hb hml hown htg hN hK (c_X8_inRange l dC dI cy   p1 0 15 v4 e4) (g_S gw433 gw245 gw59 gw246) hdS_X8_inRange rfl ⟨⟨Nat.le_of_ble_eq_true rfl, Nat.le_of_ble_eq_true rfl⟩, Nat.le_of_ble_eq_true rfl, Nat.le_of_ble_eq_true rfl⟩ hP hD hS hA [] [0, 1, 2, 3, 4, 5] rfl rfl rfl (by decide) (by decide) hl.1 rfl (Nat.le_of_ble_eq_true rfl) rfl rfl rfl dX8_inRow_4 (fun H locs hP hD hS => ?_)
  obtain ⟨hP, hD⟩ := x_perm (ws' := wSPo x ++ wFig (fun j => x (1 + j)) cy F) hP hD [0, 1, 2, 3, 4, 5] (by decide) rfl rfl
  refine lv_if_ne (tgt := 21) hx hb dX8_inRow_7 (by decide) (fun c7 => ?_) (fun c7 => ?_)
  · replace h := if_f h c7
    refine lv_iconst (v := 0) hx hb dX8_inRow_21 (by decide) ?_
    refine lv_istore_n (lv' := [(3, .int 0), (0, .ref (x 0)), (1, .int p1), (2, .int p2)]) hx hb dX8_inRow_22 rfl hl (by decide) rfl (fun ls hl => ?_)
    refine lv_iconst (v := 0) hx hb dX8_inRow_23 (by decide) ?_
    refine lv_istore (lv' := [(4, .int 0), (3, .int 0), (0, .ref (x 0)), (1, .int p1), (2, .int p2)]) hx hb dX8_inRow_24 hl (by decide) rfl (fun ls hl => ?_)
    have hL26 : ∀ (n26 : Nat) (l4_26 : Int32) (l3_26 : Int32) (l1_26 : Int32) (l2_26 : Int32) (H : Heap) (locs : List Loc) (ls : Array Slot), G_X8_inRow_L26 F n26 l4_26 l3_26 l1_26 l2_26 = some res → va_P (dC, dI) vwCl (wSPo x ++ wFig (fun j => x (1 + j)) cy F) H → va_D A (wSPo x ++ wFig (fun j => x (1 + j)) cy F) → va_S A s.heap H locs → lv_has ls 6 [(4, .int l4_26), (3, .int l3_26), (0, .ref (x 0)), (1, .int l1_26), (2, .int l2_26)] → W p l e rm_X8_inRow s mm args below meth cd H locs 0 0 Q (F0 mm 26 ls []) := by
      intro n26
      induction n26 with
      | zero => intro l4_26 l3_26 l1_26 l2_26 H locs ls h; exact absurd h (by simp [G_X8_inRow_L26])
      | succ n26 ih26 =>
        intro l4_26 l3_26 l1_26 l2_26 H locs ls h hP hD hS hl
        rw [G_X8_inRow_L26] at h
        refine lv_iload hx hb dX8_inRow_26 (lv_at hl 0 rfl) ?_
        refine lv_bipush (v := 15) hx hb dX8_inRow_28 (by decide) ?_
        refine lv_icmp_gt (tgt := 70) hx hb dX8_inRow_30 (by decide) (fun c30 => ?_) (fun c30 => ?_)
        · replace h := if_t h c30
          refine lv_iload_n hx hb dX8_inRow_70 rfl (lv_at hl 1 rfl) ?_
          obtain rfl := Option.some.inj h
          exact hE H locs 0 0 71 ls _ hP hD hS (by decide) (by decide) rfl ⟨_, rfl, rfl⟩ dX8_inRow_71
        replace h := if_f h c30
        refine lv_aload_n hx hb dX8_inRow_33 rfl (lv_at hl 2 rfl) ?_
        refine va_get (D := (dC, dI)) (ci := 3) (v := .ref (x 1)) (C := RX8) (T := TX8) (N := 7) hx hb htg inX8 hown hK hP 0 rfl rfl 0 (by decide) (htg _ gw192) (fun _ h9 => h9) rfl dX8_inRow_34 ?_
        refine lv_iload hx hb dX8_inRow_37 (lv_at hl 0 rfl) ?_
        refine lv_iload_n hx hb dX8_inRow_39 rfl (lv_at hl 3 rfl) ?_
        obtain ⟨v40, e40, h⟩ := bnd h
        refine cV (av := [.int l4_26, .int l1_26]) (rest := []) (st1 := [.int v40]) (k1 := 0) (k2 := 0) (ci := 0) (q0 := 0) hx hb hml hown htg hN hK (c_X1_placeOf l dC dI cy (fun j => x (1 + j)) F l4_26 l1_26 v40 e40) (g_V gw644 gw645 gw646 gw60 gw647) hdV_X1_placeOf rfl ⟨⟨Nat.le_of_ble_eq_true rfl, Nat.le_of_ble_eq_true rfl⟩, Nat.le_of_ble_eq_true rfl, Nat.le_of_ble_eq_true rfl⟩ hP hD hS hA ⟨rfl, rfl⟩ rfl [1, 2, 3, 4, 5] [0] rfl rfl rfl (by decide) (by decide) hl.1 rfl (Nat.le_of_ble_eq_true rfl) rfl rfl rfl dX8_inRow_40 (fun H locs hP hD hS => ?_)
        obtain ⟨hP, hD⟩ := x_perm (ws' := wSPo x ++ wFig (fun j => x (1 + j)) cy F) hP hD [0, 1, 2, 3, 4, 5] (by decide) rfl rfl
        refine lv_istore (lv' := [(5, .int v40), (4, .int l4_26), (3, .int l3_26), (0, .ref (x 0)), (1, .int l1_26), (2, .int l2_26)]) hx hb dX8_inRow_43 hl (by decide) rfl (fun ls hl => ?_)
        refine lv_iload hx hb dX8_inRow_45 (lv_at hl 0 rfl) ?_
        refine lv_iconst (v := 2) hx hb dX8_inRow_47 (by decide) ?_
        have hj64 : ∀ (l4_64 : Int32) (l3_64 : Int32) (l1_64 : Int32) (l2_64 : Int32) (H : Heap) (locs : List Loc) (ls : Array Slot), G_X8_inRow_j64 (G_X8_inRow_L26 F n26) F l4_64 l3_64 l1_64 l2_64 = some res → va_P (dC, dI) vwCl (wSPo x ++ wFig (fun j => x (1 + j)) cy F) H → va_D A (wSPo x ++ wFig (fun j => x (1 + j)) cy F) → va_S A s.heap H locs → lv_has ls 6 [(4, .int l4_64), (3, .int l3_64), (0, .ref (x 0)), (1, .int l1_64), (2, .int l2_64)] → W p l e rm_X8_inRow s mm args below meth cd H locs 0 0 Q (F0 mm 64 ls []) := by
          intro l4_64 l3_64 l1_64 l2_64 H locs ls h hP hD hS hl
          unfold G_X8_inRow_j64 at h
          refine lv_iinc (v := l4_64 + 1) (lv' := [(4, .int (l4_64 + 1)), (3, .int l3_64), (0, .ref (x 0)), (1, .int l1_64), (2, .int l2_64)]) hx hb dX8_inRow_64 hl (k := 0) rfl rfl (by decide) rfl (fun ls hl => ?_)
          refine lv_goto (tgt := 26) hx hb dX8_inRow_67 (by decide) ?_
          exact ih26 (l4_64 + 1) l3_64 l1_64 l2_64 H locs ls h hP hD hS (lv_sub hl [0, 1, 2, 3, 4] rfl)
        have hj61 : ∀ (l4_61 : Int32) (l3_61 : Int32) (l1_61 : Int32) (l2_61 : Int32) (H : Heap) (locs : List Loc) (ls : Array Slot), G_X8_inRow_j61 (G_X8_inRow_L26 F n26) F l4_61 l3_61 l1_61 l2_61 = some res → va_P (dC, dI) vwCl (wSPo x ++ wFig (fun j => x (1 + j)) cy F) H → va_D A (wSPo x ++ wFig (fun j => x (1 + j)) cy F) → va_S A s.heap H locs → lv_has ls 6 [(4, .int l4_61), (3, .int l3_61), (0, .ref (x 0)), (1, .int l1_61), (2, .int l2_61)] → W p l e rm_X8_inRow s mm args below meth cd H locs 0 0 Q (F0 mm 61 ls []) := by
          intro l4_61 l3_61 l1_61 l2_61 H locs ls h hP hD hS hl
          unfold G_X8_inRow_j61 at h
          refine lv_iinc (v := l3_61 + 1) (lv' := [(3, .int (l3_61 + 1)), (4, .int l4_61), (0, .ref (x 0)), (1, .int l1_61), (2, .int l2_61)]) hx hb dX8_inRow_61 hl (k := 1) rfl rfl (by decide) rfl (fun ls hl => ?_)
          exact hj64 l4_61 (l3_61 + 1) l1_61 l2_61 H locs ls h hP hD hS (lv_sub hl [1, 0, 2, 3, 4] rfl)
        refine lv_icmp_eq (tgt := 61) hx hb dX8_inRow_48 (by decide) (fun c48 => ?_) (fun c48 => ?_)
        · replace h := if_t h c48
          exact hj61 l4_26 l3_26 l1_26 l2_26 H locs ls h hP hD hS (lv_sub hl [1, 2, 3, 4, 5] rfl)
        replace h := if_f h c48
        refine lv_iload_n hx hb dX8_inRow_51 rfl (lv_at hl 5 rfl) ?_
        refine lv_if_eq (tgt := 64) hx hb dX8_inRow_52 (by decide) (fun c52 => ?_) (fun c52 => ?_)
        · replace h := if_t h c52
          exact hj64 l4_26 l3_26 l1_26 l2_26 H locs ls h hP hD hS (lv_sub hl [1, 2, 3, 4, 5] rfl)
        replace h := if_f h c52
        refine lv_iload hx hb dX8_inRow_55 (lv_at hl 0 rfl) ?_
        refine lv_iconst (v := 1) hx hb dX8_inRow_57 (by decide) ?_
        refine lv_icmp_ne (tgt := 64) hx hb dX8_inRow_58 (by decide) (fun c58 => ?_) (fun c58 => ?_)
        · replace h := if_f h c58
          exact hj64 l4_26 l3_26 l1_26 l2_26 H locs ls h hP hD hS (lv_sub hl [1, 2, 3, 4, 5] rfl)
        replace h := if_t h c58
        exact hj61 l4_26 l3_26 l1_26 l2_26 H locs ls h hP hD hS (lv_sub hl [1, 2, 3, 4, 5] rfl)
    exact hL26 FU 0 0 p1 p2 H locs ls h hP hD hS (lv_sub hl [0, 1, 2, 3, 4] rfl)
  replace h := if_t h c7
  obtain rfl := Option.some.inj h
  exact hT H locs 0 0 10 ls 56 263 60 2 "the row is not on the paper" hP hD hS (by decide) (by decide) (by decide) (by decide) rfl rfl hl.1 (by decide +kernel) gw434 gw67 exat_2 exgo_2 (by decide +kernel) dX8_inRow_10 dX8_inRow_13 (Or.inr ⟨dX8_inRow_14, dX8_inRow_17, dX8_inRow_20⟩)
def G_X8_insert (F : Fig) (D : Fig) (P : PastS) (p1 : Int32) (p2 : Int32) (p3 : Int32) (p4 : Int32) : Option ((Sum Nat Int32) × Fig × Fig × PastS) :=
  (G_X8_checkCorner F p1 p2).bind fun v3 =>
  match v3 with
  | .inl k3 => some (.inl k3, F, D, P)
  | .inr _ =>
    (G_X1_copyFrom D F).bind fun v14 =>
    (G_X0_addedCorner v14 p1 p2 p3 p4).bind fun v26 =>
    if v26.1 = 0 then
      some (.inl 3, F, v26.2, P)
    else
      (G_X8_keepDraft F v26.2 P).bind fun v43 =>
      (G_X2_area v43.1).bind fun v50 =>
      some (.inr v50, v43.1, v26.2, v43.2)
abbrev rm_X8_insert : Room := { frames := 7, cells := 2, slots := 12, locals := 138 }
theorem hdS_X8_insert : yX8_insert.cls ≠ "java/lang/invoke/MethodHandle" ∧ yX8_insert.cls ≠ "java/lang/invoke/VarHandle" ∧ (parseMethodDescriptor yX8_insert.desc).map (fun d => d.parameters.length) = some 4 := by decide +kernel
theorem hdV_X8_insert : yX8_insert.cls = RX8 ∧ yX8_insert.cls ≠ "java/lang/invoke/MethodHandle" ∧ yX8_insert.cls ≠ "java/lang/invoke/VarHandle" ∧ (parseMethodDescriptor yX8_insert.desc).map (fun d => d.parameters.length) = some 4 := ⟨rfl, hdS_X8_insert⟩
set_option maxHeartbeats 4000000 in
set_option maxRecDepth 100000 in
theorem c_X8_insert (l : Launch) (dC : Nat → ClassId) (dI : Nat → Nat → Nat) (cy : Nat → ClassId) (hlt : l.stackTraces = false) (x : Nat → Nat) (F : Fig) (D : Fig) (P : PastS) (p1 : Int32) (p2 : Int32) (p3 : Int32) (p4 : Int32) (res : (Sum Nat Int32) × Fig × Fig × PastS) (h : G_X8_insert F D P p1 p2 p3 p4 = some res) : CTX l (dC, dI) (TY cy) yX8_insert cX8_insert 5 (some .int) rm_X8_insert [.ref (x 0), .int p1, .int p2, .int p3, .int p4] (wSPo x ++ wFig (fun j => x (1 + j)) cy F ++ wFig (fun j => x (6 + j)) cy D ++ wP2 (fun j => x (11 + j)) cy P ++ wPF (fun j => x (11 + j)) cy (p_figs P)) (wSPo x ++ wFig (fun j => x (1 + j)) cy res.2.1 ++ wFig (fun j => x (6 + j)) cy res.2.2.1 ++ wP2 (fun j => x (11 + j)) cy res.2.2.2 ++ wPF (fun j => x (11 + j)) cy (p_figs res.2.2.2)) (oI res.1) := by
  refine CTX.mk (own := RX8) hlt ⟨by decide, rfl⟩ (Nat.le_of_ble_eq_true rfl) ?_
  intro p e s mm args below meth cd A Q hx hb hml hown htg hN hK hX0 hA hP hD hS hE hV hT hO ls hl
  have hl : lv_has ls 5 [(0, .ref (x 0)), (1, .int p1), (2, .int p2), (3, .int p3), (4, .int p4)] := hl
  replace h : _ = some res := h
  unfold G_X8_insert at h
  obtain ⟨H, hH⟩ : ∃ H, H = s.heap := ⟨_, rfl⟩
  obtain ⟨locs, hlocs⟩ : ∃ locs : List Loc, locs = [] := ⟨_, rfl⟩
  rw [← hlocs] at hS ⊢
  have hS : va_S A s.heap H locs := by rw [hH]; exact hS
  rw [← hH] at hP ⊢
  refine lv_aload_n hx hb dX8_insert_0 rfl (lv_at hl 0 rfl) ?_
  refine lv_iload_n hx hb dX8_insert_1 rfl (lv_at hl 1 rfl) ?_
  refine lv_iload_n hx hb dX8_insert_2 rfl (lv_at hl 2 rfl) ?_
  obtain ⟨v3, e3, h⟩ := bnd h
  rcases hv3 : v3 with k3 | u3
  · simp only [hv3] at h
    refine cXVp (av := [.int p1, .int p2]) (rest := []) (k1 := 1) (k2 := 6) (wn := wSPo x ++ wFig (fun j => x (1 + j)) cy F ++ wFig (fun j => x (6 + j)) cy D ++ wP2 (fun j => x (11 + j)) cy P ++ wPF (fun j => x (11 + j)) cy (p_figs P)) (ci := 3) (q0 := 0) hx hb hml hown htg hN hK hX0 (c_X8_checkCorner l dC dI cy hlt x F p1 p2 v3 e3) (g_V gw620 gw622 gw5 gw59 gw623) hdV_X8_checkCorner rfl ⟨⟨Nat.le_of_ble_eq_true rfl, Nat.le_of_ble_eq_true rfl⟩, Nat.le_of_ble_eq_true rfl, Nat.le_of_ble_eq_true rfl⟩ hP hD hS hA ⟨rfl, rfl⟩ rfl (perm_N (perm_ix 13 [0, 1, 2, 3, 4, 5] [6, 7, 8, 9, 10, 11, 12] rfl rfl rfl (by decide))) (perm_Nb (perm_ix 13 [6, 7, 8, 9, 10, 11, 12] [0, 1, 2, 3, 4, 5] rfl rfl rfl (by decide))) hl.1 rfl (Nat.le_of_ble_eq_true rfl) rfl rfl dX8_insert_3 (fun H locs ret ho hP hD hS => ?_) (fun H locs k q ce ho hP hD hS h1 h2 h3 => ?_)
    · rw [hv3] at ho; cases ho
    rw [hv3] at ho
    obtain rfl := Sum.inl.inj ho
    obtain rfl := Option.some.inj h
    exact hO H locs 1 6 3 ls _ _ q ce hP hD hS (by decide) (by decide) rfl h1 h2 h3
  simp only [hv3] at h
  refine cXVp (av := [.int p1, .int p2]) (rest := []) (k1 := 1) (k2 := 6) (wn := wSPo x ++ wFig (fun j => x (1 + j)) cy F ++ wFig (fun j => x (6 + j)) cy D ++ wP2 (fun j => x (11 + j)) cy P ++ wPF (fun j => x (11 + j)) cy (p_figs P)) (ci := 3) (q0 := 0) hx hb hml hown htg hN hK hX0 (c_X8_checkCorner l dC dI cy hlt x F p1 p2 v3 e3) (g_V gw620 gw622 gw5 gw59 gw623) hdV_X8_checkCorner rfl ⟨⟨Nat.le_of_ble_eq_true rfl, Nat.le_of_ble_eq_true rfl⟩, Nat.le_of_ble_eq_true rfl, Nat.le_of_ble_eq_true rfl⟩ hP hD hS hA ⟨rfl, rfl⟩ rfl (perm_N (perm_ix 13 [0, 1, 2, 3, 4, 5] [6, 7, 8, 9, 10, 11, 12] rfl rfl rfl (by decide))) (perm_Nb (perm_ix 13 [6, 7, 8, 9, 10, 11, 12] [0, 1, 2, 3, 4, 5] rfl rfl rfl (by decide))) hl.1 rfl (Nat.le_of_ble_eq_true rfl) rfl rfl dX8_insert_3 (fun H locs ret ho hP hD hS => ?_) (fun H locs k q ce ho hP hD hS h1 h2 h3 => ?_)
  rotate_left
  · rw [hv3] at ho; cases ho
  rw [hv3] at ho
  obtain rfl := Sum.inr.inj ho
  refine W.eq (g2 := F0 mm 6 ls []) rfl ?_
  refine lv_aload_n hx hb dX8_insert_6 rfl (lv_at hl 0 rfl) ?_
  refine va_get (D := (dC, dI)) (ci := 3) (v := .ref (x 6)) (C := RX8) (T := TX8) (N := 7) hx hb htg inX8 hown hK hP 0 rfl rfl 1 (by decide) (htg _ gw193) (fun _ h9 => h9) rfl dX8_insert_7 ?_
  refine lv_aload_n hx hb dX8_insert_10 rfl (lv_at hl 0 rfl) ?_
  refine va_get (D := (dC, dI)) (ci := 3) (v := .ref (x 1)) (C := RX8) (T := TX8) (N := 7) hx hb htg inX8 hown hK hP 0 rfl rfl 0 (by decide) (htg _ gw192) (fun _ h9 => h9) rfl dX8_insert_11 ?_
  obtain ⟨v14, e14, h⟩ := bnd h
  refine cVp (av := [.ref (x 1)]) (rest := []) (st1 := []) (k1 := 1) (k2 := 6) (wn := wSPo x ++ wFig (fun j => x (1 + j)) cy F ++ wFig (fun j => x (6 + j)) cy v14 ++ wP2 (fun j => x (11 + j)) cy P ++ wPF (fun j => x (11 + j)) cy (p_figs P)) (ci := 0) (q0 := 0) hx hb hml hown htg hN hK (c_X1_copyFrom l dC dI cy (fun j => x (6 + j)) (fun j => x (1 + j)) D F  v14 e14) (g_V gw313 gw314 gw315 gw60 gw316) hdV_X1_copyFrom rfl ⟨⟨Nat.le_of_ble_eq_true rfl, Nat.le_of_ble_eq_true rfl⟩, Nat.le_of_ble_eq_true rfl, Nat.le_of_ble_eq_true rfl⟩ hP hD hS hA ⟨rfl, rfl⟩ rfl (perm_N (perm_ix 13 [6, 7, 8, 9, 10, 1, 2, 3, 4, 5] [0, 11, 12] rfl rfl rfl (by decide))) (perm_Nb (perm_ix 13 [0, 11, 12] [6, 7, 8, 9, 10, 1, 2, 3, 4, 5] rfl rfl rfl (by decide))) hl.1 rfl (Nat.le_of_ble_eq_true rfl) rfl rfl rfl dX8_insert_14 (fun H locs hP hD hS => ?_)
  refine lv_aload_n hx hb dX8_insert_17 rfl (lv_at hl 0 rfl) ?_
  refine va_get (D := (dC, dI)) (ci := 3) (v := .ref (x 6)) (C := RX8) (T := TX8) (N := 7) hx hb htg inX8 hown hK hP 0 rfl rfl 1 (by decide) (htg _ gw193) (fun _ h9 => h9) rfl dX8_insert_18 ?_
  refine lv_iload_n hx hb dX8_insert_21 rfl (lv_at hl 1 rfl) ?_
  refine lv_iload_n hx hb dX8_insert_22 rfl (lv_at hl 2 rfl) ?_
  refine lv_iload_n hx hb dX8_insert_23 rfl (lv_at hl 3 rfl) ?_
  refine lv_iload hx hb dX8_insert_24 (lv_at hl 4 rfl) ?_
  obtain ⟨v26, e26, h⟩ := bnd h
  refine cSp (av := [.ref (x 6), .int p1, .int p2, .int p3, .int p4]) (rest := []) (st1 := [.int v26.1]) (k1 := 1) (k2 := 6) (wn := wSPo x ++ wFig (fun j => x (1 + j)) cy F ++ wFig (fun j => x (6 + j)) cy v26.2 ++ wP2 (fun j => x (11 + j)) cy P ++ wPF (fun j => x (11 + j)) cy (p_figs P)) hx hb hml hown htg hN hK (c_X0_addedCorner l dC dI cy (fun j => x (6 + j)) v14 p1 p2 p3 p4 v26 e26) (g_S gw673 gw674 gw75 gw675) hdS_X0_addedCorner rfl ⟨⟨Nat.le_of_ble_eq_true rfl, Nat.le_of_ble_eq_true rfl⟩, Nat.le_of_ble_eq_true rfl, Nat.le_of_ble_eq_true rfl⟩ hP hD hS hA (perm_N (perm_ix 13 [6, 7, 8, 9, 10] [0, 1, 2, 3, 4, 5, 11, 12] rfl rfl rfl (by decide))) (perm_Nb (perm_ix 13 [0, 1, 2, 3, 4, 5, 11, 12] [6, 7, 8, 9, 10] rfl rfl rfl (by decide))) hl.1 rfl (Nat.le_of_ble_eq_true rfl) rfl rfl rfl dX8_insert_26 (fun H locs hP hD hS => ?_)
  refine lv_if_ne (tgt := 42) hx hb dX8_insert_29 (by decide) (fun c29 => ?_) (fun c29 => ?_)
  · replace h := if_f h c29
    refine lv_aload_n hx hb dX8_insert_42 rfl (lv_at hl 0 rfl) ?_
    obtain ⟨v43, e43, h⟩ := bnd h
    refine cVp (av := []) (rest := []) (st1 := []) (k1 := 1) (k2 := 6) (wn := wSPo x ++ wFig (fun j => x (1 + j)) cy v43.1 ++ wFig (fun j => x (6 + j)) cy v26.2 ++ wP2 (fun j => x (11 + j)) cy v43.2 ++ wPF (fun j => x (11 + j)) cy (p_figs v43.2)) (ci := 3) (q0 := 0) hx hb hml hown htg hN hK (c_X8_keepDraft l dC dI cy x F v26.2 P  v43 e43) (g_V gw324 gw326 gw2 gw59 gw327) hdV_X8_keepDraft rfl ⟨⟨Nat.le_of_ble_eq_true rfl, Nat.le_of_ble_eq_true rfl⟩, Nat.le_of_ble_eq_true rfl, Nat.le_of_ble_eq_true rfl⟩ hP hD hS hA ⟨rfl, rfl⟩ rfl (perm_T (perm_ix 13 [0, 1, 2, 3, 4, 5, 6, 7, 8, 9, 10, 11, 12] [] rfl rfl rfl (by decide))) (perm_Tb (perm_ix 13 [] [0, 1, 2, 3, 4, 5, 6, 7, 8, 9, 10, 11, 12] rfl rfl rfl (by decide))) hl.1 rfl (Nat.le_of_ble_eq_true rfl) rfl rfl rfl dX8_insert_43 (fun H locs hP hD hS => ?_)
    refine lv_aload_n hx hb dX8_insert_46 rfl (lv_at hl 0 rfl) ?_
    refine va_get (D := (dC, dI)) (ci := 3) (v := .ref (x 1)) (C := RX8) (T := TX8) (N := 7) hx hb htg inX8 hown hK hP 0 rfl rfl 0 (by decide) (htg _ gw192) (fun _ h9 => h9) rfl dX8_insert_47 ?_
    obtain ⟨v50, e50, h⟩ := bnd h
    refine cSp (av := [.ref (x 1)]) (rest := []) (st1 := [.int v50]) (k1 := 1) (k2 := 6) (wn := wSPo x ++ wFig (fun j => x (1 + j)) cy v43.1 ++ wFig (fun j => x (6 + j)) cy v26.2 ++ wP2 (fun j => x (11 + j)) cy v43.2 ++ wPF (fun j => x (11 + j)) cy (p_figs v43.2)) hx hb hml hown htg hN hK (c_X2_area l dC dI cy (fun j => x (1 + j)) v43.1  v50 e50) (g_S gw366 gw367 gw72 gw368) hdS_X2_area rfl ⟨⟨Nat.le_of_ble_eq_true rfl, Nat.le_of_ble_eq_true rfl⟩, Nat.le_of_ble_eq_true rfl, Nat.le_of_ble_eq_true rfl⟩ hP hD hS hA (perm_N (perm_ix 13 [1, 2, 3, 4, 5] [0, 6, 7, 8, 9, 10, 11, 12] rfl rfl rfl (by decide))) (perm_Nb (perm_ix 13 [0, 6, 7, 8, 9, 10, 11, 12] [1, 2, 3, 4, 5] rfl rfl rfl (by decide))) hl.1 rfl (Nat.le_of_ble_eq_true rfl) rfl rfl rfl dX8_insert_50 (fun H locs hP hD hS => ?_)
    obtain rfl := Option.some.inj h
    exact hE H locs 1 6 53 ls _ hP hD hS (by decide) (by decide) rfl ⟨_, rfl, rfl⟩ dX8_insert_53
  replace h := if_t h c29
  obtain rfl := Option.some.inj h
  exact hT H locs 1 6 32 ls 67 204 71 3 "the ring is full, or a rule would not hold" hP hD hS (by decide) (by decide) (by decide) (by decide) rfl rfl hl.1 (by decide +kernel) gw502 gw68 exat_3 exgo_3 (by decide +kernel) dX8_insert_32 dX8_insert_35 (Or.inl ⟨dX8_insert_36, dX8_insert_38, dX8_insert_41⟩)
def G_X8_load_L46  (T : TextS) : Nat → Fig → Fig → PastS → (Nat → Int32) → Int32 → Option ((Sum Nat Int32) × Fig × Fig × PastS × (Nat → Int32))
  | 0, _, _, _, _, _ => none
  | n46 + 1, F_46, D_46, P_46, SV_46, l1_46 =>
    if 2 ≤ l1_46 then
      some (.inr (f_rings F_46), F_46, D_46, P_46, SV_46)
    else
      (wr 2 SV_46 l1_46 0).bind fun g57 =>
      (G_X8_load_L46 T n46) F_46 D_46 P_46 g57 (l1_46 + 1)
def G_X8_load (F : Fig) (D : Fig) (P : PastS) (SV : Nat → Int32) (T : TextS) : Option ((Sum Nat Int32) × Fig × Fig × PastS × (Nat → Int32)) :=
  (G_X7_readInto T D).bind fun v8 =>
  if v8.1 = (-9) then
    (G_X1_copyFrom F v8.2).bind fun v34 =>
    (G_X3_forgetAll P).bind fun v41 =>
    G_X8_load_L46 T FU v34 v8.2 v41 SV 0
  else
    some (.inl 3, F, v8.2, P, SV)
abbrev rm_X8_load : Room := { frames := 6, cells := 1, slots := 6, locals := 138 }
theorem hdS_X8_load : yX8_load.cls ≠ "java/lang/invoke/MethodHandle" ∧ yX8_load.cls ≠ "java/lang/invoke/VarHandle" ∧ (parseMethodDescriptor yX8_load.desc).map (fun d => d.parameters.length) = some 0 := by decide +kernel
theorem hdV_X8_load : yX8_load.cls = RX8 ∧ yX8_load.cls ≠ "java/lang/invoke/MethodHandle" ∧ yX8_load.cls ≠ "java/lang/invoke/VarHandle" ∧ (parseMethodDescriptor yX8_load.desc).map (fun d => d.parameters.length) = some 0 := ⟨rfl, hdS_X8_load⟩
set_option maxHeartbeats 4000000 in
set_option maxRecDepth 100000 in
theorem c_X8_load (l : Launch) (dC : Nat → ClassId) (dI : Nat → Nat → Nat) (cy : Nat → ClassId) (hlt : l.stackTraces = false) (x : Nat → Nat) (F : Fig) (D : Fig) (P : PastS) (SV : Nat → Int32) (T : TextS) (res : (Sum Nat Int32) × Fig × Fig × PastS × (Nat → Int32)) (h : G_X8_load F D P SV T = some res) : CTX l (dC, dI) (TY cy) yX8_load cX8_load 2 (some .int) rm_X8_load [.ref (x 0)] (wSPo x ++ wFig (fun j => x (1 + j)) cy F ++ wFig (fun j => x (6 + j)) cy D ++ wP2 (fun j => x (11 + j)) cy P ++ wBA (x 94) cy SV ++ wText (fun j => x (95 + j)) cy T ++ wPF (fun j => x (11 + j)) cy (p_figs P)) (wSPo x ++ wFig (fun j => x (1 + j)) cy res.2.1 ++ wFig (fun j => x (6 + j)) cy res.2.2.1 ++ wP2 (fun j => x (11 + j)) cy res.2.2.2.1 ++ wBA (x 94) cy res.2.2.2.2 ++ wText (fun j => x (95 + j)) cy T ++ wPF (fun j => x (11 + j)) cy (p_figs res.2.2.2.1)) (oI res.1) := by
  refine CTX.mk (own := RX8) hlt ⟨by decide, rfl⟩ (Nat.le_of_ble_eq_true rfl) ?_
  intro p e s mm args below meth cd A Q hx hb hml hown htg hN hK hX0 hA hP hD hS hE hV hT hO ls hl
  have hl : lv_has ls 2 [(0, .ref (x 0))] := hl
  replace h : _ = some res := h
  unfold G_X8_load at h
  obtain ⟨H, hH⟩ : ∃ H, H = s.heap := ⟨_, rfl⟩
  obtain ⟨locs, hlocs⟩ : ∃ locs : List Loc, locs = [] := ⟨_, rfl⟩
  rw [← hlocs] at hS ⊢
  have hS : va_S A s.heap H locs := by rw [hH]; exact hS
  rw [← hH] at hP ⊢
  refine lv_aload_n hx hb dX8_load_0 rfl (lv_at hl 0 rfl) ?_
  refine va_get (D := (dC, dI)) (ci := 3) (v := .ref (x 95)) (C := RX8) (T := TX8) (N := 7) hx hb htg inX8 hown hK hP 0 rfl rfl 5 (by decide) (htg _ gw197) (fun _ h9 => h9) rfl dX8_load_1 ?_
  refine lv_aload_n hx hb dX8_load_4 rfl (lv_at hl 0 rfl) ?_
  refine va_get (D := (dC, dI)) (ci := 3) (v := .ref (x 6)) (C := RX8) (T := TX8) (N := 7) hx hb htg inX8 hown hK hP 0 rfl rfl 1 (by decide) (htg _ gw193) (fun _ h9 => h9) rfl dX8_load_5 ?_
  obtain ⟨v8, e8, h⟩ := bnd h
  refine cVp (av := [.ref (x 6)]) (rest := []) (st1 := [.int v8.1]) (k1 := 0) (k2 := 0) (wn := wSPo x ++ wFig (fun j => x (1 + j)) cy F ++ wFig (fun j => x (6 + j)) cy v8.2 ++ wP2 (fun j => x (11 + j)) cy P ++ wBA (x 94) cy SV ++ wText (fun j => x (95 + j)) cy T ++ wPF (fun j => x (11 + j)) cy (p_figs P)) (ci := 2) (q0 := 0) hx hb hml hown htg hN hK (c_X7_readInto l dC dI cy (fun j => x (95 + j)) (fun j => x (6 + j)) T D  v8 e8) (g_V gw222 gw223 gw224 gw62 gw225) hdV_X7_readInto rfl ⟨⟨Nat.le_of_ble_eq_true rfl, Nat.le_of_ble_eq_true rfl⟩, Nat.le_of_ble_eq_true rfl, Nat.le_of_ble_eq_true rfl⟩ hP hD hS hA ⟨rfl, rfl⟩ rfl (perm_N (perm_ix 16 [14, 15, 6, 7, 8, 9, 10] [0, 1, 2, 3, 4, 5, 11, 12, 13] rfl rfl rfl (by decide))) (perm_Nb (perm_ix 16 [0, 1, 2, 3, 4, 5, 11, 12, 13] [14, 15, 6, 7, 8, 9, 10] rfl rfl rfl (by decide))) hl.1 rfl (Nat.le_of_ble_eq_true rfl) rfl rfl rfl dX8_load_8 (fun H locs hP hD hS => ?_)
  refine lv_bipush (v := (-9)) hx hb dX8_load_11 (by decide) ?_
  refine lv_icmp_eq (tgt := 26) hx hb dX8_load_13 (by decide) (fun c13 => ?_) (fun c13 => ?_)
  · replace h := if_t h c13
    refine lv_aload_n hx hb dX8_load_26 rfl (lv_at hl 0 rfl) ?_
    refine va_get (D := (dC, dI)) (ci := 3) (v := .ref (x 1)) (C := RX8) (T := TX8) (N := 7) hx hb htg inX8 hown hK hP 0 rfl rfl 0 (by decide) (htg _ gw192) (fun _ h9 => h9) rfl dX8_load_27 ?_
    refine lv_aload_n hx hb dX8_load_30 rfl (lv_at hl 0 rfl) ?_
    refine va_get (D := (dC, dI)) (ci := 3) (v := .ref (x 6)) (C := RX8) (T := TX8) (N := 7) hx hb htg inX8 hown hK hP 0 rfl rfl 1 (by decide) (htg _ gw193) (fun _ h9 => h9) rfl dX8_load_31 ?_
    obtain ⟨v34, e34, h⟩ := bnd h
    refine cVp (av := [.ref (x 6)]) (rest := []) (st1 := []) (k1 := 0) (k2 := 0) (wn := wSPo x ++ wFig (fun j => x (1 + j)) cy v34 ++ wFig (fun j => x (6 + j)) cy v8.2 ++ wP2 (fun j => x (11 + j)) cy P ++ wBA (x 94) cy SV ++ wText (fun j => x (95 + j)) cy T ++ wPF (fun j => x (11 + j)) cy (p_figs P)) (ci := 0) (q0 := 0) hx hb hml hown htg hN hK (c_X1_copyFrom l dC dI cy (fun j => x (1 + j)) (fun j => x (6 + j)) F v8.2  v34 e34) (g_V gw313 gw314 gw315 gw60 gw316) hdV_X1_copyFrom rfl ⟨⟨Nat.le_of_ble_eq_true rfl, Nat.le_of_ble_eq_true rfl⟩, Nat.le_of_ble_eq_true rfl, Nat.le_of_ble_eq_true rfl⟩ hP hD hS hA ⟨rfl, rfl⟩ rfl (perm_N (perm_ix 16 [1, 2, 3, 4, 5, 6, 7, 8, 9, 10] [0, 11, 12, 13, 14, 15] rfl rfl rfl (by decide))) (perm_Nb (perm_ix 16 [0, 11, 12, 13, 14, 15] [1, 2, 3, 4, 5, 6, 7, 8, 9, 10] rfl rfl rfl (by decide))) hl.1 rfl (Nat.le_of_ble_eq_true rfl) rfl rfl rfl dX8_load_34 (fun H locs hP hD hS => ?_)
    refine lv_aload_n hx hb dX8_load_37 rfl (lv_at hl 0 rfl) ?_
    refine va_get (D := (dC, dI)) (ci := 3) (v := .ref (x 11)) (C := RX8) (T := TX8) (N := 7) hx hb htg inX8 hown hK hP 0 rfl rfl 2 (by decide) (htg _ gw194) (fun _ h9 => h9) rfl dX8_load_38 ?_
    obtain ⟨v41, e41, h⟩ := bnd h
    refine cVp (av := []) (rest := []) (st1 := []) (k1 := 0) (k2 := 0) (wn := wSPo x ++ wFig (fun j => x (1 + j)) cy v34 ++ wFig (fun j => x (6 + j)) cy v8.2 ++ wP2 (fun j => x (11 + j)) cy v41 ++ wBA (x 94) cy SV ++ wText (fun j => x (95 + j)) cy T ++ wPF (fun j => x (11 + j)) cy (p_figs v41)) (ci := 1) (q0 := 0) hx hb hml hown htg hN hK (c_X3_forgetAll l dC dI cy (fun j => x (11 + j)) P  v41 e41) (g_V gw530 gw531 gw532 gw61 gw533) hdV_X3_forgetAll rfl ⟨⟨Nat.le_of_ble_eq_true rfl, Nat.le_of_ble_eq_true rfl⟩, Nat.le_of_ble_eq_true rfl, Nat.le_of_ble_eq_true rfl⟩ hP hD hS hA ⟨rfl, rfl⟩ rfl (perm_T (perm_ix 16 [11, 12] [0, 1, 2, 3, 4, 5, 6, 7, 8, 9, 10, 13, 14, 15] rfl rfl rfl (by decide))) (perm_Tb (perm_ix 16 [0, 1, 2, 3, 4, 5, 6, 7, 8, 9, 10, 13, 14, 15] [11, 12] rfl rfl rfl (by decide))) hl.1 rfl (Nat.le_of_ble_eq_true rfl) rfl rfl rfl dX8_load_41 (fun H locs hP hD hS => ?_)
    refine lv_iconst (v := 0) hx hb dX8_load_44 (by decide) ?_
    refine lv_istore_n (lv' := [(1, .int 0), (0, .ref (x 0))]) hx hb dX8_load_45 rfl hl (by decide) rfl (fun ls hl => ?_)
    have hL46 : ∀ (n46 : Nat) (F_46 : Fig) (D_46 : Fig) (P_46 : PastS) (SV_46 : Nat → Int32) (l1_46 : Int32) (H : Heap) (locs : List Loc) (ls : Array Slot), G_X8_load_L46 T n46 F_46 D_46 P_46 SV_46 l1_46 = some res → va_P (dC, dI) vwCl (wSPo x ++ wFig (fun j => x (1 + j)) cy F_46 ++ wFig (fun j => x (6 + j)) cy D_46 ++ wP2 (fun j => x (11 + j)) cy P_46 ++ wBA (x 94) cy SV_46 ++ wText (fun j => x (95 + j)) cy T ++ wPF (fun j => x (11 + j)) cy (p_figs P_46)) H → va_D A (wSPo x ++ wFig (fun j => x (1 + j)) cy F_46 ++ wFig (fun j => x (6 + j)) cy D_46 ++ wP2 (fun j => x (11 + j)) cy P_46 ++ wBA (x 94) cy SV_46 ++ wText (fun j => x (95 + j)) cy T ++ wPF (fun j => x (11 + j)) cy (p_figs P_46)) → va_S A s.heap H locs → lv_has ls 2 [(1, .int l1_46), (0, .ref (x 0))] → W p l e rm_X8_load s mm args below meth cd H locs 0 0 Q (F0 mm 46 ls []) := by
      intro n46
      induction n46 with
      | zero => intro F_46 D_46 P_46 SV_46 l1_46 H locs ls h; exact absurd h (by simp [G_X8_load_L46])
      | succ n46 ih46 =>
        intro F_46 D_46 P_46 SV_46 l1_46 H locs ls h hP hD hS hl
        rw [G_X8_load_L46] at h
        refine lv_iload_n hx hb dX8_load_46 rfl (lv_at hl 0 rfl) ?_
        refine lv_iconst (v := 2) hx hb dX8_load_47 (by decide) ?_
        refine lv_icmp_ge (tgt := 64) hx hb dX8_load_48 (by decide) (fun c48 => ?_) (fun c48 => ?_)
        · replace h := if_t h c48
          refine lv_aload_n hx hb dX8_load_64 rfl (lv_at hl 1 rfl) ?_
          refine va_get (D := (dC, dI)) (ci := 3) (v := .ref (x 1)) (C := RX8) (T := TX8) (N := 7) hx hb htg inX8 hown hK hP 0 rfl rfl 0 (by decide) (htg _ gw192) (fun _ h9 => h9) rfl dX8_load_65 ?_
          refine va_getN (D := (dC, dI)) (ci := 0) (v := .int (f_rings F_46)) (C := RX1) (T := TX1) (N := 6) hx hb htg inX1 hown hK hP 1 rfl rfl 0 (by decide) (va_Nw.use rfl (hN (.fieldLinkNest RX8 89 "SquaredPaper$Figure" "rings" "I" "SquaredPaper") (by decide +kernel))) (fun _ h9 => h9) rfl dX8_load_68 ?_
          obtain rfl := Option.some.inj h
          exact hE H locs 0 0 71 ls _ hP hD hS (by decide) (by decide) rfl ⟨_, rfl, rfl⟩ dX8_load_71
        replace h := if_f h c48
        refine lv_aload_n hx hb dX8_load_51 rfl (lv_at hl 1 rfl) ?_
        refine va_get (D := (dC, dI)) (ci := 3) (v := .ref (x 94)) (C := RX8) (T := TX8) (N := 7) hx hb htg inX8 hown hK hP 0 rfl rfl 4 (by decide) (htg _ gw196) (fun _ h9 => h9) rfl dX8_load_52 ?_
        refine lv_iload_n hx hb dX8_load_55 rfl (lv_at hl 0 rfl) ?_
        refine lv_iconst (v := 0) hx hb dX8_load_56 (by decide) ?_
        obtain ⟨g57, e57, h⟩ := bnd h
        refine x_zast (g := g57) hx hb hK hP hD hS 13 1 rfl rfl e57 (by rfl) dX8_load_57 (fun H locs hP hD hS => ?_)
        have hP : va_P (dC, dI) vwCl (wSPo x ++ wFig (fun j => x (1 + j)) cy F_46 ++ wFig (fun j => x (6 + j)) cy D_46 ++ wP2 (fun j => x (11 + j)) cy P_46 ++ wBA (x 94) cy g57 ++ wText (fun j => x (95 + j)) cy T ++ wPF (fun j => x (11 + j)) cy (p_figs P_46)) H := hP
        have hD : va_D A (wSPo x ++ wFig (fun j => x (1 + j)) cy F_46 ++ wFig (fun j => x (6 + j)) cy D_46 ++ wP2 (fun j => x (11 + j)) cy P_46 ++ wBA (x 94) cy g57 ++ wText (fun j => x (95 + j)) cy T ++ wPF (fun j => x (11 + j)) cy (p_figs P_46)) := hD
        refine lv_iinc (v := l1_46 + 1) (lv' := [(1, .int (l1_46 + 1)), (0, .ref (x 0))]) hx hb dX8_load_58 hl (k := 0) rfl rfl (by decide) rfl (fun ls hl => ?_)
        refine lv_goto (tgt := 46) hx hb dX8_load_61 (by decide) ?_
        exact ih46 F_46 D_46 P_46 g57 (l1_46 + 1) H locs ls h hP hD hS (lv_sub hl [0, 1] rfl)
    exact hL46 FU v34 v8.2 v41 SV 0 H locs ls h hP hD hS (lv_sub hl [0, 1] rfl)
  replace h := if_f h c13
  obtain rfl := Option.some.inj h
  exact hT H locs 0 0 16 ls 67 80 71 3 "the text is not a figure" hP hD hS (by decide) (by decide) (by decide) (by decide) rfl rfl hl.1 (by decide +kernel) gw502 gw68 exat_3 exgo_3 (by decide +kernel) dX8_load_16 dX8_load_19 (Or.inl ⟨dX8_load_20, dX8_load_22, dX8_load_25⟩)
def G_X8_mirror (F : Fig) (D : Fig) (P : PastS) : Option (Int32 × Fig × Fig × PastS) :=
  (G_X1_copyFrom D F).bind fun v8 =>
  (G_X1_mirrorAll v8).bind fun v15 =>
  (G_X8_keepDraft F v15 P).bind fun v19 =>
  (G_X2_greatestX v19.1).bind fun v26 =>
  some (v26, v19.1, v15, v19.2)
abbrev rm_X8_mirror : Room := { frames := 4, cells := 0, slots := 0, locals := 102 }
theorem hdS_X8_mirror : yX8_mirror.cls ≠ "java/lang/invoke/MethodHandle" ∧ yX8_mirror.cls ≠ "java/lang/invoke/VarHandle" ∧ (parseMethodDescriptor yX8_mirror.desc).map (fun d => d.parameters.length) = some 0 := by decide +kernel
theorem hdV_X8_mirror : yX8_mirror.cls = RX8 ∧ yX8_mirror.cls ≠ "java/lang/invoke/MethodHandle" ∧ yX8_mirror.cls ≠ "java/lang/invoke/VarHandle" ∧ (parseMethodDescriptor yX8_mirror.desc).map (fun d => d.parameters.length) = some 0 := ⟨rfl, hdS_X8_mirror⟩
set_option maxHeartbeats 4000000 in
set_option maxRecDepth 100000 in
theorem c_X8_mirror (l : Launch) (dC : Nat → ClassId) (dI : Nat → Nat → Nat) (cy : Nat → ClassId) (x : Nat → Nat) (F : Fig) (D : Fig) (P : PastS) (res : Int32 × Fig × Fig × PastS) (h : G_X8_mirror F D P = some res) : CT l (dC, dI) (TY cy) yX8_mirror cX8_mirror 1 (some .int) rm_X8_mirror [.ref (x 0)] (wSPo x ++ wFig (fun j => x (1 + j)) cy F ++ wFig (fun j => x (6 + j)) cy D ++ wP2 (fun j => x (11 + j)) cy P ++ wPF (fun j => x (11 + j)) cy (p_figs P)) (wSPo x ++ wFig (fun j => x (1 + j)) cy res.2.1 ++ wFig (fun j => x (6 + j)) cy res.2.2.1 ++ wP2 (fun j => x (11 + j)) cy res.2.2.2 ++ wPF (fun j => x (11 + j)) cy (p_figs res.2.2.2)) (some (.int res.1)) := by
  refine CT.mk_i (own := RX8) ⟨by decide, rfl⟩ (Nat.le_of_ble_eq_true rfl) ?_
  intro p e s mm args below meth cd A Q hx hb hml hown htg hN hK hA hP hD hS hE ls hl
  have hl : lv_has ls 1 [(0, .ref (x 0))] := hl
  replace h : _ = some res := h
  unfold G_X8_mirror at h
  obtain ⟨H, hH⟩ : ∃ H, H = s.heap := ⟨_, rfl⟩
  obtain ⟨locs, hlocs⟩ : ∃ locs : List Loc, locs = [] := ⟨_, rfl⟩
  rw [← hlocs] at hS ⊢
  have hS : va_S A s.heap H locs := by rw [hH]; exact hS
  rw [← hH] at hP ⊢
  refine lv_aload_n hx hb dX8_mirror_0 rfl (lv_at hl 0 rfl) ?_
  refine va_get (D := (dC, dI)) (ci := 3) (v := .ref (x 6)) (C := RX8) (T := TX8) (N := 7) hx hb htg inX8 hown hK hP 0 rfl rfl 1 (by decide) (htg _ gw193) (fun _ h9 => h9) rfl dX8_mirror_1 ?_
  refine lv_aload_n hx hb dX8_mirror_4 rfl (lv_at hl 0 rfl) ?_
  refine va_get (D := (dC, dI)) (ci := 3) (v := .ref (x 1)) (C := RX8) (T := TX8) (N := 7) hx hb htg inX8 hown hK hP 0 rfl rfl 0 (by decide) (htg _ gw192) (fun _ h9 => h9) rfl dX8_mirror_5 ?_
  obtain ⟨v8, e8, h⟩ := bnd h
  refine cVp (av := [.ref (x 1)]) (rest := []) (st1 := []) (k1 := 0) (k2 := 0) (wn := wSPo x ++ wFig (fun j => x (1 + j)) cy F ++ wFig (fun j => x (6 + j)) cy v8 ++ wP2 (fun j => x (11 + j)) cy P ++ wPF (fun j => x (11 + j)) cy (p_figs P)) (ci := 0) (q0 := 0) hx hb hml hown htg hN hK (c_X1_copyFrom l dC dI cy (fun j => x (6 + j)) (fun j => x (1 + j)) D F  v8 e8) (g_V gw313 gw314 gw315 gw60 gw316) hdV_X1_copyFrom rfl ⟨⟨Nat.le_of_ble_eq_true rfl, Nat.le_of_ble_eq_true rfl⟩, Nat.le_of_ble_eq_true rfl, Nat.le_of_ble_eq_true rfl⟩ hP hD hS hA ⟨rfl, rfl⟩ rfl (perm_N (perm_ix 13 [6, 7, 8, 9, 10, 1, 2, 3, 4, 5] [0, 11, 12] rfl rfl rfl (by decide))) (perm_Nb (perm_ix 13 [0, 11, 12] [6, 7, 8, 9, 10, 1, 2, 3, 4, 5] rfl rfl rfl (by decide))) hl.1 rfl (Nat.le_of_ble_eq_true rfl) rfl rfl rfl dX8_mirror_8 (fun H locs hP hD hS => ?_)
  refine lv_aload_n hx hb dX8_mirror_11 rfl (lv_at hl 0 rfl) ?_
  refine va_get (D := (dC, dI)) (ci := 3) (v := .ref (x 6)) (C := RX8) (T := TX8) (N := 7) hx hb htg inX8 hown hK hP 0 rfl rfl 1 (by decide) (htg _ gw193) (fun _ h9 => h9) rfl dX8_mirror_12 ?_
  obtain ⟨v15, e15, h⟩ := bnd h
  refine cVp (av := []) (rest := []) (st1 := []) (k1 := 0) (k2 := 0) (wn := wSPo x ++ wFig (fun j => x (1 + j)) cy F ++ wFig (fun j => x (6 + j)) cy v15 ++ wP2 (fun j => x (11 + j)) cy P ++ wPF (fun j => x (11 + j)) cy (p_figs P)) (ci := 0) (q0 := 0) hx hb hml hown htg hN hK (c_X1_mirrorAll l dC dI cy (fun j => x (6 + j)) v8  v15 e15) (g_V gw342 gw343 gw344 gw60 gw345) hdV_X1_mirrorAll rfl ⟨⟨Nat.le_of_ble_eq_true rfl, Nat.le_of_ble_eq_true rfl⟩, Nat.le_of_ble_eq_true rfl, Nat.le_of_ble_eq_true rfl⟩ hP hD hS hA ⟨rfl, rfl⟩ rfl (perm_N (perm_ix 13 [6, 7, 8, 9, 10] [0, 1, 2, 3, 4, 5, 11, 12] rfl rfl rfl (by decide))) (perm_Nb (perm_ix 13 [0, 1, 2, 3, 4, 5, 11, 12] [6, 7, 8, 9, 10] rfl rfl rfl (by decide))) hl.1 rfl (Nat.le_of_ble_eq_true rfl) rfl rfl rfl dX8_mirror_15 (fun H locs hP hD hS => ?_)
  refine lv_aload_n hx hb dX8_mirror_18 rfl (lv_at hl 0 rfl) ?_
  obtain ⟨v19, e19, h⟩ := bnd h
  refine cVp (av := []) (rest := []) (st1 := []) (k1 := 0) (k2 := 0) (wn := wSPo x ++ wFig (fun j => x (1 + j)) cy v19.1 ++ wFig (fun j => x (6 + j)) cy v15 ++ wP2 (fun j => x (11 + j)) cy v19.2 ++ wPF (fun j => x (11 + j)) cy (p_figs v19.2)) (ci := 3) (q0 := 0) hx hb hml hown htg hN hK (c_X8_keepDraft l dC dI cy x F v15 P  v19 e19) (g_V gw324 gw326 gw2 gw59 gw327) hdV_X8_keepDraft rfl ⟨⟨Nat.le_of_ble_eq_true rfl, Nat.le_of_ble_eq_true rfl⟩, Nat.le_of_ble_eq_true rfl, Nat.le_of_ble_eq_true rfl⟩ hP hD hS hA ⟨rfl, rfl⟩ rfl (perm_T (perm_ix 13 [0, 1, 2, 3, 4, 5, 6, 7, 8, 9, 10, 11, 12] [] rfl rfl rfl (by decide))) (perm_Tb (perm_ix 13 [] [0, 1, 2, 3, 4, 5, 6, 7, 8, 9, 10, 11, 12] rfl rfl rfl (by decide))) hl.1 rfl (Nat.le_of_ble_eq_true rfl) rfl rfl rfl dX8_mirror_19 (fun H locs hP hD hS => ?_)
  refine lv_aload_n hx hb dX8_mirror_22 rfl (lv_at hl 0 rfl) ?_
  refine va_get (D := (dC, dI)) (ci := 3) (v := .ref (x 1)) (C := RX8) (T := TX8) (N := 7) hx hb htg inX8 hown hK hP 0 rfl rfl 0 (by decide) (htg _ gw192) (fun _ h9 => h9) rfl dX8_mirror_23 ?_
  obtain ⟨v26, e26, h⟩ := bnd h
  refine cSp (av := [.ref (x 1)]) (rest := []) (st1 := [.int v26]) (k1 := 0) (k2 := 0) (wn := wSPo x ++ wFig (fun j => x (1 + j)) cy v19.1 ++ wFig (fun j => x (6 + j)) cy v15 ++ wP2 (fun j => x (11 + j)) cy v19.2 ++ wPF (fun j => x (11 + j)) cy (p_figs v19.2)) hx hb hml hown htg hN hK (c_X2_greatestX l dC dI cy (fun j => x (1 + j)) v19.1  v26 e26) (g_S gw333 gw334 gw72 gw335) hdS_X2_greatestX rfl ⟨⟨Nat.le_of_ble_eq_true rfl, Nat.le_of_ble_eq_true rfl⟩, Nat.le_of_ble_eq_true rfl, Nat.le_of_ble_eq_true rfl⟩ hP hD hS hA (perm_N (perm_ix 13 [1, 2, 3, 4, 5] [0, 6, 7, 8, 9, 10, 11, 12] rfl rfl rfl (by decide))) (perm_Nb (perm_ix 13 [0, 6, 7, 8, 9, 10, 11, 12] [1, 2, 3, 4, 5] rfl rfl rfl (by decide))) hl.1 rfl (Nat.le_of_ble_eq_true rfl) rfl rfl rfl dX8_mirror_26 (fun H locs hP hD hS => ?_)
  obtain rfl := Option.some.inj h
  exact hE H locs 29 ls _ hP hD hS rfl dX8_mirror_29
def G_X8_move (F : Fig) (D : Fig) (P : PastS) (p1 : Int32) (p2 : Int32) (p3 : Int32) (p4 : Int32) : Option ((Sum Nat Int32) × Fig × Fig × PastS) :=
  (G_X8_checkCorner F p1 p2).bind fun v3 =>
  match v3 with
  | .inl k3 => some (.inl k3, F, D, P)
  | .inr _ =>
    (G_X1_copyFrom D F).bind fun v14 =>
    (G_X0_movedCorner v14 p1 p2 p3 p4).bind fun v26 =>
    if v26.1 = 0 then
      some (.inl 3, F, v26.2, P)
    else
      (G_X8_keepDraft F v26.2 P).bind fun v43 =>
      (G_X2_area v43.1).bind fun v50 =>
      some (.inr v50, v43.1, v26.2, v43.2)
abbrev rm_X8_move : Room := { frames := 7, cells := 2, slots := 12, locals := 138 }
theorem hdS_X8_move : yX8_move.cls ≠ "java/lang/invoke/MethodHandle" ∧ yX8_move.cls ≠ "java/lang/invoke/VarHandle" ∧ (parseMethodDescriptor yX8_move.desc).map (fun d => d.parameters.length) = some 4 := by decide +kernel
theorem hdV_X8_move : yX8_move.cls = RX8 ∧ yX8_move.cls ≠ "java/lang/invoke/MethodHandle" ∧ yX8_move.cls ≠ "java/lang/invoke/VarHandle" ∧ (parseMethodDescriptor yX8_move.desc).map (fun d => d.parameters.length) = some 4 := ⟨rfl, hdS_X8_move⟩
set_option maxHeartbeats 4000000 in
set_option maxRecDepth 100000 in
theorem c_X8_move (l : Launch) (dC : Nat → ClassId) (dI : Nat → Nat → Nat) (cy : Nat → ClassId) (hlt : l.stackTraces = false) (x : Nat → Nat) (F : Fig) (D : Fig) (P : PastS) (p1 : Int32) (p2 : Int32) (p3 : Int32) (p4 : Int32) (res : (Sum Nat Int32) × Fig × Fig × PastS) (h : G_X8_move F D P p1 p2 p3 p4 = some res) : CTX l (dC, dI) (TY cy) yX8_move cX8_move 5 (some .int) rm_X8_move [.ref (x 0), .int p1, .int p2, .int p3, .int p4] (wSPo x ++ wFig (fun j => x (1 + j)) cy F ++ wFig (fun j => x (6 + j)) cy D ++ wP2 (fun j => x (11 + j)) cy P ++ wPF (fun j => x (11 + j)) cy (p_figs P)) (wSPo x ++ wFig (fun j => x (1 + j)) cy res.2.1 ++ wFig (fun j => x (6 + j)) cy res.2.2.1 ++ wP2 (fun j => x (11 + j)) cy res.2.2.2 ++ wPF (fun j => x (11 + j)) cy (p_figs res.2.2.2)) (oI res.1) := by
  refine CTX.mk (own := RX8) hlt ⟨by decide, rfl⟩ (Nat.le_of_ble_eq_true rfl) ?_
  intro p e s mm args below meth cd A Q hx hb hml hown htg hN hK hX0 hA hP hD hS hE hV hT hO ls hl
  have hl : lv_has ls 5 [(0, .ref (x 0)), (1, .int p1), (2, .int p2), (3, .int p3), (4, .int p4)] := hl
  replace h : _ = some res := h
  unfold G_X8_move at h
  obtain ⟨H, hH⟩ : ∃ H, H = s.heap := ⟨_, rfl⟩
  obtain ⟨locs, hlocs⟩ : ∃ locs : List Loc, locs = [] := ⟨_, rfl⟩
  rw [← hlocs] at hS ⊢
  have hS : va_S A s.heap H locs := by rw [hH]; exact hS
  rw [← hH] at hP ⊢
  refine lv_aload_n hx hb dX8_move_0 rfl (lv_at hl 0 rfl) ?_
  refine lv_iload_n hx hb dX8_move_1 rfl (lv_at hl 1 rfl) ?_
  refine lv_iload_n hx hb dX8_move_2 rfl (lv_at hl 2 rfl) ?_
  obtain ⟨v3, e3, h⟩ := bnd h
  rcases hv3 : v3 with k3 | u3
  · simp only [hv3] at h
    refine cXVp (av := [.int p1, .int p2]) (rest := []) (k1 := 1) (k2 := 6) (wn := wSPo x ++ wFig (fun j => x (1 + j)) cy F ++ wFig (fun j => x (6 + j)) cy D ++ wP2 (fun j => x (11 + j)) cy P ++ wPF (fun j => x (11 + j)) cy (p_figs P)) (ci := 3) (q0 := 0) hx hb hml hown htg hN hK hX0 (c_X8_checkCorner l dC dI cy hlt x F p1 p2 v3 e3) (g_V gw620 gw622 gw5 gw59 gw623) hdV_X8_checkCorner rfl ⟨⟨Nat.le_of_ble_eq_true rfl, Nat.le_of_ble_eq_true rfl⟩, Nat.le_of_ble_eq_true rfl, Nat.le_of_ble_eq_true rfl⟩ hP hD hS hA ⟨rfl, rfl⟩ rfl (perm_N (perm_ix 13 [0, 1, 2, 3, 4, 5] [6, 7, 8, 9, 10, 11, 12] rfl rfl rfl (by decide))) (perm_Nb (perm_ix 13 [6, 7, 8, 9, 10, 11, 12] [0, 1, 2, 3, 4, 5] rfl rfl rfl (by decide))) hl.1 rfl (Nat.le_of_ble_eq_true rfl) rfl rfl dX8_move_3 (fun H locs ret ho hP hD hS => ?_) (fun H locs k q ce ho hP hD hS h1 h2 h3 => ?_)
    · rw [hv3] at ho; cases ho
    rw [hv3] at ho
    obtain rfl := Sum.inl.inj ho
    obtain rfl := Option.some.inj h
    exact hO H locs 1 6 3 ls _ _ q ce hP hD hS (by decide) (by decide) rfl h1 h2 h3
  simp only [hv3] at h
  refine cXVp (av := [.int p1, .int p2]) (rest := []) (k1 := 1) (k2 := 6) (wn := wSPo x ++ wFig (fun j => x (1 + j)) cy F ++ wFig (fun j => x (6 + j)) cy D ++ wP2 (fun j => x (11 + j)) cy P ++ wPF (fun j => x (11 + j)) cy (p_figs P)) (ci := 3) (q0 := 0) hx hb hml hown htg hN hK hX0 (c_X8_checkCorner l dC dI cy hlt x F p1 p2 v3 e3) (g_V gw620 gw622 gw5 gw59 gw623) hdV_X8_checkCorner rfl ⟨⟨Nat.le_of_ble_eq_true rfl, Nat.le_of_ble_eq_true rfl⟩, Nat.le_of_ble_eq_true rfl, Nat.le_of_ble_eq_true rfl⟩ hP hD hS hA ⟨rfl, rfl⟩ rfl (perm_N (perm_ix 13 [0, 1, 2, 3, 4, 5] [6, 7, 8, 9, 10, 11, 12] rfl rfl rfl (by decide))) (perm_Nb (perm_ix 13 [6, 7, 8, 9, 10, 11, 12] [0, 1, 2, 3, 4, 5] rfl rfl rfl (by decide))) hl.1 rfl (Nat.le_of_ble_eq_true rfl) rfl rfl dX8_move_3 (fun H locs ret ho hP hD hS => ?_) (fun H locs k q ce ho hP hD hS h1 h2 h3 => ?_)
  rotate_left
  · rw [hv3] at ho; cases ho
  rw [hv3] at ho
  obtain rfl := Sum.inr.inj ho
  refine W.eq (g2 := F0 mm 6 ls []) rfl ?_
  refine lv_aload_n hx hb dX8_move_6 rfl (lv_at hl 0 rfl) ?_
  refine va_get (D := (dC, dI)) (ci := 3) (v := .ref (x 6)) (C := RX8) (T := TX8) (N := 7) hx hb htg inX8 hown hK hP 0 rfl rfl 1 (by decide) (htg _ gw193) (fun _ h9 => h9) rfl dX8_move_7 ?_
  refine lv_aload_n hx hb dX8_move_10 rfl (lv_at hl 0 rfl) ?_
  refine va_get (D := (dC, dI)) (ci := 3) (v := .ref (x 1)) (C := RX8) (T := TX8) (N := 7) hx hb htg inX8 hown hK hP 0 rfl rfl 0 (by decide) (htg _ gw192) (fun _ h9 => h9) rfl dX8_move_11 ?_
  obtain ⟨v14, e14, h⟩ := bnd h
  refine cVp (av := [.ref (x 1)]) (rest := []) (st1 := []) (k1 := 1) (k2 := 6) (wn := wSPo x ++ wFig (fun j => x (1 + j)) cy F ++ wFig (fun j => x (6 + j)) cy v14 ++ wP2 (fun j => x (11 + j)) cy P ++ wPF (fun j => x (11 + j)) cy (p_figs P)) (ci := 0) (q0 := 0) hx hb hml hown htg hN hK (c_X1_copyFrom l dC dI cy (fun j => x (6 + j)) (fun j => x (1 + j)) D F  v14 e14) (g_V gw313 gw314 gw315 gw60 gw316) hdV_X1_copyFrom rfl ⟨⟨Nat.le_of_ble_eq_true rfl, Nat.le_of_ble_eq_true rfl⟩, Nat.le_of_ble_eq_true rfl, Nat.le_of_ble_eq_true rfl⟩ hP hD hS hA ⟨rfl, rfl⟩ rfl (perm_N (perm_ix 13 [6, 7, 8, 9, 10, 1, 2, 3, 4, 5] [0, 11, 12] rfl rfl rfl (by decide))) (perm_Nb (perm_ix 13 [0, 11, 12] [6, 7, 8, 9, 10, 1, 2, 3, 4, 5] rfl rfl rfl (by decide))) hl.1 rfl (Nat.le_of_ble_eq_true rfl) rfl rfl rfl dX8_move_14 (fun H locs hP hD hS => ?_)
  refine lv_aload_n hx hb dX8_move_17 rfl (lv_at hl 0 rfl) ?_
  refine va_get (D := (dC, dI)) (ci := 3) (v := .ref (x 6)) (C := RX8) (T := TX8) (N := 7) hx hb htg inX8 hown hK hP 0 rfl rfl 1 (by decide) (htg _ gw193) (fun _ h9 => h9) rfl dX8_move_18 ?_
  refine lv_iload_n hx hb dX8_move_21 rfl (lv_at hl 1 rfl) ?_
  refine lv_iload_n hx hb dX8_move_22 rfl (lv_at hl 2 rfl) ?_
  refine lv_iload_n hx hb dX8_move_23 rfl (lv_at hl 3 rfl) ?_
  refine lv_iload hx hb dX8_move_24 (lv_at hl 4 rfl) ?_
  obtain ⟨v26, e26, h⟩ := bnd h
  refine cSp (av := [.ref (x 6), .int p1, .int p2, .int p3, .int p4]) (rest := []) (st1 := [.int v26.1]) (k1 := 1) (k2 := 6) (wn := wSPo x ++ wFig (fun j => x (1 + j)) cy F ++ wFig (fun j => x (6 + j)) cy v26.2 ++ wP2 (fun j => x (11 + j)) cy P ++ wPF (fun j => x (11 + j)) cy (p_figs P)) hx hb hml hown htg hN hK (c_X0_movedCorner l dC dI cy (fun j => x (6 + j)) v14 p1 p2 p3 p4 v26 e26) (g_S gw664 gw357 gw75 gw358) hdS_X0_movedCorner rfl ⟨⟨Nat.le_of_ble_eq_true rfl, Nat.le_of_ble_eq_true rfl⟩, Nat.le_of_ble_eq_true rfl, Nat.le_of_ble_eq_true rfl⟩ hP hD hS hA (perm_N (perm_ix 13 [6, 7, 8, 9, 10] [0, 1, 2, 3, 4, 5, 11, 12] rfl rfl rfl (by decide))) (perm_Nb (perm_ix 13 [0, 1, 2, 3, 4, 5, 11, 12] [6, 7, 8, 9, 10] rfl rfl rfl (by decide))) hl.1 rfl (Nat.le_of_ble_eq_true rfl) rfl rfl rfl dX8_move_26 (fun H locs hP hD hS => ?_)
  refine lv_if_ne (tgt := 42) hx hb dX8_move_29 (by decide) (fun c29 => ?_) (fun c29 => ?_)
  · replace h := if_f h c29
    refine lv_aload_n hx hb dX8_move_42 rfl (lv_at hl 0 rfl) ?_
    obtain ⟨v43, e43, h⟩ := bnd h
    refine cVp (av := []) (rest := []) (st1 := []) (k1 := 1) (k2 := 6) (wn := wSPo x ++ wFig (fun j => x (1 + j)) cy v43.1 ++ wFig (fun j => x (6 + j)) cy v26.2 ++ wP2 (fun j => x (11 + j)) cy v43.2 ++ wPF (fun j => x (11 + j)) cy (p_figs v43.2)) (ci := 3) (q0 := 0) hx hb hml hown htg hN hK (c_X8_keepDraft l dC dI cy x F v26.2 P  v43 e43) (g_V gw324 gw326 gw2 gw59 gw327) hdV_X8_keepDraft rfl ⟨⟨Nat.le_of_ble_eq_true rfl, Nat.le_of_ble_eq_true rfl⟩, Nat.le_of_ble_eq_true rfl, Nat.le_of_ble_eq_true rfl⟩ hP hD hS hA ⟨rfl, rfl⟩ rfl (perm_T (perm_ix 13 [0, 1, 2, 3, 4, 5, 6, 7, 8, 9, 10, 11, 12] [] rfl rfl rfl (by decide))) (perm_Tb (perm_ix 13 [] [0, 1, 2, 3, 4, 5, 6, 7, 8, 9, 10, 11, 12] rfl rfl rfl (by decide))) hl.1 rfl (Nat.le_of_ble_eq_true rfl) rfl rfl rfl dX8_move_43 (fun H locs hP hD hS => ?_)
    refine lv_aload_n hx hb dX8_move_46 rfl (lv_at hl 0 rfl) ?_
    refine va_get (D := (dC, dI)) (ci := 3) (v := .ref (x 1)) (C := RX8) (T := TX8) (N := 7) hx hb htg inX8 hown hK hP 0 rfl rfl 0 (by decide) (htg _ gw192) (fun _ h9 => h9) rfl dX8_move_47 ?_
    obtain ⟨v50, e50, h⟩ := bnd h
    refine cSp (av := [.ref (x 1)]) (rest := []) (st1 := [.int v50]) (k1 := 1) (k2 := 6) (wn := wSPo x ++ wFig (fun j => x (1 + j)) cy v43.1 ++ wFig (fun j => x (6 + j)) cy v26.2 ++ wP2 (fun j => x (11 + j)) cy v43.2 ++ wPF (fun j => x (11 + j)) cy (p_figs v43.2)) hx hb hml hown htg hN hK (c_X2_area l dC dI cy (fun j => x (1 + j)) v43.1  v50 e50) (g_S gw366 gw367 gw72 gw368) hdS_X2_area rfl ⟨⟨Nat.le_of_ble_eq_true rfl, Nat.le_of_ble_eq_true rfl⟩, Nat.le_of_ble_eq_true rfl, Nat.le_of_ble_eq_true rfl⟩ hP hD hS hA (perm_N (perm_ix 13 [1, 2, 3, 4, 5] [0, 6, 7, 8, 9, 10, 11, 12] rfl rfl rfl (by decide))) (perm_Nb (perm_ix 13 [0, 6, 7, 8, 9, 10, 11, 12] [1, 2, 3, 4, 5] rfl rfl rfl (by decide))) hl.1 rfl (Nat.le_of_ble_eq_true rfl) rfl rfl rfl dX8_move_50 (fun H locs hP hD hS => ?_)
    obtain rfl := Option.some.inj h
    exact hE H locs 1 6 53 ls _ hP hD hS (by decide) (by decide) rfl ⟨_, rfl, rfl⟩ dX8_move_53
  replace h := if_t h c29
  obtain rfl := Option.some.inj h
  exact hT H locs 1 6 32 ls 67 196 71 3 "a rule would not hold" hP hD hS (by decide) (by decide) (by decide) (by decide) rfl rfl hl.1 (by decide +kernel) gw502 gw68 exat_3 exgo_3 (by decide +kernel) dX8_move_32 dX8_move_35 (Or.inl ⟨dX8_move_36, dX8_move_38, dX8_move_41⟩)
def G_X8_point (F : Fig) (p1 : Int32) (p2 : Int32) : Option ((Sum Nat Int32)) :=
  (G_X8_inRange p1 0 15).bind fun v4 =>
  if v4 = 0 then
    some (.inl 2)
  else
    (G_X8_inRange p2 0 15).bind fun v14 =>
    if v14 = 0 then
      some (.inl 2)
    else
      (G_X1_placeOf F p1 p2).bind fun v36 =>
      some (.inr v36)
abbrev rm_X8_point : Room := { frames := 6, cells := 1, slots := 6, locals := 100 }
theorem hdS_X8_point : yX8_point.cls ≠ "java/lang/invoke/MethodHandle" ∧ yX8_point.cls ≠ "java/lang/invoke/VarHandle" ∧ (parseMethodDescriptor yX8_point.desc).map (fun d => d.parameters.length) = some 2 := by decide +kernel
theorem hdV_X8_point : yX8_point.cls = RX8 ∧ yX8_point.cls ≠ "java/lang/invoke/MethodHandle" ∧ yX8_point.cls ≠ "java/lang/invoke/VarHandle" ∧ (parseMethodDescriptor yX8_point.desc).map (fun d => d.parameters.length) = some 2 := ⟨rfl, hdS_X8_point⟩
set_option maxHeartbeats 4000000 in
set_option maxRecDepth 100000 in
theorem c_X8_point (l : Launch) (dC : Nat → ClassId) (dI : Nat → Nat → Nat) (cy : Nat → ClassId) (hlt : l.stackTraces = false) (x : Nat → Nat) (F : Fig) (p1 : Int32) (p2 : Int32) (res : (Sum Nat Int32)) (h : G_X8_point F p1 p2 = some res) : CTX l (dC, dI) (TY cy) yX8_point cX8_point 3 (some .int) rm_X8_point [.ref (x 0), .int p1, .int p2] (wSPo x ++ wFig (fun j => x (1 + j)) cy F) (wSPo x ++ wFig (fun j => x (1 + j)) cy F) (oI res) := by
  refine CTX.mk (own := RX8) hlt ⟨by decide, rfl⟩ (Nat.le_of_ble_eq_true rfl) ?_
  intro p e s mm args below meth cd A Q hx hb hml hown htg hN hK hX0 hA hP hD hS hE hV hT hO ls hl
  have hl : lv_has ls 3 [(0, .ref (x 0)), (1, .int p1), (2, .int p2)] := hl
  replace h : _ = some res := h
  unfold G_X8_point at h
  obtain ⟨H, hH⟩ : ∃ H, H = s.heap := ⟨_, rfl⟩
  obtain ⟨locs, hlocs⟩ : ∃ locs : List Loc, locs = [] := ⟨_, rfl⟩
  rw [← hlocs] at hS ⊢
  have hS : va_S A s.heap H locs := by rw [hH]; exact hS
  rw [← hH] at hP ⊢
  refine lv_iload_n hx hb dX8_point_0 rfl (lv_at hl 1 rfl) ?_
  refine lv_iconst (v := 0) hx hb dX8_point_1 (by decide) ?_
  refine lv_bipush (v := 15) hx hb dX8_point_2 (by decide) ?_
  obtain ⟨v4, e4, h⟩ := bnd h
  refine cS (av := [.int p1, .int 0, .int 15]) (rest := []) (st1 := [.int v4]) (k1 := 0) (k2 := 0) hx hb hml hown htg hN hK (c_X8_inRange l dC dI cy   p1 0 15 v4 e4) (g_S gw433 gw245 gw59 gw246) hdS_X8_inRange rfl ⟨⟨Nat.le_of_ble_eq_true rfl, Nat.le_of_ble_eq_true rfl⟩, Nat.le_of_ble_eq_true rfl, Nat.le_of_ble_eq_true rfl⟩ hP hD hS hA [] [0, 1, 2, 3, 4, 5] rfl rfl rfl (by decide) (by decide) hl.1 rfl (Nat.le_of_ble_eq_true rfl) rfl rfl rfl dX8_point_4 (fun H locs hP hD hS => ?_)
  obtain ⟨hP, hD⟩ := x_perm (ws' := wSPo x ++ wFig (fun j => x (1 + j)) cy F) hP hD [0, 1, 2, 3, 4, 5] (by decide) rfl rfl
  refine lv_if_eq (tgt := 20) hx hb dX8_point_7 (by decide) (fun c7 => ?_) (fun c7 => ?_)
  · replace h := if_t h c7
    obtain rfl := Option.some.inj h
    exact hT H locs 0 0 20 ls 56 181 60 2 "the point is not on the paper" hP hD hS (by decide) (by decide) (by decide) (by decide) rfl rfl hl.1 (by decide +kernel) gw434 gw67 exat_2 exgo_2 (by decide +kernel) dX8_point_20 dX8_point_23 (Or.inl ⟨dX8_point_24, dX8_point_26, dX8_point_29⟩)
  replace h := if_f h c7
  refine lv_iload_n hx hb dX8_point_10 rfl (lv_at hl 2 rfl) ?_
  refine lv_iconst (v := 0) hx hb dX8_point_11 (by decide) ?_
  refine lv_bipush (v := 15) hx hb dX8_point_12 (by decide) ?_
  obtain ⟨v14, e14, h⟩ := bnd h
  refine cS (av := [.int p2, .int 0, .int 15]) (rest := []) (st1 := [.int v14]) (k1 := 0) (k2 := 0) hx hb hml hown htg hN hK (c_X8_inRange l dC dI cy   p2 0 15 v14 e14) (g_S gw433 gw245 gw59 gw246) hdS_X8_inRange rfl ⟨⟨Nat.le_of_ble_eq_true rfl, Nat.le_of_ble_eq_true rfl⟩, Nat.le_of_ble_eq_true rfl, Nat.le_of_ble_eq_true rfl⟩ hP hD hS hA [] [0, 1, 2, 3, 4, 5] rfl rfl rfl (by decide) (by decide) hl.1 rfl (Nat.le_of_ble_eq_true rfl) rfl rfl rfl dX8_point_14 (fun H locs hP hD hS => ?_)
  obtain ⟨hP, hD⟩ := x_perm (ws' := wSPo x ++ wFig (fun j => x (1 + j)) cy F) hP hD [0, 1, 2, 3, 4, 5] (by decide) rfl rfl
  refine lv_if_ne (tgt := 30) hx hb dX8_point_17 (by decide) (fun c17 => ?_) (fun c17 => ?_)
  · replace h := if_f h c17
    refine lv_aload_n hx hb dX8_point_30 rfl (lv_at hl 0 rfl) ?_
    refine va_get (D := (dC, dI)) (ci := 3) (v := .ref (x 1)) (C := RX8) (T := TX8) (N := 7) hx hb htg inX8 hown hK hP 0 rfl rfl 0 (by decide) (htg _ gw192) (fun _ h9 => h9) rfl dX8_point_31 ?_
    refine lv_iload_n hx hb dX8_point_34 rfl (lv_at hl 1 rfl) ?_
    refine lv_iload_n hx hb dX8_point_35 rfl (lv_at hl 2 rfl) ?_
    obtain ⟨v36, e36, h⟩ := bnd h
    refine cV (av := [.int p1, .int p2]) (rest := []) (st1 := [.int v36]) (k1 := 0) (k2 := 0) (ci := 0) (q0 := 0) hx hb hml hown htg hN hK (c_X1_placeOf l dC dI cy (fun j => x (1 + j)) F p1 p2 v36 e36) (g_V gw644 gw645 gw646 gw60 gw647) hdV_X1_placeOf rfl ⟨⟨Nat.le_of_ble_eq_true rfl, Nat.le_of_ble_eq_true rfl⟩, Nat.le_of_ble_eq_true rfl, Nat.le_of_ble_eq_true rfl⟩ hP hD hS hA ⟨rfl, rfl⟩ rfl [1, 2, 3, 4, 5] [0] rfl rfl rfl (by decide) (by decide) hl.1 rfl (Nat.le_of_ble_eq_true rfl) rfl rfl rfl dX8_point_36 (fun H locs hP hD hS => ?_)
    obtain ⟨hP, hD⟩ := x_perm (ws' := wSPo x ++ wFig (fun j => x (1 + j)) cy F) hP hD [0, 1, 2, 3, 4, 5] (by decide) rfl rfl
    obtain rfl := Option.some.inj h
    exact hE H locs 0 0 39 ls _ hP hD hS (by decide) (by decide) rfl ⟨_, rfl, rfl⟩ dX8_point_39
  replace h := if_t h c17
  obtain rfl := Option.some.inj h
  exact hT H locs 0 0 20 ls 56 181 60 2 "the point is not on the paper" hP hD hS (by decide) (by decide) (by decide) (by decide) rfl rfl hl.1 (by decide +kernel) gw434 gw67 exat_2 exgo_2 (by decide +kernel) dX8_point_20 dX8_point_23 (Or.inl ⟨dX8_point_24, dX8_point_26, dX8_point_29⟩)
def G_X8_remove (F : Fig) (D : Fig) (P : PastS) (p1 : Int32) (p2 : Int32) : Option ((Sum Nat Int32) × Fig × Fig × PastS) :=
  (G_X8_checkCorner F p1 p2).bind fun v3 =>
  match v3 with
  | .inl k3 => some (.inl k3, F, D, P)
  | .inr _ =>
    (G_X1_copyFrom D F).bind fun v14 =>
    (G_X0_lostCorner v14 p1 p2).bind fun v23 =>
    if v23.1 = 0 then
      some (.inl 3, F, v23.2, P)
    else
      (G_X8_keepDraft F v23.2 P).bind fun v40 =>
      (G_X2_area v40.1).bind fun v47 =>
      some (.inr v47, v40.1, v23.2, v40.2)
abbrev rm_X8_remove : Room := { frames := 7, cells := 2, slots := 12, locals := 136 }
theorem hdS_X8_remove : yX8_remove.cls ≠ "java/lang/invoke/MethodHandle" ∧ yX8_remove.cls ≠ "java/lang/invoke/VarHandle" ∧ (parseMethodDescriptor yX8_remove.desc).map (fun d => d.parameters.length) = some 2 := by decide +kernel
theorem hdV_X8_remove : yX8_remove.cls = RX8 ∧ yX8_remove.cls ≠ "java/lang/invoke/MethodHandle" ∧ yX8_remove.cls ≠ "java/lang/invoke/VarHandle" ∧ (parseMethodDescriptor yX8_remove.desc).map (fun d => d.parameters.length) = some 2 := ⟨rfl, hdS_X8_remove⟩
set_option maxHeartbeats 4000000 in
set_option maxRecDepth 100000 in
theorem c_X8_remove (l : Launch) (dC : Nat → ClassId) (dI : Nat → Nat → Nat) (cy : Nat → ClassId) (hlt : l.stackTraces = false) (x : Nat → Nat) (F : Fig) (D : Fig) (P : PastS) (p1 : Int32) (p2 : Int32) (res : (Sum Nat Int32) × Fig × Fig × PastS) (h : G_X8_remove F D P p1 p2 = some res) : CTX l (dC, dI) (TY cy) yX8_remove cX8_remove 3 (some .int) rm_X8_remove [.ref (x 0), .int p1, .int p2] (wSPo x ++ wFig (fun j => x (1 + j)) cy F ++ wFig (fun j => x (6 + j)) cy D ++ wP2 (fun j => x (11 + j)) cy P ++ wPF (fun j => x (11 + j)) cy (p_figs P)) (wSPo x ++ wFig (fun j => x (1 + j)) cy res.2.1 ++ wFig (fun j => x (6 + j)) cy res.2.2.1 ++ wP2 (fun j => x (11 + j)) cy res.2.2.2 ++ wPF (fun j => x (11 + j)) cy (p_figs res.2.2.2)) (oI res.1) := by
  refine CTX.mk (own := RX8) hlt ⟨by decide, rfl⟩ (Nat.le_of_ble_eq_true rfl) ?_
  intro p e s mm args below meth cd A Q hx hb hml hown htg hN hK hX0 hA hP hD hS hE hV hT hO ls hl
  have hl : lv_has ls 3 [(0, .ref (x 0)), (1, .int p1), (2, .int p2)] := hl
  replace h : _ = some res := h
  unfold G_X8_remove at h
  obtain ⟨H, hH⟩ : ∃ H, H = s.heap := ⟨_, rfl⟩
  obtain ⟨locs, hlocs⟩ : ∃ locs : List Loc, locs = [] := ⟨_, rfl⟩
  rw [← hlocs] at hS ⊢
  have hS : va_S A s.heap H locs := by rw [hH]; exact hS
  rw [← hH] at hP ⊢
  refine lv_aload_n hx hb dX8_remove_0 rfl (lv_at hl 0 rfl) ?_
  refine lv_iload_n hx hb dX8_remove_1 rfl (lv_at hl 1 rfl) ?_
  refine lv_iload_n hx hb dX8_remove_2 rfl (lv_at hl 2 rfl) ?_
  obtain ⟨v3, e3, h⟩ := bnd h
  rcases hv3 : v3 with k3 | u3
  · simp only [hv3] at h
    refine cXVp (av := [.int p1, .int p2]) (rest := []) (k1 := 1) (k2 := 6) (wn := wSPo x ++ wFig (fun j => x (1 + j)) cy F ++ wFig (fun j => x (6 + j)) cy D ++ wP2 (fun j => x (11 + j)) cy P ++ wPF (fun j => x (11 + j)) cy (p_figs P)) (ci := 3) (q0 := 0) hx hb hml hown htg hN hK hX0 (c_X8_checkCorner l dC dI cy hlt x F p1 p2 v3 e3) (g_V gw620 gw622 gw5 gw59 gw623) hdV_X8_checkCorner rfl ⟨⟨Nat.le_of_ble_eq_true rfl, Nat.le_of_ble_eq_true rfl⟩, Nat.le_of_ble_eq_true rfl, Nat.le_of_ble_eq_true rfl⟩ hP hD hS hA ⟨rfl, rfl⟩ rfl (perm_N (perm_ix 13 [0, 1, 2, 3, 4, 5] [6, 7, 8, 9, 10, 11, 12] rfl rfl rfl (by decide))) (perm_Nb (perm_ix 13 [6, 7, 8, 9, 10, 11, 12] [0, 1, 2, 3, 4, 5] rfl rfl rfl (by decide))) hl.1 rfl (Nat.le_of_ble_eq_true rfl) rfl rfl dX8_remove_3 (fun H locs ret ho hP hD hS => ?_) (fun H locs k q ce ho hP hD hS h1 h2 h3 => ?_)
    · rw [hv3] at ho; cases ho
    rw [hv3] at ho
    obtain rfl := Sum.inl.inj ho
    obtain rfl := Option.some.inj h
    exact hO H locs 1 6 3 ls _ _ q ce hP hD hS (by decide) (by decide) rfl h1 h2 h3
  simp only [hv3] at h
  refine cXVp (av := [.int p1, .int p2]) (rest := []) (k1 := 1) (k2 := 6) (wn := wSPo x ++ wFig (fun j => x (1 + j)) cy F ++ wFig (fun j => x (6 + j)) cy D ++ wP2 (fun j => x (11 + j)) cy P ++ wPF (fun j => x (11 + j)) cy (p_figs P)) (ci := 3) (q0 := 0) hx hb hml hown htg hN hK hX0 (c_X8_checkCorner l dC dI cy hlt x F p1 p2 v3 e3) (g_V gw620 gw622 gw5 gw59 gw623) hdV_X8_checkCorner rfl ⟨⟨Nat.le_of_ble_eq_true rfl, Nat.le_of_ble_eq_true rfl⟩, Nat.le_of_ble_eq_true rfl, Nat.le_of_ble_eq_true rfl⟩ hP hD hS hA ⟨rfl, rfl⟩ rfl (perm_N (perm_ix 13 [0, 1, 2, 3, 4, 5] [6, 7, 8, 9, 10, 11, 12] rfl rfl rfl (by decide))) (perm_Nb (perm_ix 13 [6, 7, 8, 9, 10, 11, 12] [0, 1, 2, 3, 4, 5] rfl rfl rfl (by decide))) hl.1 rfl (Nat.le_of_ble_eq_true rfl) rfl rfl dX8_remove_3 (fun H locs ret ho hP hD hS => ?_) (fun H locs k q ce ho hP hD hS h1 h2 h3 => ?_)
  rotate_left
  · rw [hv3] at ho; cases ho
  rw [hv3] at ho
  obtain rfl := Sum.inr.inj ho
  refine W.eq (g2 := F0 mm 6 ls []) rfl ?_
  refine lv_aload_n hx hb dX8_remove_6 rfl (lv_at hl 0 rfl) ?_
  refine va_get (D := (dC, dI)) (ci := 3) (v := .ref (x 6)) (C := RX8) (T := TX8) (N := 7) hx hb htg inX8 hown hK hP 0 rfl rfl 1 (by decide) (htg _ gw193) (fun _ h9 => h9) rfl dX8_remove_7 ?_
  refine lv_aload_n hx hb dX8_remove_10 rfl (lv_at hl 0 rfl) ?_
  refine va_get (D := (dC, dI)) (ci := 3) (v := .ref (x 1)) (C := RX8) (T := TX8) (N := 7) hx hb htg inX8 hown hK hP 0 rfl rfl 0 (by decide) (htg _ gw192) (fun _ h9 => h9) rfl dX8_remove_11 ?_
  obtain ⟨v14, e14, h⟩ := bnd h
  refine cVp (av := [.ref (x 1)]) (rest := []) (st1 := []) (k1 := 1) (k2 := 6) (wn := wSPo x ++ wFig (fun j => x (1 + j)) cy F ++ wFig (fun j => x (6 + j)) cy v14 ++ wP2 (fun j => x (11 + j)) cy P ++ wPF (fun j => x (11 + j)) cy (p_figs P)) (ci := 0) (q0 := 0) hx hb hml hown htg hN hK (c_X1_copyFrom l dC dI cy (fun j => x (6 + j)) (fun j => x (1 + j)) D F  v14 e14) (g_V gw313 gw314 gw315 gw60 gw316) hdV_X1_copyFrom rfl ⟨⟨Nat.le_of_ble_eq_true rfl, Nat.le_of_ble_eq_true rfl⟩, Nat.le_of_ble_eq_true rfl, Nat.le_of_ble_eq_true rfl⟩ hP hD hS hA ⟨rfl, rfl⟩ rfl (perm_N (perm_ix 13 [6, 7, 8, 9, 10, 1, 2, 3, 4, 5] [0, 11, 12] rfl rfl rfl (by decide))) (perm_Nb (perm_ix 13 [0, 11, 12] [6, 7, 8, 9, 10, 1, 2, 3, 4, 5] rfl rfl rfl (by decide))) hl.1 rfl (Nat.le_of_ble_eq_true rfl) rfl rfl rfl dX8_remove_14 (fun H locs hP hD hS => ?_)
  refine lv_aload_n hx hb dX8_remove_17 rfl (lv_at hl 0 rfl) ?_
  refine va_get (D := (dC, dI)) (ci := 3) (v := .ref (x 6)) (C := RX8) (T := TX8) (N := 7) hx hb htg inX8 hown hK hP 0 rfl rfl 1 (by decide) (htg _ gw193) (fun _ h9 => h9) rfl dX8_remove_18 ?_
  refine lv_iload_n hx hb dX8_remove_21 rfl (lv_at hl 1 rfl) ?_
  refine lv_iload_n hx hb dX8_remove_22 rfl (lv_at hl 2 rfl) ?_
  obtain ⟨v23, e23, h⟩ := bnd h
  refine cSp (av := [.ref (x 6), .int p1, .int p2]) (rest := []) (st1 := [.int v23.1]) (k1 := 1) (k2 := 6) (wn := wSPo x ++ wFig (fun j => x (1 + j)) cy F ++ wFig (fun j => x (6 + j)) cy v23.2 ++ wP2 (fun j => x (11 + j)) cy P ++ wPF (fun j => x (11 + j)) cy (p_figs P)) hx hb hml hown htg hN hK (c_X0_lostCorner l dC dI cy (fun j => x (6 + j)) v14 p1 p2 v23 e23) (g_S gw686 gw687 gw75 gw688) hdS_X0_lostCorner rfl ⟨⟨Nat.le_of_ble_eq_true rfl, Nat.le_of_ble_eq_true rfl⟩, Nat.le_of_ble_eq_true rfl, Nat.le_of_ble_eq_true rfl⟩ hP hD hS hA (perm_N (perm_ix 13 [6, 7, 8, 9, 10] [0, 1, 2, 3, 4, 5, 11, 12] rfl rfl rfl (by decide))) (perm_Nb (perm_ix 13 [0, 1, 2, 3, 4, 5, 11, 12] [6, 7, 8, 9, 10] rfl rfl rfl (by decide))) hl.1 rfl (Nat.le_of_ble_eq_true rfl) rfl rfl rfl dX8_remove_23 (fun H locs hP hD hS => ?_)
  refine lv_if_ne (tgt := 39) hx hb dX8_remove_26 (by decide) (fun c26 => ?_) (fun c26 => ?_)
  · replace h := if_f h c26
    refine lv_aload_n hx hb dX8_remove_39 rfl (lv_at hl 0 rfl) ?_
    obtain ⟨v40, e40, h⟩ := bnd h
    refine cVp (av := []) (rest := []) (st1 := []) (k1 := 1) (k2 := 6) (wn := wSPo x ++ wFig (fun j => x (1 + j)) cy v40.1 ++ wFig (fun j => x (6 + j)) cy v23.2 ++ wP2 (fun j => x (11 + j)) cy v40.2 ++ wPF (fun j => x (11 + j)) cy (p_figs v40.2)) (ci := 3) (q0 := 0) hx hb hml hown htg hN hK (c_X8_keepDraft l dC dI cy x F v23.2 P  v40 e40) (g_V gw324 gw326 gw2 gw59 gw327) hdV_X8_keepDraft rfl ⟨⟨Nat.le_of_ble_eq_true rfl, Nat.le_of_ble_eq_true rfl⟩, Nat.le_of_ble_eq_true rfl, Nat.le_of_ble_eq_true rfl⟩ hP hD hS hA ⟨rfl, rfl⟩ rfl (perm_T (perm_ix 13 [0, 1, 2, 3, 4, 5, 6, 7, 8, 9, 10, 11, 12] [] rfl rfl rfl (by decide))) (perm_Tb (perm_ix 13 [] [0, 1, 2, 3, 4, 5, 6, 7, 8, 9, 10, 11, 12] rfl rfl rfl (by decide))) hl.1 rfl (Nat.le_of_ble_eq_true rfl) rfl rfl rfl dX8_remove_40 (fun H locs hP hD hS => ?_)
    refine lv_aload_n hx hb dX8_remove_43 rfl (lv_at hl 0 rfl) ?_
    refine va_get (D := (dC, dI)) (ci := 3) (v := .ref (x 1)) (C := RX8) (T := TX8) (N := 7) hx hb htg inX8 hown hK hP 0 rfl rfl 0 (by decide) (htg _ gw192) (fun _ h9 => h9) rfl dX8_remove_44 ?_
    obtain ⟨v47, e47, h⟩ := bnd h
    refine cSp (av := [.ref (x 1)]) (rest := []) (st1 := [.int v47]) (k1 := 1) (k2 := 6) (wn := wSPo x ++ wFig (fun j => x (1 + j)) cy v40.1 ++ wFig (fun j => x (6 + j)) cy v23.2 ++ wP2 (fun j => x (11 + j)) cy v40.2 ++ wPF (fun j => x (11 + j)) cy (p_figs v40.2)) hx hb hml hown htg hN hK (c_X2_area l dC dI cy (fun j => x (1 + j)) v40.1  v47 e47) (g_S gw366 gw367 gw72 gw368) hdS_X2_area rfl ⟨⟨Nat.le_of_ble_eq_true rfl, Nat.le_of_ble_eq_true rfl⟩, Nat.le_of_ble_eq_true rfl, Nat.le_of_ble_eq_true rfl⟩ hP hD hS hA (perm_N (perm_ix 13 [1, 2, 3, 4, 5] [0, 6, 7, 8, 9, 10, 11, 12] rfl rfl rfl (by decide))) (perm_Nb (perm_ix 13 [0, 6, 7, 8, 9, 10, 11, 12] [1, 2, 3, 4, 5] rfl rfl rfl (by decide))) hl.1 rfl (Nat.le_of_ble_eq_true rfl) rfl rfl rfl dX8_remove_47 (fun H locs hP hD hS => ?_)
    obtain rfl := Option.some.inj h
    exact hE H locs 1 6 50 ls _ hP hD hS (by decide) (by decide) rfl ⟨_, rfl, rfl⟩ dX8_remove_50
  replace h := if_t h c26
  obtain rfl := Option.some.inj h
  exact hT H locs 1 6 29 ls 67 209 71 3 "the ring has 3 corners, or a rule would not hold" hP hD hS (by decide) (by decide) (by decide) (by decide) rfl rfl hl.1 (by decide +kernel) gw502 gw68 exat_3 exgo_3 (by decide +kernel) dX8_remove_29 dX8_remove_32 (Or.inl ⟨dX8_remove_33, dX8_remove_35, dX8_remove_38⟩)
def G_X8_restore (F : Fig) (P : PastS) (SL : Nat → Fig) (SV : Nat → Int32) (p1 : Int32) : Option ((Sum Nat Int32) × Fig × PastS) :=
  (G_X8_checkSlot p1).bind fun v1 =>
  match v1 with
  | .inl k1 => some (.inl k1, F, P)
  | .inr _ =>
    (rd 2 SV p1).bind fun v9 =>
    if v9 = 0 then
      some (.inl 3, F, P)
    else
      (rdx 2 p1).bind fun k33 =>
      (G_X1_copyFrom F (SL k33)).bind fun v34 =>
      (G_X3_forgetAll P).bind fun v41 =>
      some (.inr (f_corners v34), v34, v41)
abbrev rm_X8_restore : Room := { frames := 7, cells := 2, slots := 12, locals := 102 }
theorem hdS_X8_restore : yX8_restore.cls ≠ "java/lang/invoke/MethodHandle" ∧ yX8_restore.cls ≠ "java/lang/invoke/VarHandle" ∧ (parseMethodDescriptor yX8_restore.desc).map (fun d => d.parameters.length) = some 1 := by decide +kernel
theorem hdV_X8_restore : yX8_restore.cls = RX8 ∧ yX8_restore.cls ≠ "java/lang/invoke/MethodHandle" ∧ yX8_restore.cls ≠ "java/lang/invoke/VarHandle" ∧ (parseMethodDescriptor yX8_restore.desc).map (fun d => d.parameters.length) = some 1 := ⟨rfl, hdS_X8_restore⟩
set_option maxHeartbeats 4000000 in
set_option maxRecDepth 100000 in
theorem c_X8_restore (l : Launch) (dC : Nat → ClassId) (dI : Nat → Nat → Nat) (cy : Nat → ClassId) (hlt : l.stackTraces = false) (x : Nat → Nat) (F : Fig) (P : PastS) (SL : Nat → Fig) (SV : Nat → Int32) (p1 : Int32) (res : (Sum Nat Int32) × Fig × PastS) (h : G_X8_restore F P SL SV p1 = some res) : CTX l (dC, dI) (TY cy) yX8_restore cX8_restore 2 (some .int) rm_X8_restore [.ref (x 0), .int p1] (wSPo x ++ wFig (fun j => x (1 + j)) cy F ++ wP2 (fun j => x (11 + j)) cy P ++ wSlots (fun j => x (83 + j)) cy SL ++ wBA (x 94) cy SV ++ wPF (fun j => x (11 + j)) cy (p_figs P)) (wSPo x ++ wFig (fun j => x (1 + j)) cy res.2.1 ++ wP2 (fun j => x (11 + j)) cy res.2.2 ++ wSlots (fun j => x (83 + j)) cy SL ++ wBA (x 94) cy SV ++ wPF (fun j => x (11 + j)) cy (p_figs res.2.2)) (oI res.1) := by
  refine CTX.mk (own := RX8) hlt ⟨by decide, rfl⟩ (Nat.le_of_ble_eq_true rfl) ?_
  intro p e s mm args below meth cd A Q hx hb hml hown htg hN hK hX0 hA hP hD hS hE hV hT hO ls hl
  have hl : lv_has ls 2 [(0, .ref (x 0)), (1, .int p1)] := hl
  replace h : _ = some res := h
  unfold G_X8_restore at h
  obtain ⟨H, hH⟩ : ∃ H, H = s.heap := ⟨_, rfl⟩
  obtain ⟨locs, hlocs⟩ : ∃ locs : List Loc, locs = [] := ⟨_, rfl⟩
  rw [← hlocs] at hS ⊢
  have hS : va_S A s.heap H locs := by rw [hH]; exact hS
  rw [← hH] at hP ⊢
  refine lv_iload_n hx hb dX8_restore_0 rfl (lv_at hl 1 rfl) ?_
  obtain ⟨v1, e1, h⟩ := bnd h
  rcases hv1 : v1 with k1 | u1
  · simp only [hv1] at h
    refine cXSp (av := [.int p1]) (rest := []) (k1 := 1) (k2 := 6) (wn := wSPo x ++ wFig (fun j => x (1 + j)) cy F ++ wP2 (fun j => x (11 + j)) cy P ++ wSlots (fun j => x (83 + j)) cy SL ++ wBA (x 94) cy SV ++ wPF (fun j => x (11 + j)) cy (p_figs P)) hx hb hml hown htg hN hK hX0 (c_X8_checkSlot l dC dI cy hlt   p1 v1 e1) (g_S gw828 gw829 gw59 gw830) hdS_X8_checkSlot rfl ⟨⟨Nat.le_of_ble_eq_true rfl, Nat.le_of_ble_eq_true rfl⟩, Nat.le_of_ble_eq_true rfl, Nat.le_of_ble_eq_true rfl⟩ hP hD hS hA (perm_N (perm_ix 20 [] [0, 1, 2, 3, 4, 5, 6, 7, 8, 9, 10, 11, 12, 13, 14, 15, 16, 17, 18, 19] rfl rfl rfl (by decide))) (perm_Nb (perm_ix 20 [0, 1, 2, 3, 4, 5, 6, 7, 8, 9, 10, 11, 12, 13, 14, 15, 16, 17, 18, 19] [] rfl rfl rfl (by decide))) hl.1 rfl (Nat.le_of_ble_eq_true rfl) rfl rfl dX8_restore_1 (fun H locs ret ho hP hD hS => ?_) (fun H locs k q ce ho hP hD hS h1 h2 h3 => ?_)
    · rw [hv1] at ho; cases ho
    rw [hv1] at ho
    obtain rfl := Sum.inl.inj ho
    obtain rfl := Option.some.inj h
    exact hO H locs 1 6 1 ls _ _ q ce hP hD hS (by decide) (by decide) rfl h1 h2 h3
  simp only [hv1] at h
  refine cXSp (av := [.int p1]) (rest := []) (k1 := 1) (k2 := 6) (wn := wSPo x ++ wFig (fun j => x (1 + j)) cy F ++ wP2 (fun j => x (11 + j)) cy P ++ wSlots (fun j => x (83 + j)) cy SL ++ wBA (x 94) cy SV ++ wPF (fun j => x (11 + j)) cy (p_figs P)) hx hb hml hown htg hN hK hX0 (c_X8_checkSlot l dC dI cy hlt   p1 v1 e1) (g_S gw828 gw829 gw59 gw830) hdS_X8_checkSlot rfl ⟨⟨Nat.le_of_ble_eq_true rfl, Nat.le_of_ble_eq_true rfl⟩, Nat.le_of_ble_eq_true rfl, Nat.le_of_ble_eq_true rfl⟩ hP hD hS hA (perm_N (perm_ix 20 [] [0, 1, 2, 3, 4, 5, 6, 7, 8, 9, 10, 11, 12, 13, 14, 15, 16, 17, 18, 19] rfl rfl rfl (by decide))) (perm_Nb (perm_ix 20 [0, 1, 2, 3, 4, 5, 6, 7, 8, 9, 10, 11, 12, 13, 14, 15, 16, 17, 18, 19] [] rfl rfl rfl (by decide))) hl.1 rfl (Nat.le_of_ble_eq_true rfl) rfl rfl dX8_restore_1 (fun H locs ret ho hP hD hS => ?_) (fun H locs k q ce ho hP hD hS h1 h2 h3 => ?_)
  rotate_left
  · rw [hv1] at ho; cases ho
  rw [hv1] at ho
  obtain rfl := Sum.inr.inj ho
  refine W.eq (g2 := F0 mm 4 ls []) rfl ?_
  refine lv_aload_n hx hb dX8_restore_4 rfl (lv_at hl 0 rfl) ?_
  refine va_get (D := (dC, dI)) (ci := 3) (v := .ref (x 94)) (C := RX8) (T := TX8) (N := 7) hx hb htg inX8 hown hK hP 0 rfl rfl 4 (by decide) (htg _ gw196) (fun _ h9 => h9) rfl dX8_restore_5 ?_
  refine lv_iload_n hx hb dX8_restore_8 rfl (lv_at hl 1 rfl) ?_
  obtain ⟨v9, e9, h⟩ := bnd h
  refine x_zald (v := v9) hx hb hK hP 19 1 rfl rfl e9 dX8_restore_9 ?_
  refine lv_if_ne (tgt := 24) hx hb dX8_restore_10 (by decide) (fun c10 => ?_) (fun c10 => ?_)
  · replace h := if_f h c10
    refine lv_aload_n hx hb dX8_restore_24 rfl (lv_at hl 0 rfl) ?_
    refine va_get (D := (dC, dI)) (ci := 3) (v := .ref (x 1)) (C := RX8) (T := TX8) (N := 7) hx hb htg inX8 hown hK hP 0 rfl rfl 0 (by decide) (htg _ gw192) (fun _ h9 => h9) rfl dX8_restore_25 ?_
    refine lv_aload_n hx hb dX8_restore_28 rfl (lv_at hl 0 rfl) ?_
    refine va_get (D := (dC, dI)) (ci := 3) (v := .ref (x 83)) (C := RX8) (T := TX8) (N := 7) hx hb htg inX8 hown hK hP 0 rfl rfl 3 (by decide) (htg _ gw195) (fun _ h9 => h9) rfl dX8_restore_29 ?_
    refine lv_iload_n hx hb dX8_restore_32 rfl (lv_at hl 1 rfl) ?_
    obtain ⟨k33, e33, h⟩ := bnd h
    have hk33 := (rdx_in e33).2.2
    rcases (by omega : k33 = 0 ∨ k33 = 1) with rfl | rfl
    · refine x_aldq (C := "SquaredPaper$Figure") (v := .ref (x 84)) hx hb hK hP 8 3 rfl rfl e33 rfl dX8_restore_33 ?_
      obtain ⟨v34, e34, h⟩ := bnd h
      refine cVp (av := [.ref (x 84)]) (rest := []) (st1 := []) (k1 := 1) (k2 := 6) (wn := wSPo x ++ wFig (fun j => x (1 + j)) cy v34 ++ wP2 (fun j => x (11 + j)) cy P ++ wSlots (fun j => x (83 + j)) cy SL ++ wBA (x 94) cy SV ++ wPF (fun j => x (11 + j)) cy (p_figs P)) (ci := 0) (q0 := 0) hx hb hml hown htg hN hK (c_X1_copyFrom l dC dI cy (fun j => x (1 + j)) (fun j => x (84 + j)) F (SL 0)  v34 e34) (g_V gw313 gw314 gw315 gw60 gw316) hdV_X1_copyFrom rfl ⟨⟨Nat.le_of_ble_eq_true rfl, Nat.le_of_ble_eq_true rfl⟩, Nat.le_of_ble_eq_true rfl, Nat.le_of_ble_eq_true rfl⟩ hP hD hS hA ⟨rfl, rfl⟩ rfl (perm_N (perm_ix 20 [1, 2, 3, 4, 5, 9, 10, 11, 12, 13] [0, 6, 7, 8, 14, 15, 16, 17, 18, 19] rfl rfl rfl (by decide))) (perm_Nb (perm_ix 20 [0, 6, 7, 8, 14, 15, 16, 17, 18, 19] [1, 2, 3, 4, 5, 9, 10, 11, 12, 13] rfl rfl rfl (by decide))) hl.1 rfl (Nat.le_of_ble_eq_true rfl) rfl rfl rfl dX8_restore_34 (fun H locs hP hD hS => ?_)
      refine lv_aload_n hx hb dX8_restore_37 rfl (lv_at hl 0 rfl) ?_
      refine va_get (D := (dC, dI)) (ci := 3) (v := .ref (x 11)) (C := RX8) (T := TX8) (N := 7) hx hb htg inX8 hown hK hP 0 rfl rfl 2 (by decide) (htg _ gw194) (fun _ h9 => h9) rfl dX8_restore_38 ?_
      obtain ⟨v41, e41, h⟩ := bnd h
      refine cVp (av := []) (rest := []) (st1 := []) (k1 := 1) (k2 := 6) (wn := wSPo x ++ wFig (fun j => x (1 + j)) cy v34 ++ wP2 (fun j => x (11 + j)) cy v41 ++ wSlots (fun j => x (83 + j)) cy SL ++ wBA (x 94) cy SV ++ wPF (fun j => x (11 + j)) cy (p_figs v41)) (ci := 1) (q0 := 0) hx hb hml hown htg hN hK (c_X3_forgetAll l dC dI cy (fun j => x (11 + j)) P  v41 e41) (g_V gw530 gw531 gw532 gw61 gw533) hdV_X3_forgetAll rfl ⟨⟨Nat.le_of_ble_eq_true rfl, Nat.le_of_ble_eq_true rfl⟩, Nat.le_of_ble_eq_true rfl, Nat.le_of_ble_eq_true rfl⟩ hP hD hS hA ⟨rfl, rfl⟩ rfl (perm_T (perm_ix 20 [6, 7] [0, 1, 2, 3, 4, 5, 8, 9, 10, 11, 12, 13, 14, 15, 16, 17, 18, 19] rfl rfl rfl (by decide))) (perm_Tb (perm_ix 20 [0, 1, 2, 3, 4, 5, 8, 9, 10, 11, 12, 13, 14, 15, 16, 17, 18, 19] [6, 7] rfl rfl rfl (by decide))) hl.1 rfl (Nat.le_of_ble_eq_true rfl) rfl rfl rfl dX8_restore_41 (fun H locs hP hD hS => ?_)
      refine lv_aload_n hx hb dX8_restore_44 rfl (lv_at hl 0 rfl) ?_
      refine va_get (D := (dC, dI)) (ci := 3) (v := .ref (x 1)) (C := RX8) (T := TX8) (N := 7) hx hb htg inX8 hown hK hP 0 rfl rfl 0 (by decide) (htg _ gw192) (fun _ h9 => h9) rfl dX8_restore_45 ?_
      refine va_getN (D := (dC, dI)) (ci := 0) (v := .int (f_corners v34)) (C := RX1) (T := TX1) (N := 6) hx hb htg inX1 hown hK hP 1 rfl rfl 1 (by decide) (va_Nw.use rfl (hN (.fieldLinkNest RX8 92 "SquaredPaper$Figure" "corners" "I" "SquaredPaper") (by decide +kernel))) (fun _ h9 => h9) rfl dX8_restore_48 ?_
      obtain rfl := Option.some.inj h
      exact hE H locs 1 6 51 ls _ hP hD hS (by decide) (by decide) rfl ⟨_, rfl, rfl⟩ dX8_restore_51
    · refine x_aldq (C := "SquaredPaper$Figure") (v := .ref (x 89)) hx hb hK hP 8 3 rfl rfl e33 rfl dX8_restore_33 ?_
      obtain ⟨v34, e34, h⟩ := bnd h
      refine cVp (av := [.ref (x 89)]) (rest := []) (st1 := []) (k1 := 1) (k2 := 6) (wn := wSPo x ++ wFig (fun j => x (1 + j)) cy v34 ++ wP2 (fun j => x (11 + j)) cy P ++ wSlots (fun j => x (83 + j)) cy SL ++ wBA (x 94) cy SV ++ wPF (fun j => x (11 + j)) cy (p_figs P)) (ci := 0) (q0 := 0) hx hb hml hown htg hN hK (c_X1_copyFrom l dC dI cy (fun j => x (1 + j)) (fun j => x (89 + j)) F (SL 1)  v34 e34) (g_V gw313 gw314 gw315 gw60 gw316) hdV_X1_copyFrom rfl ⟨⟨Nat.le_of_ble_eq_true rfl, Nat.le_of_ble_eq_true rfl⟩, Nat.le_of_ble_eq_true rfl, Nat.le_of_ble_eq_true rfl⟩ hP hD hS hA ⟨rfl, rfl⟩ rfl (perm_N (perm_ix 20 [1, 2, 3, 4, 5, 14, 15, 16, 17, 18] [0, 6, 7, 8, 9, 10, 11, 12, 13, 19] rfl rfl rfl (by decide))) (perm_Nb (perm_ix 20 [0, 6, 7, 8, 9, 10, 11, 12, 13, 19] [1, 2, 3, 4, 5, 14, 15, 16, 17, 18] rfl rfl rfl (by decide))) hl.1 rfl (Nat.le_of_ble_eq_true rfl) rfl rfl rfl dX8_restore_34 (fun H locs hP hD hS => ?_)
      refine lv_aload_n hx hb dX8_restore_37 rfl (lv_at hl 0 rfl) ?_
      refine va_get (D := (dC, dI)) (ci := 3) (v := .ref (x 11)) (C := RX8) (T := TX8) (N := 7) hx hb htg inX8 hown hK hP 0 rfl rfl 2 (by decide) (htg _ gw194) (fun _ h9 => h9) rfl dX8_restore_38 ?_
      obtain ⟨v41, e41, h⟩ := bnd h
      refine cVp (av := []) (rest := []) (st1 := []) (k1 := 1) (k2 := 6) (wn := wSPo x ++ wFig (fun j => x (1 + j)) cy v34 ++ wP2 (fun j => x (11 + j)) cy v41 ++ wSlots (fun j => x (83 + j)) cy SL ++ wBA (x 94) cy SV ++ wPF (fun j => x (11 + j)) cy (p_figs v41)) (ci := 1) (q0 := 0) hx hb hml hown htg hN hK (c_X3_forgetAll l dC dI cy (fun j => x (11 + j)) P  v41 e41) (g_V gw530 gw531 gw532 gw61 gw533) hdV_X3_forgetAll rfl ⟨⟨Nat.le_of_ble_eq_true rfl, Nat.le_of_ble_eq_true rfl⟩, Nat.le_of_ble_eq_true rfl, Nat.le_of_ble_eq_true rfl⟩ hP hD hS hA ⟨rfl, rfl⟩ rfl (perm_T (perm_ix 20 [6, 7] [0, 1, 2, 3, 4, 5, 8, 9, 10, 11, 12, 13, 14, 15, 16, 17, 18, 19] rfl rfl rfl (by decide))) (perm_Tb (perm_ix 20 [0, 1, 2, 3, 4, 5, 8, 9, 10, 11, 12, 13, 14, 15, 16, 17, 18, 19] [6, 7] rfl rfl rfl (by decide))) hl.1 rfl (Nat.le_of_ble_eq_true rfl) rfl rfl rfl dX8_restore_41 (fun H locs hP hD hS => ?_)
      refine lv_aload_n hx hb dX8_restore_44 rfl (lv_at hl 0 rfl) ?_
      refine va_get (D := (dC, dI)) (ci := 3) (v := .ref (x 1)) (C := RX8) (T := TX8) (N := 7) hx hb htg inX8 hown hK hP 0 rfl rfl 0 (by decide) (htg _ gw192) (fun _ h9 => h9) rfl dX8_restore_45 ?_
      refine va_getN (D := (dC, dI)) (ci := 0) (v := .int (f_corners v34)) (C := RX1) (T := TX1) (N := 6) hx hb htg inX1 hown hK hP 1 rfl rfl 1 (by decide) (va_Nw.use rfl (hN (.fieldLinkNest RX8 92 "SquaredPaper$Figure" "corners" "I" "SquaredPaper") (by decide +kernel))) (fun _ h9 => h9) rfl dX8_restore_48 ?_
      obtain rfl := Option.some.inj h
      exact hE H locs 1 6 51 ls _ hP hD hS (by decide) (by decide) rfl ⟨_, rfl, rfl⟩ dX8_restore_51
  replace h := if_t h c10
  obtain rfl := Option.some.inj h
  exact hT H locs 1 6 13 ls 67 289 71 3 "nothing has been saved in the slot" hP hD hS (by decide) (by decide) (by decide) (by decide) rfl rfl hl.1 (by decide +kernel) gw502 gw68 exat_3 exgo_3 (by decide +kernel) dX8_restore_13 dX8_restore_16 (Or.inr ⟨dX8_restore_17, dX8_restore_20, dX8_restore_23⟩)
def G_X8_ring (F : Fig) (p1 : Int32) (p2 : Int32) : Option ((Sum Nat Int32)) :=
  (G_X8_checkRing F p1).bind fun v2 =>
  match v2 with
  | .inl k2 => some (.inl k2)
  | .inr _ =>
    if p2 = 0 then
      (G_X1_sizeOf F p1).bind fun v49 =>
      some (.inr v49)
    else
    if p2 = 1 then
      (G_X2_ringArea F p1).bind fun v58 =>
      some (.inr v58)
    else
    if p2 = 2 then
      (G_X2_ringSum F p1).bind fun v67 =>
      if v67 ≤ 0 then
        some (.inr 0)
      else
        some (.inr 1)
    else
    if p2 = 3 then
      (G_X2_ringBorder F p1).bind fun v84 =>
      some (.inr v84)
    else
    if p2 = 4 then
      (G_X2_longestSide F p1).bind fun v93 =>
      (G_X1_firstOf F p1).bind fun v101 =>
      some (.inr (v93 - v101))
    else
    if p2 = 5 then
      (G_X2_longestSide F p1).bind fun v115 =>
      (G_X1_squareOfSide F v115).bind fun v118 =>
      some (.inr v118)
    else
    some (.inl 2)
abbrev rm_X8_ring : Room := { frames := 7, cells := 2, slots := 12, locals := 103 }
theorem hdS_X8_ring : yX8_ring.cls ≠ "java/lang/invoke/MethodHandle" ∧ yX8_ring.cls ≠ "java/lang/invoke/VarHandle" ∧ (parseMethodDescriptor yX8_ring.desc).map (fun d => d.parameters.length) = some 2 := by decide +kernel
theorem hdV_X8_ring : yX8_ring.cls = RX8 ∧ yX8_ring.cls ≠ "java/lang/invoke/MethodHandle" ∧ yX8_ring.cls ≠ "java/lang/invoke/VarHandle" ∧ (parseMethodDescriptor yX8_ring.desc).map (fun d => d.parameters.length) = some 2 := ⟨rfl, hdS_X8_ring⟩
set_option maxHeartbeats 4000000 in
set_option maxRecDepth 100000 in
theorem c_X8_ring (l : Launch) (dC : Nat → ClassId) (dI : Nat → Nat → Nat) (cy : Nat → ClassId) (hlt : l.stackTraces = false) (x : Nat → Nat) (F : Fig) (p1 : Int32) (p2 : Int32) (res : (Sum Nat Int32)) (h : G_X8_ring F p1 p2 = some res) : CTX l (dC, dI) (TY cy) yX8_ring cX8_ring 3 (some .int) rm_X8_ring [.ref (x 0), .int p1, .int p2] (wSPo x ++ wFig (fun j => x (1 + j)) cy F) (wSPo x ++ wFig (fun j => x (1 + j)) cy F) (oI res) := by
  refine CTX.mk (own := RX8) hlt ⟨by decide, rfl⟩ (Nat.le_of_ble_eq_true rfl) ?_
  intro p e s mm args below meth cd A Q hx hb hml hown htg hN hK hX0 hA hP hD hS hE hV hT hO ls hl
  have hl : lv_has ls 3 [(0, .ref (x 0)), (1, .int p1), (2, .int p2)] := hl
  replace h : _ = some res := h
  unfold G_X8_ring at h
  obtain ⟨H, hH⟩ : ∃ H, H = s.heap := ⟨_, rfl⟩
  obtain ⟨locs, hlocs⟩ : ∃ locs : List Loc, locs = [] := ⟨_, rfl⟩
  rw [← hlocs] at hS ⊢
  have hS : va_S A s.heap H locs := by rw [hH]; exact hS
  rw [← hH] at hP ⊢
  refine lv_aload_n hx hb dX8_ring_0 rfl (lv_at hl 0 rfl) ?_
  refine lv_iload_n hx hb dX8_ring_1 rfl (lv_at hl 1 rfl) ?_
  obtain ⟨v2, e2, h⟩ := bnd h
  rcases hv2 : v2 with k2 | u2
  · simp only [hv2] at h
    refine cXV (av := [.int p1]) (rest := []) (k1 := 1) (k2 := 6) (ci := 3) (q0 := 0) hx hb hml hown htg hN hK hX0 (c_X8_checkRing l dC dI cy hlt x F p1 v2 e2) (g_V gw582 gw584 gw4 gw59 gw585) hdV_X8_checkRing rfl ⟨⟨Nat.le_of_ble_eq_true rfl, Nat.le_of_ble_eq_true rfl⟩, Nat.le_of_ble_eq_true rfl, Nat.le_of_ble_eq_true rfl⟩ hP hD hS hA ⟨rfl, rfl⟩ rfl [0, 1, 2, 3, 4, 5] [] rfl rfl rfl (by decide) (by decide) hl.1 rfl (Nat.le_of_ble_eq_true rfl) rfl rfl dX8_ring_2 (fun H locs ret ho hP hD hS => ?_) (fun H locs k q ce ho hP hD hS h1 h2 h3 => ?_)
    · rw [hv2] at ho; cases ho
    rw [hv2] at ho
    obtain rfl := Sum.inl.inj ho
    have hP : va_P (dC, dI) vwCl (wSPo x ++ wFig (fun j => x (1 + j)) cy F) H := hP
    have hD : va_D A (wSPo x ++ wFig (fun j => x (1 + j)) cy F) := hD
    obtain rfl := Option.some.inj h
    exact hO H locs 1 6 2 ls _ _ q ce hP hD hS (by decide) (by decide) rfl h1 h2 h3
  simp only [hv2] at h
  refine cXV (av := [.int p1]) (rest := []) (k1 := 1) (k2 := 6) (ci := 3) (q0 := 0) hx hb hml hown htg hN hK hX0 (c_X8_checkRing l dC dI cy hlt x F p1 v2 e2) (g_V gw582 gw584 gw4 gw59 gw585) hdV_X8_checkRing rfl ⟨⟨Nat.le_of_ble_eq_true rfl, Nat.le_of_ble_eq_true rfl⟩, Nat.le_of_ble_eq_true rfl, Nat.le_of_ble_eq_true rfl⟩ hP hD hS hA ⟨rfl, rfl⟩ rfl [0, 1, 2, 3, 4, 5] [] rfl rfl rfl (by decide) (by decide) hl.1 rfl (Nat.le_of_ble_eq_true rfl) rfl rfl dX8_ring_2 (fun H locs ret ho hP hD hS => ?_) (fun H locs k q ce ho hP hD hS h1 h2 h3 => ?_)
  rotate_left
  · rw [hv2] at ho; cases ho
  rw [hv2] at ho
  obtain rfl := Sum.inr.inj ho
  have hP : va_P (dC, dI) vwCl (wSPo x ++ wFig (fun j => x (1 + j)) cy F) H := hP
  have hD : va_D A (wSPo x ++ wFig (fun j => x (1 + j)) cy F) := hD
  refine W.eq (g2 := F0 mm 5 ls []) rfl ?_
  refine lv_iload_n hx hb dX8_ring_5 rfl (lv_at hl 2 rfl) ?_
  by_cases c6_0 : p2 = 0
  · replace h := if_t h c6_0
    refine lv_tableIn (tgt := 44) (off := 38) hx hb dX8_ring_6 (by rw [c6_0]; decide) (by rw [c6_0]; decide) (by rw [c6_0]; rfl) (by decide) ?_
    refine lv_aload_n hx hb dX8_ring_44 rfl (lv_at hl 0 rfl) ?_
    refine va_get (D := (dC, dI)) (ci := 3) (v := .ref (x 1)) (C := RX8) (T := TX8) (N := 7) hx hb htg inX8 hown hK hP 0 rfl rfl 0 (by decide) (htg _ gw192) (fun _ h9 => h9) rfl dX8_ring_45 ?_
    refine lv_iload_n hx hb dX8_ring_48 rfl (lv_at hl 1 rfl) ?_
    obtain ⟨v49, e49, h⟩ := bnd h
    refine cV (av := [.int p1]) (rest := []) (st1 := [.int v49]) (k1 := 1) (k2 := 6) (ci := 0) (q0 := 0) hx hb hml hown htg hN hK (c_X1_sizeOf l dC dI cy (fun j => x (1 + j)) F p1 v49 e49) (g_V gw350 gw165 gw166 gw60 gw167) hdV_X1_sizeOf rfl ⟨⟨Nat.le_of_ble_eq_true rfl, Nat.le_of_ble_eq_true rfl⟩, Nat.le_of_ble_eq_true rfl, Nat.le_of_ble_eq_true rfl⟩ hP hD hS hA ⟨rfl, rfl⟩ rfl [1, 2, 3, 4, 5] [0] rfl rfl rfl (by decide) (by decide) hl.1 rfl (Nat.le_of_ble_eq_true rfl) rfl rfl rfl dX8_ring_49 (fun H locs hP hD hS => ?_)
    obtain ⟨hP, hD⟩ := x_perm (ws' := wSPo x ++ wFig (fun j => x (1 + j)) cy F) hP hD [0, 1, 2, 3, 4, 5] (by decide) rfl rfl
    obtain rfl := Option.some.inj h
    exact hE H locs 1 6 52 ls _ hP hD hS (by decide) (by decide) rfl ⟨_, rfl, rfl⟩ dX8_ring_52
  replace h := if_f h c6_0
  by_cases c6_1 : p2 = 1
  · replace h := if_t h c6_1
    refine lv_tableIn (tgt := 53) (off := 47) hx hb dX8_ring_6 (by rw [c6_1]; decide) (by rw [c6_1]; decide) (by rw [c6_1]; rfl) (by decide) ?_
    refine lv_aload_n hx hb dX8_ring_53 rfl (lv_at hl 0 rfl) ?_
    refine va_get (D := (dC, dI)) (ci := 3) (v := .ref (x 1)) (C := RX8) (T := TX8) (N := 7) hx hb htg inX8 hown hK hP 0 rfl rfl 0 (by decide) (htg _ gw192) (fun _ h9 => h9) rfl dX8_ring_54 ?_
    refine lv_iload_n hx hb dX8_ring_57 rfl (lv_at hl 1 rfl) ?_
    obtain ⟨v58, e58, h⟩ := bnd h
    refine cS (av := [.ref (x 1), .int p1]) (rest := []) (st1 := [.int v58]) (k1 := 1) (k2 := 6) hx hb hml hown htg hN hK (c_X2_ringArea l dC dI cy (fun j => x (1 + j)) F p1 v58 e58) (g_S gw603 gw370 gw72 gw371) hdS_X2_ringArea rfl ⟨⟨Nat.le_of_ble_eq_true rfl, Nat.le_of_ble_eq_true rfl⟩, Nat.le_of_ble_eq_true rfl, Nat.le_of_ble_eq_true rfl⟩ hP hD hS hA [1, 2, 3, 4, 5] [0] rfl rfl rfl (by decide) (by decide) hl.1 rfl (Nat.le_of_ble_eq_true rfl) rfl rfl rfl dX8_ring_58 (fun H locs hP hD hS => ?_)
    obtain ⟨hP, hD⟩ := x_perm (ws' := wSPo x ++ wFig (fun j => x (1 + j)) cy F) hP hD [0, 1, 2, 3, 4, 5] (by decide) rfl rfl
    obtain rfl := Option.some.inj h
    exact hE H locs 1 6 61 ls _ hP hD hS (by decide) (by decide) rfl ⟨_, rfl, rfl⟩ dX8_ring_61
  replace h := if_f h c6_1
  by_cases c6_2 : p2 = 2
  · replace h := if_t h c6_2
    refine lv_tableIn (tgt := 62) (off := 56) hx hb dX8_ring_6 (by rw [c6_2]; decide) (by rw [c6_2]; decide) (by rw [c6_2]; rfl) (by decide) ?_
    refine lv_aload_n hx hb dX8_ring_62 rfl (lv_at hl 0 rfl) ?_
    refine va_get (D := (dC, dI)) (ci := 3) (v := .ref (x 1)) (C := RX8) (T := TX8) (N := 7) hx hb htg inX8 hown hK hP 0 rfl rfl 0 (by decide) (htg _ gw192) (fun _ h9 => h9) rfl dX8_ring_63 ?_
    refine lv_iload_n hx hb dX8_ring_66 rfl (lv_at hl 1 rfl) ?_
    obtain ⟨v67, e67, h⟩ := bnd h
    refine cS (av := [.ref (x 1), .int p1]) (rest := []) (st1 := [.int v67]) (k1 := 1) (k2 := 6) hx hb hml hown htg hN hK (c_X2_ringSum l dC dI cy (fun j => x (1 + j)) F p1 v67 e67) (g_S gw604 gw373 gw72 gw374) hdS_X2_ringSum rfl ⟨⟨Nat.le_of_ble_eq_true rfl, Nat.le_of_ble_eq_true rfl⟩, Nat.le_of_ble_eq_true rfl, Nat.le_of_ble_eq_true rfl⟩ hP hD hS hA [1, 2, 3, 4, 5] [0] rfl rfl rfl (by decide) (by decide) hl.1 rfl (Nat.le_of_ble_eq_true rfl) rfl rfl rfl dX8_ring_67 (fun H locs hP hD hS => ?_)
    obtain ⟨hP, hD⟩ := x_perm (ws' := wSPo x ++ wFig (fun j => x (1 + j)) cy F) hP hD [0, 1, 2, 3, 4, 5] (by decide) rfl rfl
    refine lv_if_le (tgt := 77) hx hb dX8_ring_70 (by decide) (fun c70 => ?_) (fun c70 => ?_)
    · replace h := if_t h c70
      refine lv_iconst (v := 0) hx hb dX8_ring_77 (by decide) ?_
      obtain rfl := Option.some.inj h
      exact hE H locs 1 6 78 ls _ hP hD hS (by decide) (by decide) rfl ⟨_, rfl, rfl⟩ dX8_ring_78
    replace h := if_f h c70
    refine lv_iconst (v := 1) hx hb dX8_ring_73 (by decide) ?_
    refine lv_goto (tgt := 78) hx hb dX8_ring_74 (by decide) ?_
    obtain rfl := Option.some.inj h
    exact hE H locs 1 6 78 ls _ hP hD hS (by decide) (by decide) rfl ⟨_, rfl, rfl⟩ dX8_ring_78
  replace h := if_f h c6_2
  by_cases c6_3 : p2 = 3
  · replace h := if_t h c6_3
    refine lv_tableIn (tgt := 79) (off := 73) hx hb dX8_ring_6 (by rw [c6_3]; decide) (by rw [c6_3]; decide) (by rw [c6_3]; rfl) (by decide) ?_
    refine lv_aload_n hx hb dX8_ring_79 rfl (lv_at hl 0 rfl) ?_
    refine va_get (D := (dC, dI)) (ci := 3) (v := .ref (x 1)) (C := RX8) (T := TX8) (N := 7) hx hb htg inX8 hown hK hP 0 rfl rfl 0 (by decide) (htg _ gw192) (fun _ h9 => h9) rfl dX8_ring_80 ?_
    refine lv_iload_n hx hb dX8_ring_83 rfl (lv_at hl 1 rfl) ?_
    obtain ⟨v84, e84, h⟩ := bnd h
    refine cS (av := [.ref (x 1), .int p1]) (rest := []) (st1 := [.int v84]) (k1 := 1) (k2 := 6) hx hb hml hown htg hN hK (c_X2_ringBorder l dC dI cy (fun j => x (1 + j)) F p1 v84 e84) (g_S gw605 gw545 gw72 gw546) hdS_X2_ringBorder rfl ⟨⟨Nat.le_of_ble_eq_true rfl, Nat.le_of_ble_eq_true rfl⟩, Nat.le_of_ble_eq_true rfl, Nat.le_of_ble_eq_true rfl⟩ hP hD hS hA [1, 2, 3, 4, 5] [0] rfl rfl rfl (by decide) (by decide) hl.1 rfl (Nat.le_of_ble_eq_true rfl) rfl rfl rfl dX8_ring_84 (fun H locs hP hD hS => ?_)
    obtain ⟨hP, hD⟩ := x_perm (ws' := wSPo x ++ wFig (fun j => x (1 + j)) cy F) hP hD [0, 1, 2, 3, 4, 5] (by decide) rfl rfl
    obtain rfl := Option.some.inj h
    exact hE H locs 1 6 87 ls _ hP hD hS (by decide) (by decide) rfl ⟨_, rfl, rfl⟩ dX8_ring_87
  replace h := if_f h c6_3
  by_cases c6_4 : p2 = 4
  · replace h := if_t h c6_4
    refine lv_tableIn (tgt := 88) (off := 82) hx hb dX8_ring_6 (by rw [c6_4]; decide) (by rw [c6_4]; decide) (by rw [c6_4]; rfl) (by decide) ?_
    refine lv_aload_n hx hb dX8_ring_88 rfl (lv_at hl 0 rfl) ?_
    refine va_get (D := (dC, dI)) (ci := 3) (v := .ref (x 1)) (C := RX8) (T := TX8) (N := 7) hx hb htg inX8 hown hK hP 0 rfl rfl 0 (by decide) (htg _ gw192) (fun _ h9 => h9) rfl dX8_ring_89 ?_
    refine lv_iload_n hx hb dX8_ring_92 rfl (lv_at hl 1 rfl) ?_
    obtain ⟨v93, e93, h⟩ := bnd h
    refine cS (av := [.ref (x 1), .int p1]) (rest := []) (st1 := [.int v93]) (k1 := 1) (k2 := 6) hx hb hml hown htg hN hK (c_X2_longestSide l dC dI cy (fun j => x (1 + j)) F p1 v93 e93) (g_S gw606 gw607 gw72 gw608) hdS_X2_longestSide rfl ⟨⟨Nat.le_of_ble_eq_true rfl, Nat.le_of_ble_eq_true rfl⟩, Nat.le_of_ble_eq_true rfl, Nat.le_of_ble_eq_true rfl⟩ hP hD hS hA [1, 2, 3, 4, 5] [0] rfl rfl rfl (by decide) (by decide) hl.1 rfl (Nat.le_of_ble_eq_true rfl) rfl rfl rfl dX8_ring_93 (fun H locs hP hD hS => ?_)
    obtain ⟨hP, hD⟩ := x_perm (ws' := wSPo x ++ wFig (fun j => x (1 + j)) cy F) hP hD [0, 1, 2, 3, 4, 5] (by decide) rfl rfl
    refine lv_aload_n hx hb dX8_ring_96 rfl (lv_at hl 0 rfl) ?_
    refine va_get (D := (dC, dI)) (ci := 3) (v := .ref (x 1)) (C := RX8) (T := TX8) (N := 7) hx hb htg inX8 hown hK hP 0 rfl rfl 0 (by decide) (htg _ gw192) (fun _ h9 => h9) rfl dX8_ring_97 ?_
    refine lv_iload_n hx hb dX8_ring_100 rfl (lv_at hl 1 rfl) ?_
    obtain ⟨v101, e101, h⟩ := bnd h
    refine cV (av := [.int p1]) (rest := [.int v93]) (st1 := [.int v101, .int v93]) (k1 := 1) (k2 := 6) (ci := 0) (q0 := 0) hx hb hml hown htg hN hK (c_X1_firstOf l dC dI cy (fun j => x (1 + j)) F p1 v101 e101) (g_V gw610 gw181 gw182 gw60 gw183) hdV_X1_firstOf rfl ⟨⟨Nat.le_of_ble_eq_true rfl, Nat.le_of_ble_eq_true rfl⟩, Nat.le_of_ble_eq_true rfl, Nat.le_of_ble_eq_true rfl⟩ hP hD hS hA ⟨rfl, rfl⟩ rfl [1, 2, 3, 4, 5] [0] rfl rfl rfl (by decide) (by decide) hl.1 rfl (Nat.le_of_ble_eq_true rfl) rfl rfl rfl dX8_ring_101 (fun H locs hP hD hS => ?_)
    obtain ⟨hP, hD⟩ := x_perm (ws' := wSPo x ++ wFig (fun j => x (1 + j)) cy F) hP hD [0, 1, 2, 3, 4, 5] (by decide) rfl rfl
    refine lv_isub hx hb dX8_ring_104 ?_
    obtain rfl := Option.some.inj h
    exact hE H locs 1 6 105 ls _ hP hD hS (by decide) (by decide) rfl ⟨_, rfl, rfl⟩ dX8_ring_105
  replace h := if_f h c6_4
  by_cases c6_5 : p2 = 5
  · replace h := if_t h c6_5
    refine lv_tableIn (tgt := 106) (off := 100) hx hb dX8_ring_6 (by rw [c6_5]; decide) (by rw [c6_5]; decide) (by rw [c6_5]; rfl) (by decide) ?_
    refine lv_aload_n hx hb dX8_ring_106 rfl (lv_at hl 0 rfl) ?_
    refine va_get (D := (dC, dI)) (ci := 3) (v := .ref (x 1)) (C := RX8) (T := TX8) (N := 7) hx hb htg inX8 hown hK hP 0 rfl rfl 0 (by decide) (htg _ gw192) (fun _ h9 => h9) rfl dX8_ring_107 ?_
    refine lv_aload_n hx hb dX8_ring_110 rfl (lv_at hl 0 rfl) ?_
    refine va_get (D := (dC, dI)) (ci := 3) (v := .ref (x 1)) (C := RX8) (T := TX8) (N := 7) hx hb htg inX8 hown hK hP 0 rfl rfl 0 (by decide) (htg _ gw192) (fun _ h9 => h9) rfl dX8_ring_111 ?_
    refine lv_iload_n hx hb dX8_ring_114 rfl (lv_at hl 1 rfl) ?_
    obtain ⟨v115, e115, h⟩ := bnd h
    refine cS (av := [.ref (x 1), .int p1]) (rest := [.ref (x 1)]) (st1 := [.int v115, .ref (x 1)]) (k1 := 1) (k2 := 6) hx hb hml hown htg hN hK (c_X2_longestSide l dC dI cy (fun j => x (1 + j)) F p1 v115 e115) (g_S gw606 gw607 gw72 gw608) hdS_X2_longestSide rfl ⟨⟨Nat.le_of_ble_eq_true rfl, Nat.le_of_ble_eq_true rfl⟩, Nat.le_of_ble_eq_true rfl, Nat.le_of_ble_eq_true rfl⟩ hP hD hS hA [1, 2, 3, 4, 5] [0] rfl rfl rfl (by decide) (by decide) hl.1 rfl (Nat.le_of_ble_eq_true rfl) rfl rfl rfl dX8_ring_115 (fun H locs hP hD hS => ?_)
    obtain ⟨hP, hD⟩ := x_perm (ws' := wSPo x ++ wFig (fun j => x (1 + j)) cy F) hP hD [0, 1, 2, 3, 4, 5] (by decide) rfl rfl
    obtain ⟨v118, e118, h⟩ := bnd h
    refine cV (av := [.int v115]) (rest := []) (st1 := [.int v118]) (k1 := 1) (k2 := 6) (ci := 0) (q0 := 0) hx hb hml hown htg hN hK (c_X1_squareOfSide l dC dI cy (fun j => x (1 + j)) F v115 v118 e118) (g_V gw611 gw255 gw256 gw60 gw257) hdV_X1_squareOfSide rfl ⟨⟨Nat.le_of_ble_eq_true rfl, Nat.le_of_ble_eq_true rfl⟩, Nat.le_of_ble_eq_true rfl, Nat.le_of_ble_eq_true rfl⟩ hP hD hS hA ⟨rfl, rfl⟩ rfl [1, 2, 3, 4, 5] [0] rfl rfl rfl (by decide) (by decide) hl.1 rfl (Nat.le_of_ble_eq_true rfl) rfl rfl rfl dX8_ring_118 (fun H locs hP hD hS => ?_)
    obtain ⟨hP, hD⟩ := x_perm (ws' := wSPo x ++ wFig (fun j => x (1 + j)) cy F) hP hD [0, 1, 2, 3, 4, 5] (by decide) rfl rfl
    obtain rfl := Option.some.inj h
    exact hE H locs 1 6 121 ls _ hP hD hS (by decide) (by decide) rfl ⟨_, rfl, rfl⟩ dX8_ring_121
  replace h := if_f h c6_5
  refine lv_tableOut (tgt := 122) hx hb dX8_ring_6 (x_tout0_5 c6_0 c6_1 c6_2 c6_3 c6_4 c6_5) (by decide) ?_
  obtain rfl := Option.some.inj h
  exact hT H locs 1 6 122 ls 56 148 60 2 "what is not 0 to 5" hP hD hS (by decide) (by decide) (by decide) (by decide) rfl rfl hl.1 (by decide +kernel) gw434 gw67 exat_2 exgo_2 (by decide +kernel) dX8_ring_122 dX8_ring_125 (Or.inl ⟨dX8_ring_126, dX8_ring_128, dX8_ring_131⟩)
def G_X8_runScript_L88  (F : Fig) : Nat → Fig → Int32 → Int64 → Int32 → Int64 → Option ((Sum Nat Int32) × Fig)
  | 0, _, _, _, _, _ => none
  | n88 + 1, D_88, l6_88, l4_88, l1_88, l2_88 =>
    if l1_88 ≤ l6_88 then
      some (.inr (-9), D_88)
    else
      if lg_cmp l4_88 0 ≤ 0 then
        some (.inr (-9), D_88)
      else
        (dvL l2_88 l4_88).bind fun v108 =>
        (G_X5_succeeds D_88 ((v108 - v108 / 1000000 * 1000000).toInt32)).bind fun v114 =>
        if v114.1 = 0 then
          some (.inr l6_88, v114.2)
        else
          (G_X8_runScript_L88 F n88) v114.2 (l6_88 + 1) (l4_88 / 1000000) l1_88 l2_88
def G_X8_runScript_L26  (F : Fig) : Nat → Fig → Int32 → Int64 → Int32 → Int64 → Option ((Sum Nat Int32) × Fig)
  | 0, _, _, _, _, _ => none
  | n26 + 1, D_26, l6_26, l4_26, l1_26, l2_26 =>
    if l1_26 ≤ l6_26 then
      if lg_cmp l2_26 0 < 0 then
        some (.inl 2, D_26)
      else
        (dvL l2_26 l4_26).bind fun v55 =>
        if lg_cmp v55 1000000 < 0 then
          (G_X1_copyFrom D_26 F).bind fun v82 =>
          G_X8_runScript_L88 F FU v82 0 l4_26 l1_26 l2_26
        else
          some (.inl 2, D_26)
    else
      (G_X8_runScript_L26 F n26) D_26 (l6_26 + 1) (l4_26 * 1000000) l1_26 l2_26
def G_X8_runScript (F : Fig) (D : Fig) (p1 : Int32) (p2 : Int64) : Option ((Sum Nat Int32) × Fig) :=
  (G_X8_inRange p1 1 3).bind fun v3 =>
  if v3 = 0 then
    some (.inl 2, D)
  else
    G_X8_runScript_L26 F FU D 1 1 p1 p2
abbrev rm_X8_runScript : Room := { frames := 7, cells := 1, slots := 6, locals := 163 }
theorem hdS_X8_runScript : yX8_runScript.cls ≠ "java/lang/invoke/MethodHandle" ∧ yX8_runScript.cls ≠ "java/lang/invoke/VarHandle" ∧ (parseMethodDescriptor yX8_runScript.desc).map (fun d => d.parameters.length) = some 2 := by decide +kernel
theorem hdV_X8_runScript : yX8_runScript.cls = RX8 ∧ yX8_runScript.cls ≠ "java/lang/invoke/MethodHandle" ∧ yX8_runScript.cls ≠ "java/lang/invoke/VarHandle" ∧ (parseMethodDescriptor yX8_runScript.desc).map (fun d => d.parameters.length) = some 2 := ⟨rfl, hdS_X8_runScript⟩
set_option maxHeartbeats 4000000 in
set_option maxRecDepth 100000 in
theorem c_X8_runScript (l : Launch) (dC : Nat → ClassId) (dI : Nat → Nat → Nat) (cy : Nat → ClassId) (hlt : l.stackTraces = false) (x : Nat → Nat) (F : Fig) (D : Fig) (p1 : Int32) (p2 : Int64) (res : (Sum Nat Int32) × Fig) (h : G_X8_runScript F D p1 p2 = some res) : CTX l (dC, dI) (TY cy) yX8_runScript cX8_runScript 7 (some .int) rm_X8_runScript [.ref (x 0), .int p1, .long p2] (wSPo x ++ wFig (fun j => x (1 + j)) cy F ++ wFig (fun j => x (6 + j)) cy D) (wSPo x ++ wFig (fun j => x (1 + j)) cy F ++ wFig (fun j => x (6 + j)) cy res.2) (oI res.1) := by
  refine CTX.mk (own := RX8) hlt ⟨by decide, rfl⟩ (Nat.le_of_ble_eq_true rfl) ?_
  intro p e s mm args below meth cd A Q hx hb hml hown htg hN hK hX0 hA hP hD hS hE hV hT hO ls hl
  have hl : lv_has ls 7 [(0, .ref (x 0)), (1, .int p1), (2, .long p2)] := hl
  replace h : _ = some res := h
  unfold G_X8_runScript at h
  obtain ⟨H, hH⟩ : ∃ H, H = s.heap := ⟨_, rfl⟩
  obtain ⟨locs, hlocs⟩ : ∃ locs : List Loc, locs = [] := ⟨_, rfl⟩
  rw [← hlocs] at hS ⊢
  have hS : va_S A s.heap H locs := by rw [hH]; exact hS
  rw [← hH] at hP ⊢
  refine lv_iload_n hx hb dX8_runScript_0 rfl (lv_at hl 1 rfl) ?_
  refine lv_iconst (v := 1) hx hb dX8_runScript_1 (by decide) ?_
  refine lv_iconst (v := 3) hx hb dX8_runScript_2 (by decide) ?_
  obtain ⟨v3, e3, h⟩ := bnd h
  refine cS (av := [.int p1, .int 1, .int 3]) (rest := []) (st1 := [.int v3]) (k1 := 0) (k2 := 0) hx hb hml hown htg hN hK (c_X8_inRange l dC dI cy   p1 1 3 v3 e3) (g_S gw433 gw245 gw59 gw246) hdS_X8_inRange rfl ⟨⟨Nat.le_of_ble_eq_true rfl, Nat.le_of_ble_eq_true rfl⟩, Nat.le_of_ble_eq_true rfl, Nat.le_of_ble_eq_true rfl⟩ hP hD hS hA [] [0, 1, 2, 3, 4, 5, 6, 7, 8, 9, 10] rfl rfl rfl (by decide) (by decide) hl.1 rfl (Nat.le_of_ble_eq_true rfl) rfl rfl rfl dX8_runScript_3 (fun H locs hP hD hS => ?_)
  obtain ⟨hP, hD⟩ := x_perm (ws' := wSPo x ++ wFig (fun j => x (1 + j)) cy F ++ wFig (fun j => x (6 + j)) cy D) hP hD [0, 1, 2, 3, 4, 5, 6, 7, 8, 9, 10] (by decide) rfl rfl
  refine lv_if_ne (tgt := 20) hx hb dX8_runScript_6 (by decide) (fun c6 => ?_) (fun c6 => ?_)
  · replace h := if_f h c6
    refine lv_lconst (v := 1) hx hb dX8_runScript_20 (by decide) ?_
    refine lv_lstore (lv' := [(4, .long 1), (0, .ref (x 0)), (1, .int p1), (2, .long p2)]) hx hb dX8_runScript_21 hl (by decide) rfl (fun ls hl => ?_)
    refine lv_iconst (v := 1) hx hb dX8_runScript_23 (by decide) ?_
    refine lv_istore (lv' := [(6, .int 1), (4, .long 1), (0, .ref (x 0)), (1, .int p1), (2, .long p2)]) hx hb dX8_runScript_24 hl (by decide) rfl (fun ls hl => ?_)
    have hL26 : ∀ (n26 : Nat) (D_26 : Fig) (l6_26 : Int32) (l4_26 : Int64) (l1_26 : Int32) (l2_26 : Int64) (H : Heap) (locs : List Loc) (ls : Array Slot), G_X8_runScript_L26 F n26 D_26 l6_26 l4_26 l1_26 l2_26 = some res → va_P (dC, dI) vwCl (wSPo x ++ wFig (fun j => x (1 + j)) cy F ++ wFig (fun j => x (6 + j)) cy D_26) H → va_D A (wSPo x ++ wFig (fun j => x (1 + j)) cy F ++ wFig (fun j => x (6 + j)) cy D_26) → va_S A s.heap H locs → lv_has ls 7 [(6, .int l6_26), (4, .long l4_26), (0, .ref (x 0)), (1, .int l1_26), (2, .long l2_26)] → W p l e rm_X8_runScript s mm args below meth cd H locs 0 0 Q (F0 mm 26 ls []) := by
      intro n26
      induction n26 with
      | zero => intro D_26 l6_26 l4_26 l1_26 l2_26 H locs ls h; exact absurd h (by simp [G_X8_runScript_L26])
      | succ n26 ih26 =>
        intro D_26 l6_26 l4_26 l1_26 l2_26 H locs ls h hP hD hS hl
        rw [G_X8_runScript_L26] at h
        refine lv_iload hx hb dX8_runScript_26 (lv_at hl 0 rfl) ?_
        refine lv_iload_n hx hb dX8_runScript_28 rfl (lv_at hl 3 rfl) ?_
        refine lv_icmp_ge (tgt := 46) hx hb dX8_runScript_29 (by decide) (fun c29 => ?_) (fun c29 => ?_)
        · replace h := if_t h c29
          refine lv_lload_n hx hb dX8_runScript_46 rfl (lv_at hl 4 rfl) ?_
          refine lv_lconst (v := 0) hx hb dX8_runScript_47 (by decide) ?_
          refine W.lcmp hx hb dX8_runScript_48 ?_
          refine lv_if_lt (tgt := 63) hx hb dX8_runScript_49 (by decide) (fun c49 => ?_) (fun c49 => ?_)
          · replace h := if_t h c49
            obtain rfl := Option.some.inj h
            exact hT H locs 0 0 63 ls 56 273 60 2 "the script is negative or too long" hP hD hS (by decide) (by decide) (by decide) (by decide) rfl rfl hl.1 (by decide +kernel) gw434 gw67 exat_2 exgo_2 (by decide +kernel) dX8_runScript_63 dX8_runScript_66 (Or.inr ⟨dX8_runScript_67, dX8_runScript_70, dX8_runScript_73⟩)
          replace h := if_f h c49
          refine lv_lload_n hx hb dX8_runScript_52 rfl (lv_at hl 4 rfl) ?_
          refine lv_lload hx hb dX8_runScript_53 (lv_at hl 1 rfl) ?_
          obtain ⟨v55, e55, h⟩ := bnd h
          refine x_ldiv hx hb e55 dX8_runScript_55 ?_
          refine lv_ldc2 (v := 1000000) hx hb hown (htg _ gw788) dX8_runScript_56 ?_
          refine W.lcmp hx hb dX8_runScript_59 ?_
          refine lv_if_lt (tgt := 74) hx hb dX8_runScript_60 (by decide) (fun c60 => ?_) (fun c60 => ?_)
          · replace h := if_t h c60
            refine lv_aload_n hx hb dX8_runScript_74 rfl (lv_at hl 2 rfl) ?_
            refine va_get (D := (dC, dI)) (ci := 3) (v := .ref (x 6)) (C := RX8) (T := TX8) (N := 7) hx hb htg inX8 hown hK hP 0 rfl rfl 1 (by decide) (htg _ gw193) (fun _ h9 => h9) rfl dX8_runScript_75 ?_
            refine lv_aload_n hx hb dX8_runScript_78 rfl (lv_at hl 2 rfl) ?_
            refine va_get (D := (dC, dI)) (ci := 3) (v := .ref (x 1)) (C := RX8) (T := TX8) (N := 7) hx hb htg inX8 hown hK hP 0 rfl rfl 0 (by decide) (htg _ gw192) (fun _ h9 => h9) rfl dX8_runScript_79 ?_
            obtain ⟨v82, e82, h⟩ := bnd h
            refine cV (av := [.ref (x 1)]) (rest := []) (st1 := []) (k1 := 0) (k2 := 0) (ci := 0) (q0 := 0) hx hb hml hown htg hN hK (c_X1_copyFrom l dC dI cy (fun j => x (6 + j)) (fun j => x (1 + j)) D_26 F  v82 e82) (g_V gw313 gw314 gw315 gw60 gw316) hdV_X1_copyFrom rfl ⟨⟨Nat.le_of_ble_eq_true rfl, Nat.le_of_ble_eq_true rfl⟩, Nat.le_of_ble_eq_true rfl, Nat.le_of_ble_eq_true rfl⟩ hP hD hS hA ⟨rfl, rfl⟩ rfl [6, 7, 8, 9, 10, 1, 2, 3, 4, 5] [0] rfl rfl rfl (by decide) (by decide) hl.1 rfl (Nat.le_of_ble_eq_true rfl) rfl rfl rfl dX8_runScript_82 (fun H locs hP hD hS => ?_)
            obtain ⟨hP, hD⟩ := x_perm (ws' := wSPo x ++ wFig (fun j => x (1 + j)) cy F ++ wFig (fun j => x (6 + j)) cy v82) hP hD [0, 6, 7, 8, 9, 10, 1, 2, 3, 4, 5] (by decide) rfl rfl
            refine lv_iconst (v := 0) hx hb dX8_runScript_85 (by decide) ?_
            refine lv_istore (lv' := [(6, .int 0), (4, .long l4_26), (0, .ref (x 0)), (1, .int l1_26), (2, .long l2_26)]) hx hb dX8_runScript_86 hl (by decide) rfl (fun ls hl => ?_)
            have hL88 : ∀ (n88 : Nat) (D_88 : Fig) (l6_88 : Int32) (l4_88 : Int64) (l1_88 : Int32) (l2_88 : Int64) (H : Heap) (locs : List Loc) (ls : Array Slot), G_X8_runScript_L88 F n88 D_88 l6_88 l4_88 l1_88 l2_88 = some res → va_P (dC, dI) vwCl (wSPo x ++ wFig (fun j => x (1 + j)) cy F ++ wFig (fun j => x (6 + j)) cy D_88) H → va_D A (wSPo x ++ wFig (fun j => x (1 + j)) cy F ++ wFig (fun j => x (6 + j)) cy D_88) → va_S A s.heap H locs → lv_has ls 7 [(6, .int l6_88), (4, .long l4_88), (0, .ref (x 0)), (1, .int l1_88), (2, .long l2_88)] → W p l e rm_X8_runScript s mm args below meth cd H locs 0 0 Q (F0 mm 88 ls []) := by
              intro n88
              induction n88 with
              | zero => intro D_88 l6_88 l4_88 l1_88 l2_88 H locs ls h; exact absurd h (by simp [G_X8_runScript_L88])
              | succ n88 ih88 =>
                intro D_88 l6_88 l4_88 l1_88 l2_88 H locs ls h hP hD hS hl
                rw [G_X8_runScript_L88] at h
                refine lv_iload hx hb dX8_runScript_88 (lv_at hl 0 rfl) ?_
                refine lv_iload_n hx hb dX8_runScript_90 rfl (lv_at hl 3 rfl) ?_
                refine lv_icmp_ge (tgt := 137) hx hb dX8_runScript_91 (by decide) (fun c91 => ?_) (fun c91 => ?_)
                · replace h := if_t h c91
                  refine lv_bipush (v := (-9)) hx hb dX8_runScript_137 (by decide) ?_
                  obtain rfl := Option.some.inj h
                  exact hE H locs 0 0 139 ls _ hP hD hS (by decide) (by decide) rfl ⟨_, rfl, rfl⟩ dX8_runScript_139
                replace h := if_f h c91
                refine lv_lload hx hb dX8_runScript_94 (lv_at hl 1 rfl) ?_
                refine lv_lconst (v := 0) hx hb dX8_runScript_96 (by decide) ?_
                refine W.lcmp hx hb dX8_runScript_97 ?_
                refine lv_if_le (tgt := 137) hx hb dX8_runScript_98 (by decide) (fun c98 => ?_) (fun c98 => ?_)
                · replace h := if_t h c98
                  refine lv_bipush (v := (-9)) hx hb dX8_runScript_137 (by decide) ?_
                  obtain rfl := Option.some.inj h
                  exact hE H locs 0 0 139 ls _ hP hD hS (by decide) (by decide) rfl ⟨_, rfl, rfl⟩ dX8_runScript_139
                replace h := if_f h c98
                refine lv_aload_n hx hb dX8_runScript_101 rfl (lv_at hl 2 rfl) ?_
                refine va_get (D := (dC, dI)) (ci := 3) (v := .ref (x 6)) (C := RX8) (T := TX8) (N := 7) hx hb htg inX8 hown hK hP 0 rfl rfl 1 (by decide) (htg _ gw193) (fun _ h9 => h9) rfl dX8_runScript_102 ?_
                refine lv_lload_n hx hb dX8_runScript_105 rfl (lv_at hl 4 rfl) ?_
                refine lv_lload hx hb dX8_runScript_106 (lv_at hl 1 rfl) ?_
                obtain ⟨v108, e108, h⟩ := bnd h
                refine x_ldiv hx hb e108 dX8_runScript_108 ?_
                refine lv_ldc2 (v := 1000000) hx hb hown (htg _ gw788) dX8_runScript_109 ?_
                refine lv_lrem hx hb dX8_runScript_112 (by decide) ?_
                refine lv_l2i hx hb dX8_runScript_113 rfl ?_
                obtain ⟨v114, e114, h⟩ := bnd h
                refine cS (av := [.ref (x 6), .int ((v108 - v108 / 1000000 * 1000000).toInt32)]) (rest := []) (st1 := [.int v114.1]) (k1 := 0) (k2 := 0) hx hb hml hown htg hN hK (c_X5_succeeds l dC dI cy (fun j => x (6 + j)) D_88 ((v108 - v108 / 1000000 * 1000000).toInt32) v114 e114) (g_S gw790 gw791 gw76 gw792) hdS_X5_succeeds rfl ⟨⟨Nat.le_of_ble_eq_true rfl, Nat.le_of_ble_eq_true rfl⟩, Nat.le_of_ble_eq_true rfl, Nat.le_of_ble_eq_true rfl⟩ hP hD hS hA [6, 7, 8, 9, 10] [0, 1, 2, 3, 4, 5] rfl rfl rfl (by decide) (by decide) hl.1 rfl (Nat.le_of_ble_eq_true rfl) rfl rfl rfl dX8_runScript_114 (fun H locs hP hD hS => ?_)
                obtain ⟨hP, hD⟩ := x_perm (ws' := wSPo x ++ wFig (fun j => x (1 + j)) cy F ++ wFig (fun j => x (6 + j)) cy v114.2) hP hD [0, 1, 2, 3, 4, 5, 6, 7, 8, 9, 10] (by decide) rfl rfl
                refine lv_if_ne (tgt := 123) hx hb dX8_runScript_117 (by decide) (fun c117 => ?_) (fun c117 => ?_)
                · replace h := if_f h c117
                  refine lv_lload hx hb dX8_runScript_123 (lv_at hl 1 rfl) ?_
                  refine lv_ldc2 (v := 1000000) hx hb hown (htg _ gw788) dX8_runScript_125 ?_
                  refine lv_ldiv hx hb dX8_runScript_128 (by decide) ?_
                  refine lv_lstore (lv' := [(4, .long (l4_88 / 1000000)), (6, .int l6_88), (0, .ref (x 0)), (1, .int l1_88), (2, .long l2_88)]) hx hb dX8_runScript_129 hl (by decide) rfl (fun ls hl => ?_)
                  refine lv_iinc (v := l6_88 + 1) (lv' := [(6, .int (l6_88 + 1)), (4, .long (l4_88 / 1000000)), (0, .ref (x 0)), (1, .int l1_88), (2, .long l2_88)]) hx hb dX8_runScript_131 hl (k := 1) rfl rfl (by decide) rfl (fun ls hl => ?_)
                  refine lv_goto (tgt := 88) hx hb dX8_runScript_134 (by decide) ?_
                  exact ih88 v114.2 (l6_88 + 1) (l4_88 / 1000000) l1_88 l2_88 H locs ls h hP hD hS (lv_sub hl [0, 1, 2, 3, 4] rfl)
                replace h := if_t h c117
                refine lv_iload hx hb dX8_runScript_120 (lv_at hl 0 rfl) ?_
                obtain rfl := Option.some.inj h
                exact hE H locs 0 0 122 ls _ hP hD hS (by decide) (by decide) rfl ⟨_, rfl, rfl⟩ dX8_runScript_122
            exact hL88 FU v82 0 l4_26 l1_26 l2_26 H locs ls h hP hD hS (lv_sub hl [0, 1, 2, 3, 4] rfl)
          replace h := if_f h c60
          obtain rfl := Option.some.inj h
          exact hT H locs 0 0 63 ls 56 273 60 2 "the script is negative or too long" hP hD hS (by decide) (by decide) (by decide) (by decide) rfl rfl hl.1 (by decide +kernel) gw434 gw67 exat_2 exgo_2 (by decide +kernel) dX8_runScript_63 dX8_runScript_66 (Or.inr ⟨dX8_runScript_67, dX8_runScript_70, dX8_runScript_73⟩)
        replace h := if_f h c29
        refine lv_lload hx hb dX8_runScript_32 (lv_at hl 1 rfl) ?_
        refine lv_ldc2 (v := 1000000) hx hb hown (htg _ gw788) dX8_runScript_34 ?_
        refine lv_lmul hx hb dX8_runScript_37 ?_
        refine lv_lstore (lv' := [(4, .long (l4_26 * 1000000)), (6, .int l6_26), (0, .ref (x 0)), (1, .int l1_26), (2, .long l2_26)]) hx hb dX8_runScript_38 hl (by decide) rfl (fun ls hl => ?_)
        refine lv_iinc (v := l6_26 + 1) (lv' := [(6, .int (l6_26 + 1)), (4, .long (l4_26 * 1000000)), (0, .ref (x 0)), (1, .int l1_26), (2, .long l2_26)]) hx hb dX8_runScript_40 hl (k := 1) rfl rfl (by decide) rfl (fun ls hl => ?_)
        refine lv_goto (tgt := 26) hx hb dX8_runScript_43 (by decide) ?_
        exact ih26 D_26 (l6_26 + 1) (l4_26 * 1000000) l1_26 l2_26 H locs ls h hP hD hS (lv_sub hl [0, 1, 2, 3, 4] rfl)
    exact hL26 FU D 1 1 p1 p2 H locs ls h hP hD hS (lv_sub hl [0, 1, 2, 3, 4] rfl)
  replace h := if_t h c6
  obtain rfl := Option.some.inj h
  exact hT H locs 0 0 9 ls 56 269 60 2 "n is not 1 to 3" hP hD hS (by decide) (by decide) (by decide) (by decide) rfl rfl hl.1 (by decide +kernel) gw434 gw67 exat_2 exgo_2 (by decide +kernel) dX8_runScript_9 dX8_runScript_12 (Or.inr ⟨dX8_runScript_13, dX8_runScript_16, dX8_runScript_19⟩)
def G_X8_save (F : Fig) (SL : Nat → Fig) (SV : Nat → Int32) (p1 : Int32) : Option ((Sum Nat Int32) × (Nat → Fig) × (Nat → Int32)) :=
  (G_X8_checkSlot p1).bind fun v1 =>
  match v1 with
  | .inl k1 => some (.inl k1, SL, SV)
  | .inr _ =>
    (rdx 2 p1).bind fun k9 =>
    (G_X1_copyFrom (SL k9) F).bind fun v14 =>
    (wr 2 SV p1 1).bind fun g23 =>
    some (.inr (f_corners F), updF SL k9 v14, g23)
abbrev rm_X8_save : Room := { frames := 7, cells := 1, slots := 6, locals := 102 }
theorem hdS_X8_save : yX8_save.cls ≠ "java/lang/invoke/MethodHandle" ∧ yX8_save.cls ≠ "java/lang/invoke/VarHandle" ∧ (parseMethodDescriptor yX8_save.desc).map (fun d => d.parameters.length) = some 1 := by decide +kernel
theorem hdV_X8_save : yX8_save.cls = RX8 ∧ yX8_save.cls ≠ "java/lang/invoke/MethodHandle" ∧ yX8_save.cls ≠ "java/lang/invoke/VarHandle" ∧ (parseMethodDescriptor yX8_save.desc).map (fun d => d.parameters.length) = some 1 := ⟨rfl, hdS_X8_save⟩
set_option maxHeartbeats 4000000 in
set_option maxRecDepth 100000 in
theorem c_X8_save (l : Launch) (dC : Nat → ClassId) (dI : Nat → Nat → Nat) (cy : Nat → ClassId) (hlt : l.stackTraces = false) (x : Nat → Nat) (F : Fig) (SL : Nat → Fig) (SV : Nat → Int32) (p1 : Int32) (res : (Sum Nat Int32) × (Nat → Fig) × (Nat → Int32)) (h : G_X8_save F SL SV p1 = some res) : CTX l (dC, dI) (TY cy) yX8_save cX8_save 2 (some .int) rm_X8_save [.ref (x 0), .int p1] (wSPo x ++ wFig (fun j => x (1 + j)) cy F ++ wSlots (fun j => x (83 + j)) cy SL ++ wBA (x 94) cy SV) (wSPo x ++ wFig (fun j => x (1 + j)) cy F ++ wSlots (fun j => x (83 + j)) cy res.2.1 ++ wBA (x 94) cy res.2.2) (oI res.1) := by
  refine CTX.mk (own := RX8) hlt ⟨by decide, rfl⟩ (Nat.le_of_ble_eq_true rfl) ?_
  intro p e s mm args below meth cd A Q hx hb hml hown htg hN hK hX0 hA hP hD hS hE hV hT hO ls hl
  have hl : lv_has ls 2 [(0, .ref (x 0)), (1, .int p1)] := hl
  replace h : _ = some res := h
  unfold G_X8_save at h
  obtain ⟨H, hH⟩ : ∃ H, H = s.heap := ⟨_, rfl⟩
  obtain ⟨locs, hlocs⟩ : ∃ locs : List Loc, locs = [] := ⟨_, rfl⟩
  rw [← hlocs] at hS ⊢
  have hS : va_S A s.heap H locs := by rw [hH]; exact hS
  rw [← hH] at hP ⊢
  refine lv_iload_n hx hb dX8_save_0 rfl (lv_at hl 1 rfl) ?_
  obtain ⟨v1, e1, h⟩ := bnd h
  rcases hv1 : v1 with k1 | u1
  · simp only [hv1] at h
    refine cXS (av := [.int p1]) (rest := []) (k1 := 1) (k2 := 6) hx hb hml hown htg hN hK hX0 (c_X8_checkSlot l dC dI cy hlt   p1 v1 e1) (g_S gw828 gw829 gw59 gw830) hdS_X8_checkSlot rfl ⟨⟨Nat.le_of_ble_eq_true rfl, Nat.le_of_ble_eq_true rfl⟩, Nat.le_of_ble_eq_true rfl, Nat.le_of_ble_eq_true rfl⟩ hP hD hS hA [] [0, 1, 2, 3, 4, 5, 6, 7, 8, 9, 10, 11, 12, 13, 14, 15, 16, 17] rfl rfl rfl (by decide) (by decide) hl.1 rfl (Nat.le_of_ble_eq_true rfl) rfl rfl dX8_save_1 (fun H locs ret ho hP hD hS => ?_) (fun H locs k q ce ho hP hD hS h1 h2 h3 => ?_)
    · rw [hv1] at ho; cases ho
    rw [hv1] at ho
    obtain rfl := Sum.inl.inj ho
    obtain ⟨hP, hD⟩ := x_perm (ws' := wSPo x ++ wFig (fun j => x (1 + j)) cy F ++ wSlots (fun j => x (83 + j)) cy SL ++ wBA (x 94) cy SV) hP hD [0, 1, 2, 3, 4, 5, 6, 7, 8, 9, 10, 11, 12, 13, 14, 15, 16, 17] (by decide) rfl rfl
    obtain rfl := Option.some.inj h
    exact hO H locs 1 6 1 ls _ _ q ce hP hD hS (by decide) (by decide) rfl h1 h2 h3
  simp only [hv1] at h
  refine cXS (av := [.int p1]) (rest := []) (k1 := 1) (k2 := 6) hx hb hml hown htg hN hK hX0 (c_X8_checkSlot l dC dI cy hlt   p1 v1 e1) (g_S gw828 gw829 gw59 gw830) hdS_X8_checkSlot rfl ⟨⟨Nat.le_of_ble_eq_true rfl, Nat.le_of_ble_eq_true rfl⟩, Nat.le_of_ble_eq_true rfl, Nat.le_of_ble_eq_true rfl⟩ hP hD hS hA [] [0, 1, 2, 3, 4, 5, 6, 7, 8, 9, 10, 11, 12, 13, 14, 15, 16, 17] rfl rfl rfl (by decide) (by decide) hl.1 rfl (Nat.le_of_ble_eq_true rfl) rfl rfl dX8_save_1 (fun H locs ret ho hP hD hS => ?_) (fun H locs k q ce ho hP hD hS h1 h2 h3 => ?_)
  rotate_left
  · rw [hv1] at ho; cases ho
  rw [hv1] at ho
  obtain rfl := Sum.inr.inj ho
  obtain ⟨hP, hD⟩ := x_perm (ws' := wSPo x ++ wFig (fun j => x (1 + j)) cy F ++ wSlots (fun j => x (83 + j)) cy SL ++ wBA (x 94) cy SV) hP hD [0, 1, 2, 3, 4, 5, 6, 7, 8, 9, 10, 11, 12, 13, 14, 15, 16, 17] (by decide) rfl rfl
  refine W.eq (g2 := F0 mm 4 ls []) rfl ?_
  refine lv_aload_n hx hb dX8_save_4 rfl (lv_at hl 0 rfl) ?_
  refine va_get (D := (dC, dI)) (ci := 3) (v := .ref (x 83)) (C := RX8) (T := TX8) (N := 7) hx hb htg inX8 hown hK hP 0 rfl rfl 3 (by decide) (htg _ gw195) (fun _ h9 => h9) rfl dX8_save_5 ?_
  refine lv_iload_n hx hb dX8_save_8 rfl (lv_at hl 1 rfl) ?_
  obtain ⟨k9, e9, h⟩ := bnd h
  have hk9 := (rdx_in e9).2.2
  rcases (by omega : k9 = 0 ∨ k9 = 1) with rfl | rfl
  · refine x_aldq (C := "SquaredPaper$Figure") (v := .ref (x 84)) hx hb hK hP 6 3 rfl rfl e9 rfl dX8_save_9 ?_
    refine lv_aload_n hx hb dX8_save_10 rfl (lv_at hl 0 rfl) ?_
    refine va_get (D := (dC, dI)) (ci := 3) (v := .ref (x 1)) (C := RX8) (T := TX8) (N := 7) hx hb htg inX8 hown hK hP 0 rfl rfl 0 (by decide) (htg _ gw192) (fun _ h9 => h9) rfl dX8_save_11 ?_
    obtain ⟨v14, e14, h⟩ := bnd h
    refine cV (av := [.ref (x 1)]) (rest := []) (st1 := []) (k1 := 1) (k2 := 6) (ci := 0) (q0 := 0) hx hb hml hown htg hN hK (c_X1_copyFrom l dC dI cy (fun j => x (84 + j)) (fun j => x (1 + j)) (SL 0) F  v14 e14) (g_V gw313 gw314 gw315 gw60 gw316) hdV_X1_copyFrom rfl ⟨⟨Nat.le_of_ble_eq_true rfl, Nat.le_of_ble_eq_true rfl⟩, Nat.le_of_ble_eq_true rfl, Nat.le_of_ble_eq_true rfl⟩ hP hD hS hA ⟨rfl, rfl⟩ rfl [7, 8, 9, 10, 11, 1, 2, 3, 4, 5] [0, 6, 12, 13, 14, 15, 16, 17] rfl rfl rfl (by decide) (by decide) hl.1 rfl (Nat.le_of_ble_eq_true rfl) rfl rfl rfl dX8_save_14 (fun H locs hP hD hS => ?_)
    obtain ⟨hP, hD⟩ := x_perm (ws' := wSPo x ++ wFig (fun j => x (1 + j)) cy F ++ wSlots (fun j => x (83 + j)) cy (updF SL 0 v14) ++ wBA (x 94) cy SV) hP hD [0, 13, 14, 15, 16, 17, 1, 8, 9, 10, 11, 12, 2, 3, 4, 5, 6, 7] (by decide) rfl rfl
    refine lv_aload_n hx hb dX8_save_17 rfl (lv_at hl 0 rfl) ?_
    refine va_get (D := (dC, dI)) (ci := 3) (v := .ref (x 94)) (C := RX8) (T := TX8) (N := 7) hx hb htg inX8 hown hK hP 0 rfl rfl 4 (by decide) (htg _ gw196) (fun _ h9 => h9) rfl dX8_save_18 ?_
    refine lv_iload_n hx hb dX8_save_21 rfl (lv_at hl 1 rfl) ?_
    refine lv_iconst (v := 1) hx hb dX8_save_22 (by decide) ?_
    obtain ⟨g23, e23, h⟩ := bnd h
    refine x_zast (g := g23) hx hb hK hP hD hS 17 1 rfl rfl e23 (by rfl) dX8_save_23 (fun H locs hP hD hS => ?_)
    have hP : va_P (dC, dI) vwCl (wSPo x ++ wFig (fun j => x (1 + j)) cy F ++ wSlots (fun j => x (83 + j)) cy (updF SL 0 v14) ++ wBA (x 94) cy g23) H := hP
    have hD : va_D A (wSPo x ++ wFig (fun j => x (1 + j)) cy F ++ wSlots (fun j => x (83 + j)) cy (updF SL 0 v14) ++ wBA (x 94) cy g23) := hD
    refine lv_aload_n hx hb dX8_save_24 rfl (lv_at hl 0 rfl) ?_
    refine va_get (D := (dC, dI)) (ci := 3) (v := .ref (x 1)) (C := RX8) (T := TX8) (N := 7) hx hb htg inX8 hown hK hP 0 rfl rfl 0 (by decide) (htg _ gw192) (fun _ h9 => h9) rfl dX8_save_25 ?_
    refine va_getN (D := (dC, dI)) (ci := 0) (v := .int (f_corners F)) (C := RX1) (T := TX1) (N := 6) hx hb htg inX1 hown hK hP 1 rfl rfl 1 (by decide) (va_Nw.use rfl (hN (.fieldLinkNest RX8 92 "SquaredPaper$Figure" "corners" "I" "SquaredPaper") (by decide +kernel))) (fun _ h9 => h9) rfl dX8_save_28 ?_
    obtain rfl := Option.some.inj h
    exact hE H locs 1 6 31 ls _ hP hD hS (by decide) (by decide) rfl ⟨_, rfl, rfl⟩ dX8_save_31
  · refine x_aldq (C := "SquaredPaper$Figure") (v := .ref (x 89)) hx hb hK hP 6 3 rfl rfl e9 rfl dX8_save_9 ?_
    refine lv_aload_n hx hb dX8_save_10 rfl (lv_at hl 0 rfl) ?_
    refine va_get (D := (dC, dI)) (ci := 3) (v := .ref (x 1)) (C := RX8) (T := TX8) (N := 7) hx hb htg inX8 hown hK hP 0 rfl rfl 0 (by decide) (htg _ gw192) (fun _ h9 => h9) rfl dX8_save_11 ?_
    obtain ⟨v14, e14, h⟩ := bnd h
    refine cV (av := [.ref (x 1)]) (rest := []) (st1 := []) (k1 := 1) (k2 := 6) (ci := 0) (q0 := 0) hx hb hml hown htg hN hK (c_X1_copyFrom l dC dI cy (fun j => x (89 + j)) (fun j => x (1 + j)) (SL 1) F  v14 e14) (g_V gw313 gw314 gw315 gw60 gw316) hdV_X1_copyFrom rfl ⟨⟨Nat.le_of_ble_eq_true rfl, Nat.le_of_ble_eq_true rfl⟩, Nat.le_of_ble_eq_true rfl, Nat.le_of_ble_eq_true rfl⟩ hP hD hS hA ⟨rfl, rfl⟩ rfl [12, 13, 14, 15, 16, 1, 2, 3, 4, 5] [0, 6, 7, 8, 9, 10, 11, 17] rfl rfl rfl (by decide) (by decide) hl.1 rfl (Nat.le_of_ble_eq_true rfl) rfl rfl rfl dX8_save_14 (fun H locs hP hD hS => ?_)
    obtain ⟨hP, hD⟩ := x_perm (ws' := wSPo x ++ wFig (fun j => x (1 + j)) cy F ++ wSlots (fun j => x (83 + j)) cy (updF SL 1 v14) ++ wBA (x 94) cy SV) hP hD [0, 13, 14, 15, 16, 17, 1, 2, 3, 4, 5, 6, 8, 9, 10, 11, 12, 7] (by decide) rfl rfl
    refine lv_aload_n hx hb dX8_save_17 rfl (lv_at hl 0 rfl) ?_
    refine va_get (D := (dC, dI)) (ci := 3) (v := .ref (x 94)) (C := RX8) (T := TX8) (N := 7) hx hb htg inX8 hown hK hP 0 rfl rfl 4 (by decide) (htg _ gw196) (fun _ h9 => h9) rfl dX8_save_18 ?_
    refine lv_iload_n hx hb dX8_save_21 rfl (lv_at hl 1 rfl) ?_
    refine lv_iconst (v := 1) hx hb dX8_save_22 (by decide) ?_
    obtain ⟨g23, e23, h⟩ := bnd h
    refine x_zast (g := g23) hx hb hK hP hD hS 17 1 rfl rfl e23 (by rfl) dX8_save_23 (fun H locs hP hD hS => ?_)
    have hP : va_P (dC, dI) vwCl (wSPo x ++ wFig (fun j => x (1 + j)) cy F ++ wSlots (fun j => x (83 + j)) cy (updF SL 1 v14) ++ wBA (x 94) cy g23) H := hP
    have hD : va_D A (wSPo x ++ wFig (fun j => x (1 + j)) cy F ++ wSlots (fun j => x (83 + j)) cy (updF SL 1 v14) ++ wBA (x 94) cy g23) := hD
    refine lv_aload_n hx hb dX8_save_24 rfl (lv_at hl 0 rfl) ?_
    refine va_get (D := (dC, dI)) (ci := 3) (v := .ref (x 1)) (C := RX8) (T := TX8) (N := 7) hx hb htg inX8 hown hK hP 0 rfl rfl 0 (by decide) (htg _ gw192) (fun _ h9 => h9) rfl dX8_save_25 ?_
    refine va_getN (D := (dC, dI)) (ci := 0) (v := .int (f_corners F)) (C := RX1) (T := TX1) (N := 6) hx hb htg inX1 hown hK hP 1 rfl rfl 1 (by decide) (va_Nw.use rfl (hN (.fieldLinkNest RX8 92 "SquaredPaper$Figure" "corners" "I" "SquaredPaper") (by decide +kernel))) (fun _ h9 => h9) rfl dX8_save_28 ?_
    obtain rfl := Option.some.inj h
    exact hE H locs 1 6 31 ls _ hP hD hS (by decide) (by decide) rfl ⟨_, rfl, rfl⟩ dX8_save_31
