def G_X1_hasRing (f0 : Fig) (p1 : Int32) : Option (Int32) :=
  if p1 < 0 then
    some 0
  else
    if f_rings f0 ≤ p1 then
      some 0
    else
      some 1
abbrev rm_X1_hasRing : Room := { frames := 0, cells := 0, slots := 0, locals := 0 }
theorem hdS_X1_hasRing : yX1_hasRing.cls ≠ "java/lang/invoke/MethodHandle" ∧ yX1_hasRing.cls ≠ "java/lang/invoke/VarHandle" ∧ (parseMethodDescriptor yX1_hasRing.desc).map (fun d => d.parameters.length) = some 1 := by decide +kernel
theorem hdV_X1_hasRing : yX1_hasRing.cls = RX1 ∧ yX1_hasRing.cls ≠ "java/lang/invoke/MethodHandle" ∧ yX1_hasRing.cls ≠ "java/lang/invoke/VarHandle" ∧ (parseMethodDescriptor yX1_hasRing.desc).map (fun d => d.parameters.length) = some 1 := ⟨rfl, hdS_X1_hasRing⟩
set_option maxHeartbeats 4000000 in
set_option maxRecDepth 100000 in
theorem c_X1_hasRing (l : Launch) (dC : Nat → ClassId) (dI : Nat → Nat → Nat) (cy : Nat → ClassId) (a0 : Nat → Nat) (f0 : Fig) (p1 : Int32) (res : Int32) (h : G_X1_hasRing f0 p1 = some res) : CT l (dC, dI) (TY cy) yX1_hasRing cX1_hasRing 2 (some .boolean) rm_X1_hasRing [.ref (a0 0), .int p1] (wFig a0 cy f0) (wFig a0 cy f0) (some (.int res)) := by
  refine CT.mk_z (own := RX1) ⟨by decide, rfl⟩ (Nat.le_of_ble_eq_true rfl) ?_
  intro p e s mm args below meth cd A Q hx hb hml hown htg hN hK hA hP hD hS hE ls hl
  have hl : lv_has ls 2 [(0, .ref (a0 0)), (1, .int p1)] := hl
  replace h : _ = some res := h
  unfold G_X1_hasRing at h
  obtain ⟨H, hH⟩ : ∃ H, H = s.heap := ⟨_, rfl⟩
  obtain ⟨locs, hlocs⟩ : ∃ locs : List Loc, locs = [] := ⟨_, rfl⟩
  rw [← hlocs] at hS ⊢
  have hS : va_S A s.heap H locs := by rw [hH]; exact hS
  rw [← hH] at hP ⊢
  refine lv_iload_n hx hb dX1_hasRing_0 rfl (lv_at hl 1 rfl) ?_
  refine lv_if_lt (tgt := 16) hx hb dX1_hasRing_1 (by decide) (fun c1 => ?_) (fun c1 => ?_)
  · replace h := if_t h c1
    refine lv_iconst (v := 0) hx hb dX1_hasRing_16 (by decide) ?_
    obtain rfl := Option.some.inj h
    exact hE H locs 17 ls _ hP hD hS rfl (Or.inl rfl) dX1_hasRing_17
  replace h := if_f h c1
  refine lv_iload_n hx hb dX1_hasRing_4 rfl (lv_at hl 1 rfl) ?_
  refine lv_aload_n hx hb dX1_hasRing_5 rfl (lv_at hl 0 rfl) ?_
  refine va_get (D := (dC, dI)) (ci := 0) (v := .int (f_rings f0)) (C := RX1) (T := TX1) (N := 6) hx hb htg inX1 hown hK hP 0 rfl rfl 0 (by decide) (htg _ gw91) (fun _ h9 => h9) rfl dX1_hasRing_6 ?_
  refine lv_icmp_ge (tgt := 16) hx hb dX1_hasRing_9 (by decide) (fun c9 => ?_) (fun c9 => ?_)
  · replace h := if_t h c9
    refine lv_iconst (v := 0) hx hb dX1_hasRing_16 (by decide) ?_
    obtain rfl := Option.some.inj h
    exact hE H locs 17 ls _ hP hD hS rfl (Or.inl rfl) dX1_hasRing_17
  replace h := if_f h c9
  refine lv_iconst (v := 1) hx hb dX1_hasRing_12 (by decide) ?_
  refine lv_goto (tgt := 17) hx hb dX1_hasRing_13 (by decide) ?_
  obtain rfl := Option.some.inj h
  exact hE H locs 17 ls _ hP hD hS rfl (Or.inr rfl) dX1_hasRing_17
def G_X1_hasCorner (f0 : Fig) (p1 : Int32) (p2 : Int32) : Option (Int32) :=
  (G_X1_hasRing f0 p1).bind fun v2 =>
  if v2 = 0 then
    some 0
  else
    if p2 < 0 then
      some 0
    else
      (rd 4 (f_sizes f0) p1).bind fun v18 =>
      if v18 ≤ p2 then
        some 0
      else
        some 1
abbrev rm_X1_hasCorner : Room := { frames := 1, cells := 0, slots := 0, locals := 21 }
theorem hdS_X1_hasCorner : yX1_hasCorner.cls ≠ "java/lang/invoke/MethodHandle" ∧ yX1_hasCorner.cls ≠ "java/lang/invoke/VarHandle" ∧ (parseMethodDescriptor yX1_hasCorner.desc).map (fun d => d.parameters.length) = some 2 := by decide +kernel
theorem hdV_X1_hasCorner : yX1_hasCorner.cls = RX1 ∧ yX1_hasCorner.cls ≠ "java/lang/invoke/MethodHandle" ∧ yX1_hasCorner.cls ≠ "java/lang/invoke/VarHandle" ∧ (parseMethodDescriptor yX1_hasCorner.desc).map (fun d => d.parameters.length) = some 2 := ⟨rfl, hdS_X1_hasCorner⟩
set_option maxHeartbeats 4000000 in
set_option maxRecDepth 100000 in
theorem c_X1_hasCorner (l : Launch) (dC : Nat → ClassId) (dI : Nat → Nat → Nat) (cy : Nat → ClassId) (a0 : Nat → Nat) (f0 : Fig) (p1 : Int32) (p2 : Int32) (res : Int32) (h : G_X1_hasCorner f0 p1 p2 = some res) : CT l (dC, dI) (TY cy) yX1_hasCorner cX1_hasCorner 3 (some .boolean) rm_X1_hasCorner [.ref (a0 0), .int p1, .int p2] (wFig a0 cy f0) (wFig a0 cy f0) (some (.int res)) := by
  refine CT.mk_z (own := RX1) ⟨by decide, rfl⟩ (Nat.le_of_ble_eq_true rfl) ?_
  intro p e s mm args below meth cd A Q hx hb hml hown htg hN hK hA hP hD hS hE ls hl
  have hl : lv_has ls 3 [(0, .ref (a0 0)), (1, .int p1), (2, .int p2)] := hl
  replace h : _ = some res := h
  unfold G_X1_hasCorner at h
  obtain ⟨H, hH⟩ : ∃ H, H = s.heap := ⟨_, rfl⟩
  obtain ⟨locs, hlocs⟩ : ∃ locs : List Loc, locs = [] := ⟨_, rfl⟩
  rw [← hlocs] at hS ⊢
  have hS : va_S A s.heap H locs := by rw [hH]; exact hS
  rw [← hH] at hP ⊢
  refine lv_aload_n hx hb dX1_hasCorner_0 rfl (lv_at hl 0 rfl) ?_
  refine lv_iload_n hx hb dX1_hasCorner_1 rfl (lv_at hl 1 rfl) ?_
  obtain ⟨v2, e2, h⟩ := bnd h
  refine cV (av := [.int p1]) (rest := []) (st1 := [.int v2]) (k1 := 0) (k2 := 0) (ci := 0) (q0 := 0) hx hb hml hown htg hN hK (c_X1_hasRing l dC dI cy a0 f0 p1 v2 e2) (g_V gw172 gw173 gw174 gw60 gw175) hdV_X1_hasRing rfl ⟨⟨Nat.le_of_ble_eq_true rfl, Nat.le_of_ble_eq_true rfl⟩, Nat.le_of_ble_eq_true rfl, Nat.le_of_ble_eq_true rfl⟩ hP hD hS hA ⟨rfl, rfl⟩ rfl [0, 1, 2, 3, 4] [] rfl rfl rfl (by decide) (by decide) hl.1 rfl (Nat.le_of_ble_eq_true rfl) rfl rfl rfl dX1_hasCorner_2 (fun H locs hP hD hS => ?_)
  have hP : va_P (dC, dI) vwCl (wFig a0 cy f0) H := hP
  have hD : va_D A (wFig a0 cy f0) := hD
  refine lv_if_eq (tgt := 26) hx hb dX1_hasCorner_5 (by decide) (fun c5 => ?_) (fun c5 => ?_)
  · replace h := if_t h c5
    refine lv_iconst (v := 0) hx hb dX1_hasCorner_26 (by decide) ?_
    obtain rfl := Option.some.inj h
    exact hE H locs 27 ls _ hP hD hS rfl (Or.inl rfl) dX1_hasCorner_27
  replace h := if_f h c5
  refine lv_iload_n hx hb dX1_hasCorner_8 rfl (lv_at hl 2 rfl) ?_
  refine lv_if_lt (tgt := 26) hx hb dX1_hasCorner_9 (by decide) (fun c9 => ?_) (fun c9 => ?_)
  · replace h := if_t h c9
    refine lv_iconst (v := 0) hx hb dX1_hasCorner_26 (by decide) ?_
    obtain rfl := Option.some.inj h
    exact hE H locs 27 ls _ hP hD hS rfl (Or.inl rfl) dX1_hasCorner_27
  replace h := if_f h c9
  refine lv_iload_n hx hb dX1_hasCorner_12 rfl (lv_at hl 2 rfl) ?_
  refine lv_aload_n hx hb dX1_hasCorner_13 rfl (lv_at hl 0 rfl) ?_
  refine va_get (D := (dC, dI)) (ci := 0) (v := .ref (a0 1)) (C := RX1) (T := TX1) (N := 6) hx hb htg inX1 hown hK hP 0 rfl rfl 2 (by decide) (htg _ gw102) (fun _ h9 => h9) rfl dX1_hasCorner_14 ?_
  refine lv_iload_n hx hb dX1_hasCorner_17 rfl (lv_at hl 1 rfl) ?_
  obtain ⟨v18, e18, h⟩ := bnd h
  refine x_iald (v := v18) hx hb hK hP 1 0 rfl rfl e18 dX1_hasCorner_18 ?_
  refine lv_icmp_ge (tgt := 26) hx hb dX1_hasCorner_19 (by decide) (fun c19 => ?_) (fun c19 => ?_)
  · replace h := if_t h c19
    refine lv_iconst (v := 0) hx hb dX1_hasCorner_26 (by decide) ?_
    obtain rfl := Option.some.inj h
    exact hE H locs 27 ls _ hP hD hS rfl (Or.inl rfl) dX1_hasCorner_27
  replace h := if_f h c19
  refine lv_iconst (v := 1) hx hb dX1_hasCorner_22 (by decide) ?_
  refine lv_goto (tgt := 27) hx hb dX1_hasCorner_23 (by decide) ?_
  obtain rfl := Option.some.inj h
  exact hE H locs 27 ls _ hP hD hS rfl (Or.inr rfl) dX1_hasCorner_27
def G_X1_sizeOf (f0 : Fig) (p1 : Int32) : Option (Int32) :=
  if p1 < 0 then
    some 0
  else
    if f_rings f0 ≤ p1 then
      some 0
    else
      (rd 4 (f_sizes f0) p1).bind fun v17 =>
      some v17
abbrev rm_X1_sizeOf : Room := { frames := 0, cells := 0, slots := 0, locals := 0 }
theorem hdS_X1_sizeOf : yX1_sizeOf.cls ≠ "java/lang/invoke/MethodHandle" ∧ yX1_sizeOf.cls ≠ "java/lang/invoke/VarHandle" ∧ (parseMethodDescriptor yX1_sizeOf.desc).map (fun d => d.parameters.length) = some 1 := by decide +kernel
theorem hdV_X1_sizeOf : yX1_sizeOf.cls = RX1 ∧ yX1_sizeOf.cls ≠ "java/lang/invoke/MethodHandle" ∧ yX1_sizeOf.cls ≠ "java/lang/invoke/VarHandle" ∧ (parseMethodDescriptor yX1_sizeOf.desc).map (fun d => d.parameters.length) = some 1 := ⟨rfl, hdS_X1_sizeOf⟩
set_option maxHeartbeats 4000000 in
set_option maxRecDepth 100000 in
theorem c_X1_sizeOf (l : Launch) (dC : Nat → ClassId) (dI : Nat → Nat → Nat) (cy : Nat → ClassId) (a0 : Nat → Nat) (f0 : Fig) (p1 : Int32) (res : Int32) (h : G_X1_sizeOf f0 p1 = some res) : CT l (dC, dI) (TY cy) yX1_sizeOf cX1_sizeOf 2 (some .int) rm_X1_sizeOf [.ref (a0 0), .int p1] (wFig a0 cy f0) (wFig a0 cy f0) (some (.int res)) := by
  refine CT.mk_i (own := RX1) ⟨by decide, rfl⟩ (Nat.le_of_ble_eq_true rfl) ?_
  intro p e s mm args below meth cd A Q hx hb hml hown htg hN hK hA hP hD hS hE ls hl
  have hl : lv_has ls 2 [(0, .ref (a0 0)), (1, .int p1)] := hl
  replace h : _ = some res := h
  unfold G_X1_sizeOf at h
  obtain ⟨H, hH⟩ : ∃ H, H = s.heap := ⟨_, rfl⟩
  obtain ⟨locs, hlocs⟩ : ∃ locs : List Loc, locs = [] := ⟨_, rfl⟩
  rw [← hlocs] at hS ⊢
  have hS : va_S A s.heap H locs := by rw [hH]; exact hS
  rw [← hH] at hP ⊢
  refine lv_iload_n hx hb dX1_sizeOf_0 rfl (lv_at hl 1 rfl) ?_
  refine lv_if_lt (tgt := 21) hx hb dX1_sizeOf_1 (by decide) (fun c1 => ?_) (fun c1 => ?_)
  · replace h := if_t h c1
    refine lv_iconst (v := 0) hx hb dX1_sizeOf_21 (by decide) ?_
    obtain rfl := Option.some.inj h
    exact hE H locs 22 ls _ hP hD hS rfl dX1_sizeOf_22
  replace h := if_f h c1
  refine lv_iload_n hx hb dX1_sizeOf_4 rfl (lv_at hl 1 rfl) ?_
  refine lv_aload_n hx hb dX1_sizeOf_5 rfl (lv_at hl 0 rfl) ?_
  refine va_get (D := (dC, dI)) (ci := 0) (v := .int (f_rings f0)) (C := RX1) (T := TX1) (N := 6) hx hb htg inX1 hown hK hP 0 rfl rfl 0 (by decide) (htg _ gw91) (fun _ h9 => h9) rfl dX1_sizeOf_6 ?_
  refine lv_icmp_ge (tgt := 21) hx hb dX1_sizeOf_9 (by decide) (fun c9 => ?_) (fun c9 => ?_)
  · replace h := if_t h c9
    refine lv_iconst (v := 0) hx hb dX1_sizeOf_21 (by decide) ?_
    obtain rfl := Option.some.inj h
    exact hE H locs 22 ls _ hP hD hS rfl dX1_sizeOf_22
  replace h := if_f h c9
  refine lv_aload_n hx hb dX1_sizeOf_12 rfl (lv_at hl 0 rfl) ?_
  refine va_get (D := (dC, dI)) (ci := 0) (v := .ref (a0 1)) (C := RX1) (T := TX1) (N := 6) hx hb htg inX1 hown hK hP 0 rfl rfl 2 (by decide) (htg _ gw102) (fun _ h9 => h9) rfl dX1_sizeOf_13 ?_
  refine lv_iload_n hx hb dX1_sizeOf_16 rfl (lv_at hl 1 rfl) ?_
  obtain ⟨v17, e17, h⟩ := bnd h
  refine x_iald (v := v17) hx hb hK hP 1 0 rfl rfl e17 dX1_sizeOf_17 ?_
  refine lv_goto (tgt := 22) hx hb dX1_sizeOf_18 (by decide) ?_
  obtain rfl := Option.some.inj h
  exact hE H locs 22 ls _ hP hD hS rfl dX1_sizeOf_22
def G_X1_firstOf_L4  (f0 : Fig) : Nat → Int32 → Int32 → Int32 → Option (Int32)
  | 0, _, _, _ => none
  | n4 + 1, l3_4, l2_4, l1_4 =>
    if l1_4 ≤ l3_4 then
      some l2_4
    else
      if f_rings f0 ≤ l3_4 then
        some l2_4
      else
        (rd 4 (f_sizes f0) l3_4).bind fun v23 =>
        (G_X1_firstOf_L4 f0 n4) (l3_4 + 1) (l2_4 + v23) l1_4
def G_X1_firstOf (f0 : Fig) (p1 : Int32) : Option (Int32) :=
  G_X1_firstOf_L4 f0 FU 0 0 p1
abbrev rm_X1_firstOf : Room := { frames := 0, cells := 0, slots := 0, locals := 0 }
theorem hdS_X1_firstOf : yX1_firstOf.cls ≠ "java/lang/invoke/MethodHandle" ∧ yX1_firstOf.cls ≠ "java/lang/invoke/VarHandle" ∧ (parseMethodDescriptor yX1_firstOf.desc).map (fun d => d.parameters.length) = some 1 := by decide +kernel
theorem hdV_X1_firstOf : yX1_firstOf.cls = RX1 ∧ yX1_firstOf.cls ≠ "java/lang/invoke/MethodHandle" ∧ yX1_firstOf.cls ≠ "java/lang/invoke/VarHandle" ∧ (parseMethodDescriptor yX1_firstOf.desc).map (fun d => d.parameters.length) = some 1 := ⟨rfl, hdS_X1_firstOf⟩
set_option maxHeartbeats 4000000 in
set_option maxRecDepth 100000 in
theorem c_X1_firstOf (l : Launch) (dC : Nat → ClassId) (dI : Nat → Nat → Nat) (cy : Nat → ClassId) (a0 : Nat → Nat) (f0 : Fig) (p1 : Int32) (res : Int32) (h : G_X1_firstOf f0 p1 = some res) : CT l (dC, dI) (TY cy) yX1_firstOf cX1_firstOf 4 (some .int) rm_X1_firstOf [.ref (a0 0), .int p1] (wFig a0 cy f0) (wFig a0 cy f0) (some (.int res)) := by
  refine CT.mk_i (own := RX1) ⟨by decide, rfl⟩ (Nat.le_of_ble_eq_true rfl) ?_
  intro p e s mm args below meth cd A Q hx hb hml hown htg hN hK hA hP hD hS hE ls hl
  have hl : lv_has ls 4 [(0, .ref (a0 0)), (1, .int p1)] := hl
  replace h : _ = some res := h
  unfold G_X1_firstOf at h
  obtain ⟨H, hH⟩ : ∃ H, H = s.heap := ⟨_, rfl⟩
  obtain ⟨locs, hlocs⟩ : ∃ locs : List Loc, locs = [] := ⟨_, rfl⟩
  rw [← hlocs] at hS ⊢
  have hS : va_S A s.heap H locs := by rw [hH]; exact hS
  rw [← hH] at hP ⊢
  refine lv_iconst (v := 0) hx hb dX1_firstOf_0 (by decide) ?_
  refine lv_istore_n (lv' := [(2, .int 0), (0, .ref (a0 0)), (1, .int p1)]) hx hb dX1_firstOf_1 rfl hl (by decide) rfl (fun ls hl => ?_)
  refine lv_iconst (v := 0) hx hb dX1_firstOf_2 (by decide) ?_
  refine lv_istore_n (lv' := [(3, .int 0), (2, .int 0), (0, .ref (a0 0)), (1, .int p1)]) hx hb dX1_firstOf_3 rfl hl (by decide) rfl (fun ls hl => ?_)
  have hL4 : ∀ (n4 : Nat) (l3_4 : Int32) (l2_4 : Int32) (l1_4 : Int32) (H : Heap) (locs : List Loc) (ls : Array Slot), G_X1_firstOf_L4 f0 n4 l3_4 l2_4 l1_4 = some res → va_P (dC, dI) vwCl (wFig a0 cy f0) H → va_D A (wFig a0 cy f0) → va_S A s.heap H locs → lv_has ls 4 [(3, .int l3_4), (2, .int l2_4), (0, .ref (a0 0)), (1, .int l1_4)] → W p l e rm_X1_firstOf s mm args below meth cd H locs 0 0 Q (F0 mm 4 ls []) := by
    intro n4
    induction n4 with
    | zero => intro l3_4 l2_4 l1_4 H locs ls h; exact absurd h (by simp [G_X1_firstOf_L4])
    | succ n4 ih4 =>
      intro l3_4 l2_4 l1_4 H locs ls h hP hD hS hl
      rw [G_X1_firstOf_L4] at h
      refine lv_iload_n hx hb dX1_firstOf_4 rfl (lv_at hl 0 rfl) ?_
      refine lv_iload_n hx hb dX1_firstOf_5 rfl (lv_at hl 3 rfl) ?_
      refine lv_icmp_ge (tgt := 32) hx hb dX1_firstOf_6 (by decide) (fun c6 => ?_) (fun c6 => ?_)
      · replace h := if_t h c6
        refine lv_iload_n hx hb dX1_firstOf_32 rfl (lv_at hl 1 rfl) ?_
        obtain rfl := Option.some.inj h
        exact hE H locs 33 ls _ hP hD hS rfl dX1_firstOf_33
      replace h := if_f h c6
      refine lv_iload_n hx hb dX1_firstOf_9 rfl (lv_at hl 0 rfl) ?_
      refine lv_aload_n hx hb dX1_firstOf_10 rfl (lv_at hl 2 rfl) ?_
      refine va_get (D := (dC, dI)) (ci := 0) (v := .int (f_rings f0)) (C := RX1) (T := TX1) (N := 6) hx hb htg inX1 hown hK hP 0 rfl rfl 0 (by decide) (htg _ gw91) (fun _ h9 => h9) rfl dX1_firstOf_11 ?_
      refine lv_icmp_ge (tgt := 32) hx hb dX1_firstOf_14 (by decide) (fun c14 => ?_) (fun c14 => ?_)
      · replace h := if_t h c14
        refine lv_iload_n hx hb dX1_firstOf_32 rfl (lv_at hl 1 rfl) ?_
        obtain rfl := Option.some.inj h
        exact hE H locs 33 ls _ hP hD hS rfl dX1_firstOf_33
      replace h := if_f h c14
      refine lv_iload_n hx hb dX1_firstOf_17 rfl (lv_at hl 1 rfl) ?_
      refine lv_aload_n hx hb dX1_firstOf_18 rfl (lv_at hl 2 rfl) ?_
      refine va_get (D := (dC, dI)) (ci := 0) (v := .ref (a0 1)) (C := RX1) (T := TX1) (N := 6) hx hb htg inX1 hown hK hP 0 rfl rfl 2 (by decide) (htg _ gw102) (fun _ h9 => h9) rfl dX1_firstOf_19 ?_
      refine lv_iload_n hx hb dX1_firstOf_22 rfl (lv_at hl 0 rfl) ?_
      obtain ⟨v23, e23, h⟩ := bnd h
      refine x_iald (v := v23) hx hb hK hP 1 0 rfl rfl e23 dX1_firstOf_23 ?_
      refine lv_iadd hx hb dX1_firstOf_24 ?_
      refine lv_istore_n (lv' := [(2, .int (l2_4 + v23)), (3, .int l3_4), (0, .ref (a0 0)), (1, .int l1_4)]) hx hb dX1_firstOf_25 rfl hl (by decide) rfl (fun ls hl => ?_)
      refine lv_iinc (v := l3_4 + 1) (lv' := [(3, .int (l3_4 + 1)), (2, .int (l2_4 + v23)), (0, .ref (a0 0)), (1, .int l1_4)]) hx hb dX1_firstOf_26 hl (k := 1) rfl rfl (by decide) rfl (fun ls hl => ?_)
      refine lv_goto (tgt := 4) hx hb dX1_firstOf_29 (by decide) ?_
      exact ih4 (l3_4 + 1) (l2_4 + v23) l1_4 H locs ls h hP hD hS (lv_sub hl [0, 1, 2, 3] rfl)
  exact hL4 FU 0 0 p1 H locs ls h hP hD hS (lv_sub hl [0, 1, 2, 3] rfl)
def G_X1_at (f0 : Fig) (p1 : Int32) (p2 : Int32) : Option (Int32) :=
  (G_X1_firstOf f0 p1).bind fun v2 =>
  some (v2 + p2)
abbrev rm_X1_at : Room := { frames := 1, cells := 0, slots := 0, locals := 23 }
theorem hdS_X1_at : yX1_at.cls ≠ "java/lang/invoke/MethodHandle" ∧ yX1_at.cls ≠ "java/lang/invoke/VarHandle" ∧ (parseMethodDescriptor yX1_at.desc).map (fun d => d.parameters.length) = some 2 := by decide +kernel
theorem hdV_X1_at : yX1_at.cls = RX1 ∧ yX1_at.cls ≠ "java/lang/invoke/MethodHandle" ∧ yX1_at.cls ≠ "java/lang/invoke/VarHandle" ∧ (parseMethodDescriptor yX1_at.desc).map (fun d => d.parameters.length) = some 2 := ⟨rfl, hdS_X1_at⟩
set_option maxHeartbeats 4000000 in
set_option maxRecDepth 100000 in
theorem c_X1_at (l : Launch) (dC : Nat → ClassId) (dI : Nat → Nat → Nat) (cy : Nat → ClassId) (a0 : Nat → Nat) (f0 : Fig) (p1 : Int32) (p2 : Int32) (res : Int32) (h : G_X1_at f0 p1 p2 = some res) : CT l (dC, dI) (TY cy) yX1_at cX1_at 3 (some .int) rm_X1_at [.ref (a0 0), .int p1, .int p2] (wFig a0 cy f0) (wFig a0 cy f0) (some (.int res)) := by
  refine CT.mk_i (own := RX1) ⟨by decide, rfl⟩ (Nat.le_of_ble_eq_true rfl) ?_
  intro p e s mm args below meth cd A Q hx hb hml hown htg hN hK hA hP hD hS hE ls hl
  have hl : lv_has ls 3 [(0, .ref (a0 0)), (1, .int p1), (2, .int p2)] := hl
  replace h : _ = some res := h
  unfold G_X1_at at h
  obtain ⟨H, hH⟩ : ∃ H, H = s.heap := ⟨_, rfl⟩
  obtain ⟨locs, hlocs⟩ : ∃ locs : List Loc, locs = [] := ⟨_, rfl⟩
  rw [← hlocs] at hS ⊢
  have hS : va_S A s.heap H locs := by rw [hH]; exact hS
  rw [← hH] at hP ⊢
  refine lv_aload_n hx hb dX1_at_0 rfl (lv_at hl 0 rfl) ?_
  refine lv_iload_n hx hb dX1_at_1 rfl (lv_at hl 1 rfl) ?_
  obtain ⟨v2, e2, h⟩ := bnd h
  refine cV (av := [.int p1]) (rest := []) (st1 := [.int v2]) (k1 := 0) (k2 := 0) (ci := 0) (q0 := 0) hx hb hml hown htg hN hK (c_X1_firstOf l dC dI cy a0 f0 p1 v2 e2) (g_V gw180 gw181 gw182 gw60 gw183) hdV_X1_firstOf rfl ⟨⟨Nat.le_of_ble_eq_true rfl, Nat.le_of_ble_eq_true rfl⟩, Nat.le_of_ble_eq_true rfl, Nat.le_of_ble_eq_true rfl⟩ hP hD hS hA ⟨rfl, rfl⟩ rfl [0, 1, 2, 3, 4] [] rfl rfl rfl (by decide) (by decide) hl.1 rfl (Nat.le_of_ble_eq_true rfl) rfl rfl rfl dX1_at_2 (fun H locs hP hD hS => ?_)
  have hP : va_P (dC, dI) vwCl (wFig a0 cy f0) H := hP
  have hD : va_D A (wFig a0 cy f0) := hD
  refine lv_iload_n hx hb dX1_at_5 rfl (lv_at hl 2 rfl) ?_
  refine lv_iadd hx hb dX1_at_6 ?_
  obtain rfl := Option.some.inj h
  exact hE H locs 7 ls _ hP hD hS rfl dX1_at_7
def G_X1_place (f0 : Fig) (p1 : Int32) (p2 : Int32) (p3 : Int32) : Option (Fig) :=
  if p1 < 0 then
    some f0
  else
    if f_corners f0 ≤ p1 then
      some f0
    else
      (wr 40 (f_xs f0) p1 p2).bind fun g18 =>
      (some (fs_xs f0 g18)).bind fun z0_25 =>
      (wr 40 (f_ys z0_25) p1 p3).bind fun g25 =>
      some (fs_ys z0_25 g25)
abbrev rm_X1_place : Room := { frames := 0, cells := 0, slots := 0, locals := 0 }
theorem hdS_X1_place : yX1_place.cls ≠ "java/lang/invoke/MethodHandle" ∧ yX1_place.cls ≠ "java/lang/invoke/VarHandle" ∧ (parseMethodDescriptor yX1_place.desc).map (fun d => d.parameters.length) = some 3 := by decide +kernel
theorem hdV_X1_place : yX1_place.cls = RX1 ∧ yX1_place.cls ≠ "java/lang/invoke/MethodHandle" ∧ yX1_place.cls ≠ "java/lang/invoke/VarHandle" ∧ (parseMethodDescriptor yX1_place.desc).map (fun d => d.parameters.length) = some 3 := ⟨rfl, hdS_X1_place⟩
set_option maxHeartbeats 4000000 in
set_option maxRecDepth 100000 in
theorem c_X1_place (l : Launch) (dC : Nat → ClassId) (dI : Nat → Nat → Nat) (cy : Nat → ClassId) (a0 : Nat → Nat) (f0 : Fig) (p1 : Int32) (p2 : Int32) (p3 : Int32) (res : Fig) (h : G_X1_place f0 p1 p2 p3 = some res) : CT l (dC, dI) (TY cy) yX1_place cX1_place 4 none rm_X1_place [.ref (a0 0), .int p1, .int p2, .int p3] (wFig a0 cy f0) (wFig a0 cy res) none := by
  refine CT.mk_v (own := RX1) ⟨by decide, rfl⟩ (Nat.le_of_ble_eq_true rfl) ?_
  intro p e s mm args below meth cd A Q hx hb hml hown htg hN hK hA hP hD hS hE ls hl
  have hl : lv_has ls 4 [(0, .ref (a0 0)), (1, .int p1), (2, .int p2), (3, .int p3)] := hl
  replace h : _ = some res := h
  unfold G_X1_place at h
  obtain ⟨H, hH⟩ : ∃ H, H = s.heap := ⟨_, rfl⟩
  obtain ⟨locs, hlocs⟩ : ∃ locs : List Loc, locs = [] := ⟨_, rfl⟩
  rw [← hlocs] at hS ⊢
  have hS : va_S A s.heap H locs := by rw [hH]; exact hS
  rw [← hH] at hP ⊢
  refine lv_iload_n hx hb dX1_place_0 rfl (lv_at hl 1 rfl) ?_
  refine lv_if_lt (tgt := 26) hx hb dX1_place_1 (by decide) (fun c1 => ?_) (fun c1 => ?_)
  · replace h := if_t h c1
    obtain rfl := Option.some.inj h
    exact hE H locs 26 ls hP hD hS dX1_place_26
  replace h := if_f h c1
  refine lv_iload_n hx hb dX1_place_4 rfl (lv_at hl 1 rfl) ?_
  refine lv_aload_n hx hb dX1_place_5 rfl (lv_at hl 0 rfl) ?_
  refine va_get (D := (dC, dI)) (ci := 0) (v := .int (f_corners f0)) (C := RX1) (T := TX1) (N := 6) hx hb htg inX1 hown hK hP 0 rfl rfl 1 (by decide) (htg _ gw97) (fun _ h9 => h9) rfl dX1_place_6 ?_
  refine lv_icmp_ge (tgt := 26) hx hb dX1_place_9 (by decide) (fun c9 => ?_) (fun c9 => ?_)
  · replace h := if_t h c9
    obtain rfl := Option.some.inj h
    exact hE H locs 26 ls hP hD hS dX1_place_26
  replace h := if_f h c9
  refine lv_aload_n hx hb dX1_place_12 rfl (lv_at hl 0 rfl) ?_
  refine va_get (D := (dC, dI)) (ci := 0) (v := .ref (a0 2)) (C := RX1) (T := TX1) (N := 6) hx hb htg inX1 hown hK hP 0 rfl rfl 3 (by decide) (htg _ gw103) (fun _ h9 => h9) rfl dX1_place_13 ?_
  refine lv_iload_n hx hb dX1_place_16 rfl (lv_at hl 1 rfl) ?_
  refine lv_iload_n hx hb dX1_place_17 rfl (lv_at hl 2 rfl) ?_
  obtain ⟨g18, e18, h⟩ := bnd h
  refine x_iast (g := g18) hx hb hK hP hD hS 2 0 rfl rfl e18 dX1_place_18 (fun H locs hP hD hS => ?_)
  have hP : va_P (dC, dI) vwCl (wFig a0 cy (fs_xs f0 g18)) H := hP
  have hD : va_D A (wFig a0 cy (fs_xs f0 g18)) := hD
  refine lv_aload_n hx hb dX1_place_19 rfl (lv_at hl 0 rfl) ?_
  refine va_get (D := (dC, dI)) (ci := 0) (v := .ref (a0 3)) (C := RX1) (T := TX1) (N := 6) hx hb htg inX1 hown hK hP 0 rfl rfl 4 (by decide) (htg _ gw104) (fun _ h9 => h9) rfl dX1_place_20 ?_
  refine lv_iload_n hx hb dX1_place_23 rfl (lv_at hl 1 rfl) ?_
  refine lv_iload_n hx hb dX1_place_24 rfl (lv_at hl 3 rfl) ?_
  obtain ⟨z0_25, ez0_25, h⟩ := bnd h
  replace ez0_25 := Option.some.inj ez0_25
  rw [ez0_25] at hP hD
  obtain ⟨g25, e25, h⟩ := bnd h
  refine x_iast (g := g25) hx hb hK hP hD hS 3 0 rfl rfl e25 dX1_place_25 (fun H locs hP hD hS => ?_)
  have hP : va_P (dC, dI) vwCl (wFig a0 cy (fs_ys z0_25 g25)) H := hP
  have hD : va_D A (wFig a0 cy (fs_ys z0_25 g25)) := hD
  obtain rfl := Option.some.inj h
  exact hE H locs 26 ls hP hD hS dX1_place_26
def G_X1_relink_L24 (r4 : Fig → Int32 → Int32 → Option (Fig))  : Nat → Fig → Int32 → Int32 → Int32 → Int32 → Option (Fig)
  | 0, _, _, _, _, _ => none
  | n24 + 1, f0_24, l4_24, l3_24, l2_24, l1_24 =>
    if l3_24 ≤ l4_24 then
      r4 f0_24 (l2_24 + 1) l3_24
    else
      ((if l3_24 ≤ l4_24 + 1 then
          some l1_24
        else
          some (l4_24 + 1)) : Option (Int32)).bind fun b41 =>
      (wr 40 (f_next f0_24) l4_24 b41).bind fun g52 =>
      (G_X1_relink_L24 r4 n24) (fs_next f0_24 g52) (l4_24 + 1) l3_24 l2_24 l1_24
def G_X1_relink_L4   : Nat → Fig → Int32 → Int32 → Option (Fig)
  | 0, _, _, _ => none
  | n4 + 1, f0_4, l2_4, l1_4 =>
    if f_rings f0_4 ≤ l2_4 then
      some f0_4
    else
      (rd 4 (f_sizes f0_4) l2_4).bind fun v18 =>
      G_X1_relink_L24 (G_X1_relink_L4 n4) FU f0_4 l1_4 (l1_4 + v18) l2_4 l1_4
def G_X1_relink (f0 : Fig) : Option (Fig) :=
  G_X1_relink_L4 FU f0 0 0
abbrev rm_X1_relink : Room := { frames := 0, cells := 0, slots := 0, locals := 0 }
theorem hdS_X1_relink : yX1_relink.cls ≠ "java/lang/invoke/MethodHandle" ∧ yX1_relink.cls ≠ "java/lang/invoke/VarHandle" ∧ (parseMethodDescriptor yX1_relink.desc).map (fun d => d.parameters.length) = some 0 := by decide +kernel
theorem hdV_X1_relink : yX1_relink.cls = RX1 ∧ yX1_relink.cls ≠ "java/lang/invoke/MethodHandle" ∧ yX1_relink.cls ≠ "java/lang/invoke/VarHandle" ∧ (parseMethodDescriptor yX1_relink.desc).map (fun d => d.parameters.length) = some 0 := ⟨rfl, hdS_X1_relink⟩
set_option maxHeartbeats 4000000 in
set_option maxRecDepth 100000 in
theorem c_X1_relink (l : Launch) (dC : Nat → ClassId) (dI : Nat → Nat → Nat) (cy : Nat → ClassId) (a0 : Nat → Nat) (f0 : Fig) (res : Fig) (h : G_X1_relink f0 = some res) : CT l (dC, dI) (TY cy) yX1_relink cX1_relink 5 none rm_X1_relink [.ref (a0 0)] (wFig a0 cy f0) (wFig a0 cy res) none := by
  refine CT.mk_v (own := RX1) ⟨by decide, rfl⟩ (Nat.le_of_ble_eq_true rfl) ?_
  intro p e s mm args below meth cd A Q hx hb hml hown htg hN hK hA hP hD hS hE ls hl
  have hl : lv_has ls 5 [(0, .ref (a0 0))] := hl
  replace h : _ = some res := h
  unfold G_X1_relink at h
  obtain ⟨H, hH⟩ : ∃ H, H = s.heap := ⟨_, rfl⟩
  obtain ⟨locs, hlocs⟩ : ∃ locs : List Loc, locs = [] := ⟨_, rfl⟩
  rw [← hlocs] at hS ⊢
  have hS : va_S A s.heap H locs := by rw [hH]; exact hS
  rw [← hH] at hP ⊢
  refine lv_iconst (v := 0) hx hb dX1_relink_0 (by decide) ?_
  refine lv_istore_n (lv' := [(1, .int 0), (0, .ref (a0 0))]) hx hb dX1_relink_1 rfl hl (by decide) rfl (fun ls hl => ?_)
  refine lv_iconst (v := 0) hx hb dX1_relink_2 (by decide) ?_
  refine lv_istore_n (lv' := [(2, .int 0), (1, .int 0), (0, .ref (a0 0))]) hx hb dX1_relink_3 rfl hl (by decide) rfl (fun ls hl => ?_)
  have hL4 : ∀ (n4 : Nat) (f0_4 : Fig) (l2_4 : Int32) (l1_4 : Int32) (H : Heap) (locs : List Loc) (ls : Array Slot), G_X1_relink_L4 n4 f0_4 l2_4 l1_4 = some res → va_P (dC, dI) vwCl (wFig a0 cy f0_4) H → va_D A (wFig a0 cy f0_4) → va_S A s.heap H locs → lv_has ls 5 [(2, .int l2_4), (1, .int l1_4), (0, .ref (a0 0))] → W p l e rm_X1_relink s mm args below meth cd H locs 0 0 Q (F0 mm 4 ls []) := by
    intro n4
    induction n4 with
    | zero => intro f0_4 l2_4 l1_4 H locs ls h; exact absurd h (by simp [G_X1_relink_L4])
    | succ n4 ih4 =>
      intro f0_4 l2_4 l1_4 H locs ls h hP hD hS hl
      rw [G_X1_relink_L4] at h
      refine lv_iload_n hx hb dX1_relink_4 rfl (lv_at hl 0 rfl) ?_
      refine lv_aload_n hx hb dX1_relink_5 rfl (lv_at hl 2 rfl) ?_
      refine va_get (D := (dC, dI)) (ci := 0) (v := .int (f_rings f0_4)) (C := RX1) (T := TX1) (N := 6) hx hb htg inX1 hown hK hP 0 rfl rfl 0 (by decide) (htg _ gw91) (fun _ h9 => h9) rfl dX1_relink_6 ?_
      refine lv_icmp_ge (tgt := 67) hx hb dX1_relink_9 (by decide) (fun c9 => ?_) (fun c9 => ?_)
      · replace h := if_t h c9
        obtain rfl := Option.some.inj h
        exact hE H locs 67 ls hP hD hS dX1_relink_67
      replace h := if_f h c9
      refine lv_iload_n hx hb dX1_relink_12 rfl (lv_at hl 1 rfl) ?_
      refine lv_aload_n hx hb dX1_relink_13 rfl (lv_at hl 2 rfl) ?_
      refine va_get (D := (dC, dI)) (ci := 0) (v := .ref (a0 1)) (C := RX1) (T := TX1) (N := 6) hx hb htg inX1 hown hK hP 0 rfl rfl 2 (by decide) (htg _ gw102) (fun _ h9 => h9) rfl dX1_relink_14 ?_
      refine lv_iload_n hx hb dX1_relink_17 rfl (lv_at hl 0 rfl) ?_
      obtain ⟨v18, e18, h⟩ := bnd h
      refine x_iald (v := v18) hx hb hK hP 1 0 rfl rfl e18 dX1_relink_18 ?_
      refine lv_iadd hx hb dX1_relink_19 ?_
      refine lv_istore_n (lv' := [(3, .int (l1_4 + v18)), (2, .int l2_4), (1, .int l1_4), (0, .ref (a0 0))]) hx hb dX1_relink_20 rfl hl (by decide) rfl (fun ls hl => ?_)
      refine lv_iload_n hx hb dX1_relink_21 rfl (lv_at hl 2 rfl) ?_
      refine lv_istore (lv' := [(4, .int l1_4), (3, .int (l1_4 + v18)), (2, .int l2_4), (1, .int l1_4), (0, .ref (a0 0))]) hx hb dX1_relink_22 hl (by decide) rfl (fun ls hl => ?_)
      have hL24 : ∀ (n24 : Nat) (f0_24 : Fig) (l4_24 : Int32) (l3_24 : Int32) (l2_24 : Int32) (l1_24 : Int32) (H : Heap) (locs : List Loc) (ls : Array Slot), G_X1_relink_L24 (G_X1_relink_L4 n4) n24 f0_24 l4_24 l3_24 l2_24 l1_24 = some res → va_P (dC, dI) vwCl (wFig a0 cy f0_24) H → va_D A (wFig a0 cy f0_24) → va_S A s.heap H locs → lv_has ls 5 [(4, .int l4_24), (3, .int l3_24), (2, .int l2_24), (1, .int l1_24), (0, .ref (a0 0))] → W p l e rm_X1_relink s mm args below meth cd H locs 0 0 Q (F0 mm 24 ls []) := by
        intro n24
        induction n24 with
        | zero => intro f0_24 l4_24 l3_24 l2_24 l1_24 H locs ls h; exact absurd h (by simp [G_X1_relink_L24])
        | succ n24 ih24 =>
          intro f0_24 l4_24 l3_24 l2_24 l1_24 H locs ls h hP hD hS hl
          rw [G_X1_relink_L24] at h
          refine lv_iload hx hb dX1_relink_24 (lv_at hl 0 rfl) ?_
          refine lv_iload_n hx hb dX1_relink_26 rfl (lv_at hl 1 rfl) ?_
          refine lv_icmp_ge (tgt := 59) hx hb dX1_relink_27 (by decide) (fun c27 => ?_) (fun c27 => ?_)
          · replace h := if_t h c27
            refine lv_iload_n hx hb dX1_relink_59 rfl (lv_at hl 1 rfl) ?_
            refine lv_istore_n (lv' := [(1, .int l3_24), (4, .int l4_24), (3, .int l3_24), (2, .int l2_24), (0, .ref (a0 0))]) hx hb dX1_relink_60 rfl hl (by decide) rfl (fun ls hl => ?_)
            refine lv_iinc (v := l2_24 + 1) (lv' := [(2, .int (l2_24 + 1)), (1, .int l3_24), (4, .int l4_24), (3, .int l3_24), (0, .ref (a0 0))]) hx hb dX1_relink_61 hl (k := 3) rfl rfl (by decide) rfl (fun ls hl => ?_)
            refine lv_goto (tgt := 4) hx hb dX1_relink_64 (by decide) ?_
            exact ih4 f0_24 (l2_24 + 1) l3_24 H locs ls h hP hD hS (lv_sub hl [0, 1, 4] rfl)
          replace h := if_f h c27
          refine lv_aload_n hx hb dX1_relink_30 rfl (lv_at hl 4 rfl) ?_
          refine va_get (D := (dC, dI)) (ci := 0) (v := .ref (a0 4)) (C := RX1) (T := TX1) (N := 6) hx hb htg inX1 hown hK hP 0 rfl rfl 5 (by decide) (htg _ gw105) (fun _ h9 => h9) rfl dX1_relink_31 ?_
          refine lv_iload hx hb dX1_relink_34 (lv_at hl 0 rfl) ?_
          refine lv_iload hx hb dX1_relink_36 (lv_at hl 0 rfl) ?_
          refine lv_iconst (v := 1) hx hb dX1_relink_38 (by decide) ?_
          refine lv_iadd hx hb dX1_relink_39 ?_
          refine lv_iload_n hx hb dX1_relink_40 rfl (lv_at hl 1 rfl) ?_
          obtain ⟨b41, e41, h⟩ := bnd h
          have hr52 : ∀ (H : Heap) (locs : List Loc) (ls : Array Slot), va_P (dC, dI) vwCl (wFig a0 cy f0_24) H → va_D A (wFig a0 cy f0_24) → va_S A s.heap H locs → lv_has ls 5 [(4, .int l4_24), (3, .int l3_24), (2, .int l2_24), (1, .int l1_24), (0, .ref (a0 0))] → W p l e rm_X1_relink s mm args below meth cd H locs 0 0 Q (F0 mm 52 ls [.int b41, .int l4_24, .ref (a0 4)]) := by
            intro H locs ls hP hD hS hl
            obtain ⟨g52, e52, h⟩ := bnd h
            refine x_iast (g := g52) hx hb hK hP hD hS 4 0 rfl rfl e52 dX1_relink_52 (fun H locs hP hD hS => ?_)
            have hP : va_P (dC, dI) vwCl (wFig a0 cy (fs_next f0_24 g52)) H := hP
            have hD : va_D A (wFig a0 cy (fs_next f0_24 g52)) := hD
            refine lv_iinc (v := l4_24 + 1) (lv' := [(4, .int (l4_24 + 1)), (3, .int l3_24), (2, .int l2_24), (1, .int l1_24), (0, .ref (a0 0))]) hx hb dX1_relink_53 hl (k := 0) rfl rfl (by decide) rfl (fun ls hl => ?_)
            refine lv_goto (tgt := 24) hx hb dX1_relink_56 (by decide) ?_
            exact ih24 (fs_next f0_24 g52) (l4_24 + 1) l3_24 l2_24 l1_24 H locs ls h hP hD hS (lv_sub hl [0, 1, 2, 3, 4] rfl)
          have h := e41
          clear e41
          refine lv_icmp_ge (tgt := 51) hx hb dX1_relink_41 (by decide) (fun c41 => ?_) (fun c41 => ?_)
          · replace h := if_t h c41
            refine lv_iload_n hx hb dX1_relink_51 rfl (lv_at hl 3 rfl) ?_
            obtain rfl := Option.some.inj h
            exact hr52 H locs ls hP hD hS hl
          replace h := if_f h c41
          refine lv_iload hx hb dX1_relink_44 (lv_at hl 0 rfl) ?_
          refine lv_iconst (v := 1) hx hb dX1_relink_46 (by decide) ?_
          refine lv_iadd hx hb dX1_relink_47 ?_
          refine lv_goto (tgt := 52) hx hb dX1_relink_48 (by decide) ?_
          obtain rfl := Option.some.inj h
          exact hr52 H locs ls hP hD hS hl
      exact hL24 FU f0_4 l1_4 (l1_4 + v18) l2_4 l1_4 H locs ls h hP hD hS (lv_sub hl [0, 1, 2, 3, 4] rfl)
  exact hL4 FU f0 0 0 H locs ls h hP hD hS (lv_sub hl [0, 1, 2] rfl)
def G_X1_putIn_L57   : Nat → Fig → Int32 → Int32 → Int32 → Int32 → Int32 → Option (Fig)
  | 0, _, _, _, _, _, _ => none
  | n57 + 1, f0_57, l6_57, l5_57, l1_57, l3_57, l4_57 =>
    if l6_57 ≤ l5_57 then
      (rd 4 (f_sizes f0_57) l1_57).bind fun v108 =>
      (wr 4 (f_sizes f0_57) l1_57 (v108 + 1)).bind fun g111 =>
      (some (fs_sizes f0_57 g111)).bind fun z0_119 =>
      (G_X1_place (fs_corners z0_119 ((f_corners (fs_sizes f0_57 g111)) + 1)) l5_57 l3_57 l4_57).bind fun v128 =>
      (G_X1_relink v128).bind fun v132 =>
      some v132
    else
      (rd 40 (f_xs f0_57) (l6_57 - 1)).bind fun v78 =>
      (wr 40 (f_xs f0_57) l6_57 v78).bind fun g79 =>
      (rd 40 (f_ys (fs_xs f0_57 g79)) (l6_57 - 1)).bind fun v94 =>
      (some (fs_xs f0_57 g79)).bind fun z0_95 =>
      (wr 40 (f_ys z0_95) l6_57 v94).bind fun g95 =>
      (G_X1_putIn_L57 n57) (fs_ys z0_95 g95) (l6_57 + (-1)) l5_57 l1_57 l3_57 l4_57
def G_X1_putIn (f0 : Fig) (p1 : Int32) (p2 : Int32) (p3 : Int32) (p4 : Int32) : Option (Fig) :=
  (G_X1_hasRing f0 p1).bind fun v2 =>
  if v2 = 0 then
    some f0
  else
    if p2 < 0 then
      some f0
    else
      (rd 4 (f_sizes f0) p1).bind fun v18 =>
      if v18 < p2 then
        some f0
      else
        (rd 4 (f_sizes f0) p1).bind fun v27 =>
        if 10 ≤ v27 then
          some f0
        else
          if f_corners f0 < 40 then
            (G_X1_at f0 p1 p2).bind fun v46 =>
            G_X1_putIn_L57 FU f0 (f_corners f0) v46 p1 p3 p4
          else
            some f0
abbrev rm_X1_putIn : Room := { frames := 2, cells := 0, slots := 0, locals := 45 }
theorem hdS_X1_putIn : yX1_putIn.cls ≠ "java/lang/invoke/MethodHandle" ∧ yX1_putIn.cls ≠ "java/lang/invoke/VarHandle" ∧ (parseMethodDescriptor yX1_putIn.desc).map (fun d => d.parameters.length) = some 4 := by decide +kernel
theorem hdV_X1_putIn : yX1_putIn.cls = RX1 ∧ yX1_putIn.cls ≠ "java/lang/invoke/MethodHandle" ∧ yX1_putIn.cls ≠ "java/lang/invoke/VarHandle" ∧ (parseMethodDescriptor yX1_putIn.desc).map (fun d => d.parameters.length) = some 4 := ⟨rfl, hdS_X1_putIn⟩
set_option maxHeartbeats 4000000 in
set_option maxRecDepth 100000 in
theorem c_X1_putIn (l : Launch) (dC : Nat → ClassId) (dI : Nat → Nat → Nat) (cy : Nat → ClassId) (a0 : Nat → Nat) (f0 : Fig) (p1 : Int32) (p2 : Int32) (p3 : Int32) (p4 : Int32) (res : Fig) (h : G_X1_putIn f0 p1 p2 p3 p4 = some res) : CT l (dC, dI) (TY cy) yX1_putIn cX1_putIn 7 none rm_X1_putIn [.ref (a0 0), .int p1, .int p2, .int p3, .int p4] (wFig a0 cy f0) (wFig a0 cy res) none := by
  refine CT.mk_v (own := RX1) ⟨by decide, rfl⟩ (Nat.le_of_ble_eq_true rfl) ?_
  intro p e s mm args below meth cd A Q hx hb hml hown htg hN hK hA hP hD hS hE ls hl
  have hl : lv_has ls 7 [(0, .ref (a0 0)), (1, .int p1), (2, .int p2), (3, .int p3), (4, .int p4)] := hl
  replace h : _ = some res := h
  unfold G_X1_putIn at h
  obtain ⟨H, hH⟩ : ∃ H, H = s.heap := ⟨_, rfl⟩
  obtain ⟨locs, hlocs⟩ : ∃ locs : List Loc, locs = [] := ⟨_, rfl⟩
  rw [← hlocs] at hS ⊢
  have hS : va_S A s.heap H locs := by rw [hH]; exact hS
  rw [← hH] at hP ⊢
  refine lv_aload_n hx hb dX1_putIn_0 rfl (lv_at hl 0 rfl) ?_
  refine lv_iload_n hx hb dX1_putIn_1 rfl (lv_at hl 1 rfl) ?_
  obtain ⟨v2, e2, h⟩ := bnd h
  refine cV (av := [.int p1]) (rest := []) (st1 := [.int v2]) (k1 := 0) (k2 := 0) (ci := 0) (q0 := 0) hx hb hml hown htg hN hK (c_X1_hasRing l dC dI cy a0 f0 p1 v2 e2) (g_V gw172 gw173 gw174 gw60 gw175) hdV_X1_hasRing rfl ⟨⟨Nat.le_of_ble_eq_true rfl, Nat.le_of_ble_eq_true rfl⟩, Nat.le_of_ble_eq_true rfl, Nat.le_of_ble_eq_true rfl⟩ hP hD hS hA ⟨rfl, rfl⟩ rfl [0, 1, 2, 3, 4] [] rfl rfl rfl (by decide) (by decide) hl.1 rfl (Nat.le_of_ble_eq_true rfl) rfl rfl rfl dX1_putIn_2 (fun H locs hP hD hS => ?_)
  have hP : va_P (dC, dI) vwCl (wFig a0 cy f0) H := hP
  have hD : va_D A (wFig a0 cy f0) := hD
  refine lv_if_eq (tgt := 42) hx hb dX1_putIn_5 (by decide) (fun c5 => ?_) (fun c5 => ?_)
  · replace h := if_t h c5
    obtain rfl := Option.some.inj h
    exact hE H locs 42 ls hP hD hS dX1_putIn_42
  replace h := if_f h c5
  refine lv_iload_n hx hb dX1_putIn_8 rfl (lv_at hl 2 rfl) ?_
  refine lv_if_lt (tgt := 42) hx hb dX1_putIn_9 (by decide) (fun c9 => ?_) (fun c9 => ?_)
  · replace h := if_t h c9
    obtain rfl := Option.some.inj h
    exact hE H locs 42 ls hP hD hS dX1_putIn_42
  replace h := if_f h c9
  refine lv_iload_n hx hb dX1_putIn_12 rfl (lv_at hl 2 rfl) ?_
  refine lv_aload_n hx hb dX1_putIn_13 rfl (lv_at hl 0 rfl) ?_
  refine va_get (D := (dC, dI)) (ci := 0) (v := .ref (a0 1)) (C := RX1) (T := TX1) (N := 6) hx hb htg inX1 hown hK hP 0 rfl rfl 2 (by decide) (htg _ gw102) (fun _ h9 => h9) rfl dX1_putIn_14 ?_
  refine lv_iload_n hx hb dX1_putIn_17 rfl (lv_at hl 1 rfl) ?_
  obtain ⟨v18, e18, h⟩ := bnd h
  refine x_iald (v := v18) hx hb hK hP 1 0 rfl rfl e18 dX1_putIn_18 ?_
  refine lv_icmp_gt (tgt := 42) hx hb dX1_putIn_19 (by decide) (fun c19 => ?_) (fun c19 => ?_)
  · replace h := if_t h c19
    obtain rfl := Option.some.inj h
    exact hE H locs 42 ls hP hD hS dX1_putIn_42
  replace h := if_f h c19
  refine lv_aload_n hx hb dX1_putIn_22 rfl (lv_at hl 0 rfl) ?_
  refine va_get (D := (dC, dI)) (ci := 0) (v := .ref (a0 1)) (C := RX1) (T := TX1) (N := 6) hx hb htg inX1 hown hK hP 0 rfl rfl 2 (by decide) (htg _ gw102) (fun _ h9 => h9) rfl dX1_putIn_23 ?_
  refine lv_iload_n hx hb dX1_putIn_26 rfl (lv_at hl 1 rfl) ?_
  obtain ⟨v27, e27, h⟩ := bnd h
  refine x_iald (v := v27) hx hb hK hP 1 0 rfl rfl e27 dX1_putIn_27 ?_
  refine lv_bipush (v := 10) hx hb dX1_putIn_28 (by decide) ?_
  refine lv_icmp_ge (tgt := 42) hx hb dX1_putIn_30 (by decide) (fun c30 => ?_) (fun c30 => ?_)
  · replace h := if_t h c30
    obtain rfl := Option.some.inj h
    exact hE H locs 42 ls hP hD hS dX1_putIn_42
  replace h := if_f h c30
  refine lv_aload_n hx hb dX1_putIn_33 rfl (lv_at hl 0 rfl) ?_
  refine va_get (D := (dC, dI)) (ci := 0) (v := .int (f_corners f0)) (C := RX1) (T := TX1) (N := 6) hx hb htg inX1 hown hK hP 0 rfl rfl 1 (by decide) (htg _ gw97) (fun _ h9 => h9) rfl dX1_putIn_34 ?_
  refine lv_bipush (v := 40) hx hb dX1_putIn_37 (by decide) ?_
  refine lv_icmp_lt (tgt := 43) hx hb dX1_putIn_39 (by decide) (fun c39 => ?_) (fun c39 => ?_)
  · replace h := if_t h c39
    refine lv_aload_n hx hb dX1_putIn_43 rfl (lv_at hl 0 rfl) ?_
    refine lv_iload_n hx hb dX1_putIn_44 rfl (lv_at hl 1 rfl) ?_
    refine lv_iload_n hx hb dX1_putIn_45 rfl (lv_at hl 2 rfl) ?_
    obtain ⟨v46, e46, h⟩ := bnd h
    refine cV (av := [.int p1, .int p2]) (rest := []) (st1 := [.int v46]) (k1 := 0) (k2 := 0) (ci := 0) (q0 := 0) hx hb hml hown htg hN hK (c_X1_at l dC dI cy a0 f0 p1 p2 v46 e46) (g_V gw176 gw177 gw178 gw60 gw179) hdV_X1_at rfl ⟨⟨Nat.le_of_ble_eq_true rfl, Nat.le_of_ble_eq_true rfl⟩, Nat.le_of_ble_eq_true rfl, Nat.le_of_ble_eq_true rfl⟩ hP hD hS hA ⟨rfl, rfl⟩ rfl [0, 1, 2, 3, 4] [] rfl rfl rfl (by decide) (by decide) hl.1 rfl (Nat.le_of_ble_eq_true rfl) rfl rfl rfl dX1_putIn_46 (fun H locs hP hD hS => ?_)
    have hP : va_P (dC, dI) vwCl (wFig a0 cy f0) H := hP
    have hD : va_D A (wFig a0 cy f0) := hD
    refine lv_istore (lv' := [(5, .int v46), (0, .ref (a0 0)), (1, .int p1), (2, .int p2), (3, .int p3), (4, .int p4)]) hx hb dX1_putIn_49 hl (by decide) rfl (fun ls hl => ?_)
    refine lv_aload_n hx hb dX1_putIn_51 rfl (lv_at hl 1 rfl) ?_
    refine va_get (D := (dC, dI)) (ci := 0) (v := .int (f_corners f0)) (C := RX1) (T := TX1) (N := 6) hx hb htg inX1 hown hK hP 0 rfl rfl 1 (by decide) (htg _ gw97) (fun _ h9 => h9) rfl dX1_putIn_52 ?_
    refine lv_istore (lv' := [(6, .int (f_corners f0)), (5, .int v46), (0, .ref (a0 0)), (1, .int p1), (2, .int p2), (3, .int p3), (4, .int p4)]) hx hb dX1_putIn_55 hl (by decide) rfl (fun ls hl => ?_)
    have hL57 : ∀ (n57 : Nat) (f0_57 : Fig) (l6_57 : Int32) (l5_57 : Int32) (l1_57 : Int32) (l3_57 : Int32) (l4_57 : Int32) (H : Heap) (locs : List Loc) (ls : Array Slot), G_X1_putIn_L57 n57 f0_57 l6_57 l5_57 l1_57 l3_57 l4_57 = some res → va_P (dC, dI) vwCl (wFig a0 cy f0_57) H → va_D A (wFig a0 cy f0_57) → va_S A s.heap H locs → lv_has ls 7 [(6, .int l6_57), (5, .int l5_57), (0, .ref (a0 0)), (1, .int l1_57), (3, .int l3_57), (4, .int l4_57)] → W p l e rm_X1_putIn s mm args below meth cd H locs 0 0 Q (F0 mm 57 ls []) := by
      intro n57
      induction n57 with
      | zero => intro f0_57 l6_57 l5_57 l1_57 l3_57 l4_57 H locs ls h; exact absurd h (by simp [G_X1_putIn_L57])
      | succ n57 ih57 =>
        intro f0_57 l6_57 l5_57 l1_57 l3_57 l4_57 H locs ls h hP hD hS hl
        rw [G_X1_putIn_L57] at h
        refine lv_iload hx hb dX1_putIn_57 (lv_at hl 0 rfl) ?_
        refine lv_iload hx hb dX1_putIn_59 (lv_at hl 1 rfl) ?_
        refine lv_icmp_le (tgt := 102) hx hb dX1_putIn_61 (by decide) (fun c61 => ?_) (fun c61 => ?_)
        · replace h := if_t h c61
          refine lv_aload_n hx hb dX1_putIn_102 rfl (lv_at hl 2 rfl) ?_
          refine va_get (D := (dC, dI)) (ci := 0) (v := .ref (a0 1)) (C := RX1) (T := TX1) (N := 6) hx hb htg inX1 hown hK hP 0 rfl rfl 2 (by decide) (htg _ gw102) (fun _ h9 => h9) rfl dX1_putIn_103 ?_
          refine lv_iload_n hx hb dX1_putIn_106 rfl (lv_at hl 3 rfl) ?_
          refine lv_dup2_11 hx hb dX1_putIn_107 rfl rfl ?_
          obtain ⟨v108, e108, h⟩ := bnd h
          refine x_iald (v := v108) hx hb hK hP 1 0 rfl rfl e108 dX1_putIn_108 ?_
          refine lv_iconst (v := 1) hx hb dX1_putIn_109 (by decide) ?_
          refine lv_iadd hx hb dX1_putIn_110 ?_
          obtain ⟨g111, e111, h⟩ := bnd h
          refine x_iast (g := g111) hx hb hK hP hD hS 1 0 rfl rfl e111 dX1_putIn_111 (fun H locs hP hD hS => ?_)
          have hP : va_P (dC, dI) vwCl (wFig a0 cy (fs_sizes f0_57 g111)) H := hP
          have hD : va_D A (wFig a0 cy (fs_sizes f0_57 g111)) := hD
          refine lv_aload_n hx hb dX1_putIn_112 rfl (lv_at hl 2 rfl) ?_
          refine lv_dup hx hb dX1_putIn_113 rfl ?_
          refine va_get (D := (dC, dI)) (ci := 0) (v := .int (f_corners (fs_sizes f0_57 g111))) (C := RX1) (T := TX1) (N := 6) hx hb htg inX1 hown hK hP 0 rfl rfl 1 (by decide) (htg _ gw97) (fun _ h9 => h9) rfl dX1_putIn_114 ?_
          refine lv_iconst (v := 1) hx hb dX1_putIn_117 (by decide) ?_
          refine lv_iadd hx hb dX1_putIn_118 ?_
          obtain ⟨z0_119, ez0_119, h⟩ := bnd h
          replace ez0_119 := Option.some.inj ez0_119
          rw [ez0_119] at hP hD
          refine va_put (D := (dC, dI)) (ci := 0) (v := .int ((f_corners (fs_sizes f0_57 g111)) + 1)) (ty := .int) (C := RX1) (T := TX1) (N := 6) hx hb htg inX1 tyX1 tyX1_ok nmX1 hown hK hP hD hS 0 rfl rfl 1 (by decide) (htg _ gw97) (fun _ h9 => h9) rfl (by decide +kernel) rfl rfl (Nat.le_of_ble_eq_true rfl) dX1_putIn_119 (fun H locs hP hD hS => ?_)
          have hP : va_P (dC, dI) vwCl (wFig a0 cy (fs_corners z0_119 ((f_corners (fs_sizes f0_57 g111)) + 1))) H := hP
          have hD : va_D A (wFig a0 cy (fs_corners z0_119 ((f_corners (fs_sizes f0_57 g111)) + 1))) := hD
          refine lv_aload_n hx hb dX1_putIn_122 rfl (lv_at hl 2 rfl) ?_
          refine lv_iload hx hb dX1_putIn_123 (lv_at hl 1 rfl) ?_
          refine lv_iload_n hx hb dX1_putIn_125 rfl (lv_at hl 4 rfl) ?_
          refine lv_iload hx hb dX1_putIn_126 (lv_at hl 5 rfl) ?_
          obtain ⟨v128, e128, h⟩ := bnd h
          refine cV (av := [.int l5_57, .int l3_57, .int l4_57]) (rest := []) (st1 := []) (k1 := 0) (k2 := 0) (ci := 0) (q0 := 0) hx hb hml hown htg hN hK (c_X1_place l dC dI cy a0 (fs_corners z0_119 ((f_corners (fs_sizes f0_57 g111)) + 1)) l5_57 l3_57 l4_57 v128 e128) (g_V gw184 gw185 gw186 gw60 gw187) hdV_X1_place rfl ⟨⟨Nat.le_of_ble_eq_true rfl, Nat.le_of_ble_eq_true rfl⟩, Nat.le_of_ble_eq_true rfl, Nat.le_of_ble_eq_true rfl⟩ hP hD hS hA ⟨rfl, rfl⟩ rfl [0, 1, 2, 3, 4] [] rfl rfl rfl (by decide) (by decide) hl.1 rfl (Nat.le_of_ble_eq_true rfl) rfl rfl rfl dX1_putIn_128 (fun H locs hP hD hS => ?_)
          have hP : va_P (dC, dI) vwCl (wFig a0 cy v128) H := hP
          have hD : va_D A (wFig a0 cy v128) := hD
          refine lv_aload_n hx hb dX1_putIn_131 rfl (lv_at hl 2 rfl) ?_
          obtain ⟨v132, e132, h⟩ := bnd h
          refine cV (av := []) (rest := []) (st1 := []) (k1 := 0) (k2 := 0) (ci := 0) (q0 := 0) hx hb hml hown htg hN hK (c_X1_relink l dC dI cy a0 v128  v132 e132) (g_V gw188 gw190 gw0 gw60 gw191) hdV_X1_relink rfl ⟨⟨Nat.le_of_ble_eq_true rfl, Nat.le_of_ble_eq_true rfl⟩, Nat.le_of_ble_eq_true rfl, Nat.le_of_ble_eq_true rfl⟩ hP hD hS hA ⟨rfl, rfl⟩ rfl [0, 1, 2, 3, 4] [] rfl rfl rfl (by decide) (by decide) hl.1 rfl (Nat.le_of_ble_eq_true rfl) rfl rfl rfl dX1_putIn_132 (fun H locs hP hD hS => ?_)
          have hP : va_P (dC, dI) vwCl (wFig a0 cy v132) H := hP
          have hD : va_D A (wFig a0 cy v132) := hD
          obtain rfl := Option.some.inj h
          exact hE H locs 135 ls hP hD hS dX1_putIn_135
        replace h := if_f h c61
        refine lv_aload_n hx hb dX1_putIn_64 rfl (lv_at hl 2 rfl) ?_
        refine va_get (D := (dC, dI)) (ci := 0) (v := .ref (a0 2)) (C := RX1) (T := TX1) (N := 6) hx hb htg inX1 hown hK hP 0 rfl rfl 3 (by decide) (htg _ gw103) (fun _ h9 => h9) rfl dX1_putIn_65 ?_
        refine lv_iload hx hb dX1_putIn_68 (lv_at hl 0 rfl) ?_
        refine lv_aload_n hx hb dX1_putIn_70 rfl (lv_at hl 2 rfl) ?_
        refine va_get (D := (dC, dI)) (ci := 0) (v := .ref (a0 2)) (C := RX1) (T := TX1) (N := 6) hx hb htg inX1 hown hK hP 0 rfl rfl 3 (by decide) (htg _ gw103) (fun _ h9 => h9) rfl dX1_putIn_71 ?_
        refine lv_iload hx hb dX1_putIn_74 (lv_at hl 0 rfl) ?_
        refine lv_iconst (v := 1) hx hb dX1_putIn_76 (by decide) ?_
        refine lv_isub hx hb dX1_putIn_77 ?_
        obtain ⟨v78, e78, h⟩ := bnd h
        refine x_iald (v := v78) hx hb hK hP 2 0 rfl rfl e78 dX1_putIn_78 ?_
        obtain ⟨g79, e79, h⟩ := bnd h
        refine x_iast (g := g79) hx hb hK hP hD hS 2 0 rfl rfl e79 dX1_putIn_79 (fun H locs hP hD hS => ?_)
        have hP : va_P (dC, dI) vwCl (wFig a0 cy (fs_xs f0_57 g79)) H := hP
        have hD : va_D A (wFig a0 cy (fs_xs f0_57 g79)) := hD
        refine lv_aload_n hx hb dX1_putIn_80 rfl (lv_at hl 2 rfl) ?_
        refine va_get (D := (dC, dI)) (ci := 0) (v := .ref (a0 3)) (C := RX1) (T := TX1) (N := 6) hx hb htg inX1 hown hK hP 0 rfl rfl 4 (by decide) (htg _ gw104) (fun _ h9 => h9) rfl dX1_putIn_81 ?_
        refine lv_iload hx hb dX1_putIn_84 (lv_at hl 0 rfl) ?_
        refine lv_aload_n hx hb dX1_putIn_86 rfl (lv_at hl 2 rfl) ?_
        refine va_get (D := (dC, dI)) (ci := 0) (v := .ref (a0 3)) (C := RX1) (T := TX1) (N := 6) hx hb htg inX1 hown hK hP 0 rfl rfl 4 (by decide) (htg _ gw104) (fun _ h9 => h9) rfl dX1_putIn_87 ?_
        refine lv_iload hx hb dX1_putIn_90 (lv_at hl 0 rfl) ?_
        refine lv_iconst (v := 1) hx hb dX1_putIn_92 (by decide) ?_
        refine lv_isub hx hb dX1_putIn_93 ?_
        obtain ⟨v94, e94, h⟩ := bnd h
        refine x_iald (v := v94) hx hb hK hP 3 0 rfl rfl e94 dX1_putIn_94 ?_
        obtain ⟨z0_95, ez0_95, h⟩ := bnd h
        replace ez0_95 := Option.some.inj ez0_95
        rw [ez0_95] at hP hD
        obtain ⟨g95, e95, h⟩ := bnd h
        refine x_iast (g := g95) hx hb hK hP hD hS 3 0 rfl rfl e95 dX1_putIn_95 (fun H locs hP hD hS => ?_)
        have hP : va_P (dC, dI) vwCl (wFig a0 cy (fs_ys z0_95 g95)) H := hP
        have hD : va_D A (wFig a0 cy (fs_ys z0_95 g95)) := hD
        refine lv_iinc (v := l6_57 + (-1)) (lv' := [(6, .int (l6_57 + (-1))), (5, .int l5_57), (0, .ref (a0 0)), (1, .int l1_57), (3, .int l3_57), (4, .int l4_57)]) hx hb dX1_putIn_96 hl (k := 0) rfl rfl (by decide) rfl (fun ls hl => ?_)
        refine lv_goto (tgt := 57) hx hb dX1_putIn_99 (by decide) ?_
        exact ih57 (fs_ys z0_95 g95) (l6_57 + (-1)) l5_57 l1_57 l3_57 l4_57 H locs ls h hP hD hS (lv_sub hl [0, 1, 2, 3, 4, 5] rfl)
    exact hL57 FU f0 (f_corners f0) v46 p1 p3 p4 H locs ls h hP hD hS (lv_sub hl [0, 1, 2, 3, 5, 6] rfl)
  replace h := if_f h c39
  obtain rfl := Option.some.inj h
  exact hE H locs 42 ls hP hD hS dX1_putIn_42
def G_X1_xOf (f0 : Fig) (p1 : Int32) : Option (Int32) :=
  if p1 < 0 then
    some 0
  else
    if f_corners f0 ≤ p1 then
      some 0
    else
      (rd 40 (f_xs f0) p1).bind fun v17 =>
      some v17
abbrev rm_X1_xOf : Room := { frames := 0, cells := 0, slots := 0, locals := 0 }
theorem hdS_X1_xOf : yX1_xOf.cls ≠ "java/lang/invoke/MethodHandle" ∧ yX1_xOf.cls ≠ "java/lang/invoke/VarHandle" ∧ (parseMethodDescriptor yX1_xOf.desc).map (fun d => d.parameters.length) = some 1 := by decide +kernel
theorem hdV_X1_xOf : yX1_xOf.cls = RX1 ∧ yX1_xOf.cls ≠ "java/lang/invoke/MethodHandle" ∧ yX1_xOf.cls ≠ "java/lang/invoke/VarHandle" ∧ (parseMethodDescriptor yX1_xOf.desc).map (fun d => d.parameters.length) = some 1 := ⟨rfl, hdS_X1_xOf⟩
set_option maxHeartbeats 4000000 in
set_option maxRecDepth 100000 in
theorem c_X1_xOf (l : Launch) (dC : Nat → ClassId) (dI : Nat → Nat → Nat) (cy : Nat → ClassId) (a0 : Nat → Nat) (f0 : Fig) (p1 : Int32) (res : Int32) (h : G_X1_xOf f0 p1 = some res) : CT l (dC, dI) (TY cy) yX1_xOf cX1_xOf 2 (some .int) rm_X1_xOf [.ref (a0 0), .int p1] (wFig a0 cy f0) (wFig a0 cy f0) (some (.int res)) := by
  refine CT.mk_i (own := RX1) ⟨by decide, rfl⟩ (Nat.le_of_ble_eq_true rfl) ?_
  intro p e s mm args below meth cd A Q hx hb hml hown htg hN hK hA hP hD hS hE ls hl
  have hl : lv_has ls 2 [(0, .ref (a0 0)), (1, .int p1)] := hl
  replace h : _ = some res := h
  unfold G_X1_xOf at h
  obtain ⟨H, hH⟩ : ∃ H, H = s.heap := ⟨_, rfl⟩
  obtain ⟨locs, hlocs⟩ : ∃ locs : List Loc, locs = [] := ⟨_, rfl⟩
  rw [← hlocs] at hS ⊢
  have hS : va_S A s.heap H locs := by rw [hH]; exact hS
  rw [← hH] at hP ⊢
  refine lv_iload_n hx hb dX1_xOf_0 rfl (lv_at hl 1 rfl) ?_
  refine lv_if_lt (tgt := 21) hx hb dX1_xOf_1 (by decide) (fun c1 => ?_) (fun c1 => ?_)
  · replace h := if_t h c1
    refine lv_iconst (v := 0) hx hb dX1_xOf_21 (by decide) ?_
    obtain rfl := Option.some.inj h
    exact hE H locs 22 ls _ hP hD hS rfl dX1_xOf_22
  replace h := if_f h c1
  refine lv_iload_n hx hb dX1_xOf_4 rfl (lv_at hl 1 rfl) ?_
  refine lv_aload_n hx hb dX1_xOf_5 rfl (lv_at hl 0 rfl) ?_
  refine va_get (D := (dC, dI)) (ci := 0) (v := .int (f_corners f0)) (C := RX1) (T := TX1) (N := 6) hx hb htg inX1 hown hK hP 0 rfl rfl 1 (by decide) (htg _ gw97) (fun _ h9 => h9) rfl dX1_xOf_6 ?_
  refine lv_icmp_ge (tgt := 21) hx hb dX1_xOf_9 (by decide) (fun c9 => ?_) (fun c9 => ?_)
  · replace h := if_t h c9
    refine lv_iconst (v := 0) hx hb dX1_xOf_21 (by decide) ?_
    obtain rfl := Option.some.inj h
    exact hE H locs 22 ls _ hP hD hS rfl dX1_xOf_22
  replace h := if_f h c9
  refine lv_aload_n hx hb dX1_xOf_12 rfl (lv_at hl 0 rfl) ?_
  refine va_get (D := (dC, dI)) (ci := 0) (v := .ref (a0 2)) (C := RX1) (T := TX1) (N := 6) hx hb htg inX1 hown hK hP 0 rfl rfl 3 (by decide) (htg _ gw103) (fun _ h9 => h9) rfl dX1_xOf_13 ?_
  refine lv_iload_n hx hb dX1_xOf_16 rfl (lv_at hl 1 rfl) ?_
  obtain ⟨v17, e17, h⟩ := bnd h
  refine x_iald (v := v17) hx hb hK hP 2 0 rfl rfl e17 dX1_xOf_17 ?_
  refine lv_goto (tgt := 22) hx hb dX1_xOf_18 (by decide) ?_
  obtain rfl := Option.some.inj h
  exact hE H locs 22 ls _ hP hD hS rfl dX1_xOf_22
def G_X8_inRange (p0 : Int32) (p1 : Int32) (p2 : Int32) : Option (Int32) :=
  if p0 < p1 then
    some 0
  else
    if p2 < p0 then
      some 0
    else
      some 1
abbrev rm_X8_inRange : Room := { frames := 0, cells := 0, slots := 0, locals := 0 }
theorem hdS_X8_inRange : yX8_inRange.cls ≠ "java/lang/invoke/MethodHandle" ∧ yX8_inRange.cls ≠ "java/lang/invoke/VarHandle" ∧ (parseMethodDescriptor yX8_inRange.desc).map (fun d => d.parameters.length) = some 3 := by decide +kernel
set_option maxHeartbeats 4000000 in
set_option maxRecDepth 100000 in
theorem c_X8_inRange (l : Launch) (dC : Nat → ClassId) (dI : Nat → Nat → Nat) (cy : Nat → ClassId)  (p0 : Int32) (p1 : Int32) (p2 : Int32) (res : Int32) (h : G_X8_inRange p0 p1 p2 = some res) : CT l (dC, dI) (TY cy) yX8_inRange cX8_inRange 3 (some .boolean) rm_X8_inRange [.int p0, .int p1, .int p2] ([]) ([]) (some (.int res)) := by
  refine CT.mk_z (own := RX8) ⟨by decide, rfl⟩ (Nat.le_of_ble_eq_true rfl) ?_
  intro p e s mm args below meth cd A Q hx hb hml hown htg hN hK hA hP hD hS hE ls hl
  have hl : lv_has ls 3 [(0, .int p0), (1, .int p1), (2, .int p2)] := hl
  replace h : _ = some res := h
  unfold G_X8_inRange at h
  obtain ⟨H, hH⟩ : ∃ H, H = s.heap := ⟨_, rfl⟩
  obtain ⟨locs, hlocs⟩ : ∃ locs : List Loc, locs = [] := ⟨_, rfl⟩
  rw [← hlocs] at hS ⊢
  have hS : va_S A s.heap H locs := by rw [hH]; exact hS
  rw [← hH] at hP ⊢
  refine lv_iload_n hx hb dX8_inRange_0 rfl (lv_at hl 1 rfl) ?_
  refine lv_iload_n hx hb dX8_inRange_1 rfl (lv_at hl 0 rfl) ?_
  refine lv_icmp_gt (tgt := 14) hx hb dX8_inRange_2 (by decide) (fun c2 => ?_) (fun c2 => ?_)
  · replace h := if_t h c2
    refine lv_iconst (v := 0) hx hb dX8_inRange_14 (by decide) ?_
    obtain rfl := Option.some.inj h
    exact hE H locs 15 ls _ hP hD hS rfl (Or.inl rfl) dX8_inRange_15
  replace h := if_f h c2
  refine lv_iload_n hx hb dX8_inRange_5 rfl (lv_at hl 0 rfl) ?_
  refine lv_iload_n hx hb dX8_inRange_6 rfl (lv_at hl 2 rfl) ?_
  refine lv_icmp_gt (tgt := 14) hx hb dX8_inRange_7 (by decide) (fun c7 => ?_) (fun c7 => ?_)
  · replace h := if_t h c7
    refine lv_iconst (v := 0) hx hb dX8_inRange_14 (by decide) ?_
    obtain rfl := Option.some.inj h
    exact hE H locs 15 ls _ hP hD hS rfl (Or.inl rfl) dX8_inRange_15
  replace h := if_f h c7
  refine lv_iconst (v := 1) hx hb dX8_inRange_10 (by decide) ?_
  refine lv_goto (tgt := 15) hx hb dX8_inRange_11 (by decide) ?_
  obtain rfl := Option.some.inj h
  exact hE H locs 15 ls _ hP hD hS rfl (Or.inr rfl) dX8_inRange_15
def G_X1_yOf (f0 : Fig) (p1 : Int32) : Option (Int32) :=
  if p1 < 0 then
    some 0
  else
    if f_corners f0 ≤ p1 then
      some 0
    else
      (rd 40 (f_ys f0) p1).bind fun v17 =>
      some v17
abbrev rm_X1_yOf : Room := { frames := 0, cells := 0, slots := 0, locals := 0 }
theorem hdS_X1_yOf : yX1_yOf.cls ≠ "java/lang/invoke/MethodHandle" ∧ yX1_yOf.cls ≠ "java/lang/invoke/VarHandle" ∧ (parseMethodDescriptor yX1_yOf.desc).map (fun d => d.parameters.length) = some 1 := by decide +kernel
theorem hdV_X1_yOf : yX1_yOf.cls = RX1 ∧ yX1_yOf.cls ≠ "java/lang/invoke/MethodHandle" ∧ yX1_yOf.cls ≠ "java/lang/invoke/VarHandle" ∧ (parseMethodDescriptor yX1_yOf.desc).map (fun d => d.parameters.length) = some 1 := ⟨rfl, hdS_X1_yOf⟩
set_option maxHeartbeats 4000000 in
set_option maxRecDepth 100000 in
theorem c_X1_yOf (l : Launch) (dC : Nat → ClassId) (dI : Nat → Nat → Nat) (cy : Nat → ClassId) (a0 : Nat → Nat) (f0 : Fig) (p1 : Int32) (res : Int32) (h : G_X1_yOf f0 p1 = some res) : CT l (dC, dI) (TY cy) yX1_yOf cX1_yOf 2 (some .int) rm_X1_yOf [.ref (a0 0), .int p1] (wFig a0 cy f0) (wFig a0 cy f0) (some (.int res)) := by
  refine CT.mk_i (own := RX1) ⟨by decide, rfl⟩ (Nat.le_of_ble_eq_true rfl) ?_
  intro p e s mm args below meth cd A Q hx hb hml hown htg hN hK hA hP hD hS hE ls hl
  have hl : lv_has ls 2 [(0, .ref (a0 0)), (1, .int p1)] := hl
  replace h : _ = some res := h
  unfold G_X1_yOf at h
  obtain ⟨H, hH⟩ : ∃ H, H = s.heap := ⟨_, rfl⟩
  obtain ⟨locs, hlocs⟩ : ∃ locs : List Loc, locs = [] := ⟨_, rfl⟩
  rw [← hlocs] at hS ⊢
  have hS : va_S A s.heap H locs := by rw [hH]; exact hS
  rw [← hH] at hP ⊢
  refine lv_iload_n hx hb dX1_yOf_0 rfl (lv_at hl 1 rfl) ?_
  refine lv_if_lt (tgt := 21) hx hb dX1_yOf_1 (by decide) (fun c1 => ?_) (fun c1 => ?_)
  · replace h := if_t h c1
    refine lv_iconst (v := 0) hx hb dX1_yOf_21 (by decide) ?_
    obtain rfl := Option.some.inj h
    exact hE H locs 22 ls _ hP hD hS rfl dX1_yOf_22
  replace h := if_f h c1
  refine lv_iload_n hx hb dX1_yOf_4 rfl (lv_at hl 1 rfl) ?_
  refine lv_aload_n hx hb dX1_yOf_5 rfl (lv_at hl 0 rfl) ?_
  refine va_get (D := (dC, dI)) (ci := 0) (v := .int (f_corners f0)) (C := RX1) (T := TX1) (N := 6) hx hb htg inX1 hown hK hP 0 rfl rfl 1 (by decide) (htg _ gw97) (fun _ h9 => h9) rfl dX1_yOf_6 ?_
  refine lv_icmp_ge (tgt := 21) hx hb dX1_yOf_9 (by decide) (fun c9 => ?_) (fun c9 => ?_)
  · replace h := if_t h c9
    refine lv_iconst (v := 0) hx hb dX1_yOf_21 (by decide) ?_
    obtain rfl := Option.some.inj h
    exact hE H locs 22 ls _ hP hD hS rfl dX1_yOf_22
  replace h := if_f h c9
  refine lv_aload_n hx hb dX1_yOf_12 rfl (lv_at hl 0 rfl) ?_
  refine va_get (D := (dC, dI)) (ci := 0) (v := .ref (a0 3)) (C := RX1) (T := TX1) (N := 6) hx hb htg inX1 hown hK hP 0 rfl rfl 4 (by decide) (htg _ gw104) (fun _ h9 => h9) rfl dX1_yOf_13 ?_
  refine lv_iload_n hx hb dX1_yOf_16 rfl (lv_at hl 1 rfl) ?_
  obtain ⟨v17, e17, h⟩ := bnd h
  refine x_iald (v := v17) hx hb hK hP 3 0 rfl rfl e17 dX1_yOf_17 ?_
  refine lv_goto (tgt := 22) hx hb dX1_yOf_18 (by decide) ?_
  obtain rfl := Option.some.inj h
  exact hE H locs 22 ls _ hP hD hS rfl dX1_yOf_22
def G_X4_leavesPaper_L2  (f0 : Fig) : Nat → Int32 → Option (Int32)
  | 0, _ => none
  | n2 + 1, l1_2 =>
    if f_corners f0 ≤ l1_2 then
      some 0
    else
      (G_X1_xOf f0 l1_2).bind fun v12 =>
      (G_X8_inRange v12 0 15).bind fun v18 =>
      if v18 = 0 then
        some 1
      else
        (G_X1_yOf f0 l1_2).bind fun v26 =>
        (G_X8_inRange v26 0 15).bind fun v32 =>
        if v32 = 0 then
          some 1
        else
          (G_X4_leavesPaper_L2 f0 n2) (l1_2 + 1)
def G_X4_leavesPaper (f0 : Fig) : Option (Int32) :=
  G_X4_leavesPaper_L2 f0 FU 0
abbrev rm_X4_leavesPaper : Room := { frames := 1, cells := 0, slots := 0, locals := 22 }
theorem hdS_X4_leavesPaper : yX4_leavesPaper.cls ≠ "java/lang/invoke/MethodHandle" ∧ yX4_leavesPaper.cls ≠ "java/lang/invoke/VarHandle" ∧ (parseMethodDescriptor yX4_leavesPaper.desc).map (fun d => d.parameters.length) = some 1 := by decide +kernel
set_option maxHeartbeats 4000000 in
set_option maxRecDepth 100000 in
theorem c_X4_leavesPaper (l : Launch) (dC : Nat → ClassId) (dI : Nat → Nat → Nat) (cy : Nat → ClassId) (a0 : Nat → Nat) (f0 : Fig) (res : Int32) (h : G_X4_leavesPaper f0 = some res) : CT l (dC, dI) (TY cy) yX4_leavesPaper cX4_leavesPaper 2 (some .boolean) rm_X4_leavesPaper [.ref (a0 0)] (wFig a0 cy f0) (wFig a0 cy f0) (some (.int res)) := by
  refine CT.mk_z (own := RX4) ⟨by decide, rfl⟩ (Nat.le_of_ble_eq_true rfl) ?_
  intro p e s mm args below meth cd A Q hx hb hml hown htg hN hK hA hP hD hS hE ls hl
  have hl : lv_has ls 2 [(0, .ref (a0 0))] := hl
  replace h : _ = some res := h
  unfold G_X4_leavesPaper at h
  obtain ⟨H, hH⟩ : ∃ H, H = s.heap := ⟨_, rfl⟩
  obtain ⟨locs, hlocs⟩ : ∃ locs : List Loc, locs = [] := ⟨_, rfl⟩
  rw [← hlocs] at hS ⊢
  have hS : va_S A s.heap H locs := by rw [hH]; exact hS
  rw [← hH] at hP ⊢
  refine lv_iconst (v := 0) hx hb dX4_leavesPaper_0 (by decide) ?_
  refine lv_istore_n (lv' := [(1, .int 0), (0, .ref (a0 0))]) hx hb dX4_leavesPaper_1 rfl hl (by decide) rfl (fun ls hl => ?_)
  have hL2 : ∀ (n2 : Nat) (l1_2 : Int32) (H : Heap) (locs : List Loc) (ls : Array Slot), G_X4_leavesPaper_L2 f0 n2 l1_2 = some res → va_P (dC, dI) vwCl (wFig a0 cy f0) H → va_D A (wFig a0 cy f0) → va_S A s.heap H locs → lv_has ls 2 [(1, .int l1_2), (0, .ref (a0 0))] → W p l e rm_X4_leavesPaper s mm args below meth cd H locs 0 0 Q (F0 mm 2 ls []) := by
    intro n2
    induction n2 with
    | zero => intro l1_2 H locs ls h; exact absurd h (by simp [G_X4_leavesPaper_L2])
    | succ n2 ih2 =>
      intro l1_2 H locs ls h hP hD hS hl
      rw [G_X4_leavesPaper_L2] at h
      refine lv_iload_n hx hb dX4_leavesPaper_2 rfl (lv_at hl 0 rfl) ?_
      refine lv_aload_n hx hb dX4_leavesPaper_3 rfl (lv_at hl 1 rfl) ?_
      refine va_getN (D := (dC, dI)) (ci := 0) (v := .int (f_corners f0)) (C := RX1) (T := TX1) (N := 6) hx hb htg inX1 hown hK hP 0 rfl rfl 1 (by decide) (va_Nw.use rfl (hN (.fieldLinkNest RX4 27 "SquaredPaper$Figure" "corners" "I" "SquaredPaper") (by decide +kernel))) (fun _ h9 => h9) rfl dX4_leavesPaper_4 ?_
      refine lv_icmp_ge (tgt := 46) hx hb dX4_leavesPaper_7 (by decide) (fun c7 => ?_) (fun c7 => ?_)
      · replace h := if_t h c7
        refine lv_iconst (v := 0) hx hb dX4_leavesPaper_46 (by decide) ?_
        obtain rfl := Option.some.inj h
        exact hE H locs 47 ls _ hP hD hS rfl (Or.inl rfl) dX4_leavesPaper_47
      replace h := if_f h c7
      refine lv_aload_n hx hb dX4_leavesPaper_10 rfl (lv_at hl 1 rfl) ?_
      refine lv_iload_n hx hb dX4_leavesPaper_11 rfl (lv_at hl 0 rfl) ?_
      obtain ⟨v12, e12, h⟩ := bnd h
      refine cV (av := [.int l1_2]) (rest := []) (st1 := [.int v12]) (k1 := 0) (k2 := 0) (ci := 0) (q0 := 0) hx hb hml hown htg hN hK (c_X1_xOf l dC dI cy a0 f0 l1_2 v12 e12) (g_V gw240 gw241 gw242 gw60 gw243) hdV_X1_xOf rfl ⟨⟨Nat.le_of_ble_eq_true rfl, Nat.le_of_ble_eq_true rfl⟩, Nat.le_of_ble_eq_true rfl, Nat.le_of_ble_eq_true rfl⟩ hP hD hS hA ⟨rfl, rfl⟩ rfl [0, 1, 2, 3, 4] [] rfl rfl rfl (by decide) (by decide) hl.1 rfl (Nat.le_of_ble_eq_true rfl) rfl rfl rfl dX4_leavesPaper_12 (fun H locs hP hD hS => ?_)
      have hP : va_P (dC, dI) vwCl (wFig a0 cy f0) H := hP
      have hD : va_D A (wFig a0 cy f0) := hD
      refine lv_iconst (v := 0) hx hb dX4_leavesPaper_15 (by decide) ?_
      refine lv_bipush (v := 15) hx hb dX4_leavesPaper_16 (by decide) ?_
      obtain ⟨v18, e18, h⟩ := bnd h
      refine cSN (av := [.int v12, .int 0, .int 15]) (rest := []) (st1 := [.int v18]) (k1 := 0) (k2 := 0) (host := "SquaredPaper") hx hb hml hown htg hN hK (c_X8_inRange l dC dI cy   v12 0 15 v18 e18) (by decide +kernel) ⟨gw245, gw59, g_ws (fun _ h => h) gw246⟩ hdS_X8_inRange rfl ⟨⟨Nat.le_of_ble_eq_true rfl, Nat.le_of_ble_eq_true rfl⟩, Nat.le_of_ble_eq_true rfl, Nat.le_of_ble_eq_true rfl⟩ hP hD hS hA [] [0, 1, 2, 3, 4] rfl rfl rfl (by decide) (by decide) hl.1 rfl (Nat.le_of_ble_eq_true rfl) rfl rfl rfl dX4_leavesPaper_18 (fun H locs hP hD hS => ?_)
      obtain ⟨hP, hD⟩ := x_perm (ws' := wFig a0 cy f0) hP hD [0, 1, 2, 3, 4] (by decide) rfl rfl
      refine lv_if_eq (tgt := 38) hx hb dX4_leavesPaper_21 (by decide) (fun c21 => ?_) (fun c21 => ?_)
      · replace h := if_t h c21
        refine lv_iconst (v := 1) hx hb dX4_leavesPaper_38 (by decide) ?_
        obtain rfl := Option.some.inj h
        exact hE H locs 39 ls _ hP hD hS rfl (Or.inr rfl) dX4_leavesPaper_39
      replace h := if_f h c21
      refine lv_aload_n hx hb dX4_leavesPaper_24 rfl (lv_at hl 1 rfl) ?_
      refine lv_iload_n hx hb dX4_leavesPaper_25 rfl (lv_at hl 0 rfl) ?_
      obtain ⟨v26, e26, h⟩ := bnd h
      refine cV (av := [.int l1_2]) (rest := []) (st1 := [.int v26]) (k1 := 0) (k2 := 0) (ci := 0) (q0 := 0) hx hb hml hown htg hN hK (c_X1_yOf l dC dI cy a0 f0 l1_2 v26 e26) (g_V gw247 gw248 gw249 gw60 gw250) hdV_X1_yOf rfl ⟨⟨Nat.le_of_ble_eq_true rfl, Nat.le_of_ble_eq_true rfl⟩, Nat.le_of_ble_eq_true rfl, Nat.le_of_ble_eq_true rfl⟩ hP hD hS hA ⟨rfl, rfl⟩ rfl [0, 1, 2, 3, 4] [] rfl rfl rfl (by decide) (by decide) hl.1 rfl (Nat.le_of_ble_eq_true rfl) rfl rfl rfl dX4_leavesPaper_26 (fun H locs hP hD hS => ?_)
      have hP : va_P (dC, dI) vwCl (wFig a0 cy f0) H := hP
      have hD : va_D A (wFig a0 cy f0) := hD
      refine lv_iconst (v := 0) hx hb dX4_leavesPaper_29 (by decide) ?_
      refine lv_bipush (v := 15) hx hb dX4_leavesPaper_30 (by decide) ?_
      obtain ⟨v32, e32, h⟩ := bnd h
      refine cSN (av := [.int v26, .int 0, .int 15]) (rest := []) (st1 := [.int v32]) (k1 := 0) (k2 := 0) (host := "SquaredPaper") hx hb hml hown htg hN hK (c_X8_inRange l dC dI cy   v26 0 15 v32 e32) (by decide +kernel) ⟨gw245, gw59, g_ws (fun _ h => h) gw246⟩ hdS_X8_inRange rfl ⟨⟨Nat.le_of_ble_eq_true rfl, Nat.le_of_ble_eq_true rfl⟩, Nat.le_of_ble_eq_true rfl, Nat.le_of_ble_eq_true rfl⟩ hP hD hS hA [] [0, 1, 2, 3, 4] rfl rfl rfl (by decide) (by decide) hl.1 rfl (Nat.le_of_ble_eq_true rfl) rfl rfl rfl dX4_leavesPaper_32 (fun H locs hP hD hS => ?_)
      obtain ⟨hP, hD⟩ := x_perm (ws' := wFig a0 cy f0) hP hD [0, 1, 2, 3, 4] (by decide) rfl rfl
      refine lv_if_ne (tgt := 40) hx hb dX4_leavesPaper_35 (by decide) (fun c35 => ?_) (fun c35 => ?_)
      · replace h := if_f h c35
        refine lv_iinc (v := l1_2 + 1) (lv' := [(1, .int (l1_2 + 1)), (0, .ref (a0 0))]) hx hb dX4_leavesPaper_40 hl (k := 0) rfl rfl (by decide) rfl (fun ls hl => ?_)
        refine lv_goto (tgt := 2) hx hb dX4_leavesPaper_43 (by decide) ?_
        exact ih2 (l1_2 + 1) H locs ls h hP hD hS (lv_sub hl [0, 1] rfl)
      replace h := if_t h c35
      refine lv_iconst (v := 1) hx hb dX4_leavesPaper_38 (by decide) ?_
      obtain rfl := Option.some.inj h
      exact hE H locs 39 ls _ hP hD hS rfl (Or.inr rfl) dX4_leavesPaper_39
  exact hL2 FU 0 H locs ls h hP hD hS (lv_sub hl [0, 1] rfl)
def G_X1_nextOf (f0 : Fig) (p1 : Int32) : Option (Int32) :=
  if p1 < 0 then
    some 0
  else
    if f_corners f0 ≤ p1 then
      some 0
    else
      (rd 40 (f_next f0) p1).bind fun v17 =>
      some v17
abbrev rm_X1_nextOf : Room := { frames := 0, cells := 0, slots := 0, locals := 0 }
theorem hdS_X1_nextOf : yX1_nextOf.cls ≠ "java/lang/invoke/MethodHandle" ∧ yX1_nextOf.cls ≠ "java/lang/invoke/VarHandle" ∧ (parseMethodDescriptor yX1_nextOf.desc).map (fun d => d.parameters.length) = some 1 := by decide +kernel
theorem hdV_X1_nextOf : yX1_nextOf.cls = RX1 ∧ yX1_nextOf.cls ≠ "java/lang/invoke/MethodHandle" ∧ yX1_nextOf.cls ≠ "java/lang/invoke/VarHandle" ∧ (parseMethodDescriptor yX1_nextOf.desc).map (fun d => d.parameters.length) = some 1 := ⟨rfl, hdS_X1_nextOf⟩
set_option maxHeartbeats 4000000 in
set_option maxRecDepth 100000 in
theorem c_X1_nextOf (l : Launch) (dC : Nat → ClassId) (dI : Nat → Nat → Nat) (cy : Nat → ClassId) (a0 : Nat → Nat) (f0 : Fig) (p1 : Int32) (res : Int32) (h : G_X1_nextOf f0 p1 = some res) : CT l (dC, dI) (TY cy) yX1_nextOf cX1_nextOf 2 (some .int) rm_X1_nextOf [.ref (a0 0), .int p1] (wFig a0 cy f0) (wFig a0 cy f0) (some (.int res)) := by
  refine CT.mk_i (own := RX1) ⟨by decide, rfl⟩ (Nat.le_of_ble_eq_true rfl) ?_
  intro p e s mm args below meth cd A Q hx hb hml hown htg hN hK hA hP hD hS hE ls hl
  have hl : lv_has ls 2 [(0, .ref (a0 0)), (1, .int p1)] := hl
  replace h : _ = some res := h
  unfold G_X1_nextOf at h
  obtain ⟨H, hH⟩ : ∃ H, H = s.heap := ⟨_, rfl⟩
  obtain ⟨locs, hlocs⟩ : ∃ locs : List Loc, locs = [] := ⟨_, rfl⟩
  rw [← hlocs] at hS ⊢
  have hS : va_S A s.heap H locs := by rw [hH]; exact hS
  rw [← hH] at hP ⊢
  refine lv_iload_n hx hb dX1_nextOf_0 rfl (lv_at hl 1 rfl) ?_
  refine lv_if_lt (tgt := 21) hx hb dX1_nextOf_1 (by decide) (fun c1 => ?_) (fun c1 => ?_)
  · replace h := if_t h c1
    refine lv_iconst (v := 0) hx hb dX1_nextOf_21 (by decide) ?_
    obtain rfl := Option.some.inj h
    exact hE H locs 22 ls _ hP hD hS rfl dX1_nextOf_22
  replace h := if_f h c1
  refine lv_iload_n hx hb dX1_nextOf_4 rfl (lv_at hl 1 rfl) ?_
  refine lv_aload_n hx hb dX1_nextOf_5 rfl (lv_at hl 0 rfl) ?_
  refine va_get (D := (dC, dI)) (ci := 0) (v := .int (f_corners f0)) (C := RX1) (T := TX1) (N := 6) hx hb htg inX1 hown hK hP 0 rfl rfl 1 (by decide) (htg _ gw97) (fun _ h9 => h9) rfl dX1_nextOf_6 ?_
  refine lv_icmp_ge (tgt := 21) hx hb dX1_nextOf_9 (by decide) (fun c9 => ?_) (fun c9 => ?_)
  · replace h := if_t h c9
    refine lv_iconst (v := 0) hx hb dX1_nextOf_21 (by decide) ?_
    obtain rfl := Option.some.inj h
    exact hE H locs 22 ls _ hP hD hS rfl dX1_nextOf_22
  replace h := if_f h c9
  refine lv_aload_n hx hb dX1_nextOf_12 rfl (lv_at hl 0 rfl) ?_
  refine va_get (D := (dC, dI)) (ci := 0) (v := .ref (a0 4)) (C := RX1) (T := TX1) (N := 6) hx hb htg inX1 hown hK hP 0 rfl rfl 5 (by decide) (htg _ gw105) (fun _ h9 => h9) rfl dX1_nextOf_13 ?_
  refine lv_iload_n hx hb dX1_nextOf_16 rfl (lv_at hl 1 rfl) ?_
  obtain ⟨v17, e17, h⟩ := bnd h
  refine x_iald (v := v17) hx hb hK hP 4 0 rfl rfl e17 dX1_nextOf_17 ?_
  refine lv_goto (tgt := 22) hx hb dX1_nextOf_18 (by decide) ?_
  obtain rfl := Option.some.inj h
  exact hE H locs 22 ls _ hP hD hS rfl dX1_nextOf_22
def G_X1_squareOfSide (f0 : Fig) (p1 : Int32) : Option (Int32) :=
  (G_X1_nextOf f0 p1).bind fun v3 =>
  (G_X1_xOf f0 v3).bind fun v6 =>
  (G_X1_xOf f0 p1).bind fun v11 =>
  (G_X1_nextOf f0 p1).bind fun v19 =>
  (G_X1_yOf f0 v19).bind fun v22 =>
  (G_X1_yOf f0 p1).bind fun v27 =>
  some (((v6 - v11) * (v6 - v11)) + ((v22 - v27) * (v22 - v27)))
abbrev rm_X1_squareOfSide : Room := { frames := 1, cells := 0, slots := 0, locals := 21 }
theorem hdS_X1_squareOfSide : yX1_squareOfSide.cls ≠ "java/lang/invoke/MethodHandle" ∧ yX1_squareOfSide.cls ≠ "java/lang/invoke/VarHandle" ∧ (parseMethodDescriptor yX1_squareOfSide.desc).map (fun d => d.parameters.length) = some 1 := by decide +kernel
theorem hdV_X1_squareOfSide : yX1_squareOfSide.cls = RX1 ∧ yX1_squareOfSide.cls ≠ "java/lang/invoke/MethodHandle" ∧ yX1_squareOfSide.cls ≠ "java/lang/invoke/VarHandle" ∧ (parseMethodDescriptor yX1_squareOfSide.desc).map (fun d => d.parameters.length) = some 1 := ⟨rfl, hdS_X1_squareOfSide⟩
set_option maxHeartbeats 4000000 in
set_option maxRecDepth 100000 in
theorem c_X1_squareOfSide (l : Launch) (dC : Nat → ClassId) (dI : Nat → Nat → Nat) (cy : Nat → ClassId) (a0 : Nat → Nat) (f0 : Fig) (p1 : Int32) (res : Int32) (h : G_X1_squareOfSide f0 p1 = some res) : CT l (dC, dI) (TY cy) yX1_squareOfSide cX1_squareOfSide 4 (some .int) rm_X1_squareOfSide [.ref (a0 0), .int p1] (wFig a0 cy f0) (wFig a0 cy f0) (some (.int res)) := by
  refine CT.mk_i (own := RX1) ⟨by decide, rfl⟩ (Nat.le_of_ble_eq_true rfl) ?_
  intro p e s mm args below meth cd A Q hx hb hml hown htg hN hK hA hP hD hS hE ls hl
  have hl : lv_has ls 4 [(0, .ref (a0 0)), (1, .int p1)] := hl
  replace h : _ = some res := h
  unfold G_X1_squareOfSide at h
  obtain ⟨H, hH⟩ : ∃ H, H = s.heap := ⟨_, rfl⟩
  obtain ⟨locs, hlocs⟩ : ∃ locs : List Loc, locs = [] := ⟨_, rfl⟩
  rw [← hlocs] at hS ⊢
  have hS : va_S A s.heap H locs := by rw [hH]; exact hS
  rw [← hH] at hP ⊢
  refine lv_aload_n hx hb dX1_squareOfSide_0 rfl (lv_at hl 0 rfl) ?_
  refine lv_aload_n hx hb dX1_squareOfSide_1 rfl (lv_at hl 0 rfl) ?_
  refine lv_iload_n hx hb dX1_squareOfSide_2 rfl (lv_at hl 1 rfl) ?_
  obtain ⟨v3, e3, h⟩ := bnd h
  refine cV (av := [.int p1]) (rest := [.ref (a0 0)]) (st1 := [.int v3, .ref (a0 0)]) (k1 := 0) (k2 := 0) (ci := 0) (q0 := 0) hx hb hml hown htg hN hK (c_X1_nextOf l dC dI cy a0 f0 p1 v3 e3) (g_V gw258 gw259 gw260 gw60 gw261) hdV_X1_nextOf rfl ⟨⟨Nat.le_of_ble_eq_true rfl, Nat.le_of_ble_eq_true rfl⟩, Nat.le_of_ble_eq_true rfl, Nat.le_of_ble_eq_true rfl⟩ hP hD hS hA ⟨rfl, rfl⟩ rfl [0, 1, 2, 3, 4] [] rfl rfl rfl (by decide) (by decide) hl.1 rfl (Nat.le_of_ble_eq_true rfl) rfl rfl rfl dX1_squareOfSide_3 (fun H locs hP hD hS => ?_)
  have hP : va_P (dC, dI) vwCl (wFig a0 cy f0) H := hP
  have hD : va_D A (wFig a0 cy f0) := hD
  obtain ⟨v6, e6, h⟩ := bnd h
  refine cV (av := [.int v3]) (rest := []) (st1 := [.int v6]) (k1 := 0) (k2 := 0) (ci := 0) (q0 := 0) hx hb hml hown htg hN hK (c_X1_xOf l dC dI cy a0 f0 v3 v6 e6) (g_V gw262 gw241 gw242 gw60 gw243) hdV_X1_xOf rfl ⟨⟨Nat.le_of_ble_eq_true rfl, Nat.le_of_ble_eq_true rfl⟩, Nat.le_of_ble_eq_true rfl, Nat.le_of_ble_eq_true rfl⟩ hP hD hS hA ⟨rfl, rfl⟩ rfl [0, 1, 2, 3, 4] [] rfl rfl rfl (by decide) (by decide) hl.1 rfl (Nat.le_of_ble_eq_true rfl) rfl rfl rfl dX1_squareOfSide_6 (fun H locs hP hD hS => ?_)
  have hP : va_P (dC, dI) vwCl (wFig a0 cy f0) H := hP
  have hD : va_D A (wFig a0 cy f0) := hD
  refine lv_aload_n hx hb dX1_squareOfSide_9 rfl (lv_at hl 0 rfl) ?_
  refine lv_iload_n hx hb dX1_squareOfSide_10 rfl (lv_at hl 1 rfl) ?_
  obtain ⟨v11, e11, h⟩ := bnd h
  refine cV (av := [.int p1]) (rest := [.int v6]) (st1 := [.int v11, .int v6]) (k1 := 0) (k2 := 0) (ci := 0) (q0 := 0) hx hb hml hown htg hN hK (c_X1_xOf l dC dI cy a0 f0 p1 v11 e11) (g_V gw262 gw241 gw242 gw60 gw243) hdV_X1_xOf rfl ⟨⟨Nat.le_of_ble_eq_true rfl, Nat.le_of_ble_eq_true rfl⟩, Nat.le_of_ble_eq_true rfl, Nat.le_of_ble_eq_true rfl⟩ hP hD hS hA ⟨rfl, rfl⟩ rfl [0, 1, 2, 3, 4] [] rfl rfl rfl (by decide) (by decide) hl.1 rfl (Nat.le_of_ble_eq_true rfl) rfl rfl rfl dX1_squareOfSide_11 (fun H locs hP hD hS => ?_)
  have hP : va_P (dC, dI) vwCl (wFig a0 cy f0) H := hP
  have hD : va_D A (wFig a0 cy f0) := hD
  refine lv_isub hx hb dX1_squareOfSide_14 ?_
  refine lv_istore_n (lv' := [(2, .int (v6 - v11)), (0, .ref (a0 0)), (1, .int p1)]) hx hb dX1_squareOfSide_15 rfl hl (by decide) rfl (fun ls hl => ?_)
  refine lv_aload_n hx hb dX1_squareOfSide_16 rfl (lv_at hl 1 rfl) ?_
  refine lv_aload_n hx hb dX1_squareOfSide_17 rfl (lv_at hl 1 rfl) ?_
  refine lv_iload_n hx hb dX1_squareOfSide_18 rfl (lv_at hl 2 rfl) ?_
  obtain ⟨v19, e19, h⟩ := bnd h
  refine cV (av := [.int p1]) (rest := [.ref (a0 0)]) (st1 := [.int v19, .ref (a0 0)]) (k1 := 0) (k2 := 0) (ci := 0) (q0 := 0) hx hb hml hown htg hN hK (c_X1_nextOf l dC dI cy a0 f0 p1 v19 e19) (g_V gw258 gw259 gw260 gw60 gw261) hdV_X1_nextOf rfl ⟨⟨Nat.le_of_ble_eq_true rfl, Nat.le_of_ble_eq_true rfl⟩, Nat.le_of_ble_eq_true rfl, Nat.le_of_ble_eq_true rfl⟩ hP hD hS hA ⟨rfl, rfl⟩ rfl [0, 1, 2, 3, 4] [] rfl rfl rfl (by decide) (by decide) hl.1 rfl (Nat.le_of_ble_eq_true rfl) rfl rfl rfl dX1_squareOfSide_19 (fun H locs hP hD hS => ?_)
  have hP : va_P (dC, dI) vwCl (wFig a0 cy f0) H := hP
  have hD : va_D A (wFig a0 cy f0) := hD
  obtain ⟨v22, e22, h⟩ := bnd h
  refine cV (av := [.int v19]) (rest := []) (st1 := [.int v22]) (k1 := 0) (k2 := 0) (ci := 0) (q0 := 0) hx hb hml hown htg hN hK (c_X1_yOf l dC dI cy a0 f0 v19 v22 e22) (g_V gw263 gw248 gw249 gw60 gw250) hdV_X1_yOf rfl ⟨⟨Nat.le_of_ble_eq_true rfl, Nat.le_of_ble_eq_true rfl⟩, Nat.le_of_ble_eq_true rfl, Nat.le_of_ble_eq_true rfl⟩ hP hD hS hA ⟨rfl, rfl⟩ rfl [0, 1, 2, 3, 4] [] rfl rfl rfl (by decide) (by decide) hl.1 rfl (Nat.le_of_ble_eq_true rfl) rfl rfl rfl dX1_squareOfSide_22 (fun H locs hP hD hS => ?_)
  have hP : va_P (dC, dI) vwCl (wFig a0 cy f0) H := hP
  have hD : va_D A (wFig a0 cy f0) := hD
  refine lv_aload_n hx hb dX1_squareOfSide_25 rfl (lv_at hl 1 rfl) ?_
  refine lv_iload_n hx hb dX1_squareOfSide_26 rfl (lv_at hl 2 rfl) ?_
  obtain ⟨v27, e27, h⟩ := bnd h
  refine cV (av := [.int p1]) (rest := [.int v22]) (st1 := [.int v27, .int v22]) (k1 := 0) (k2 := 0) (ci := 0) (q0 := 0) hx hb hml hown htg hN hK (c_X1_yOf l dC dI cy a0 f0 p1 v27 e27) (g_V gw263 gw248 gw249 gw60 gw250) hdV_X1_yOf rfl ⟨⟨Nat.le_of_ble_eq_true rfl, Nat.le_of_ble_eq_true rfl⟩, Nat.le_of_ble_eq_true rfl, Nat.le_of_ble_eq_true rfl⟩ hP hD hS hA ⟨rfl, rfl⟩ rfl [0, 1, 2, 3, 4] [] rfl rfl rfl (by decide) (by decide) hl.1 rfl (Nat.le_of_ble_eq_true rfl) rfl rfl rfl dX1_squareOfSide_27 (fun H locs hP hD hS => ?_)
  have hP : va_P (dC, dI) vwCl (wFig a0 cy f0) H := hP
  have hD : va_D A (wFig a0 cy f0) := hD
  refine lv_isub hx hb dX1_squareOfSide_30 ?_
  refine lv_istore_n (lv' := [(3, .int (v22 - v27)), (2, .int (v6 - v11)), (0, .ref (a0 0)), (1, .int p1)]) hx hb dX1_squareOfSide_31 rfl hl (by decide) rfl (fun ls hl => ?_)
  refine lv_iload_n hx hb dX1_squareOfSide_32 rfl (lv_at hl 1 rfl) ?_
  refine lv_iload_n hx hb dX1_squareOfSide_33 rfl (lv_at hl 1 rfl) ?_
  refine lv_imul hx hb dX1_squareOfSide_34 ?_
  refine lv_iload_n hx hb dX1_squareOfSide_35 rfl (lv_at hl 0 rfl) ?_
  refine lv_iload_n hx hb dX1_squareOfSide_36 rfl (lv_at hl 0 rfl) ?_
  refine lv_imul hx hb dX1_squareOfSide_37 ?_
  refine lv_iadd hx hb dX1_squareOfSide_38 ?_
  obtain rfl := Option.some.inj h
  exact hE H locs 39 ls _ hP hD hS rfl dX1_squareOfSide_39
def G_X4_hasEmptySide_L2  (f0 : Fig) : Nat → Int32 → Option (Int32)
  | 0, _ => none
  | n2 + 1, l1_2 =>
    if f_corners f0 ≤ l1_2 then
      some 0
    else
      (G_X1_squareOfSide f0 l1_2).bind fun v12 =>
      if v12 = 0 then
        some 1
      else
        (G_X4_hasEmptySide_L2 f0 n2) (l1_2 + 1)
def G_X4_hasEmptySide (f0 : Fig) : Option (Int32) :=
  G_X4_hasEmptySide_L2 f0 FU 0
abbrev rm_X4_hasEmptySide : Room := { frames := 2, cells := 0, slots := 0, locals := 44 }
theorem hdS_X4_hasEmptySide : yX4_hasEmptySide.cls ≠ "java/lang/invoke/MethodHandle" ∧ yX4_hasEmptySide.cls ≠ "java/lang/invoke/VarHandle" ∧ (parseMethodDescriptor yX4_hasEmptySide.desc).map (fun d => d.parameters.length) = some 1 := by decide +kernel
set_option maxHeartbeats 4000000 in
set_option maxRecDepth 100000 in
theorem c_X4_hasEmptySide (l : Launch) (dC : Nat → ClassId) (dI : Nat → Nat → Nat) (cy : Nat → ClassId) (a0 : Nat → Nat) (f0 : Fig) (res : Int32) (h : G_X4_hasEmptySide f0 = some res) : CT l (dC, dI) (TY cy) yX4_hasEmptySide cX4_hasEmptySide 2 (some .boolean) rm_X4_hasEmptySide [.ref (a0 0)] (wFig a0 cy f0) (wFig a0 cy f0) (some (.int res)) := by
  refine CT.mk_z (own := RX4) ⟨by decide, rfl⟩ (Nat.le_of_ble_eq_true rfl) ?_
  intro p e s mm args below meth cd A Q hx hb hml hown htg hN hK hA hP hD hS hE ls hl
  have hl : lv_has ls 2 [(0, .ref (a0 0))] := hl
  replace h : _ = some res := h
  unfold G_X4_hasEmptySide at h
  obtain ⟨H, hH⟩ : ∃ H, H = s.heap := ⟨_, rfl⟩
  obtain ⟨locs, hlocs⟩ : ∃ locs : List Loc, locs = [] := ⟨_, rfl⟩
  rw [← hlocs] at hS ⊢
  have hS : va_S A s.heap H locs := by rw [hH]; exact hS
  rw [← hH] at hP ⊢
  refine lv_iconst (v := 0) hx hb dX4_hasEmptySide_0 (by decide) ?_
  refine lv_istore_n (lv' := [(1, .int 0), (0, .ref (a0 0))]) hx hb dX4_hasEmptySide_1 rfl hl (by decide) rfl (fun ls hl => ?_)
  have hL2 : ∀ (n2 : Nat) (l1_2 : Int32) (H : Heap) (locs : List Loc) (ls : Array Slot), G_X4_hasEmptySide_L2 f0 n2 l1_2 = some res → va_P (dC, dI) vwCl (wFig a0 cy f0) H → va_D A (wFig a0 cy f0) → va_S A s.heap H locs → lv_has ls 2 [(1, .int l1_2), (0, .ref (a0 0))] → W p l e rm_X4_hasEmptySide s mm args below meth cd H locs 0 0 Q (F0 mm 2 ls []) := by
    intro n2
    induction n2 with
    | zero => intro l1_2 H locs ls h; exact absurd h (by simp [G_X4_hasEmptySide_L2])
    | succ n2 ih2 =>
      intro l1_2 H locs ls h hP hD hS hl
      rw [G_X4_hasEmptySide_L2] at h
      refine lv_iload_n hx hb dX4_hasEmptySide_2 rfl (lv_at hl 0 rfl) ?_
      refine lv_aload_n hx hb dX4_hasEmptySide_3 rfl (lv_at hl 1 rfl) ?_
      refine va_getN (D := (dC, dI)) (ci := 0) (v := .int (f_corners f0)) (C := RX1) (T := TX1) (N := 6) hx hb htg inX1 hown hK hP 0 rfl rfl 1 (by decide) (va_Nw.use rfl (hN (.fieldLinkNest RX4 27 "SquaredPaper$Figure" "corners" "I" "SquaredPaper") (by decide +kernel))) (fun _ h9 => h9) rfl dX4_hasEmptySide_4 ?_
      refine lv_icmp_ge (tgt := 26) hx hb dX4_hasEmptySide_7 (by decide) (fun c7 => ?_) (fun c7 => ?_)
      · replace h := if_t h c7
        refine lv_iconst (v := 0) hx hb dX4_hasEmptySide_26 (by decide) ?_
        obtain rfl := Option.some.inj h
        exact hE H locs 27 ls _ hP hD hS rfl (Or.inl rfl) dX4_hasEmptySide_27
      replace h := if_f h c7
      refine lv_aload_n hx hb dX4_hasEmptySide_10 rfl (lv_at hl 1 rfl) ?_
      refine lv_iload_n hx hb dX4_hasEmptySide_11 rfl (lv_at hl 0 rfl) ?_
      obtain ⟨v12, e12, h⟩ := bnd h
      refine cV (av := [.int l1_2]) (rest := []) (st1 := [.int v12]) (k1 := 0) (k2 := 0) (ci := 0) (q0 := 0) hx hb hml hown htg hN hK (c_X1_squareOfSide l dC dI cy a0 f0 l1_2 v12 e12) (g_V gw254 gw255 gw256 gw60 gw257) hdV_X1_squareOfSide rfl ⟨⟨Nat.le_of_ble_eq_true rfl, Nat.le_of_ble_eq_true rfl⟩, Nat.le_of_ble_eq_true rfl, Nat.le_of_ble_eq_true rfl⟩ hP hD hS hA ⟨rfl, rfl⟩ rfl [0, 1, 2, 3, 4] [] rfl rfl rfl (by decide) (by decide) hl.1 rfl (Nat.le_of_ble_eq_true rfl) rfl rfl rfl dX4_hasEmptySide_12 (fun H locs hP hD hS => ?_)
      have hP : va_P (dC, dI) vwCl (wFig a0 cy f0) H := hP
      have hD : va_D A (wFig a0 cy f0) := hD
      refine lv_if_ne (tgt := 20) hx hb dX4_hasEmptySide_15 (by decide) (fun c15 => ?_) (fun c15 => ?_)
      · replace h := if_f h c15
        refine lv_iinc (v := l1_2 + 1) (lv' := [(1, .int (l1_2 + 1)), (0, .ref (a0 0))]) hx hb dX4_hasEmptySide_20 hl (k := 0) rfl rfl (by decide) rfl (fun ls hl => ?_)
        refine lv_goto (tgt := 2) hx hb dX4_hasEmptySide_23 (by decide) ?_
        exact ih2 (l1_2 + 1) H locs ls h hP hD hS (lv_sub hl [0, 1] rfl)
      replace h := if_t h c15
      refine lv_iconst (v := 1) hx hb dX4_hasEmptySide_18 (by decide) ?_
      obtain rfl := Option.some.inj h
      exact hE H locs 19 ls _ hP hD hS rfl (Or.inr rfl) dX4_hasEmptySide_19
  exact hL2 FU 0 H locs ls h hP hD hS (lv_sub hl [0, 1] rfl)
def G_X1_bend (f0 : Fig) (p1 : Int32) (p2 : Int32) (p3 : Int32) : Option (Int32) :=
  if p1 < 0 then
    some 0
  else
    if p2 < 0 then
      some 0
    else
      if p3 < 0 then
        some 0
      else
        if f_corners f0 ≤ p1 then
          some 0
        else
          if f_corners f0 ≤ p2 then
            some 0
          else
            if p3 < f_corners f0 then
              (rd 40 (f_xs f0) p2).bind fun v43 =>
              (rd 40 (f_xs f0) p1).bind fun v49 =>
              (rd 40 (f_ys f0) p3).bind fun v56 =>
              (rd 40 (f_ys f0) p2).bind fun v62 =>
              (rd 40 (f_ys f0) p2).bind fun v70 =>
              (rd 40 (f_ys f0) p1).bind fun v76 =>
              (rd 40 (f_xs f0) p3).bind fun v83 =>
              (rd 40 (f_xs f0) p2).bind fun v89 =>
              some (((v43 - v49) * (v56 - v62)) - ((v70 - v76) * (v83 - v89)))
            else
              some 0
abbrev rm_X1_bend : Room := { frames := 0, cells := 0, slots := 0, locals := 0 }
theorem hdS_X1_bend : yX1_bend.cls ≠ "java/lang/invoke/MethodHandle" ∧ yX1_bend.cls ≠ "java/lang/invoke/VarHandle" ∧ (parseMethodDescriptor yX1_bend.desc).map (fun d => d.parameters.length) = some 3 := by decide +kernel
theorem hdV_X1_bend : yX1_bend.cls = RX1 ∧ yX1_bend.cls ≠ "java/lang/invoke/MethodHandle" ∧ yX1_bend.cls ≠ "java/lang/invoke/VarHandle" ∧ (parseMethodDescriptor yX1_bend.desc).map (fun d => d.parameters.length) = some 3 := ⟨rfl, hdS_X1_bend⟩
set_option maxHeartbeats 4000000 in
set_option maxRecDepth 100000 in
theorem c_X1_bend (l : Launch) (dC : Nat → ClassId) (dI : Nat → Nat → Nat) (cy : Nat → ClassId) (a0 : Nat → Nat) (f0 : Fig) (p1 : Int32) (p2 : Int32) (p3 : Int32) (res : Int32) (h : G_X1_bend f0 p1 p2 p3 = some res) : CT l (dC, dI) (TY cy) yX1_bend cX1_bend 4 (some .int) rm_X1_bend [.ref (a0 0), .int p1, .int p2, .int p3] (wFig a0 cy f0) (wFig a0 cy f0) (some (.int res)) := by
  refine CT.mk_i (own := RX1) ⟨by decide, rfl⟩ (Nat.le_of_ble_eq_true rfl) ?_
  intro p e s mm args below meth cd A Q hx hb hml hown htg hN hK hA hP hD hS hE ls hl
  have hl : lv_has ls 4 [(0, .ref (a0 0)), (1, .int p1), (2, .int p2), (3, .int p3)] := hl
  replace h : _ = some res := h
  unfold G_X1_bend at h
  obtain ⟨H, hH⟩ : ∃ H, H = s.heap := ⟨_, rfl⟩
  obtain ⟨locs, hlocs⟩ : ∃ locs : List Loc, locs = [] := ⟨_, rfl⟩
  rw [← hlocs] at hS ⊢
  have hS : va_S A s.heap H locs := by rw [hH]; exact hS
  rw [← hH] at hP ⊢
  refine lv_iload_n hx hb dX1_bend_0 rfl (lv_at hl 1 rfl) ?_
  refine lv_if_lt (tgt := 36) hx hb dX1_bend_1 (by decide) (fun c1 => ?_) (fun c1 => ?_)
  · replace h := if_t h c1
    refine lv_iconst (v := 0) hx hb dX1_bend_36 (by decide) ?_
    obtain rfl := Option.some.inj h
    exact hE H locs 37 ls _ hP hD hS rfl dX1_bend_37
  replace h := if_f h c1
  refine lv_iload_n hx hb dX1_bend_4 rfl (lv_at hl 2 rfl) ?_
  refine lv_if_lt (tgt := 36) hx hb dX1_bend_5 (by decide) (fun c5 => ?_) (fun c5 => ?_)
  · replace h := if_t h c5
    refine lv_iconst (v := 0) hx hb dX1_bend_36 (by decide) ?_
    obtain rfl := Option.some.inj h
    exact hE H locs 37 ls _ hP hD hS rfl dX1_bend_37
  replace h := if_f h c5
  refine lv_iload_n hx hb dX1_bend_8 rfl (lv_at hl 3 rfl) ?_
  refine lv_if_lt (tgt := 36) hx hb dX1_bend_9 (by decide) (fun c9 => ?_) (fun c9 => ?_)
  · replace h := if_t h c9
    refine lv_iconst (v := 0) hx hb dX1_bend_36 (by decide) ?_
    obtain rfl := Option.some.inj h
    exact hE H locs 37 ls _ hP hD hS rfl dX1_bend_37
  replace h := if_f h c9
  refine lv_iload_n hx hb dX1_bend_12 rfl (lv_at hl 1 rfl) ?_
  refine lv_aload_n hx hb dX1_bend_13 rfl (lv_at hl 0 rfl) ?_
  refine va_get (D := (dC, dI)) (ci := 0) (v := .int (f_corners f0)) (C := RX1) (T := TX1) (N := 6) hx hb htg inX1 hown hK hP 0 rfl rfl 1 (by decide) (htg _ gw97) (fun _ h9 => h9) rfl dX1_bend_14 ?_
  refine lv_icmp_ge (tgt := 36) hx hb dX1_bend_17 (by decide) (fun c17 => ?_) (fun c17 => ?_)
  · replace h := if_t h c17
    refine lv_iconst (v := 0) hx hb dX1_bend_36 (by decide) ?_
    obtain rfl := Option.some.inj h
    exact hE H locs 37 ls _ hP hD hS rfl dX1_bend_37
  replace h := if_f h c17
  refine lv_iload_n hx hb dX1_bend_20 rfl (lv_at hl 2 rfl) ?_
  refine lv_aload_n hx hb dX1_bend_21 rfl (lv_at hl 0 rfl) ?_
  refine va_get (D := (dC, dI)) (ci := 0) (v := .int (f_corners f0)) (C := RX1) (T := TX1) (N := 6) hx hb htg inX1 hown hK hP 0 rfl rfl 1 (by decide) (htg _ gw97) (fun _ h9 => h9) rfl dX1_bend_22 ?_
  refine lv_icmp_ge (tgt := 36) hx hb dX1_bend_25 (by decide) (fun c25 => ?_) (fun c25 => ?_)
  · replace h := if_t h c25
    refine lv_iconst (v := 0) hx hb dX1_bend_36 (by decide) ?_
    obtain rfl := Option.some.inj h
    exact hE H locs 37 ls _ hP hD hS rfl dX1_bend_37
  replace h := if_f h c25
  refine lv_iload_n hx hb dX1_bend_28 rfl (lv_at hl 3 rfl) ?_
  refine lv_aload_n hx hb dX1_bend_29 rfl (lv_at hl 0 rfl) ?_
  refine va_get (D := (dC, dI)) (ci := 0) (v := .int (f_corners f0)) (C := RX1) (T := TX1) (N := 6) hx hb htg inX1 hown hK hP 0 rfl rfl 1 (by decide) (htg _ gw97) (fun _ h9 => h9) rfl dX1_bend_30 ?_
  refine lv_icmp_lt (tgt := 38) hx hb dX1_bend_33 (by decide) (fun c33 => ?_) (fun c33 => ?_)
  · replace h := if_t h c33
    refine lv_aload_n hx hb dX1_bend_38 rfl (lv_at hl 0 rfl) ?_
    refine va_get (D := (dC, dI)) (ci := 0) (v := .ref (a0 2)) (C := RX1) (T := TX1) (N := 6) hx hb htg inX1 hown hK hP 0 rfl rfl 3 (by decide) (htg _ gw103) (fun _ h9 => h9) rfl dX1_bend_39 ?_
    refine lv_iload_n hx hb dX1_bend_42 rfl (lv_at hl 2 rfl) ?_
    obtain ⟨v43, e43, h⟩ := bnd h
    refine x_iald (v := v43) hx hb hK hP 2 0 rfl rfl e43 dX1_bend_43 ?_
    refine lv_aload_n hx hb dX1_bend_44 rfl (lv_at hl 0 rfl) ?_
    refine va_get (D := (dC, dI)) (ci := 0) (v := .ref (a0 2)) (C := RX1) (T := TX1) (N := 6) hx hb htg inX1 hown hK hP 0 rfl rfl 3 (by decide) (htg _ gw103) (fun _ h9 => h9) rfl dX1_bend_45 ?_
    refine lv_iload_n hx hb dX1_bend_48 rfl (lv_at hl 1 rfl) ?_
    obtain ⟨v49, e49, h⟩ := bnd h
    refine x_iald (v := v49) hx hb hK hP 2 0 rfl rfl e49 dX1_bend_49 ?_
    refine lv_isub hx hb dX1_bend_50 ?_
    refine lv_aload_n hx hb dX1_bend_51 rfl (lv_at hl 0 rfl) ?_
    refine va_get (D := (dC, dI)) (ci := 0) (v := .ref (a0 3)) (C := RX1) (T := TX1) (N := 6) hx hb htg inX1 hown hK hP 0 rfl rfl 4 (by decide) (htg _ gw104) (fun _ h9 => h9) rfl dX1_bend_52 ?_
    refine lv_iload_n hx hb dX1_bend_55 rfl (lv_at hl 3 rfl) ?_
    obtain ⟨v56, e56, h⟩ := bnd h
    refine x_iald (v := v56) hx hb hK hP 3 0 rfl rfl e56 dX1_bend_56 ?_
    refine lv_aload_n hx hb dX1_bend_57 rfl (lv_at hl 0 rfl) ?_
    refine va_get (D := (dC, dI)) (ci := 0) (v := .ref (a0 3)) (C := RX1) (T := TX1) (N := 6) hx hb htg inX1 hown hK hP 0 rfl rfl 4 (by decide) (htg _ gw104) (fun _ h9 => h9) rfl dX1_bend_58 ?_
    refine lv_iload_n hx hb dX1_bend_61 rfl (lv_at hl 2 rfl) ?_
    obtain ⟨v62, e62, h⟩ := bnd h
    refine x_iald (v := v62) hx hb hK hP 3 0 rfl rfl e62 dX1_bend_62 ?_
    refine lv_isub hx hb dX1_bend_63 ?_
    refine lv_imul hx hb dX1_bend_64 ?_
    refine lv_aload_n hx hb dX1_bend_65 rfl (lv_at hl 0 rfl) ?_
    refine va_get (D := (dC, dI)) (ci := 0) (v := .ref (a0 3)) (C := RX1) (T := TX1) (N := 6) hx hb htg inX1 hown hK hP 0 rfl rfl 4 (by decide) (htg _ gw104) (fun _ h9 => h9) rfl dX1_bend_66 ?_
    refine lv_iload_n hx hb dX1_bend_69 rfl (lv_at hl 2 rfl) ?_
    obtain ⟨v70, e70, h⟩ := bnd h
    refine x_iald (v := v70) hx hb hK hP 3 0 rfl rfl e70 dX1_bend_70 ?_
    refine lv_aload_n hx hb dX1_bend_71 rfl (lv_at hl 0 rfl) ?_
    refine va_get (D := (dC, dI)) (ci := 0) (v := .ref (a0 3)) (C := RX1) (T := TX1) (N := 6) hx hb htg inX1 hown hK hP 0 rfl rfl 4 (by decide) (htg _ gw104) (fun _ h9 => h9) rfl dX1_bend_72 ?_
    refine lv_iload_n hx hb dX1_bend_75 rfl (lv_at hl 1 rfl) ?_
    obtain ⟨v76, e76, h⟩ := bnd h
    refine x_iald (v := v76) hx hb hK hP 3 0 rfl rfl e76 dX1_bend_76 ?_
    refine lv_isub hx hb dX1_bend_77 ?_
    refine lv_aload_n hx hb dX1_bend_78 rfl (lv_at hl 0 rfl) ?_
    refine va_get (D := (dC, dI)) (ci := 0) (v := .ref (a0 2)) (C := RX1) (T := TX1) (N := 6) hx hb htg inX1 hown hK hP 0 rfl rfl 3 (by decide) (htg _ gw103) (fun _ h9 => h9) rfl dX1_bend_79 ?_
    refine lv_iload_n hx hb dX1_bend_82 rfl (lv_at hl 3 rfl) ?_
    obtain ⟨v83, e83, h⟩ := bnd h
    refine x_iald (v := v83) hx hb hK hP 2 0 rfl rfl e83 dX1_bend_83 ?_
    refine lv_aload_n hx hb dX1_bend_84 rfl (lv_at hl 0 rfl) ?_
    refine va_get (D := (dC, dI)) (ci := 0) (v := .ref (a0 2)) (C := RX1) (T := TX1) (N := 6) hx hb htg inX1 hown hK hP 0 rfl rfl 3 (by decide) (htg _ gw103) (fun _ h9 => h9) rfl dX1_bend_85 ?_
    refine lv_iload_n hx hb dX1_bend_88 rfl (lv_at hl 2 rfl) ?_
    obtain ⟨v89, e89, h⟩ := bnd h
    refine x_iald (v := v89) hx hb hK hP 2 0 rfl rfl e89 dX1_bend_89 ?_
    refine lv_isub hx hb dX1_bend_90 ?_
    refine lv_imul hx hb dX1_bend_91 ?_
    refine lv_isub hx hb dX1_bend_92 ?_
    obtain rfl := Option.some.inj h
    exact hE H locs 93 ls _ hP hD hS rfl dX1_bend_93
  replace h := if_f h c33
  refine lv_iconst (v := 0) hx hb dX1_bend_36 (by decide) ?_
  obtain rfl := Option.some.inj h
  exact hE H locs 37 ls _ hP hD hS rfl dX1_bend_37
def G_X1_linesCross (f0 : Fig) (p1 : Int32) (p2 : Int32) (p3 : Int32) (p4 : Int32) : Option (Int32) :=
  (G_X1_bend f0 p1 p2 p3).bind fun v4 =>
  (G_X1_bend f0 p1 p2 p4).bind fun v12 =>
  if 0 ≤ v4 * v12 then
    some 0
  else
    (G_X1_bend f0 p3 p4 p1).bind fun v24 =>
    (G_X1_bend f0 p3 p4 p2).bind fun v32 =>
    if 0 ≤ v24 * v32 then
      some 0
    else
      some 1
abbrev rm_X1_linesCross : Room := { frames := 1, cells := 0, slots := 0, locals := 23 }
theorem hdS_X1_linesCross : yX1_linesCross.cls ≠ "java/lang/invoke/MethodHandle" ∧ yX1_linesCross.cls ≠ "java/lang/invoke/VarHandle" ∧ (parseMethodDescriptor yX1_linesCross.desc).map (fun d => d.parameters.length) = some 4 := by decide +kernel
theorem hdV_X1_linesCross : yX1_linesCross.cls = RX1 ∧ yX1_linesCross.cls ≠ "java/lang/invoke/MethodHandle" ∧ yX1_linesCross.cls ≠ "java/lang/invoke/VarHandle" ∧ (parseMethodDescriptor yX1_linesCross.desc).map (fun d => d.parameters.length) = some 4 := ⟨rfl, hdS_X1_linesCross⟩
set_option maxHeartbeats 4000000 in
set_option maxRecDepth 100000 in
theorem c_X1_linesCross (l : Launch) (dC : Nat → ClassId) (dI : Nat → Nat → Nat) (cy : Nat → ClassId) (a0 : Nat → Nat) (f0 : Fig) (p1 : Int32) (p2 : Int32) (p3 : Int32) (p4 : Int32) (res : Int32) (h : G_X1_linesCross f0 p1 p2 p3 p4 = some res) : CT l (dC, dI) (TY cy) yX1_linesCross cX1_linesCross 5 (some .boolean) rm_X1_linesCross [.ref (a0 0), .int p1, .int p2, .int p3, .int p4] (wFig a0 cy f0) (wFig a0 cy f0) (some (.int res)) := by
  refine CT.mk_z (own := RX1) ⟨by decide, rfl⟩ (Nat.le_of_ble_eq_true rfl) ?_
  intro p e s mm args below meth cd A Q hx hb hml hown htg hN hK hA hP hD hS hE ls hl
  have hl : lv_has ls 5 [(0, .ref (a0 0)), (1, .int p1), (2, .int p2), (3, .int p3), (4, .int p4)] := hl
  replace h : _ = some res := h
  unfold G_X1_linesCross at h
  obtain ⟨H, hH⟩ : ∃ H, H = s.heap := ⟨_, rfl⟩
  obtain ⟨locs, hlocs⟩ : ∃ locs : List Loc, locs = [] := ⟨_, rfl⟩
  rw [← hlocs] at hS ⊢
  have hS : va_S A s.heap H locs := by rw [hH]; exact hS
  rw [← hH] at hP ⊢
  refine lv_aload_n hx hb dX1_linesCross_0 rfl (lv_at hl 0 rfl) ?_
  refine lv_iload_n hx hb dX1_linesCross_1 rfl (lv_at hl 1 rfl) ?_
  refine lv_iload_n hx hb dX1_linesCross_2 rfl (lv_at hl 2 rfl) ?_
  refine lv_iload_n hx hb dX1_linesCross_3 rfl (lv_at hl 3 rfl) ?_
  obtain ⟨v4, e4, h⟩ := bnd h
  refine cV (av := [.int p1, .int p2, .int p3]) (rest := []) (st1 := [.int v4]) (k1 := 0) (k2 := 0) (ci := 0) (q0 := 0) hx hb hml hown htg hN hK (c_X1_bend l dC dI cy a0 f0 p1 p2 p3 v4 e4) (g_V gw272 gw273 gw274 gw60 gw275) hdV_X1_bend rfl ⟨⟨Nat.le_of_ble_eq_true rfl, Nat.le_of_ble_eq_true rfl⟩, Nat.le_of_ble_eq_true rfl, Nat.le_of_ble_eq_true rfl⟩ hP hD hS hA ⟨rfl, rfl⟩ rfl [0, 1, 2, 3, 4] [] rfl rfl rfl (by decide) (by decide) hl.1 rfl (Nat.le_of_ble_eq_true rfl) rfl rfl rfl dX1_linesCross_4 (fun H locs hP hD hS => ?_)
  have hP : va_P (dC, dI) vwCl (wFig a0 cy f0) H := hP
  have hD : va_D A (wFig a0 cy f0) := hD
  refine lv_aload_n hx hb dX1_linesCross_7 rfl (lv_at hl 0 rfl) ?_
  refine lv_iload_n hx hb dX1_linesCross_8 rfl (lv_at hl 1 rfl) ?_
  refine lv_iload_n hx hb dX1_linesCross_9 rfl (lv_at hl 2 rfl) ?_
  refine lv_iload hx hb dX1_linesCross_10 (lv_at hl 4 rfl) ?_
  obtain ⟨v12, e12, h⟩ := bnd h
  refine cV (av := [.int p1, .int p2, .int p4]) (rest := [.int v4]) (st1 := [.int v12, .int v4]) (k1 := 0) (k2 := 0) (ci := 0) (q0 := 0) hx hb hml hown htg hN hK (c_X1_bend l dC dI cy a0 f0 p1 p2 p4 v12 e12) (g_V gw272 gw273 gw274 gw60 gw275) hdV_X1_bend rfl ⟨⟨Nat.le_of_ble_eq_true rfl, Nat.le_of_ble_eq_true rfl⟩, Nat.le_of_ble_eq_true rfl, Nat.le_of_ble_eq_true rfl⟩ hP hD hS hA ⟨rfl, rfl⟩ rfl [0, 1, 2, 3, 4] [] rfl rfl rfl (by decide) (by decide) hl.1 rfl (Nat.le_of_ble_eq_true rfl) rfl rfl rfl dX1_linesCross_12 (fun H locs hP hD hS => ?_)
  have hP : va_P (dC, dI) vwCl (wFig a0 cy f0) H := hP
  have hD : va_D A (wFig a0 cy f0) := hD
  refine lv_imul hx hb dX1_linesCross_15 ?_
  refine lv_if_ge (tgt := 43) hx hb dX1_linesCross_16 (by decide) (fun c16 => ?_) (fun c16 => ?_)
  · replace h := if_t h c16
    refine lv_iconst (v := 0) hx hb dX1_linesCross_43 (by decide) ?_
    obtain rfl := Option.some.inj h
    exact hE H locs 44 ls _ hP hD hS rfl (Or.inl rfl) dX1_linesCross_44
  replace h := if_f h c16
  refine lv_aload_n hx hb dX1_linesCross_19 rfl (lv_at hl 0 rfl) ?_
  refine lv_iload_n hx hb dX1_linesCross_20 rfl (lv_at hl 3 rfl) ?_
  refine lv_iload hx hb dX1_linesCross_21 (lv_at hl 4 rfl) ?_
  refine lv_iload_n hx hb dX1_linesCross_23 rfl (lv_at hl 1 rfl) ?_
  obtain ⟨v24, e24, h⟩ := bnd h
  refine cV (av := [.int p3, .int p4, .int p1]) (rest := []) (st1 := [.int v24]) (k1 := 0) (k2 := 0) (ci := 0) (q0 := 0) hx hb hml hown htg hN hK (c_X1_bend l dC dI cy a0 f0 p3 p4 p1 v24 e24) (g_V gw272 gw273 gw274 gw60 gw275) hdV_X1_bend rfl ⟨⟨Nat.le_of_ble_eq_true rfl, Nat.le_of_ble_eq_true rfl⟩, Nat.le_of_ble_eq_true rfl, Nat.le_of_ble_eq_true rfl⟩ hP hD hS hA ⟨rfl, rfl⟩ rfl [0, 1, 2, 3, 4] [] rfl rfl rfl (by decide) (by decide) hl.1 rfl (Nat.le_of_ble_eq_true rfl) rfl rfl rfl dX1_linesCross_24 (fun H locs hP hD hS => ?_)
  have hP : va_P (dC, dI) vwCl (wFig a0 cy f0) H := hP
  have hD : va_D A (wFig a0 cy f0) := hD
  refine lv_aload_n hx hb dX1_linesCross_27 rfl (lv_at hl 0 rfl) ?_
  refine lv_iload_n hx hb dX1_linesCross_28 rfl (lv_at hl 3 rfl) ?_
  refine lv_iload hx hb dX1_linesCross_29 (lv_at hl 4 rfl) ?_
  refine lv_iload_n hx hb dX1_linesCross_31 rfl (lv_at hl 2 rfl) ?_
  obtain ⟨v32, e32, h⟩ := bnd h
  refine cV (av := [.int p3, .int p4, .int p2]) (rest := [.int v24]) (st1 := [.int v32, .int v24]) (k1 := 0) (k2 := 0) (ci := 0) (q0 := 0) hx hb hml hown htg hN hK (c_X1_bend l dC dI cy a0 f0 p3 p4 p2 v32 e32) (g_V gw272 gw273 gw274 gw60 gw275) hdV_X1_bend rfl ⟨⟨Nat.le_of_ble_eq_true rfl, Nat.le_of_ble_eq_true rfl⟩, Nat.le_of_ble_eq_true rfl, Nat.le_of_ble_eq_true rfl⟩ hP hD hS hA ⟨rfl, rfl⟩ rfl [0, 1, 2, 3, 4] [] rfl rfl rfl (by decide) (by decide) hl.1 rfl (Nat.le_of_ble_eq_true rfl) rfl rfl rfl dX1_linesCross_32 (fun H locs hP hD hS => ?_)
  have hP : va_P (dC, dI) vwCl (wFig a0 cy f0) H := hP
  have hD : va_D A (wFig a0 cy f0) := hD
  refine lv_imul hx hb dX1_linesCross_35 ?_
  refine lv_if_ge (tgt := 43) hx hb dX1_linesCross_36 (by decide) (fun c36 => ?_) (fun c36 => ?_)
  · replace h := if_t h c36
    refine lv_iconst (v := 0) hx hb dX1_linesCross_43 (by decide) ?_
    obtain rfl := Option.some.inj h
    exact hE H locs 44 ls _ hP hD hS rfl (Or.inl rfl) dX1_linesCross_44
  replace h := if_f h c36
  refine lv_iconst (v := 1) hx hb dX1_linesCross_39 (by decide) ?_
  refine lv_goto (tgt := 44) hx hb dX1_linesCross_40 (by decide) ?_
  obtain rfl := Option.some.inj h
  exact hE H locs 44 ls _ hP hD hS rfl (Or.inr rfl) dX1_linesCross_44
def G_X4_hasCrossing_L18 (r2 : Int32 → Option (Int32)) (f0 : Fig) : Nat → Int32 → Int32 → Int32 → Option (Int32)
  | 0, _, _, _ => none
  | n18 + 1, l3_18, l2_18, l1_18 =>
    if l1_18 ≤ l3_18 then
      r2 (l1_18 + 1)
    else
      (G_X1_nextOf f0 l3_18).bind fun v29 =>
      (G_X1_linesCross f0 l1_18 l2_18 l3_18 v29).bind fun v32 =>
      if v32 = 0 then
        (G_X4_hasCrossing_L18 r2 f0 n18) (l3_18 + 1) l2_18 l1_18
      else
        some 1
def G_X4_hasCrossing_L2  (f0 : Fig) : Nat → Int32 → Option (Int32)
  | 0, _ => none
  | n2 + 1, l1_2 =>
    if f_corners f0 ≤ l1_2 then
      some 0
    else
      (G_X1_nextOf f0 l1_2).bind fun v12 =>
      G_X4_hasCrossing_L18 (G_X4_hasCrossing_L2 f0 n2) f0 FU 0 v12 l1_2
def G_X4_hasCrossing (f0 : Fig) : Option (Int32) :=
  G_X4_hasCrossing_L2 f0 FU 0
abbrev rm_X4_hasCrossing : Room := { frames := 2, cells := 0, slots := 0, locals := 47 }
theorem hdS_X4_hasCrossing : yX4_hasCrossing.cls ≠ "java/lang/invoke/MethodHandle" ∧ yX4_hasCrossing.cls ≠ "java/lang/invoke/VarHandle" ∧ (parseMethodDescriptor yX4_hasCrossing.desc).map (fun d => d.parameters.length) = some 1 := by decide +kernel
set_option maxHeartbeats 4000000 in
set_option maxRecDepth 100000 in
theorem c_X4_hasCrossing (l : Launch) (dC : Nat → ClassId) (dI : Nat → Nat → Nat) (cy : Nat → ClassId) (a0 : Nat → Nat) (f0 : Fig) (res : Int32) (h : G_X4_hasCrossing f0 = some res) : CT l (dC, dI) (TY cy) yX4_hasCrossing cX4_hasCrossing 4 (some .boolean) rm_X4_hasCrossing [.ref (a0 0)] (wFig a0 cy f0) (wFig a0 cy f0) (some (.int res)) := by
  refine CT.mk_z (own := RX4) ⟨by decide, rfl⟩ (Nat.le_of_ble_eq_true rfl) ?_
  intro p e s mm args below meth cd A Q hx hb hml hown htg hN hK hA hP hD hS hE ls hl
  have hl : lv_has ls 4 [(0, .ref (a0 0))] := hl
  replace h : _ = some res := h
  unfold G_X4_hasCrossing at h
  obtain ⟨H, hH⟩ : ∃ H, H = s.heap := ⟨_, rfl⟩
  obtain ⟨locs, hlocs⟩ : ∃ locs : List Loc, locs = [] := ⟨_, rfl⟩
  rw [← hlocs] at hS ⊢
  have hS : va_S A s.heap H locs := by rw [hH]; exact hS
  rw [← hH] at hP ⊢
  refine lv_iconst (v := 0) hx hb dX4_hasCrossing_0 (by decide) ?_
  refine lv_istore_n (lv' := [(1, .int 0), (0, .ref (a0 0))]) hx hb dX4_hasCrossing_1 rfl hl (by decide) rfl (fun ls hl => ?_)
  have hL2 : ∀ (n2 : Nat) (l1_2 : Int32) (H : Heap) (locs : List Loc) (ls : Array Slot), G_X4_hasCrossing_L2 f0 n2 l1_2 = some res → va_P (dC, dI) vwCl (wFig a0 cy f0) H → va_D A (wFig a0 cy f0) → va_S A s.heap H locs → lv_has ls 4 [(1, .int l1_2), (0, .ref (a0 0))] → W p l e rm_X4_hasCrossing s mm args below meth cd H locs 0 0 Q (F0 mm 2 ls []) := by
    intro n2
    induction n2 with
    | zero => intro l1_2 H locs ls h; exact absurd h (by simp [G_X4_hasCrossing_L2])
    | succ n2 ih2 =>
      intro l1_2 H locs ls h hP hD hS hl
      rw [G_X4_hasCrossing_L2] at h
      refine lv_iload_n hx hb dX4_hasCrossing_2 rfl (lv_at hl 0 rfl) ?_
      refine lv_aload_n hx hb dX4_hasCrossing_3 rfl (lv_at hl 1 rfl) ?_
      refine va_getN (D := (dC, dI)) (ci := 0) (v := .int (f_corners f0)) (C := RX1) (T := TX1) (N := 6) hx hb htg inX1 hown hK hP 0 rfl rfl 1 (by decide) (va_Nw.use rfl (hN (.fieldLinkNest RX4 27 "SquaredPaper$Figure" "corners" "I" "SquaredPaper") (by decide +kernel))) (fun _ h9 => h9) rfl dX4_hasCrossing_4 ?_
      refine lv_icmp_ge (tgt := 52) hx hb dX4_hasCrossing_7 (by decide) (fun c7 => ?_) (fun c7 => ?_)
      · replace h := if_t h c7
        refine lv_iconst (v := 0) hx hb dX4_hasCrossing_52 (by decide) ?_
        obtain rfl := Option.some.inj h
        exact hE H locs 53 ls _ hP hD hS rfl (Or.inl rfl) dX4_hasCrossing_53
      replace h := if_f h c7
      refine lv_aload_n hx hb dX4_hasCrossing_10 rfl (lv_at hl 1 rfl) ?_
      refine lv_iload_n hx hb dX4_hasCrossing_11 rfl (lv_at hl 0 rfl) ?_
      obtain ⟨v12, e12, h⟩ := bnd h
      refine cV (av := [.int l1_2]) (rest := []) (st1 := [.int v12]) (k1 := 0) (k2 := 0) (ci := 0) (q0 := 0) hx hb hml hown htg hN hK (c_X1_nextOf l dC dI cy a0 f0 l1_2 v12 e12) (g_V gw267 gw259 gw260 gw60 gw261) hdV_X1_nextOf rfl ⟨⟨Nat.le_of_ble_eq_true rfl, Nat.le_of_ble_eq_true rfl⟩, Nat.le_of_ble_eq_true rfl, Nat.le_of_ble_eq_true rfl⟩ hP hD hS hA ⟨rfl, rfl⟩ rfl [0, 1, 2, 3, 4] [] rfl rfl rfl (by decide) (by decide) hl.1 rfl (Nat.le_of_ble_eq_true rfl) rfl rfl rfl dX4_hasCrossing_12 (fun H locs hP hD hS => ?_)
      have hP : va_P (dC, dI) vwCl (wFig a0 cy f0) H := hP
      have hD : va_D A (wFig a0 cy f0) := hD
      refine lv_istore_n (lv' := [(2, .int v12), (1, .int l1_2), (0, .ref (a0 0))]) hx hb dX4_hasCrossing_15 rfl hl (by decide) rfl (fun ls hl => ?_)
      refine lv_iconst (v := 0) hx hb dX4_hasCrossing_16 (by decide) ?_
      refine lv_istore_n (lv' := [(3, .int 0), (2, .int v12), (1, .int l1_2), (0, .ref (a0 0))]) hx hb dX4_hasCrossing_17 rfl hl (by decide) rfl (fun ls hl => ?_)
      have hL18 : ∀ (n18 : Nat) (l3_18 : Int32) (l2_18 : Int32) (l1_18 : Int32) (H : Heap) (locs : List Loc) (ls : Array Slot), G_X4_hasCrossing_L18 (G_X4_hasCrossing_L2 f0 n2) f0 n18 l3_18 l2_18 l1_18 = some res → va_P (dC, dI) vwCl (wFig a0 cy f0) H → va_D A (wFig a0 cy f0) → va_S A s.heap H locs → lv_has ls 4 [(3, .int l3_18), (2, .int l2_18), (1, .int l1_18), (0, .ref (a0 0))] → W p l e rm_X4_hasCrossing s mm args below meth cd H locs 0 0 Q (F0 mm 18 ls []) := by
        intro n18
        induction n18 with
        | zero => intro l3_18 l2_18 l1_18 H locs ls h; exact absurd h (by simp [G_X4_hasCrossing_L18])
        | succ n18 ih18 =>
          intro l3_18 l2_18 l1_18 H locs ls h hP hD hS hl
          rw [G_X4_hasCrossing_L18] at h
          refine lv_iload_n hx hb dX4_hasCrossing_18 rfl (lv_at hl 0 rfl) ?_
          refine lv_iload_n hx hb dX4_hasCrossing_19 rfl (lv_at hl 2 rfl) ?_
          refine lv_icmp_ge (tgt := 46) hx hb dX4_hasCrossing_20 (by decide) (fun c20 => ?_) (fun c20 => ?_)
          · replace h := if_t h c20
            refine lv_iinc (v := l1_18 + 1) (lv' := [(1, .int (l1_18 + 1)), (3, .int l3_18), (2, .int l2_18), (0, .ref (a0 0))]) hx hb dX4_hasCrossing_46 hl (k := 2) rfl rfl (by decide) rfl (fun ls hl => ?_)
            refine lv_goto (tgt := 2) hx hb dX4_hasCrossing_49 (by decide) ?_
            exact ih2 (l1_18 + 1) H locs ls h hP hD hS (lv_sub hl [0, 3] rfl)
          replace h := if_f h c20
          refine lv_aload_n hx hb dX4_hasCrossing_23 rfl (lv_at hl 3 rfl) ?_
          refine lv_iload_n hx hb dX4_hasCrossing_24 rfl (lv_at hl 2 rfl) ?_
          refine lv_iload_n hx hb dX4_hasCrossing_25 rfl (lv_at hl 1 rfl) ?_
          refine lv_iload_n hx hb dX4_hasCrossing_26 rfl (lv_at hl 0 rfl) ?_
          refine lv_aload_n hx hb dX4_hasCrossing_27 rfl (lv_at hl 3 rfl) ?_
          refine lv_iload_n hx hb dX4_hasCrossing_28 rfl (lv_at hl 0 rfl) ?_
          obtain ⟨v29, e29, h⟩ := bnd h
          refine cV (av := [.int l3_18]) (rest := [.int l3_18, .int l2_18, .int l1_18, .ref (a0 0)]) (st1 := [.int v29, .int l3_18, .int l2_18, .int l1_18, .ref (a0 0)]) (k1 := 0) (k2 := 0) (ci := 0) (q0 := 0) hx hb hml hown htg hN hK (c_X1_nextOf l dC dI cy a0 f0 l3_18 v29 e29) (g_V gw267 gw259 gw260 gw60 gw261) hdV_X1_nextOf rfl ⟨⟨Nat.le_of_ble_eq_true rfl, Nat.le_of_ble_eq_true rfl⟩, Nat.le_of_ble_eq_true rfl, Nat.le_of_ble_eq_true rfl⟩ hP hD hS hA ⟨rfl, rfl⟩ rfl [0, 1, 2, 3, 4] [] rfl rfl rfl (by decide) (by decide) hl.1 rfl (Nat.le_of_ble_eq_true rfl) rfl rfl rfl dX4_hasCrossing_29 (fun H locs hP hD hS => ?_)
          have hP : va_P (dC, dI) vwCl (wFig a0 cy f0) H := hP
          have hD : va_D A (wFig a0 cy f0) := hD
          obtain ⟨v32, e32, h⟩ := bnd h
          refine cV (av := [.int l1_18, .int l2_18, .int l3_18, .int v29]) (rest := []) (st1 := [.int v32]) (k1 := 0) (k2 := 0) (ci := 0) (q0 := 0) hx hb hml hown htg hN hK (c_X1_linesCross l dC dI cy a0 f0 l1_18 l2_18 l3_18 v29 v32 e32) (g_V gw268 gw269 gw270 gw60 gw271) hdV_X1_linesCross rfl ⟨⟨Nat.le_of_ble_eq_true rfl, Nat.le_of_ble_eq_true rfl⟩, Nat.le_of_ble_eq_true rfl, Nat.le_of_ble_eq_true rfl⟩ hP hD hS hA ⟨rfl, rfl⟩ rfl [0, 1, 2, 3, 4] [] rfl rfl rfl (by decide) (by decide) hl.1 rfl (Nat.le_of_ble_eq_true rfl) rfl rfl rfl dX4_hasCrossing_32 (fun H locs hP hD hS => ?_)
          have hP : va_P (dC, dI) vwCl (wFig a0 cy f0) H := hP
          have hD : va_D A (wFig a0 cy f0) := hD
          refine lv_if_eq (tgt := 40) hx hb dX4_hasCrossing_35 (by decide) (fun c35 => ?_) (fun c35 => ?_)
          · replace h := if_t h c35
            refine lv_iinc (v := l3_18 + 1) (lv' := [(3, .int (l3_18 + 1)), (2, .int l2_18), (1, .int l1_18), (0, .ref (a0 0))]) hx hb dX4_hasCrossing_40 hl (k := 0) rfl rfl (by decide) rfl (fun ls hl => ?_)
            refine lv_goto (tgt := 18) hx hb dX4_hasCrossing_43 (by decide) ?_
            exact ih18 (l3_18 + 1) l2_18 l1_18 H locs ls h hP hD hS (lv_sub hl [0, 1, 2, 3] rfl)
          replace h := if_f h c35
          refine lv_iconst (v := 1) hx hb dX4_hasCrossing_38 (by decide) ?_
          obtain rfl := Option.some.inj h
          exact hE H locs 39 ls _ hP hD hS rfl (Or.inr rfl) dX4_hasCrossing_39
      exact hL18 FU 0 v12 l1_2 H locs ls h hP hD hS (lv_sub hl [0, 1, 2, 3] rfl)
  exact hL2 FU 0 H locs ls h hP hD hS (lv_sub hl [0, 1] rfl)
def G_X1_onLine (f0 : Fig) (p1 : Int32) (p2 : Int32) (p3 : Int32) (p4 : Int32) : Option (Int32) :=
  if p3 < 0 then
    some 0
  else
    if p4 < 0 then
      some 0
    else
      if f_corners f0 ≤ p3 then
        some 0
      else
        if p4 < f_corners f0 then
          (rd 40 (f_xs f0) p4).bind fun v34 =>
          (rd 40 (f_xs f0) p3).bind fun v40 =>
          (rd 40 (f_ys f0) p3).bind fun v48 =>
          (rd 40 (f_ys f0) p4).bind fun v57 =>
          (rd 40 (f_ys f0) p3).bind fun v63 =>
          (rd 40 (f_xs f0) p3).bind fun v71 =>
          if (v34 - v40) * (p2 - v48) = (v57 - v63) * (p1 - v71) then
            (rd 40 (f_xs f0) p3).bind fun v84 =>
            (rd 40 (f_xs f0) p4).bind fun v91 =>
            if p1 < (if v91 < v84 then v91 else v84) then
              some 0
            else
              (rd 40 (f_xs f0) p3).bind fun v105 =>
              (rd 40 (f_xs f0) p4).bind fun v112 =>
              if (if v105 < v112 then v112 else v105) < p1 then
                some 0
              else
                (rd 40 (f_ys f0) p3).bind fun v124 =>
                (rd 40 (f_ys f0) p4).bind fun v131 =>
                if p2 < (if v131 < v124 then v131 else v124) then
                  some 0
                else
                  (rd 40 (f_ys f0) p3).bind fun v145 =>
                  (rd 40 (f_ys f0) p4).bind fun v152 =>
                  if (if v145 < v152 then v152 else v145) < p2 then
                    some 0
                  else
                    some 1
          else
            some 0
        else
          some 0
abbrev rm_X1_onLine : Room := { frames := 1, cells := 0, slots := 0, locals := 24 }
theorem hdS_X1_onLine : yX1_onLine.cls ≠ "java/lang/invoke/MethodHandle" ∧ yX1_onLine.cls ≠ "java/lang/invoke/VarHandle" ∧ (parseMethodDescriptor yX1_onLine.desc).map (fun d => d.parameters.length) = some 4 := by decide +kernel
theorem hdV_X1_onLine : yX1_onLine.cls = RX1 ∧ yX1_onLine.cls ≠ "java/lang/invoke/MethodHandle" ∧ yX1_onLine.cls ≠ "java/lang/invoke/VarHandle" ∧ (parseMethodDescriptor yX1_onLine.desc).map (fun d => d.parameters.length) = some 4 := ⟨rfl, hdS_X1_onLine⟩
set_option maxHeartbeats 4000000 in
set_option maxRecDepth 100000 in
theorem c_X1_onLine (l : Launch) (dC : Nat → ClassId) (dI : Nat → Nat → Nat) (cy : Nat → ClassId) (a0 : Nat → Nat) (f0 : Fig) (p1 : Int32) (p2 : Int32) (p3 : Int32) (p4 : Int32) (res : Int32) (h : G_X1_onLine f0 p1 p2 p3 p4 = some res) : CT l (dC, dI) (TY cy) yX1_onLine cX1_onLine 5 (some .boolean) rm_X1_onLine [.ref (a0 0), .int p1, .int p2, .int p3, .int p4] (wFig a0 cy f0) (wFig a0 cy f0) (some (.int res)) := by
  refine CT.mk_z (own := RX1) ⟨by decide, rfl⟩ (Nat.le_of_ble_eq_true rfl) ?_
  intro p e s mm args below meth cd A Q hx hb hml hown htg hN hK hA hP hD hS hE ls hl
  have hl : lv_has ls 5 [(0, .ref (a0 0)), (1, .int p1), (2, .int p2), (3, .int p3), (4, .int p4)] := hl
  replace h : _ = some res := h
  unfold G_X1_onLine at h
  obtain ⟨H, hH⟩ : ∃ H, H = s.heap := ⟨_, rfl⟩
  obtain ⟨locs, hlocs⟩ : ∃ locs : List Loc, locs = [] := ⟨_, rfl⟩
  rw [← hlocs] at hS ⊢
  have hS : va_S A s.heap H locs := by rw [hH]; exact hS
  rw [← hH] at hP ⊢
  refine lv_iload_n hx hb dX1_onLine_0 rfl (lv_at hl 3 rfl) ?_
  refine lv_if_lt (tgt := 26) hx hb dX1_onLine_1 (by decide) (fun c1 => ?_) (fun c1 => ?_)
  · replace h := if_t h c1
    refine lv_iconst (v := 0) hx hb dX1_onLine_26 (by decide) ?_
    obtain rfl := Option.some.inj h
    exact hE H locs 27 ls _ hP hD hS rfl (Or.inl rfl) dX1_onLine_27
  replace h := if_f h c1
  refine lv_iload hx hb dX1_onLine_4 (lv_at hl 4 rfl) ?_
  refine lv_if_lt (tgt := 26) hx hb dX1_onLine_6 (by decide) (fun c6 => ?_) (fun c6 => ?_)
  · replace h := if_t h c6
    refine lv_iconst (v := 0) hx hb dX1_onLine_26 (by decide) ?_
    obtain rfl := Option.some.inj h
    exact hE H locs 27 ls _ hP hD hS rfl (Or.inl rfl) dX1_onLine_27
  replace h := if_f h c6
  refine lv_iload_n hx hb dX1_onLine_9 rfl (lv_at hl 3 rfl) ?_
  refine lv_aload_n hx hb dX1_onLine_10 rfl (lv_at hl 0 rfl) ?_
  refine va_get (D := (dC, dI)) (ci := 0) (v := .int (f_corners f0)) (C := RX1) (T := TX1) (N := 6) hx hb htg inX1 hown hK hP 0 rfl rfl 1 (by decide) (htg _ gw97) (fun _ h9 => h9) rfl dX1_onLine_11 ?_
  refine lv_icmp_ge (tgt := 26) hx hb dX1_onLine_14 (by decide) (fun c14 => ?_) (fun c14 => ?_)
  · replace h := if_t h c14
    refine lv_iconst (v := 0) hx hb dX1_onLine_26 (by decide) ?_
    obtain rfl := Option.some.inj h
    exact hE H locs 27 ls _ hP hD hS rfl (Or.inl rfl) dX1_onLine_27
  replace h := if_f h c14
  refine lv_iload hx hb dX1_onLine_17 (lv_at hl 4 rfl) ?_
  refine lv_aload_n hx hb dX1_onLine_19 rfl (lv_at hl 0 rfl) ?_
  refine va_get (D := (dC, dI)) (ci := 0) (v := .int (f_corners f0)) (C := RX1) (T := TX1) (N := 6) hx hb htg inX1 hown hK hP 0 rfl rfl 1 (by decide) (htg _ gw97) (fun _ h9 => h9) rfl dX1_onLine_20 ?_
  refine lv_icmp_lt (tgt := 28) hx hb dX1_onLine_23 (by decide) (fun c23 => ?_) (fun c23 => ?_)
  · replace h := if_t h c23
    refine lv_aload_n hx hb dX1_onLine_28 rfl (lv_at hl 0 rfl) ?_
    refine va_get (D := (dC, dI)) (ci := 0) (v := .ref (a0 2)) (C := RX1) (T := TX1) (N := 6) hx hb htg inX1 hown hK hP 0 rfl rfl 3 (by decide) (htg _ gw103) (fun _ h9 => h9) rfl dX1_onLine_29 ?_
    refine lv_iload hx hb dX1_onLine_32 (lv_at hl 4 rfl) ?_
    obtain ⟨v34, e34, h⟩ := bnd h
    refine x_iald (v := v34) hx hb hK hP 2 0 rfl rfl e34 dX1_onLine_34 ?_
    refine lv_aload_n hx hb dX1_onLine_35 rfl (lv_at hl 0 rfl) ?_
    refine va_get (D := (dC, dI)) (ci := 0) (v := .ref (a0 2)) (C := RX1) (T := TX1) (N := 6) hx hb htg inX1 hown hK hP 0 rfl rfl 3 (by decide) (htg _ gw103) (fun _ h9 => h9) rfl dX1_onLine_36 ?_
    refine lv_iload_n hx hb dX1_onLine_39 rfl (lv_at hl 3 rfl) ?_
    obtain ⟨v40, e40, h⟩ := bnd h
    refine x_iald (v := v40) hx hb hK hP 2 0 rfl rfl e40 dX1_onLine_40 ?_
    refine lv_isub hx hb dX1_onLine_41 ?_
    refine lv_iload_n hx hb dX1_onLine_42 rfl (lv_at hl 2 rfl) ?_
    refine lv_aload_n hx hb dX1_onLine_43 rfl (lv_at hl 0 rfl) ?_
    refine va_get (D := (dC, dI)) (ci := 0) (v := .ref (a0 3)) (C := RX1) (T := TX1) (N := 6) hx hb htg inX1 hown hK hP 0 rfl rfl 4 (by decide) (htg _ gw104) (fun _ h9 => h9) rfl dX1_onLine_44 ?_
    refine lv_iload_n hx hb dX1_onLine_47 rfl (lv_at hl 3 rfl) ?_
    obtain ⟨v48, e48, h⟩ := bnd h
    refine x_iald (v := v48) hx hb hK hP 3 0 rfl rfl e48 dX1_onLine_48 ?_
    refine lv_isub hx hb dX1_onLine_49 ?_
    refine lv_imul hx hb dX1_onLine_50 ?_
    refine lv_aload_n hx hb dX1_onLine_51 rfl (lv_at hl 0 rfl) ?_
    refine va_get (D := (dC, dI)) (ci := 0) (v := .ref (a0 3)) (C := RX1) (T := TX1) (N := 6) hx hb htg inX1 hown hK hP 0 rfl rfl 4 (by decide) (htg _ gw104) (fun _ h9 => h9) rfl dX1_onLine_52 ?_
    refine lv_iload hx hb dX1_onLine_55 (lv_at hl 4 rfl) ?_
    obtain ⟨v57, e57, h⟩ := bnd h
    refine x_iald (v := v57) hx hb hK hP 3 0 rfl rfl e57 dX1_onLine_57 ?_
    refine lv_aload_n hx hb dX1_onLine_58 rfl (lv_at hl 0 rfl) ?_
    refine va_get (D := (dC, dI)) (ci := 0) (v := .ref (a0 3)) (C := RX1) (T := TX1) (N := 6) hx hb htg inX1 hown hK hP 0 rfl rfl 4 (by decide) (htg _ gw104) (fun _ h9 => h9) rfl dX1_onLine_59 ?_
    refine lv_iload_n hx hb dX1_onLine_62 rfl (lv_at hl 3 rfl) ?_
    obtain ⟨v63, e63, h⟩ := bnd h
    refine x_iald (v := v63) hx hb hK hP 3 0 rfl rfl e63 dX1_onLine_63 ?_
    refine lv_isub hx hb dX1_onLine_64 ?_
    refine lv_iload_n hx hb dX1_onLine_65 rfl (lv_at hl 1 rfl) ?_
    refine lv_aload_n hx hb dX1_onLine_66 rfl (lv_at hl 0 rfl) ?_
    refine va_get (D := (dC, dI)) (ci := 0) (v := .ref (a0 2)) (C := RX1) (T := TX1) (N := 6) hx hb htg inX1 hown hK hP 0 rfl rfl 3 (by decide) (htg _ gw103) (fun _ h9 => h9) rfl dX1_onLine_67 ?_
    refine lv_iload_n hx hb dX1_onLine_70 rfl (lv_at hl 3 rfl) ?_
    obtain ⟨v71, e71, h⟩ := bnd h
    refine x_iald (v := v71) hx hb hK hP 2 0 rfl rfl e71 dX1_onLine_71 ?_
    refine lv_isub hx hb dX1_onLine_72 ?_
    refine lv_imul hx hb dX1_onLine_73 ?_
    refine lv_icmp_eq (tgt := 79) hx hb dX1_onLine_74 (by decide) (fun c74 => ?_) (fun c74 => ?_)
    · replace h := if_t h c74
      refine lv_aload_n hx hb dX1_onLine_79 rfl (lv_at hl 0 rfl) ?_
      refine va_get (D := (dC, dI)) (ci := 0) (v := .ref (a0 2)) (C := RX1) (T := TX1) (N := 6) hx hb htg inX1 hown hK hP 0 rfl rfl 3 (by decide) (htg _ gw103) (fun _ h9 => h9) rfl dX1_onLine_80 ?_
      refine lv_iload_n hx hb dX1_onLine_83 rfl (lv_at hl 3 rfl) ?_
      obtain ⟨v84, e84, h⟩ := bnd h
      refine x_iald (v := v84) hx hb hK hP 2 0 rfl rfl e84 dX1_onLine_84 ?_
      refine lv_aload_n hx hb dX1_onLine_85 rfl (lv_at hl 0 rfl) ?_
      refine va_get (D := (dC, dI)) (ci := 0) (v := .ref (a0 2)) (C := RX1) (T := TX1) (N := 6) hx hb htg inX1 hown hK hP 0 rfl rfl 3 (by decide) (htg _ gw103) (fun _ h9 => h9) rfl dX1_onLine_86 ?_
      refine lv_iload hx hb dX1_onLine_89 (lv_at hl 4 rfl) ?_
      obtain ⟨v91, e91, h⟩ := bnd h
      refine x_iald (v := v91) hx hb hK hP 2 0 rfl rfl e91 dX1_onLine_91 ?_
      refine va_mmin hx hb (hml.trans hl.1.symm) hown (htg _ gw287) (htg _ gw288) (htg _ gw70) (htg _ gw289) (Nat.le_of_ble_eq_true rfl) (Nat.le_of_ble_eq_true rfl) (Nat.le_of_ble_eq_true rfl) (Nat.le_of_ble_eq_true rfl) dX1_onLine_92 ?_
      refine lv_iload_n hx hb dX1_onLine_95 rfl (lv_at hl 1 rfl) ?_
      refine lv_icmp_gt (tgt := 163) hx hb dX1_onLine_96 (by decide) (fun c96 => ?_) (fun c96 => ?_)
      · replace h := if_t h c96
        refine lv_iconst (v := 0) hx hb dX1_onLine_163 (by decide) ?_
        obtain rfl := Option.some.inj h
        exact hE H locs 164 ls _ hP hD hS rfl (Or.inl rfl) dX1_onLine_164
      replace h := if_f h c96
      refine lv_iload_n hx hb dX1_onLine_99 rfl (lv_at hl 1 rfl) ?_
      refine lv_aload_n hx hb dX1_onLine_100 rfl (lv_at hl 0 rfl) ?_
      refine va_get (D := (dC, dI)) (ci := 0) (v := .ref (a0 2)) (C := RX1) (T := TX1) (N := 6) hx hb htg inX1 hown hK hP 0 rfl rfl 3 (by decide) (htg _ gw103) (fun _ h9 => h9) rfl dX1_onLine_101 ?_
      refine lv_iload_n hx hb dX1_onLine_104 rfl (lv_at hl 3 rfl) ?_
      obtain ⟨v105, e105, h⟩ := bnd h
      refine x_iald (v := v105) hx hb hK hP 2 0 rfl rfl e105 dX1_onLine_105 ?_
      refine lv_aload_n hx hb dX1_onLine_106 rfl (lv_at hl 0 rfl) ?_
      refine va_get (D := (dC, dI)) (ci := 0) (v := .ref (a0 2)) (C := RX1) (T := TX1) (N := 6) hx hb htg inX1 hown hK hP 0 rfl rfl 3 (by decide) (htg _ gw103) (fun _ h9 => h9) rfl dX1_onLine_107 ?_
      refine lv_iload hx hb dX1_onLine_110 (lv_at hl 4 rfl) ?_
      obtain ⟨v112, e112, h⟩ := bnd h
      refine x_iald (v := v112) hx hb hK hP 2 0 rfl rfl e112 dX1_onLine_112 ?_
      refine va_mmax hx hb (hml.trans hl.1.symm) hown (htg _ gw290) (htg _ gw291) (htg _ gw70) (htg _ gw292) (Nat.le_of_ble_eq_true rfl) (Nat.le_of_ble_eq_true rfl) (Nat.le_of_ble_eq_true rfl) (Nat.le_of_ble_eq_true rfl) dX1_onLine_113 ?_
      refine lv_icmp_gt (tgt := 163) hx hb dX1_onLine_116 (by decide) (fun c116 => ?_) (fun c116 => ?_)
      · replace h := if_t h c116
        refine lv_iconst (v := 0) hx hb dX1_onLine_163 (by decide) ?_
        obtain rfl := Option.some.inj h
        exact hE H locs 164 ls _ hP hD hS rfl (Or.inl rfl) dX1_onLine_164
      replace h := if_f h c116
      refine lv_aload_n hx hb dX1_onLine_119 rfl (lv_at hl 0 rfl) ?_
      refine va_get (D := (dC, dI)) (ci := 0) (v := .ref (a0 3)) (C := RX1) (T := TX1) (N := 6) hx hb htg inX1 hown hK hP 0 rfl rfl 4 (by decide) (htg _ gw104) (fun _ h9 => h9) rfl dX1_onLine_120 ?_
      refine lv_iload_n hx hb dX1_onLine_123 rfl (lv_at hl 3 rfl) ?_
      obtain ⟨v124, e124, h⟩ := bnd h
      refine x_iald (v := v124) hx hb hK hP 3 0 rfl rfl e124 dX1_onLine_124 ?_
      refine lv_aload_n hx hb dX1_onLine_125 rfl (lv_at hl 0 rfl) ?_
      refine va_get (D := (dC, dI)) (ci := 0) (v := .ref (a0 3)) (C := RX1) (T := TX1) (N := 6) hx hb htg inX1 hown hK hP 0 rfl rfl 4 (by decide) (htg _ gw104) (fun _ h9 => h9) rfl dX1_onLine_126 ?_
      refine lv_iload hx hb dX1_onLine_129 (lv_at hl 4 rfl) ?_
      obtain ⟨v131, e131, h⟩ := bnd h
      refine x_iald (v := v131) hx hb hK hP 3 0 rfl rfl e131 dX1_onLine_131 ?_
      refine va_mmin hx hb (hml.trans hl.1.symm) hown (htg _ gw287) (htg _ gw288) (htg _ gw70) (htg _ gw289) (Nat.le_of_ble_eq_true rfl) (Nat.le_of_ble_eq_true rfl) (Nat.le_of_ble_eq_true rfl) (Nat.le_of_ble_eq_true rfl) dX1_onLine_132 ?_
      refine lv_iload_n hx hb dX1_onLine_135 rfl (lv_at hl 2 rfl) ?_
      refine lv_icmp_gt (tgt := 163) hx hb dX1_onLine_136 (by decide) (fun c136 => ?_) (fun c136 => ?_)
      · replace h := if_t h c136
        refine lv_iconst (v := 0) hx hb dX1_onLine_163 (by decide) ?_
        obtain rfl := Option.some.inj h
        exact hE H locs 164 ls _ hP hD hS rfl (Or.inl rfl) dX1_onLine_164
      replace h := if_f h c136
      refine lv_iload_n hx hb dX1_onLine_139 rfl (lv_at hl 2 rfl) ?_
      refine lv_aload_n hx hb dX1_onLine_140 rfl (lv_at hl 0 rfl) ?_
      refine va_get (D := (dC, dI)) (ci := 0) (v := .ref (a0 3)) (C := RX1) (T := TX1) (N := 6) hx hb htg inX1 hown hK hP 0 rfl rfl 4 (by decide) (htg _ gw104) (fun _ h9 => h9) rfl dX1_onLine_141 ?_
      refine lv_iload_n hx hb dX1_onLine_144 rfl (lv_at hl 3 rfl) ?_
      obtain ⟨v145, e145, h⟩ := bnd h
      refine x_iald (v := v145) hx hb hK hP 3 0 rfl rfl e145 dX1_onLine_145 ?_
      refine lv_aload_n hx hb dX1_onLine_146 rfl (lv_at hl 0 rfl) ?_
      refine va_get (D := (dC, dI)) (ci := 0) (v := .ref (a0 3)) (C := RX1) (T := TX1) (N := 6) hx hb htg inX1 hown hK hP 0 rfl rfl 4 (by decide) (htg _ gw104) (fun _ h9 => h9) rfl dX1_onLine_147 ?_
      refine lv_iload hx hb dX1_onLine_150 (lv_at hl 4 rfl) ?_
      obtain ⟨v152, e152, h⟩ := bnd h
      refine x_iald (v := v152) hx hb hK hP 3 0 rfl rfl e152 dX1_onLine_152 ?_
      refine va_mmax hx hb (hml.trans hl.1.symm) hown (htg _ gw290) (htg _ gw291) (htg _ gw70) (htg _ gw292) (Nat.le_of_ble_eq_true rfl) (Nat.le_of_ble_eq_true rfl) (Nat.le_of_ble_eq_true rfl) (Nat.le_of_ble_eq_true rfl) dX1_onLine_153 ?_
      refine lv_icmp_gt (tgt := 163) hx hb dX1_onLine_156 (by decide) (fun c156 => ?_) (fun c156 => ?_)
      · replace h := if_t h c156
        refine lv_iconst (v := 0) hx hb dX1_onLine_163 (by decide) ?_
        obtain rfl := Option.some.inj h
        exact hE H locs 164 ls _ hP hD hS rfl (Or.inl rfl) dX1_onLine_164
      replace h := if_f h c156
      refine lv_iconst (v := 1) hx hb dX1_onLine_159 (by decide) ?_
      refine lv_goto (tgt := 164) hx hb dX1_onLine_160 (by decide) ?_
      obtain rfl := Option.some.inj h
      exact hE H locs 164 ls _ hP hD hS rfl (Or.inr rfl) dX1_onLine_164
    replace h := if_f h c74
    refine lv_iconst (v := 0) hx hb dX1_onLine_77 (by decide) ?_
    obtain rfl := Option.some.inj h
    exact hE H locs 78 ls _ hP hD hS rfl (Or.inl rfl) dX1_onLine_78
  replace h := if_f h c23
  refine lv_iconst (v := 0) hx hb dX1_onLine_26 (by decide) ?_
  obtain rfl := Option.some.inj h
  exact hE H locs 27 ls _ hP hD hS rfl (Or.inl rfl) dX1_onLine_27
def G_X1_cornerOnLine (f0 : Fig) (p1 : Int32) (p2 : Int32) (p3 : Int32) : Option (Int32) :=
  if p1 = p2 then
    some 0
  else
    if p1 = p3 then
      some 0
    else
      (G_X1_xOf f0 p1).bind fun v13 =>
      (G_X1_yOf f0 p1).bind fun v18 =>
      (G_X1_onLine f0 v13 v18 p2 p3).bind fun v23 =>
      if v23 = 0 then
        some 0
      else
        some 1
abbrev rm_X1_cornerOnLine : Room := { frames := 2, cells := 0, slots := 0, locals := 48 }
theorem hdS_X1_cornerOnLine : yX1_cornerOnLine.cls ≠ "java/lang/invoke/MethodHandle" ∧ yX1_cornerOnLine.cls ≠ "java/lang/invoke/VarHandle" ∧ (parseMethodDescriptor yX1_cornerOnLine.desc).map (fun d => d.parameters.length) = some 3 := by decide +kernel
theorem hdV_X1_cornerOnLine : yX1_cornerOnLine.cls = RX1 ∧ yX1_cornerOnLine.cls ≠ "java/lang/invoke/MethodHandle" ∧ yX1_cornerOnLine.cls ≠ "java/lang/invoke/VarHandle" ∧ (parseMethodDescriptor yX1_cornerOnLine.desc).map (fun d => d.parameters.length) = some 3 := ⟨rfl, hdS_X1_cornerOnLine⟩
set_option maxHeartbeats 4000000 in
set_option maxRecDepth 100000 in
theorem c_X1_cornerOnLine (l : Launch) (dC : Nat → ClassId) (dI : Nat → Nat → Nat) (cy : Nat → ClassId) (a0 : Nat → Nat) (f0 : Fig) (p1 : Int32) (p2 : Int32) (p3 : Int32) (res : Int32) (h : G_X1_cornerOnLine f0 p1 p2 p3 = some res) : CT l (dC, dI) (TY cy) yX1_cornerOnLine cX1_cornerOnLine 4 (some .boolean) rm_X1_cornerOnLine [.ref (a0 0), .int p1, .int p2, .int p3] (wFig a0 cy f0) (wFig a0 cy f0) (some (.int res)) := by
  refine CT.mk_z (own := RX1) ⟨by decide, rfl⟩ (Nat.le_of_ble_eq_true rfl) ?_
  intro p e s mm args below meth cd A Q hx hb hml hown htg hN hK hA hP hD hS hE ls hl
  have hl : lv_has ls 4 [(0, .ref (a0 0)), (1, .int p1), (2, .int p2), (3, .int p3)] := hl
  replace h : _ = some res := h
  unfold G_X1_cornerOnLine at h
  obtain ⟨H, hH⟩ : ∃ H, H = s.heap := ⟨_, rfl⟩
  obtain ⟨locs, hlocs⟩ : ∃ locs : List Loc, locs = [] := ⟨_, rfl⟩
  rw [← hlocs] at hS ⊢
  have hS : va_S A s.heap H locs := by rw [hH]; exact hS
  rw [← hH] at hP ⊢
  refine lv_iload_n hx hb dX1_cornerOnLine_0 rfl (lv_at hl 1 rfl) ?_
  refine lv_iload_n hx hb dX1_cornerOnLine_1 rfl (lv_at hl 2 rfl) ?_
  refine lv_icmp_eq (tgt := 33) hx hb dX1_cornerOnLine_2 (by decide) (fun c2 => ?_) (fun c2 => ?_)
  · replace h := if_t h c2
    refine lv_iconst (v := 0) hx hb dX1_cornerOnLine_33 (by decide) ?_
    obtain rfl := Option.some.inj h
    exact hE H locs 34 ls _ hP hD hS rfl (Or.inl rfl) dX1_cornerOnLine_34
  replace h := if_f h c2
  refine lv_iload_n hx hb dX1_cornerOnLine_5 rfl (lv_at hl 1 rfl) ?_
  refine lv_iload_n hx hb dX1_cornerOnLine_6 rfl (lv_at hl 3 rfl) ?_
  refine lv_icmp_eq (tgt := 33) hx hb dX1_cornerOnLine_7 (by decide) (fun c7 => ?_) (fun c7 => ?_)
  · replace h := if_t h c7
    refine lv_iconst (v := 0) hx hb dX1_cornerOnLine_33 (by decide) ?_
    obtain rfl := Option.some.inj h
    exact hE H locs 34 ls _ hP hD hS rfl (Or.inl rfl) dX1_cornerOnLine_34
  replace h := if_f h c7
  refine lv_aload_n hx hb dX1_cornerOnLine_10 rfl (lv_at hl 0 rfl) ?_
  refine lv_aload_n hx hb dX1_cornerOnLine_11 rfl (lv_at hl 0 rfl) ?_
  refine lv_iload_n hx hb dX1_cornerOnLine_12 rfl (lv_at hl 1 rfl) ?_
  obtain ⟨v13, e13, h⟩ := bnd h
  refine cV (av := [.int p1]) (rest := [.ref (a0 0)]) (st1 := [.int v13, .ref (a0 0)]) (k1 := 0) (k2 := 0) (ci := 0) (q0 := 0) hx hb hml hown htg hN hK (c_X1_xOf l dC dI cy a0 f0 p1 v13 e13) (g_V gw262 gw241 gw242 gw60 gw243) hdV_X1_xOf rfl ⟨⟨Nat.le_of_ble_eq_true rfl, Nat.le_of_ble_eq_true rfl⟩, Nat.le_of_ble_eq_true rfl, Nat.le_of_ble_eq_true rfl⟩ hP hD hS hA ⟨rfl, rfl⟩ rfl [0, 1, 2, 3, 4] [] rfl rfl rfl (by decide) (by decide) hl.1 rfl (Nat.le_of_ble_eq_true rfl) rfl rfl rfl dX1_cornerOnLine_13 (fun H locs hP hD hS => ?_)
  have hP : va_P (dC, dI) vwCl (wFig a0 cy f0) H := hP
  have hD : va_D A (wFig a0 cy f0) := hD
  refine lv_aload_n hx hb dX1_cornerOnLine_16 rfl (lv_at hl 0 rfl) ?_
  refine lv_iload_n hx hb dX1_cornerOnLine_17 rfl (lv_at hl 1 rfl) ?_
  obtain ⟨v18, e18, h⟩ := bnd h
  refine cV (av := [.int p1]) (rest := [.int v13, .ref (a0 0)]) (st1 := [.int v18, .int v13, .ref (a0 0)]) (k1 := 0) (k2 := 0) (ci := 0) (q0 := 0) hx hb hml hown htg hN hK (c_X1_yOf l dC dI cy a0 f0 p1 v18 e18) (g_V gw263 gw248 gw249 gw60 gw250) hdV_X1_yOf rfl ⟨⟨Nat.le_of_ble_eq_true rfl, Nat.le_of_ble_eq_true rfl⟩, Nat.le_of_ble_eq_true rfl, Nat.le_of_ble_eq_true rfl⟩ hP hD hS hA ⟨rfl, rfl⟩ rfl [0, 1, 2, 3, 4] [] rfl rfl rfl (by decide) (by decide) hl.1 rfl (Nat.le_of_ble_eq_true rfl) rfl rfl rfl dX1_cornerOnLine_18 (fun H locs hP hD hS => ?_)
  have hP : va_P (dC, dI) vwCl (wFig a0 cy f0) H := hP
  have hD : va_D A (wFig a0 cy f0) := hD
  refine lv_iload_n hx hb dX1_cornerOnLine_21 rfl (lv_at hl 2 rfl) ?_
  refine lv_iload_n hx hb dX1_cornerOnLine_22 rfl (lv_at hl 3 rfl) ?_
  obtain ⟨v23, e23, h⟩ := bnd h
  refine cV (av := [.int v13, .int v18, .int p2, .int p3]) (rest := []) (st1 := [.int v23]) (k1 := 0) (k2 := 0) (ci := 0) (q0 := 0) hx hb hml hown htg hN hK (c_X1_onLine l dC dI cy a0 f0 v13 v18 p2 p3 v23 e23) (g_V gw283 gw284 gw285 gw60 gw286) hdV_X1_onLine rfl ⟨⟨Nat.le_of_ble_eq_true rfl, Nat.le_of_ble_eq_true rfl⟩, Nat.le_of_ble_eq_true rfl, Nat.le_of_ble_eq_true rfl⟩ hP hD hS hA ⟨rfl, rfl⟩ rfl [0, 1, 2, 3, 4] [] rfl rfl rfl (by decide) (by decide) hl.1 rfl (Nat.le_of_ble_eq_true rfl) rfl rfl rfl dX1_cornerOnLine_23 (fun H locs hP hD hS => ?_)
  have hP : va_P (dC, dI) vwCl (wFig a0 cy f0) H := hP
  have hD : va_D A (wFig a0 cy f0) := hD
  refine lv_if_eq (tgt := 33) hx hb dX1_cornerOnLine_26 (by decide) (fun c26 => ?_) (fun c26 => ?_)
  · replace h := if_t h c26
    refine lv_iconst (v := 0) hx hb dX1_cornerOnLine_33 (by decide) ?_
    obtain rfl := Option.some.inj h
    exact hE H locs 34 ls _ hP hD hS rfl (Or.inl rfl) dX1_cornerOnLine_34
  replace h := if_f h c26
  refine lv_iconst (v := 1) hx hb dX1_cornerOnLine_29 (by decide) ?_
  refine lv_goto (tgt := 34) hx hb dX1_cornerOnLine_30 (by decide) ?_
  obtain rfl := Option.some.inj h
  exact hE H locs 34 ls _ hP hD hS rfl (Or.inr rfl) dX1_cornerOnLine_34
def G_X4_hasTouching_L18 (r2 : Int32 → Option (Int32)) (f0 : Fig) : Nat → Int32 → Int32 → Int32 → Option (Int32)
  | 0, _, _, _ => none
  | n18 + 1, l3_18, l2_18, l1_18 =>
    if f_corners f0 ≤ l3_18 then
      r2 (l1_18 + 1)
    else
      (G_X1_cornerOnLine f0 l3_18 l1_18 l2_18).bind fun v30 =>
      if v30 = 0 then
        (G_X4_hasTouching_L18 r2 f0 n18) (l3_18 + 1) l2_18 l1_18
      else
        some 1
def G_X4_hasTouching_L2  (f0 : Fig) : Nat → Int32 → Option (Int32)
  | 0, _ => none
  | n2 + 1, l1_2 =>
    if f_corners f0 ≤ l1_2 then
      some 0
    else
      (G_X1_nextOf f0 l1_2).bind fun v12 =>
      G_X4_hasTouching_L18 (G_X4_hasTouching_L2 f0 n2) f0 FU 0 v12 l1_2
def G_X4_hasTouching (f0 : Fig) : Option (Int32) :=
  G_X4_hasTouching_L2 f0 FU 0
abbrev rm_X4_hasTouching : Room := { frames := 3, cells := 0, slots := 0, locals := 71 }
theorem hdS_X4_hasTouching : yX4_hasTouching.cls ≠ "java/lang/invoke/MethodHandle" ∧ yX4_hasTouching.cls ≠ "java/lang/invoke/VarHandle" ∧ (parseMethodDescriptor yX4_hasTouching.desc).map (fun d => d.parameters.length) = some 1 := by decide +kernel
set_option maxHeartbeats 4000000 in
set_option maxRecDepth 100000 in
theorem c_X4_hasTouching (l : Launch) (dC : Nat → ClassId) (dI : Nat → Nat → Nat) (cy : Nat → ClassId) (a0 : Nat → Nat) (f0 : Fig) (res : Int32) (h : G_X4_hasTouching f0 = some res) : CT l (dC, dI) (TY cy) yX4_hasTouching cX4_hasTouching 4 (some .boolean) rm_X4_hasTouching [.ref (a0 0)] (wFig a0 cy f0) (wFig a0 cy f0) (some (.int res)) := by
  refine CT.mk_z (own := RX4) ⟨by decide, rfl⟩ (Nat.le_of_ble_eq_true rfl) ?_
  intro p e s mm args below meth cd A Q hx hb hml hown htg hN hK hA hP hD hS hE ls hl
  have hl : lv_has ls 4 [(0, .ref (a0 0))] := hl
  replace h : _ = some res := h
  unfold G_X4_hasTouching at h
  obtain ⟨H, hH⟩ : ∃ H, H = s.heap := ⟨_, rfl⟩
  obtain ⟨locs, hlocs⟩ : ∃ locs : List Loc, locs = [] := ⟨_, rfl⟩
  rw [← hlocs] at hS ⊢
  have hS : va_S A s.heap H locs := by rw [hH]; exact hS
  rw [← hH] at hP ⊢
  refine lv_iconst (v := 0) hx hb dX4_hasTouching_0 (by decide) ?_
  refine lv_istore_n (lv' := [(1, .int 0), (0, .ref (a0 0))]) hx hb dX4_hasTouching_1 rfl hl (by decide) rfl (fun ls hl => ?_)
  have hL2 : ∀ (n2 : Nat) (l1_2 : Int32) (H : Heap) (locs : List Loc) (ls : Array Slot), G_X4_hasTouching_L2 f0 n2 l1_2 = some res → va_P (dC, dI) vwCl (wFig a0 cy f0) H → va_D A (wFig a0 cy f0) → va_S A s.heap H locs → lv_has ls 4 [(1, .int l1_2), (0, .ref (a0 0))] → W p l e rm_X4_hasTouching s mm args below meth cd H locs 0 0 Q (F0 mm 2 ls []) := by
    intro n2
    induction n2 with
    | zero => intro l1_2 H locs ls h; exact absurd h (by simp [G_X4_hasTouching_L2])
    | succ n2 ih2 =>
      intro l1_2 H locs ls h hP hD hS hl
      rw [G_X4_hasTouching_L2] at h
      refine lv_iload_n hx hb dX4_hasTouching_2 rfl (lv_at hl 0 rfl) ?_
      refine lv_aload_n hx hb dX4_hasTouching_3 rfl (lv_at hl 1 rfl) ?_
      refine va_getN (D := (dC, dI)) (ci := 0) (v := .int (f_corners f0)) (C := RX1) (T := TX1) (N := 6) hx hb htg inX1 hown hK hP 0 rfl rfl 1 (by decide) (va_Nw.use rfl (hN (.fieldLinkNest RX4 27 "SquaredPaper$Figure" "corners" "I" "SquaredPaper") (by decide +kernel))) (fun _ h9 => h9) rfl dX4_hasTouching_4 ?_
      refine lv_icmp_ge (tgt := 50) hx hb dX4_hasTouching_7 (by decide) (fun c7 => ?_) (fun c7 => ?_)
      · replace h := if_t h c7
        refine lv_iconst (v := 0) hx hb dX4_hasTouching_50 (by decide) ?_
        obtain rfl := Option.some.inj h
        exact hE H locs 51 ls _ hP hD hS rfl (Or.inl rfl) dX4_hasTouching_51
      replace h := if_f h c7
      refine lv_aload_n hx hb dX4_hasTouching_10 rfl (lv_at hl 1 rfl) ?_
      refine lv_iload_n hx hb dX4_hasTouching_11 rfl (lv_at hl 0 rfl) ?_
      obtain ⟨v12, e12, h⟩ := bnd h
      refine cV (av := [.int l1_2]) (rest := []) (st1 := [.int v12]) (k1 := 0) (k2 := 0) (ci := 0) (q0 := 0) hx hb hml hown htg hN hK (c_X1_nextOf l dC dI cy a0 f0 l1_2 v12 e12) (g_V gw267 gw259 gw260 gw60 gw261) hdV_X1_nextOf rfl ⟨⟨Nat.le_of_ble_eq_true rfl, Nat.le_of_ble_eq_true rfl⟩, Nat.le_of_ble_eq_true rfl, Nat.le_of_ble_eq_true rfl⟩ hP hD hS hA ⟨rfl, rfl⟩ rfl [0, 1, 2, 3, 4] [] rfl rfl rfl (by decide) (by decide) hl.1 rfl (Nat.le_of_ble_eq_true rfl) rfl rfl rfl dX4_hasTouching_12 (fun H locs hP hD hS => ?_)
      have hP : va_P (dC, dI) vwCl (wFig a0 cy f0) H := hP
      have hD : va_D A (wFig a0 cy f0) := hD
      refine lv_istore_n (lv' := [(2, .int v12), (1, .int l1_2), (0, .ref (a0 0))]) hx hb dX4_hasTouching_15 rfl hl (by decide) rfl (fun ls hl => ?_)
      refine lv_iconst (v := 0) hx hb dX4_hasTouching_16 (by decide) ?_
      refine lv_istore_n (lv' := [(3, .int 0), (2, .int v12), (1, .int l1_2), (0, .ref (a0 0))]) hx hb dX4_hasTouching_17 rfl hl (by decide) rfl (fun ls hl => ?_)
      have hL18 : ∀ (n18 : Nat) (l3_18 : Int32) (l2_18 : Int32) (l1_18 : Int32) (H : Heap) (locs : List Loc) (ls : Array Slot), G_X4_hasTouching_L18 (G_X4_hasTouching_L2 f0 n2) f0 n18 l3_18 l2_18 l1_18 = some res → va_P (dC, dI) vwCl (wFig a0 cy f0) H → va_D A (wFig a0 cy f0) → va_S A s.heap H locs → lv_has ls 4 [(3, .int l3_18), (2, .int l2_18), (1, .int l1_18), (0, .ref (a0 0))] → W p l e rm_X4_hasTouching s mm args below meth cd H locs 0 0 Q (F0 mm 18 ls []) := by
        intro n18
        induction n18 with
        | zero => intro l3_18 l2_18 l1_18 H locs ls h; exact absurd h (by simp [G_X4_hasTouching_L18])
        | succ n18 ih18 =>
          intro l3_18 l2_18 l1_18 H locs ls h hP hD hS hl
          rw [G_X4_hasTouching_L18] at h
          refine lv_iload_n hx hb dX4_hasTouching_18 rfl (lv_at hl 0 rfl) ?_
          refine lv_aload_n hx hb dX4_hasTouching_19 rfl (lv_at hl 3 rfl) ?_
          refine va_getN (D := (dC, dI)) (ci := 0) (v := .int (f_corners f0)) (C := RX1) (T := TX1) (N := 6) hx hb htg inX1 hown hK hP 0 rfl rfl 1 (by decide) (va_Nw.use rfl (hN (.fieldLinkNest RX4 27 "SquaredPaper$Figure" "corners" "I" "SquaredPaper") (by decide +kernel))) (fun _ h9 => h9) rfl dX4_hasTouching_20 ?_
          refine lv_icmp_ge (tgt := 44) hx hb dX4_hasTouching_23 (by decide) (fun c23 => ?_) (fun c23 => ?_)
          · replace h := if_t h c23
            refine lv_iinc (v := l1_18 + 1) (lv' := [(1, .int (l1_18 + 1)), (3, .int l3_18), (2, .int l2_18), (0, .ref (a0 0))]) hx hb dX4_hasTouching_44 hl (k := 2) rfl rfl (by decide) rfl (fun ls hl => ?_)
            refine lv_goto (tgt := 2) hx hb dX4_hasTouching_47 (by decide) ?_
            exact ih2 (l1_18 + 1) H locs ls h hP hD hS (lv_sub hl [0, 3] rfl)
          replace h := if_f h c23
          refine lv_aload_n hx hb dX4_hasTouching_26 rfl (lv_at hl 3 rfl) ?_
          refine lv_iload_n hx hb dX4_hasTouching_27 rfl (lv_at hl 0 rfl) ?_
          refine lv_iload_n hx hb dX4_hasTouching_28 rfl (lv_at hl 2 rfl) ?_
          refine lv_iload_n hx hb dX4_hasTouching_29 rfl (lv_at hl 1 rfl) ?_
          obtain ⟨v30, e30, h⟩ := bnd h
          refine cV (av := [.int l3_18, .int l1_18, .int l2_18]) (rest := []) (st1 := [.int v30]) (k1 := 0) (k2 := 0) (ci := 0) (q0 := 0) hx hb hml hown htg hN hK (c_X1_cornerOnLine l dC dI cy a0 f0 l3_18 l1_18 l2_18 v30 e30) (g_V gw279 gw280 gw281 gw60 gw282) hdV_X1_cornerOnLine rfl ⟨⟨Nat.le_of_ble_eq_true rfl, Nat.le_of_ble_eq_true rfl⟩, Nat.le_of_ble_eq_true rfl, Nat.le_of_ble_eq_true rfl⟩ hP hD hS hA ⟨rfl, rfl⟩ rfl [0, 1, 2, 3, 4] [] rfl rfl rfl (by decide) (by decide) hl.1 rfl (Nat.le_of_ble_eq_true rfl) rfl rfl rfl dX4_hasTouching_30 (fun H locs hP hD hS => ?_)
          have hP : va_P (dC, dI) vwCl (wFig a0 cy f0) H := hP
          have hD : va_D A (wFig a0 cy f0) := hD
          refine lv_if_eq (tgt := 38) hx hb dX4_hasTouching_33 (by decide) (fun c33 => ?_) (fun c33 => ?_)
          · replace h := if_t h c33
            refine lv_iinc (v := l3_18 + 1) (lv' := [(3, .int (l3_18 + 1)), (2, .int l2_18), (1, .int l1_18), (0, .ref (a0 0))]) hx hb dX4_hasTouching_38 hl (k := 0) rfl rfl (by decide) rfl (fun ls hl => ?_)
            refine lv_goto (tgt := 18) hx hb dX4_hasTouching_41 (by decide) ?_
            exact ih18 (l3_18 + 1) l2_18 l1_18 H locs ls h hP hD hS (lv_sub hl [0, 1, 2, 3] rfl)
          replace h := if_f h c33
          refine lv_iconst (v := 1) hx hb dX4_hasTouching_36 (by decide) ?_
          obtain rfl := Option.some.inj h
          exact hE H locs 37 ls _ hP hD hS rfl (Or.inr rfl) dX4_hasTouching_37
      exact hL18 FU 0 v12 l1_2 H locs ls h hP hD hS (lv_sub hl [0, 1, 2, 3] rfl)
  exact hL2 FU 0 H locs ls h hP hD hS (lv_sub hl [0, 1] rfl)
def G_X1_passesRightOf (f0 : Fig) (p1 : Int32) (p2 : Int32) (p3 : Int32) : Option (Int32) :=
  if p1 < 0 then
    some 0
  else
    if f_corners f0 ≤ p1 then
      some 0
    else
      (rd 40 (f_next f0) p1).bind fun v17 =>
      if v17 < 0 then
        some 0
      else
        (rd 40 (f_next f0) p1).bind fun v26 =>
        if v26 < f_corners f0 then
          (rd 40 (f_xs f0) p1).bind fun v42 =>
          (rd 40 (f_ys f0) p1).bind fun v52 =>
          (rd 40 (f_next f0) p1).bind fun v66 =>
          (rd 40 (f_xs f0) v66).bind fun v67 =>
          (rd 40 (f_next f0) p1).bind fun v81 =>
          (rd 40 (f_ys f0) v81).bind fun v82 =>
          ((if 2 * v52 ≤ p3 then
              some 0
            else
              some 1) : Option (Int32)).bind fun b89 =>
          ((if 2 * v82 ≤ p3 then
              some 0
            else
              some 1) : Option (Int32)).bind fun b100 =>
          if b89 = b100 then
            some 0
          else
            ((if ((2 * v67) - (2 * v42)) * (p3 - (2 * v52)) ≤ (p2 - (2 * v42)) * ((2 * v82) - (2 * v52)) then
                some 0
              else
                some 1) : Option (Int32)).bind fun b133 =>
            ((if 2 * v82 ≤ 2 * v52 then
                some 0
              else
                some 1) : Option (Int32)).bind fun b145 =>
            if b133 = b145 then
              some 1
            else
              some 0
        else
          some 0
abbrev rm_X1_passesRightOf : Room := { frames := 0, cells := 0, slots := 0, locals := 0 }
theorem hdS_X1_passesRightOf : yX1_passesRightOf.cls ≠ "java/lang/invoke/MethodHandle" ∧ yX1_passesRightOf.cls ≠ "java/lang/invoke/VarHandle" ∧ (parseMethodDescriptor yX1_passesRightOf.desc).map (fun d => d.parameters.length) = some 3 := by decide +kernel
theorem hdV_X1_passesRightOf : yX1_passesRightOf.cls = RX1 ∧ yX1_passesRightOf.cls ≠ "java/lang/invoke/MethodHandle" ∧ yX1_passesRightOf.cls ≠ "java/lang/invoke/VarHandle" ∧ (parseMethodDescriptor yX1_passesRightOf.desc).map (fun d => d.parameters.length) = some 3 := ⟨rfl, hdS_X1_passesRightOf⟩
set_option maxHeartbeats 4000000 in
set_option maxRecDepth 100000 in
theorem c_X1_passesRightOf (l : Launch) (dC : Nat → ClassId) (dI : Nat → Nat → Nat) (cy : Nat → ClassId) (a0 : Nat → Nat) (f0 : Fig) (p1 : Int32) (p2 : Int32) (p3 : Int32) (res : Int32) (h : G_X1_passesRightOf f0 p1 p2 p3 = some res) : CT l (dC, dI) (TY cy) yX1_passesRightOf cX1_passesRightOf 8 (some .boolean) rm_X1_passesRightOf [.ref (a0 0), .int p1, .int p2, .int p3] (wFig a0 cy f0) (wFig a0 cy f0) (some (.int res)) := by
  refine CT.mk_z (own := RX1) ⟨by decide, rfl⟩ (Nat.le_of_ble_eq_true rfl) ?_
  intro p e s mm args below meth cd A Q hx hb hml hown htg hN hK hA hP hD hS hE ls hl
  have hl : lv_has ls 8 [(0, .ref (a0 0)), (1, .int p1), (2, .int p2), (3, .int p3)] := hl
  replace h : _ = some res := h
  unfold G_X1_passesRightOf at h
  obtain ⟨H, hH⟩ : ∃ H, H = s.heap := ⟨_, rfl⟩
  obtain ⟨locs, hlocs⟩ : ∃ locs : List Loc, locs = [] := ⟨_, rfl⟩
  rw [← hlocs] at hS ⊢
  have hS : va_S A s.heap H locs := by rw [hH]; exact hS
  rw [← hH] at hP ⊢
  refine lv_iload_n hx hb dX1_passesRightOf_0 rfl (lv_at hl 1 rfl) ?_
  refine lv_if_lt (tgt := 34) hx hb dX1_passesRightOf_1 (by decide) (fun c1 => ?_) (fun c1 => ?_)
  · replace h := if_t h c1
    refine lv_iconst (v := 0) hx hb dX1_passesRightOf_34 (by decide) ?_
    obtain rfl := Option.some.inj h
    exact hE H locs 35 ls _ hP hD hS rfl (Or.inl rfl) dX1_passesRightOf_35
  replace h := if_f h c1
  refine lv_iload_n hx hb dX1_passesRightOf_4 rfl (lv_at hl 1 rfl) ?_
  refine lv_aload_n hx hb dX1_passesRightOf_5 rfl (lv_at hl 0 rfl) ?_
  refine va_get (D := (dC, dI)) (ci := 0) (v := .int (f_corners f0)) (C := RX1) (T := TX1) (N := 6) hx hb htg inX1 hown hK hP 0 rfl rfl 1 (by decide) (htg _ gw97) (fun _ h9 => h9) rfl dX1_passesRightOf_6 ?_
  refine lv_icmp_ge (tgt := 34) hx hb dX1_passesRightOf_9 (by decide) (fun c9 => ?_) (fun c9 => ?_)
  · replace h := if_t h c9
    refine lv_iconst (v := 0) hx hb dX1_passesRightOf_34 (by decide) ?_
    obtain rfl := Option.some.inj h
    exact hE H locs 35 ls _ hP hD hS rfl (Or.inl rfl) dX1_passesRightOf_35
  replace h := if_f h c9
  refine lv_aload_n hx hb dX1_passesRightOf_12 rfl (lv_at hl 0 rfl) ?_
  refine va_get (D := (dC, dI)) (ci := 0) (v := .ref (a0 4)) (C := RX1) (T := TX1) (N := 6) hx hb htg inX1 hown hK hP 0 rfl rfl 5 (by decide) (htg _ gw105) (fun _ h9 => h9) rfl dX1_passesRightOf_13 ?_
  refine lv_iload_n hx hb dX1_passesRightOf_16 rfl (lv_at hl 1 rfl) ?_
  obtain ⟨v17, e17, h⟩ := bnd h
  refine x_iald (v := v17) hx hb hK hP 4 0 rfl rfl e17 dX1_passesRightOf_17 ?_
  refine lv_if_lt (tgt := 34) hx hb dX1_passesRightOf_18 (by decide) (fun c18 => ?_) (fun c18 => ?_)
  · replace h := if_t h c18
    refine lv_iconst (v := 0) hx hb dX1_passesRightOf_34 (by decide) ?_
    obtain rfl := Option.some.inj h
    exact hE H locs 35 ls _ hP hD hS rfl (Or.inl rfl) dX1_passesRightOf_35
  replace h := if_f h c18
  refine lv_aload_n hx hb dX1_passesRightOf_21 rfl (lv_at hl 0 rfl) ?_
  refine va_get (D := (dC, dI)) (ci := 0) (v := .ref (a0 4)) (C := RX1) (T := TX1) (N := 6) hx hb htg inX1 hown hK hP 0 rfl rfl 5 (by decide) (htg _ gw105) (fun _ h9 => h9) rfl dX1_passesRightOf_22 ?_
  refine lv_iload_n hx hb dX1_passesRightOf_25 rfl (lv_at hl 1 rfl) ?_
  obtain ⟨v26, e26, h⟩ := bnd h
  refine x_iald (v := v26) hx hb hK hP 4 0 rfl rfl e26 dX1_passesRightOf_26 ?_
  refine lv_aload_n hx hb dX1_passesRightOf_27 rfl (lv_at hl 0 rfl) ?_
  refine va_get (D := (dC, dI)) (ci := 0) (v := .int (f_corners f0)) (C := RX1) (T := TX1) (N := 6) hx hb htg inX1 hown hK hP 0 rfl rfl 1 (by decide) (htg _ gw97) (fun _ h9 => h9) rfl dX1_passesRightOf_28 ?_
  refine lv_icmp_lt (tgt := 36) hx hb dX1_passesRightOf_31 (by decide) (fun c31 => ?_) (fun c31 => ?_)
  · replace h := if_t h c31
    refine lv_iconst (v := 2) hx hb dX1_passesRightOf_36 (by decide) ?_
    refine lv_aload_n hx hb dX1_passesRightOf_37 rfl (lv_at hl 0 rfl) ?_
    refine va_get (D := (dC, dI)) (ci := 0) (v := .ref (a0 2)) (C := RX1) (T := TX1) (N := 6) hx hb htg inX1 hown hK hP 0 rfl rfl 3 (by decide) (htg _ gw103) (fun _ h9 => h9) rfl dX1_passesRightOf_38 ?_
    refine lv_iload_n hx hb dX1_passesRightOf_41 rfl (lv_at hl 1 rfl) ?_
    obtain ⟨v42, e42, h⟩ := bnd h
    refine x_iald (v := v42) hx hb hK hP 2 0 rfl rfl e42 dX1_passesRightOf_42 ?_
    refine lv_imul hx hb dX1_passesRightOf_43 ?_
    refine lv_istore (lv' := [(4, .int (2 * v42)), (0, .ref (a0 0)), (1, .int p1), (2, .int p2), (3, .int p3)]) hx hb dX1_passesRightOf_44 hl (by decide) rfl (fun ls hl => ?_)
    refine lv_iconst (v := 2) hx hb dX1_passesRightOf_46 (by decide) ?_
    refine lv_aload_n hx hb dX1_passesRightOf_47 rfl (lv_at hl 1 rfl) ?_
    refine va_get (D := (dC, dI)) (ci := 0) (v := .ref (a0 3)) (C := RX1) (T := TX1) (N := 6) hx hb htg inX1 hown hK hP 0 rfl rfl 4 (by decide) (htg _ gw104) (fun _ h9 => h9) rfl dX1_passesRightOf_48 ?_
    refine lv_iload_n hx hb dX1_passesRightOf_51 rfl (lv_at hl 2 rfl) ?_
    obtain ⟨v52, e52, h⟩ := bnd h
    refine x_iald (v := v52) hx hb hK hP 3 0 rfl rfl e52 dX1_passesRightOf_52 ?_
    refine lv_imul hx hb dX1_passesRightOf_53 ?_
    refine lv_istore (lv' := [(5, .int (2 * v52)), (4, .int (2 * v42)), (0, .ref (a0 0)), (1, .int p1), (2, .int p2), (3, .int p3)]) hx hb dX1_passesRightOf_54 hl (by decide) rfl (fun ls hl => ?_)
    refine lv_iconst (v := 2) hx hb dX1_passesRightOf_56 (by decide) ?_
    refine lv_aload_n hx hb dX1_passesRightOf_57 rfl (lv_at hl 2 rfl) ?_
    refine va_get (D := (dC, dI)) (ci := 0) (v := .ref (a0 2)) (C := RX1) (T := TX1) (N := 6) hx hb htg inX1 hown hK hP 0 rfl rfl 3 (by decide) (htg _ gw103) (fun _ h9 => h9) rfl dX1_passesRightOf_58 ?_
    refine lv_aload_n hx hb dX1_passesRightOf_61 rfl (lv_at hl 2 rfl) ?_
    refine va_get (D := (dC, dI)) (ci := 0) (v := .ref (a0 4)) (C := RX1) (T := TX1) (N := 6) hx hb htg inX1 hown hK hP 0 rfl rfl 5 (by decide) (htg _ gw105) (fun _ h9 => h9) rfl dX1_passesRightOf_62 ?_
    refine lv_iload_n hx hb dX1_passesRightOf_65 rfl (lv_at hl 3 rfl) ?_
    obtain ⟨v66, e66, h⟩ := bnd h
    refine x_iald (v := v66) hx hb hK hP 4 0 rfl rfl e66 dX1_passesRightOf_66 ?_
    obtain ⟨v67, e67, h⟩ := bnd h
    refine x_iald (v := v67) hx hb hK hP 2 0 rfl rfl e67 dX1_passesRightOf_67 ?_
    refine lv_imul hx hb dX1_passesRightOf_68 ?_
    refine lv_istore (lv' := [(6, .int (2 * v67)), (5, .int (2 * v52)), (4, .int (2 * v42)), (0, .ref (a0 0)), (1, .int p1), (2, .int p2), (3, .int p3)]) hx hb dX1_passesRightOf_69 hl (by decide) rfl (fun ls hl => ?_)
    refine lv_iconst (v := 2) hx hb dX1_passesRightOf_71 (by decide) ?_
    refine lv_aload_n hx hb dX1_passesRightOf_72 rfl (lv_at hl 3 rfl) ?_
    refine va_get (D := (dC, dI)) (ci := 0) (v := .ref (a0 3)) (C := RX1) (T := TX1) (N := 6) hx hb htg inX1 hown hK hP 0 rfl rfl 4 (by decide) (htg _ gw104) (fun _ h9 => h9) rfl dX1_passesRightOf_73 ?_
    refine lv_aload_n hx hb dX1_passesRightOf_76 rfl (lv_at hl 3 rfl) ?_
    refine va_get (D := (dC, dI)) (ci := 0) (v := .ref (a0 4)) (C := RX1) (T := TX1) (N := 6) hx hb htg inX1 hown hK hP 0 rfl rfl 5 (by decide) (htg _ gw105) (fun _ h9 => h9) rfl dX1_passesRightOf_77 ?_
    refine lv_iload_n hx hb dX1_passesRightOf_80 rfl (lv_at hl 4 rfl) ?_
    obtain ⟨v81, e81, h⟩ := bnd h
    refine x_iald (v := v81) hx hb hK hP 4 0 rfl rfl e81 dX1_passesRightOf_81 ?_
    obtain ⟨v82, e82, h⟩ := bnd h
    refine x_iald (v := v82) hx hb hK hP 3 0 rfl rfl e82 dX1_passesRightOf_82 ?_
    refine lv_imul hx hb dX1_passesRightOf_83 ?_
    refine lv_istore (lv' := [(7, .int (2 * v82)), (6, .int (2 * v67)), (5, .int (2 * v52)), (4, .int (2 * v42)), (0, .ref (a0 0)), (1, .int p1), (2, .int p2), (3, .int p3)]) hx hb dX1_passesRightOf_84 hl (by decide) rfl (fun ls hl => ?_)
    refine lv_iload hx hb dX1_passesRightOf_86 (lv_at hl 2 rfl) ?_
    refine lv_iload_n hx hb dX1_passesRightOf_88 rfl (lv_at hl 7 rfl) ?_
    obtain ⟨b89, e89, h⟩ := bnd h
    have hr97 : ∀ (H : Heap) (locs : List Loc) (ls : Array Slot), va_P (dC, dI) vwCl (wFig a0 cy f0) H → va_D A (wFig a0 cy f0) → va_S A s.heap H locs → lv_has ls 8 [(7, .int (2 * v82)), (6, .int (2 * v67)), (5, .int (2 * v52)), (4, .int (2 * v42)), (0, .ref (a0 0)), (1, .int p1), (2, .int p2), (3, .int p3)] → W p l e rm_X1_passesRightOf s mm args below meth cd H locs 0 0 Q (F0 mm 97 ls [.int b89]) := by
      intro H locs ls hP hD hS hl
      refine lv_iload hx hb dX1_passesRightOf_97 (lv_at hl 0 rfl) ?_
      refine lv_iload_n hx hb dX1_passesRightOf_99 rfl (lv_at hl 7 rfl) ?_
      obtain ⟨b100, e100, h⟩ := bnd h
      have hr108 : ∀ (H : Heap) (locs : List Loc) (ls : Array Slot), va_P (dC, dI) vwCl (wFig a0 cy f0) H → va_D A (wFig a0 cy f0) → va_S A s.heap H locs → lv_has ls 8 [(7, .int (2 * v82)), (6, .int (2 * v67)), (5, .int (2 * v52)), (4, .int (2 * v42)), (0, .ref (a0 0)), (1, .int p1), (2, .int p2), (3, .int p3)] → W p l e rm_X1_passesRightOf s mm args below meth cd H locs 0 0 Q (F0 mm 108 ls [.int b100, .int b89]) := by
        intro H locs ls hP hD hS hl
        refine lv_icmp_ne (tgt := 113) hx hb dX1_passesRightOf_108 (by decide) (fun c108 => ?_) (fun c108 => ?_)
        · replace h := if_f h c108
          refine lv_iload hx hb dX1_passesRightOf_113 (lv_at hl 1 rfl) ?_
          refine lv_iload hx hb dX1_passesRightOf_115 (lv_at hl 3 rfl) ?_
          refine lv_isub hx hb dX1_passesRightOf_117 ?_
          refine lv_iload_n hx hb dX1_passesRightOf_118 rfl (lv_at hl 7 rfl) ?_
          refine lv_iload hx hb dX1_passesRightOf_119 (lv_at hl 2 rfl) ?_
          refine lv_isub hx hb dX1_passesRightOf_121 ?_
          refine lv_imul hx hb dX1_passesRightOf_122 ?_
          refine lv_iload_n hx hb dX1_passesRightOf_123 rfl (lv_at hl 6 rfl) ?_
          refine lv_iload hx hb dX1_passesRightOf_124 (lv_at hl 3 rfl) ?_
          refine lv_isub hx hb dX1_passesRightOf_126 ?_
          refine lv_iload hx hb dX1_passesRightOf_127 (lv_at hl 0 rfl) ?_
          refine lv_iload hx hb dX1_passesRightOf_129 (lv_at hl 2 rfl) ?_
          refine lv_isub hx hb dX1_passesRightOf_131 ?_
          refine lv_imul hx hb dX1_passesRightOf_132 ?_
          obtain ⟨b133, e133, h⟩ := bnd h
          have hr141 : ∀ (H : Heap) (locs : List Loc) (ls : Array Slot), va_P (dC, dI) vwCl (wFig a0 cy f0) H → va_D A (wFig a0 cy f0) → va_S A s.heap H locs → lv_has ls 8 [(7, .int (2 * v82)), (6, .int (2 * v67)), (5, .int (2 * v52)), (4, .int (2 * v42)), (0, .ref (a0 0)), (1, .int p1), (2, .int p2), (3, .int p3)] → W p l e rm_X1_passesRightOf s mm args below meth cd H locs 0 0 Q (F0 mm 141 ls [.int b133]) := by
            intro H locs ls hP hD hS hl
            refine lv_iload hx hb dX1_passesRightOf_141 (lv_at hl 0 rfl) ?_
            refine lv_iload hx hb dX1_passesRightOf_143 (lv_at hl 2 rfl) ?_
            obtain ⟨b145, e145, h⟩ := bnd h
            have hr153 : ∀ (H : Heap) (locs : List Loc) (ls : Array Slot), va_P (dC, dI) vwCl (wFig a0 cy f0) H → va_D A (wFig a0 cy f0) → va_S A s.heap H locs → lv_has ls 8 [(7, .int (2 * v82)), (6, .int (2 * v67)), (5, .int (2 * v52)), (4, .int (2 * v42)), (0, .ref (a0 0)), (1, .int p1), (2, .int p2), (3, .int p3)] → W p l e rm_X1_passesRightOf s mm args below meth cd H locs 0 0 Q (F0 mm 153 ls [.int b145, .int b133]) := by
              intro H locs ls hP hD hS hl
              refine lv_icmp_ne (tgt := 160) hx hb dX1_passesRightOf_153 (by decide) (fun c153 => ?_) (fun c153 => ?_)
              · replace h := if_f h c153
                refine lv_iconst (v := 0) hx hb dX1_passesRightOf_160 (by decide) ?_
                obtain rfl := Option.some.inj h
                exact hE H locs 161 ls _ hP hD hS rfl (Or.inl rfl) dX1_passesRightOf_161
              replace h := if_t h c153
              refine lv_iconst (v := 1) hx hb dX1_passesRightOf_156 (by decide) ?_
              refine lv_goto (tgt := 161) hx hb dX1_passesRightOf_157 (by decide) ?_
              obtain rfl := Option.some.inj h
              exact hE H locs 161 ls _ hP hD hS rfl (Or.inr rfl) dX1_passesRightOf_161
            have h := e145
            clear e145
            refine lv_icmp_le (tgt := 152) hx hb dX1_passesRightOf_145 (by decide) (fun c145 => ?_) (fun c145 => ?_)
            · replace h := if_t h c145
              refine lv_iconst (v := 0) hx hb dX1_passesRightOf_152 (by decide) ?_
              obtain rfl := Option.some.inj h
              exact hr153 H locs ls hP hD hS hl
            replace h := if_f h c145
            refine lv_iconst (v := 1) hx hb dX1_passesRightOf_148 (by decide) ?_
            refine lv_goto (tgt := 153) hx hb dX1_passesRightOf_149 (by decide) ?_
            obtain rfl := Option.some.inj h
            exact hr153 H locs ls hP hD hS hl
          have h := e133
          clear e133
          refine lv_icmp_le (tgt := 140) hx hb dX1_passesRightOf_133 (by decide) (fun c133 => ?_) (fun c133 => ?_)
          · replace h := if_t h c133
            refine lv_iconst (v := 0) hx hb dX1_passesRightOf_140 (by decide) ?_
            obtain rfl := Option.some.inj h
            exact hr141 H locs ls hP hD hS hl
          replace h := if_f h c133
          refine lv_iconst (v := 1) hx hb dX1_passesRightOf_136 (by decide) ?_
          refine lv_goto (tgt := 141) hx hb dX1_passesRightOf_137 (by decide) ?_
          obtain rfl := Option.some.inj h
          exact hr141 H locs ls hP hD hS hl
        replace h := if_t h c108
        refine lv_iconst (v := 0) hx hb dX1_passesRightOf_111 (by decide) ?_
        obtain rfl := Option.some.inj h
        exact hE H locs 112 ls _ hP hD hS rfl (Or.inl rfl) dX1_passesRightOf_112
      have h := e100
      clear e100
      refine lv_icmp_le (tgt := 107) hx hb dX1_passesRightOf_100 (by decide) (fun c100 => ?_) (fun c100 => ?_)
      · replace h := if_t h c100
        refine lv_iconst (v := 0) hx hb dX1_passesRightOf_107 (by decide) ?_
        obtain rfl := Option.some.inj h
        exact hr108 H locs ls hP hD hS hl
      replace h := if_f h c100
      refine lv_iconst (v := 1) hx hb dX1_passesRightOf_103 (by decide) ?_
      refine lv_goto (tgt := 108) hx hb dX1_passesRightOf_104 (by decide) ?_
      obtain rfl := Option.some.inj h
      exact hr108 H locs ls hP hD hS hl
    have h := e89
    clear e89
    refine lv_icmp_le (tgt := 96) hx hb dX1_passesRightOf_89 (by decide) (fun c89 => ?_) (fun c89 => ?_)
    · replace h := if_t h c89
      refine lv_iconst (v := 0) hx hb dX1_passesRightOf_96 (by decide) ?_
      obtain rfl := Option.some.inj h
      exact hr97 H locs ls hP hD hS hl
    replace h := if_f h c89
    refine lv_iconst (v := 1) hx hb dX1_passesRightOf_92 (by decide) ?_
    refine lv_goto (tgt := 97) hx hb dX1_passesRightOf_93 (by decide) ?_
    obtain rfl := Option.some.inj h
    exact hr97 H locs ls hP hD hS hl
  replace h := if_f h c31
  refine lv_iconst (v := 0) hx hb dX1_passesRightOf_34 (by decide) ?_
  obtain rfl := Option.some.inj h
  exact hE H locs 35 ls _ hP hD hS rfl (Or.inl rfl) dX1_passesRightOf_35
def G_X1_surrounds_j54 (r24 : Int32 → Int32 → Int32 → Int32 → Int32 → Option (Int32)) (f0 : Fig) (l7_54 : Int32) (l6_54 : Int32) (l4_54 : Int32) (l2_54 : Int32) (l3_54 : Int32) : Option (Int32) :=
  r24 (l7_54 + 1) l6_54 l4_54 l2_54 l3_54
def G_X1_surrounds_L24  (f0 : Fig) : Nat → Int32 → Int32 → Int32 → Int32 → Int32 → Option (Int32)
  | 0, _, _, _, _, _ => none
  | n24 + 1, l7_24, l6_24, l4_24, l2_24, l3_24 =>
    if l6_24 ≤ l7_24 then
      (bck l4_24).bind fun v62 =>
      some v62
    else
      (G_X1_passesRightOf f0 l7_24 l2_24 l3_24).bind fun v36 =>
      if v36 = 0 then
        G_X1_surrounds_j54 (G_X1_surrounds_L24 f0 n24) f0 l7_24 l6_24 l4_24 l2_24 l3_24
      else
        ((if l4_24 = 0 then
            some 1
          else
            some 0) : Option (Int32)).bind fun b44 =>
        G_X1_surrounds_j54 (G_X1_surrounds_L24 f0 n24) f0 l7_24 l6_24 b44 l2_24 l3_24
def G_X1_surrounds (f0 : Fig) (p1 : Int32) (p2 : Int32) (p3 : Int32) : Option (Int32) :=
  (G_X1_firstOf f0 p1).bind fun v5 =>
  (G_X1_sizeOf f0 p1).bind fun v14 =>
  G_X1_surrounds_L24 f0 FU v5 (v5 + v14) 0 p2 p3
abbrev rm_X1_surrounds : Room := { frames := 1, cells := 0, slots := 0, locals := 27 }
theorem hdS_X1_surrounds : yX1_surrounds.cls ≠ "java/lang/invoke/MethodHandle" ∧ yX1_surrounds.cls ≠ "java/lang/invoke/VarHandle" ∧ (parseMethodDescriptor yX1_surrounds.desc).map (fun d => d.parameters.length) = some 3 := by decide +kernel
theorem hdV_X1_surrounds : yX1_surrounds.cls = RX1 ∧ yX1_surrounds.cls ≠ "java/lang/invoke/MethodHandle" ∧ yX1_surrounds.cls ≠ "java/lang/invoke/VarHandle" ∧ (parseMethodDescriptor yX1_surrounds.desc).map (fun d => d.parameters.length) = some 3 := ⟨rfl, hdS_X1_surrounds⟩
set_option maxHeartbeats 4000000 in
set_option maxRecDepth 100000 in
theorem c_X1_surrounds (l : Launch) (dC : Nat → ClassId) (dI : Nat → Nat → Nat) (cy : Nat → ClassId) (a0 : Nat → Nat) (f0 : Fig) (p1 : Int32) (p2 : Int32) (p3 : Int32) (res : Int32) (h : G_X1_surrounds f0 p1 p2 p3 = some res) : CT l (dC, dI) (TY cy) yX1_surrounds cX1_surrounds 8 (some .boolean) rm_X1_surrounds [.ref (a0 0), .int p1, .int p2, .int p3] (wFig a0 cy f0) (wFig a0 cy f0) (some (.int res)) := by
  refine CT.mk_z (own := RX1) ⟨by decide, rfl⟩ (Nat.le_of_ble_eq_true rfl) ?_
  intro p e s mm args below meth cd A Q hx hb hml hown htg hN hK hA hP hD hS hE ls hl
  have hl : lv_has ls 8 [(0, .ref (a0 0)), (1, .int p1), (2, .int p2), (3, .int p3)] := hl
  replace h : _ = some res := h
  unfold G_X1_surrounds at h
  obtain ⟨H, hH⟩ : ∃ H, H = s.heap := ⟨_, rfl⟩
  obtain ⟨locs, hlocs⟩ : ∃ locs : List Loc, locs = [] := ⟨_, rfl⟩
  rw [← hlocs] at hS ⊢
  have hS : va_S A s.heap H locs := by rw [hH]; exact hS
  rw [← hH] at hP ⊢
  refine lv_iconst (v := 0) hx hb dX1_surrounds_0 (by decide) ?_
  refine lv_istore (lv' := [(4, .int 0), (0, .ref (a0 0)), (1, .int p1), (2, .int p2), (3, .int p3)]) hx hb dX1_surrounds_1 hl (by decide) rfl (fun ls hl => ?_)
  refine lv_aload_n hx hb dX1_surrounds_3 rfl (lv_at hl 1 rfl) ?_
  refine lv_iload_n hx hb dX1_surrounds_4 rfl (lv_at hl 2 rfl) ?_
  obtain ⟨v5, e5, h⟩ := bnd h
  refine cV (av := [.int p1]) (rest := []) (st1 := [.int v5]) (k1 := 0) (k2 := 0) (ci := 0) (q0 := 0) hx hb hml hown htg hN hK (c_X1_firstOf l dC dI cy a0 f0 p1 v5 e5) (g_V gw180 gw181 gw182 gw60 gw183) hdV_X1_firstOf rfl ⟨⟨Nat.le_of_ble_eq_true rfl, Nat.le_of_ble_eq_true rfl⟩, Nat.le_of_ble_eq_true rfl, Nat.le_of_ble_eq_true rfl⟩ hP hD hS hA ⟨rfl, rfl⟩ rfl [0, 1, 2, 3, 4] [] rfl rfl rfl (by decide) (by decide) hl.1 rfl (Nat.le_of_ble_eq_true rfl) rfl rfl rfl dX1_surrounds_5 (fun H locs hP hD hS => ?_)
  have hP : va_P (dC, dI) vwCl (wFig a0 cy f0) H := hP
  have hD : va_D A (wFig a0 cy f0) := hD
  refine lv_istore (lv' := [(5, .int v5), (4, .int 0), (0, .ref (a0 0)), (1, .int p1), (2, .int p2), (3, .int p3)]) hx hb dX1_surrounds_8 hl (by decide) rfl (fun ls hl => ?_)
  refine lv_iload hx hb dX1_surrounds_10 (lv_at hl 0 rfl) ?_
  refine lv_aload_n hx hb dX1_surrounds_12 rfl (lv_at hl 2 rfl) ?_
  refine lv_iload_n hx hb dX1_surrounds_13 rfl (lv_at hl 3 rfl) ?_
  obtain ⟨v14, e14, h⟩ := bnd h
  refine cV (av := [.int p1]) (rest := [.int v5]) (st1 := [.int v14, .int v5]) (k1 := 0) (k2 := 0) (ci := 0) (q0 := 0) hx hb hml hown htg hN hK (c_X1_sizeOf l dC dI cy a0 f0 p1 v14 e14) (g_V gw164 gw165 gw166 gw60 gw167) hdV_X1_sizeOf rfl ⟨⟨Nat.le_of_ble_eq_true rfl, Nat.le_of_ble_eq_true rfl⟩, Nat.le_of_ble_eq_true rfl, Nat.le_of_ble_eq_true rfl⟩ hP hD hS hA ⟨rfl, rfl⟩ rfl [0, 1, 2, 3, 4] [] rfl rfl rfl (by decide) (by decide) hl.1 rfl (Nat.le_of_ble_eq_true rfl) rfl rfl rfl dX1_surrounds_14 (fun H locs hP hD hS => ?_)
  have hP : va_P (dC, dI) vwCl (wFig a0 cy f0) H := hP
  have hD : va_D A (wFig a0 cy f0) := hD
  refine lv_iadd hx hb dX1_surrounds_17 ?_
  refine lv_istore (lv' := [(6, .int (v5 + v14)), (5, .int v5), (4, .int 0), (0, .ref (a0 0)), (1, .int p1), (2, .int p2), (3, .int p3)]) hx hb dX1_surrounds_18 hl (by decide) rfl (fun ls hl => ?_)
  refine lv_iload hx hb dX1_surrounds_20 (lv_at hl 1 rfl) ?_
  refine lv_istore (lv' := [(7, .int v5), (6, .int (v5 + v14)), (5, .int v5), (4, .int 0), (0, .ref (a0 0)), (1, .int p1), (2, .int p2), (3, .int p3)]) hx hb dX1_surrounds_22 hl (by decide) rfl (fun ls hl => ?_)
  have hL24 : ∀ (n24 : Nat) (l7_24 : Int32) (l6_24 : Int32) (l4_24 : Int32) (l2_24 : Int32) (l3_24 : Int32) (H : Heap) (locs : List Loc) (ls : Array Slot), G_X1_surrounds_L24 f0 n24 l7_24 l6_24 l4_24 l2_24 l3_24 = some res → va_P (dC, dI) vwCl (wFig a0 cy f0) H → va_D A (wFig a0 cy f0) → va_S A s.heap H locs → lv_has ls 8 [(7, .int l7_24), (6, .int l6_24), (4, .int l4_24), (0, .ref (a0 0)), (2, .int l2_24), (3, .int l3_24)] → W p l e rm_X1_surrounds s mm args below meth cd H locs 0 0 Q (F0 mm 24 ls []) := by
    intro n24
    induction n24 with
    | zero => intro l7_24 l6_24 l4_24 l2_24 l3_24 H locs ls h; exact absurd h (by simp [G_X1_surrounds_L24])
    | succ n24 ih24 =>
      intro l7_24 l6_24 l4_24 l2_24 l3_24 H locs ls h hP hD hS hl
      rw [G_X1_surrounds_L24] at h
      refine lv_iload hx hb dX1_surrounds_24 (lv_at hl 0 rfl) ?_
      refine lv_iload hx hb dX1_surrounds_26 (lv_at hl 1 rfl) ?_
      refine lv_icmp_ge (tgt := 60) hx hb dX1_surrounds_28 (by decide) (fun c28 => ?_) (fun c28 => ?_)
      · replace h := if_t h c28
        refine lv_iload hx hb dX1_surrounds_60 (lv_at hl 2 rfl) ?_
        obtain ⟨v62, e62, h⟩ := bnd h
        obtain ⟨rfl, hz62⟩ := bck_in e62
        obtain rfl := Option.some.inj h
        exact hE H locs 62 ls _ hP hD hS rfl hz62 dX1_surrounds_62
      replace h := if_f h c28
      refine lv_aload_n hx hb dX1_surrounds_31 rfl (lv_at hl 3 rfl) ?_
      refine lv_iload hx hb dX1_surrounds_32 (lv_at hl 0 rfl) ?_
      refine lv_iload_n hx hb dX1_surrounds_34 rfl (lv_at hl 4 rfl) ?_
      refine lv_iload_n hx hb dX1_surrounds_35 rfl (lv_at hl 5 rfl) ?_
      obtain ⟨v36, e36, h⟩ := bnd h
      refine cV (av := [.int l7_24, .int l2_24, .int l3_24]) (rest := []) (st1 := [.int v36]) (k1 := 0) (k2 := 0) (ci := 0) (q0 := 0) hx hb hml hown htg hN hK (c_X1_passesRightOf l dC dI cy a0 f0 l7_24 l2_24 l3_24 v36 e36) (g_V gw301 gw303 gw1 gw60 gw304) hdV_X1_passesRightOf rfl ⟨⟨Nat.le_of_ble_eq_true rfl, Nat.le_of_ble_eq_true rfl⟩, Nat.le_of_ble_eq_true rfl, Nat.le_of_ble_eq_true rfl⟩ hP hD hS hA ⟨rfl, rfl⟩ rfl [0, 1, 2, 3, 4] [] rfl rfl rfl (by decide) (by decide) hl.1 rfl (Nat.le_of_ble_eq_true rfl) rfl rfl rfl dX1_surrounds_36 (fun H locs hP hD hS => ?_)
      have hP : va_P (dC, dI) vwCl (wFig a0 cy f0) H := hP
      have hD : va_D A (wFig a0 cy f0) := hD
      have hj54 : ∀ (l7_54 : Int32) (l6_54 : Int32) (l4_54 : Int32) (l2_54 : Int32) (l3_54 : Int32) (H : Heap) (locs : List Loc) (ls : Array Slot), G_X1_surrounds_j54 (G_X1_surrounds_L24 f0 n24) f0 l7_54 l6_54 l4_54 l2_54 l3_54 = some res → va_P (dC, dI) vwCl (wFig a0 cy f0) H → va_D A (wFig a0 cy f0) → va_S A s.heap H locs → lv_has ls 8 [(7, .int l7_54), (6, .int l6_54), (4, .int l4_54), (0, .ref (a0 0)), (2, .int l2_54), (3, .int l3_54)] → W p l e rm_X1_surrounds s mm args below meth cd H locs 0 0 Q (F0 mm 54 ls []) := by
        intro l7_54 l6_54 l4_54 l2_54 l3_54 H locs ls h hP hD hS hl
        unfold G_X1_surrounds_j54 at h
        refine lv_iinc (v := l7_54 + 1) (lv' := [(7, .int (l7_54 + 1)), (6, .int l6_54), (4, .int l4_54), (0, .ref (a0 0)), (2, .int l2_54), (3, .int l3_54)]) hx hb dX1_surrounds_54 hl (k := 0) rfl rfl (by decide) rfl (fun ls hl => ?_)
        refine lv_goto (tgt := 24) hx hb dX1_surrounds_57 (by decide) ?_
        exact ih24 (l7_54 + 1) l6_54 l4_54 l2_54 l3_54 H locs ls h hP hD hS (lv_sub hl [0, 1, 2, 3, 4, 5] rfl)
      refine lv_if_eq (tgt := 54) hx hb dX1_surrounds_39 (by decide) (fun c39 => ?_) (fun c39 => ?_)
      · replace h := if_t h c39
        exact hj54 l7_24 l6_24 l4_24 l2_24 l3_24 H locs ls h hP hD hS (lv_sub hl [0, 1, 2, 3, 4, 5] rfl)
      replace h := if_f h c39
      refine lv_iload hx hb dX1_surrounds_42 (lv_at hl 2 rfl) ?_
      obtain ⟨b44, e44, h⟩ := bnd h
      have hr52 : ∀ (H : Heap) (locs : List Loc) (ls : Array Slot), va_P (dC, dI) vwCl (wFig a0 cy f0) H → va_D A (wFig a0 cy f0) → va_S A s.heap H locs → lv_has ls 8 [(7, .int l7_24), (6, .int l6_24), (4, .int l4_24), (0, .ref (a0 0)), (2, .int l2_24), (3, .int l3_24)] → W p l e rm_X1_surrounds s mm args below meth cd H locs 0 0 Q (F0 mm 52 ls [.int b44]) := by
        intro H locs ls hP hD hS hl
        refine lv_istore (lv' := [(4, .int b44), (7, .int l7_24), (6, .int l6_24), (0, .ref (a0 0)), (2, .int l2_24), (3, .int l3_24)]) hx hb dX1_surrounds_52 hl (by decide) rfl (fun ls hl => ?_)
        exact hj54 l7_24 l6_24 b44 l2_24 l3_24 H locs ls h hP hD hS (lv_sub hl [1, 2, 0, 3, 4, 5] rfl)
      have h := e44
      clear e44
      refine lv_if_ne (tgt := 51) hx hb dX1_surrounds_44 (by decide) (fun c44 => ?_) (fun c44 => ?_)
      · replace h := if_f h c44
        refine lv_iconst (v := 0) hx hb dX1_surrounds_51 (by decide) ?_
        obtain rfl := Option.some.inj h
        exact hr52 H locs ls hP hD hS hl
      replace h := if_t h c44
      refine lv_iconst (v := 1) hx hb dX1_surrounds_47 (by decide) ?_
      refine lv_goto (tgt := 52) hx hb dX1_surrounds_48 (by decide) ?_
      obtain rfl := Option.some.inj h
      exact hr52 H locs ls hP hD hS hl
  exact hL24 FU v5 (v5 + v14) 0 p2 p3 H locs ls h hP hD hS (lv_sub hl [0, 1, 3, 4, 6, 7] rfl)
def G_X4_hasLostHole_j68 (r18 : Int32 → Int32 → Int32 → Option (Int32)) (f0 : Fig) (l3_68 : Int32) (l2_68 : Int32) (l1_68 : Int32) : Option (Int32) :=
  r18 (l3_68 + 1) l2_68 l1_68
def G_X4_hasLostHole_L18 (r2 : Int32 → Option (Int32)) (f0 : Fig) : Nat → Int32 → Int32 → Int32 → Option (Int32)
  | 0, _, _, _ => none
  | n18 + 1, l3_18, l2_18, l1_18 =>
    if f_rings f0 ≤ l3_18 then
      r2 (l1_18 + 1)
    else
      (G_X1_xOf f0 l2_18).bind fun v31 =>
      (G_X1_yOf f0 l2_18).bind fun v38 =>
      (G_X1_surrounds f0 l3_18 (2 * v31) (2 * v38)).bind fun v42 =>
      if l3_18 = l1_18 then
        G_X4_hasLostHole_j68 (G_X4_hasLostHole_L18 r2 f0 n18) f0 l3_18 l2_18 l1_18
      else
        ((if l3_18 = 0 then
            some 1
          else
            some 0) : Option (Int32)).bind fun b55 =>
        if v42 = b55 then
          G_X4_hasLostHole_j68 (G_X4_hasLostHole_L18 r2 f0 n18) f0 l3_18 l2_18 l1_18
        else
          some 1
def G_X4_hasLostHole_L2  (f0 : Fig) : Nat → Int32 → Option (Int32)
  | 0, _ => none
  | n2 + 1, l1_2 =>
    if f_rings f0 ≤ l1_2 then
      some 0
    else
      (G_X1_firstOf f0 l1_2).bind fun v12 =>
      G_X4_hasLostHole_L18 (G_X4_hasLostHole_L2 f0 n2) f0 FU 0 v12 l1_2
def G_X4_hasLostHole (f0 : Fig) : Option (Int32) :=
  G_X4_hasLostHole_L2 f0 FU 1
abbrev rm_X4_hasLostHole : Room := { frames := 2, cells := 0, slots := 0, locals := 54 }
theorem hdS_X4_hasLostHole : yX4_hasLostHole.cls ≠ "java/lang/invoke/MethodHandle" ∧ yX4_hasLostHole.cls ≠ "java/lang/invoke/VarHandle" ∧ (parseMethodDescriptor yX4_hasLostHole.desc).map (fun d => d.parameters.length) = some 1 := by decide +kernel
set_option maxHeartbeats 4000000 in
set_option maxRecDepth 100000 in
theorem c_X4_hasLostHole (l : Launch) (dC : Nat → ClassId) (dI : Nat → Nat → Nat) (cy : Nat → ClassId) (a0 : Nat → Nat) (f0 : Fig) (res : Int32) (h : G_X4_hasLostHole f0 = some res) : CT l (dC, dI) (TY cy) yX4_hasLostHole cX4_hasLostHole 5 (some .boolean) rm_X4_hasLostHole [.ref (a0 0)] (wFig a0 cy f0) (wFig a0 cy f0) (some (.int res)) := by
  refine CT.mk_z (own := RX4) ⟨by decide, rfl⟩ (Nat.le_of_ble_eq_true rfl) ?_
  intro p e s mm args below meth cd A Q hx hb hml hown htg hN hK hA hP hD hS hE ls hl
  have hl : lv_has ls 5 [(0, .ref (a0 0))] := hl
  replace h : _ = some res := h
  unfold G_X4_hasLostHole at h
  obtain ⟨H, hH⟩ : ∃ H, H = s.heap := ⟨_, rfl⟩
  obtain ⟨locs, hlocs⟩ : ∃ locs : List Loc, locs = [] := ⟨_, rfl⟩
  rw [← hlocs] at hS ⊢
  have hS : va_S A s.heap H locs := by rw [hH]; exact hS
  rw [← hH] at hP ⊢
  refine lv_iconst (v := 1) hx hb dX4_hasLostHole_0 (by decide) ?_
  refine lv_istore_n (lv' := [(1, .int 1), (0, .ref (a0 0))]) hx hb dX4_hasLostHole_1 rfl hl (by decide) rfl (fun ls hl => ?_)
  have hL2 : ∀ (n2 : Nat) (l1_2 : Int32) (H : Heap) (locs : List Loc) (ls : Array Slot), G_X4_hasLostHole_L2 f0 n2 l1_2 = some res → va_P (dC, dI) vwCl (wFig a0 cy f0) H → va_D A (wFig a0 cy f0) → va_S A s.heap H locs → lv_has ls 5 [(1, .int l1_2), (0, .ref (a0 0))] → W p l e rm_X4_hasLostHole s mm args below meth cd H locs 0 0 Q (F0 mm 2 ls []) := by
    intro n2
    induction n2 with
    | zero => intro l1_2 H locs ls h; exact absurd h (by simp [G_X4_hasLostHole_L2])
    | succ n2 ih2 =>
      intro l1_2 H locs ls h hP hD hS hl
      rw [G_X4_hasLostHole_L2] at h
      refine lv_iload_n hx hb dX4_hasLostHole_2 rfl (lv_at hl 0 rfl) ?_
      refine lv_aload_n hx hb dX4_hasLostHole_3 rfl (lv_at hl 1 rfl) ?_
      refine va_getN (D := (dC, dI)) (ci := 0) (v := .int (f_rings f0)) (C := RX1) (T := TX1) (N := 6) hx hb htg inX1 hown hK hP 0 rfl rfl 0 (by decide) (va_Nw.use rfl (hN (.fieldLinkNest RX4 57 "SquaredPaper$Figure" "rings" "I" "SquaredPaper") (by decide +kernel))) (fun _ h9 => h9) rfl dX4_hasLostHole_4 ?_
      refine lv_icmp_ge (tgt := 80) hx hb dX4_hasLostHole_7 (by decide) (fun c7 => ?_) (fun c7 => ?_)
      · replace h := if_t h c7
        refine lv_iconst (v := 0) hx hb dX4_hasLostHole_80 (by decide) ?_
        obtain rfl := Option.some.inj h
        exact hE H locs 81 ls _ hP hD hS rfl (Or.inl rfl) dX4_hasLostHole_81
      replace h := if_f h c7
      refine lv_aload_n hx hb dX4_hasLostHole_10 rfl (lv_at hl 1 rfl) ?_
      refine lv_iload_n hx hb dX4_hasLostHole_11 rfl (lv_at hl 0 rfl) ?_
      obtain ⟨v12, e12, h⟩ := bnd h
      refine cV (av := [.int l1_2]) (rest := []) (st1 := [.int v12]) (k1 := 0) (k2 := 0) (ci := 0) (q0 := 0) hx hb hml hown htg hN hK (c_X1_firstOf l dC dI cy a0 f0 l1_2 v12 e12) (g_V gw296 gw181 gw182 gw60 gw183) hdV_X1_firstOf rfl ⟨⟨Nat.le_of_ble_eq_true rfl, Nat.le_of_ble_eq_true rfl⟩, Nat.le_of_ble_eq_true rfl, Nat.le_of_ble_eq_true rfl⟩ hP hD hS hA ⟨rfl, rfl⟩ rfl [0, 1, 2, 3, 4] [] rfl rfl rfl (by decide) (by decide) hl.1 rfl (Nat.le_of_ble_eq_true rfl) rfl rfl rfl dX4_hasLostHole_12 (fun H locs hP hD hS => ?_)
      have hP : va_P (dC, dI) vwCl (wFig a0 cy f0) H := hP
      have hD : va_D A (wFig a0 cy f0) := hD
      refine lv_istore_n (lv' := [(2, .int v12), (1, .int l1_2), (0, .ref (a0 0))]) hx hb dX4_hasLostHole_15 rfl hl (by decide) rfl (fun ls hl => ?_)
      refine lv_iconst (v := 0) hx hb dX4_hasLostHole_16 (by decide) ?_
      refine lv_istore_n (lv' := [(3, .int 0), (2, .int v12), (1, .int l1_2), (0, .ref (a0 0))]) hx hb dX4_hasLostHole_17 rfl hl (by decide) rfl (fun ls hl => ?_)
      have hL18 : ∀ (n18 : Nat) (l3_18 : Int32) (l2_18 : Int32) (l1_18 : Int32) (H : Heap) (locs : List Loc) (ls : Array Slot), G_X4_hasLostHole_L18 (G_X4_hasLostHole_L2 f0 n2) f0 n18 l3_18 l2_18 l1_18 = some res → va_P (dC, dI) vwCl (wFig a0 cy f0) H → va_D A (wFig a0 cy f0) → va_S A s.heap H locs → lv_has ls 5 [(3, .int l3_18), (2, .int l2_18), (1, .int l1_18), (0, .ref (a0 0))] → W p l e rm_X4_hasLostHole s mm args below meth cd H locs 0 0 Q (F0 mm 18 ls []) := by
        intro n18
        induction n18 with
        | zero => intro l3_18 l2_18 l1_18 H locs ls h; exact absurd h (by simp [G_X4_hasLostHole_L18])
        | succ n18 ih18 =>
          intro l3_18 l2_18 l1_18 H locs ls h hP hD hS hl
          rw [G_X4_hasLostHole_L18] at h
          refine lv_iload_n hx hb dX4_hasLostHole_18 rfl (lv_at hl 0 rfl) ?_
          refine lv_aload_n hx hb dX4_hasLostHole_19 rfl (lv_at hl 3 rfl) ?_
          refine va_getN (D := (dC, dI)) (ci := 0) (v := .int (f_rings f0)) (C := RX1) (T := TX1) (N := 6) hx hb htg inX1 hown hK hP 0 rfl rfl 0 (by decide) (va_Nw.use rfl (hN (.fieldLinkNest RX4 57 "SquaredPaper$Figure" "rings" "I" "SquaredPaper") (by decide +kernel))) (fun _ h9 => h9) rfl dX4_hasLostHole_20 ?_
          refine lv_icmp_ge (tgt := 74) hx hb dX4_hasLostHole_23 (by decide) (fun c23 => ?_) (fun c23 => ?_)
          · replace h := if_t h c23
            refine lv_iinc (v := l1_18 + 1) (lv' := [(1, .int (l1_18 + 1)), (3, .int l3_18), (2, .int l2_18), (0, .ref (a0 0))]) hx hb dX4_hasLostHole_74 hl (k := 2) rfl rfl (by decide) rfl (fun ls hl => ?_)
            refine lv_goto (tgt := 2) hx hb dX4_hasLostHole_77 (by decide) ?_
            exact ih2 (l1_18 + 1) H locs ls h hP hD hS (lv_sub hl [0, 3] rfl)
          replace h := if_f h c23
          refine lv_aload_n hx hb dX4_hasLostHole_26 rfl (lv_at hl 3 rfl) ?_
          refine lv_iload_n hx hb dX4_hasLostHole_27 rfl (lv_at hl 0 rfl) ?_
          refine lv_iconst (v := 2) hx hb dX4_hasLostHole_28 (by decide) ?_
          refine lv_aload_n hx hb dX4_hasLostHole_29 rfl (lv_at hl 3 rfl) ?_
          refine lv_iload_n hx hb dX4_hasLostHole_30 rfl (lv_at hl 1 rfl) ?_
          obtain ⟨v31, e31, h⟩ := bnd h
          refine cV (av := [.int l2_18]) (rest := [.int 2, .int l3_18, .ref (a0 0)]) (st1 := [.int v31, .int 2, .int l3_18, .ref (a0 0)]) (k1 := 0) (k2 := 0) (ci := 0) (q0 := 0) hx hb hml hown htg hN hK (c_X1_xOf l dC dI cy a0 f0 l2_18 v31 e31) (g_V gw240 gw241 gw242 gw60 gw243) hdV_X1_xOf rfl ⟨⟨Nat.le_of_ble_eq_true rfl, Nat.le_of_ble_eq_true rfl⟩, Nat.le_of_ble_eq_true rfl, Nat.le_of_ble_eq_true rfl⟩ hP hD hS hA ⟨rfl, rfl⟩ rfl [0, 1, 2, 3, 4] [] rfl rfl rfl (by decide) (by decide) hl.1 rfl (Nat.le_of_ble_eq_true rfl) rfl rfl rfl dX4_hasLostHole_31 (fun H locs hP hD hS => ?_)
          have hP : va_P (dC, dI) vwCl (wFig a0 cy f0) H := hP
          have hD : va_D A (wFig a0 cy f0) := hD
          refine lv_imul hx hb dX4_hasLostHole_34 ?_
          refine lv_iconst (v := 2) hx hb dX4_hasLostHole_35 (by decide) ?_
          refine lv_aload_n hx hb dX4_hasLostHole_36 rfl (lv_at hl 3 rfl) ?_
          refine lv_iload_n hx hb dX4_hasLostHole_37 rfl (lv_at hl 1 rfl) ?_
          obtain ⟨v38, e38, h⟩ := bnd h
          refine cV (av := [.int l2_18]) (rest := [.int 2, .int (2 * v31), .int l3_18, .ref (a0 0)]) (st1 := [.int v38, .int 2, .int (2 * v31), .int l3_18, .ref (a0 0)]) (k1 := 0) (k2 := 0) (ci := 0) (q0 := 0) hx hb hml hown htg hN hK (c_X1_yOf l dC dI cy a0 f0 l2_18 v38 e38) (g_V gw247 gw248 gw249 gw60 gw250) hdV_X1_yOf rfl ⟨⟨Nat.le_of_ble_eq_true rfl, Nat.le_of_ble_eq_true rfl⟩, Nat.le_of_ble_eq_true rfl, Nat.le_of_ble_eq_true rfl⟩ hP hD hS hA ⟨rfl, rfl⟩ rfl [0, 1, 2, 3, 4] [] rfl rfl rfl (by decide) (by decide) hl.1 rfl (Nat.le_of_ble_eq_true rfl) rfl rfl rfl dX4_hasLostHole_38 (fun H locs hP hD hS => ?_)
          have hP : va_P (dC, dI) vwCl (wFig a0 cy f0) H := hP
          have hD : va_D A (wFig a0 cy f0) := hD
          refine lv_imul hx hb dX4_hasLostHole_41 ?_
          obtain ⟨v42, e42, h⟩ := bnd h
          refine cV (av := [.int l3_18, .int (2 * v31), .int (2 * v38)]) (rest := []) (st1 := [.int v42]) (k1 := 0) (k2 := 0) (ci := 0) (q0 := 0) hx hb hml hown htg hN hK (c_X1_surrounds l dC dI cy a0 f0 l3_18 (2 * v31) (2 * v38) v42 e42) (g_V gw297 gw298 gw299 gw60 gw300) hdV_X1_surrounds rfl ⟨⟨Nat.le_of_ble_eq_true rfl, Nat.le_of_ble_eq_true rfl⟩, Nat.le_of_ble_eq_true rfl, Nat.le_of_ble_eq_true rfl⟩ hP hD hS hA ⟨rfl, rfl⟩ rfl [0, 1, 2, 3, 4] [] rfl rfl rfl (by decide) (by decide) hl.1 rfl (Nat.le_of_ble_eq_true rfl) rfl rfl rfl dX4_hasLostHole_42 (fun H locs hP hD hS => ?_)
          have hP : va_P (dC, dI) vwCl (wFig a0 cy f0) H := hP
          have hD : va_D A (wFig a0 cy f0) := hD
          refine lv_istore (lv' := [(4, .int v42), (3, .int l3_18), (2, .int l2_18), (1, .int l1_18), (0, .ref (a0 0))]) hx hb dX4_hasLostHole_45 hl (by decide) rfl (fun ls hl => ?_)
          refine lv_iload_n hx hb dX4_hasLostHole_47 rfl (lv_at hl 1 rfl) ?_
          refine lv_iload_n hx hb dX4_hasLostHole_48 rfl (lv_at hl 3 rfl) ?_
          have hj68 : ∀ (l3_68 : Int32) (l2_68 : Int32) (l1_68 : Int32) (H : Heap) (locs : List Loc) (ls : Array Slot), G_X4_hasLostHole_j68 (G_X4_hasLostHole_L18 (G_X4_hasLostHole_L2 f0 n2) f0 n18) f0 l3_68 l2_68 l1_68 = some res → va_P (dC, dI) vwCl (wFig a0 cy f0) H → va_D A (wFig a0 cy f0) → va_S A s.heap H locs → lv_has ls 5 [(3, .int l3_68), (2, .int l2_68), (1, .int l1_68), (0, .ref (a0 0))] → W p l e rm_X4_hasLostHole s mm args below meth cd H locs 0 0 Q (F0 mm 68 ls []) := by
            intro l3_68 l2_68 l1_68 H locs ls h hP hD hS hl
            unfold G_X4_hasLostHole_j68 at h
            refine lv_iinc (v := l3_68 + 1) (lv' := [(3, .int (l3_68 + 1)), (2, .int l2_68), (1, .int l1_68), (0, .ref (a0 0))]) hx hb dX4_hasLostHole_68 hl (k := 0) rfl rfl (by decide) rfl (fun ls hl => ?_)
            refine lv_goto (tgt := 18) hx hb dX4_hasLostHole_71 (by decide) ?_
            exact ih18 (l3_68 + 1) l2_68 l1_68 H locs ls h hP hD hS (lv_sub hl [0, 1, 2, 3] rfl)
          refine lv_icmp_eq (tgt := 68) hx hb dX4_hasLostHole_49 (by decide) (fun c49 => ?_) (fun c49 => ?_)
          · replace h := if_t h c49
            exact hj68 l3_18 l2_18 l1_18 H locs ls h hP hD hS (lv_sub hl [1, 2, 3, 4] rfl)
          replace h := if_f h c49
          refine lv_iload hx hb dX4_hasLostHole_52 (lv_at hl 0 rfl) ?_
          refine lv_iload_n hx hb dX4_hasLostHole_54 rfl (lv_at hl 1 rfl) ?_
          obtain ⟨b55, e55, h⟩ := bnd h
          have hr63 : ∀ (H : Heap) (locs : List Loc) (ls : Array Slot), va_P (dC, dI) vwCl (wFig a0 cy f0) H → va_D A (wFig a0 cy f0) → va_S A s.heap H locs → lv_has ls 5 [(4, .int v42), (3, .int l3_18), (2, .int l2_18), (1, .int l1_18), (0, .ref (a0 0))] → W p l e rm_X4_hasLostHole s mm args below meth cd H locs 0 0 Q (F0 mm 63 ls [.int b55, .int v42]) := by
            intro H locs ls hP hD hS hl
            refine lv_icmp_eq (tgt := 68) hx hb dX4_hasLostHole_63 (by decide) (fun c63 => ?_) (fun c63 => ?_)
            · replace h := if_t h c63
              exact hj68 l3_18 l2_18 l1_18 H locs ls h hP hD hS (lv_sub hl [1, 2, 3, 4] rfl)
            replace h := if_f h c63
            refine lv_iconst (v := 1) hx hb dX4_hasLostHole_66 (by decide) ?_
            obtain rfl := Option.some.inj h
            exact hE H locs 67 ls _ hP hD hS rfl (Or.inr rfl) dX4_hasLostHole_67
          have h := e55
          clear e55
          refine lv_if_ne (tgt := 62) hx hb dX4_hasLostHole_55 (by decide) (fun c55 => ?_) (fun c55 => ?_)
          · replace h := if_f h c55
            refine lv_iconst (v := 0) hx hb dX4_hasLostHole_62 (by decide) ?_
            obtain rfl := Option.some.inj h
            exact hr63 H locs ls hP hD hS hl
          replace h := if_t h c55
          refine lv_iconst (v := 1) hx hb dX4_hasLostHole_58 (by decide) ?_
          refine lv_goto (tgt := 63) hx hb dX4_hasLostHole_59 (by decide) ?_
          obtain rfl := Option.some.inj h
          exact hr63 H locs ls hP hD hS hl
      exact hL18 FU 0 v12 l1_2 H locs ls h hP hD hS (lv_sub hl [0, 1, 2, 3] rfl)
  exact hL2 FU 1 H locs ls h hP hD hS (lv_sub hl [0, 1] rfl)
def G_X4_firstBroken (f0 : Fig) : Option (Int32) :=
  (G_X4_leavesPaper f0).bind fun v1 =>
  if v1 = 0 then
    (G_X4_hasEmptySide f0).bind fun v10 =>
    if v10 = 0 then
      (G_X4_hasCrossing f0).bind fun v19 =>
      if v19 = 0 then
        (G_X4_hasTouching f0).bind fun v28 =>
        if v28 = 0 then
          (G_X4_hasLostHole f0).bind fun v37 =>
          if v37 = 0 then
            some 0
          else
            some 5
        else
          some 4
      else
        some 3
    else
      some 2
  else
    some 1
abbrev rm_X4_firstBroken : Room := { frames := 4, cells := 0, slots := 0, locals := 94 }
theorem hdS_X4_firstBroken : yX4_firstBroken.cls ≠ "java/lang/invoke/MethodHandle" ∧ yX4_firstBroken.cls ≠ "java/lang/invoke/VarHandle" ∧ (parseMethodDescriptor yX4_firstBroken.desc).map (fun d => d.parameters.length) = some 1 := by decide +kernel
set_option maxHeartbeats 4000000 in
set_option maxRecDepth 100000 in
theorem c_X4_firstBroken (l : Launch) (dC : Nat → ClassId) (dI : Nat → Nat → Nat) (cy : Nat → ClassId) (a0 : Nat → Nat) (f0 : Fig) (res : Int32) (h : G_X4_firstBroken f0 = some res) : CT l (dC, dI) (TY cy) yX4_firstBroken cX4_firstBroken 1 (some .int) rm_X4_firstBroken [.ref (a0 0)] (wFig a0 cy f0) (wFig a0 cy f0) (some (.int res)) := by
  refine CT.mk_i (own := RX4) ⟨by decide, rfl⟩ (Nat.le_of_ble_eq_true rfl) ?_
  intro p e s mm args below meth cd A Q hx hb hml hown htg hN hK hA hP hD hS hE ls hl
  have hl : lv_has ls 1 [(0, .ref (a0 0))] := hl
  replace h : _ = some res := h
  unfold G_X4_firstBroken at h
  obtain ⟨H, hH⟩ : ∃ H, H = s.heap := ⟨_, rfl⟩
  obtain ⟨locs, hlocs⟩ : ∃ locs : List Loc, locs = [] := ⟨_, rfl⟩
  rw [← hlocs] at hS ⊢
  have hS : va_S A s.heap H locs := by rw [hH]; exact hS
  rw [← hH] at hP ⊢
  refine lv_aload_n hx hb dX4_firstBroken_0 rfl (lv_at hl 0 rfl) ?_
  obtain ⟨v1, e1, h⟩ := bnd h
  refine cS (av := [.ref (a0 0)]) (rest := []) (st1 := [.int v1]) (k1 := 0) (k2 := 0) hx hb hml hown htg hN hK (c_X4_leavesPaper l dC dI cy a0 f0  v1 e1) (g_S gw237 gw238 gw69 gw239) hdS_X4_leavesPaper rfl ⟨⟨Nat.le_of_ble_eq_true rfl, Nat.le_of_ble_eq_true rfl⟩, Nat.le_of_ble_eq_true rfl, Nat.le_of_ble_eq_true rfl⟩ hP hD hS hA [0, 1, 2, 3, 4] [] rfl rfl rfl (by decide) (by decide) hl.1 rfl (Nat.le_of_ble_eq_true rfl) rfl rfl rfl dX4_firstBroken_1 (fun H locs hP hD hS => ?_)
  have hP : va_P (dC, dI) vwCl (wFig a0 cy f0) H := hP
  have hD : va_D A (wFig a0 cy f0) := hD
  refine lv_if_eq (tgt := 9) hx hb dX4_firstBroken_4 (by decide) (fun c4 => ?_) (fun c4 => ?_)
  · replace h := if_t h c4
    refine lv_aload_n hx hb dX4_firstBroken_9 rfl (lv_at hl 0 rfl) ?_
    obtain ⟨v10, e10, h⟩ := bnd h
    refine cS (av := [.ref (a0 0)]) (rest := []) (st1 := [.int v10]) (k1 := 0) (k2 := 0) hx hb hml hown htg hN hK (c_X4_hasEmptySide l dC dI cy a0 f0  v10 e10) (g_S gw251 gw252 gw69 gw253) hdS_X4_hasEmptySide rfl ⟨⟨Nat.le_of_ble_eq_true rfl, Nat.le_of_ble_eq_true rfl⟩, Nat.le_of_ble_eq_true rfl, Nat.le_of_ble_eq_true rfl⟩ hP hD hS hA [0, 1, 2, 3, 4] [] rfl rfl rfl (by decide) (by decide) hl.1 rfl (Nat.le_of_ble_eq_true rfl) rfl rfl rfl dX4_firstBroken_10 (fun H locs hP hD hS => ?_)
    have hP : va_P (dC, dI) vwCl (wFig a0 cy f0) H := hP
    have hD : va_D A (wFig a0 cy f0) := hD
    refine lv_if_eq (tgt := 18) hx hb dX4_firstBroken_13 (by decide) (fun c13 => ?_) (fun c13 => ?_)
    · replace h := if_t h c13
      refine lv_aload_n hx hb dX4_firstBroken_18 rfl (lv_at hl 0 rfl) ?_
      obtain ⟨v19, e19, h⟩ := bnd h
      refine cS (av := [.ref (a0 0)]) (rest := []) (st1 := [.int v19]) (k1 := 0) (k2 := 0) hx hb hml hown htg hN hK (c_X4_hasCrossing l dC dI cy a0 f0  v19 e19) (g_S gw264 gw265 gw69 gw266) hdS_X4_hasCrossing rfl ⟨⟨Nat.le_of_ble_eq_true rfl, Nat.le_of_ble_eq_true rfl⟩, Nat.le_of_ble_eq_true rfl, Nat.le_of_ble_eq_true rfl⟩ hP hD hS hA [0, 1, 2, 3, 4] [] rfl rfl rfl (by decide) (by decide) hl.1 rfl (Nat.le_of_ble_eq_true rfl) rfl rfl rfl dX4_firstBroken_19 (fun H locs hP hD hS => ?_)
      have hP : va_P (dC, dI) vwCl (wFig a0 cy f0) H := hP
      have hD : va_D A (wFig a0 cy f0) := hD
      refine lv_if_eq (tgt := 27) hx hb dX4_firstBroken_22 (by decide) (fun c22 => ?_) (fun c22 => ?_)
      · replace h := if_t h c22
        refine lv_aload_n hx hb dX4_firstBroken_27 rfl (lv_at hl 0 rfl) ?_
        obtain ⟨v28, e28, h⟩ := bnd h
        refine cS (av := [.ref (a0 0)]) (rest := []) (st1 := [.int v28]) (k1 := 0) (k2 := 0) hx hb hml hown htg hN hK (c_X4_hasTouching l dC dI cy a0 f0  v28 e28) (g_S gw276 gw277 gw69 gw278) hdS_X4_hasTouching rfl ⟨⟨Nat.le_of_ble_eq_true rfl, Nat.le_of_ble_eq_true rfl⟩, Nat.le_of_ble_eq_true rfl, Nat.le_of_ble_eq_true rfl⟩ hP hD hS hA [0, 1, 2, 3, 4] [] rfl rfl rfl (by decide) (by decide) hl.1 rfl (Nat.le_of_ble_eq_true rfl) rfl rfl rfl dX4_firstBroken_28 (fun H locs hP hD hS => ?_)
        have hP : va_P (dC, dI) vwCl (wFig a0 cy f0) H := hP
        have hD : va_D A (wFig a0 cy f0) := hD
        refine lv_if_eq (tgt := 36) hx hb dX4_firstBroken_31 (by decide) (fun c31 => ?_) (fun c31 => ?_)
        · replace h := if_t h c31
          refine lv_aload_n hx hb dX4_firstBroken_36 rfl (lv_at hl 0 rfl) ?_
          obtain ⟨v37, e37, h⟩ := bnd h
          refine cS (av := [.ref (a0 0)]) (rest := []) (st1 := [.int v37]) (k1 := 0) (k2 := 0) hx hb hml hown htg hN hK (c_X4_hasLostHole l dC dI cy a0 f0  v37 e37) (g_S gw293 gw294 gw69 gw295) hdS_X4_hasLostHole rfl ⟨⟨Nat.le_of_ble_eq_true rfl, Nat.le_of_ble_eq_true rfl⟩, Nat.le_of_ble_eq_true rfl, Nat.le_of_ble_eq_true rfl⟩ hP hD hS hA [0, 1, 2, 3, 4] [] rfl rfl rfl (by decide) (by decide) hl.1 rfl (Nat.le_of_ble_eq_true rfl) rfl rfl rfl dX4_firstBroken_37 (fun H locs hP hD hS => ?_)
          have hP : va_P (dC, dI) vwCl (wFig a0 cy f0) H := hP
          have hD : va_D A (wFig a0 cy f0) := hD
          refine lv_if_eq (tgt := 47) hx hb dX4_firstBroken_40 (by decide) (fun c40 => ?_) (fun c40 => ?_)
          · replace h := if_t h c40
            refine lv_iconst (v := 0) hx hb dX4_firstBroken_47 (by decide) ?_
            obtain rfl := Option.some.inj h
            exact hE H locs 48 ls _ hP hD hS rfl dX4_firstBroken_48
          replace h := if_f h c40
          refine lv_iconst (v := 5) hx hb dX4_firstBroken_43 (by decide) ?_
          refine lv_goto (tgt := 48) hx hb dX4_firstBroken_44 (by decide) ?_
          obtain rfl := Option.some.inj h
          exact hE H locs 48 ls _ hP hD hS rfl dX4_firstBroken_48
        replace h := if_f h c31
        refine lv_iconst (v := 4) hx hb dX4_firstBroken_34 (by decide) ?_
        obtain rfl := Option.some.inj h
        exact hE H locs 35 ls _ hP hD hS rfl dX4_firstBroken_35
      replace h := if_f h c22
      refine lv_iconst (v := 3) hx hb dX4_firstBroken_25 (by decide) ?_
      obtain rfl := Option.some.inj h
      exact hE H locs 26 ls _ hP hD hS rfl dX4_firstBroken_26
    replace h := if_f h c13
    refine lv_iconst (v := 2) hx hb dX4_firstBroken_16 (by decide) ?_
    obtain rfl := Option.some.inj h
    exact hE H locs 17 ls _ hP hD hS rfl dX4_firstBroken_17
  replace h := if_f h c4
  refine lv_iconst (v := 1) hx hb dX4_firstBroken_7 (by decide) ?_
  obtain rfl := Option.some.inj h
  exact hE H locs 8 ls _ hP hD hS rfl dX4_firstBroken_8
def G_X0_addedCorner (f0 : Fig) (p1 : Int32) (p2 : Int32) (p3 : Int32) (p4 : Int32) : Option (Int32 × Fig) :=
  (G_X1_hasCorner f0 p1 p2).bind fun v3 =>
  if v3 = 0 then
    some (0, f0)
  else
    (G_X1_sizeOf f0 p1).bind fun v11 =>
    if v11 < 10 then
      (G_X1_putIn f0 p1 (p2 + 1) p3 p4).bind fun v29 =>
      (G_X4_firstBroken v29).bind fun v33 =>
      if v33 = 0 then
        some (1, v29)
      else
        some (0, v29)
    else
      some (0, f0)
abbrev rm_X0_addedCorner : Room := { frames := 5, cells := 0, slots := 0, locals := 114 }
theorem hdS_X0_addedCorner : yX0_addedCorner.cls ≠ "java/lang/invoke/MethodHandle" ∧ yX0_addedCorner.cls ≠ "java/lang/invoke/VarHandle" ∧ (parseMethodDescriptor yX0_addedCorner.desc).map (fun d => d.parameters.length) = some 5 := by decide +kernel
set_option maxHeartbeats 4000000 in
set_option maxRecDepth 100000 in
theorem c_X0_addedCorner (l : Launch) (dC : Nat → ClassId) (dI : Nat → Nat → Nat) (cy : Nat → ClassId) (a0 : Nat → Nat) (f0 : Fig) (p1 : Int32) (p2 : Int32) (p3 : Int32) (p4 : Int32) (res : Int32 × Fig) (h : G_X0_addedCorner f0 p1 p2 p3 p4 = some res) : CT l (dC, dI) (TY cy) yX0_addedCorner cX0_addedCorner 5 (some .boolean) rm_X0_addedCorner [.ref (a0 0), .int p1, .int p2, .int p3, .int p4] (wFig a0 cy f0) (wFig a0 cy res.2) (some (.int res.1)) := by
  refine CT.mk_z (own := RX0) ⟨by decide, rfl⟩ (Nat.le_of_ble_eq_true rfl) ?_
  intro p e s mm args below meth cd A Q hx hb hml hown htg hN hK hA hP hD hS hE ls hl
  have hl : lv_has ls 5 [(0, .ref (a0 0)), (1, .int p1), (2, .int p2), (3, .int p3), (4, .int p4)] := hl
  replace h : _ = some res := h
  unfold G_X0_addedCorner at h
  obtain ⟨H, hH⟩ : ∃ H, H = s.heap := ⟨_, rfl⟩
  obtain ⟨locs, hlocs⟩ : ∃ locs : List Loc, locs = [] := ⟨_, rfl⟩
  rw [← hlocs] at hS ⊢
  have hS : va_S A s.heap H locs := by rw [hH]; exact hS
  rw [← hH] at hP ⊢
  refine lv_aload_n hx hb dX0_addedCorner_0 rfl (lv_at hl 0 rfl) ?_
  refine lv_iload_n hx hb dX0_addedCorner_1 rfl (lv_at hl 1 rfl) ?_
  refine lv_iload_n hx hb dX0_addedCorner_2 rfl (lv_at hl 2 rfl) ?_
  obtain ⟨v3, e3, h⟩ := bnd h
  refine cV (av := [.int p1, .int p2]) (rest := []) (st1 := [.int v3]) (k1 := 0) (k2 := 0) (ci := 0) (q0 := 0) hx hb hml hown htg hN hK (c_X1_hasCorner l dC dI cy a0 f0 p1 p2 v3 e3) (g_V gw359 gw360 gw361 gw60 gw362) hdV_X1_hasCorner rfl ⟨⟨Nat.le_of_ble_eq_true rfl, Nat.le_of_ble_eq_true rfl⟩, Nat.le_of_ble_eq_true rfl, Nat.le_of_ble_eq_true rfl⟩ hP hD hS hA ⟨rfl, rfl⟩ rfl [0, 1, 2, 3, 4] [] rfl rfl rfl (by decide) (by decide) hl.1 rfl (Nat.le_of_ble_eq_true rfl) rfl rfl rfl dX0_addedCorner_3 (fun H locs hP hD hS => ?_)
  have hP : va_P (dC, dI) vwCl (wFig a0 cy f0) H := hP
  have hD : va_D A (wFig a0 cy f0) := hD
  refine lv_if_eq (tgt := 19) hx hb dX0_addedCorner_6 (by decide) (fun c6 => ?_) (fun c6 => ?_)
  · replace h := if_t h c6
    refine lv_iconst (v := 0) hx hb dX0_addedCorner_19 (by decide) ?_
    obtain rfl := Option.some.inj h
    exact hE H locs 20 ls _ hP hD hS rfl (Or.inl rfl) dX0_addedCorner_20
  replace h := if_f h c6
  refine lv_aload_n hx hb dX0_addedCorner_9 rfl (lv_at hl 0 rfl) ?_
  refine lv_iload_n hx hb dX0_addedCorner_10 rfl (lv_at hl 1 rfl) ?_
  obtain ⟨v11, e11, h⟩ := bnd h
  refine cV (av := [.int p1]) (rest := []) (st1 := [.int v11]) (k1 := 0) (k2 := 0) (ci := 0) (q0 := 0) hx hb hml hown htg hN hK (c_X1_sizeOf l dC dI cy a0 f0 p1 v11 e11) (g_V gw676 gw165 gw166 gw60 gw167) hdV_X1_sizeOf rfl ⟨⟨Nat.le_of_ble_eq_true rfl, Nat.le_of_ble_eq_true rfl⟩, Nat.le_of_ble_eq_true rfl, Nat.le_of_ble_eq_true rfl⟩ hP hD hS hA ⟨rfl, rfl⟩ rfl [0, 1, 2, 3, 4] [] rfl rfl rfl (by decide) (by decide) hl.1 rfl (Nat.le_of_ble_eq_true rfl) rfl rfl rfl dX0_addedCorner_11 (fun H locs hP hD hS => ?_)
  have hP : va_P (dC, dI) vwCl (wFig a0 cy f0) H := hP
  have hD : va_D A (wFig a0 cy f0) := hD
  refine lv_bipush (v := 10) hx hb dX0_addedCorner_14 (by decide) ?_
  refine lv_icmp_lt (tgt := 21) hx hb dX0_addedCorner_16 (by decide) (fun c16 => ?_) (fun c16 => ?_)
  · replace h := if_t h c16
    refine lv_aload_n hx hb dX0_addedCorner_21 rfl (lv_at hl 0 rfl) ?_
    refine lv_iload_n hx hb dX0_addedCorner_22 rfl (lv_at hl 1 rfl) ?_
    refine lv_iload_n hx hb dX0_addedCorner_23 rfl (lv_at hl 2 rfl) ?_
    refine lv_iconst (v := 1) hx hb dX0_addedCorner_24 (by decide) ?_
    refine lv_iadd hx hb dX0_addedCorner_25 ?_
    refine lv_iload_n hx hb dX0_addedCorner_26 rfl (lv_at hl 3 rfl) ?_
    refine lv_iload hx hb dX0_addedCorner_27 (lv_at hl 4 rfl) ?_
    obtain ⟨v29, e29, h⟩ := bnd h
    refine cV (av := [.int p1, .int (p2 + 1), .int p3, .int p4]) (rest := []) (st1 := []) (k1 := 0) (k2 := 0) (ci := 0) (q0 := 0) hx hb hml hown htg hN hK (c_X1_putIn l dC dI cy a0 f0 p1 (p2 + 1) p3 p4 v29 e29) (g_V gw677 gw169 gw170 gw60 gw171) hdV_X1_putIn rfl ⟨⟨Nat.le_of_ble_eq_true rfl, Nat.le_of_ble_eq_true rfl⟩, Nat.le_of_ble_eq_true rfl, Nat.le_of_ble_eq_true rfl⟩ hP hD hS hA ⟨rfl, rfl⟩ rfl [0, 1, 2, 3, 4] [] rfl rfl rfl (by decide) (by decide) hl.1 rfl (Nat.le_of_ble_eq_true rfl) rfl rfl rfl dX0_addedCorner_29 (fun H locs hP hD hS => ?_)
    have hP : va_P (dC, dI) vwCl (wFig a0 cy v29) H := hP
    have hD : va_D A (wFig a0 cy v29) := hD
    refine lv_aload_n hx hb dX0_addedCorner_32 rfl (lv_at hl 0 rfl) ?_
    obtain ⟨v33, e33, h⟩ := bnd h
    refine cS (av := [.ref (a0 0)]) (rest := []) (st1 := [.int v33]) (k1 := 0) (k2 := 0) hx hb hml hown htg hN hK (c_X4_firstBroken l dC dI cy a0 v29  v33 e33) (g_S gw365 gw235 gw69 gw236) hdS_X4_firstBroken rfl ⟨⟨Nat.le_of_ble_eq_true rfl, Nat.le_of_ble_eq_true rfl⟩, Nat.le_of_ble_eq_true rfl, Nat.le_of_ble_eq_true rfl⟩ hP hD hS hA [0, 1, 2, 3, 4] [] rfl rfl rfl (by decide) (by decide) hl.1 rfl (Nat.le_of_ble_eq_true rfl) rfl rfl rfl dX0_addedCorner_33 (fun H locs hP hD hS => ?_)
    have hP : va_P (dC, dI) vwCl (wFig a0 cy v29) H := hP
    have hD : va_D A (wFig a0 cy v29) := hD
    refine lv_if_ne (tgt := 43) hx hb dX0_addedCorner_36 (by decide) (fun c36 => ?_) (fun c36 => ?_)
    · replace h := if_f h c36
      refine lv_iconst (v := 0) hx hb dX0_addedCorner_43 (by decide) ?_
      obtain rfl := Option.some.inj h
      exact hE H locs 44 ls _ hP hD hS rfl (Or.inl rfl) dX0_addedCorner_44
    replace h := if_t h c36
    refine lv_iconst (v := 1) hx hb dX0_addedCorner_39 (by decide) ?_
    refine lv_goto (tgt := 44) hx hb dX0_addedCorner_40 (by decide) ?_
    obtain rfl := Option.some.inj h
    exact hE H locs 44 ls _ hP hD hS rfl (Or.inr rfl) dX0_addedCorner_44
  replace h := if_f h c16
  refine lv_iconst (v := 0) hx hb dX0_addedCorner_19 (by decide) ?_
  obtain rfl := Option.some.inj h
  exact hE H locs 20 ls _ hP hD hS rfl (Or.inl rfl) dX0_addedCorner_20
def G_X1_openRing (f0 : Fig) : Option (Fig) :=
  if 4 ≤ f_rings f0 then
    some f0
  else
    (wr 4 (f_sizes f0) (f_rings f0) 0).bind fun g17 =>
    (some (fs_sizes f0 g17)).bind fun z0_25 =>
    some (fs_rings z0_25 ((f_rings (fs_sizes f0 g17)) + 1))
abbrev rm_X1_openRing : Room := { frames := 0, cells := 0, slots := 0, locals := 0 }
theorem hdS_X1_openRing : yX1_openRing.cls ≠ "java/lang/invoke/MethodHandle" ∧ yX1_openRing.cls ≠ "java/lang/invoke/VarHandle" ∧ (parseMethodDescriptor yX1_openRing.desc).map (fun d => d.parameters.length) = some 0 := by decide +kernel
theorem hdV_X1_openRing : yX1_openRing.cls = RX1 ∧ yX1_openRing.cls ≠ "java/lang/invoke/MethodHandle" ∧ yX1_openRing.cls ≠ "java/lang/invoke/VarHandle" ∧ (parseMethodDescriptor yX1_openRing.desc).map (fun d => d.parameters.length) = some 0 := ⟨rfl, hdS_X1_openRing⟩
set_option maxHeartbeats 4000000 in
set_option maxRecDepth 100000 in
theorem c_X1_openRing (l : Launch) (dC : Nat → ClassId) (dI : Nat → Nat → Nat) (cy : Nat → ClassId) (a0 : Nat → Nat) (f0 : Fig) (res : Fig) (h : G_X1_openRing f0 = some res) : CT l (dC, dI) (TY cy) yX1_openRing cX1_openRing 1 none rm_X1_openRing [.ref (a0 0)] (wFig a0 cy f0) (wFig a0 cy res) none := by
  refine CT.mk_v (own := RX1) ⟨by decide, rfl⟩ (Nat.le_of_ble_eq_true rfl) ?_
  intro p e s mm args below meth cd A Q hx hb hml hown htg hN hK hA hP hD hS hE ls hl
  have hl : lv_has ls 1 [(0, .ref (a0 0))] := hl
  replace h : _ = some res := h
  unfold G_X1_openRing at h
  obtain ⟨H, hH⟩ : ∃ H, H = s.heap := ⟨_, rfl⟩
  obtain ⟨locs, hlocs⟩ : ∃ locs : List Loc, locs = [] := ⟨_, rfl⟩
  rw [← hlocs] at hS ⊢
  have hS : va_S A s.heap H locs := by rw [hH]; exact hS
  rw [← hH] at hP ⊢
  refine lv_aload_n hx hb dX1_openRing_0 rfl (lv_at hl 0 rfl) ?_
  refine va_get (D := (dC, dI)) (ci := 0) (v := .int (f_rings f0)) (C := RX1) (T := TX1) (N := 6) hx hb htg inX1 hown hK hP 0 rfl rfl 0 (by decide) (htg _ gw91) (fun _ h9 => h9) rfl dX1_openRing_1 ?_
  refine lv_iconst (v := 4) hx hb dX1_openRing_4 (by decide) ?_
  refine lv_icmp_ge (tgt := 28) hx hb dX1_openRing_5 (by decide) (fun c5 => ?_) (fun c5 => ?_)
  · replace h := if_t h c5
    obtain rfl := Option.some.inj h
    exact hE H locs 28 ls hP hD hS dX1_openRing_28
  replace h := if_f h c5
  refine lv_aload_n hx hb dX1_openRing_8 rfl (lv_at hl 0 rfl) ?_
  refine va_get (D := (dC, dI)) (ci := 0) (v := .ref (a0 1)) (C := RX1) (T := TX1) (N := 6) hx hb htg inX1 hown hK hP 0 rfl rfl 2 (by decide) (htg _ gw102) (fun _ h9 => h9) rfl dX1_openRing_9 ?_
  refine lv_aload_n hx hb dX1_openRing_12 rfl (lv_at hl 0 rfl) ?_
  refine va_get (D := (dC, dI)) (ci := 0) (v := .int (f_rings f0)) (C := RX1) (T := TX1) (N := 6) hx hb htg inX1 hown hK hP 0 rfl rfl 0 (by decide) (htg _ gw91) (fun _ h9 => h9) rfl dX1_openRing_13 ?_
  refine lv_iconst (v := 0) hx hb dX1_openRing_16 (by decide) ?_
  obtain ⟨g17, e17, h⟩ := bnd h
  refine x_iast (g := g17) hx hb hK hP hD hS 1 0 rfl rfl e17 dX1_openRing_17 (fun H locs hP hD hS => ?_)
  have hP : va_P (dC, dI) vwCl (wFig a0 cy (fs_sizes f0 g17)) H := hP
  have hD : va_D A (wFig a0 cy (fs_sizes f0 g17)) := hD
  refine lv_aload_n hx hb dX1_openRing_18 rfl (lv_at hl 0 rfl) ?_
  refine lv_dup hx hb dX1_openRing_19 rfl ?_
  refine va_get (D := (dC, dI)) (ci := 0) (v := .int (f_rings (fs_sizes f0 g17))) (C := RX1) (T := TX1) (N := 6) hx hb htg inX1 hown hK hP 0 rfl rfl 0 (by decide) (htg _ gw91) (fun _ h9 => h9) rfl dX1_openRing_20 ?_
  refine lv_iconst (v := 1) hx hb dX1_openRing_23 (by decide) ?_
  refine lv_iadd hx hb dX1_openRing_24 ?_
  obtain ⟨z0_25, ez0_25, h⟩ := bnd h
  replace ez0_25 := Option.some.inj ez0_25
  rw [ez0_25] at hP hD
  refine va_put (D := (dC, dI)) (ci := 0) (v := .int ((f_rings (fs_sizes f0 g17)) + 1)) (ty := .int) (C := RX1) (T := TX1) (N := 6) hx hb htg inX1 tyX1 tyX1_ok nmX1 hown hK hP hD hS 0 rfl rfl 0 (by decide) (htg _ gw91) (fun _ h9 => h9) rfl (by decide +kernel) rfl rfl (Nat.le_of_ble_eq_true rfl) dX1_openRing_25 (fun H locs hP hD hS => ?_)
  have hP : va_P (dC, dI) vwCl (wFig a0 cy (fs_rings z0_25 ((f_rings (fs_sizes f0 g17)) + 1))) H := hP
  have hD : va_D A (wFig a0 cy (fs_rings z0_25 ((f_rings (fs_sizes f0 g17)) + 1))) := hD
  obtain rfl := Option.some.inj h
  exact hE H locs 28 ls hP hD hS dX1_openRing_28
def G_X1_addCorner (f0 : Fig) (p1 : Int32) (p2 : Int32) : Option (Fig) :=
  (G_X1_sizeOf f0 ((f_rings f0) - 1)).bind fun v14 =>
  (G_X1_putIn f0 ((f_rings f0) - 1) v14 p1 p2).bind fun v19 =>
  some v19
abbrev rm_X1_addCorner : Room := { frames := 3, cells := 0, slots := 0, locals := 71 }
theorem hdS_X1_addCorner : yX1_addCorner.cls ≠ "java/lang/invoke/MethodHandle" ∧ yX1_addCorner.cls ≠ "java/lang/invoke/VarHandle" ∧ (parseMethodDescriptor yX1_addCorner.desc).map (fun d => d.parameters.length) = some 2 := by decide +kernel
theorem hdV_X1_addCorner : yX1_addCorner.cls = RX1 ∧ yX1_addCorner.cls ≠ "java/lang/invoke/MethodHandle" ∧ yX1_addCorner.cls ≠ "java/lang/invoke/VarHandle" ∧ (parseMethodDescriptor yX1_addCorner.desc).map (fun d => d.parameters.length) = some 2 := ⟨rfl, hdS_X1_addCorner⟩
set_option maxHeartbeats 4000000 in
set_option maxRecDepth 100000 in
theorem c_X1_addCorner (l : Launch) (dC : Nat → ClassId) (dI : Nat → Nat → Nat) (cy : Nat → ClassId) (a0 : Nat → Nat) (f0 : Fig) (p1 : Int32) (p2 : Int32) (res : Fig) (h : G_X1_addCorner f0 p1 p2 = some res) : CT l (dC, dI) (TY cy) yX1_addCorner cX1_addCorner 3 none rm_X1_addCorner [.ref (a0 0), .int p1, .int p2] (wFig a0 cy f0) (wFig a0 cy res) none := by
  refine CT.mk_v (own := RX1) ⟨by decide, rfl⟩ (Nat.le_of_ble_eq_true rfl) ?_
  intro p e s mm args below meth cd A Q hx hb hml hown htg hN hK hA hP hD hS hE ls hl
  have hl : lv_has ls 3 [(0, .ref (a0 0)), (1, .int p1), (2, .int p2)] := hl
  replace h : _ = some res := h
  unfold G_X1_addCorner at h
  obtain ⟨H, hH⟩ : ∃ H, H = s.heap := ⟨_, rfl⟩
  obtain ⟨locs, hlocs⟩ : ∃ locs : List Loc, locs = [] := ⟨_, rfl⟩
  rw [← hlocs] at hS ⊢
  have hS : va_S A s.heap H locs := by rw [hH]; exact hS
  rw [← hH] at hP ⊢
  refine lv_aload_n hx hb dX1_addCorner_0 rfl (lv_at hl 0 rfl) ?_
  refine lv_aload_n hx hb dX1_addCorner_1 rfl (lv_at hl 0 rfl) ?_
  refine va_get (D := (dC, dI)) (ci := 0) (v := .int (f_rings f0)) (C := RX1) (T := TX1) (N := 6) hx hb htg inX1 hown hK hP 0 rfl rfl 0 (by decide) (htg _ gw91) (fun _ h9 => h9) rfl dX1_addCorner_2 ?_
  refine lv_iconst (v := 1) hx hb dX1_addCorner_5 (by decide) ?_
  refine lv_isub hx hb dX1_addCorner_6 ?_
  refine lv_aload_n hx hb dX1_addCorner_7 rfl (lv_at hl 0 rfl) ?_
  refine lv_aload_n hx hb dX1_addCorner_8 rfl (lv_at hl 0 rfl) ?_
  refine va_get (D := (dC, dI)) (ci := 0) (v := .int (f_rings f0)) (C := RX1) (T := TX1) (N := 6) hx hb htg inX1 hown hK hP 0 rfl rfl 0 (by decide) (htg _ gw91) (fun _ h9 => h9) rfl dX1_addCorner_9 ?_
  refine lv_iconst (v := 1) hx hb dX1_addCorner_12 (by decide) ?_
  refine lv_isub hx hb dX1_addCorner_13 ?_
  obtain ⟨v14, e14, h⟩ := bnd h
  refine cV (av := [.int ((f_rings f0) - 1)]) (rest := [.int ((f_rings f0) - 1), .ref (a0 0)]) (st1 := [.int v14, .int ((f_rings f0) - 1), .ref (a0 0)]) (k1 := 0) (k2 := 0) (ci := 0) (q0 := 0) hx hb hml hown htg hN hK (c_X1_sizeOf l dC dI cy a0 f0 ((f_rings f0) - 1) v14 e14) (g_V gw164 gw165 gw166 gw60 gw167) hdV_X1_sizeOf rfl ⟨⟨Nat.le_of_ble_eq_true rfl, Nat.le_of_ble_eq_true rfl⟩, Nat.le_of_ble_eq_true rfl, Nat.le_of_ble_eq_true rfl⟩ hP hD hS hA ⟨rfl, rfl⟩ rfl [0, 1, 2, 3, 4] [] rfl rfl rfl (by decide) (by decide) hl.1 rfl (Nat.le_of_ble_eq_true rfl) rfl rfl rfl dX1_addCorner_14 (fun H locs hP hD hS => ?_)
  have hP : va_P (dC, dI) vwCl (wFig a0 cy f0) H := hP
  have hD : va_D A (wFig a0 cy f0) := hD
  refine lv_iload_n hx hb dX1_addCorner_17 rfl (lv_at hl 1 rfl) ?_
  refine lv_iload_n hx hb dX1_addCorner_18 rfl (lv_at hl 2 rfl) ?_
  obtain ⟨v19, e19, h⟩ := bnd h
  refine cV (av := [.int ((f_rings f0) - 1), .int v14, .int p1, .int p2]) (rest := []) (st1 := []) (k1 := 0) (k2 := 0) (ci := 0) (q0 := 0) hx hb hml hown htg hN hK (c_X1_putIn l dC dI cy a0 f0 ((f_rings f0) - 1) v14 p1 p2 v19 e19) (g_V gw168 gw169 gw170 gw60 gw171) hdV_X1_putIn rfl ⟨⟨Nat.le_of_ble_eq_true rfl, Nat.le_of_ble_eq_true rfl⟩, Nat.le_of_ble_eq_true rfl, Nat.le_of_ble_eq_true rfl⟩ hP hD hS hA ⟨rfl, rfl⟩ rfl [0, 1, 2, 3, 4] [] rfl rfl rfl (by decide) (by decide) hl.1 rfl (Nat.le_of_ble_eq_true rfl) rfl rfl rfl dX1_addCorner_19 (fun H locs hP hD hS => ?_)
  have hP : va_P (dC, dI) vwCl (wFig a0 cy v19) H := hP
  have hD : va_D A (wFig a0 cy v19) := hD
  obtain rfl := Option.some.inj h
  exact hE H locs 22 ls hP hD hS dX1_addCorner_22
def G_X0_addedHole (f0 : Fig) (p1 : Int32) (p2 : Int32) : Option (Int32 × Fig) :=
  if 4 ≤ f_rings f0 then
    some (0, f0)
  else
    (G_X8_inRange p1 0 14).bind fun v12 =>
    if v12 = 0 then
      some (0, f0)
    else
      (G_X8_inRange p2 0 14).bind fun v22 =>
      if v22 = 0 then
        some (0, f0)
      else
        (G_X1_openRing f0).bind fun v31 =>
        (G_X1_addCorner v31 p1 p2).bind fun v37 =>
        (G_X1_addCorner v37 (p1 + 1) p2).bind fun v45 =>
        (G_X1_addCorner v45 p1 (p2 + 1)).bind fun v53 =>
        (G_X4_firstBroken v53).bind fun v57 =>
        if v57 = 0 then
          some (1, v53)
        else
          some (0, v53)
abbrev rm_X0_addedHole : Room := { frames := 5, cells := 0, slots := 0, locals := 114 }
theorem hdS_X0_addedHole : yX0_addedHole.cls ≠ "java/lang/invoke/MethodHandle" ∧ yX0_addedHole.cls ≠ "java/lang/invoke/VarHandle" ∧ (parseMethodDescriptor yX0_addedHole.desc).map (fun d => d.parameters.length) = some 3 := by decide +kernel
set_option maxHeartbeats 4000000 in
set_option maxRecDepth 100000 in
theorem c_X0_addedHole (l : Launch) (dC : Nat → ClassId) (dI : Nat → Nat → Nat) (cy : Nat → ClassId) (a0 : Nat → Nat) (f0 : Fig) (p1 : Int32) (p2 : Int32) (res : Int32 × Fig) (h : G_X0_addedHole f0 p1 p2 = some res) : CT l (dC, dI) (TY cy) yX0_addedHole cX0_addedHole 3 (some .boolean) rm_X0_addedHole [.ref (a0 0), .int p1, .int p2] (wFig a0 cy f0) (wFig a0 cy res.2) (some (.int res.1)) := by
  refine CT.mk_z (own := RX0) ⟨by decide, rfl⟩ (Nat.le_of_ble_eq_true rfl) ?_
  intro p e s mm args below meth cd A Q hx hb hml hown htg hN hK hA hP hD hS hE ls hl
  have hl : lv_has ls 3 [(0, .ref (a0 0)), (1, .int p1), (2, .int p2)] := hl
  replace h : _ = some res := h
  unfold G_X0_addedHole at h
  obtain ⟨H, hH⟩ : ∃ H, H = s.heap := ⟨_, rfl⟩
  obtain ⟨locs, hlocs⟩ : ∃ locs : List Loc, locs = [] := ⟨_, rfl⟩
  rw [← hlocs] at hS ⊢
  have hS : va_S A s.heap H locs := by rw [hH]; exact hS
  rw [← hH] at hP ⊢
  refine lv_aload_n hx hb dX0_addedHole_0 rfl (lv_at hl 0 rfl) ?_
  refine va_getN (D := (dC, dI)) (ci := 0) (v := .int (f_rings f0)) (C := RX1) (T := TX1) (N := 6) hx hb htg inX1 hown hK hP 0 rfl rfl 0 (by decide) (va_Nw.use rfl (hN (.fieldLinkNest RX0 41 "SquaredPaper$Figure" "rings" "I" "SquaredPaper") (by decide +kernel))) (fun _ h9 => h9) rfl dX0_addedHole_1 ?_
  refine lv_iconst (v := 4) hx hb dX0_addedHole_4 (by decide) ?_
  refine lv_icmp_ge (tgt := 28) hx hb dX0_addedHole_5 (by decide) (fun c5 => ?_) (fun c5 => ?_)
  · replace h := if_t h c5
    refine lv_iconst (v := 0) hx hb dX0_addedHole_28 (by decide) ?_
    obtain rfl := Option.some.inj h
    exact hE H locs 29 ls _ hP hD hS rfl (Or.inl rfl) dX0_addedHole_29
  replace h := if_f h c5
  refine lv_iload_n hx hb dX0_addedHole_8 rfl (lv_at hl 1 rfl) ?_
  refine lv_iconst (v := 0) hx hb dX0_addedHole_9 (by decide) ?_
  refine lv_bipush (v := 14) hx hb dX0_addedHole_10 (by decide) ?_
  obtain ⟨v12, e12, h⟩ := bnd h
  refine cSN (av := [.int p1, .int 0, .int 14]) (rest := []) (st1 := [.int v12]) (k1 := 0) (k2 := 0) (host := "SquaredPaper") hx hb hml hown htg hN hK (c_X8_inRange l dC dI cy   p1 0 14 v12 e12) (by decide +kernel) ⟨gw245, gw59, g_ws (fun _ h => h) gw246⟩ hdS_X8_inRange rfl ⟨⟨Nat.le_of_ble_eq_true rfl, Nat.le_of_ble_eq_true rfl⟩, Nat.le_of_ble_eq_true rfl, Nat.le_of_ble_eq_true rfl⟩ hP hD hS hA [] [0, 1, 2, 3, 4] rfl rfl rfl (by decide) (by decide) hl.1 rfl (Nat.le_of_ble_eq_true rfl) rfl rfl rfl dX0_addedHole_12 (fun H locs hP hD hS => ?_)
  obtain ⟨hP, hD⟩ := x_perm (ws' := wFig a0 cy f0) hP hD [0, 1, 2, 3, 4] (by decide) rfl rfl
  refine lv_if_eq (tgt := 28) hx hb dX0_addedHole_15 (by decide) (fun c15 => ?_) (fun c15 => ?_)
  · replace h := if_t h c15
    refine lv_iconst (v := 0) hx hb dX0_addedHole_28 (by decide) ?_
    obtain rfl := Option.some.inj h
    exact hE H locs 29 ls _ hP hD hS rfl (Or.inl rfl) dX0_addedHole_29
  replace h := if_f h c15
  refine lv_iload_n hx hb dX0_addedHole_18 rfl (lv_at hl 2 rfl) ?_
  refine lv_iconst (v := 0) hx hb dX0_addedHole_19 (by decide) ?_
  refine lv_bipush (v := 14) hx hb dX0_addedHole_20 (by decide) ?_
  obtain ⟨v22, e22, h⟩ := bnd h
  refine cSN (av := [.int p2, .int 0, .int 14]) (rest := []) (st1 := [.int v22]) (k1 := 0) (k2 := 0) (host := "SquaredPaper") hx hb hml hown htg hN hK (c_X8_inRange l dC dI cy   p2 0 14 v22 e22) (by decide +kernel) ⟨gw245, gw59, g_ws (fun _ h => h) gw246⟩ hdS_X8_inRange rfl ⟨⟨Nat.le_of_ble_eq_true rfl, Nat.le_of_ble_eq_true rfl⟩, Nat.le_of_ble_eq_true rfl, Nat.le_of_ble_eq_true rfl⟩ hP hD hS hA [] [0, 1, 2, 3, 4] rfl rfl rfl (by decide) (by decide) hl.1 rfl (Nat.le_of_ble_eq_true rfl) rfl rfl rfl dX0_addedHole_22 (fun H locs hP hD hS => ?_)
  obtain ⟨hP, hD⟩ := x_perm (ws' := wFig a0 cy f0) hP hD [0, 1, 2, 3, 4] (by decide) rfl rfl
  refine lv_if_ne (tgt := 30) hx hb dX0_addedHole_25 (by decide) (fun c25 => ?_) (fun c25 => ?_)
  · replace h := if_f h c25
    refine lv_aload_n hx hb dX0_addedHole_30 rfl (lv_at hl 0 rfl) ?_
    obtain ⟨v31, e31, h⟩ := bnd h
    refine cV (av := []) (rest := []) (st1 := []) (k1 := 0) (k2 := 0) (ci := 0) (q0 := 0) hx hb hml hown htg hN hK (c_X1_openRing l dC dI cy a0 f0  v31 e31) (g_V gw711 gw157 gw158 gw60 gw159) hdV_X1_openRing rfl ⟨⟨Nat.le_of_ble_eq_true rfl, Nat.le_of_ble_eq_true rfl⟩, Nat.le_of_ble_eq_true rfl, Nat.le_of_ble_eq_true rfl⟩ hP hD hS hA ⟨rfl, rfl⟩ rfl [0, 1, 2, 3, 4] [] rfl rfl rfl (by decide) (by decide) hl.1 rfl (Nat.le_of_ble_eq_true rfl) rfl rfl rfl dX0_addedHole_31 (fun H locs hP hD hS => ?_)
    have hP : va_P (dC, dI) vwCl (wFig a0 cy v31) H := hP
    have hD : va_D A (wFig a0 cy v31) := hD
    refine lv_aload_n hx hb dX0_addedHole_34 rfl (lv_at hl 0 rfl) ?_
    refine lv_iload_n hx hb dX0_addedHole_35 rfl (lv_at hl 1 rfl) ?_
    refine lv_iload_n hx hb dX0_addedHole_36 rfl (lv_at hl 2 rfl) ?_
    obtain ⟨v37, e37, h⟩ := bnd h
    refine cV (av := [.int p1, .int p2]) (rest := []) (st1 := []) (k1 := 0) (k2 := 0) (ci := 0) (q0 := 0) hx hb hml hown htg hN hK (c_X1_addCorner l dC dI cy a0 v31 p1 p2 v37 e37) (g_V gw712 gw161 gw162 gw60 gw163) hdV_X1_addCorner rfl ⟨⟨Nat.le_of_ble_eq_true rfl, Nat.le_of_ble_eq_true rfl⟩, Nat.le_of_ble_eq_true rfl, Nat.le_of_ble_eq_true rfl⟩ hP hD hS hA ⟨rfl, rfl⟩ rfl [0, 1, 2, 3, 4] [] rfl rfl rfl (by decide) (by decide) hl.1 rfl (Nat.le_of_ble_eq_true rfl) rfl rfl rfl dX0_addedHole_37 (fun H locs hP hD hS => ?_)
    have hP : va_P (dC, dI) vwCl (wFig a0 cy v37) H := hP
    have hD : va_D A (wFig a0 cy v37) := hD
    refine lv_aload_n hx hb dX0_addedHole_40 rfl (lv_at hl 0 rfl) ?_
    refine lv_iload_n hx hb dX0_addedHole_41 rfl (lv_at hl 1 rfl) ?_
    refine lv_iconst (v := 1) hx hb dX0_addedHole_42 (by decide) ?_
    refine lv_iadd hx hb dX0_addedHole_43 ?_
    refine lv_iload_n hx hb dX0_addedHole_44 rfl (lv_at hl 2 rfl) ?_
    obtain ⟨v45, e45, h⟩ := bnd h
    refine cV (av := [.int (p1 + 1), .int p2]) (rest := []) (st1 := []) (k1 := 0) (k2 := 0) (ci := 0) (q0 := 0) hx hb hml hown htg hN hK (c_X1_addCorner l dC dI cy a0 v37 (p1 + 1) p2 v45 e45) (g_V gw712 gw161 gw162 gw60 gw163) hdV_X1_addCorner rfl ⟨⟨Nat.le_of_ble_eq_true rfl, Nat.le_of_ble_eq_true rfl⟩, Nat.le_of_ble_eq_true rfl, Nat.le_of_ble_eq_true rfl⟩ hP hD hS hA ⟨rfl, rfl⟩ rfl [0, 1, 2, 3, 4] [] rfl rfl rfl (by decide) (by decide) hl.1 rfl (Nat.le_of_ble_eq_true rfl) rfl rfl rfl dX0_addedHole_45 (fun H locs hP hD hS => ?_)
    have hP : va_P (dC, dI) vwCl (wFig a0 cy v45) H := hP
    have hD : va_D A (wFig a0 cy v45) := hD
    refine lv_aload_n hx hb dX0_addedHole_48 rfl (lv_at hl 0 rfl) ?_
    refine lv_iload_n hx hb dX0_addedHole_49 rfl (lv_at hl 1 rfl) ?_
    refine lv_iload_n hx hb dX0_addedHole_50 rfl (lv_at hl 2 rfl) ?_
    refine lv_iconst (v := 1) hx hb dX0_addedHole_51 (by decide) ?_
    refine lv_iadd hx hb dX0_addedHole_52 ?_
    obtain ⟨v53, e53, h⟩ := bnd h
    refine cV (av := [.int p1, .int (p2 + 1)]) (rest := []) (st1 := []) (k1 := 0) (k2 := 0) (ci := 0) (q0 := 0) hx hb hml hown htg hN hK (c_X1_addCorner l dC dI cy a0 v45 p1 (p2 + 1) v53 e53) (g_V gw712 gw161 gw162 gw60 gw163) hdV_X1_addCorner rfl ⟨⟨Nat.le_of_ble_eq_true rfl, Nat.le_of_ble_eq_true rfl⟩, Nat.le_of_ble_eq_true rfl, Nat.le_of_ble_eq_true rfl⟩ hP hD hS hA ⟨rfl, rfl⟩ rfl [0, 1, 2, 3, 4] [] rfl rfl rfl (by decide) (by decide) hl.1 rfl (Nat.le_of_ble_eq_true rfl) rfl rfl rfl dX0_addedHole_53 (fun H locs hP hD hS => ?_)
    have hP : va_P (dC, dI) vwCl (wFig a0 cy v53) H := hP
    have hD : va_D A (wFig a0 cy v53) := hD
    refine lv_aload_n hx hb dX0_addedHole_56 rfl (lv_at hl 0 rfl) ?_
    obtain ⟨v57, e57, h⟩ := bnd h
    refine cS (av := [.ref (a0 0)]) (rest := []) (st1 := [.int v57]) (k1 := 0) (k2 := 0) hx hb hml hown htg hN hK (c_X4_firstBroken l dC dI cy a0 v53  v57 e57) (g_S gw365 gw235 gw69 gw236) hdS_X4_firstBroken rfl ⟨⟨Nat.le_of_ble_eq_true rfl, Nat.le_of_ble_eq_true rfl⟩, Nat.le_of_ble_eq_true rfl, Nat.le_of_ble_eq_true rfl⟩ hP hD hS hA [0, 1, 2, 3, 4] [] rfl rfl rfl (by decide) (by decide) hl.1 rfl (Nat.le_of_ble_eq_true rfl) rfl rfl rfl dX0_addedHole_57 (fun H locs hP hD hS => ?_)
    have hP : va_P (dC, dI) vwCl (wFig a0 cy v53) H := hP
    have hD : va_D A (wFig a0 cy v53) := hD
    refine lv_if_ne (tgt := 67) hx hb dX0_addedHole_60 (by decide) (fun c60 => ?_) (fun c60 => ?_)
    · replace h := if_f h c60
      refine lv_iconst (v := 0) hx hb dX0_addedHole_67 (by decide) ?_
      obtain rfl := Option.some.inj h
      exact hE H locs 68 ls _ hP hD hS rfl (Or.inl rfl) dX0_addedHole_68
    replace h := if_t h c60
    refine lv_iconst (v := 1) hx hb dX0_addedHole_63 (by decide) ?_
    refine lv_goto (tgt := 68) hx hb dX0_addedHole_64 (by decide) ?_
    obtain rfl := Option.some.inj h
    exact hE H locs 68 ls _ hP hD hS rfl (Or.inr rfl) dX0_addedHole_68
  replace h := if_t h c25
  refine lv_iconst (v := 0) hx hb dX0_addedHole_28 (by decide) ?_
  obtain rfl := Option.some.inj h
  exact hE H locs 29 ls _ hP hD hS rfl (Or.inl rfl) dX0_addedHole_29
def G_X1_closeGap_L2   : Nat → Fig → Int32 → Int32 → Option (Fig)
  | 0, _, _, _ => none
  | n2 + 1, f0_2, l3_2, l2_2 =>
    if f_corners f0_2 ≤ l3_2 + l2_2 then
      some (fs_corners f0_2 ((f_corners f0_2) - l2_2))
    else
      (rd 40 (f_xs f0_2) (l3_2 + l2_2)).bind fun v24 =>
      (wr 40 (f_xs f0_2) l3_2 v24).bind fun g25 =>
      (rd 40 (f_ys (fs_xs f0_2 g25)) (l3_2 + l2_2)).bind fun v38 =>
      (some (fs_xs f0_2 g25)).bind fun z0_39 =>
      (wr 40 (f_ys z0_39) l3_2 v38).bind fun g39 =>
      (G_X1_closeGap_L2 n2) (fs_ys z0_39 g39) (l3_2 + 1) l2_2
def G_X1_closeGap (f0 : Fig) (p1 : Int32) (p2 : Int32) : Option (Fig) :=
  G_X1_closeGap_L2 FU f0 p1 p2
abbrev rm_X1_closeGap : Room := { frames := 0, cells := 0, slots := 0, locals := 0 }
theorem hdS_X1_closeGap : yX1_closeGap.cls ≠ "java/lang/invoke/MethodHandle" ∧ yX1_closeGap.cls ≠ "java/lang/invoke/VarHandle" ∧ (parseMethodDescriptor yX1_closeGap.desc).map (fun d => d.parameters.length) = some 2 := by decide +kernel
theorem hdV_X1_closeGap : yX1_closeGap.cls = RX1 ∧ yX1_closeGap.cls ≠ "java/lang/invoke/MethodHandle" ∧ yX1_closeGap.cls ≠ "java/lang/invoke/VarHandle" ∧ (parseMethodDescriptor yX1_closeGap.desc).map (fun d => d.parameters.length) = some 2 := ⟨rfl, hdS_X1_closeGap⟩
set_option maxHeartbeats 4000000 in
set_option maxRecDepth 100000 in
theorem c_X1_closeGap (l : Launch) (dC : Nat → ClassId) (dI : Nat → Nat → Nat) (cy : Nat → ClassId) (a0 : Nat → Nat) (f0 : Fig) (p1 : Int32) (p2 : Int32) (res : Fig) (h : G_X1_closeGap f0 p1 p2 = some res) : CT l (dC, dI) (TY cy) yX1_closeGap cX1_closeGap 4 none rm_X1_closeGap [.ref (a0 0), .int p1, .int p2] (wFig a0 cy f0) (wFig a0 cy res) none := by
  refine CT.mk_v (own := RX1) ⟨by decide, rfl⟩ (Nat.le_of_ble_eq_true rfl) ?_
  intro p e s mm args below meth cd A Q hx hb hml hown htg hN hK hA hP hD hS hE ls hl
  have hl : lv_has ls 4 [(0, .ref (a0 0)), (1, .int p1), (2, .int p2)] := hl
  replace h : _ = some res := h
  unfold G_X1_closeGap at h
  obtain ⟨H, hH⟩ : ∃ H, H = s.heap := ⟨_, rfl⟩
  obtain ⟨locs, hlocs⟩ : ∃ locs : List Loc, locs = [] := ⟨_, rfl⟩
  rw [← hlocs] at hS ⊢
  have hS : va_S A s.heap H locs := by rw [hH]; exact hS
  rw [← hH] at hP ⊢
  refine lv_iload_n hx hb dX1_closeGap_0 rfl (lv_at hl 1 rfl) ?_
  refine lv_istore_n (lv' := [(3, .int p1), (0, .ref (a0 0)), (1, .int p1), (2, .int p2)]) hx hb dX1_closeGap_1 rfl hl (by decide) rfl (fun ls hl => ?_)
  have hL2 : ∀ (n2 : Nat) (f0_2 : Fig) (l3_2 : Int32) (l2_2 : Int32) (H : Heap) (locs : List Loc) (ls : Array Slot), G_X1_closeGap_L2 n2 f0_2 l3_2 l2_2 = some res → va_P (dC, dI) vwCl (wFig a0 cy f0_2) H → va_D A (wFig a0 cy f0_2) → va_S A s.heap H locs → lv_has ls 4 [(3, .int l3_2), (0, .ref (a0 0)), (2, .int l2_2)] → W p l e rm_X1_closeGap s mm args below meth cd H locs 0 0 Q (F0 mm 2 ls []) := by
    intro n2
    induction n2 with
    | zero => intro f0_2 l3_2 l2_2 H locs ls h; exact absurd h (by simp [G_X1_closeGap_L2])
    | succ n2 ih2 =>
      intro f0_2 l3_2 l2_2 H locs ls h hP hD hS hl
      rw [G_X1_closeGap_L2] at h
      refine lv_iload_n hx hb dX1_closeGap_2 rfl (lv_at hl 0 rfl) ?_
      refine lv_iload_n hx hb dX1_closeGap_3 rfl (lv_at hl 2 rfl) ?_
      refine lv_iadd hx hb dX1_closeGap_4 ?_
      refine lv_aload_n hx hb dX1_closeGap_5 rfl (lv_at hl 1 rfl) ?_
      refine va_get (D := (dC, dI)) (ci := 0) (v := .int (f_corners f0_2)) (C := RX1) (T := TX1) (N := 6) hx hb htg inX1 hown hK hP 0 rfl rfl 1 (by decide) (htg _ gw97) (fun _ h9 => h9) rfl dX1_closeGap_6 ?_
      refine lv_icmp_ge (tgt := 46) hx hb dX1_closeGap_9 (by decide) (fun c9 => ?_) (fun c9 => ?_)
      · replace h := if_t h c9
        refine lv_aload_n hx hb dX1_closeGap_46 rfl (lv_at hl 1 rfl) ?_
        refine lv_dup hx hb dX1_closeGap_47 rfl ?_
        refine va_get (D := (dC, dI)) (ci := 0) (v := .int (f_corners f0_2)) (C := RX1) (T := TX1) (N := 6) hx hb htg inX1 hown hK hP 0 rfl rfl 1 (by decide) (htg _ gw97) (fun _ h9 => h9) rfl dX1_closeGap_48 ?_
        refine lv_iload_n hx hb dX1_closeGap_51 rfl (lv_at hl 2 rfl) ?_
        refine lv_isub hx hb dX1_closeGap_52 ?_
        refine va_put (D := (dC, dI)) (ci := 0) (v := .int ((f_corners f0_2) - l2_2)) (ty := .int) (C := RX1) (T := TX1) (N := 6) hx hb htg inX1 tyX1 tyX1_ok nmX1 hown hK hP hD hS 0 rfl rfl 1 (by decide) (htg _ gw97) (fun _ h9 => h9) rfl (by decide +kernel) rfl rfl (Nat.le_of_ble_eq_true rfl) dX1_closeGap_53 (fun H locs hP hD hS => ?_)
        have hP : va_P (dC, dI) vwCl (wFig a0 cy (fs_corners f0_2 ((f_corners f0_2) - l2_2))) H := hP
        have hD : va_D A (wFig a0 cy (fs_corners f0_2 ((f_corners f0_2) - l2_2))) := hD
        obtain rfl := Option.some.inj h
        exact hE H locs 56 ls hP hD hS dX1_closeGap_56
      replace h := if_f h c9
      refine lv_aload_n hx hb dX1_closeGap_12 rfl (lv_at hl 1 rfl) ?_
      refine va_get (D := (dC, dI)) (ci := 0) (v := .ref (a0 2)) (C := RX1) (T := TX1) (N := 6) hx hb htg inX1 hown hK hP 0 rfl rfl 3 (by decide) (htg _ gw103) (fun _ h9 => h9) rfl dX1_closeGap_13 ?_
      refine lv_iload_n hx hb dX1_closeGap_16 rfl (lv_at hl 0 rfl) ?_
      refine lv_aload_n hx hb dX1_closeGap_17 rfl (lv_at hl 1 rfl) ?_
      refine va_get (D := (dC, dI)) (ci := 0) (v := .ref (a0 2)) (C := RX1) (T := TX1) (N := 6) hx hb htg inX1 hown hK hP 0 rfl rfl 3 (by decide) (htg _ gw103) (fun _ h9 => h9) rfl dX1_closeGap_18 ?_
      refine lv_iload_n hx hb dX1_closeGap_21 rfl (lv_at hl 0 rfl) ?_
      refine lv_iload_n hx hb dX1_closeGap_22 rfl (lv_at hl 2 rfl) ?_
      refine lv_iadd hx hb dX1_closeGap_23 ?_
      obtain ⟨v24, e24, h⟩ := bnd h
      refine x_iald (v := v24) hx hb hK hP 2 0 rfl rfl e24 dX1_closeGap_24 ?_
      obtain ⟨g25, e25, h⟩ := bnd h
      refine x_iast (g := g25) hx hb hK hP hD hS 2 0 rfl rfl e25 dX1_closeGap_25 (fun H locs hP hD hS => ?_)
      have hP : va_P (dC, dI) vwCl (wFig a0 cy (fs_xs f0_2 g25)) H := hP
      have hD : va_D A (wFig a0 cy (fs_xs f0_2 g25)) := hD
      refine lv_aload_n hx hb dX1_closeGap_26 rfl (lv_at hl 1 rfl) ?_
      refine va_get (D := (dC, dI)) (ci := 0) (v := .ref (a0 3)) (C := RX1) (T := TX1) (N := 6) hx hb htg inX1 hown hK hP 0 rfl rfl 4 (by decide) (htg _ gw104) (fun _ h9 => h9) rfl dX1_closeGap_27 ?_
      refine lv_iload_n hx hb dX1_closeGap_30 rfl (lv_at hl 0 rfl) ?_
      refine lv_aload_n hx hb dX1_closeGap_31 rfl (lv_at hl 1 rfl) ?_
      refine va_get (D := (dC, dI)) (ci := 0) (v := .ref (a0 3)) (C := RX1) (T := TX1) (N := 6) hx hb htg inX1 hown hK hP 0 rfl rfl 4 (by decide) (htg _ gw104) (fun _ h9 => h9) rfl dX1_closeGap_32 ?_
      refine lv_iload_n hx hb dX1_closeGap_35 rfl (lv_at hl 0 rfl) ?_
      refine lv_iload_n hx hb dX1_closeGap_36 rfl (lv_at hl 2 rfl) ?_
      refine lv_iadd hx hb dX1_closeGap_37 ?_
      obtain ⟨v38, e38, h⟩ := bnd h
      refine x_iald (v := v38) hx hb hK hP 3 0 rfl rfl e38 dX1_closeGap_38 ?_
      obtain ⟨z0_39, ez0_39, h⟩ := bnd h
      replace ez0_39 := Option.some.inj ez0_39
      rw [ez0_39] at hP hD
      obtain ⟨g39, e39, h⟩ := bnd h
      refine x_iast (g := g39) hx hb hK hP hD hS 3 0 rfl rfl e39 dX1_closeGap_39 (fun H locs hP hD hS => ?_)
      have hP : va_P (dC, dI) vwCl (wFig a0 cy (fs_ys z0_39 g39)) H := hP
      have hD : va_D A (wFig a0 cy (fs_ys z0_39 g39)) := hD
      refine lv_iinc (v := l3_2 + 1) (lv' := [(3, .int (l3_2 + 1)), (0, .ref (a0 0)), (2, .int l2_2)]) hx hb dX1_closeGap_40 hl (k := 0) rfl rfl (by decide) rfl (fun ls hl => ?_)
      refine lv_goto (tgt := 2) hx hb dX1_closeGap_43 (by decide) ?_
      exact ih2 (fs_ys z0_39 g39) (l3_2 + 1) l2_2 H locs ls h hP hD hS (lv_sub hl [0, 1, 2] rfl)
  exact hL2 FU f0 p1 p2 H locs ls h hP hD hS (lv_sub hl [0, 1, 3] rfl)
def G_X1_takeOut (f0 : Fig) (p1 : Int32) (p2 : Int32) : Option (Fig) :=
  (G_X1_hasCorner f0 p1 p2).bind fun v3 =>
  if v3 = 0 then
    some f0
  else
    (G_X1_at f0 p1 p2).bind fun v14 =>
    (G_X1_closeGap f0 v14 1).bind fun v18 =>
    (rd 4 (f_sizes v18) p1).bind fun v27 =>
    (wr 4 (f_sizes v18) p1 (v27 - 1)).bind fun g30 =>
    (G_X1_relink (fs_sizes v18 g30)).bind fun v32 =>
    some v32
abbrev rm_X1_takeOut : Room := { frames := 2, cells := 0, slots := 0, locals := 45 }
theorem hdS_X1_takeOut : yX1_takeOut.cls ≠ "java/lang/invoke/MethodHandle" ∧ yX1_takeOut.cls ≠ "java/lang/invoke/VarHandle" ∧ (parseMethodDescriptor yX1_takeOut.desc).map (fun d => d.parameters.length) = some 2 := by decide +kernel
theorem hdV_X1_takeOut : yX1_takeOut.cls = RX1 ∧ yX1_takeOut.cls ≠ "java/lang/invoke/MethodHandle" ∧ yX1_takeOut.cls ≠ "java/lang/invoke/VarHandle" ∧ (parseMethodDescriptor yX1_takeOut.desc).map (fun d => d.parameters.length) = some 2 := ⟨rfl, hdS_X1_takeOut⟩
set_option maxHeartbeats 4000000 in
set_option maxRecDepth 100000 in
theorem c_X1_takeOut (l : Launch) (dC : Nat → ClassId) (dI : Nat → Nat → Nat) (cy : Nat → ClassId) (a0 : Nat → Nat) (f0 : Fig) (p1 : Int32) (p2 : Int32) (res : Fig) (h : G_X1_takeOut f0 p1 p2 = some res) : CT l (dC, dI) (TY cy) yX1_takeOut cX1_takeOut 3 none rm_X1_takeOut [.ref (a0 0), .int p1, .int p2] (wFig a0 cy f0) (wFig a0 cy res) none := by
  refine CT.mk_v (own := RX1) ⟨by decide, rfl⟩ (Nat.le_of_ble_eq_true rfl) ?_
  intro p e s mm args below meth cd A Q hx hb hml hown htg hN hK hA hP hD hS hE ls hl
  have hl : lv_has ls 3 [(0, .ref (a0 0)), (1, .int p1), (2, .int p2)] := hl
  replace h : _ = some res := h
  unfold G_X1_takeOut at h
  obtain ⟨H, hH⟩ : ∃ H, H = s.heap := ⟨_, rfl⟩
  obtain ⟨locs, hlocs⟩ : ∃ locs : List Loc, locs = [] := ⟨_, rfl⟩
  rw [← hlocs] at hS ⊢
  have hS : va_S A s.heap H locs := by rw [hH]; exact hS
  rw [← hH] at hP ⊢
  refine lv_aload_n hx hb dX1_takeOut_0 rfl (lv_at hl 0 rfl) ?_
  refine lv_iload_n hx hb dX1_takeOut_1 rfl (lv_at hl 1 rfl) ?_
  refine lv_iload_n hx hb dX1_takeOut_2 rfl (lv_at hl 2 rfl) ?_
  obtain ⟨v3, e3, h⟩ := bnd h
  refine cV (av := [.int p1, .int p2]) (rest := []) (st1 := [.int v3]) (k1 := 0) (k2 := 0) (ci := 0) (q0 := 0) hx hb hml hown htg hN hK (c_X1_hasCorner l dC dI cy a0 f0 p1 p2 v3 e3) (g_V gw693 gw360 gw361 gw60 gw362) hdV_X1_hasCorner rfl ⟨⟨Nat.le_of_ble_eq_true rfl, Nat.le_of_ble_eq_true rfl⟩, Nat.le_of_ble_eq_true rfl, Nat.le_of_ble_eq_true rfl⟩ hP hD hS hA ⟨rfl, rfl⟩ rfl [0, 1, 2, 3, 4] [] rfl rfl rfl (by decide) (by decide) hl.1 rfl (Nat.le_of_ble_eq_true rfl) rfl rfl rfl dX1_takeOut_3 (fun H locs hP hD hS => ?_)
  have hP : va_P (dC, dI) vwCl (wFig a0 cy f0) H := hP
  have hD : va_D A (wFig a0 cy f0) := hD
  refine lv_if_ne (tgt := 10) hx hb dX1_takeOut_6 (by decide) (fun c6 => ?_) (fun c6 => ?_)
  · replace h := if_f h c6
    refine lv_aload_n hx hb dX1_takeOut_10 rfl (lv_at hl 0 rfl) ?_
    refine lv_aload_n hx hb dX1_takeOut_11 rfl (lv_at hl 0 rfl) ?_
    refine lv_iload_n hx hb dX1_takeOut_12 rfl (lv_at hl 1 rfl) ?_
    refine lv_iload_n hx hb dX1_takeOut_13 rfl (lv_at hl 2 rfl) ?_
    obtain ⟨v14, e14, h⟩ := bnd h
    refine cV (av := [.int p1, .int p2]) (rest := [.ref (a0 0)]) (st1 := [.int v14, .ref (a0 0)]) (k1 := 0) (k2 := 0) (ci := 0) (q0 := 0) hx hb hml hown htg hN hK (c_X1_at l dC dI cy a0 f0 p1 p2 v14 e14) (g_V gw176 gw177 gw178 gw60 gw179) hdV_X1_at rfl ⟨⟨Nat.le_of_ble_eq_true rfl, Nat.le_of_ble_eq_true rfl⟩, Nat.le_of_ble_eq_true rfl, Nat.le_of_ble_eq_true rfl⟩ hP hD hS hA ⟨rfl, rfl⟩ rfl [0, 1, 2, 3, 4] [] rfl rfl rfl (by decide) (by decide) hl.1 rfl (Nat.le_of_ble_eq_true rfl) rfl rfl rfl dX1_takeOut_14 (fun H locs hP hD hS => ?_)
    have hP : va_P (dC, dI) vwCl (wFig a0 cy f0) H := hP
    have hD : va_D A (wFig a0 cy f0) := hD
    refine lv_iconst (v := 1) hx hb dX1_takeOut_17 (by decide) ?_
    obtain ⟨v18, e18, h⟩ := bnd h
    refine cV (av := [.int v14, .int 1]) (rest := []) (st1 := []) (k1 := 0) (k2 := 0) (ci := 0) (q0 := 0) hx hb hml hown htg hN hK (c_X1_closeGap l dC dI cy a0 f0 v14 1 v18 e18) (g_V gw694 gw696 gw6 gw60 gw697) hdV_X1_closeGap rfl ⟨⟨Nat.le_of_ble_eq_true rfl, Nat.le_of_ble_eq_true rfl⟩, Nat.le_of_ble_eq_true rfl, Nat.le_of_ble_eq_true rfl⟩ hP hD hS hA ⟨rfl, rfl⟩ rfl [0, 1, 2, 3, 4] [] rfl rfl rfl (by decide) (by decide) hl.1 rfl (Nat.le_of_ble_eq_true rfl) rfl rfl rfl dX1_takeOut_18 (fun H locs hP hD hS => ?_)
    have hP : va_P (dC, dI) vwCl (wFig a0 cy v18) H := hP
    have hD : va_D A (wFig a0 cy v18) := hD
    refine lv_aload_n hx hb dX1_takeOut_21 rfl (lv_at hl 0 rfl) ?_
    refine va_get (D := (dC, dI)) (ci := 0) (v := .ref (a0 1)) (C := RX1) (T := TX1) (N := 6) hx hb htg inX1 hown hK hP 0 rfl rfl 2 (by decide) (htg _ gw102) (fun _ h9 => h9) rfl dX1_takeOut_22 ?_
    refine lv_iload_n hx hb dX1_takeOut_25 rfl (lv_at hl 1 rfl) ?_
    refine lv_dup2_11 hx hb dX1_takeOut_26 rfl rfl ?_
    obtain ⟨v27, e27, h⟩ := bnd h
    refine x_iald (v := v27) hx hb hK hP 1 0 rfl rfl e27 dX1_takeOut_27 ?_
    refine lv_iconst (v := 1) hx hb dX1_takeOut_28 (by decide) ?_
    refine lv_isub hx hb dX1_takeOut_29 ?_
    obtain ⟨g30, e30, h⟩ := bnd h
    refine x_iast (g := g30) hx hb hK hP hD hS 1 0 rfl rfl e30 dX1_takeOut_30 (fun H locs hP hD hS => ?_)
    have hP : va_P (dC, dI) vwCl (wFig a0 cy (fs_sizes v18 g30)) H := hP
    have hD : va_D A (wFig a0 cy (fs_sizes v18 g30)) := hD
    refine lv_aload_n hx hb dX1_takeOut_31 rfl (lv_at hl 0 rfl) ?_
    obtain ⟨v32, e32, h⟩ := bnd h
    refine cV (av := []) (rest := []) (st1 := []) (k1 := 0) (k2 := 0) (ci := 0) (q0 := 0) hx hb hml hown htg hN hK (c_X1_relink l dC dI cy a0 (fs_sizes v18 g30)  v32 e32) (g_V gw188 gw190 gw0 gw60 gw191) hdV_X1_relink rfl ⟨⟨Nat.le_of_ble_eq_true rfl, Nat.le_of_ble_eq_true rfl⟩, Nat.le_of_ble_eq_true rfl, Nat.le_of_ble_eq_true rfl⟩ hP hD hS hA ⟨rfl, rfl⟩ rfl [0, 1, 2, 3, 4] [] rfl rfl rfl (by decide) (by decide) hl.1 rfl (Nat.le_of_ble_eq_true rfl) rfl rfl rfl dX1_takeOut_32 (fun H locs hP hD hS => ?_)
    have hP : va_P (dC, dI) vwCl (wFig a0 cy v32) H := hP
    have hD : va_D A (wFig a0 cy v32) := hD
    obtain rfl := Option.some.inj h
    exact hE H locs 35 ls hP hD hS dX1_takeOut_35
  replace h := if_t h c6
  obtain rfl := Option.some.inj h
  exact hE H locs 9 ls hP hD hS dX1_takeOut_9
def G_X0_lostCorner (f0 : Fig) (p1 : Int32) (p2 : Int32) : Option (Int32 × Fig) :=
  (G_X1_hasCorner f0 p1 p2).bind fun v3 =>
  if v3 = 0 then
    some (0, f0)
  else
    (G_X1_sizeOf f0 p1).bind fun v11 =>
    if 3 < v11 then
      (G_X1_takeOut f0 p1 p2).bind fun v23 =>
      (G_X4_firstBroken v23).bind fun v27 =>
      if v27 = 0 then
        some (1, v23)
      else
        some (0, v23)
    else
      some (0, f0)
abbrev rm_X0_lostCorner : Room := { frames := 5, cells := 0, slots := 0, locals := 114 }
theorem hdS_X0_lostCorner : yX0_lostCorner.cls ≠ "java/lang/invoke/MethodHandle" ∧ yX0_lostCorner.cls ≠ "java/lang/invoke/VarHandle" ∧ (parseMethodDescriptor yX0_lostCorner.desc).map (fun d => d.parameters.length) = some 3 := by decide +kernel
set_option maxHeartbeats 4000000 in
set_option maxRecDepth 100000 in
theorem c_X0_lostCorner (l : Launch) (dC : Nat → ClassId) (dI : Nat → Nat → Nat) (cy : Nat → ClassId) (a0 : Nat → Nat) (f0 : Fig) (p1 : Int32) (p2 : Int32) (res : Int32 × Fig) (h : G_X0_lostCorner f0 p1 p2 = some res) : CT l (dC, dI) (TY cy) yX0_lostCorner cX0_lostCorner 3 (some .boolean) rm_X0_lostCorner [.ref (a0 0), .int p1, .int p2] (wFig a0 cy f0) (wFig a0 cy res.2) (some (.int res.1)) := by
  refine CT.mk_z (own := RX0) ⟨by decide, rfl⟩ (Nat.le_of_ble_eq_true rfl) ?_
  intro p e s mm args below meth cd A Q hx hb hml hown htg hN hK hA hP hD hS hE ls hl
  have hl : lv_has ls 3 [(0, .ref (a0 0)), (1, .int p1), (2, .int p2)] := hl
  replace h : _ = some res := h
  unfold G_X0_lostCorner at h
  obtain ⟨H, hH⟩ : ∃ H, H = s.heap := ⟨_, rfl⟩
  obtain ⟨locs, hlocs⟩ : ∃ locs : List Loc, locs = [] := ⟨_, rfl⟩
  rw [← hlocs] at hS ⊢
  have hS : va_S A s.heap H locs := by rw [hH]; exact hS
  rw [← hH] at hP ⊢
  refine lv_aload_n hx hb dX0_lostCorner_0 rfl (lv_at hl 0 rfl) ?_
  refine lv_iload_n hx hb dX0_lostCorner_1 rfl (lv_at hl 1 rfl) ?_
  refine lv_iload_n hx hb dX0_lostCorner_2 rfl (lv_at hl 2 rfl) ?_
  obtain ⟨v3, e3, h⟩ := bnd h
  refine cV (av := [.int p1, .int p2]) (rest := []) (st1 := [.int v3]) (k1 := 0) (k2 := 0) (ci := 0) (q0 := 0) hx hb hml hown htg hN hK (c_X1_hasCorner l dC dI cy a0 f0 p1 p2 v3 e3) (g_V gw359 gw360 gw361 gw60 gw362) hdV_X1_hasCorner rfl ⟨⟨Nat.le_of_ble_eq_true rfl, Nat.le_of_ble_eq_true rfl⟩, Nat.le_of_ble_eq_true rfl, Nat.le_of_ble_eq_true rfl⟩ hP hD hS hA ⟨rfl, rfl⟩ rfl [0, 1, 2, 3, 4] [] rfl rfl rfl (by decide) (by decide) hl.1 rfl (Nat.le_of_ble_eq_true rfl) rfl rfl rfl dX0_lostCorner_3 (fun H locs hP hD hS => ?_)
  have hP : va_P (dC, dI) vwCl (wFig a0 cy f0) H := hP
  have hD : va_D A (wFig a0 cy f0) := hD
  refine lv_if_eq (tgt := 18) hx hb dX0_lostCorner_6 (by decide) (fun c6 => ?_) (fun c6 => ?_)
  · replace h := if_t h c6
    refine lv_iconst (v := 0) hx hb dX0_lostCorner_18 (by decide) ?_
    obtain rfl := Option.some.inj h
    exact hE H locs 19 ls _ hP hD hS rfl (Or.inl rfl) dX0_lostCorner_19
  replace h := if_f h c6
  refine lv_aload_n hx hb dX0_lostCorner_9 rfl (lv_at hl 0 rfl) ?_
  refine lv_iload_n hx hb dX0_lostCorner_10 rfl (lv_at hl 1 rfl) ?_
  obtain ⟨v11, e11, h⟩ := bnd h
  refine cV (av := [.int p1]) (rest := []) (st1 := [.int v11]) (k1 := 0) (k2 := 0) (ci := 0) (q0 := 0) hx hb hml hown htg hN hK (c_X1_sizeOf l dC dI cy a0 f0 p1 v11 e11) (g_V gw676 gw165 gw166 gw60 gw167) hdV_X1_sizeOf rfl ⟨⟨Nat.le_of_ble_eq_true rfl, Nat.le_of_ble_eq_true rfl⟩, Nat.le_of_ble_eq_true rfl, Nat.le_of_ble_eq_true rfl⟩ hP hD hS hA ⟨rfl, rfl⟩ rfl [0, 1, 2, 3, 4] [] rfl rfl rfl (by decide) (by decide) hl.1 rfl (Nat.le_of_ble_eq_true rfl) rfl rfl rfl dX0_lostCorner_11 (fun H locs hP hD hS => ?_)
  have hP : va_P (dC, dI) vwCl (wFig a0 cy f0) H := hP
  have hD : va_D A (wFig a0 cy f0) := hD
  refine lv_iconst (v := 3) hx hb dX0_lostCorner_14 (by decide) ?_
  refine lv_icmp_gt (tgt := 20) hx hb dX0_lostCorner_15 (by decide) (fun c15 => ?_) (fun c15 => ?_)
  · replace h := if_t h c15
    refine lv_aload_n hx hb dX0_lostCorner_20 rfl (lv_at hl 0 rfl) ?_
    refine lv_iload_n hx hb dX0_lostCorner_21 rfl (lv_at hl 1 rfl) ?_
    refine lv_iload_n hx hb dX0_lostCorner_22 rfl (lv_at hl 2 rfl) ?_
    obtain ⟨v23, e23, h⟩ := bnd h
    refine cV (av := [.int p1, .int p2]) (rest := []) (st1 := []) (k1 := 0) (k2 := 0) (ci := 0) (q0 := 0) hx hb hml hown htg hN hK (c_X1_takeOut l dC dI cy a0 f0 p1 p2 v23 e23) (g_V gw689 gw690 gw691 gw60 gw692) hdV_X1_takeOut rfl ⟨⟨Nat.le_of_ble_eq_true rfl, Nat.le_of_ble_eq_true rfl⟩, Nat.le_of_ble_eq_true rfl, Nat.le_of_ble_eq_true rfl⟩ hP hD hS hA ⟨rfl, rfl⟩ rfl [0, 1, 2, 3, 4] [] rfl rfl rfl (by decide) (by decide) hl.1 rfl (Nat.le_of_ble_eq_true rfl) rfl rfl rfl dX0_lostCorner_23 (fun H locs hP hD hS => ?_)
    have hP : va_P (dC, dI) vwCl (wFig a0 cy v23) H := hP
    have hD : va_D A (wFig a0 cy v23) := hD
    refine lv_aload_n hx hb dX0_lostCorner_26 rfl (lv_at hl 0 rfl) ?_
    obtain ⟨v27, e27, h⟩ := bnd h
    refine cS (av := [.ref (a0 0)]) (rest := []) (st1 := [.int v27]) (k1 := 0) (k2 := 0) hx hb hml hown htg hN hK (c_X4_firstBroken l dC dI cy a0 v23  v27 e27) (g_S gw365 gw235 gw69 gw236) hdS_X4_firstBroken rfl ⟨⟨Nat.le_of_ble_eq_true rfl, Nat.le_of_ble_eq_true rfl⟩, Nat.le_of_ble_eq_true rfl, Nat.le_of_ble_eq_true rfl⟩ hP hD hS hA [0, 1, 2, 3, 4] [] rfl rfl rfl (by decide) (by decide) hl.1 rfl (Nat.le_of_ble_eq_true rfl) rfl rfl rfl dX0_lostCorner_27 (fun H locs hP hD hS => ?_)
    have hP : va_P (dC, dI) vwCl (wFig a0 cy v23) H := hP
    have hD : va_D A (wFig a0 cy v23) := hD
    refine lv_if_ne (tgt := 37) hx hb dX0_lostCorner_30 (by decide) (fun c30 => ?_) (fun c30 => ?_)
    · replace h := if_f h c30
      refine lv_iconst (v := 0) hx hb dX0_lostCorner_37 (by decide) ?_
      obtain rfl := Option.some.inj h
      exact hE H locs 38 ls _ hP hD hS rfl (Or.inl rfl) dX0_lostCorner_38
    replace h := if_t h c30
    refine lv_iconst (v := 1) hx hb dX0_lostCorner_33 (by decide) ?_
    refine lv_goto (tgt := 38) hx hb dX0_lostCorner_34 (by decide) ?_
    obtain rfl := Option.some.inj h
    exact hE H locs 38 ls _ hP hD hS rfl (Or.inr rfl) dX0_lostCorner_38
  replace h := if_f h c15
  refine lv_iconst (v := 0) hx hb dX0_lostCorner_18 (by decide) ?_
  obtain rfl := Option.some.inj h
  exact hE H locs 19 ls _ hP hD hS rfl (Or.inl rfl) dX0_lostCorner_19
def G_X0_movedCorner (f0 : Fig) (p1 : Int32) (p2 : Int32) (p3 : Int32) (p4 : Int32) : Option (Int32 × Fig) :=
  (G_X1_hasCorner f0 p1 p2).bind fun v3 =>
  if v3 = 0 then
    some (0, f0)
  else
    (G_X1_at f0 p1 p2).bind fun v15 =>
    (G_X1_place f0 v15 p3 p4).bind fun v21 =>
    (G_X4_firstBroken v21).bind fun v25 =>
    if v25 = 0 then
      some (1, v21)
    else
      some (0, v21)
abbrev rm_X0_movedCorner : Room := { frames := 5, cells := 0, slots := 0, locals := 114 }
theorem hdS_X0_movedCorner : yX0_movedCorner.cls ≠ "java/lang/invoke/MethodHandle" ∧ yX0_movedCorner.cls ≠ "java/lang/invoke/VarHandle" ∧ (parseMethodDescriptor yX0_movedCorner.desc).map (fun d => d.parameters.length) = some 5 := by decide +kernel
set_option maxHeartbeats 4000000 in
set_option maxRecDepth 100000 in
theorem c_X0_movedCorner (l : Launch) (dC : Nat → ClassId) (dI : Nat → Nat → Nat) (cy : Nat → ClassId) (a0 : Nat → Nat) (f0 : Fig) (p1 : Int32) (p2 : Int32) (p3 : Int32) (p4 : Int32) (res : Int32 × Fig) (h : G_X0_movedCorner f0 p1 p2 p3 p4 = some res) : CT l (dC, dI) (TY cy) yX0_movedCorner cX0_movedCorner 5 (some .boolean) rm_X0_movedCorner [.ref (a0 0), .int p1, .int p2, .int p3, .int p4] (wFig a0 cy f0) (wFig a0 cy res.2) (some (.int res.1)) := by
  refine CT.mk_z (own := RX0) ⟨by decide, rfl⟩ (Nat.le_of_ble_eq_true rfl) ?_
  intro p e s mm args below meth cd A Q hx hb hml hown htg hN hK hA hP hD hS hE ls hl
  have hl : lv_has ls 5 [(0, .ref (a0 0)), (1, .int p1), (2, .int p2), (3, .int p3), (4, .int p4)] := hl
  replace h : _ = some res := h
  unfold G_X0_movedCorner at h
  obtain ⟨H, hH⟩ : ∃ H, H = s.heap := ⟨_, rfl⟩
  obtain ⟨locs, hlocs⟩ : ∃ locs : List Loc, locs = [] := ⟨_, rfl⟩
  rw [← hlocs] at hS ⊢
  have hS : va_S A s.heap H locs := by rw [hH]; exact hS
  rw [← hH] at hP ⊢
  refine lv_aload_n hx hb dX0_movedCorner_0 rfl (lv_at hl 0 rfl) ?_
  refine lv_iload_n hx hb dX0_movedCorner_1 rfl (lv_at hl 1 rfl) ?_
  refine lv_iload_n hx hb dX0_movedCorner_2 rfl (lv_at hl 2 rfl) ?_
  obtain ⟨v3, e3, h⟩ := bnd h
  refine cV (av := [.int p1, .int p2]) (rest := []) (st1 := [.int v3]) (k1 := 0) (k2 := 0) (ci := 0) (q0 := 0) hx hb hml hown htg hN hK (c_X1_hasCorner l dC dI cy a0 f0 p1 p2 v3 e3) (g_V gw359 gw360 gw361 gw60 gw362) hdV_X1_hasCorner rfl ⟨⟨Nat.le_of_ble_eq_true rfl, Nat.le_of_ble_eq_true rfl⟩, Nat.le_of_ble_eq_true rfl, Nat.le_of_ble_eq_true rfl⟩ hP hD hS hA ⟨rfl, rfl⟩ rfl [0, 1, 2, 3, 4] [] rfl rfl rfl (by decide) (by decide) hl.1 rfl (Nat.le_of_ble_eq_true rfl) rfl rfl rfl dX0_movedCorner_3 (fun H locs hP hD hS => ?_)
  have hP : va_P (dC, dI) vwCl (wFig a0 cy f0) H := hP
  have hD : va_D A (wFig a0 cy f0) := hD
  refine lv_if_ne (tgt := 11) hx hb dX0_movedCorner_6 (by decide) (fun c6 => ?_) (fun c6 => ?_)
  · replace h := if_f h c6
    refine lv_aload_n hx hb dX0_movedCorner_11 rfl (lv_at hl 0 rfl) ?_
    refine lv_aload_n hx hb dX0_movedCorner_12 rfl (lv_at hl 0 rfl) ?_
    refine lv_iload_n hx hb dX0_movedCorner_13 rfl (lv_at hl 1 rfl) ?_
    refine lv_iload_n hx hb dX0_movedCorner_14 rfl (lv_at hl 2 rfl) ?_
    obtain ⟨v15, e15, h⟩ := bnd h
    refine cV (av := [.int p1, .int p2]) (rest := [.ref (a0 0)]) (st1 := [.int v15, .ref (a0 0)]) (k1 := 0) (k2 := 0) (ci := 0) (q0 := 0) hx hb hml hown htg hN hK (c_X1_at l dC dI cy a0 f0 p1 p2 v15 e15) (g_V gw363 gw177 gw178 gw60 gw179) hdV_X1_at rfl ⟨⟨Nat.le_of_ble_eq_true rfl, Nat.le_of_ble_eq_true rfl⟩, Nat.le_of_ble_eq_true rfl, Nat.le_of_ble_eq_true rfl⟩ hP hD hS hA ⟨rfl, rfl⟩ rfl [0, 1, 2, 3, 4] [] rfl rfl rfl (by decide) (by decide) hl.1 rfl (Nat.le_of_ble_eq_true rfl) rfl rfl rfl dX0_movedCorner_15 (fun H locs hP hD hS => ?_)
    have hP : va_P (dC, dI) vwCl (wFig a0 cy f0) H := hP
    have hD : va_D A (wFig a0 cy f0) := hD
    refine lv_iload_n hx hb dX0_movedCorner_18 rfl (lv_at hl 3 rfl) ?_
    refine lv_iload hx hb dX0_movedCorner_19 (lv_at hl 4 rfl) ?_
    obtain ⟨v21, e21, h⟩ := bnd h
    refine cV (av := [.int v15, .int p3, .int p4]) (rest := []) (st1 := []) (k1 := 0) (k2 := 0) (ci := 0) (q0 := 0) hx hb hml hown htg hN hK (c_X1_place l dC dI cy a0 f0 v15 p3 p4 v21 e21) (g_V gw364 gw185 gw186 gw60 gw187) hdV_X1_place rfl ⟨⟨Nat.le_of_ble_eq_true rfl, Nat.le_of_ble_eq_true rfl⟩, Nat.le_of_ble_eq_true rfl, Nat.le_of_ble_eq_true rfl⟩ hP hD hS hA ⟨rfl, rfl⟩ rfl [0, 1, 2, 3, 4] [] rfl rfl rfl (by decide) (by decide) hl.1 rfl (Nat.le_of_ble_eq_true rfl) rfl rfl rfl dX0_movedCorner_21 (fun H locs hP hD hS => ?_)
    have hP : va_P (dC, dI) vwCl (wFig a0 cy v21) H := hP
    have hD : va_D A (wFig a0 cy v21) := hD
    refine lv_aload_n hx hb dX0_movedCorner_24 rfl (lv_at hl 0 rfl) ?_
    obtain ⟨v25, e25, h⟩ := bnd h
    refine cS (av := [.ref (a0 0)]) (rest := []) (st1 := [.int v25]) (k1 := 0) (k2 := 0) hx hb hml hown htg hN hK (c_X4_firstBroken l dC dI cy a0 v21  v25 e25) (g_S gw365 gw235 gw69 gw236) hdS_X4_firstBroken rfl ⟨⟨Nat.le_of_ble_eq_true rfl, Nat.le_of_ble_eq_true rfl⟩, Nat.le_of_ble_eq_true rfl, Nat.le_of_ble_eq_true rfl⟩ hP hD hS hA [0, 1, 2, 3, 4] [] rfl rfl rfl (by decide) (by decide) hl.1 rfl (Nat.le_of_ble_eq_true rfl) rfl rfl rfl dX0_movedCorner_25 (fun H locs hP hD hS => ?_)
    have hP : va_P (dC, dI) vwCl (wFig a0 cy v21) H := hP
    have hD : va_D A (wFig a0 cy v21) := hD
    refine lv_if_ne (tgt := 35) hx hb dX0_movedCorner_28 (by decide) (fun c28 => ?_) (fun c28 => ?_)
    · replace h := if_f h c28
      refine lv_iconst (v := 0) hx hb dX0_movedCorner_35 (by decide) ?_
      obtain rfl := Option.some.inj h
      exact hE H locs 36 ls _ hP hD hS rfl (Or.inl rfl) dX0_movedCorner_36
    replace h := if_t h c28
    refine lv_iconst (v := 1) hx hb dX0_movedCorner_31 (by decide) ?_
    refine lv_goto (tgt := 36) hx hb dX0_movedCorner_32 (by decide) ?_
    obtain rfl := Option.some.inj h
    exact hE H locs 36 ls _ hP hD hS rfl (Or.inr rfl) dX0_movedCorner_36
  replace h := if_t h c6
  refine lv_iconst (v := 0) hx hb dX0_movedCorner_9 (by decide) ?_
  obtain rfl := Option.some.inj h
  exact hE H locs 10 ls _ hP hD hS rfl (Or.inl rfl) dX0_movedCorner_10
def G_X0_nudged (f0 : Fig) (p1 : Int32) (p2 : Int32) : Option (Int32 × Fig) :=
  (G_X1_xOf f0 p1).bind fun v2 =>
  (G_X1_yOf f0 p1).bind fun v8 =>
  ((if p2 = 0 then
      some 1
    else
      if p2 = 2 then
        some (-1)
      else
        some 0) : Option (Int32)).bind fun b14 =>
  ((if p2 = 1 then
      some 1
    else
      if p2 = 3 then
        some (-1)
      else
        some 0) : Option (Int32)).bind fun b35 =>
  (G_X0_movedCorner f0 0 p1 (v2 + b14) (v8 + b35)).bind fun v66 =>
  if v66.1 = 0 then
    (G_X1_place v66.2 p1 v2 v8).bind fun v79 =>
    some (0, v79)
  else
    some (1, v66.2)
abbrev rm_X0_nudged : Room := { frames := 6, cells := 0, slots := 0, locals := 138 }
theorem hdS_X0_nudged : yX0_nudged.cls ≠ "java/lang/invoke/MethodHandle" ∧ yX0_nudged.cls ≠ "java/lang/invoke/VarHandle" ∧ (parseMethodDescriptor yX0_nudged.desc).map (fun d => d.parameters.length) = some 3 := by decide +kernel
set_option maxHeartbeats 4000000 in
set_option maxRecDepth 100000 in
theorem c_X0_nudged (l : Launch) (dC : Nat → ClassId) (dI : Nat → Nat → Nat) (cy : Nat → ClassId) (a0 : Nat → Nat) (f0 : Fig) (p1 : Int32) (p2 : Int32) (res : Int32 × Fig) (h : G_X0_nudged f0 p1 p2 = some res) : CT l (dC, dI) (TY cy) yX0_nudged cX0_nudged 7 (some .boolean) rm_X0_nudged [.ref (a0 0), .int p1, .int p2] (wFig a0 cy f0) (wFig a0 cy res.2) (some (.int res.1)) := by
  refine CT.mk_z (own := RX0) ⟨by decide, rfl⟩ (Nat.le_of_ble_eq_true rfl) ?_
  intro p e s mm args below meth cd A Q hx hb hml hown htg hN hK hA hP hD hS hE ls hl
  have hl : lv_has ls 7 [(0, .ref (a0 0)), (1, .int p1), (2, .int p2)] := hl
  replace h : _ = some res := h
  unfold G_X0_nudged at h
  obtain ⟨H, hH⟩ : ∃ H, H = s.heap := ⟨_, rfl⟩
  obtain ⟨locs, hlocs⟩ : ∃ locs : List Loc, locs = [] := ⟨_, rfl⟩
  rw [← hlocs] at hS ⊢
  have hS : va_S A s.heap H locs := by rw [hH]; exact hS
  rw [← hH] at hP ⊢
  refine lv_aload_n hx hb dX0_nudged_0 rfl (lv_at hl 0 rfl) ?_
  refine lv_iload_n hx hb dX0_nudged_1 rfl (lv_at hl 1 rfl) ?_
  obtain ⟨v2, e2, h⟩ := bnd h
  refine cV (av := [.int p1]) (rest := []) (st1 := [.int v2]) (k1 := 0) (k2 := 0) (ci := 0) (q0 := 0) hx hb hml hown htg hN hK (c_X1_xOf l dC dI cy a0 f0 p1 v2 e2) (g_V gw354 gw241 gw242 gw60 gw243) hdV_X1_xOf rfl ⟨⟨Nat.le_of_ble_eq_true rfl, Nat.le_of_ble_eq_true rfl⟩, Nat.le_of_ble_eq_true rfl, Nat.le_of_ble_eq_true rfl⟩ hP hD hS hA ⟨rfl, rfl⟩ rfl [0, 1, 2, 3, 4] [] rfl rfl rfl (by decide) (by decide) hl.1 rfl (Nat.le_of_ble_eq_true rfl) rfl rfl rfl dX0_nudged_2 (fun H locs hP hD hS => ?_)
  have hP : va_P (dC, dI) vwCl (wFig a0 cy f0) H := hP
  have hD : va_D A (wFig a0 cy f0) := hD
  refine lv_istore_n (lv' := [(3, .int v2), (0, .ref (a0 0)), (1, .int p1), (2, .int p2)]) hx hb dX0_nudged_5 rfl hl (by decide) rfl (fun ls hl => ?_)
  refine lv_aload_n hx hb dX0_nudged_6 rfl (lv_at hl 1 rfl) ?_
  refine lv_iload_n hx hb dX0_nudged_7 rfl (lv_at hl 2 rfl) ?_
  obtain ⟨v8, e8, h⟩ := bnd h
  refine cV (av := [.int p1]) (rest := []) (st1 := [.int v8]) (k1 := 0) (k2 := 0) (ci := 0) (q0 := 0) hx hb hml hown htg hN hK (c_X1_yOf l dC dI cy a0 f0 p1 v8 e8) (g_V gw355 gw248 gw249 gw60 gw250) hdV_X1_yOf rfl ⟨⟨Nat.le_of_ble_eq_true rfl, Nat.le_of_ble_eq_true rfl⟩, Nat.le_of_ble_eq_true rfl, Nat.le_of_ble_eq_true rfl⟩ hP hD hS hA ⟨rfl, rfl⟩ rfl [0, 1, 2, 3, 4] [] rfl rfl rfl (by decide) (by decide) hl.1 rfl (Nat.le_of_ble_eq_true rfl) rfl rfl rfl dX0_nudged_8 (fun H locs hP hD hS => ?_)
  have hP : va_P (dC, dI) vwCl (wFig a0 cy f0) H := hP
  have hD : va_D A (wFig a0 cy f0) := hD
  refine lv_istore (lv' := [(4, .int v8), (3, .int v2), (0, .ref (a0 0)), (1, .int p1), (2, .int p2)]) hx hb dX0_nudged_11 hl (by decide) rfl (fun ls hl => ?_)
  refine lv_iload_n hx hb dX0_nudged_13 rfl (lv_at hl 4 rfl) ?_
  obtain ⟨b14, e14, h⟩ := bnd h
  have hr31 : ∀ (H : Heap) (locs : List Loc) (ls : Array Slot), va_P (dC, dI) vwCl (wFig a0 cy f0) H → va_D A (wFig a0 cy f0) → va_S A s.heap H locs → lv_has ls 7 [(4, .int v8), (3, .int v2), (0, .ref (a0 0)), (1, .int p1), (2, .int p2)] → W p l e rm_X0_nudged s mm args below meth cd H locs 0 0 Q (F0 mm 31 ls [.int b14]) := by
    intro H locs ls hP hD hS hl
    refine lv_istore (lv' := [(5, .int b14), (4, .int v8), (3, .int v2), (0, .ref (a0 0)), (1, .int p1), (2, .int p2)]) hx hb dX0_nudged_31 hl (by decide) rfl (fun ls hl => ?_)
    refine lv_iload_n hx hb dX0_nudged_33 rfl (lv_at hl 5 rfl) ?_
    refine lv_iconst (v := 1) hx hb dX0_nudged_34 (by decide) ?_
    obtain ⟨b35, e35, h⟩ := bnd h
    have hr52 : ∀ (H : Heap) (locs : List Loc) (ls : Array Slot), va_P (dC, dI) vwCl (wFig a0 cy f0) H → va_D A (wFig a0 cy f0) → va_S A s.heap H locs → lv_has ls 7 [(5, .int b14), (4, .int v8), (3, .int v2), (0, .ref (a0 0)), (1, .int p1), (2, .int p2)] → W p l e rm_X0_nudged s mm args below meth cd H locs 0 0 Q (F0 mm 52 ls [.int b35]) := by
      intro H locs ls hP hD hS hl
      refine lv_istore (lv' := [(6, .int b35), (5, .int b14), (4, .int v8), (3, .int v2), (0, .ref (a0 0)), (1, .int p1), (2, .int p2)]) hx hb dX0_nudged_52 hl (by decide) rfl (fun ls hl => ?_)
      refine lv_aload_n hx hb dX0_nudged_54 rfl (lv_at hl 4 rfl) ?_
      refine lv_iconst (v := 0) hx hb dX0_nudged_55 (by decide) ?_
      refine lv_iload_n hx hb dX0_nudged_56 rfl (lv_at hl 5 rfl) ?_
      refine lv_iload_n hx hb dX0_nudged_57 rfl (lv_at hl 3 rfl) ?_
      refine lv_iload hx hb dX0_nudged_58 (lv_at hl 1 rfl) ?_
      refine lv_iadd hx hb dX0_nudged_60 ?_
      refine lv_iload hx hb dX0_nudged_61 (lv_at hl 2 rfl) ?_
      refine lv_iload hx hb dX0_nudged_63 (lv_at hl 0 rfl) ?_
      refine lv_iadd hx hb dX0_nudged_65 ?_
      obtain ⟨v66, e66, h⟩ := bnd h
      refine cS (av := [.ref (a0 0), .int 0, .int p1, .int (v2 + b14), .int (v8 + b35)]) (rest := []) (st1 := [.int v66.1]) (k1 := 0) (k2 := 0) hx hb hml hown htg hN hK (c_X0_movedCorner l dC dI cy a0 f0 0 p1 (v2 + b14) (v8 + b35) v66 e66) (g_S gw356 gw357 gw75 gw358) hdS_X0_movedCorner rfl ⟨⟨Nat.le_of_ble_eq_true rfl, Nat.le_of_ble_eq_true rfl⟩, Nat.le_of_ble_eq_true rfl, Nat.le_of_ble_eq_true rfl⟩ hP hD hS hA [0, 1, 2, 3, 4] [] rfl rfl rfl (by decide) (by decide) hl.1 rfl (Nat.le_of_ble_eq_true rfl) rfl rfl rfl dX0_nudged_66 (fun H locs hP hD hS => ?_)
      have hP : va_P (dC, dI) vwCl (wFig a0 cy v66.2) H := hP
      have hD : va_D A (wFig a0 cy v66.2) := hD
      refine lv_if_eq (tgt := 74) hx hb dX0_nudged_69 (by decide) (fun c69 => ?_) (fun c69 => ?_)
      · replace h := if_t h c69
        refine lv_aload_n hx hb dX0_nudged_74 rfl (lv_at hl 4 rfl) ?_
        refine lv_iload_n hx hb dX0_nudged_75 rfl (lv_at hl 5 rfl) ?_
        refine lv_iload_n hx hb dX0_nudged_76 rfl (lv_at hl 3 rfl) ?_
        refine lv_iload hx hb dX0_nudged_77 (lv_at hl 2 rfl) ?_
        obtain ⟨v79, e79, h⟩ := bnd h
        refine cV (av := [.int p1, .int v2, .int v8]) (rest := []) (st1 := []) (k1 := 0) (k2 := 0) (ci := 0) (q0 := 0) hx hb hml hown htg hN hK (c_X1_place l dC dI cy a0 v66.2 p1 v2 v8 v79 e79) (g_V gw364 gw185 gw186 gw60 gw187) hdV_X1_place rfl ⟨⟨Nat.le_of_ble_eq_true rfl, Nat.le_of_ble_eq_true rfl⟩, Nat.le_of_ble_eq_true rfl, Nat.le_of_ble_eq_true rfl⟩ hP hD hS hA ⟨rfl, rfl⟩ rfl [0, 1, 2, 3, 4] [] rfl rfl rfl (by decide) (by decide) hl.1 rfl (Nat.le_of_ble_eq_true rfl) rfl rfl rfl dX0_nudged_79 (fun H locs hP hD hS => ?_)
        have hP : va_P (dC, dI) vwCl (wFig a0 cy v79) H := hP
        have hD : va_D A (wFig a0 cy v79) := hD
        refine lv_iconst (v := 0) hx hb dX0_nudged_82 (by decide) ?_
        obtain rfl := Option.some.inj h
        exact hE H locs 83 ls _ hP hD hS rfl (Or.inl rfl) dX0_nudged_83
      replace h := if_f h c69
      refine lv_iconst (v := 1) hx hb dX0_nudged_72 (by decide) ?_
      obtain rfl := Option.some.inj h
      exact hE H locs 73 ls _ hP hD hS rfl (Or.inr rfl) dX0_nudged_73
    have h := e35
    clear e35
    refine lv_icmp_ne (tgt := 42) hx hb dX0_nudged_35 (by decide) (fun c35 => ?_) (fun c35 => ?_)
    · replace h := if_f h c35
      refine lv_iload_n hx hb dX0_nudged_42 rfl (lv_at hl 5 rfl) ?_
      refine lv_iconst (v := 3) hx hb dX0_nudged_43 (by decide) ?_
      refine lv_icmp_ne (tgt := 51) hx hb dX0_nudged_44 (by decide) (fun c44 => ?_) (fun c44 => ?_)
      · replace h := if_f h c44
        refine lv_iconst (v := 0) hx hb dX0_nudged_51 (by decide) ?_
        obtain rfl := Option.some.inj h
        exact hr52 H locs ls hP hD hS hl
      replace h := if_t h c44
      refine lv_iconst (v := (-1)) hx hb dX0_nudged_47 (by decide) ?_
      refine lv_goto (tgt := 52) hx hb dX0_nudged_48 (by decide) ?_
      obtain rfl := Option.some.inj h
      exact hr52 H locs ls hP hD hS hl
    replace h := if_t h c35
    refine lv_iconst (v := 1) hx hb dX0_nudged_38 (by decide) ?_
    refine lv_goto (tgt := 52) hx hb dX0_nudged_39 (by decide) ?_
    obtain rfl := Option.some.inj h
    exact hr52 H locs ls hP hD hS hl
  have h := e14
  clear e14
  refine lv_if_ne (tgt := 21) hx hb dX0_nudged_14 (by decide) (fun c14 => ?_) (fun c14 => ?_)
  · replace h := if_f h c14
    refine lv_iload_n hx hb dX0_nudged_21 rfl (lv_at hl 4 rfl) ?_
    refine lv_iconst (v := 2) hx hb dX0_nudged_22 (by decide) ?_
    refine lv_icmp_ne (tgt := 30) hx hb dX0_nudged_23 (by decide) (fun c23 => ?_) (fun c23 => ?_)
    · replace h := if_f h c23
      refine lv_iconst (v := 0) hx hb dX0_nudged_30 (by decide) ?_
      obtain rfl := Option.some.inj h
      exact hr31 H locs ls hP hD hS hl
    replace h := if_t h c23
    refine lv_iconst (v := (-1)) hx hb dX0_nudged_26 (by decide) ?_
    refine lv_goto (tgt := 31) hx hb dX0_nudged_27 (by decide) ?_
    obtain rfl := Option.some.inj h
    exact hr31 H locs ls hP hD hS hl
  replace h := if_t h c14
  refine lv_iconst (v := 1) hx hb dX0_nudged_17 (by decide) ?_
  refine lv_goto (tgt := 31) hx hb dX0_nudged_18 (by decide) ?_
  obtain rfl := Option.some.inj h
  exact hr31 H locs ls hP hD hS hl
def G_X1_shiftAll_L2   : Nat → Fig → Int32 → Int32 → Int32 → Option (Fig)
  | 0, _, _, _, _ => none
  | n2 + 1, f0_2, l3_2, l1_2, l2_2 =>
    if f_corners f0_2 ≤ l3_2 then
      some f0_2
    else
      (rd 40 (f_xs f0_2) l3_2).bind fun v16 =>
      (wr 40 (f_xs f0_2) l3_2 (v16 + l1_2)).bind fun g19 =>
      (rd 40 (f_ys (fs_xs f0_2 g19)) l3_2).bind fun v26 =>
      (some (fs_xs f0_2 g19)).bind fun z0_29 =>
      (wr 40 (f_ys z0_29) l3_2 (v26 + l2_2)).bind fun g29 =>
      (G_X1_shiftAll_L2 n2) (fs_ys z0_29 g29) (l3_2 + 1) l1_2 l2_2
def G_X1_shiftAll (f0 : Fig) (p1 : Int32) (p2 : Int32) : Option (Fig) :=
  G_X1_shiftAll_L2 FU f0 0 p1 p2
abbrev rm_X1_shiftAll : Room := { frames := 0, cells := 0, slots := 0, locals := 0 }
theorem hdS_X1_shiftAll : yX1_shiftAll.cls ≠ "java/lang/invoke/MethodHandle" ∧ yX1_shiftAll.cls ≠ "java/lang/invoke/VarHandle" ∧ (parseMethodDescriptor yX1_shiftAll.desc).map (fun d => d.parameters.length) = some 2 := by decide +kernel
theorem hdV_X1_shiftAll : yX1_shiftAll.cls = RX1 ∧ yX1_shiftAll.cls ≠ "java/lang/invoke/MethodHandle" ∧ yX1_shiftAll.cls ≠ "java/lang/invoke/VarHandle" ∧ (parseMethodDescriptor yX1_shiftAll.desc).map (fun d => d.parameters.length) = some 2 := ⟨rfl, hdS_X1_shiftAll⟩
set_option maxHeartbeats 4000000 in
set_option maxRecDepth 100000 in
theorem c_X1_shiftAll (l : Launch) (dC : Nat → ClassId) (dI : Nat → Nat → Nat) (cy : Nat → ClassId) (a0 : Nat → Nat) (f0 : Fig) (p1 : Int32) (p2 : Int32) (res : Fig) (h : G_X1_shiftAll f0 p1 p2 = some res) : CT l (dC, dI) (TY cy) yX1_shiftAll cX1_shiftAll 4 none rm_X1_shiftAll [.ref (a0 0), .int p1, .int p2] (wFig a0 cy f0) (wFig a0 cy res) none := by
  refine CT.mk_v (own := RX1) ⟨by decide, rfl⟩ (Nat.le_of_ble_eq_true rfl) ?_
  intro p e s mm args below meth cd A Q hx hb hml hown htg hN hK hA hP hD hS hE ls hl
  have hl : lv_has ls 4 [(0, .ref (a0 0)), (1, .int p1), (2, .int p2)] := hl
  replace h : _ = some res := h
  unfold G_X1_shiftAll at h
  obtain ⟨H, hH⟩ : ∃ H, H = s.heap := ⟨_, rfl⟩
  obtain ⟨locs, hlocs⟩ : ∃ locs : List Loc, locs = [] := ⟨_, rfl⟩
  rw [← hlocs] at hS ⊢
  have hS : va_S A s.heap H locs := by rw [hH]; exact hS
  rw [← hH] at hP ⊢
  refine lv_iconst (v := 0) hx hb dX1_shiftAll_0 (by decide) ?_
  refine lv_istore_n (lv' := [(3, .int 0), (0, .ref (a0 0)), (1, .int p1), (2, .int p2)]) hx hb dX1_shiftAll_1 rfl hl (by decide) rfl (fun ls hl => ?_)
  have hL2 : ∀ (n2 : Nat) (f0_2 : Fig) (l3_2 : Int32) (l1_2 : Int32) (l2_2 : Int32) (H : Heap) (locs : List Loc) (ls : Array Slot), G_X1_shiftAll_L2 n2 f0_2 l3_2 l1_2 l2_2 = some res → va_P (dC, dI) vwCl (wFig a0 cy f0_2) H → va_D A (wFig a0 cy f0_2) → va_S A s.heap H locs → lv_has ls 4 [(3, .int l3_2), (0, .ref (a0 0)), (1, .int l1_2), (2, .int l2_2)] → W p l e rm_X1_shiftAll s mm args below meth cd H locs 0 0 Q (F0 mm 2 ls []) := by
    intro n2
    induction n2 with
    | zero => intro f0_2 l3_2 l1_2 l2_2 H locs ls h; exact absurd h (by simp [G_X1_shiftAll_L2])
    | succ n2 ih2 =>
      intro f0_2 l3_2 l1_2 l2_2 H locs ls h hP hD hS hl
      rw [G_X1_shiftAll_L2] at h
      refine lv_iload_n hx hb dX1_shiftAll_2 rfl (lv_at hl 0 rfl) ?_
      refine lv_aload_n hx hb dX1_shiftAll_3 rfl (lv_at hl 1 rfl) ?_
      refine va_get (D := (dC, dI)) (ci := 0) (v := .int (f_corners f0_2)) (C := RX1) (T := TX1) (N := 6) hx hb htg inX1 hown hK hP 0 rfl rfl 1 (by decide) (htg _ gw97) (fun _ h9 => h9) rfl dX1_shiftAll_4 ?_
      refine lv_icmp_ge (tgt := 36) hx hb dX1_shiftAll_7 (by decide) (fun c7 => ?_) (fun c7 => ?_)
      · replace h := if_t h c7
        obtain rfl := Option.some.inj h
        exact hE H locs 36 ls hP hD hS dX1_shiftAll_36
      replace h := if_f h c7
      refine lv_aload_n hx hb dX1_shiftAll_10 rfl (lv_at hl 1 rfl) ?_
      refine va_get (D := (dC, dI)) (ci := 0) (v := .ref (a0 2)) (C := RX1) (T := TX1) (N := 6) hx hb htg inX1 hown hK hP 0 rfl rfl 3 (by decide) (htg _ gw103) (fun _ h9 => h9) rfl dX1_shiftAll_11 ?_
      refine lv_iload_n hx hb dX1_shiftAll_14 rfl (lv_at hl 0 rfl) ?_
      refine lv_dup2_11 hx hb dX1_shiftAll_15 rfl rfl ?_
      obtain ⟨v16, e16, h⟩ := bnd h
      refine x_iald (v := v16) hx hb hK hP 2 0 rfl rfl e16 dX1_shiftAll_16 ?_
      refine lv_iload_n hx hb dX1_shiftAll_17 rfl (lv_at hl 2 rfl) ?_
      refine lv_iadd hx hb dX1_shiftAll_18 ?_
      obtain ⟨g19, e19, h⟩ := bnd h
      refine x_iast (g := g19) hx hb hK hP hD hS 2 0 rfl rfl e19 dX1_shiftAll_19 (fun H locs hP hD hS => ?_)
      have hP : va_P (dC, dI) vwCl (wFig a0 cy (fs_xs f0_2 g19)) H := hP
      have hD : va_D A (wFig a0 cy (fs_xs f0_2 g19)) := hD
      refine lv_aload_n hx hb dX1_shiftAll_20 rfl (lv_at hl 1 rfl) ?_
      refine va_get (D := (dC, dI)) (ci := 0) (v := .ref (a0 3)) (C := RX1) (T := TX1) (N := 6) hx hb htg inX1 hown hK hP 0 rfl rfl 4 (by decide) (htg _ gw104) (fun _ h9 => h9) rfl dX1_shiftAll_21 ?_
      refine lv_iload_n hx hb dX1_shiftAll_24 rfl (lv_at hl 0 rfl) ?_
      refine lv_dup2_11 hx hb dX1_shiftAll_25 rfl rfl ?_
      obtain ⟨v26, e26, h⟩ := bnd h
      refine x_iald (v := v26) hx hb hK hP 3 0 rfl rfl e26 dX1_shiftAll_26 ?_
      refine lv_iload_n hx hb dX1_shiftAll_27 rfl (lv_at hl 3 rfl) ?_
      refine lv_iadd hx hb dX1_shiftAll_28 ?_
      obtain ⟨z0_29, ez0_29, h⟩ := bnd h
      replace ez0_29 := Option.some.inj ez0_29
      rw [ez0_29] at hP hD
      obtain ⟨g29, e29, h⟩ := bnd h
      refine x_iast (g := g29) hx hb hK hP hD hS 3 0 rfl rfl e29 dX1_shiftAll_29 (fun H locs hP hD hS => ?_)
      have hP : va_P (dC, dI) vwCl (wFig a0 cy (fs_ys z0_29 g29)) H := hP
      have hD : va_D A (wFig a0 cy (fs_ys z0_29 g29)) := hD
      refine lv_iinc (v := l3_2 + 1) (lv' := [(3, .int (l3_2 + 1)), (0, .ref (a0 0)), (1, .int l1_2), (2, .int l2_2)]) hx hb dX1_shiftAll_30 hl (k := 0) rfl rfl (by decide) rfl (fun ls hl => ?_)
      refine lv_goto (tgt := 2) hx hb dX1_shiftAll_33 (by decide) ?_
      exact ih2 (fs_ys z0_29 g29) (l3_2 + 1) l1_2 l2_2 H locs ls h hP hD hS (lv_sub hl [0, 1, 2, 3] rfl)
  exact hL2 FU f0 0 p1 p2 H locs ls h hP hD hS (lv_sub hl [0, 1, 2, 3] rfl)
